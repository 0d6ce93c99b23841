/-! THE PROGRAM AS FUNCTIONS, 0 (written by a program of the verifier's) -/
section ZDEC
def f2 (n : Nat)  (y0 : Nat) (h : zH) : Option (Unit × zH) :=
  (nA h 1 6000).bind fun h1 =>
  (pF h1 y0 8 0 (.ref h.1.length)).bind fun h3 =>
  (pF h3 y0 8 1 (.int 0)).bind fun h5 =>
  some ((), h5)
set_option maxRecDepth 20000 in
theorem t2 {d n : Nat} {Q : zRs → zH → Prop}  {y0 : Nat} (hd : 0 ≤ d)  {h : zH} {p : (Unit × zH)} (hF : f2 n  y0 h = some p) (q : Q (eV p.1) p.2) : zC d 2 [.ref y0] h Q := by
  refine zC_of (L := [some (.ref y0)]) rfl rfl ?_
  unfold f2 at hF
  refine zx_aload_n rfl rfl rfl ?_
  refine zw_obj rfl rfl rfl (Nat.ble_eq_true_of_le (Nat.le_trans (zcat_le _) (Nat.le_of_ble_eq_true rfl))) ?_
  refine zx_aload_n rfl rfl rfl ?_
  refine zx_sipush (v := 6000) rfl rfl rfl ?_
  replace hF := zbnd hF
  obtain ⟨h1, e2, hF⟩ := hF
  refine zy_newarr rfl rfl rfl e2 ?_
  replace hF := zbnd hF
  obtain ⟨h3, e4, hF⟩ := hF
  refine zy_put rfl rfl e4 ?_
  refine zx_aload_n rfl rfl rfl ?_
  refine zx_iconst (v := 0) rfl rfl rfl ?_
  replace hF := zbnd hF
  obtain ⟨h5, e6, hF⟩ := hF
  refine zy_put rfl rfl e6 ?_
  replace hF := Option.some.inj hF
  subst hF
  exact zx_return rfl rfl rfl q
def b4_5 (n : Nat)  (r5 : Option Nat → Int32 → Int32 → Int32 → zH → Option (Unit × zH)) (l0 : Option Nat) (l1 : Int32) (l2 : Int32) (l3 : Int32) (h : zH) : Option (Unit × zH) :=
  if l3 ≤ l2 then
    some ((), h)
  else
    l0.bind fun a2 =>
    (aS zsI h a2 l2 (.int l1)).bind fun h3 =>
    r5 (some a2) l1 (l2 + 1) l3 h3
set_option maxRecDepth 20000 in
theorem tb4_5 {d n : Nat} {Q : zRs → zH → Prop}  {r5 : Option Nat → Int32 → Int32 → Int32 → zH → Option (Unit × zH)} {l0 : Option Nat} {l1 : Int32} {l2 : Int32} {l3 : Int32}   (hd : 0 ≤ d)  (hr5 : ∀ {l0 : Option Nat} {l1 : Int32} {l2 : Int32} {l3 : Int32}   {h : zH} {p : (Unit × zH)}, r5 l0 l1 l2 l3 h = some p → Q (eV p.1) p.2 → zW d 4 5 [some (va_rf l0), some (.int l1), some (.int l2), some (.int l3)] [] h Q) {h : zH} {p : (Unit × zH)}  (hF : b4_5 n  r5 l0 l1 l2 l3 h = some p) (q : Q (eV p.1) p.2) : zW d 4 5 [some (va_rf l0), some (.int l1), some (.int l2), some (.int l3)] [] h Q := by
  unfold b4_5 at hF
  refine zx_iload_n rfl rfl rfl ?_
  refine zx_iload_n rfl rfl rfl ?_
  refine zx_ic_ge rfl rfl (fun c1 => ?_) (fun c1 => ?_)
  · rw [if_pos c1] at hF
    replace hF := Option.some.inj hF
    subst hF
    exact zx_return rfl rfl rfl q
  · rw [if_neg c1] at hF
    refine zy_rload_n rfl rfl rfl ?_
    refine zx_iload_n rfl rfl rfl ?_
    refine zx_iload_n rfl rfl rfl ?_
    replace hF := zbnd hF
    obtain ⟨a2, rfl, hF⟩ := hF
    replace hF := zbnd hF
    obtain ⟨h3, e4, hF⟩ := hF
    refine zy_sI rfl rfl e4 ?_
    refine zx_iinc (w := 1) rfl rfl rfl rfl rfl ?_
    refine zx_goto rfl rfl ?_
    exact hr5  hF q
def f4_5 (n : Nat)   (k : Nat) : Option Nat → Int32 → Int32 → Int32 → zH → Option (Unit × zH) := Nat.rec (fun _ _ _ _ _ => none) (fun _ ih => b4_5 n  ih) k
theorem tf4_5 {d n : Nat} {Q : zRs → zH → Prop}   (hd : 0 ≤ d)   (k : Nat) : ∀ {l0 : Option Nat} {l1 : Int32} {l2 : Int32} {l3 : Int32}   {h : zH} {p : (Unit × zH)}, f4_5 n   k l0 l1 l2 l3 h = some p → Q (eV p.1) p.2 → zW d 4 5 [some (va_rf l0), some (.int l1), some (.int l2), some (.int l3)] [] h Q := by
  induction k with
  | zero => intros; rename_i hF _; cases hF
  | succ k ih => intros; rename_i  hF q; exact tb4_5 (n := n) hd  ih  hF q
def f4 (n : Nat)  (y0 : Option Nat) (y1 : Int32) (h : zH) : Option (Unit × zH) :=
  y0.bind fun a1 =>
  (aN h a1).bind fun x2 =>
  f4_5 n  n (some a1) y1 0 x2 h
set_option maxRecDepth 20000 in
theorem t4 {d n : Nat} {Q : zRs → zH → Prop}  {y0 : Option Nat} {y1 : Int32} (hd : 0 ≤ d)  {h : zH} {p : (Unit × zH)} (hF : f4 n  y0 y1 h = some p) (q : Q (eV p.1) p.2) : zC d 4 [va_rf y0, .int y1] h Q := by
  refine zC_of (L := [some (va_rf y0), some (.int y1), none, none]) ((zsl_rf _ _).trans (congrArg (List.cons _) rfl)) rfl ?_
  unfold f4 at hF
  refine zx_iconst (v := 0) rfl rfl rfl ?_
  refine zx_istore_n rfl rfl rfl ?_
  refine zy_rload_n rfl rfl rfl ?_
  replace hF := zbnd hF
  obtain ⟨a1, rfl, hF⟩ := hF
  replace hF := zbnd hF
  obtain ⟨x2, e3, hF⟩ := hF
  refine zy_alen rfl rfl e3 ?_
  refine zx_istore_n rfl rfl rfl ?_
  exact tf4_5 hd  n (l0 := (some a1)) (l1 := y1) (l2 := 0) (l3 := x2)  hF q
def f3 (n : Nat)  (y0 : Nat) (h : zH) : Option (Unit × zH) :=
  (nV h 9 8).bind fun h1 =>
  (pF h1 y0 1 0 (.ref h.1.length)).bind fun h3 =>
  (nV h3 9 8).bind fun h5 =>
  (pF h5 y0 1 1 (.ref h3.1.length)).bind fun h7 =>
  (pF h7 y0 1 2 (.int 0)).bind fun h9 =>
  (nA h9 2 12).bind fun h11 =>
  (pF h11 y0 1 3 (.ref h9.1.length)).bind fun h13 =>
  (nA h13 0 24).bind fun h15 =>
  (pF h15 y0 1 4 (.ref h13.1.length)).bind fun h17 =>
  (nA h17 0 5).bind fun h19 =>
  (pF h19 y0 1 5 (.ref h17.1.length)).bind fun h21 =>
  (pF h21 y0 1 6 (.int 0)).bind fun h23 =>
  (gR h23 y0 1 5).bind fun x25 =>
  (f4 n x25 (-1) h23).bind fun p28 =>
  some ((), p28.2)
set_option maxRecDepth 20000 in
theorem t3 {d n : Nat} {Q : zRs → zH → Prop}  {y0 : Nat} (hd : 1 ≤ d)  {h : zH} {p : (Unit × zH)} (hF : f3 n  y0 h = some p) (q : Q (eV p.1) p.2) : zC d 3 [.ref y0] h Q := by
  refine zC_of (L := [some (.ref y0)]) rfl rfl ?_
  unfold f3 at hF
  obtain ⟨d, rfl⟩ : ∃ e, d = e + 1 := ⟨d - 1, by omega⟩
  refine zx_aload_n rfl rfl rfl ?_
  refine zw_obj rfl rfl rfl (Nat.ble_eq_true_of_le (Nat.le_trans (zcat_le _) (Nat.le_of_ble_eq_true rfl))) ?_
  refine zx_aload_n rfl rfl rfl ?_
  refine zx_bipush (v := 8) rfl rfl rfl ?_
  replace hF := zbnd hF
  obtain ⟨h1, e2, hF⟩ := hF
  refine zy_anewarr rfl rfl e2 ?_
  replace hF := zbnd hF
  obtain ⟨h3, e4, hF⟩ := hF
  refine zy_put rfl rfl e4 ?_
  refine zx_aload_n rfl rfl rfl ?_
  refine zx_bipush (v := 8) rfl rfl rfl ?_
  replace hF := zbnd hF
  obtain ⟨h5, e6, hF⟩ := hF
  refine zy_anewarr rfl rfl e6 ?_
  replace hF := zbnd hF
  obtain ⟨h7, e8, hF⟩ := hF
  refine zy_put rfl rfl e8 ?_
  refine zx_aload_n rfl rfl rfl ?_
  refine zx_iconst (v := 0) rfl rfl rfl ?_
  replace hF := zbnd hF
  obtain ⟨h9, e10, hF⟩ := hF
  refine zy_put rfl rfl e10 ?_
  refine zx_aload_n rfl rfl rfl ?_
  refine zx_bipush (v := 12) rfl rfl rfl ?_
  replace hF := zbnd hF
  obtain ⟨h11, e12, hF⟩ := hF
  refine zy_newarr rfl rfl rfl e12 ?_
  replace hF := zbnd hF
  obtain ⟨h13, e14, hF⟩ := hF
  refine zy_put rfl rfl e14 ?_
  refine zx_aload_n rfl rfl rfl ?_
  refine zx_bipush (v := 24) rfl rfl rfl ?_
  replace hF := zbnd hF
  obtain ⟨h15, e16, hF⟩ := hF
  refine zy_newarr rfl rfl rfl e16 ?_
  replace hF := zbnd hF
  obtain ⟨h17, e18, hF⟩ := hF
  refine zy_put rfl rfl e18 ?_
  refine zx_aload_n rfl rfl rfl ?_
  refine zx_iconst (v := 5) rfl rfl rfl ?_
  replace hF := zbnd hF
  obtain ⟨h19, e20, hF⟩ := hF
  refine zy_newarr rfl rfl rfl e20 ?_
  replace hF := zbnd hF
  obtain ⟨h21, e22, hF⟩ := hF
  refine zy_put rfl rfl e22 ?_
  refine zx_aload_n rfl rfl rfl ?_
  refine zx_iconst (v := 0) rfl rfl rfl ?_
  replace hF := zbnd hF
  obtain ⟨h23, e24, hF⟩ := hF
  refine zy_put rfl rfl e24 ?_
  refine zx_aload_n rfl rfl rfl ?_
  replace hF := zbnd hF
  obtain ⟨x25, e26, hF⟩ := hF
  refine zy_getR rfl rfl e26 ?_
  refine zx_iconst (v := (-1)) rfl rfl rfl ?_
  replace hF := zbnd hF
  obtain ⟨p28, e27, hF⟩ := hF
  refine zx_callE rfl rfl rfl rfl rfl ((zsl_rf _ _).trans (congrArg (List.cons _) rfl)) rfl (zc4 (Nat.le_of_ble_eq_true rfl)) (t4 (by omega) e27 (zaV ?_))
  replace hF := Option.some.inj hF
  subst hF
  exact zx_return rfl rfl rfl q
def f8 (n : Nat)  (y0 : Nat) (h : zH) : Option (Unit × zH) :=
  some ((), h)
set_option maxRecDepth 20000 in
theorem t8 {d n : Nat} {Q : zRs → zH → Prop}  {y0 : Nat} (hd : 0 ≤ d)  {h : zH} {p : (Unit × zH)} (hF : f8 n  y0 h = some p) (q : Q (eV p.1) p.2) : zC d 8 [.ref y0] h Q := by
  refine zC_of (L := [some (.ref y0)]) rfl rfl ?_
  unfold f8 at hF
  refine zx_aload_n rfl rfl rfl ?_
  refine zw_obj rfl rfl rfl (Nat.ble_eq_true_of_le (Nat.le_trans (zcat_le _) (Nat.le_of_ble_eq_true rfl))) ?_
  replace hF := Option.some.inj hF
  subst hF
  exact zx_return rfl rfl rfl q
def f7 (n : Nat)  (y0 : Nat) (h : zH) : Option (Unit × zH) :=
  (f8 n y0 h).bind fun p2 =>
  (pF p2.2 y0 14 0 (.int 0)).bind fun h3 =>
  some ((), h3)
set_option maxRecDepth 20000 in
theorem t7 {d n : Nat} {Q : zRs → zH → Prop}  {y0 : Nat} (hd : 1 ≤ d)  {h : zH} {p : (Unit × zH)} (hF : f7 n  y0 h = some p) (q : Q (eV p.1) p.2) : zC d 7 [.ref y0] h Q := by
  refine zC_of (L := [some (.ref y0)]) rfl rfl ?_
  unfold f7 at hF
  obtain ⟨d, rfl⟩ : ∃ e, d = e + 1 := ⟨d - 1, by omega⟩
  refine zx_aload_n rfl rfl rfl ?_
  replace hF := zbnd hF
  obtain ⟨p2, e1, hF⟩ := hF
  refine zx_callF rfl rfl rfl rfl rfl rfl rfl (zc4 (Nat.le_of_ble_eq_true rfl)) (t8 (by omega) e1 (zaV ?_))
  refine zx_aload_n rfl rfl rfl ?_
  refine zx_iconst (v := 0) rfl rfl rfl ?_
  replace hF := zbnd hF
  obtain ⟨h3, e4, hF⟩ := hF
  refine zy_put rfl rfl e4 ?_
  replace hF := Option.some.inj hF
  subst hF
  exact zx_return rfl rfl rfl q
def f6 (n : Nat)  (y0 : Nat) (h : zH) : Option (Unit × zH) :=
  (f7 n y0 h).bind fun p2 =>
  (pF p2.2 y0 14 1 (.ref 48)).bind fun h3 =>
  some ((), h3)
set_option maxRecDepth 20000 in
theorem t6 {d n : Nat} {Q : zRs → zH → Prop}  {y0 : Nat} (hd : 2 ≤ d)  {h : zH} {p : (Unit × zH)} (hF : f6 n  y0 h = some p) (q : Q (eV p.1) p.2) : zC d 6 [.ref y0] h Q := by
  refine zC_of (L := [some (.ref y0)]) rfl rfl ?_
  unfold f6 at hF
  obtain ⟨d, rfl⟩ : ∃ e, d = e + 1 := ⟨d - 1, by omega⟩
  refine zx_aload_n rfl rfl rfl ?_
  replace hF := zbnd hF
  obtain ⟨p2, e1, hF⟩ := hF
  refine zx_callF rfl rfl rfl rfl rfl rfl rfl (zc4 (Nat.le_of_ble_eq_true rfl)) (t7 (by omega) e1 (zaV ?_))
  refine zx_aload_n rfl rfl rfl ?_
  refine zx_gets rfl rfl rfl ?_
  replace hF := zbnd hF
  obtain ⟨h3, e4, hF⟩ := hF
  refine zy_put rfl rfl e4 ?_
  replace hF := Option.some.inj hF
  subst hF
  exact zx_return rfl rfl rfl q
def f5 (n : Nat)  (y0 : Nat) (h : zH) : Option (Unit × zH) :=
  (f6 n h.1.length (nO h 14 3)).bind fun p2 =>
  (pF p2.2 y0 4 0 (.ref h.1.length)).bind fun h3 =>
  (f6 n h3.1.length (nO h3 14 3)).bind fun p6 =>
  (pF p6.2 y0 4 1 (.ref h3.1.length)).bind fun h7 =>
  (f6 n h7.1.length (nO h7 14 3)).bind fun p10 =>
  (pF p10.2 y0 4 2 (.ref h7.1.length)).bind fun h11 =>
  (f6 n h11.1.length (nO h11 14 3)).bind fun p14 =>
  (pF p14.2 y0 4 3 (.ref h11.1.length)).bind fun h15 =>
  (f6 n h15.1.length (nO h15 14 3)).bind fun p18 =>
  (pF p18.2 y0 4 4 (.ref h15.1.length)).bind fun h19 =>
  (f6 n h19.1.length (nO h19 14 3)).bind fun p22 =>
  (pF p22.2 y0 4 5 (.ref h19.1.length)).bind fun h23 =>
  (f6 n h23.1.length (nO h23 14 3)).bind fun p26 =>
  (pF p26.2 y0 4 6 (.ref h23.1.length)).bind fun h27 =>
  (f6 n h27.1.length (nO h27 14 3)).bind fun p30 =>
  (pF p30.2 y0 4 7 (.ref h27.1.length)).bind fun h31 =>
  (pF h31 y0 4 8 (.int 0)).bind fun h33 =>
  (pF h33 y0 4 9 (.int 0)).bind fun h35 =>
  (nA h35 0 24).bind fun h37 =>
  (pF h37 y0 4 10 (.ref h35.1.length)).bind fun h39 =>
  (nA h39 0 24).bind fun h41 =>
  (pF h41 y0 4 11 (.ref h39.1.length)).bind fun h43 =>
  some ((), h43)
set_option maxRecDepth 20000 in
theorem t5 {d n : Nat} {Q : zRs → zH → Prop}  {y0 : Nat} (hd : 3 ≤ d)  {h : zH} {p : (Unit × zH)} (hF : f5 n  y0 h = some p) (q : Q (eV p.1) p.2) : zC d 5 [.ref y0] h Q := by
  refine zC_of (L := [some (.ref y0)]) rfl rfl ?_
  unfold f5 at hF
  obtain ⟨d, rfl⟩ : ∃ e, d = e + 1 := ⟨d - 1, by omega⟩
  refine zx_aload_n rfl rfl rfl ?_
  refine zw_obj rfl rfl rfl (Nat.ble_eq_true_of_le (Nat.le_trans (zcat_le _) (Nat.le_of_ble_eq_true rfl))) ?_
  refine zx_aload_n rfl rfl rfl ?_
  refine zy_new rfl rfl ?_
  refine zx_dup rfl rfl rfl ?_
  replace hF := zbnd hF
  obtain ⟨p2, e1, hF⟩ := hF
  refine zx_callF rfl rfl rfl rfl rfl rfl rfl (zc4 (Nat.le_of_ble_eq_true rfl)) (t6 (by omega) e1 (zaV ?_))
  replace hF := zbnd hF
  obtain ⟨h3, e4, hF⟩ := hF
  refine zy_put rfl rfl e4 ?_
  refine zx_aload_n rfl rfl rfl ?_
  refine zy_new rfl rfl ?_
  refine zx_dup rfl rfl rfl ?_
  replace hF := zbnd hF
  obtain ⟨p6, e5, hF⟩ := hF
  refine zx_callF rfl rfl rfl rfl rfl rfl rfl (zc4 (Nat.le_of_ble_eq_true rfl)) (t6 (by omega) e5 (zaV ?_))
  replace hF := zbnd hF
  obtain ⟨h7, e8, hF⟩ := hF
  refine zy_put rfl rfl e8 ?_
  refine zx_aload_n rfl rfl rfl ?_
  refine zy_new rfl rfl ?_
  refine zx_dup rfl rfl rfl ?_
  replace hF := zbnd hF
  obtain ⟨p10, e9, hF⟩ := hF
  refine zx_callF rfl rfl rfl rfl rfl rfl rfl (zc4 (Nat.le_of_ble_eq_true rfl)) (t6 (by omega) e9 (zaV ?_))
  replace hF := zbnd hF
  obtain ⟨h11, e12, hF⟩ := hF
  refine zy_put rfl rfl e12 ?_
  refine zx_aload_n rfl rfl rfl ?_
  refine zy_new rfl rfl ?_
  refine zx_dup rfl rfl rfl ?_
  replace hF := zbnd hF
  obtain ⟨p14, e13, hF⟩ := hF
  refine zx_callF rfl rfl rfl rfl rfl rfl rfl (zc4 (Nat.le_of_ble_eq_true rfl)) (t6 (by omega) e13 (zaV ?_))
  replace hF := zbnd hF
  obtain ⟨h15, e16, hF⟩ := hF
  refine zy_put rfl rfl e16 ?_
  refine zx_aload_n rfl rfl rfl ?_
  refine zy_new rfl rfl ?_
  refine zx_dup rfl rfl rfl ?_
  replace hF := zbnd hF
  obtain ⟨p18, e17, hF⟩ := hF
  refine zx_callF rfl rfl rfl rfl rfl rfl rfl (zc4 (Nat.le_of_ble_eq_true rfl)) (t6 (by omega) e17 (zaV ?_))
  replace hF := zbnd hF
  obtain ⟨h19, e20, hF⟩ := hF
  refine zy_put rfl rfl e20 ?_
  refine zx_aload_n rfl rfl rfl ?_
  refine zy_new rfl rfl ?_
  refine zx_dup rfl rfl rfl ?_
  replace hF := zbnd hF
  obtain ⟨p22, e21, hF⟩ := hF
  refine zx_callF rfl rfl rfl rfl rfl rfl rfl (zc4 (Nat.le_of_ble_eq_true rfl)) (t6 (by omega) e21 (zaV ?_))
  replace hF := zbnd hF
  obtain ⟨h23, e24, hF⟩ := hF
  refine zy_put rfl rfl e24 ?_
  refine zx_aload_n rfl rfl rfl ?_
  refine zy_new rfl rfl ?_
  refine zx_dup rfl rfl rfl ?_
  replace hF := zbnd hF
  obtain ⟨p26, e25, hF⟩ := hF
  refine zx_callF rfl rfl rfl rfl rfl rfl rfl (zc4 (Nat.le_of_ble_eq_true rfl)) (t6 (by omega) e25 (zaV ?_))
  replace hF := zbnd hF
  obtain ⟨h27, e28, hF⟩ := hF
  refine zy_put rfl rfl e28 ?_
  refine zx_aload_n rfl rfl rfl ?_
  refine zy_new rfl rfl ?_
  refine zx_dup rfl rfl rfl ?_
  replace hF := zbnd hF
  obtain ⟨p30, e29, hF⟩ := hF
  refine zx_callF rfl rfl rfl rfl rfl rfl rfl (zc4 (Nat.le_of_ble_eq_true rfl)) (t6 (by omega) e29 (zaV ?_))
  replace hF := zbnd hF
  obtain ⟨h31, e32, hF⟩ := hF
  refine zy_put rfl rfl e32 ?_
  refine zx_aload_n rfl rfl rfl ?_
  refine zx_iconst (v := 0) rfl rfl rfl ?_
  replace hF := zbnd hF
  obtain ⟨h33, e34, hF⟩ := hF
  refine zy_put rfl rfl e34 ?_
  refine zx_aload_n rfl rfl rfl ?_
  refine zx_iconst (v := 0) rfl rfl rfl ?_
  replace hF := zbnd hF
  obtain ⟨h35, e36, hF⟩ := hF
  refine zy_put rfl rfl e36 ?_
  refine zx_aload_n rfl rfl rfl ?_
  refine zx_bipush (v := 24) rfl rfl rfl ?_
  replace hF := zbnd hF
  obtain ⟨h37, e38, hF⟩ := hF
  refine zy_newarr rfl rfl rfl e38 ?_
  replace hF := zbnd hF
  obtain ⟨h39, e40, hF⟩ := hF
  refine zy_put rfl rfl e40 ?_
  refine zx_aload_n rfl rfl rfl ?_
  refine zx_bipush (v := 24) rfl rfl rfl ?_
  replace hF := zbnd hF
  obtain ⟨h41, e42, hF⟩ := hF
  refine zy_newarr rfl rfl rfl e42 ?_
  replace hF := zbnd hF
  obtain ⟨h43, e44, hF⟩ := hF
  refine zy_put rfl rfl e44 ?_
  replace hF := Option.some.inj hF
  subst hF
  exact zx_return rfl rfl rfl q
def f1 (n : Nat)  (y0 : Nat) (h : zH) : Option (Unit × zH) :=
  (f2 n h.1.length (nO h 8 2)).bind fun p2 =>
  (pF p2.2 y0 10 0 (.ref h.1.length)).bind fun h3 =>
  (f3 n h3.1.length (nO h3 1 7)).bind fun p6 =>
  (pF p6.2 y0 10 1 (.ref h3.1.length)).bind fun h7 =>
  (f5 n h7.1.length (nO h7 4 12)).bind fun p10 =>
  (pF p10.2 y0 10 2 (.ref h7.1.length)).bind fun h11 =>
  (pF h11 y0 10 3 (.int 0)).bind fun h13 =>
  some ((), h13)
set_option maxRecDepth 20000 in
theorem t1 {d n : Nat} {Q : zRs → zH → Prop}  {y0 : Nat} (hd : 4 ≤ d)  {h : zH} {p : (Unit × zH)} (hF : f1 n  y0 h = some p) (q : Q (eV p.1) p.2) : zC d 1 [.ref y0] h Q := by
  refine zC_of (L := [some (.ref y0)]) rfl rfl ?_
  unfold f1 at hF
  obtain ⟨d, rfl⟩ : ∃ e, d = e + 1 := ⟨d - 1, by omega⟩
  refine zx_aload_n rfl rfl rfl ?_
  refine zw_obj rfl rfl rfl (Nat.ble_eq_true_of_le (Nat.le_trans (zcat_le _) (Nat.le_of_ble_eq_true rfl))) ?_
  refine zx_aload_n rfl rfl rfl ?_
  refine zy_new rfl rfl ?_
  refine zx_dup rfl rfl rfl ?_
  replace hF := zbnd hF
  obtain ⟨p2, e1, hF⟩ := hF
  refine zx_callF rfl rfl rfl rfl rfl rfl rfl (zc4 (Nat.le_of_ble_eq_true rfl)) (t2 (by omega) e1 (zaV ?_))
  replace hF := zbnd hF
  obtain ⟨h3, e4, hF⟩ := hF
  refine zy_put rfl rfl e4 ?_
  refine zx_aload_n rfl rfl rfl ?_
  refine zy_new rfl rfl ?_
  refine zx_dup rfl rfl rfl ?_
  replace hF := zbnd hF
  obtain ⟨p6, e5, hF⟩ := hF
  refine zx_callF rfl rfl rfl rfl rfl rfl rfl (zc4 (Nat.le_of_ble_eq_true rfl)) (t3 (by omega) e5 (zaV ?_))
  replace hF := zbnd hF
  obtain ⟨h7, e8, hF⟩ := hF
  refine zy_put rfl rfl e8 ?_
  refine zx_aload_n rfl rfl rfl ?_
  refine zy_new rfl rfl ?_
  refine zx_dup rfl rfl rfl ?_
  replace hF := zbnd hF
  obtain ⟨p10, e9, hF⟩ := hF
  refine zx_callF rfl rfl rfl rfl rfl rfl rfl (zc4 (Nat.le_of_ble_eq_true rfl)) (t5 (by omega) e9 (zaV ?_))
  replace hF := zbnd hF
  obtain ⟨h11, e12, hF⟩ := hF
  refine zy_put rfl rfl e12 ?_
  refine zx_aload_n rfl rfl rfl ?_
  refine zx_iconst (v := 0) rfl rfl rfl ?_
  replace hF := zbnd hF
  obtain ⟨h13, e14, hF⟩ := hF
  refine zy_put rfl rfl e14 ?_
  replace hF := Option.some.inj hF
  subst hF
  exact zx_return rfl rfl rfl q
def f13 (n : Nat)  (y0 : Int32) (y1 : Int32) (h : zH) : Option (Int32 × zH) :=
  if y0 < 0 then
    some (0, h)
  else
    if y1 ≤ y0 then
      some (0, h)
    else
      some (1, h)
set_option maxRecDepth 20000 in
theorem t13 {d n : Nat} {Q : zRs → zH → Prop}  {y0 : Int32} {y1 : Int32} (hd : 0 ≤ d)  {h : zH} {p : (Int32 × zH)} (hF : f13 n  y0 y1 h = some p) (q : Q (eI p.1) p.2) : zC d 13 [.int y0, .int y1] h Q := by
  refine zC_of (L := [some (.int y0), some (.int y1)]) rfl rfl ?_
  unfold f13 at hF
  refine zx_iload_n rfl rfl rfl ?_
  refine zx_if_lt rfl rfl (fun c1 => ?_) (fun c1 => ?_)
  · rw [if_pos c1] at hF
    refine zx_iconst (v := 0) rfl rfl rfl ?_
    replace hF := Option.some.inj hF
    subst hF
    exact zx_bret rfl rfl rfl rfl q
  · rw [if_neg c1] at hF
    refine zx_iload_n rfl rfl rfl ?_
    refine zx_iload_n rfl rfl rfl ?_
    refine zx_ic_ge rfl rfl (fun c2 => ?_) (fun c2 => ?_)
    · rw [if_pos c2] at hF
      refine zx_iconst (v := 0) rfl rfl rfl ?_
      replace hF := Option.some.inj hF
      subst hF
      exact zx_bret rfl rfl rfl rfl q
    · rw [if_neg c2] at hF
      refine zx_iconst (v := 1) rfl rfl rfl ?_
      refine zx_goto rfl rfl ?_
      replace hF := Option.some.inj hF
      subst hF
      exact zx_bret rfl rfl rfl rfl q
def f12 (n : Nat)  (y0 : Nat) (y1 : Int32) (h : zH) : Option (Int32 × zH) :=
  (gI h y0 8 1).bind fun x1 =>
  (f13 n y1 x1 h).bind fun p4 =>
  if p4.1 = 0 then
    some ((-1), p4.2)
  else
    (gR p4.2 y0 8 0).bind fun x6 =>
    x6.bind fun a8 =>
    (aN p4.2 a8).bind fun x9 =>
    if x9 ≤ y1 then
      some ((-1), p4.2)
    else
      (gR p4.2 y0 8 0).bind fun x12 =>
      x12.bind fun a14 =>
      (aB p4.2 a14 y1).bind fun x15 =>
      some ((x15 &&& 255), p4.2)
set_option maxRecDepth 20000 in
theorem t12 {d n : Nat} {Q : zRs → zH → Prop}  {y0 : Nat} {y1 : Int32} (hd : 1 ≤ d)  {h : zH} {p : (Int32 × zH)} (hF : f12 n  y0 y1 h = some p) (q : Q (eI p.1) p.2) : zC d 12 [.ref y0, .int y1] h Q := by
  refine zC_of (L := [some (.ref y0), some (.int y1)]) rfl rfl ?_
  unfold f12 at hF
  obtain ⟨d, rfl⟩ : ∃ e, d = e + 1 := ⟨d - 1, by omega⟩
  refine zx_iload_n rfl rfl rfl ?_
  refine zx_aload_n rfl rfl rfl ?_
  replace hF := zbnd hF
  obtain ⟨x1, e2, hF⟩ := hF
  refine zy_getI rfl rfl e2 ?_
  replace hF := zbnd hF
  obtain ⟨p4, e3, hF⟩ := hF
  refine zx_callF rfl rfl rfl rfl rfl rfl rfl (zc4 (Nat.le_of_ble_eq_true rfl)) (t13 (by omega) e3 (zaI ?_))
  refine zx_if_eq rfl rfl (fun c5 => ?_) (fun c5 => ?_)
  · rw [if_pos c5] at hF
    refine zx_iconst (v := (-1)) rfl rfl rfl ?_
    replace hF := Option.some.inj hF
    subst hF
    exact zx_bret rfl rfl rfl rfl q
  · rw [if_neg c5] at hF
    refine zx_iload_n rfl rfl rfl ?_
    refine zx_aload_n rfl rfl rfl ?_
    replace hF := zbnd hF
    obtain ⟨x6, e7, hF⟩ := hF
    refine zy_getR rfl rfl e7 ?_
    replace hF := zbnd hF
    obtain ⟨a8, rfl, hF⟩ := hF
    replace hF := zbnd hF
    obtain ⟨x9, e10, hF⟩ := hF
    refine zy_alen rfl rfl e10 ?_
    refine zx_ic_ge rfl rfl (fun c11 => ?_) (fun c11 => ?_)
    · rw [if_pos c11] at hF
      refine zx_iconst (v := (-1)) rfl rfl rfl ?_
      replace hF := Option.some.inj hF
      subst hF
      exact zx_bret rfl rfl rfl rfl q
    · rw [if_neg c11] at hF
      refine zx_aload_n rfl rfl rfl ?_
      replace hF := zbnd hF
      obtain ⟨x12, e13, hF⟩ := hF
      refine zy_getR rfl rfl e13 ?_
      refine zx_iload_n rfl rfl rfl ?_
      replace hF := zbnd hF
      obtain ⟨a14, rfl, hF⟩ := hF
      replace hF := zbnd hF
      obtain ⟨x15, e16, hF⟩ := hF
      refine zy_aB rfl rfl e16 ?_
      refine zx_sipush (v := 255) rfl rfl rfl ?_
      refine zx_iand rfl rfl ?_
      refine zx_goto rfl rfl ?_
      replace hF := Option.some.inj hF
      subst hF
      exact zx_bret rfl rfl rfl rfl q
def f14 (n : Nat)  (y0 : Int32) (h : zH) : Option (Int32 × zH) :=
  if y0 = 9 then
    some (1, h)
  else
    if y0 = 10 then
      some (1, h)
    else
      if y0 = 13 then
        some (1, h)
      else
        if y0 = 32 then
          some (1, h)
        else
          some (0, h)
set_option maxRecDepth 20000 in
theorem t14 {d n : Nat} {Q : zRs → zH → Prop}  {y0 : Int32} (hd : 0 ≤ d)  {h : zH} {p : (Int32 × zH)} (hF : f14 n  y0 h = some p) (q : Q (eI p.1) p.2) : zC d 14 [.int y0] h Q := by
  refine zC_of (L := [some (.int y0)]) rfl rfl ?_
  unfold f14 at hF
  refine zx_iload_n rfl rfl rfl ?_
  refine zx_bipush (v := 9) rfl rfl rfl ?_
  refine zx_ic_eq rfl rfl (fun c1 => ?_) (fun c1 => ?_)
  · rw [if_pos c1] at hF
    refine zx_iconst (v := 1) rfl rfl rfl ?_
    refine zx_goto rfl rfl ?_
    replace hF := Option.some.inj hF
    subst hF
    exact zx_bret rfl rfl rfl rfl q
  · rw [if_neg c1] at hF
    refine zx_iload_n rfl rfl rfl ?_
    refine zx_bipush (v := 10) rfl rfl rfl ?_
    refine zx_ic_eq rfl rfl (fun c2 => ?_) (fun c2 => ?_)
    · rw [if_pos c2] at hF
      refine zx_iconst (v := 1) rfl rfl rfl ?_
      refine zx_goto rfl rfl ?_
      replace hF := Option.some.inj hF
      subst hF
      exact zx_bret rfl rfl rfl rfl q
    · rw [if_neg c2] at hF
      refine zx_iload_n rfl rfl rfl ?_
      refine zx_bipush (v := 13) rfl rfl rfl ?_
      refine zx_ic_eq rfl rfl (fun c3 => ?_) (fun c3 => ?_)
      · rw [if_pos c3] at hF
        refine zx_iconst (v := 1) rfl rfl rfl ?_
        refine zx_goto rfl rfl ?_
        replace hF := Option.some.inj hF
        subst hF
        exact zx_bret rfl rfl rfl rfl q
      · rw [if_neg c3] at hF
        refine zx_iload_n rfl rfl rfl ?_
        refine zx_bipush (v := 32) rfl rfl rfl ?_
        refine zx_ic_ne rfl rfl (fun c4 => ?_) (fun c4 => ?_)
        · rw [if_neg c4] at hF
          refine zx_iconst (v := 0) rfl rfl rfl ?_
          replace hF := Option.some.inj hF
          subst hF
          exact zx_bret rfl rfl rfl rfl q
        · rw [if_pos c4] at hF
          refine zx_iconst (v := 1) rfl rfl rfl ?_
          refine zx_goto rfl rfl ?_
          replace hF := Option.some.inj hF
          subst hF
          exact zx_bret rfl rfl rfl rfl q
def f15 (n : Nat)  (y0 : Nat) (y1 : Option Nat) (y2 : Int32) (y3 : Int32) (y4 : Option Nat) (y5 : Int32) (h : zH) : Option (Unit × zH) :=
  (pF h y0 9 5 (.null)).bind fun h1 =>
  (pF h1 y0 9 0 (va_rf y1)).bind fun h3 =>
  (pF h3 y0 9 1 (.int y2)).bind fun h5 =>
  (pF h5 y0 9 2 (.int y3)).bind fun h7 =>
  (pF h7 y0 9 3 (va_rf y4)).bind fun h9 =>
  (pF h9 y0 9 4 (.int y5)).bind fun h11 =>
  some ((), h11)
set_option maxRecDepth 20000 in
theorem t15 {d n : Nat} {Q : zRs → zH → Prop}  {y0 : Nat} {y1 : Option Nat} {y2 : Int32} {y3 : Int32} {y4 : Option Nat} {y5 : Int32} (hd : 0 ≤ d)  {h : zH} {p : (Unit × zH)} (hF : f15 n  y0 y1 y2 y3 y4 y5 h = some p) (q : Q (eV p.1) p.2) : zC d 15 [.ref y0, va_rf y1, .int y2, .int y3, va_rf y4, .int y5] h Q := by
  refine zC_of (L := [some (.ref y0), some (va_rf y1), some (.int y2), some (.int y3), some (va_rf y4), some (.int y5)]) (congrArg (List.cons _) ((zsl_rf _ _).trans (congrArg (List.cons _) (congrArg (List.cons _) (congrArg (List.cons _) ((zsl_rf _ _).trans (congrArg (List.cons _) rfl))))))) rfl ?_
  unfold f15 at hF
  refine zx_aload_n rfl rfl rfl ?_
  refine zw_obj rfl rfl rfl (Nat.ble_eq_true_of_le (Nat.le_trans (zcat_le _) (Nat.le_of_ble_eq_true rfl))) ?_
  refine zx_aload_n rfl rfl rfl ?_
  refine zx_null rfl rfl ?_
  replace hF := zbnd hF
  obtain ⟨h1, e2, hF⟩ := hF
  refine zy_put rfl rfl e2 ?_
  refine zx_aload_n rfl rfl rfl ?_
  refine zy_rload_n rfl rfl rfl ?_
  replace hF := zbnd hF
  obtain ⟨h3, e4, hF⟩ := hF
  refine zy_put rfl rfl e4 ?_
  refine zx_aload_n rfl rfl rfl ?_
  refine zx_iload_n rfl rfl rfl ?_
  replace hF := zbnd hF
  obtain ⟨h5, e6, hF⟩ := hF
  refine zy_put rfl rfl e6 ?_
  refine zx_aload_n rfl rfl rfl ?_
  refine zx_iload_n rfl rfl rfl ?_
  replace hF := zbnd hF
  obtain ⟨h7, e8, hF⟩ := hF
  refine zy_put rfl rfl e8 ?_
  refine zx_aload_n rfl rfl rfl ?_
  refine zy_rload rfl rfl rfl ?_
  replace hF := zbnd hF
  obtain ⟨h9, e10, hF⟩ := hF
  refine zy_put rfl rfl e10 ?_
  refine zx_aload_n rfl rfl rfl ?_
  refine zx_iload rfl rfl rfl ?_
  replace hF := zbnd hF
  obtain ⟨h11, e12, hF⟩ := hF
  refine zy_put rfl rfl e12 ?_
  replace hF := Option.some.inj hF
  subst hF
  exact zx_return rfl rfl rfl q
def b16_12 (n : Nat)   (l0 : Int32) (h : zH) : Option (Int32 × zH) :=
  if l0 < 65 then
    some (0, h)
  else
    if (90 : Int32) < l0 then
      some (0, h)
    else
      some (1, h)
set_option maxRecDepth 20000 in
theorem tb16_12 {d n : Nat} {Q : zRs → zH → Prop}   {l0 : Int32}   (hd : 0 ≤ d)   {h : zH} {p : (Int32 × zH)}  (hF : b16_12 n   l0 h = some p) (q : Q (eI p.1) p.2) : zW d 16 12 [some (.int l0)] [] h Q := by
  unfold b16_12 at hF
  refine zx_iload_n rfl rfl rfl ?_
  refine zx_bipush (v := 65) rfl rfl rfl ?_
  refine zx_ic_lt rfl rfl (fun c1 => ?_) (fun c1 => ?_)
  · rw [if_pos c1] at hF
    refine zx_iconst (v := 0) rfl rfl rfl ?_
    replace hF := Option.some.inj hF
    subst hF
    exact zx_bret rfl rfl rfl rfl q
  · rw [if_neg c1] at hF
    refine zx_iload_n rfl rfl rfl ?_
    refine zx_bipush (v := 90) rfl rfl rfl ?_
    refine zx_ic_gt rfl rfl (fun c2 => ?_) (fun c2 => ?_)
    · rw [if_pos c2] at hF
      refine zx_iconst (v := 0) rfl rfl rfl ?_
      replace hF := Option.some.inj hF
      subst hF
      exact zx_bret rfl rfl rfl rfl q
    · rw [if_neg c2] at hF
      refine zx_iconst (v := 1) rfl rfl rfl ?_
      refine zx_goto rfl rfl ?_
      replace hF := Option.some.inj hF
      subst hF
      exact zx_bret rfl rfl rfl rfl q
def f16 (n : Nat)  (y0 : Int32) (h : zH) : Option (Int32 × zH) :=
  if y0 < 97 then
    b16_12 n  y0 h
  else
    if y0 ≤ 122 then
      some (1, h)
    else
      b16_12 n  y0 h
set_option maxRecDepth 20000 in
theorem t16 {d n : Nat} {Q : zRs → zH → Prop}  {y0 : Int32} (hd : 0 ≤ d)  {h : zH} {p : (Int32 × zH)} (hF : f16 n  y0 h = some p) (q : Q (eI p.1) p.2) : zC d 16 [.int y0] h Q := by
  refine zC_of (L := [some (.int y0)]) rfl rfl ?_
  unfold f16 at hF
  refine zx_iload_n rfl rfl rfl ?_
  refine zx_bipush (v := 97) rfl rfl rfl ?_
  refine zx_ic_lt rfl rfl (fun c1 => ?_) (fun c1 => ?_)
  · rw [if_pos c1] at hF
    exact tb16_12 (l0 := y0) hd   hF q
  · rw [if_neg c1] at hF
    refine zx_iload_n rfl rfl rfl ?_
    refine zx_bipush (v := 122) rfl rfl rfl ?_
    refine zx_ic_le rfl rfl (fun c2 => ?_) (fun c2 => ?_)
    · rw [if_pos c2] at hF
      refine zx_iconst (v := 1) rfl rfl rfl ?_
      refine zx_goto rfl rfl ?_
      replace hF := Option.some.inj hF
      subst hF
      exact zx_bret rfl rfl rfl rfl q
    · rw [if_neg c2] at hF
      exact tb16_12 (l0 := y0) hd   hF q
def f19 (n : Nat)  (y0 : Int32) (h : zH) : Option (Int32 × zH) :=
  if y0 < 48 then
    some (0, h)
  else
    if (57 : Int32) < y0 then
      some (0, h)
    else
      some (1, h)
set_option maxRecDepth 20000 in
theorem t19 {d n : Nat} {Q : zRs → zH → Prop}  {y0 : Int32} (hd : 0 ≤ d)  {h : zH} {p : (Int32 × zH)} (hF : f19 n  y0 h = some p) (q : Q (eI p.1) p.2) : zC d 19 [.int y0] h Q := by
  refine zC_of (L := [some (.int y0)]) rfl rfl ?_
  unfold f19 at hF
  refine zx_iload_n rfl rfl rfl ?_
  refine zx_bipush (v := 48) rfl rfl rfl ?_
  refine zx_ic_lt rfl rfl (fun c1 => ?_) (fun c1 => ?_)
  · rw [if_pos c1] at hF
    refine zx_iconst (v := 0) rfl rfl rfl ?_
    replace hF := Option.some.inj hF
    subst hF
    exact zx_bret rfl rfl rfl rfl q
  · rw [if_neg c1] at hF
    refine zx_iload_n rfl rfl rfl ?_
    refine zx_bipush (v := 57) rfl rfl rfl ?_
    refine zx_ic_gt rfl rfl (fun c2 => ?_) (fun c2 => ?_)
    · rw [if_pos c2] at hF
      refine zx_iconst (v := 0) rfl rfl rfl ?_
      replace hF := Option.some.inj hF
      subst hF
      exact zx_bret rfl rfl rfl rfl q
    · rw [if_neg c2] at hF
      refine zx_iconst (v := 1) rfl rfl rfl ?_
      refine zx_goto rfl rfl ?_
      replace hF := Option.some.inj hF
      subst hF
      exact zx_bret rfl rfl rfl rfl q
def f18 (n : Nat)  (y0 : Int32) (h : zH) : Option (Int32 × zH) :=
  (f16 n y0 h).bind fun p2 =>
  if p2.1 = 0 then
    (f19 n y0 p2.2).bind fun p5 =>
    if p5.1 = 0 then
      if y0 = 95 then
        some (1, p5.2)
      else
        some (0, p5.2)
    else
      some (1, p5.2)
  else
    some (1, p2.2)
set_option maxRecDepth 20000 in
theorem t18 {d n : Nat} {Q : zRs → zH → Prop}  {y0 : Int32} (hd : 1 ≤ d)  {h : zH} {p : (Int32 × zH)} (hF : f18 n  y0 h = some p) (q : Q (eI p.1) p.2) : zC d 18 [.int y0] h Q := by
  refine zC_of (L := [some (.int y0)]) rfl rfl ?_
  unfold f18 at hF
  obtain ⟨d, rfl⟩ : ∃ e, d = e + 1 := ⟨d - 1, by omega⟩
  refine zx_iload_n rfl rfl rfl ?_
  replace hF := zbnd hF
  obtain ⟨p2, e1, hF⟩ := hF
  refine zx_callE rfl rfl rfl rfl rfl rfl rfl (zc4 (Nat.le_of_ble_eq_true rfl)) (t16 (by omega) e1 (zaI ?_))
  refine zx_if_ne rfl rfl (fun c3 => ?_) (fun c3 => ?_)
  · rw [if_neg c3] at hF
    refine zx_iconst (v := 1) rfl rfl rfl ?_
    refine zx_goto rfl rfl ?_
    replace hF := Option.some.inj hF
    subst hF
    exact zx_bret rfl rfl rfl rfl q
  · rw [if_pos c3] at hF
    refine zx_iload_n rfl rfl rfl ?_
    replace hF := zbnd hF
    obtain ⟨p5, e4, hF⟩ := hF
    refine zx_callE rfl rfl rfl rfl rfl rfl rfl (zc4 (Nat.le_of_ble_eq_true rfl)) (t19 (by omega) e4 (zaI ?_))
    refine zx_if_ne rfl rfl (fun c6 => ?_) (fun c6 => ?_)
    · rw [if_neg c6] at hF
      refine zx_iconst (v := 1) rfl rfl rfl ?_
      refine zx_goto rfl rfl ?_
      replace hF := Option.some.inj hF
      subst hF
      exact zx_bret rfl rfl rfl rfl q
    · rw [if_pos c6] at hF
      refine zx_iload_n rfl rfl rfl ?_
      refine zx_bipush (v := 95) rfl rfl rfl ?_
      refine zx_ic_ne rfl rfl (fun c7 => ?_) (fun c7 => ?_)
      · rw [if_neg c7] at hF
        refine zx_iconst (v := 0) rfl rfl rfl ?_
        replace hF := Option.some.inj hF
        subst hF
        exact zx_bret rfl rfl rfl rfl q
      · rw [if_pos c7] at hF
        refine zx_iconst (v := 1) rfl rfl rfl ?_
        refine zx_goto rfl rfl ?_
        replace hF := Option.some.inj hF
        subst hF
        exact zx_bret rfl rfl rfl rfl q
def f20 (n : Nat)  (y0 : Nat) (y1 : Int32) (h : zH) : Option (Option Nat × zH) :=
  (f15 n h.1.length (some 2) y1 y1 (some 49) 0 (nO h 9 6)).bind fun p2 =>
  some ((some h.1.length), p2.2)
set_option maxRecDepth 20000 in
theorem t20 {d n : Nat} {Q : zRs → zH → Prop}  {y0 : Nat} {y1 : Int32} (hd : 1 ≤ d)  {h : zH} {p : (Option Nat × zH)} (hF : f20 n  y0 y1 h = some p) (q : Q (eA p.1) p.2) : zC d 20 [.ref y0, .int y1] h Q := by
  refine zC_of (L := [some (.ref y0), some (.int y1)]) rfl rfl ?_
  unfold f20 at hF
  obtain ⟨d, rfl⟩ : ∃ e, d = e + 1 := ⟨d - 1, by omega⟩
  refine zy_new rfl rfl ?_
  refine zx_dup rfl rfl rfl ?_
  refine zx_gets rfl rfl rfl ?_
  refine zx_iload_n rfl rfl rfl ?_
  refine zx_iload_n rfl rfl rfl ?_
  refine zx_ldc rfl rfl rfl ?_
  refine zx_iconst (v := 0) rfl rfl rfl ?_
  replace hF := zbnd hF
  obtain ⟨p2, e1, hF⟩ := hF
  refine zx_callF rfl rfl rfl rfl rfl rfl rfl (zc4 (Nat.le_of_ble_eq_true rfl)) (t15 (by omega) e1 (zaV ?_))
  replace hF := Option.some.inj hF
  subst hF
  exact zy_areturn (r := (some h.1.length)) rfl rfl rfl rfl q
def f22 (n : Nat)  (y0 : Int32) (y1 : Int32) (h : zH) : Option (Int32 × zH) :=
  if y0 < y1 then
    some (y1, h)
  else
    some (y0, h)
set_option maxRecDepth 20000 in
theorem t22 {d n : Nat} {Q : zRs → zH → Prop}  {y0 : Int32} {y1 : Int32} (hd : 0 ≤ d)  {h : zH} {p : (Int32 × zH)} (hF : f22 n  y0 y1 h = some p) (q : Q (eI p.1) p.2) : zC d 22 [.int y0, .int y1] h Q := by
  refine zC_of (L := [some (.int y0), some (.int y1)]) rfl rfl ?_
  unfold f22 at hF
  refine zx_iload_n rfl rfl rfl ?_
  refine zx_iload_n rfl rfl rfl ?_
  refine zx_ic_lt rfl rfl (fun c1 => ?_) (fun c1 => ?_)
  · rw [if_pos c1] at hF
    refine zx_iload_n rfl rfl rfl ?_
    replace hF := Option.some.inj hF
    subst hF
    exact zx_bret rfl rfl rfl rfl q
  · rw [if_neg c1] at hF
    refine zx_iload_n rfl rfl rfl ?_
    refine zx_goto rfl rfl ?_
    replace hF := Option.some.inj hF
    subst hF
    exact zx_bret rfl rfl rfl rfl q
def b26_3 (n : Nat)  (r3 : Option Nat → Int32 → Option Nat → Int32 → Int32 → Int32 → zH → Option (Int32 × zH)) (l0 : Option Nat) (l1 : Int32) (l2 : Option Nat) (l3 : Int32) (l4 : Int32) (l5 : Int32) (h : zH) : Option (Int32 × zH) :=
  if l4 ≤ l5 then
    some (l4, h)
  else
    l0.bind fun a2 =>
    (aC h a2 l1).bind fun x3 =>
    if x3 ≤ 255 then
      l2.bind fun a6 =>
      (aS zsB h a6 l3 (.int x3.toInt8.toInt32)).bind fun h7 =>
      r3 (some a2) (l1 + 1) (some a6) (l3 + 1) l4 (l5 + 1) h7
    else
      some (l5, h)
set_option maxRecDepth 20000 in
theorem tb26_3 {d n : Nat} {Q : zRs → zH → Prop}  {r3 : Option Nat → Int32 → Option Nat → Int32 → Int32 → Int32 → zH → Option (Int32 × zH)} {l0 : Option Nat} {l1 : Int32} {l2 : Option Nat} {l3 : Int32} {l4 : Int32} {l5 : Int32}  {x6 : Option Value} (hd : 0 ≤ d)  (hr3 : ∀ {l0 : Option Nat} {l1 : Int32} {l2 : Option Nat} {l3 : Int32} {l4 : Int32} {l5 : Int32}  {x6 : Option Value} {h : zH} {p : (Int32 × zH)}, zn2 x6 = true → r3 l0 l1 l2 l3 l4 l5 h = some p → Q (eI p.1) p.2 → zW d 26 3 [some (va_rf l0), some (.int l1), some (va_rf l2), some (.int l3), some (.int l4), some (.int l5), x6] [] h Q) {h : zH} {p : (Int32 × zH)} (hx6 : zn2 x6 = true) (hF : b26_3 n  r3 l0 l1 l2 l3 l4 l5 h = some p) (q : Q (eI p.1) p.2) : zW d 26 3 [some (va_rf l0), some (.int l1), some (va_rf l2), some (.int l3), some (.int l4), some (.int l5), x6] [] h Q := by
  unfold b26_3 at hF
  refine zx_iload rfl rfl rfl ?_
  refine zx_iload rfl rfl rfl ?_
  refine zx_ic_ge rfl rfl (fun c1 => ?_) (fun c1 => ?_)
  · rw [if_pos c1] at hF
    refine zx_iload rfl rfl rfl ?_
    replace hF := Option.some.inj hF
    subst hF
    exact zx_bret rfl rfl rfl rfl q
  · rw [if_neg c1] at hF
    refine zy_rload_n rfl rfl rfl ?_
    refine zx_iload_n rfl rfl rfl ?_
    replace hF := zbnd hF
    obtain ⟨a2, rfl, hF⟩ := hF
    replace hF := zbnd hF
    obtain ⟨x3, e4, hF⟩ := hF
    refine zy_aC rfl rfl e4 ?_
    refine zx_istore rfl rfl rfl ?_
    refine zx_iload rfl rfl rfl ?_
    refine zx_sipush (v := 255) rfl rfl rfl ?_
    refine zx_ic_le rfl rfl (fun c5 => ?_) (fun c5 => ?_)
    · rw [if_pos c5] at hF
      refine zy_rload_n rfl rfl rfl ?_
      refine zx_iload_n rfl rfl rfl ?_
      refine zx_iload rfl rfl rfl ?_
      refine zx_i2b rfl rfl ?_
      replace hF := zbnd hF
      obtain ⟨a6, rfl, hF⟩ := hF
      replace hF := zbnd hF
      obtain ⟨h7, e8, hF⟩ := hF
      refine zy_sB rfl rfl e8 ?_
      refine zx_iinc (w := 1) rfl rfl rfl rfl rfl ?_
      refine zx_iinc (w := 1) rfl rfl rfl rfl rfl ?_
      refine zx_iinc (w := 1) rfl rfl rfl rfl rfl ?_
      refine zx_goto rfl rfl ?_
      exact hr3 rfl hF q
    · rw [if_neg c5] at hF
      refine zx_iload rfl rfl rfl ?_
      replace hF := Option.some.inj hF
      subst hF
      exact zx_bret rfl rfl rfl rfl q
def f26_3 (n : Nat)   (k : Nat) : Option Nat → Int32 → Option Nat → Int32 → Int32 → Int32 → zH → Option (Int32 × zH) := Nat.rec (fun _ _ _ _ _ _ _ => none) (fun _ ih => b26_3 n  ih) k
theorem tf26_3 {d n : Nat} {Q : zRs → zH → Prop}   (hd : 0 ≤ d)   (k : Nat) : ∀ {l0 : Option Nat} {l1 : Int32} {l2 : Option Nat} {l3 : Int32} {l4 : Int32} {l5 : Int32}  {x6 : Option Value} {h : zH} {p : (Int32 × zH)}, zn2 x6 = true → f26_3 n   k l0 l1 l2 l3 l4 l5 h = some p → Q (eI p.1) p.2 → zW d 26 3 [some (va_rf l0), some (.int l1), some (va_rf l2), some (.int l3), some (.int l4), some (.int l5), x6] [] h Q := by
  induction k with
  | zero => intros; rename_i hF _; cases hF
  | succ k ih => intros; rename_i hx6 hF q; exact tb26_3 (n := n) hd  ih hx6 hF q
def f26 (n : Nat)  (y0 : Option Nat) (y1 : Int32) (y2 : Option Nat) (y3 : Int32) (y4 : Int32) (h : zH) : Option (Int32 × zH) :=
  f26_3 n  n y0 y1 y2 y3 y4 0 h
set_option maxRecDepth 20000 in
theorem t26 {d n : Nat} {Q : zRs → zH → Prop}  {y0 : Option Nat} {y1 : Int32} {y2 : Option Nat} {y3 : Int32} {y4 : Int32} (hd : 0 ≤ d)  {h : zH} {p : (Int32 × zH)} (hF : f26 n  y0 y1 y2 y3 y4 h = some p) (q : Q (eI p.1) p.2) : zC d 26 [va_rf y0, .int y1, va_rf y2, .int y3, .int y4] h Q := by
  refine zC_of (L := [some (va_rf y0), some (.int y1), some (va_rf y2), some (.int y3), some (.int y4), none, none]) ((zsl_rf _ _).trans (congrArg (List.cons _) (congrArg (List.cons _) ((zsl_rf _ _).trans (congrArg (List.cons _) rfl))))) rfl ?_
  unfold f26 at hF
  refine zx_iconst (v := 0) rfl rfl rfl ?_
  refine zx_istore rfl rfl rfl ?_
  exact tf26_3 hd  n (l0 := y0) (l1 := y1) (l2 := y2) (l3 := y3) (l4 := y4) (l5 := 0) rfl hF q
def f25 (n : Nat)  (y0 : Option Nat) (y1 : Int32) (y2 : Int32) (h : zH) : Option (Option Nat × zH) :=
  (nA h 1 y2).bind fun h1 =>
  (f26 n y0 y1 (some h.1.length) 0 y2 h1).bind fun p4 =>
  if p4.1 = y2 then
    some ((some h.1.length), p4.2)
  else
    none
set_option maxRecDepth 20000 in
theorem t25 {d n : Nat} {Q : zRs → zH → Prop}  {y0 : Option Nat} {y1 : Int32} {y2 : Int32} (hd : 1 ≤ d)  {h : zH} {p : (Option Nat × zH)} (hF : f25 n  y0 y1 y2 h = some p) (q : Q (eA p.1) p.2) : zC d 25 [va_rf y0, .int y1, .int y2] h Q := by
  refine zC_of (L := [some (va_rf y0), some (.int y1), some (.int y2), none, none, none]) ((zsl_rf _ _).trans (congrArg (List.cons _) rfl)) rfl ?_
  unfold f25 at hF
  obtain ⟨d, rfl⟩ : ∃ e, d = e + 1 := ⟨d - 1, by omega⟩
  refine zx_iload_n rfl rfl rfl ?_
  replace hF := zbnd hF
  obtain ⟨h1, e2, hF⟩ := hF
  refine zy_newarr rfl rfl rfl e2 ?_
  refine zx_astore_n rfl rfl rfl ?_
  refine zy_rload_n rfl rfl rfl ?_
  refine zx_iload_n rfl rfl rfl ?_
  refine zx_aload_n rfl rfl rfl ?_
  refine zx_iconst (v := 0) rfl rfl rfl ?_
  refine zx_iload_n rfl rfl rfl ?_
  replace hF := zbnd hF
  obtain ⟨p4, e3, hF⟩ := hF
  refine zx_callE rfl rfl rfl rfl rfl ((zsl_rf _ _).trans (congrArg (List.cons _) rfl)) rfl (zc4 (Nat.le_of_ble_eq_true rfl)) (t26 (by omega) e3 (zaI ?_))
  refine zx_istore rfl rfl rfl ?_
  refine zx_iload rfl rfl rfl ?_
  refine zx_iload_n rfl rfl rfl ?_
  refine zx_ic_eq rfl rfl (fun c5 => ?_) (fun c5 => ?_)
  · rw [if_pos c5] at hF
    refine zx_aload_n rfl rfl rfl ?_
    replace hF := Option.some.inj hF
    subst hF
    exact zy_areturn (r := (some h.1.length)) rfl rfl rfl rfl q
  · rw [if_neg c5] at hF
    cases hF
def f27 (n : Nat)  (y0 : Option Nat) (y1 : Int32) (h : zH) : Option (Int32 × zH) :=
  y0.bind fun a1 =>
  (aN h a1).bind fun x2 =>
  zgd (zrtn .byte ((((y1 - x2).toUInt32 >>> ((31 : Int32).toUInt32 &&& Int32.toUInt32 31)).toInt32).toInt8.toInt32)) <|
  some ((((y1 - x2).toUInt32 >>> ((31 : Int32).toUInt32 &&& Int32.toUInt32 31)).toInt32).toInt8.toInt32, h)
set_option maxRecDepth 20000 in
theorem t27 {d n : Nat} {Q : zRs → zH → Prop}  {y0 : Option Nat} {y1 : Int32} (hd : 0 ≤ d)  {h : zH} {p : (Int32 × zH)} (hF : f27 n  y0 y1 h = some p) (q : Q (eI p.1) p.2) : zC d 27 [va_rf y0, .int y1] h Q := by
  refine zC_of (L := [some (va_rf y0), some (.int y1)]) ((zsl_rf _ _).trans (congrArg (List.cons _) rfl)) rfl ?_
  unfold f27 at hF
  refine zx_iload_n rfl rfl rfl ?_
  refine zy_rload_n rfl rfl rfl ?_
  replace hF := zbnd hF
  obtain ⟨a1, rfl, hF⟩ := hF
  replace hF := zbnd hF
  obtain ⟨x2, e3, hF⟩ := hF
  refine zy_alen rfl rfl e3 ?_
  refine zx_isub rfl rfl ?_
  refine zx_bipush (v := 31) rfl rfl rfl ?_
  refine zx_iushr rfl rfl ?_
  refine zx_i2b rfl rfl ?_
  replace hF := zgd_some hF
  obtain ⟨g4, hF⟩ := hF
  replace hF := Option.some.inj hF
  subst hF
  exact zx_bret rfl rfl rfl g4 q
def f24 (n : Nat)  (y0 : Nat) (y1 : Option Nat) (y2 : Int32) (y3 : Int32) (y4 : Option Nat) (h : zH) : Option (Unit × zH) :=
  if y3 = 0 then
    (gR h 49 12 0).bind fun x2 =>
    (pF h y0 12 0 (va_rf x2)).bind fun h4 =>
    (gI h4 49 12 1).bind fun x6 =>
    (pF h4 y0 12 1 (.int x6)).bind fun h8 =>
    some ((), h8)
  else
    if (1 : Int32) = 0 then
      none
    else
      (f25 n y1 y2 y3 h).bind fun p12 =>
      (f27 n p12.1 y3 p12.2).bind fun p14 =>
      (pF p14.2 y0 12 1 (.int p14.1)).bind fun h15 =>
      (pF h15 y0 12 0 (va_rf p12.1)).bind fun h17 =>
      some ((), h17)
set_option maxRecDepth 20000 in
theorem t24 {d n : Nat} {Q : zRs → zH → Prop}  {y0 : Nat} {y1 : Option Nat} {y2 : Int32} {y3 : Int32} {y4 : Option Nat} (hd : 2 ≤ d)  {h : zH} {p : (Unit × zH)} (hF : f24 n  y0 y1 y2 y3 y4 h = some p) (q : Q (eV p.1) p.2) : zC d 24 [.ref y0, va_rf y1, .int y2, .int y3, va_rf y4] h Q := by
  refine zC_of (L := [some (.ref y0), some (va_rf y1), some (.int y2), some (.int y3), some (va_rf y4), none]) (congrArg (List.cons _) ((zsl_rf _ _).trans (congrArg (List.cons _) (congrArg (List.cons _) (congrArg (List.cons _) ((zsl_rf _ _).trans (congrArg (List.cons _) rfl))))))) rfl ?_
  unfold f24 at hF
  obtain ⟨d, rfl⟩ : ∃ e, d = e + 1 := ⟨d - 1, by omega⟩
  refine zx_aload_n rfl rfl rfl ?_
  refine zw_obj rfl rfl rfl (Nat.ble_eq_true_of_le (Nat.le_trans (zcat_le _) (Nat.le_of_ble_eq_true rfl))) ?_
  refine zx_iload_n rfl rfl rfl ?_
  refine zx_if_ne rfl rfl (fun c1 => ?_) (fun c1 => ?_)
  · rw [if_neg c1] at hF
    refine zx_gets rfl rfl rfl ?_
    refine zx_if_eq rfl rfl (fun c10 => ?_) (fun c10 => ?_)
    · rw [if_pos c10] at hF
      cases hF
    · rw [if_neg c10] at hF
      refine zy_rload_n rfl rfl rfl ?_
      refine zx_iload_n rfl rfl rfl ?_
      refine zx_iload_n rfl rfl rfl ?_
      replace hF := zbnd hF
      obtain ⟨p12, e11, hF⟩ := hF
      refine zx_callE rfl rfl rfl rfl rfl ((zsl_rf _ _).trans (congrArg (List.cons _) rfl)) rfl (zc4 (Nat.le_of_ble_eq_true rfl)) (t25 (by omega) e11 (zaA ?_))
      refine zy_rstore rfl rfl (zput_ok (L' := [some (.ref y0), some (va_rf y1), some (.int y2), some (.int y3), some (va_rf y4), some (va_rf p12.1)]) rfl (zcl_X (j := 4) rfl (zn2_rf _)) rfl) ?_
      refine zx_aload_n rfl rfl rfl ?_
      refine zy_rload rfl rfl rfl ?_
      refine zx_iload_n rfl rfl rfl ?_
      replace hF := zbnd hF
      obtain ⟨p14, e13, hF⟩ := hF
      refine zx_callE rfl rfl rfl rfl rfl ((zsl_rf _ _).trans (congrArg (List.cons _) rfl)) rfl (zc4 (Nat.le_of_ble_eq_true rfl)) (t27 (by omega) e13 (zaI ?_))
      replace hF := zbnd hF
      obtain ⟨h15, e16, hF⟩ := hF
      refine zy_put rfl rfl e16 ?_
      refine zx_aload_n rfl rfl rfl ?_
      refine zy_rload rfl rfl rfl ?_
      replace hF := zbnd hF
      obtain ⟨h17, e18, hF⟩ := hF
      refine zy_put rfl rfl e18 ?_
      replace hF := Option.some.inj hF
      subst hF
      exact zx_return rfl rfl rfl q
  · rw [if_pos c1] at hF
    refine zx_aload_n rfl rfl rfl ?_
    refine zx_ldc rfl rfl rfl ?_
    replace hF := zbnd hF
    obtain ⟨x2, e3, hF⟩ := hF
    refine zy_getR rfl rfl e3 ?_
    replace hF := zbnd hF
    obtain ⟨h4, e5, hF⟩ := hF
    refine zy_put rfl rfl e5 ?_
    refine zx_aload_n rfl rfl rfl ?_
    refine zx_ldc rfl rfl rfl ?_
    replace hF := zbnd hF
    obtain ⟨x6, e7, hF⟩ := hF
    refine zy_getI rfl rfl e7 ?_
    replace hF := zbnd hF
    obtain ⟨h8, e9, hF⟩ := hF
    refine zy_put rfl rfl e9 ?_
    replace hF := Option.some.inj hF
    subst hF
    exact zx_return rfl rfl rfl q
def f23 (n : Nat)  (y0 : Nat) (y1 : Option Nat) (h : zH) : Option (Unit × zH) :=
  y1.bind fun a1 =>
  (aN h a1).bind fun x2 =>
  (f24 n y0 (some a1) 0 x2 none h).bind fun p5 =>
  some ((), p5.2)
set_option maxRecDepth 20000 in
theorem t23 {d n : Nat} {Q : zRs → zH → Prop}  {y0 : Nat} {y1 : Option Nat} (hd : 3 ≤ d)  {h : zH} {p : (Unit × zH)} (hF : f23 n  y0 y1 h = some p) (q : Q (eV p.1) p.2) : zC d 23 [.ref y0, va_rf y1] h Q := by
  refine zC_of (L := [some (.ref y0), some (va_rf y1)]) (congrArg (List.cons _) ((zsl_rf _ _).trans (congrArg (List.cons _) rfl))) rfl ?_
  unfold f23 at hF
  obtain ⟨d, rfl⟩ : ∃ e, d = e + 1 := ⟨d - 1, by omega⟩
  refine zx_aload_n rfl rfl rfl ?_
  refine zy_rload_n rfl rfl rfl ?_
  refine zx_iconst (v := 0) rfl rfl rfl ?_
  refine zy_rload_n rfl rfl rfl ?_
  replace hF := zbnd hF
  obtain ⟨a1, rfl, hF⟩ := hF
  replace hF := zbnd hF
  obtain ⟨x2, e3, hF⟩ := hF
  refine zy_alen rfl rfl e3 ?_
  refine zx_null rfl rfl ?_
  replace hF := zbnd hF
  obtain ⟨p5, e4, hF⟩ := hF
  refine zx_callF rfl rfl rfl rfl rfl rfl rfl (zc4 (Nat.le_of_ble_eq_true rfl)) (t24 (by omega) e4 (zaV ?_))
  replace hF := Option.some.inj hF
  subst hF
  exact zx_return rfl rfl rfl q
def b21_13 (n : Nat)  (r13 : Nat → Int32 → Int32 → Nat → Int32 → zH → Option (Option Nat × zH)) (l0 : Nat) (l1 : Int32) (l2 : Int32) (l3 : Nat) (l4 : Int32) (h : zH) : Option (Option Nat × zH) :=
  (aN h l3).bind fun x1 =>
  if x1 ≤ l4 then
    (f23 n h.1.length (some l3) (nO h 12 4)).bind fun p5 =>
    some ((some h.1.length), p5.2)
  else
    zgd (isO h l0 8) <|
    (f12 n l0 (l1 + l4) h).bind fun p8 =>
    (aS zsC p8.2 l3 l4 (.int (((p8.1 &&& 255).toUInt32 % 65536).toInt32))).bind fun h9 =>
    r13 l0 l1 l2 l3 (l4 + 1) h9
set_option maxRecDepth 20000 in
theorem tb21_13 {d n : Nat} {Q : zRs → zH → Prop}  {r13 : Nat → Int32 → Int32 → Nat → Int32 → zH → Option (Option Nat × zH)} {l0 : Nat} {l1 : Int32} {l2 : Int32} {l3 : Nat} {l4 : Int32}   (hd : 4 ≤ d)  (hr13 : ∀ {l0 : Nat} {l1 : Int32} {l2 : Int32} {l3 : Nat} {l4 : Int32}   {h : zH} {p : (Option Nat × zH)}, r13 l0 l1 l2 l3 l4 h = some p → Q (eA p.1) p.2 → zW d 21 13 [some (.ref l0), some (.int l1), some (.int l2), some (.ref l3), some (.int l4)] [] h Q) {h : zH} {p : (Option Nat × zH)}  (hF : b21_13 n  r13 l0 l1 l2 l3 l4 h = some p) (q : Q (eA p.1) p.2) : zW d 21 13 [some (.ref l0), some (.int l1), some (.int l2), some (.ref l3), some (.int l4)] [] h Q := by
  unfold b21_13 at hF
  obtain ⟨d, rfl⟩ : ∃ e, d = e + 1 := ⟨d - 1, by omega⟩
  refine zx_iload rfl rfl rfl ?_
  refine zx_aload_n rfl rfl rfl ?_
  replace hF := zbnd hF
  obtain ⟨x1, e2, hF⟩ := hF
  refine zy_alen rfl rfl e2 ?_
  refine zx_ic_ge rfl rfl (fun c3 => ?_) (fun c3 => ?_)
  · rw [if_pos c3] at hF
    refine zy_new rfl rfl ?_
    refine zx_dup rfl rfl rfl ?_
    refine zx_aload_n rfl rfl rfl ?_
    replace hF := zbnd hF
    obtain ⟨p5, e4, hF⟩ := hF
    refine zx_callF rfl rfl rfl rfl rfl rfl rfl (zc4 (Nat.le_of_ble_eq_true rfl)) (t23 (by omega) e4 (zaV ?_))
    replace hF := Option.some.inj hF
    subst hF
    exact zy_areturn (r := (some h.1.length)) rfl rfl rfl rfl q
  · rw [if_neg c3] at hF
    refine zx_aload_n rfl rfl rfl ?_
    refine zx_iload rfl rfl rfl ?_
    refine zx_aload_n rfl rfl rfl ?_
    refine zx_iload_n rfl rfl rfl ?_
    refine zx_iload rfl rfl rfl ?_
    refine zx_iadd rfl rfl ?_
    replace hF := zgd_some hF
    obtain ⟨g6, hF⟩ := hF
    replace hF := zbnd hF
    obtain ⟨p8, e7, hF⟩ := hF
    refine zx_callE rfl rfl rfl rfl (zrcv_isO g6) rfl rfl (zc4 (Nat.le_of_ble_eq_true rfl)) (t12 (by omega) e7 (zaI ?_))
    refine zx_sipush (v := 255) rfl rfl rfl ?_
    refine zx_iand rfl rfl ?_
    refine zx_i2c rfl rfl ?_
    replace hF := zbnd hF
    obtain ⟨h9, e10, hF⟩ := hF
    refine zy_sC rfl rfl e10 ?_
    refine zx_iinc (w := 1) rfl rfl rfl rfl rfl ?_
    refine zx_goto rfl rfl ?_
    exact hr13  hF q
def f21_13 (n : Nat)   (k : Nat) : Nat → Int32 → Int32 → Nat → Int32 → zH → Option (Option Nat × zH) := Nat.rec (fun _ _ _ _ _ _ => none) (fun _ ih => b21_13 n  ih) k
theorem tf21_13 {d n : Nat} {Q : zRs → zH → Prop}   (hd : 4 ≤ d)   (k : Nat) : ∀ {l0 : Nat} {l1 : Int32} {l2 : Int32} {l3 : Nat} {l4 : Int32}   {h : zH} {p : (Option Nat × zH)}, f21_13 n   k l0 l1 l2 l3 l4 h = some p → Q (eA p.1) p.2 → zW d 21 13 [some (.ref l0), some (.int l1), some (.int l2), some (.ref l3), some (.int l4)] [] h Q := by
  induction k with
  | zero => intros; rename_i hF _; cases hF
  | succ k ih => intros; rename_i  hF q; exact tb21_13 (n := n) hd  ih  hF q
def f21 (n : Nat)  (y0 : Nat) (y1 : Int32) (y2 : Int32) (h : zH) : Option (Option Nat × zH) :=
  (f22 n 0 (y2 - y1) h).bind fun p2 =>
  (nA p2.2 3 p2.1).bind fun h3 =>
  f21_13 n  n y0 y1 y2 p2.2.1.length 0 h3
set_option maxRecDepth 20000 in
theorem t21 {d n : Nat} {Q : zRs → zH → Prop}  {y0 : Nat} {y1 : Int32} {y2 : Int32} (hd : 4 ≤ d)  {h : zH} {p : (Option Nat × zH)} (hF : f21 n  y0 y1 y2 h = some p) (q : Q (eA p.1) p.2) : zC d 21 [.ref y0, .int y1, .int y2] h Q := by
  refine zC_of (L := [some (.ref y0), some (.int y1), some (.int y2), none, none]) rfl rfl ?_
  unfold f21 at hF
  obtain ⟨d, rfl⟩ : ∃ e, d = e + 1 := ⟨d - 1, by omega⟩
  refine zx_iconst (v := 0) rfl rfl rfl ?_
  refine zx_iload_n rfl rfl rfl ?_
  refine zx_iload_n rfl rfl rfl ?_
  refine zx_isub rfl rfl ?_
  replace hF := zbnd hF
  obtain ⟨p2, e1, hF⟩ := hF
  refine zx_callE rfl rfl rfl rfl rfl rfl rfl (zc4 (Nat.le_of_ble_eq_true rfl)) (t22 (by omega) e1 (zaI ?_))
  replace hF := zbnd hF
  obtain ⟨h3, e4, hF⟩ := hF
  refine zy_newarr rfl rfl rfl e4 ?_
  refine zx_astore_n rfl rfl rfl ?_
  refine zx_iconst (v := 0) rfl rfl rfl ?_
  refine zx_istore rfl rfl rfl ?_
  exact tf21_13 hd  n (l0 := y0) (l1 := y1) (l2 := y2) (l3 := p2.2.1.length) (l4 := 0)  hF q
def b30_9 (n : Nat)  (r9 : Option Nat → Option Nat → Int32 → zH → Option (Int32 × zH)) (l0 : Option Nat) (l1 : Option Nat) (l2 : Int32) (h : zH) : Option (Int32 × zH) :=
  l0.bind fun a1 =>
  (aN h a1).bind fun x2 =>
  if x2 ≤ l2 then
    some (1, h)
  else
    (aB h a1 l2).bind fun x5 =>
    l1.bind fun a7 =>
    (aB h a7 l2).bind fun x8 =>
    if x5 = x8 then
      r9 (some a1) (some a7) (l2 + 1) h
    else
      some (0, h)
set_option maxRecDepth 20000 in
theorem tb30_9 {d n : Nat} {Q : zRs → zH → Prop}  {r9 : Option Nat → Option Nat → Int32 → zH → Option (Int32 × zH)} {l0 : Option Nat} {l1 : Option Nat} {l2 : Int32}   (hd : 0 ≤ d)  (hr9 : ∀ {l0 : Option Nat} {l1 : Option Nat} {l2 : Int32}   {h : zH} {p : (Int32 × zH)}, r9 l0 l1 l2 h = some p → Q (eI p.1) p.2 → zW d 30 9 [some (va_rf l0), some (va_rf l1), some (.int l2)] [] h Q) {h : zH} {p : (Int32 × zH)}  (hF : b30_9 n  r9 l0 l1 l2 h = some p) (q : Q (eI p.1) p.2) : zW d 30 9 [some (va_rf l0), some (va_rf l1), some (.int l2)] [] h Q := by
  unfold b30_9 at hF
  refine zx_iload_n rfl rfl rfl ?_
  refine zy_rload_n rfl rfl rfl ?_
  replace hF := zbnd hF
  obtain ⟨a1, rfl, hF⟩ := hF
  replace hF := zbnd hF
  obtain ⟨x2, e3, hF⟩ := hF
  refine zy_alen rfl rfl e3 ?_
  refine zx_ic_ge rfl rfl (fun c4 => ?_) (fun c4 => ?_)
  · rw [if_pos c4] at hF
    refine zx_iconst (v := 1) rfl rfl rfl ?_
    replace hF := Option.some.inj hF
    subst hF
    exact zx_bret rfl rfl rfl rfl q
  · rw [if_neg c4] at hF
    refine zx_aload_n rfl rfl rfl ?_
    refine zx_iload_n rfl rfl rfl ?_
    replace hF := zbnd hF
    obtain ⟨x5, e6, hF⟩ := hF
    refine zy_aB rfl rfl e6 ?_
    refine zy_rload_n rfl rfl rfl ?_
    refine zx_iload_n rfl rfl rfl ?_
    replace hF := zbnd hF
    obtain ⟨a7, rfl, hF⟩ := hF
    replace hF := zbnd hF
    obtain ⟨x8, e9, hF⟩ := hF
    refine zy_aB rfl rfl e9 ?_
    refine zx_ic_eq rfl rfl (fun c10 => ?_) (fun c10 => ?_)
    · rw [if_pos c10] at hF
      refine zx_iinc (w := 1) rfl rfl rfl rfl rfl ?_
      refine zx_goto rfl rfl ?_
      exact hr9  hF q
    · rw [if_neg c10] at hF
      refine zx_iconst (v := 0) rfl rfl rfl ?_
      replace hF := Option.some.inj hF
      subst hF
      exact zx_bret rfl rfl rfl rfl q
def f30_9 (n : Nat)   (k : Nat) : Option Nat → Option Nat → Int32 → zH → Option (Int32 × zH) := Nat.rec (fun _ _ _ _ => none) (fun _ ih => b30_9 n  ih) k
theorem tf30_9 {d n : Nat} {Q : zRs → zH → Prop}   (hd : 0 ≤ d)   (k : Nat) : ∀ {l0 : Option Nat} {l1 : Option Nat} {l2 : Int32}   {h : zH} {p : (Int32 × zH)}, f30_9 n   k l0 l1 l2 h = some p → Q (eI p.1) p.2 → zW d 30 9 [some (va_rf l0), some (va_rf l1), some (.int l2)] [] h Q := by
  induction k with
  | zero => intros; rename_i hF _; cases hF
  | succ k ih => intros; rename_i  hF q; exact tb30_9 (n := n) hd  ih  hF q
def f30 (n : Nat)  (y0 : Option Nat) (y1 : Option Nat) (h : zH) : Option (Int32 × zH) :=
  y0.bind fun a1 =>
  (aN h a1).bind fun x2 =>
  y1.bind fun a4 =>
  (aN h a4).bind fun x5 =>
  if x2 = x5 then
    f30_9 n  n (some a1) (some a4) 0 h
  else
    some (0, h)
set_option maxRecDepth 20000 in
theorem t30 {d n : Nat} {Q : zRs → zH → Prop}  {y0 : Option Nat} {y1 : Option Nat} (hd : 0 ≤ d)  {h : zH} {p : (Int32 × zH)} (hF : f30 n  y0 y1 h = some p) (q : Q (eI p.1) p.2) : zC d 30 [va_rf y0, va_rf y1] h Q := by
  refine zC_of (L := [some (va_rf y0), some (va_rf y1), none]) ((zsl_rf _ _).trans (congrArg (List.cons _) ((zsl_rf _ _).trans (congrArg (List.cons _) rfl)))) rfl ?_
  unfold f30 at hF
  refine zy_rload_n rfl rfl rfl ?_
  replace hF := zbnd hF
  obtain ⟨a1, rfl, hF⟩ := hF
  replace hF := zbnd hF
  obtain ⟨x2, e3, hF⟩ := hF
  refine zy_alen rfl rfl e3 ?_
  refine zy_rload_n rfl rfl rfl ?_
  replace hF := zbnd hF
  obtain ⟨a4, rfl, hF⟩ := hF
  replace hF := zbnd hF
  obtain ⟨x5, e6, hF⟩ := hF
  refine zy_alen rfl rfl e6 ?_
  refine zx_ic_ne rfl rfl (fun c7 => ?_) (fun c7 => ?_)
  · rw [if_neg c7] at hF
    refine zx_iconst (v := 0) rfl rfl rfl ?_
    replace hF := Option.some.inj hF
    subst hF
    exact zx_bret rfl rfl rfl rfl q
  · rw [if_pos c7] at hF
    refine zx_iconst (v := 0) rfl rfl rfl ?_
    refine zx_istore_n rfl rfl rfl ?_
    exact tf30_9 hd  n (l0 := (some a1)) (l1 := (some a4)) (l2 := 0)  hF q
def b29_36 (n : Nat)   (l0 : Nat) (l1 : Option Nat) (l2 : Option Nat) (h : zH) : Option (Int32 × zH) :=
  (gR h l0 12 0).bind fun x1 =>
  l2.bind fun a3 =>
  (gR h a3 12 0).bind fun x4 =>
  (f30 n x1 x4 h).bind fun p7 =>
  if p7.1 = 0 then
    some (0, p7.2)
  else
    some (1, p7.2)
set_option maxRecDepth 20000 in
theorem tb29_36 {d n : Nat} {Q : zRs → zH → Prop}   {l0 : Nat} {l1 : Option Nat} {l2 : Option Nat}   (hd : 1 ≤ d)   {h : zH} {p : (Int32 × zH)}  (hF : b29_36 n   l0 l1 l2 h = some p) (q : Q (eI p.1) p.2) : zW d 29 36 [some (.ref l0), some (va_rf l1), some (va_rf l2)] [] h Q := by
  unfold b29_36 at hF
  obtain ⟨d, rfl⟩ : ∃ e, d = e + 1 := ⟨d - 1, by omega⟩
  refine zx_aload_n rfl rfl rfl ?_
  replace hF := zbnd hF
  obtain ⟨x1, e2, hF⟩ := hF
  refine zy_getR rfl rfl e2 ?_
  refine zy_rload_n rfl rfl rfl ?_
  replace hF := zbnd hF
  obtain ⟨a3, rfl, hF⟩ := hF
  replace hF := zbnd hF
  obtain ⟨x4, e5, hF⟩ := hF
  refine zy_getR rfl rfl e5 ?_
  replace hF := zbnd hF
  obtain ⟨p7, e6, hF⟩ := hF
  refine zx_callE rfl rfl rfl rfl rfl ((zsl_rf _ _).trans (congrArg (List.cons _) ((zsl_rf _ _).trans (congrArg (List.cons _) rfl)))) rfl (zc4 (Nat.le_of_ble_eq_true rfl)) (t30 (by omega) e6 (zaI ?_))
  refine zx_if_eq rfl rfl (fun c8 => ?_) (fun c8 => ?_)
  · rw [if_pos c8] at hF
    refine zx_iconst (v := 0) rfl rfl rfl ?_
    replace hF := Option.some.inj hF
    subst hF
    exact zx_bret rfl rfl rfl rfl q
  · rw [if_neg c8] at hF
    refine zx_iconst (v := 1) rfl rfl rfl ?_
    refine zx_goto rfl rfl ?_
    replace hF := Option.some.inj hF
    subst hF
    exact zx_bret rfl rfl rfl rfl q
def f29 (n : Nat)  (y0 : Nat) (y1 : Option Nat) (h : zH) : Option (Int32 × zH) :=
  (rEq (some y0) y1).bind fun b1 =>
  if b1 = true then
    some (1, h)
  else
    (iO h y1 12).bind fun x4 =>
    if x4 = 0 then
      some (0, h)
    else
      zgd (kC h y1 12 0) <|
      if (1 : Int32) = 0 then
        b29_36 n  y0 y1 y1 h
      else
        (gI h y0 12 1).bind fun x9 =>
        y1.bind fun a11 =>
        (gI h a11 12 1).bind fun x12 =>
        if x9 = x12 then
          b29_36 n  y0 (some a11) (some a11) h
        else
          some (0, h)
set_option maxRecDepth 20000 in
theorem t29 {d n : Nat} {Q : zRs → zH → Prop}  {y0 : Nat} {y1 : Option Nat} (hd : 1 ≤ d)  {h : zH} {p : (Int32 × zH)} (hF : f29 n  y0 y1 h = some p) (q : Q (eI p.1) p.2) : zC d 29 [.ref y0, va_rf y1] h Q := by
  refine zC_of (L := [some (.ref y0), some (va_rf y1), none]) (congrArg (List.cons _) ((zsl_rf _ _).trans (congrArg (List.cons _) rfl))) rfl ?_
  unfold f29 at hF
  obtain ⟨d, rfl⟩ : ∃ e, d = e + 1 := ⟨d - 1, by omega⟩
  refine zx_aload_n rfl rfl rfl ?_
  refine zy_rload_n rfl rfl rfl ?_
  replace hF := zbnd hF
  obtain ⟨b1, e2, hF⟩ := hF
  refine zy_ane rfl rfl e2 (fun c3 => ?_) (fun c3 => ?_)
  · rw [if_neg (by rw [c3]; exact Bool.false_ne_true)] at hF
    refine zy_rload_n rfl rfl rfl ?_
    replace hF := zbnd hF
    obtain ⟨x4, e5, hF⟩ := hF
    refine zy_inst (r := y1) rfl rfl e5 ?_
    refine zx_if_eq rfl rfl (fun c6 => ?_) (fun c6 => ?_)
    · rw [if_pos c6] at hF
      refine zx_iconst (v := 0) rfl rfl rfl ?_
      replace hF := Option.some.inj hF
      subst hF
      exact zx_bret rfl rfl rfl rfl q
    · rw [if_neg c6] at hF
      refine zy_rload_n rfl rfl rfl ?_
      replace hF := zgd_some hF
      obtain ⟨g7, hF⟩ := hF
      refine zy_cast (r := y1) rfl rfl g7 ?_
      refine zy_rstore_n rfl rfl (zput_ok (L' := [some (.ref y0), some (va_rf y1), some (va_rf y1)]) rfl (zcl_X (j := 1) rfl (zn2_rf _)) rfl) ?_
      refine zx_gets rfl rfl rfl ?_
      refine zx_if_eq rfl rfl (fun c8 => ?_) (fun c8 => ?_)
      · rw [if_pos c8] at hF
        exact tb29_36 (l0 := y0) (l1 := y1) (l2 := y1) hd   hF q
      · rw [if_neg c8] at hF
        refine zx_aload_n rfl rfl rfl ?_
        replace hF := zbnd hF
        obtain ⟨x9, e10, hF⟩ := hF
        refine zy_getI rfl rfl e10 ?_
        refine zy_rload_n rfl rfl rfl ?_
        replace hF := zbnd hF
        obtain ⟨a11, rfl, hF⟩ := hF
        replace hF := zbnd hF
        obtain ⟨x12, e13, hF⟩ := hF
        refine zy_getI rfl rfl e13 ?_
        refine zx_ic_ne rfl rfl (fun c14 => ?_) (fun c14 => ?_)
        · rw [if_neg c14] at hF
          refine zx_iconst (v := 0) rfl rfl rfl ?_
          replace hF := Option.some.inj hF
          subst hF
          exact zx_bret rfl rfl rfl rfl q
        · rw [if_pos c14] at hF
          exact tb29_36 (l0 := y0) (l1 := (some a11)) (l2 := (some a11)) hd   hF q
  · rw [if_pos c3] at hF
    refine zx_iconst (v := 1) rfl rfl rfl ?_
    replace hF := Option.some.inj hF
    subst hF
    exact zx_bret rfl rfl rfl rfl q
def b28_2 (n : Nat)  (r2 : Option Nat → Int32 → zH → Option (Option Nat × zH)) (l0 : Option Nat) (l1 : Int32) (h : zH) : Option (Option Nat × zH) :=
  (aN h 44).bind fun x1 =>
  if x1 ≤ l1 then
    some ((some 3), h)
  else
    (aR h 44 l1).bind fun x4 =>
    x4.bind fun a6 =>
    (gR h a6 15 1).bind fun x7 =>
    x7.bind fun a9 =>
    zgd (isO h a9 12) <|
    (f29 n a9 l0 h).bind fun p12 =>
    if p12.1 = 0 then
      r2 l0 (l1 + 1) p12.2
    else
      (aR p12.2 44 l1).bind fun x14 =>
      some (x14, p12.2)
set_option maxRecDepth 20000 in
theorem tb28_2 {d n : Nat} {Q : zRs → zH → Prop}  {r2 : Option Nat → Int32 → zH → Option (Option Nat × zH)} {l0 : Option Nat} {l1 : Int32}   (hd : 2 ≤ d)  (hr2 : ∀ {l0 : Option Nat} {l1 : Int32}   {h : zH} {p : (Option Nat × zH)}, r2 l0 l1 h = some p → Q (eA p.1) p.2 → zW d 28 2 [some (va_rf l0), some (.int l1)] [] h Q) {h : zH} {p : (Option Nat × zH)}  (hF : b28_2 n  r2 l0 l1 h = some p) (q : Q (eA p.1) p.2) : zW d 28 2 [some (va_rf l0), some (.int l1)] [] h Q := by
  unfold b28_2 at hF
  obtain ⟨d, rfl⟩ : ∃ e, d = e + 1 := ⟨d - 1, by omega⟩
  refine zx_iload_n rfl rfl rfl ?_
  refine zx_gets rfl rfl rfl ?_
  replace hF := zbnd hF
  obtain ⟨x1, e2, hF⟩ := hF
  refine zy_alen rfl rfl e2 ?_
  refine zx_ic_ge rfl rfl (fun c3 => ?_) (fun c3 => ?_)
  · rw [if_pos c3] at hF
    refine zx_gets rfl rfl rfl ?_
    replace hF := Option.some.inj hF
    subst hF
    exact zy_areturn (r := (some 3)) rfl rfl rfl rfl q
  · rw [if_neg c3] at hF
    refine zx_gets rfl rfl rfl ?_
    refine zx_iload_n rfl rfl rfl ?_
    replace hF := zbnd hF
    obtain ⟨x4, e5, hF⟩ := hF
    refine zy_aR rfl rfl e5 ?_
    replace hF := zbnd hF
    obtain ⟨a6, rfl, hF⟩ := hF
    replace hF := zbnd hF
    obtain ⟨x7, e8, hF⟩ := hF
    refine zy_getR rfl rfl e8 ?_
    refine zy_rload_n rfl rfl rfl ?_
    replace hF := zbnd hF
    obtain ⟨a9, rfl, hF⟩ := hF
    replace hF := zgd_some hF
    obtain ⟨g10, hF⟩ := hF
    replace hF := zbnd hF
    obtain ⟨p12, e11, hF⟩ := hF
    refine zx_callE rfl rfl rfl rfl (zrcv_isO g10) (congrArg (List.cons _) ((zsl_rf _ _).trans (congrArg (List.cons _) rfl))) rfl (zc4 (Nat.le_of_ble_eq_true rfl)) (t29 (by omega) e11 (zaI ?_))
    refine zx_if_eq rfl rfl (fun c13 => ?_) (fun c13 => ?_)
    · rw [if_pos c13] at hF
      refine zx_iinc (w := 1) rfl rfl rfl rfl (zput_ok (L' := [some (va_rf l0), some (.int (l1 + 1))]) rfl (zcl_X (j := 0) rfl (zn2_rf _)) rfl) ?_
      refine zx_goto rfl rfl ?_
      exact hr2  hF q
    · rw [if_neg c13] at hF
      refine zx_gets rfl rfl rfl ?_
      refine zx_iload_n rfl rfl rfl ?_
      replace hF := zbnd hF
      obtain ⟨x14, e15, hF⟩ := hF
      refine zy_aR rfl rfl e15 ?_
      replace hF := Option.some.inj hF
      subst hF
      exact zy_areturn (r := x14) rfl rfl rfl rfl q
def f28_2 (n : Nat)   (k : Nat) : Option Nat → Int32 → zH → Option (Option Nat × zH) := Nat.rec (fun _ _ _ => none) (fun _ ih => b28_2 n  ih) k
theorem tf28_2 {d n : Nat} {Q : zRs → zH → Prop}   (hd : 2 ≤ d)   (k : Nat) : ∀ {l0 : Option Nat} {l1 : Int32}   {h : zH} {p : (Option Nat × zH)}, f28_2 n   k l0 l1 h = some p → Q (eA p.1) p.2 → zW d 28 2 [some (va_rf l0), some (.int l1)] [] h Q := by
  induction k with
  | zero => intros; rename_i hF _; cases hF
  | succ k ih => intros; rename_i  hF q; exact tb28_2 (n := n) hd  ih  hF q
def f28 (n : Nat)  (y0 : Option Nat) (h : zH) : Option (Option Nat × zH) :=
  f28_2 n  n y0 0 h
set_option maxRecDepth 20000 in
theorem t28 {d n : Nat} {Q : zRs → zH → Prop}  {y0 : Option Nat} (hd : 2 ≤ d)  {h : zH} {p : (Option Nat × zH)} (hF : f28 n  y0 h = some p) (q : Q (eA p.1) p.2) : zC d 28 [va_rf y0] h Q := by
  refine zC_of (L := [some (va_rf y0), none]) ((zsl_rf _ _).trans (congrArg (List.cons _) rfl)) rfl ?_
  unfold f28 at hF
  obtain ⟨d, rfl⟩ : ∃ e, d = e + 1 := ⟨d - 1, by omega⟩
  refine zx_iconst (v := 0) rfl rfl rfl ?_
  refine zx_istore_n rfl rfl (zput_ok (L' := [some (va_rf y0), some (.int 0)]) rfl (zcl_X (j := 0) rfl (zn2_rf _)) rfl) ?_
  exact tf28_2 hd  n (l0 := y0) (l1 := 0)  hF q
def b17_27 (n : Nat)   (l0 : Nat) (l1 : Int32) (l2 : Int32) (h : zH) : Option (Option Nat × zH) :=
  if (l2 - l1) ≤ 16 then
    zgd (isO h l0 8) <|
    (f21 n l0 l1 l2 h).bind fun p4 =>
    (f28 n p4.1 (nO p4.2 9 6)).bind fun p6 =>
    (f15 n p4.2.1.length p6.1 l1 l2 p4.1 0 p6.2).bind fun p8 =>
    some ((some p4.2.1.length), p8.2)
  else
    zgd (isO h l0 8) <|
    (f20 n l0 l1 h).bind fun p11 =>
    some (p11.1, p11.2)
set_option maxRecDepth 20000 in
theorem tb17_27 {d n : Nat} {Q : zRs → zH → Prop}   {l0 : Nat} {l1 : Int32} {l2 : Int32}  {x3 : Option Value} (hd : 5 ≤ d)   {h : zH} {p : (Option Nat × zH)} (hx3 : zn2 x3 = true) (hF : b17_27 n   l0 l1 l2 h = some p) (q : Q (eA p.1) p.2) : zW d 17 27 [some (.ref l0), some (.int l1), some (.int l2), x3] [] h Q := by
  unfold b17_27 at hF
  obtain ⟨d, rfl⟩ : ∃ e, d = e + 1 := ⟨d - 1, by omega⟩
  refine zx_iload_n rfl rfl rfl ?_
  refine zx_iload_n rfl rfl rfl ?_
  refine zx_isub rfl rfl ?_
  refine zx_bipush (v := 16) rfl rfl rfl ?_
  refine zx_ic_le rfl rfl (fun c1 => ?_) (fun c1 => ?_)
  · rw [if_pos c1] at hF
    refine zx_aload_n rfl rfl rfl ?_
    refine zx_iload_n rfl rfl rfl ?_
    refine zx_iload_n rfl rfl rfl ?_
    replace hF := zgd_some hF
    obtain ⟨g2, hF⟩ := hF
    replace hF := zbnd hF
    obtain ⟨p4, e3, hF⟩ := hF
    refine zx_callE rfl rfl rfl rfl (zrcv_isO g2) rfl rfl (zc4 (Nat.le_of_ble_eq_true rfl)) (t21 (by omega) e3 (zaA ?_))
    refine zy_rstore_n rfl rfl rfl ?_
    refine zy_new rfl rfl ?_
    refine zx_dup rfl rfl rfl ?_
    refine zy_rload_n rfl rfl rfl ?_
    replace hF := zbnd hF
    obtain ⟨p6, e5, hF⟩ := hF
    refine zx_callE rfl rfl rfl rfl rfl ((zsl_rf _ _).trans (congrArg (List.cons _) rfl)) rfl (zc4 (Nat.le_of_ble_eq_true rfl)) (t28 (by omega) e5 (zaA ?_))
    refine zx_iload_n rfl rfl rfl ?_
    refine zx_iload_n rfl rfl rfl ?_
    refine zy_rload_n rfl rfl rfl ?_
    refine zx_iconst (v := 0) rfl rfl rfl ?_
    replace hF := zbnd hF
    obtain ⟨p8, e7, hF⟩ := hF
    refine zx_callF rfl rfl rfl rfl rfl (congrArg (List.cons _) ((zsl_rf _ _).trans (congrArg (List.cons _) (congrArg (List.cons _) (congrArg (List.cons _) ((zsl_rf _ _).trans (congrArg (List.cons _) rfl))))))) rfl (zc4 (Nat.le_of_ble_eq_true rfl)) (t15 (by omega) e7 (zaV ?_))
    replace hF := Option.some.inj hF
    subst hF
    exact zy_areturn (r := (some p4.2.1.length)) rfl rfl rfl rfl q
  · rw [if_neg c1] at hF
    refine zx_aload_n rfl rfl rfl ?_
    refine zx_iload_n rfl rfl rfl ?_
    replace hF := zgd_some hF
    obtain ⟨g9, hF⟩ := hF
    replace hF := zbnd hF
    obtain ⟨p11, e10, hF⟩ := hF
    refine zx_callE rfl rfl rfl rfl (zrcv_isO g9) rfl rfl (zc4 (Nat.le_of_ble_eq_true rfl)) (t20 (by omega) e10 (zaA ?_))
    replace hF := Option.some.inj hF
    subst hF
    exact zy_areturn (r := p11.1) rfl rfl rfl rfl q
def b17_2 (n : Nat)  (r2 : Nat → Int32 → Int32 → zH → Option (Option Nat × zH)) (l0 : Nat) (l1 : Int32) (l2 : Int32) (h : zH) : Option (Option Nat × zH) :=
  (gI h l0 8 1).bind fun x1 =>
  if x1 ≤ l2 then
    b17_27 n  l0 l1 l2 h
  else
    zgd (isO h l0 8) <|
    (f12 n l0 l2 h).bind fun p6 =>
    (f18 n p6.1 p6.2).bind fun p8 =>
    if p8.1 = 0 then
      b17_27 n  l0 l1 l2 p8.2
    else
      r2 l0 l1 (l2 + 1) p8.2
set_option maxRecDepth 20000 in
theorem tb17_2 {d n : Nat} {Q : zRs → zH → Prop}  {r2 : Nat → Int32 → Int32 → zH → Option (Option Nat × zH)} {l0 : Nat} {l1 : Int32} {l2 : Int32}  {x3 : Option Value} (hd : 5 ≤ d)  (hr2 : ∀ {l0 : Nat} {l1 : Int32} {l2 : Int32}  {x3 : Option Value} {h : zH} {p : (Option Nat × zH)}, zn2 x3 = true → r2 l0 l1 l2 h = some p → Q (eA p.1) p.2 → zW d 17 2 [some (.ref l0), some (.int l1), some (.int l2), x3] [] h Q) {h : zH} {p : (Option Nat × zH)} (hx3 : zn2 x3 = true) (hF : b17_2 n  r2 l0 l1 l2 h = some p) (q : Q (eA p.1) p.2) : zW d 17 2 [some (.ref l0), some (.int l1), some (.int l2), x3] [] h Q := by
  unfold b17_2 at hF
  obtain ⟨d, rfl⟩ : ∃ e, d = e + 1 := ⟨d - 1, by omega⟩
  refine zx_iload_n rfl rfl rfl ?_
  refine zx_aload_n rfl rfl rfl ?_
  replace hF := zbnd hF
  obtain ⟨x1, e2, hF⟩ := hF
  refine zy_getI rfl rfl e2 ?_
  refine zx_ic_ge rfl rfl (fun c3 => ?_) (fun c3 => ?_)
  · rw [if_pos c3] at hF
    exact tb17_27 (l0 := l0) (l1 := l1) (l2 := l2) hd  hx3 hF q
  · rw [if_neg c3] at hF
    refine zx_aload_n rfl rfl rfl ?_
    refine zx_iload_n rfl rfl rfl ?_
    replace hF := zgd_some hF
    obtain ⟨g4, hF⟩ := hF
    replace hF := zbnd hF
    obtain ⟨p6, e5, hF⟩ := hF
    refine zx_callE rfl rfl rfl rfl (zrcv_isO g4) rfl rfl (zc4 (Nat.le_of_ble_eq_true rfl)) (t12 (by omega) e5 (zaI ?_))
    replace hF := zbnd hF
    obtain ⟨p8, e7, hF⟩ := hF
    refine zx_callE rfl rfl rfl rfl rfl rfl rfl (zc4 (Nat.le_of_ble_eq_true rfl)) (t18 (by omega) e7 (zaI ?_))
    refine zx_if_eq rfl rfl (fun c9 => ?_) (fun c9 => ?_)
    · rw [if_pos c9] at hF
      exact tb17_27 (l0 := l0) (l1 := l1) (l2 := l2) hd  hx3 hF q
    · rw [if_neg c9] at hF
      refine zx_iinc (w := 1) rfl rfl rfl rfl rfl ?_
      refine zx_goto rfl rfl ?_
      exact hr2 hx3 hF q
def f17_2 (n : Nat)   (k : Nat) : Nat → Int32 → Int32 → zH → Option (Option Nat × zH) := Nat.rec (fun _ _ _ _ => none) (fun _ ih => b17_2 n  ih) k
theorem tf17_2 {d n : Nat} {Q : zRs → zH → Prop}   (hd : 5 ≤ d)   (k : Nat) : ∀ {l0 : Nat} {l1 : Int32} {l2 : Int32}  {x3 : Option Value} {h : zH} {p : (Option Nat × zH)}, zn2 x3 = true → f17_2 n   k l0 l1 l2 h = some p → Q (eA p.1) p.2 → zW d 17 2 [some (.ref l0), some (.int l1), some (.int l2), x3] [] h Q := by
  induction k with
  | zero => intros; rename_i hF _; cases hF
  | succ k ih => intros; rename_i hx3 hF q; exact tb17_2 (n := n) hd  ih hx3 hF q
def f17 (n : Nat)  (y0 : Nat) (y1 : Int32) (h : zH) : Option (Option Nat × zH) :=
  f17_2 n  n y0 y1 y1 h
set_option maxRecDepth 20000 in
theorem t17 {d n : Nat} {Q : zRs → zH → Prop}  {y0 : Nat} {y1 : Int32} (hd : 5 ≤ d)  {h : zH} {p : (Option Nat × zH)} (hF : f17 n  y0 y1 h = some p) (q : Q (eA p.1) p.2) : zC d 17 [.ref y0, .int y1] h Q := by
  refine zC_of (L := [some (.ref y0), some (.int y1), none, none]) rfl rfl ?_
  unfold f17 at hF
  obtain ⟨d, rfl⟩ : ∃ e, d = e + 1 := ⟨d - 1, by omega⟩
  refine zx_iload_n rfl rfl rfl ?_
  refine zx_istore_n rfl rfl rfl ?_
  exact tf17_2 hd  n (l0 := y0) (l1 := y1) (l2 := y1) rfl hF q
def f32 (n : Nat)  (y0 : Int32) (h : zH) : Option (Int32 × zH) :=
  if y0 < 32 then
    some (0, h)
  else
    if (126 : Int32) < y0 then
      some (0, h)
    else
      if y0 = 39 then
        some (0, h)
      else
        some (1, h)
set_option maxRecDepth 20000 in
theorem t32 {d n : Nat} {Q : zRs → zH → Prop}  {y0 : Int32} (hd : 0 ≤ d)  {h : zH} {p : (Int32 × zH)} (hF : f32 n  y0 h = some p) (q : Q (eI p.1) p.2) : zC d 32 [.int y0] h Q := by
  refine zC_of (L := [some (.int y0)]) rfl rfl ?_
  unfold f32 at hF
  refine zx_iload_n rfl rfl rfl ?_
  refine zx_bipush (v := 32) rfl rfl rfl ?_
  refine zx_ic_lt rfl rfl (fun c1 => ?_) (fun c1 => ?_)
  · rw [if_pos c1] at hF
    refine zx_iconst (v := 0) rfl rfl rfl ?_
    replace hF := Option.some.inj hF
    subst hF
    exact zx_bret rfl rfl rfl rfl q
  · rw [if_neg c1] at hF
    refine zx_iload_n rfl rfl rfl ?_
    refine zx_bipush (v := 126) rfl rfl rfl ?_
    refine zx_ic_gt rfl rfl (fun c2 => ?_) (fun c2 => ?_)
    · rw [if_pos c2] at hF
      refine zx_iconst (v := 0) rfl rfl rfl ?_
      replace hF := Option.some.inj hF
      subst hF
      exact zx_bret rfl rfl rfl rfl q
    · rw [if_neg c2] at hF
      refine zx_iload_n rfl rfl rfl ?_
      refine zx_bipush (v := 39) rfl rfl rfl ?_
      refine zx_ic_eq rfl rfl (fun c3 => ?_) (fun c3 => ?_)
      · rw [if_pos c3] at hF
        refine zx_iconst (v := 0) rfl rfl rfl ?_
        replace hF := Option.some.inj hF
        subst hF
        exact zx_bret rfl rfl rfl rfl q
      · rw [if_neg c3] at hF
        refine zx_iconst (v := 1) rfl rfl rfl ?_
        refine zx_goto rfl rfl ?_
        replace hF := Option.some.inj hF
        subst hF
        exact zx_bret rfl rfl rfl rfl q
def b31_49 (n : Nat)   (l0 : Nat) (l1 : Int32) (l2 : Int32) (h : zH) : Option (Option Nat × zH) :=
  zgd (isO h l0 8) <|
  (f20 n l0 l1 h).bind fun p3 =>
  some (p3.1, p3.2)
set_option maxRecDepth 20000 in
theorem tb31_49 {d n : Nat} {Q : zRs → zH → Prop}   {l0 : Nat} {l1 : Int32} {l2 : Int32}   (hd : 5 ≤ d)   {h : zH} {p : (Option Nat × zH)}  (hF : b31_49 n   l0 l1 l2 h = some p) (q : Q (eA p.1) p.2) : zW d 31 49 [some (.ref l0), some (.int l1), some (.int l2)] [] h Q := by
  unfold b31_49 at hF
  obtain ⟨d, rfl⟩ : ∃ e, d = e + 1 := ⟨d - 1, by omega⟩
  refine zx_aload_n rfl rfl rfl ?_
  refine zx_iload_n rfl rfl rfl ?_
  replace hF := zgd_some hF
  obtain ⟨g1, hF⟩ := hF
  replace hF := zbnd hF
  obtain ⟨p3, e2, hF⟩ := hF
  refine zx_callE rfl rfl rfl rfl (zrcv_isO g1) rfl rfl (zc4 (Nat.le_of_ble_eq_true rfl)) (t20 (by omega) e2 (zaA ?_))
  replace hF := Option.some.inj hF
  subst hF
  exact zy_areturn (r := p3.1) rfl rfl rfl rfl q
def b31_29 (n : Nat)   (l0 : Nat) (l1 : Int32) (l2 : Int32) (h : zH) : Option (Option Nat × zH) :=
  zgd (isO h l0 8) <|
  (f12 n l0 l2 h).bind fun p3 =>
  if p3.1 = 39 then
    if ((l2 - l1) - 1) ≤ 16 then
      zgd (isO (nO p3.2 9 6) l0 8) <|
      (f21 n l0 (l1 + 1) l2 (nO p3.2 9 6)).bind fun p8 =>
      (f15 n p3.2.1.length (some 5) l1 (l2 + 1) p8.1 0 p8.2).bind fun p10 =>
      some ((some p3.2.1.length), p10.2)
    else
      b31_49 n  l0 l1 l2 p3.2
  else
    b31_49 n  l0 l1 l2 p3.2
set_option maxRecDepth 20000 in
theorem tb31_29 {d n : Nat} {Q : zRs → zH → Prop}   {l0 : Nat} {l1 : Int32} {l2 : Int32}   (hd : 5 ≤ d)   {h : zH} {p : (Option Nat × zH)}  (hF : b31_29 n   l0 l1 l2 h = some p) (q : Q (eA p.1) p.2) : zW d 31 29 [some (.ref l0), some (.int l1), some (.int l2)] [] h Q := by
  unfold b31_29 at hF
  obtain ⟨d, rfl⟩ : ∃ e, d = e + 1 := ⟨d - 1, by omega⟩
  refine zx_aload_n rfl rfl rfl ?_
  refine zx_iload_n rfl rfl rfl ?_
  replace hF := zgd_some hF
  obtain ⟨g1, hF⟩ := hF
  replace hF := zbnd hF
  obtain ⟨p3, e2, hF⟩ := hF
  refine zx_callE rfl rfl rfl rfl (zrcv_isO g1) rfl rfl (zc4 (Nat.le_of_ble_eq_true rfl)) (t12 (by omega) e2 (zaI ?_))
  refine zx_bipush (v := 39) rfl rfl rfl ?_
  refine zx_ic_ne rfl rfl (fun c4 => ?_) (fun c4 => ?_)
  · rw [if_neg c4] at hF
    exact tb31_49 (l0 := l0) (l1 := l1) (l2 := l2) hd   hF q
  · rw [if_pos c4] at hF
    refine zx_iload_n rfl rfl rfl ?_
    refine zx_iload_n rfl rfl rfl ?_
    refine zx_isub rfl rfl ?_
    refine zx_iconst (v := 1) rfl rfl rfl ?_
    refine zx_isub rfl rfl ?_
    refine zx_bipush (v := 16) rfl rfl rfl ?_
    refine zx_ic_le rfl rfl (fun c5 => ?_) (fun c5 => ?_)
    · rw [if_pos c5] at hF
      refine zy_new rfl rfl ?_
      refine zx_dup rfl rfl rfl ?_
      refine zx_gets rfl rfl rfl ?_
      refine zx_iload_n rfl rfl rfl ?_
      refine zx_iload_n rfl rfl rfl ?_
      refine zx_iconst (v := 1) rfl rfl rfl ?_
      refine zx_iadd rfl rfl ?_
      refine zx_aload_n rfl rfl rfl ?_
      refine zx_iload_n rfl rfl rfl ?_
      refine zx_iconst (v := 1) rfl rfl rfl ?_
      refine zx_iadd rfl rfl ?_
      refine zx_iload_n rfl rfl rfl ?_
      replace hF := zgd_some hF
      obtain ⟨g6, hF⟩ := hF
      replace hF := zbnd hF
      obtain ⟨p8, e7, hF⟩ := hF
      refine zx_callE rfl rfl rfl rfl (zrcv_isO g6) rfl rfl (zc8 (zct_i (zct_i (zct_r (zct_r (zct_r zct_n))))) (Nat.le_of_ble_eq_true rfl)) (t21 (by omega) e7 (zaA ?_))
      refine zx_iconst (v := 0) rfl rfl rfl ?_
      replace hF := zbnd hF
      obtain ⟨p10, e9, hF⟩ := hF
      refine zx_callF rfl rfl rfl rfl rfl (congrArg (List.cons _) (congrArg (List.cons _) (congrArg (List.cons _) (congrArg (List.cons _) ((zsl_rf _ _).trans (congrArg (List.cons _) rfl)))))) rfl (zc4 (Nat.le_of_ble_eq_true rfl)) (t15 (by omega) e9 (zaV ?_))
      replace hF := Option.some.inj hF
      subst hF
      exact zy_areturn (r := (some p3.2.1.length)) rfl rfl rfl rfl q
    · rw [if_neg c5] at hF
      exact tb31_49 (l0 := l0) (l1 := l1) (l2 := l2) hd   hF q
def b31_4 (n : Nat)  (r4 : Nat → Int32 → Int32 → zH → Option (Option Nat × zH)) (l0 : Nat) (l1 : Int32) (l2 : Int32) (h : zH) : Option (Option Nat × zH) :=
  (gI h l0 8 1).bind fun x1 =>
  if x1 ≤ l2 then
    b31_29 n  l0 l1 l2 h
  else
    zgd (isO h l0 8) <|
    (f12 n l0 l2 h).bind fun p6 =>
    (f32 n p6.1 p6.2).bind fun p8 =>
    if p8.1 = 0 then
      b31_29 n  l0 l1 l2 p8.2
    else
      r4 l0 l1 (l2 + 1) p8.2
set_option maxRecDepth 20000 in
theorem tb31_4 {d n : Nat} {Q : zRs → zH → Prop}  {r4 : Nat → Int32 → Int32 → zH → Option (Option Nat × zH)} {l0 : Nat} {l1 : Int32} {l2 : Int32}   (hd : 5 ≤ d)  (hr4 : ∀ {l0 : Nat} {l1 : Int32} {l2 : Int32}   {h : zH} {p : (Option Nat × zH)}, r4 l0 l1 l2 h = some p → Q (eA p.1) p.2 → zW d 31 4 [some (.ref l0), some (.int l1), some (.int l2)] [] h Q) {h : zH} {p : (Option Nat × zH)}  (hF : b31_4 n  r4 l0 l1 l2 h = some p) (q : Q (eA p.1) p.2) : zW d 31 4 [some (.ref l0), some (.int l1), some (.int l2)] [] h Q := by
  unfold b31_4 at hF
  obtain ⟨d, rfl⟩ : ∃ e, d = e + 1 := ⟨d - 1, by omega⟩
  refine zx_iload_n rfl rfl rfl ?_
  refine zx_aload_n rfl rfl rfl ?_
  replace hF := zbnd hF
  obtain ⟨x1, e2, hF⟩ := hF
  refine zy_getI rfl rfl e2 ?_
  refine zx_ic_ge rfl rfl (fun c3 => ?_) (fun c3 => ?_)
  · rw [if_pos c3] at hF
    exact tb31_29 (l0 := l0) (l1 := l1) (l2 := l2) hd   hF q
  · rw [if_neg c3] at hF
    refine zx_aload_n rfl rfl rfl ?_
    refine zx_iload_n rfl rfl rfl ?_
    replace hF := zgd_some hF
    obtain ⟨g4, hF⟩ := hF
    replace hF := zbnd hF
    obtain ⟨p6, e5, hF⟩ := hF
    refine zx_callE rfl rfl rfl rfl (zrcv_isO g4) rfl rfl (zc4 (Nat.le_of_ble_eq_true rfl)) (t12 (by omega) e5 (zaI ?_))
    replace hF := zbnd hF
    obtain ⟨p8, e7, hF⟩ := hF
    refine zx_callE rfl rfl rfl rfl rfl rfl rfl (zc4 (Nat.le_of_ble_eq_true rfl)) (t32 (by omega) e7 (zaI ?_))
    refine zx_if_eq rfl rfl (fun c9 => ?_) (fun c9 => ?_)
    · rw [if_pos c9] at hF
      exact tb31_29 (l0 := l0) (l1 := l1) (l2 := l2) hd   hF q
    · rw [if_neg c9] at hF
      refine zx_iinc (w := 1) rfl rfl rfl rfl rfl ?_
      refine zx_goto rfl rfl ?_
      exact hr4  hF q
def f31_4 (n : Nat)   (k : Nat) : Nat → Int32 → Int32 → zH → Option (Option Nat × zH) := Nat.rec (fun _ _ _ _ => none) (fun _ ih => b31_4 n  ih) k
theorem tf31_4 {d n : Nat} {Q : zRs → zH → Prop}   (hd : 5 ≤ d)   (k : Nat) : ∀ {l0 : Nat} {l1 : Int32} {l2 : Int32}   {h : zH} {p : (Option Nat × zH)}, f31_4 n   k l0 l1 l2 h = some p → Q (eA p.1) p.2 → zW d 31 4 [some (.ref l0), some (.int l1), some (.int l2)] [] h Q := by
  induction k with
  | zero => intros; rename_i hF _; cases hF
  | succ k ih => intros; rename_i  hF q; exact tb31_4 (n := n) hd  ih  hF q
def f31 (n : Nat)  (y0 : Nat) (y1 : Int32) (h : zH) : Option (Option Nat × zH) :=
  f31_4 n  n y0 y1 (y1 + 1) h
set_option maxRecDepth 20000 in
theorem t31 {d n : Nat} {Q : zRs → zH → Prop}  {y0 : Nat} {y1 : Int32} (hd : 5 ≤ d)  {h : zH} {p : (Option Nat × zH)} (hF : f31 n  y0 y1 h = some p) (q : Q (eA p.1) p.2) : zC d 31 [.ref y0, .int y1] h Q := by
  refine zC_of (L := [some (.ref y0), some (.int y1), none]) rfl rfl ?_
  unfold f31 at hF
  obtain ⟨d, rfl⟩ : ∃ e, d = e + 1 := ⟨d - 1, by omega⟩
  refine zx_iload_n rfl rfl rfl ?_
  refine zx_iconst (v := 1) rfl rfl rfl ?_
  refine zx_iadd rfl rfl ?_
  refine zx_istore_n rfl rfl rfl ?_
  exact tf31_4 hd  n (l0 := y0) (l1 := y1) (l2 := (y1 + 1))  hF q
def f35 (n : Nat)  (y0 : Nat) (y1 : Int32) (h : zH) : Option (Unit × zH) :=
  if (1 : Int32) = 0 then
    none
  else
    (nA h 1 y1).bind fun h2 =>
    (pF h2 y0 13 0 (.ref h.1.length)).bind fun h4 =>
    (pF h4 y0 13 1 (.int 0)).bind fun h6 =>
    some ((), h6)
set_option maxRecDepth 20000 in
theorem t35 {d n : Nat} {Q : zRs → zH → Prop}  {y0 : Nat} {y1 : Int32} (hd : 0 ≤ d)  {h : zH} {p : (Unit × zH)} (hF : f35 n  y0 y1 h = some p) (q : Q (eV p.1) p.2) : zC d 35 [.ref y0, .int y1] h Q := by
  refine zC_of (L := [some (.ref y0), some (.int y1)]) rfl rfl ?_
  unfold f35 at hF
  refine zx_aload_n rfl rfl rfl ?_
  refine zw_obj rfl rfl rfl (Nat.ble_eq_true_of_le (Nat.le_trans (zcat_le _) (Nat.le_of_ble_eq_true rfl))) ?_
  refine zx_gets rfl rfl rfl ?_
  refine zx_if_eq rfl rfl (fun c1 => ?_) (fun c1 => ?_)
  · rw [if_pos c1] at hF
    cases hF
  · rw [if_neg c1] at hF
    refine zx_aload_n rfl rfl rfl ?_
    refine zx_iload_n rfl rfl rfl ?_
    replace hF := zbnd hF
    obtain ⟨h2, e3, hF⟩ := hF
    refine zy_newarr rfl rfl rfl e3 ?_
    replace hF := zbnd hF
    obtain ⟨h4, e5, hF⟩ := hF
    refine zy_put rfl rfl e5 ?_
    refine zx_aload_n rfl rfl rfl ?_
    refine zx_iconst (v := 0) rfl rfl rfl ?_
    replace hF := zbnd hF
    obtain ⟨h6, e7, hF⟩ := hF
    refine zy_put rfl rfl e7 ?_
    refine zx_goto rfl rfl ?_
    replace hF := Option.some.inj hF
    subst hF
    exact zx_return rfl rfl rfl q
def f34 (n : Nat)  (y0 : Nat) (h : zH) : Option (Unit × zH) :=
  (f35 n y0 16 h).bind fun p2 =>
  some ((), p2.2)
set_option maxRecDepth 20000 in
theorem t34 {d n : Nat} {Q : zRs → zH → Prop}  {y0 : Nat} (hd : 1 ≤ d)  {h : zH} {p : (Unit × zH)} (hF : f34 n  y0 h = some p) (q : Q (eV p.1) p.2) : zC d 34 [.ref y0] h Q := by
  refine zC_of (L := [some (.ref y0)]) rfl rfl ?_
  unfold f34 at hF
  obtain ⟨d, rfl⟩ : ∃ e, d = e + 1 := ⟨d - 1, by omega⟩
  refine zx_aload_n rfl rfl rfl ?_
  refine zx_bipush (v := 16) rfl rfl rfl ?_
  replace hF := zbnd hF
  obtain ⟨p2, e1, hF⟩ := hF
  refine zx_callF rfl rfl rfl rfl rfl rfl rfl (zc4 (Nat.le_of_ble_eq_true rfl)) (t35 (by omega) e1 (zaV ?_))
  replace hF := Option.some.inj hF
  subst hF
  exact zx_return rfl rfl rfl q
def b38_16 (n : Nat)  (r16 : Int32 → Int32 → Int32 → Int32 → zH → Option (Int32 × zH)) (l0 : Int32) (l1 : Int32) (l2 : Int32) (l3 : Int32) (h : zH) : Option (Int32 × zH) :=
  if (10 : Int32) ≤ l3 then
    some ((10 + l1), h)
  else
    if l0 ≤ l2 then
      r16 l0 l1 (10 * l2) (l3 + 1) h
    else
      some ((l3 + l1), h)
set_option maxRecDepth 20000 in
theorem tb38_16 {d n : Nat} {Q : zRs → zH → Prop}  {r16 : Int32 → Int32 → Int32 → Int32 → zH → Option (Int32 × zH)} {l0 : Int32} {l1 : Int32} {l2 : Int32} {l3 : Int32}   (hd : 0 ≤ d)  (hr16 : ∀ {l0 : Int32} {l1 : Int32} {l2 : Int32} {l3 : Int32}   {h : zH} {p : (Int32 × zH)}, r16 l0 l1 l2 l3 h = some p → Q (eI p.1) p.2 → zW d 38 16 [some (.int l0), some (.int l1), some (.int l2), some (.int l3)] [] h Q) {h : zH} {p : (Int32 × zH)}  (hF : b38_16 n  r16 l0 l1 l2 l3 h = some p) (q : Q (eI p.1) p.2) : zW d 38 16 [some (.int l0), some (.int l1), some (.int l2), some (.int l3)] [] h Q := by
  unfold b38_16 at hF
  refine zx_iload_n rfl rfl rfl ?_
  refine zx_bipush (v := 10) rfl rfl rfl ?_
  refine zx_ic_ge rfl rfl (fun c1 => ?_) (fun c1 => ?_)
  · rw [if_pos c1] at hF
    refine zx_bipush (v := 10) rfl rfl rfl ?_
    refine zx_iload_n rfl rfl rfl ?_
    refine zx_iadd rfl rfl ?_
    replace hF := Option.some.inj hF
    subst hF
    exact zx_bret rfl rfl rfl rfl q
  · rw [if_neg c1] at hF
    refine zx_iload_n rfl rfl rfl ?_
    refine zx_iload_n rfl rfl rfl ?_
    refine zx_ic_le rfl rfl (fun c2 => ?_) (fun c2 => ?_)
    · rw [if_pos c2] at hF
      refine zx_bipush (v := 10) rfl rfl rfl ?_
      refine zx_iload_n rfl rfl rfl ?_
      refine zx_imul rfl rfl ?_
      refine zx_istore_n rfl rfl rfl ?_
      refine zx_iinc (w := 1) rfl rfl rfl rfl rfl ?_
      refine zx_goto rfl rfl ?_
      exact hr16  hF q
    · rw [if_neg c2] at hF
      refine zx_iload_n rfl rfl rfl ?_
      refine zx_iload_n rfl rfl rfl ?_
      refine zx_iadd rfl rfl ?_
      replace hF := Option.some.inj hF
      subst hF
      exact zx_bret rfl rfl rfl rfl q
def f38_16 (n : Nat)   (k : Nat) : Int32 → Int32 → Int32 → Int32 → zH → Option (Int32 × zH) := Nat.rec (fun _ _ _ _ _ => none) (fun _ ih => b38_16 n  ih) k
theorem tf38_16 {d n : Nat} {Q : zRs → zH → Prop}   (hd : 0 ≤ d)   (k : Nat) : ∀ {l0 : Int32} {l1 : Int32} {l2 : Int32} {l3 : Int32}   {h : zH} {p : (Int32 × zH)}, f38_16 n   k l0 l1 l2 l3 h = some p → Q (eI p.1) p.2 → zW d 38 16 [some (.int l0), some (.int l1), some (.int l2), some (.int l3)] [] h Q := by
  induction k with
  | zero => intros; rename_i hF _; cases hF
  | succ k ih => intros; rename_i  hF q; exact tb38_16 (n := n) hd  ih  hF q
def b38_11 (n : Nat)   (l0 : Int32) (l1 : Int32) (h : zH) : Option (Int32 × zH) :=
  f38_16 n  n l0 l1 (-10) 1 h
set_option maxRecDepth 20000 in
theorem tb38_11 {d n : Nat} {Q : zRs → zH → Prop}   {l0 : Int32} {l1 : Int32}  {x2 : Option Value} {x3 : Option Value} (hd : 0 ≤ d)   {h : zH} {p : (Int32 × zH)} (hx2 : zn2 x2 = true) (hx3 : zn2 x3 = true) (hF : b38_11 n   l0 l1 h = some p) (q : Q (eI p.1) p.2) : zW d 38 11 [some (.int l0), some (.int l1), x2, x3] [] h Q := by
  unfold b38_11 at hF
  refine zx_bipush (v := (-10)) rfl rfl rfl ?_
  refine zx_istore_n rfl rfl rfl ?_
  refine zx_iconst (v := 1) rfl rfl rfl ?_
  refine zx_istore_n rfl rfl rfl ?_
  exact tf38_16 hd  n (l0 := l0) (l1 := l1) (l2 := (-10)) (l3 := 1)  hF q
def f38 (n : Nat)  (y0 : Int32) (h : zH) : Option (Int32 × zH) :=
  if y0 < 0 then
    b38_11 n  y0 1 h
  else
    b38_11 n  (-y0) 0 h
set_option maxRecDepth 20000 in
theorem t38 {d n : Nat} {Q : zRs → zH → Prop}  {y0 : Int32} (hd : 0 ≤ d)  {h : zH} {p : (Int32 × zH)} (hF : f38 n  y0 h = some p) (q : Q (eI p.1) p.2) : zC d 38 [.int y0] h Q := by
  refine zC_of (L := [some (.int y0), none, none, none]) rfl rfl ?_
  unfold f38 at hF
  refine zx_iconst (v := 1) rfl rfl rfl ?_
  refine zx_istore_n rfl rfl rfl ?_
  refine zx_iload_n rfl rfl rfl ?_
  refine zx_if_lt rfl rfl (fun c1 => ?_) (fun c1 => ?_)
  · rw [if_pos c1] at hF
    exact tb38_11 (l0 := y0) (l1 := 1) hd  rfl rfl hF q
  · rw [if_neg c1] at hF
    refine zx_iconst (v := 0) rfl rfl rfl ?_
    refine zx_istore_n rfl rfl rfl ?_
    refine zx_iload_n rfl rfl rfl ?_
    refine zx_ineg rfl rfl ?_
    refine zx_istore_n rfl rfl rfl ?_
    exact tb38_11 (l0 := (-y0)) (l1 := 0) hd  rfl rfl hF q
def f41 (n : Nat)  (y0 : Int32) (y1 : Int32) (y2 : Int32) (h : zH) : Option (Int32 × zH) :=
  (f22 n y1 y2 h).bind fun p2 =>
  if (y0 + p2.1) ≤ (0 : Int32) then
    none
  else
    if (2147483639 : Int32) < (y0 + p2.1) then
      none
    else
      some ((y0 + p2.1), p2.2)
set_option maxRecDepth 20000 in
theorem t41 {d n : Nat} {Q : zRs → zH → Prop}  {y0 : Int32} {y1 : Int32} {y2 : Int32} (hd : 1 ≤ d)  {h : zH} {p : (Int32 × zH)} (hF : f41 n  y0 y1 y2 h = some p) (q : Q (eI p.1) p.2) : zC d 41 [.int y0, .int y1, .int y2] h Q := by
  refine zC_of (L := [some (.int y0), some (.int y1), some (.int y2), none]) rfl rfl ?_
  unfold f41 at hF
  obtain ⟨d, rfl⟩ : ∃ e, d = e + 1 := ⟨d - 1, by omega⟩
  refine zx_iload_n rfl rfl rfl ?_
  refine zx_iload_n rfl rfl rfl ?_
  refine zx_iload_n rfl rfl rfl ?_
  replace hF := zbnd hF
  obtain ⟨p2, e1, hF⟩ := hF
  refine zx_callE rfl rfl rfl rfl rfl rfl rfl (zc4 (Nat.le_of_ble_eq_true rfl)) (t22 (by omega) e1 (zaI ?_))
  refine zx_iadd rfl rfl ?_
  refine zx_istore_n rfl rfl rfl ?_
  refine zx_iconst (v := 0) rfl rfl rfl ?_
  refine zx_iload_n rfl rfl rfl ?_
  refine zx_ic_ge rfl rfl (fun c3 => ?_) (fun c3 => ?_)
  · rw [if_pos c3] at hF
    cases hF
  · rw [if_neg c3] at hF
    refine zx_iload_n rfl rfl rfl ?_
    refine zx_ldc rfl rfl rfl ?_
    refine zx_ic_gt rfl rfl (fun c4 => ?_) (fun c4 => ?_)
    · rw [if_pos c4] at hF
      cases hF
    · rw [if_neg c4] at hF
      refine zx_iload_n rfl rfl rfl ?_
      replace hF := Option.some.inj hF
      subst hF
      exact zx_bret rfl rfl rfl rfl q
def f40 (n : Nat)  (y0 : Nat) (y1 : Int32) (h : zH) : Option (Int32 × zH) :=
  (gR h y0 13 0).bind fun x1 =>
  x1.bind fun a3 =>
  (aN h a3).bind fun x4 =>
  (gI h y0 13 1).bind fun x6 =>
  (gI h y0 13 1).bind fun x8 =>
  (f41 n x4 ((y1 <<< (x6 &&& 31)) - x4) (x4 + (2 <<< (x8 &&& 31))) h).bind fun p11 =>
  if p11.1 = 2147483647 then
    none
  else
    (gI p11.2 y0 13 1).bind fun x13 =>
    some ((p11.1 >>> (x13 &&& 31)), p11.2)
set_option maxRecDepth 20000 in
theorem t40 {d n : Nat} {Q : zRs → zH → Prop}  {y0 : Nat} {y1 : Int32} (hd : 2 ≤ d)  {h : zH} {p : (Int32 × zH)} (hF : f40 n  y0 y1 h = some p) (q : Q (eI p.1) p.2) : zC d 40 [.ref y0, .int y1] h Q := by
  refine zC_of (L := [some (.ref y0), some (.int y1), none, none, none, none]) rfl rfl ?_
  unfold f40 at hF
  obtain ⟨d, rfl⟩ : ∃ e, d = e + 1 := ⟨d - 1, by omega⟩
  refine zx_aload_n rfl rfl rfl ?_
  replace hF := zbnd hF
  obtain ⟨x1, e2, hF⟩ := hF
  refine zy_getR rfl rfl e2 ?_
  replace hF := zbnd hF
  obtain ⟨a3, rfl, hF⟩ := hF
  replace hF := zbnd hF
  obtain ⟨x4, e5, hF⟩ := hF
  refine zy_alen rfl rfl e5 ?_
  refine zx_istore_n rfl rfl rfl ?_
  refine zx_iload_n rfl rfl rfl ?_
  refine zx_aload_n rfl rfl rfl ?_
  replace hF := zbnd hF
  obtain ⟨x6, e7, hF⟩ := hF
  refine zy_getI rfl rfl e7 ?_
  refine zx_ishl rfl rfl ?_
  refine zx_istore_n rfl rfl rfl ?_
  refine zx_iload_n rfl rfl rfl ?_
  refine zx_iload_n rfl rfl rfl ?_
  refine zx_isub rfl rfl ?_
  refine zx_istore rfl rfl rfl ?_
  refine zx_iload_n rfl rfl rfl ?_
  refine zx_iload rfl rfl rfl ?_
  refine zx_iload_n rfl rfl rfl ?_
  refine zx_iconst (v := 2) rfl rfl rfl ?_
  refine zx_aload_n rfl rfl rfl ?_
  replace hF := zbnd hF
  obtain ⟨x8, e9, hF⟩ := hF
  refine zy_getI rfl rfl e9 ?_
  refine zx_ishl rfl rfl ?_
  refine zx_iadd rfl rfl ?_
  replace hF := zbnd hF
  obtain ⟨p11, e10, hF⟩ := hF
  refine zx_callE rfl rfl rfl rfl rfl rfl rfl (zc4 (Nat.le_of_ble_eq_true rfl)) (t41 (by omega) e10 (zaI ?_))
  refine zx_istore rfl rfl rfl ?_
  refine zx_iload rfl rfl rfl ?_
  refine zx_ldc rfl rfl rfl ?_
  refine zx_ic_ne rfl rfl (fun c12 => ?_) (fun c12 => ?_)
  · rw [if_neg c12] at hF
    refine zx_iload rfl rfl rfl ?_
    refine zx_aload_n rfl rfl rfl ?_
    replace hF := zbnd hF
    obtain ⟨x13, e14, hF⟩ := hF
    refine zy_getI rfl rfl e14 ?_
    refine zx_ishr rfl rfl ?_
    replace hF := Option.some.inj hF
    subst hF
    exact zx_bret rfl rfl rfl rfl q
  · rw [if_pos c12] at hF
    cases hF
def f43 (n : Nat)  (y0 : Int32) (y1 : Int32) (h : zH) : Option (Int32 × zH) :=
  if y1 < y0 then
    some (y1, h)
  else
    some (y0, h)
set_option maxRecDepth 20000 in
theorem t43 {d n : Nat} {Q : zRs → zH → Prop}  {y0 : Int32} {y1 : Int32} (hd : 0 ≤ d)  {h : zH} {p : (Int32 × zH)} (hF : f43 n  y0 y1 h = some p) (q : Q (eI p.1) p.2) : zC d 43 [.int y0, .int y1] h Q := by
  refine zC_of (L := [some (.int y0), some (.int y1)]) rfl rfl ?_
  unfold f43 at hF
  refine zx_iload_n rfl rfl rfl ?_
  refine zx_iload_n rfl rfl rfl ?_
  refine zx_ic_gt rfl rfl (fun c1 => ?_) (fun c1 => ?_)
  · rw [if_pos c1] at hF
    refine zx_iload_n rfl rfl rfl ?_
    replace hF := Option.some.inj hF
    subst hF
    exact zx_bret rfl rfl rfl rfl q
  · rw [if_neg c1] at hF
    refine zx_iload_n rfl rfl rfl ?_
    refine zx_goto rfl rfl ?_
    replace hF := Option.some.inj hF
    subst hF
    exact zx_bret rfl rfl rfl rfl q
def f42 (n : Nat)  (y0 : Option Nat) (y1 : Int32) (h : zH) : Option (Option Nat × zH) :=
  y0.bind fun a1 =>
  (aN h a1).bind fun x2 =>
  if y1 = x2 then
    none
  else
    (nA h 1 y1).bind fun h5 =>
    (aN h5 a1).bind fun x7 =>
    (f43 n x7 y1 h5).bind fun p10 =>
    (nt0 p10.2 a1 0 h.1.length 0 p10.1).bind fun h11 =>
    some ((some h.1.length), h11)
set_option maxRecDepth 20000 in
theorem t42 {d n : Nat} {Q : zRs → zH → Prop}  {y0 : Option Nat} {y1 : Int32} (hd : 1 ≤ d)  {h : zH} {p : (Option Nat × zH)} (hF : f42 n  y0 y1 h = some p) (q : Q (eA p.1) p.2) : zC d 42 [va_rf y0, .int y1] h Q := by
  refine zC_of (L := [some (va_rf y0), some (.int y1), none]) ((zsl_rf _ _).trans (congrArg (List.cons _) rfl)) rfl ?_
  unfold f42 at hF
  obtain ⟨d, rfl⟩ : ∃ e, d = e + 1 := ⟨d - 1, by omega⟩
  refine zx_iload_n rfl rfl rfl ?_
  refine zy_rload_n rfl rfl rfl ?_
  replace hF := zbnd hF
  obtain ⟨a1, rfl, hF⟩ := hF
  replace hF := zbnd hF
  obtain ⟨x2, e3, hF⟩ := hF
  refine zy_alen rfl rfl e3 ?_
  refine zx_ic_ne rfl rfl (fun c4 => ?_) (fun c4 => ?_)
  · rw [if_neg c4] at hF
    refine zx_iload_n rfl rfl rfl ?_
    replace hF := zbnd hF
    obtain ⟨h5, e6, hF⟩ := hF
    refine zy_newarr rfl rfl rfl e6 ?_
    refine zx_astore_n rfl rfl rfl ?_
    refine zx_aload_n rfl rfl rfl ?_
    refine zx_iconst (v := 0) rfl rfl rfl ?_
    refine zx_aload_n rfl rfl rfl ?_
    refine zx_iconst (v := 0) rfl rfl rfl ?_
    refine zx_aload_n rfl rfl rfl ?_
    replace hF := zbnd hF
    obtain ⟨x7, e8, hF⟩ := hF
    refine zy_alen rfl rfl e8 ?_
    refine zx_iload_n rfl rfl rfl ?_
    replace hF := zbnd hF
    obtain ⟨p10, e9, hF⟩ := hF
    refine zx_callE rfl rfl rfl rfl rfl rfl rfl (zc4 (Nat.le_of_ble_eq_true rfl)) (t43 (by omega) e9 (zaI ?_))
    replace hF := zbnd hF
    obtain ⟨h11, e12, hF⟩ := hF
    refine zy_nat0 rfl rfl rfl e12 ?_
    refine zx_aload_n rfl rfl rfl ?_
    replace hF := Option.some.inj hF
    subst hF
    exact zy_areturn (r := (some h.1.length)) rfl rfl rfl rfl q
  · rw [if_pos c4] at hF
    cases hF
def f39 (n : Nat)  (y0 : Nat) (y1 : Int32) (h : zH) : Option (Unit × zH) :=
  (gR h y0 13 0).bind fun x1 =>
  x1.bind fun a3 =>
  (aN h a3).bind fun x4 =>
  (gI h y0 13 1).bind fun x6 =>
  if (y1 - (x4 >>> (x6 &&& 31))) ≤ 0 then
    some ((), h)
  else
    (gR h y0 13 0).bind fun x9 =>
    zgd (isO h y0 13) <|
    (f40 n y0 y1 h).bind fun p13 =>
    (gI p13.2 y0 13 1).bind fun x14 =>
    (f42 n x9 (p13.1 <<< (x14 &&& 31)) p13.2).bind fun p17 =>
    (pF p17.2 y0 13 0 (va_rf p17.1)).bind fun h18 =>
    some ((), h18)
set_option maxRecDepth 20000 in
theorem t39 {d n : Nat} {Q : zRs → zH → Prop}  {y0 : Nat} {y1 : Int32} (hd : 3 ≤ d)  {h : zH} {p : (Unit × zH)} (hF : f39 n  y0 y1 h = some p) (q : Q (eV p.1) p.2) : zC d 39 [.ref y0, .int y1] h Q := by
  refine zC_of (L := [some (.ref y0), some (.int y1), none]) rfl rfl ?_
  unfold f39 at hF
  obtain ⟨d, rfl⟩ : ∃ e, d = e + 1 := ⟨d - 1, by omega⟩
  refine zx_aload_n rfl rfl rfl ?_
  replace hF := zbnd hF
  obtain ⟨x1, e2, hF⟩ := hF
  refine zy_getR rfl rfl e2 ?_
  replace hF := zbnd hF
  obtain ⟨a3, rfl, hF⟩ := hF
  replace hF := zbnd hF
  obtain ⟨x4, e5, hF⟩ := hF
  refine zy_alen rfl rfl e5 ?_
  refine zx_aload_n rfl rfl rfl ?_
  replace hF := zbnd hF
  obtain ⟨x6, e7, hF⟩ := hF
  refine zy_getI rfl rfl e7 ?_
  refine zx_ishr rfl rfl ?_
  refine zx_istore_n rfl rfl rfl ?_
  refine zx_iload_n rfl rfl rfl ?_
  refine zx_iload_n rfl rfl rfl ?_
  refine zx_isub rfl rfl ?_
  refine zx_if_le rfl rfl (fun c8 => ?_) (fun c8 => ?_)
  · rw [if_pos c8] at hF
    replace hF := Option.some.inj hF
    subst hF
    exact zx_return rfl rfl rfl q
  · rw [if_neg c8] at hF
    refine zx_aload_n rfl rfl rfl ?_
    refine zx_aload_n rfl rfl rfl ?_
    replace hF := zbnd hF
    obtain ⟨x9, e10, hF⟩ := hF
    refine zy_getR rfl rfl e10 ?_
    refine zx_aload_n rfl rfl rfl ?_
    refine zx_iload_n rfl rfl rfl ?_
    replace hF := zgd_some hF
    obtain ⟨g11, hF⟩ := hF
    replace hF := zbnd hF
    obtain ⟨p13, e12, hF⟩ := hF
    refine zx_callF rfl rfl rfl rfl (zrcv_isO g11) rfl rfl (zc4 (Nat.le_of_ble_eq_true rfl)) (t40 (by omega) e12 (zaI ?_))
    refine zx_aload_n rfl rfl rfl ?_
    replace hF := zbnd hF
    obtain ⟨x14, e15, hF⟩ := hF
    refine zy_getI rfl rfl e15 ?_
    refine zx_ishl rfl rfl ?_
    replace hF := zbnd hF
    obtain ⟨p17, e16, hF⟩ := hF
    refine zx_callE rfl rfl rfl rfl rfl ((zsl_rf _ _).trans (congrArg (List.cons _) rfl)) rfl (zc4 (Nat.le_of_ble_eq_true rfl)) (t42 (by omega) e16 (zaA ?_))
    replace hF := zbnd hF
    obtain ⟨h18, e19, hF⟩ := hF
    refine zy_put rfl rfl e19 ?_
    replace hF := Option.some.inj hF
    subst hF
    exact zx_return rfl rfl rfl q
def f44 (n : Nat)  (y0 : Nat) (h : zH) : Option (Int32 × zH) :=
  if (1 : Int32) = 0 then
    some (0, h)
  else
    (gI h y0 13 1).bind fun x2 =>
    if x2 = 0 then
      some (1, h)
    else
      some (0, h)
set_option maxRecDepth 20000 in
theorem t44 {d n : Nat} {Q : zRs → zH → Prop}  {y0 : Nat} (hd : 0 ≤ d)  {h : zH} {p : (Int32 × zH)} (hF : f44 n  y0 h = some p) (q : Q (eI p.1) p.2) : zC d 44 [.ref y0] h Q := by
  refine zC_of (L := [some (.ref y0)]) rfl rfl ?_
  unfold f44 at hF
  refine zx_gets rfl rfl rfl ?_
  refine zx_if_eq rfl rfl (fun c1 => ?_) (fun c1 => ?_)
  · rw [if_pos c1] at hF
    refine zx_iconst (v := 0) rfl rfl rfl ?_
    replace hF := Option.some.inj hF
    subst hF
    exact zx_bret rfl rfl rfl rfl q
  · rw [if_neg c1] at hF
    refine zx_aload_n rfl rfl rfl ?_
    replace hF := zbnd hF
    obtain ⟨x2, e3, hF⟩ := hF
    refine zy_getI rfl rfl e3 ?_
    refine zx_if_ne rfl rfl (fun c4 => ?_) (fun c4 => ?_)
    · rw [if_neg c4] at hF
      refine zx_iconst (v := 0) rfl rfl rfl ?_
      replace hF := Option.some.inj hF
      subst hF
      exact zx_bret rfl rfl rfl rfl q
    · rw [if_pos c4] at hF
      refine zx_iconst (v := 1) rfl rfl rfl ?_
      refine zx_goto rfl rfl ?_
      replace hF := Option.some.inj hF
      subst hF
      exact zx_bret rfl rfl rfl rfl q
def b45_104 (n : Nat)   (l0 : Int32) (l1 : Int32) (l2 : Option Nat) (l5 : Int32) (l6 : Int32) (h : zH) : Option (Int32 × zH) :=
  if l6 = 0 then
    some (l5, h)
  else
    l2.bind fun a2 =>
    (aS zsB h a2 (l5 + (-1)) (.int 45)).bind fun h3 =>
    some ((l5 + (-1)), h3)
set_option maxRecDepth 20000 in
theorem tb45_104 {d n : Nat} {Q : zRs → zH → Prop}   {l0 : Int32} {l1 : Int32} {l2 : Option Nat} {l5 : Int32} {l6 : Int32}  {x3 : Option Value} {x4 : Option Value} (hd : 0 ≤ d)   {h : zH} {p : (Int32 × zH)} (hx3 : zn2 x3 = true) (hx4 : zn2 x4 = true) (hF : b45_104 n   l0 l1 l2 l5 l6 h = some p) (q : Q (eI p.1) p.2) : zW d 45 104 [some (.int l0), some (.int l1), some (va_rf l2), x3, x4, some (.int l5), some (.int l6)] [] h Q := by
  unfold b45_104 at hF
  refine zx_iload rfl rfl rfl ?_
  refine zx_if_eq rfl rfl (fun c1 => ?_) (fun c1 => ?_)
  · rw [if_pos c1] at hF
    refine zx_iload rfl rfl rfl ?_
    replace hF := Option.some.inj hF
    subst hF
    exact zx_bret rfl rfl rfl rfl q
  · rw [if_neg c1] at hF
    refine zy_rload_n rfl rfl rfl ?_
    refine zx_iinc (w := (-1)) rfl rfl rfl rfl (zput_ok (L' := [some (.int l0), some (.int l1), some (va_rf l2), x3, x4, some (.int (l5 + (-1))), some (.int l6)]) rfl (zcl_X (j := 4) rfl hx4) rfl) ?_
    refine zx_iload rfl rfl rfl ?_
    refine zx_bipush (v := 45) rfl rfl rfl ?_
    replace hF := zbnd hF
    obtain ⟨a2, rfl, hF⟩ := hF
    replace hF := zbnd hF
    obtain ⟨h3, e4, hF⟩ := hF
    refine zy_sB rfl rfl e4 ?_
    refine zx_iload rfl rfl rfl ?_
    replace hF := Option.some.inj hF
    subst hF
    exact zx_bret rfl rfl rfl rfl q
def b45_22 (n : Nat)  (r22 : Int32 → Int32 → Option Nat → Int32 → Int32 → zH → Option (Int32 × zH)) (l0 : Int32) (l1 : Int32) (l2 : Option Nat) (l5 : Int32) (l6 : Int32) (h : zH) : Option (Int32 × zH) :=
  if (-100 : Int32) < l0 then
    (aB h 46 (-l0)).bind fun x2 =>
    l2.bind fun a4 =>
    (aS zsB h a4 (l5 + (-1)) (.int x2)).bind fun h5 =>
    if (-9 : Int32) ≤ l0 then
      b45_104 n  l0 l1 (some a4) (l5 + (-1)) l6 h5
    else
      (aB h5 47 (-l0)).bind fun x8 =>
      (aS zsB h5 a4 ((l5 + (-1)) + (-1)) (.int x8)).bind fun h10 =>
      b45_104 n  l0 l1 (some a4) ((l5 + (-1)) + (-1)) l6 h10
  else
    (aB h 46 (((l0 / 100) * 100) - l0)).bind fun x12 =>
    l2.bind fun a14 =>
    (aS zsB h a14 (l5 + (-1)) (.int x12)).bind fun h15 =>
    (aB h15 47 (((l0 / 100) * 100) - l0)).bind fun x17 =>
    (aS zsB h15 a14 ((l5 + (-1)) + (-1)) (.int x17)).bind fun h19 =>
    r22 (l0 / 100) l1 (some a14) ((l5 + (-1)) + (-1)) l6 h19
set_option maxRecDepth 20000 in
theorem tb45_22 {d n : Nat} {Q : zRs → zH → Prop}  {r22 : Int32 → Int32 → Option Nat → Int32 → Int32 → zH → Option (Int32 × zH)} {l0 : Int32} {l1 : Int32} {l2 : Option Nat} {l5 : Int32} {l6 : Int32}  {x3 : Option Value} {x4 : Option Value} (hd : 0 ≤ d)  (hr22 : ∀ {l0 : Int32} {l1 : Int32} {l2 : Option Nat} {l5 : Int32} {l6 : Int32}  {x3 : Option Value} {x4 : Option Value} {h : zH} {p : (Int32 × zH)}, zn2 x3 = true → zn2 x4 = true → r22 l0 l1 l2 l5 l6 h = some p → Q (eI p.1) p.2 → zW d 45 22 [some (.int l0), some (.int l1), some (va_rf l2), x3, x4, some (.int l5), some (.int l6)] [] h Q) {h : zH} {p : (Int32 × zH)} (hx3 : zn2 x3 = true) (hx4 : zn2 x4 = true) (hF : b45_22 n  r22 l0 l1 l2 l5 l6 h = some p) (q : Q (eI p.1) p.2) : zW d 45 22 [some (.int l0), some (.int l1), some (va_rf l2), x3, x4, some (.int l5), some (.int l6)] [] h Q := by
  unfold b45_22 at hF
  refine zx_iload_n rfl rfl rfl ?_
  refine zx_bipush (v := (-100)) rfl rfl rfl ?_
  refine zx_ic_gt rfl rfl (fun c1 => ?_) (fun c1 => ?_)
  · rw [if_pos c1] at hF
    refine zy_rload_n rfl rfl rfl ?_
    refine zx_iinc (w := (-1)) rfl rfl rfl rfl (zput_ok (L' := [some (.int l0), some (.int l1), some (va_rf l2), x3, x4, some (.int (l5 + (-1))), some (.int l6)]) rfl (zcl_X (j := 4) rfl hx4) rfl) ?_
    refine zx_iload rfl rfl rfl ?_
    refine zx_gets rfl rfl rfl ?_
    refine zx_iload_n rfl rfl rfl ?_
    refine zx_ineg rfl rfl ?_
    replace hF := zbnd hF
    obtain ⟨x2, e3, hF⟩ := hF
    refine zy_aB rfl rfl e3 ?_
    replace hF := zbnd hF
    obtain ⟨a4, rfl, hF⟩ := hF
    replace hF := zbnd hF
    obtain ⟨h5, e6, hF⟩ := hF
    refine zy_sB rfl rfl e6 ?_
    refine zx_iload_n rfl rfl rfl ?_
    refine zx_bipush (v := (-9)) rfl rfl rfl ?_
    refine zx_ic_ge rfl rfl (fun c7 => ?_) (fun c7 => ?_)
    · rw [if_pos c7] at hF
      exact tb45_104 (l0 := l0) (l1 := l1) (l2 := (some a4)) (l5 := (l5 + (-1))) (l6 := l6) hd  hx3 hx4 hF q
    · rw [if_neg c7] at hF
      refine zx_aload_n rfl rfl rfl ?_
      refine zx_iinc (w := (-1)) rfl rfl rfl rfl (zput_ok (L' := [some (.int l0), some (.int l1), some (.ref a4), x3, x4, some (.int ((l5 + (-1)) + (-1))), some (.int l6)]) rfl (zcl_X (j := 4) rfl hx4) rfl) ?_
      refine zx_iload rfl rfl rfl ?_
      refine zx_gets rfl rfl rfl ?_
      refine zx_iload_n rfl rfl rfl ?_
      refine zx_ineg rfl rfl ?_
      replace hF := zbnd hF
      obtain ⟨x8, e9, hF⟩ := hF
      refine zy_aB rfl rfl e9 ?_
      replace hF := zbnd hF
      obtain ⟨h10, e11, hF⟩ := hF
      refine zy_sB rfl rfl e11 ?_
      exact tb45_104 (l0 := l0) (l1 := l1) (l2 := (some a4)) (l5 := ((l5 + (-1)) + (-1))) (l6 := l6) hd  hx3 hx4 hF q
  · rw [if_neg c1] at hF
    refine zx_iload_n rfl rfl rfl ?_
    refine zx_bipush (v := 100) rfl rfl rfl ?_
    refine zx_idiv rfl rfl (by decide) ?_
    refine zx_istore_n rfl rfl (zput_ok (L' := [some (.int l0), some (.int l1), some (va_rf l2), some (.int (l0 / 100)), x4, some (.int l5), some (.int l6)]) rfl (zcl_X (j := 2) rfl (zn2_rf _)) rfl) ?_
    refine zx_iload_n rfl rfl rfl ?_
    refine zx_bipush (v := 100) rfl rfl rfl ?_
    refine zx_imul rfl rfl ?_
    refine zx_iload_n rfl rfl rfl ?_
    refine zx_isub rfl rfl ?_
    refine zx_istore rfl rfl rfl ?_
    refine zx_iload_n rfl rfl rfl ?_
    refine zx_istore_n rfl rfl rfl ?_
    refine zy_rload_n rfl rfl rfl ?_
    refine zx_iinc (w := (-1)) rfl rfl rfl rfl rfl ?_
    refine zx_iload rfl rfl rfl ?_
    refine zx_gets rfl rfl rfl ?_
    refine zx_iload rfl rfl rfl ?_
    replace hF := zbnd hF
    obtain ⟨x12, e13, hF⟩ := hF
    refine zy_aB rfl rfl e13 ?_
    replace hF := zbnd hF
    obtain ⟨a14, rfl, hF⟩ := hF
    replace hF := zbnd hF
    obtain ⟨h15, e16, hF⟩ := hF
    refine zy_sB rfl rfl e16 ?_
    refine zx_aload_n rfl rfl rfl ?_
    refine zx_iinc (w := (-1)) rfl rfl rfl rfl rfl ?_
    refine zx_iload rfl rfl rfl ?_
    refine zx_gets rfl rfl rfl ?_
    refine zx_iload rfl rfl rfl ?_
    replace hF := zbnd hF
    obtain ⟨x17, e18, hF⟩ := hF
    refine zy_aB rfl rfl e18 ?_
    replace hF := zbnd hF
    obtain ⟨h19, e20, hF⟩ := hF
    refine zy_sB rfl rfl e20 ?_
    refine zx_goto rfl rfl ?_
    exact hr22 rfl rfl hF q
def f45_22 (n : Nat)   (k : Nat) : Int32 → Int32 → Option Nat → Int32 → Int32 → zH → Option (Int32 × zH) := Nat.rec (fun _ _ _ _ _ _ => none) (fun _ ih => b45_22 n  ih) k
theorem tf45_22 {d n : Nat} {Q : zRs → zH → Prop}   (hd : 0 ≤ d)   (k : Nat) : ∀ {l0 : Int32} {l1 : Int32} {l2 : Option Nat} {l5 : Int32} {l6 : Int32}  {x3 : Option Value} {x4 : Option Value} {h : zH} {p : (Int32 × zH)}, zn2 x3 = true → zn2 x4 = true → f45_22 n   k l0 l1 l2 l5 l6 h = some p → Q (eI p.1) p.2 → zW d 45 22 [some (.int l0), some (.int l1), some (va_rf l2), x3, x4, some (.int l5), some (.int l6)] [] h Q := by
  induction k with
  | zero => intros; rename_i hF _; cases hF
  | succ k ih => intros; rename_i hx3 hx4 hF q; exact tb45_22 (n := n) hd  ih hx3 hx4 hF q
def b45_12 (n : Nat)   (l0 : Int32) (l1 : Int32) (l2 : Option Nat) (l5 : Int32) (s0 : Int32) (h : zH) : Option (Int32 × zH) :=
  if s0 = 0 then
    f45_22 n  n (-l0) l1 l2 l5 s0 h
  else
    f45_22 n  n l0 l1 l2 l5 s0 h
set_option maxRecDepth 20000 in
theorem tb45_12 {d n : Nat} {Q : zRs → zH → Prop}   {l0 : Int32} {l1 : Int32} {l2 : Option Nat} {l5 : Int32} {s0 : Int32} {x3 : Option Value} {x4 : Option Value} {x6 : Option Value} (hd : 0 ≤ d)   {h : zH} {p : (Int32 × zH)} (hx3 : zn2 x3 = true) (hx4 : zn2 x4 = true) (hx6 : zn2 x6 = true) (hF : b45_12 n   l0 l1 l2 l5 s0 h = some p) (q : Q (eI p.1) p.2) : zW d 45 12 [some (.int l0), some (.int l1), some (va_rf l2), x3, x4, some (.int l5), x6] [.int s0] h Q := by
  unfold b45_12 at hF
  refine zx_istore rfl rfl rfl ?_
  refine zx_iload rfl rfl rfl ?_
  refine zx_if_ne rfl rfl (fun c1 => ?_) (fun c1 => ?_)
  · rw [if_neg c1] at hF
    exact tf45_22 hd  n (l0 := l0) (l1 := l1) (l2 := l2) (l5 := l5) (l6 := s0) hx3 hx4 hF q
  · rw [if_pos c1] at hF
    refine zx_iload_n rfl rfl rfl ?_
    refine zx_ineg rfl rfl ?_
    refine zx_istore_n rfl rfl rfl ?_
    exact tf45_22 hd  n (l0 := (-l0)) (l1 := l1) (l2 := l2) (l5 := l5) (l6 := s0) hx3 hx4 hF q
def f45 (n : Nat)  (y0 : Int32) (y1 : Int32) (y2 : Option Nat) (h : zH) : Option (Int32 × zH) :=
  if (0 : Int32) ≤ y0 then
    b45_12 n  y0 y1 y2 y1 0 h
  else
    b45_12 n  y0 y1 y2 y1 1 h
set_option maxRecDepth 20000 in
theorem t45 {d n : Nat} {Q : zRs → zH → Prop}  {y0 : Int32} {y1 : Int32} {y2 : Option Nat} (hd : 0 ≤ d)  {h : zH} {p : (Int32 × zH)} (hF : f45 n  y0 y1 y2 h = some p) (q : Q (eI p.1) p.2) : zC d 45 [.int y0, .int y1, va_rf y2] h Q := by
  refine zC_of (L := [some (.int y0), some (.int y1), some (va_rf y2), none, none, none, none]) (congrArg (List.cons _) (congrArg (List.cons _) ((zsl_rf _ _).trans (congrArg (List.cons _) rfl)))) rfl ?_
  unfold f45 at hF
  refine zx_iload_n rfl rfl rfl ?_
  refine zx_istore rfl rfl rfl ?_
  refine zx_iload_n rfl rfl rfl ?_
  refine zx_if_ge rfl rfl (fun c1 => ?_) (fun c1 => ?_)
  · rw [if_pos c1] at hF
    refine zx_iconst (v := 0) rfl rfl rfl ?_
    exact tb45_12 (l0 := y0) (l1 := y1) (l2 := y2) (l5 := y1) (s0 := 0) hd  rfl rfl rfl hF q
  · rw [if_neg c1] at hF
    refine zx_iconst (v := 1) rfl rfl rfl ?_
    refine zx_goto rfl rfl ?_
    exact tb45_12 (l0 := y0) (l1 := y1) (l2 := y2) (l5 := y1) (s0 := 1) hd  rfl rfl rfl hF q
def f37 (n : Nat)  (y0 : Nat) (y1 : Int32) (h : zH) : Option (Option Nat × zH) :=
  (gI h y0 13 3).bind fun x1 =>
  (f38 n y1 h).bind fun p4 =>
  zgd (isO p4.2 y0 13) <|
  (f39 n y0 (x1 + p4.1) p4.2).bind fun p7 =>
  zgd (isO p7.2 y0 13) <|
  (f44 n y0 p7.2).bind fun p10 =>
  if p10.1 = 0 then
    none
  else
    (gR p10.2 y0 13 0).bind fun x12 =>
    (f45 n y1 (x1 + p4.1) x12 p10.2).bind fun p15 =>
    (pF p15.2 y0 13 3 (.int (x1 + p4.1))).bind fun h16 =>
    some ((some y0), h16)
set_option maxRecDepth 20000 in
theorem t37 {d n : Nat} {Q : zRs → zH → Prop}  {y0 : Nat} {y1 : Int32} (hd : 4 ≤ d)  {h : zH} {p : (Option Nat × zH)} (hF : f37 n  y0 y1 h = some p) (q : Q (eA p.1) p.2) : zC d 37 [.ref y0, .int y1] h Q := by
  refine zC_of (L := [some (.ref y0), some (.int y1), none, none]) rfl rfl ?_
  unfold f37 at hF
  obtain ⟨d, rfl⟩ : ∃ e, d = e + 1 := ⟨d - 1, by omega⟩
  refine zx_aload_n rfl rfl rfl ?_
  replace hF := zbnd hF
  obtain ⟨x1, e2, hF⟩ := hF
  refine zy_getI rfl rfl e2 ?_
  refine zx_istore_n rfl rfl rfl ?_
  refine zx_iload_n rfl rfl rfl ?_
  refine zx_iload_n rfl rfl rfl ?_
  replace hF := zbnd hF
  obtain ⟨p4, e3, hF⟩ := hF
  refine zx_callE rfl rfl rfl rfl rfl rfl rfl (zc4 (Nat.le_of_ble_eq_true rfl)) (t38 (by omega) e3 (zaI ?_))
  refine zx_iadd rfl rfl ?_
  refine zx_istore_n rfl rfl rfl ?_
  refine zx_aload_n rfl rfl rfl ?_
  refine zx_iload_n rfl rfl rfl ?_
  replace hF := zgd_some hF
  obtain ⟨g5, hF⟩ := hF
  replace hF := zbnd hF
  obtain ⟨p7, e6, hF⟩ := hF
  refine zx_callF rfl rfl rfl rfl (zrcv_isO g5) rfl rfl (zc4 (Nat.le_of_ble_eq_true rfl)) (t39 (by omega) e6 (zaV ?_))
  refine zx_aload_n rfl rfl rfl ?_
  replace hF := zgd_some hF
  obtain ⟨g8, hF⟩ := hF
  replace hF := zbnd hF
  obtain ⟨p10, e9, hF⟩ := hF
  refine zx_callF rfl rfl rfl rfl (zrcv_isO g8) rfl rfl (zc4 (Nat.le_of_ble_eq_true rfl)) (t44 (by omega) e9 (zaI ?_))
  refine zx_if_eq rfl rfl (fun c11 => ?_) (fun c11 => ?_)
  · rw [if_pos c11] at hF
    cases hF
  · rw [if_neg c11] at hF
    refine zx_iload_n rfl rfl rfl ?_
    refine zx_iload_n rfl rfl rfl ?_
    refine zx_aload_n rfl rfl rfl ?_
    replace hF := zbnd hF
    obtain ⟨x12, e13, hF⟩ := hF
    refine zy_getR rfl rfl e13 ?_
    replace hF := zbnd hF
    obtain ⟨p15, e14, hF⟩ := hF
    refine zx_callE rfl rfl rfl rfl rfl (congrArg (List.cons _) (congrArg (List.cons _) ((zsl_rf _ _).trans (congrArg (List.cons _) rfl)))) rfl (zc4 (Nat.le_of_ble_eq_true rfl)) (t45 (by omega) e14 (zaI ?_))
    refine zx_pop rfl rfl rfl ?_
    refine zx_goto rfl rfl ?_
    refine zx_aload_n rfl rfl rfl ?_
    refine zx_iload_n rfl rfl rfl ?_
    replace hF := zbnd hF
    obtain ⟨h16, e17, hF⟩ := hF
    refine zy_put rfl rfl e17 ?_
    refine zx_aload_n rfl rfl rfl ?_
    replace hF := Option.some.inj hF
    subst hF
    exact zy_areturn (r := (some y0)) rfl rfl rfl rfl q
def f36 (n : Nat)  (y0 : Nat) (y1 : Int32) (h : zH) : Option (Option Nat × zH) :=
  zgd (isO h y0 13) <|
  (f37 n y0 y1 h).bind fun p3 =>
  some ((some y0), p3.2)
set_option maxRecDepth 20000 in
theorem t36 {d n : Nat} {Q : zRs → zH → Prop}  {y0 : Nat} {y1 : Int32} (hd : 5 ≤ d)  {h : zH} {p : (Option Nat × zH)} (hF : f36 n  y0 y1 h = some p) (q : Q (eA p.1) p.2) : zC d 36 [.ref y0, .int y1] h Q := by
  refine zC_of (L := [some (.ref y0), some (.int y1)]) rfl rfl ?_
  unfold f36 at hF
  obtain ⟨d, rfl⟩ : ∃ e, d = e + 1 := ⟨d - 1, by omega⟩
  refine zx_aload_n rfl rfl rfl ?_
  refine zx_iload_n rfl rfl rfl ?_
  replace hF := zgd_some hF
  obtain ⟨g1, hF⟩ := hF
  replace hF := zbnd hF
  obtain ⟨p3, e2, hF⟩ := hF
  refine zx_callF rfl rfl rfl rfl (zrcv_isO g1) rfl rfl (zc4 (Nat.le_of_ble_eq_true rfl)) (t37 (by omega) e2 (zaA ?_))
  refine zx_pop rfl rfl (zc1_rf _) ?_
  refine zx_aload_n rfl rfl rfl ?_
  replace hF := Option.some.inj hF
  subst hF
  exact zy_areturn (r := (some y0)) rfl rfl rfl rfl q
def f49 (n : Nat)  (y0 : Nat) (h : zH) : Option (Option Nat × zH) :=
  (gR h y0 13 0).bind fun x1 =>
  some (x1, h)
set_option maxRecDepth 20000 in
theorem t49 {d n : Nat} {Q : zRs → zH → Prop}  {y0 : Nat} (hd : 0 ≤ d)  {h : zH} {p : (Option Nat × zH)} (hF : f49 n  y0 h = some p) (q : Q (eA p.1) p.2) : zC d 49 [.ref y0] h Q := by
  refine zC_of (L := [some (.ref y0)]) rfl rfl ?_
  unfold f49 at hF
  refine zx_aload_n rfl rfl rfl ?_
  replace hF := zbnd hF
  obtain ⟨x1, e2, hF⟩ := hF
  refine zy_getR rfl rfl e2 ?_
  replace hF := Option.some.inj hF
  subst hF
  exact zy_areturn (r := x1) rfl rfl rfl rfl q
def f51 (n : Nat)  (y0 : Nat) (h : zH) : Option (Int32 × zH) :=
  (gI h y0 13 3).bind fun x1 =>
  some (x1, h)
set_option maxRecDepth 20000 in
theorem t51 {d n : Nat} {Q : zRs → zH → Prop}  {y0 : Nat} (hd : 0 ≤ d)  {h : zH} {p : (Int32 × zH)} (hF : f51 n  y0 h = some p) (q : Q (eI p.1) p.2) : zC d 51 [.ref y0] h Q := by
  refine zC_of (L := [some (.ref y0)]) rfl rfl ?_
  unfold f51 at hF
  refine zx_aload_n rfl rfl rfl ?_
  replace hF := zbnd hF
  obtain ⟨x1, e2, hF⟩ := hF
  refine zy_getI rfl rfl e2 ?_
  replace hF := Option.some.inj hF
  subst hF
  exact zx_bret rfl rfl rfl rfl q
def f50 (n : Nat)  (y0 : Nat) (h : zH) : Option (Int32 × zH) :=
  zgd (isO h y0 13) <|
  (f51 n y0 h).bind fun p3 =>
  some (p3.1, p3.2)
set_option maxRecDepth 20000 in
theorem t50 {d n : Nat} {Q : zRs → zH → Prop}  {y0 : Nat} (hd : 1 ≤ d)  {h : zH} {p : (Int32 × zH)} (hF : f50 n  y0 h = some p) (q : Q (eI p.1) p.2) : zC d 50 [.ref y0] h Q := by
  refine zC_of (L := [some (.ref y0)]) rfl rfl ?_
  unfold f50 at hF
  obtain ⟨d, rfl⟩ : ∃ e, d = e + 1 := ⟨d - 1, by omega⟩
  refine zx_aload_n rfl rfl rfl ?_
  replace hF := zgd_some hF
  obtain ⟨g1, hF⟩ := hF
  replace hF := zbnd hF
  obtain ⟨p3, e2, hF⟩ := hF
  refine zx_callF rfl rfl rfl rfl (zrcv_isO g1) rfl rfl (zc4 (Nat.le_of_ble_eq_true rfl)) (t51 (by omega) e2 (zaI ?_))
  replace hF := Option.some.inj hF
  subst hF
  exact zx_bret rfl rfl rfl rfl q
def f54 (n : Nat)  (y0 : Int32) (y1 : Int32) (h : zH) : Option (Unit × zH) :=
  if y0 ≤ y1 then
    some ((), h)
  else
    none
set_option maxRecDepth 20000 in
theorem t54 {d n : Nat} {Q : zRs → zH → Prop}  {y0 : Int32} {y1 : Int32} (hd : 0 ≤ d)  {h : zH} {p : (Unit × zH)} (hF : f54 n  y0 y1 h = some p) (q : Q (eV p.1) p.2) : zC d 54 [.int y0, .int y1] h Q := by
  refine zC_of (L := [some (.int y0), some (.int y1)]) rfl rfl ?_
  unfold f54 at hF
  refine zx_iload_n rfl rfl rfl ?_
  refine zx_iload_n rfl rfl rfl ?_
  refine zx_ic_ge rfl rfl (fun c1 => ?_) (fun c1 => ?_)
  · rw [if_pos c1] at hF
    replace hF := Option.some.inj hF
    subst hF
    exact zx_return rfl rfl rfl q
  · rw [if_neg c1] at hF
    cases hF
def f53 (n : Nat)  (y0 : Option Nat) (y1 : Int32) (y2 : Int32) (h : zH) : Option (Option Nat × zH) :=
  (f54 n y1 y2 h).bind fun p2 =>
  (nA p2.2 1 (y2 - y1)).bind fun h3 =>
  y0.bind fun a5 =>
  (aN h3 a5).bind fun x6 =>
  (f43 n (x6 - y1) (y2 - y1) h3).bind fun p9 =>
  (nt0 p9.2 a5 y1 p2.2.1.length 0 p9.1).bind fun h10 =>
  some ((some p2.2.1.length), h10)
set_option maxRecDepth 20000 in
theorem t53 {d n : Nat} {Q : zRs → zH → Prop}  {y0 : Option Nat} {y1 : Int32} {y2 : Int32} (hd : 1 ≤ d)  {h : zH} {p : (Option Nat × zH)} (hF : f53 n  y0 y1 y2 h = some p) (q : Q (eA p.1) p.2) : zC d 53 [va_rf y0, .int y1, .int y2] h Q := by
  refine zC_of (L := [some (va_rf y0), some (.int y1), some (.int y2), none, none]) ((zsl_rf _ _).trans (congrArg (List.cons _) rfl)) rfl ?_
  unfold f53 at hF
  obtain ⟨d, rfl⟩ : ∃ e, d = e + 1 := ⟨d - 1, by omega⟩
  refine zx_iload_n rfl rfl rfl ?_
  refine zx_iload_n rfl rfl rfl ?_
  replace hF := zbnd hF
  obtain ⟨p2, e1, hF⟩ := hF
  refine zx_callE rfl rfl rfl rfl rfl rfl rfl (zc4 (Nat.le_of_ble_eq_true rfl)) (t54 (by omega) e1 (zaV ?_))
  refine zx_iload_n rfl rfl rfl ?_
  refine zx_iload_n rfl rfl rfl ?_
  refine zx_isub rfl rfl ?_
  refine zx_istore_n rfl rfl rfl ?_
  refine zx_iload_n rfl rfl rfl ?_
  replace hF := zbnd hF
  obtain ⟨h3, e4, hF⟩ := hF
  refine zy_newarr rfl rfl rfl e4 ?_
  refine zx_astore rfl rfl rfl ?_
  refine zy_rload_n rfl rfl rfl ?_
  refine zx_iload_n rfl rfl rfl ?_
  refine zx_aload rfl rfl rfl ?_
  refine zx_iconst (v := 0) rfl rfl rfl ?_
  refine zy_rload_n rfl rfl rfl ?_
  replace hF := zbnd hF
  obtain ⟨a5, rfl, hF⟩ := hF
  replace hF := zbnd hF
  obtain ⟨x6, e7, hF⟩ := hF
  refine zy_alen rfl rfl e7 ?_
  refine zx_iload_n rfl rfl rfl ?_
  refine zx_isub rfl rfl ?_
  refine zx_iload_n rfl rfl rfl ?_
  replace hF := zbnd hF
  obtain ⟨p9, e8, hF⟩ := hF
  refine zx_callE rfl rfl rfl rfl rfl rfl rfl (zc4 (Nat.le_of_ble_eq_true rfl)) (t43 (by omega) e8 (zaI ?_))
  replace hF := zbnd hF
  obtain ⟨h10, e11, hF⟩ := hF
  refine zy_nat0 rfl rfl rfl e11 ?_
  refine zx_aload rfl rfl rfl ?_
  replace hF := Option.some.inj hF
  subst hF
  exact zy_areturn (r := (some p2.2.1.length)) rfl rfl rfl rfl q
def b52_10 (n : Nat)   (l0 : Option Nat) (l1 : Int32) (l2 : Int32) (h : zH) : Option (Option Nat × zH) :=
  (f53 n l0 l1 l2 h).bind fun p2 =>
  some (p2.1, p2.2)
set_option maxRecDepth 20000 in
theorem tb52_10 {d n : Nat} {Q : zRs → zH → Prop}   {l0 : Option Nat} {l1 : Int32} {l2 : Int32}   (hd : 2 ≤ d)   {h : zH} {p : (Option Nat × zH)}  (hF : b52_10 n   l0 l1 l2 h = some p) (q : Q (eA p.1) p.2) : zW d 52 10 [some (va_rf l0), some (.int l1), some (.int l2)] [] h Q := by
  unfold b52_10 at hF
  obtain ⟨d, rfl⟩ : ∃ e, d = e + 1 := ⟨d - 1, by omega⟩
  refine zy_rload_n rfl rfl rfl ?_
  refine zx_iload_n rfl rfl rfl ?_
  refine zx_iload_n rfl rfl rfl ?_
  replace hF := zbnd hF
  obtain ⟨p2, e1, hF⟩ := hF
  refine zx_callE rfl rfl rfl rfl rfl ((zsl_rf _ _).trans (congrArg (List.cons _) rfl)) rfl (zc4 (Nat.le_of_ble_eq_true rfl)) (t53 (by omega) e1 (zaA ?_))
  replace hF := Option.some.inj hF
  subst hF
  exact zy_areturn (r := p2.1) rfl rfl rfl rfl q
def f52 (n : Nat)  (y0 : Option Nat) (y1 : Int32) (y2 : Int32) (h : zH) : Option (Option Nat × zH) :=
  if y1 = 0 then
    y0.bind fun a2 =>
    (aN h a2).bind fun x3 =>
    if y2 = x3 then
      none
    else
      b52_10 n  (some a2) y1 y2 h
  else
    b52_10 n  y0 y1 y2 h
set_option maxRecDepth 20000 in
theorem t52 {d n : Nat} {Q : zRs → zH → Prop}  {y0 : Option Nat} {y1 : Int32} {y2 : Int32} (hd : 2 ≤ d)  {h : zH} {p : (Option Nat × zH)} (hF : f52 n  y0 y1 y2 h = some p) (q : Q (eA p.1) p.2) : zC d 52 [va_rf y0, .int y1, .int y2] h Q := by
  refine zC_of (L := [some (va_rf y0), some (.int y1), some (.int y2)]) ((zsl_rf _ _).trans (congrArg (List.cons _) rfl)) rfl ?_
  unfold f52 at hF
  obtain ⟨d, rfl⟩ : ∃ e, d = e + 1 := ⟨d - 1, by omega⟩
  refine zx_iload_n rfl rfl rfl ?_
  refine zx_if_ne rfl rfl (fun c1 => ?_) (fun c1 => ?_)
  · rw [if_neg c1] at hF
    exact tb52_10 (l0 := y0) (l1 := y1) (l2 := y2) hd   hF q
  · rw [if_pos c1] at hF
    refine zx_iload_n rfl rfl rfl ?_
    refine zy_rload_n rfl rfl rfl ?_
    replace hF := zbnd hF
    obtain ⟨a2, rfl, hF⟩ := hF
    replace hF := zbnd hF
    obtain ⟨x3, e4, hF⟩ := hF
    refine zy_alen rfl rfl e4 ?_
    refine zx_ic_eq rfl rfl (fun c5 => ?_) (fun c5 => ?_)
    · rw [if_pos c5] at hF
      cases hF
    · rw [if_neg c5] at hF
      exact tb52_10 (l0 := (some a2)) (l1 := y1) (l2 := y2) hd   hF q
def b48_79 (n : Nat)   (l0 : Nat) (l1 : Option Nat) (l2 : Option Nat) (l3 : Option Nat) (l4 : Int32) (h : zH) : Option (Unit × zH) :=
  (pF h l0 12 1 (.int 1)).bind fun h1 =>
  (f52 n l3 0 (l4 <<< (1 &&& 31)) h1).bind fun p4 =>
  (pF p4.2 l0 12 0 (va_rf p4.1)).bind fun h5 =>
  some ((), h5)
set_option maxRecDepth 20000 in
theorem tb48_79 {d n : Nat} {Q : zRs → zH → Prop}   {l0 : Nat} {l1 : Option Nat} {l2 : Option Nat} {l3 : Option Nat} {l4 : Int32}   (hd : 3 ≤ d)   {h : zH} {p : (Unit × zH)}  (hF : b48_79 n   l0 l1 l2 l3 l4 h = some p) (q : Q (eV p.1) p.2) : zW d 48 79 [some (.ref l0), some (va_rf l1), some (va_rf l2), some (va_rf l3), some (.int l4)] [] h Q := by
  unfold b48_79 at hF
  obtain ⟨d, rfl⟩ : ∃ e, d = e + 1 := ⟨d - 1, by omega⟩
  refine zx_aload_n rfl rfl rfl ?_
  refine zx_iconst (v := 1) rfl rfl rfl ?_
  replace hF := zbnd hF
  obtain ⟨h1, e2, hF⟩ := hF
  refine zy_put rfl rfl e2 ?_
  refine zx_aload_n rfl rfl rfl ?_
  refine zy_rload_n rfl rfl rfl ?_
  refine zx_iconst (v := 0) rfl rfl rfl ?_
  refine zx_iload rfl rfl rfl ?_
  refine zx_iconst (v := 1) rfl rfl rfl ?_
  refine zx_ishl rfl rfl ?_
  replace hF := zbnd hF
  obtain ⟨p4, e3, hF⟩ := hF
  refine zx_callE rfl rfl rfl rfl rfl ((zsl_rf _ _).trans (congrArg (List.cons _) rfl)) rfl (zc4 (Nat.le_of_ble_eq_true rfl)) (t52 (by omega) e3 (zaA ?_))
  replace hF := zbnd hF
  obtain ⟨h5, e6, hF⟩ := hF
  refine zy_put rfl rfl e6 ?_
  replace hF := Option.some.inj hF
  subst hF
  exact zx_return rfl rfl rfl q
def f48 (n : Nat)  (y0 : Nat) (y1 : Option Nat) (y2 : Option Nat) (h : zH) : Option (Unit × zH) :=
  y1.bind fun a1 =>
  zgd (isO h a1 13) <|
  (f49 n a1 h).bind fun p4 =>
  zgd (isO p4.2 a1 13) <|
  (f50 n a1 p4.2).bind fun p7 =>
  zgd (isO p7.2 a1 13) <|
  (f44 n a1 p7.2).bind fun p10 =>
  if p10.1 = 0 then
    if (1 : Int32) = 0 then
      b48_79 n  y0 (some a1) y2 p4.1 p7.1 p10.2
    else
      (gI p10.2 a1 13 2).bind fun x13 =>
      if x13 = 0 then
        b48_79 n  y0 (some a1) y2 p4.1 p7.1 p10.2
      else
        none
  else
    (pF p10.2 y0 12 1 (.int 0)).bind fun h16 =>
    (f52 n p4.1 0 p7.1 h16).bind fun p19 =>
    (pF p19.2 y0 12 0 (va_rf p19.1)).bind fun h20 =>
    some ((), h20)
set_option maxRecDepth 20000 in
theorem t48 {d n : Nat} {Q : zRs → zH → Prop}  {y0 : Nat} {y1 : Option Nat} {y2 : Option Nat} (hd : 3 ≤ d)  {h : zH} {p : (Unit × zH)} (hF : f48 n  y0 y1 y2 h = some p) (q : Q (eV p.1) p.2) : zC d 48 [.ref y0, va_rf y1, va_rf y2] h Q := by
  refine zC_of (L := [some (.ref y0), some (va_rf y1), some (va_rf y2), none, none]) (congrArg (List.cons _) ((zsl_rf _ _).trans (congrArg (List.cons _) ((zsl_rf _ _).trans (congrArg (List.cons _) rfl))))) rfl ?_
  unfold f48 at hF
  obtain ⟨d, rfl⟩ : ∃ e, d = e + 1 := ⟨d - 1, by omega⟩
  refine zx_aload_n rfl rfl rfl ?_
  refine zw_obj rfl rfl rfl (Nat.ble_eq_true_of_le (Nat.le_trans (zcat_le _) (Nat.le_of_ble_eq_true rfl))) ?_
  refine zy_rload_n rfl rfl rfl ?_
  replace hF := zbnd hF
  obtain ⟨a1, rfl, hF⟩ := hF
  replace hF := zgd_some hF
  obtain ⟨g2, hF⟩ := hF
  replace hF := zbnd hF
  obtain ⟨p4, e3, hF⟩ := hF
  refine zx_callF rfl rfl rfl rfl (zrcv_isO g2) rfl rfl (zc4 (Nat.le_of_ble_eq_true rfl)) (t49 (by omega) e3 (zaA ?_))
  refine zy_rstore_n rfl rfl (zput_ok (L' := [some (.ref y0), some (.ref a1), some (va_rf y2), some (va_rf p4.1), none]) rfl (zcl_X (j := 2) rfl (zn2_rf _)) rfl) ?_
  refine zx_aload_n rfl rfl rfl ?_
  replace hF := zgd_some hF
  obtain ⟨g5, hF⟩ := hF
  replace hF := zbnd hF
  obtain ⟨p7, e6, hF⟩ := hF
  refine zx_callF rfl rfl rfl rfl (zrcv_isO g5) rfl rfl (zc4 (Nat.le_of_ble_eq_true rfl)) (t50 (by omega) e6 (zaI ?_))
  refine zx_istore rfl rfl (zput_ok (L' := [some (.ref y0), some (.ref a1), some (va_rf y2), some (va_rf p4.1), some (.int p7.1)]) rfl (zcl_X (j := 3) rfl (zn2_rf _)) rfl) ?_
  refine zx_aload_n rfl rfl rfl ?_
  replace hF := zgd_some hF
  obtain ⟨g8, hF⟩ := hF
  replace hF := zbnd hF
  obtain ⟨p10, e9, hF⟩ := hF
  refine zx_callF rfl rfl rfl rfl (zrcv_isO g8) rfl rfl (zc4 (Nat.le_of_ble_eq_true rfl)) (t44 (by omega) e9 (zaI ?_))
  refine zx_if_eq rfl rfl (fun c11 => ?_) (fun c11 => ?_)
  · rw [if_pos c11] at hF
    refine zx_gets rfl rfl rfl ?_
    refine zx_if_eq rfl rfl (fun c12 => ?_) (fun c12 => ?_)
    · rw [if_pos c12] at hF
      exact tb48_79 (l0 := y0) (l1 := (some a1)) (l2 := y2) (l3 := p4.1) (l4 := p7.1) hd   hF q
    · rw [if_neg c12] at hF
      refine zx_aload_n rfl rfl rfl ?_
      replace hF := zbnd hF
      obtain ⟨x13, e14, hF⟩ := hF
      refine zy_getI rfl rfl e14 ?_
      refine zx_if_eq rfl rfl (fun c15 => ?_) (fun c15 => ?_)
      · rw [if_pos c15] at hF
        exact tb48_79 (l0 := y0) (l1 := (some a1)) (l2 := y2) (l3 := p4.1) (l4 := p7.1) hd   hF q
      · rw [if_neg c15] at hF
        cases hF
  · rw [if_neg c11] at hF
    refine zx_aload_n rfl rfl rfl ?_
    refine zx_iconst (v := 0) rfl rfl rfl ?_
    replace hF := zbnd hF
    obtain ⟨h16, e17, hF⟩ := hF
    refine zy_put rfl rfl e17 ?_
    refine zx_aload_n rfl rfl rfl ?_
    refine zy_rload_n rfl rfl rfl ?_
    refine zx_iconst (v := 0) rfl rfl rfl ?_
    refine zx_iload rfl rfl rfl ?_
    replace hF := zbnd hF
    obtain ⟨p19, e18, hF⟩ := hF
    refine zx_callE rfl rfl rfl rfl rfl ((zsl_rf _ _).trans (congrArg (List.cons _) rfl)) rfl (zc4 (Nat.le_of_ble_eq_true rfl)) (t52 (by omega) e18 (zaA ?_))
    replace hF := zbnd hF
    obtain ⟨h20, e21, hF⟩ := hF
    refine zy_put rfl rfl e21 ?_
    refine zx_goto rfl rfl ?_
    replace hF := Option.some.inj hF
    subst hF
    exact zx_return rfl rfl rfl q
def f47 (n : Nat)  (y0 : Nat) (y1 : Option Nat) (h : zH) : Option (Unit × zH) :=
  (f48 n y0 y1 none h).bind fun p2 =>
  some ((), p2.2)
set_option maxRecDepth 20000 in
theorem t47 {d n : Nat} {Q : zRs → zH → Prop}  {y0 : Nat} {y1 : Option Nat} (hd : 4 ≤ d)  {h : zH} {p : (Unit × zH)} (hF : f47 n  y0 y1 h = some p) (q : Q (eV p.1) p.2) : zC d 47 [.ref y0, va_rf y1] h Q := by
  refine zC_of (L := [some (.ref y0), some (va_rf y1)]) (congrArg (List.cons _) ((zsl_rf _ _).trans (congrArg (List.cons _) rfl))) rfl ?_
  unfold f47 at hF
  obtain ⟨d, rfl⟩ : ∃ e, d = e + 1 := ⟨d - 1, by omega⟩
  refine zx_aload_n rfl rfl rfl ?_
  refine zy_rload_n rfl rfl rfl ?_
  refine zx_null rfl rfl ?_
  replace hF := zbnd hF
  obtain ⟨p2, e1, hF⟩ := hF
  refine zx_callF rfl rfl rfl rfl rfl (congrArg (List.cons _) ((zsl_rf _ _).trans (congrArg (List.cons _) rfl))) rfl (zc4 (Nat.le_of_ble_eq_true rfl)) (t48 (by omega) e1 (zaV ?_))
  replace hF := Option.some.inj hF
  subst hF
  exact zx_return rfl rfl rfl q
end ZDEC

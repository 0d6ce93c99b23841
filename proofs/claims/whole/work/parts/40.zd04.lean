/-! THE PROGRAM AS FUNCTIONS, 4 (written by a program of the verifier's) -/
section ZDEC
def b152_22 (n : Nat)   (l0 : Nat) (l1 : Option Nat) (s0 : Option Nat) (h : zH) : Option (Int32 × zH) :=
  match s0 with
  | none =>
    some (0, h)
  | some a1 =>
    l1.bind fun a2 =>
    (gR h a2 3 0).bind fun x3 =>
    (rEq x3 (some 43)).bind fun b5 =>
    if b5 = true then
      some (1, h)
    else
      (gR h a2 3 2).bind fun x8 =>
      match x8 with
      | none =>
        some (0, h)
      | some a10 =>
        (gR h a2 3 0).bind fun x11 =>
        (rEq x11 (some 36)).bind fun b13 =>
        if b13 = true then
          zgd (isO h a1 9) <|
          (f154 n a1 (some a10) h).bind fun p18 =>
          zgd (zrtn .boolean p18.1) <|
          some (p18.1, p18.2)
        else
          (gR h a2 3 0).bind fun x20 =>
          (rEq x20 (some 42)).bind fun b22 =>
          if b22 = true then
            (f155 n (some a1) (some a2) h).bind fun p26 =>
            zgd (zrtn .boolean p26.1) <|
            some (p26.1, p26.2)
          else
            (gR h a1 9 0).bind fun x28 =>
            (gR h a10 9 0).bind fun x30 =>
            (rEq x28 x30).bind fun b32 =>
            if b32 = true then
              (gR h a2 3 0).bind fun x35 =>
              x35.bind fun a37 =>
              zgd (isO h a37 15) <|
              (f66 n a37 h).bind fun p40 =>
              (aI p40.2 45 p40.1).bind fun x41 =>
              if x41 = 6 then
                (gI p40.2 a1 9 4).bind fun x44 =>
                (gI p40.2 a10 9 4).bind fun x46 =>
                if x46 ≤ x44 then
                  some (0, p40.2)
                else
                  some (1, p40.2)
              else
              if x41 = 7 then
                (gI p40.2 a1 9 4).bind fun x50 =>
                (gI p40.2 a10 9 4).bind fun x52 =>
                if x50 ≤ x52 then
                  some (0, p40.2)
                else
                  some (1, p40.2)
              else
              if x41 = 8 then
                (gR p40.2 a1 9 3).bind fun x56 =>
                (gR p40.2 a10 9 3).bind fun x58 =>
                (f156 n x56 x58 0 p40.2).bind fun p61 =>
                zgd (zrtn .boolean p61.1) <|
                some (p61.1, p61.2)
              else
              if x41 = 9 then
                (gR p40.2 a1 9 3).bind fun x64 =>
                (gR p40.2 a10 9 3).bind fun x66 =>
                (gR p40.2 a1 9 3).bind fun x68 =>
                x68.bind fun a70 =>
                zgd (isO p40.2 a70 12) <|
                (f55 n a70 p40.2).bind fun p73 =>
                (gR p73.2 a10 9 3).bind fun x74 =>
                x74.bind fun a76 =>
                zgd (isO p73.2 a76 12) <|
                (f55 n a76 p73.2).bind fun p79 =>
                (f156 n x64 x66 (p73.1 - p79.1) p79.2).bind fun p81 =>
                zgd (zrtn .boolean p81.1) <|
                some (p81.1, p81.2)
              else
              (gR p40.2 a1 9 3).bind fun x83 =>
              (gR p40.2 a10 9 3).bind fun x85 =>
              (f157 n x83 x85 p40.2).bind fun p88 =>
              zgd (zrtn .boolean p88.1) <|
              some (p88.1, p88.2)
            else
              some (0, h)
set_option maxRecDepth 20000 in
theorem tb152_22 {d n : Nat} {Q : zRs → zH → Prop}   {l0 : Nat} {l1 : Option Nat} {s0 : Option Nat} {x2 : Option Value} {x3 : Option Value} (hd : 6 ≤ d)   {h : zH} {p : (Int32 × zH)} (hx2 : zn2 x2 = true) (hx3 : zn2 x3 = true) (hF : b152_22 n   l0 l1 s0 h = some p) (q : Q (eI p.1) p.2) : zW d 152 22 [some (.ref l0), some (va_rf l1), x2, x3] [va_rf s0] h Q := by
  unfold b152_22 at hF
  obtain ⟨d, rfl⟩ : ∃ e, d = e + 1 := ⟨d - 1, by omega⟩
  refine zy_rstore_n rfl rfl (zput_ok (L' := [some (.ref l0), some (va_rf l1), some (va_rf s0), x3]) rfl (zcl_X (j := 1) rfl (zn2_rf _)) rfl) ?_
  refine zy_rload_n rfl rfl rfl ?_
  cases s0 with
  | none =>
    dsimp only at hF
    refine zx_ifnnN rfl rfl ?_
    refine zx_iconst (v := 0) rfl rfl rfl ?_
    replace hF := Option.some.inj hF
    subst hF
    exact zx_bret rfl rfl rfl rfl q
  | some a1 =>
    dsimp only at hF
    refine zx_ifnn rfl rfl ?_
    refine zy_rload_n rfl rfl rfl ?_
    replace hF := zbnd hF
    obtain ⟨a2, rfl, hF⟩ := hF
    replace hF := zbnd hF
    obtain ⟨x3, e4, hF⟩ := hF
    refine zy_getR rfl rfl e4 ?_
    refine zx_gets rfl rfl rfl ?_
    replace hF := zbnd hF
    obtain ⟨b5, e6, hF⟩ := hF
    refine zy_ane rfl rfl e6 (fun c7 => ?_) (fun c7 => ?_)
    · rw [if_neg (by rw [c7]; exact Bool.false_ne_true)] at hF
      refine zx_aload_n rfl rfl rfl ?_
      replace hF := zbnd hF
      obtain ⟨x8, e9, hF⟩ := hF
      refine zy_getR rfl rfl e9 ?_
      refine zy_rstore_n rfl rfl rfl ?_
      refine zy_rload_n rfl rfl rfl ?_
      cases x8 with
      | none =>
        dsimp only at hF
        refine zx_ifnnN rfl rfl ?_
        refine zx_iconst (v := 0) rfl rfl rfl ?_
        replace hF := Option.some.inj hF
        subst hF
        exact zx_bret rfl rfl rfl rfl q
      | some a10 =>
        dsimp only at hF
        refine zx_ifnn rfl rfl ?_
        refine zx_aload_n rfl rfl rfl ?_
        replace hF := zbnd hF
        obtain ⟨x11, e12, hF⟩ := hF
        refine zy_getR rfl rfl e12 ?_
        refine zx_gets rfl rfl rfl ?_
        replace hF := zbnd hF
        obtain ⟨b13, e14, hF⟩ := hF
        refine zy_ane rfl rfl e14 (fun c15 => ?_) (fun c15 => ?_)
        · rw [if_neg (by rw [c15]; exact Bool.false_ne_true)] at hF
          refine zx_aload_n rfl rfl rfl ?_
          replace hF := zbnd hF
          obtain ⟨x20, e21, hF⟩ := hF
          refine zy_getR rfl rfl e21 ?_
          refine zx_gets rfl rfl rfl ?_
          replace hF := zbnd hF
          obtain ⟨b22, e23, hF⟩ := hF
          refine zy_ane rfl rfl e23 (fun c24 => ?_) (fun c24 => ?_)
          · rw [if_neg (by rw [c24]; exact Bool.false_ne_true)] at hF
            refine zx_aload_n rfl rfl rfl ?_
            replace hF := zbnd hF
            obtain ⟨x28, e29, hF⟩ := hF
            refine zy_getR rfl rfl e29 ?_
            refine zx_aload_n rfl rfl rfl ?_
            replace hF := zbnd hF
            obtain ⟨x30, e31, hF⟩ := hF
            refine zy_getR rfl rfl e31 ?_
            replace hF := zbnd hF
            obtain ⟨b32, e33, hF⟩ := hF
            refine zy_aeq rfl rfl e33 (fun c34 => ?_) (fun c34 => ?_)
            · rw [if_pos c34] at hF
              refine zx_gets rfl rfl rfl ?_
              refine zx_aload_n rfl rfl rfl ?_
              replace hF := zbnd hF
              obtain ⟨x35, e36, hF⟩ := hF
              refine zy_getR rfl rfl e36 ?_
              replace hF := zbnd hF
              obtain ⟨a37, rfl, hF⟩ := hF
              replace hF := zgd_some hF
              obtain ⟨g38, hF⟩ := hF
              replace hF := zbnd hF
              obtain ⟨p40, e39, hF⟩ := hF
              refine zx_callF rfl rfl rfl rfl (zrcv_isO g38) rfl rfl (zc4 (Nat.le_of_ble_eq_true rfl)) (t66 (by omega) e39 (zaI ?_))
              replace hF := zbnd hF
              obtain ⟨x41, e42, hF⟩ := hF
              refine zy_aI rfl rfl e42 ?_
              by_cases c43 : x41 = 6
              · rw [if_pos c43] at hF
                refine zw_switch rfl rfl (t := 140) (by rw [c43]; rfl) ?_
                refine zx_aload_n rfl rfl rfl ?_
                replace hF := zbnd hF
                obtain ⟨x44, e45, hF⟩ := hF
                refine zy_getI rfl rfl e45 ?_
                refine zx_aload_n rfl rfl rfl ?_
                replace hF := zbnd hF
                obtain ⟨x46, e47, hF⟩ := hF
                refine zy_getI rfl rfl e47 ?_
                refine zx_ic_ge rfl rfl (fun c48 => ?_) (fun c48 => ?_)
                · rw [if_pos c48] at hF
                  refine zx_iconst (v := 0) rfl rfl rfl ?_
                  replace hF := Option.some.inj hF
                  subst hF
                  exact zx_bret rfl rfl rfl rfl q
                · rw [if_neg c48] at hF
                  refine zx_iconst (v := 1) rfl rfl rfl ?_
                  refine zx_goto rfl rfl ?_
                  replace hF := Option.some.inj hF
                  subst hF
                  exact zx_bret rfl rfl rfl rfl q
              rw [if_neg c43] at hF
              by_cases c49 : x41 = 7
              · rw [if_pos c49] at hF
                refine zw_switch rfl rfl (t := 157) (by rw [c49]; rfl) ?_
                refine zx_aload_n rfl rfl rfl ?_
                replace hF := zbnd hF
                obtain ⟨x50, e51, hF⟩ := hF
                refine zy_getI rfl rfl e51 ?_
                refine zx_aload_n rfl rfl rfl ?_
                replace hF := zbnd hF
                obtain ⟨x52, e53, hF⟩ := hF
                refine zy_getI rfl rfl e53 ?_
                refine zx_ic_le rfl rfl (fun c54 => ?_) (fun c54 => ?_)
                · rw [if_pos c54] at hF
                  refine zx_iconst (v := 0) rfl rfl rfl ?_
                  replace hF := Option.some.inj hF
                  subst hF
                  exact zx_bret rfl rfl rfl rfl q
                · rw [if_neg c54] at hF
                  refine zx_iconst (v := 1) rfl rfl rfl ?_
                  refine zx_goto rfl rfl ?_
                  replace hF := Option.some.inj hF
                  subst hF
                  exact zx_bret rfl rfl rfl rfl q
              rw [if_neg c49] at hF
              by_cases c55 : x41 = 8
              · rw [if_pos c55] at hF
                refine zw_switch rfl rfl (t := 174) (by rw [c55]; rfl) ?_
                refine zx_aload_n rfl rfl rfl ?_
                replace hF := zbnd hF
                obtain ⟨x56, e57, hF⟩ := hF
                refine zy_getR rfl rfl e57 ?_
                refine zx_aload_n rfl rfl rfl ?_
                replace hF := zbnd hF
                obtain ⟨x58, e59, hF⟩ := hF
                refine zy_getR rfl rfl e59 ?_
                refine zx_iconst (v := 0) rfl rfl rfl ?_
                replace hF := zbnd hF
                obtain ⟨p61, e60, hF⟩ := hF
                refine zx_callE rfl rfl rfl rfl rfl ((zsl_rf _ _).trans (congrArg (List.cons _) ((zsl_rf _ _).trans (congrArg (List.cons _) rfl)))) rfl (zc4 (Nat.le_of_ble_eq_true rfl)) (t156 (by omega) e60 (zaI ?_))
                replace hF := zgd_some hF
                obtain ⟨g62, hF⟩ := hF
                replace hF := Option.some.inj hF
                subst hF
                exact zx_bret rfl rfl rfl g62 q
              rw [if_neg c55] at hF
              by_cases c63 : x41 = 9
              · rw [if_pos c63] at hF
                refine zw_switch rfl rfl (t := 187) (by rw [c63]; rfl) ?_
                refine zx_aload_n rfl rfl rfl ?_
                replace hF := zbnd hF
                obtain ⟨x64, e65, hF⟩ := hF
                refine zy_getR rfl rfl e65 ?_
                refine zx_aload_n rfl rfl rfl ?_
                replace hF := zbnd hF
                obtain ⟨x66, e67, hF⟩ := hF
                refine zy_getR rfl rfl e67 ?_
                refine zx_aload_n rfl rfl rfl ?_
                replace hF := zbnd hF
                obtain ⟨x68, e69, hF⟩ := hF
                refine zy_getR rfl rfl e69 ?_
                replace hF := zbnd hF
                obtain ⟨a70, rfl, hF⟩ := hF
                replace hF := zgd_some hF
                obtain ⟨g71, hF⟩ := hF
                replace hF := zbnd hF
                obtain ⟨p73, e72, hF⟩ := hF
                refine zx_callE rfl rfl rfl rfl (zrcv_isO g71) rfl rfl (zc4 (Nat.le_of_ble_eq_true rfl)) (t55 (by omega) e72 (zaI ?_))
                refine zx_aload_n rfl rfl rfl ?_
                replace hF := zbnd hF
                obtain ⟨x74, e75, hF⟩ := hF
                refine zy_getR rfl rfl e75 ?_
                replace hF := zbnd hF
                obtain ⟨a76, rfl, hF⟩ := hF
                replace hF := zgd_some hF
                obtain ⟨g77, hF⟩ := hF
                replace hF := zbnd hF
                obtain ⟨p79, e78, hF⟩ := hF
                refine zx_callE rfl rfl rfl rfl (zrcv_isO g77) rfl rfl (zc4 (Nat.le_of_ble_eq_true rfl)) (t55 (by omega) e78 (zaI ?_))
                refine zx_isub rfl rfl ?_
                replace hF := zbnd hF
                obtain ⟨p81, e80, hF⟩ := hF
                refine zx_callE rfl rfl rfl rfl rfl ((zsl_rf _ _).trans (congrArg (List.cons _) ((zsl_rf _ _).trans (congrArg (List.cons _) rfl)))) rfl (zc4 (Nat.le_of_ble_eq_true rfl)) (t156 (by omega) e80 (zaI ?_))
                replace hF := zgd_some hF
                obtain ⟨g82, hF⟩ := hF
                replace hF := Option.some.inj hF
                subst hF
                exact zx_bret rfl rfl rfl g82 q
              rw [if_neg c63] at hF
              have zc43 := zne c43 (z := 6) (by decide)
              have zc49 := zne c49 (z := 7) (by decide)
              have zc55 := zne c55 (z := 8) (by decide)
              have zc63 := zne c63 (z := 9) (by decide)
              refine zw_switch rfl rfl (t := 214) (zsw_d (by omega) (by decide) (by decide)) ?_
              refine zx_aload_n rfl rfl rfl ?_
              replace hF := zbnd hF
              obtain ⟨x83, e84, hF⟩ := hF
              refine zy_getR rfl rfl e84 ?_
              refine zx_aload_n rfl rfl rfl ?_
              replace hF := zbnd hF
              obtain ⟨x85, e86, hF⟩ := hF
              refine zy_getR rfl rfl e86 ?_
              replace hF := zbnd hF
              obtain ⟨p88, e87, hF⟩ := hF
              refine zx_callE rfl rfl rfl rfl rfl ((zsl_rf _ _).trans (congrArg (List.cons _) ((zsl_rf _ _).trans (congrArg (List.cons _) rfl)))) rfl (zc4 (Nat.le_of_ble_eq_true rfl)) (t157 (by omega) e87 (zaI ?_))
              replace hF := zgd_some hF
              obtain ⟨g89, hF⟩ := hF
              replace hF := Option.some.inj hF
              subst hF
              exact zx_bret rfl rfl rfl g89 q
            · rw [if_neg (by rw [c34]; exact Bool.false_ne_true)] at hF
              refine zx_iconst (v := 0) rfl rfl rfl ?_
              replace hF := Option.some.inj hF
              subst hF
              exact zx_bret rfl rfl rfl rfl q
          · rw [if_pos c24] at hF
            refine zx_aload_n rfl rfl rfl ?_
            refine zx_aload_n rfl rfl rfl ?_
            replace hF := zbnd hF
            obtain ⟨p26, e25, hF⟩ := hF
            refine zx_callE rfl rfl rfl rfl rfl rfl rfl (zc4 (Nat.le_of_ble_eq_true rfl)) (t155 (by omega) e25 (zaI ?_))
            replace hF := zgd_some hF
            obtain ⟨g27, hF⟩ := hF
            replace hF := Option.some.inj hF
            subst hF
            exact zx_bret rfl rfl rfl g27 q
        · rw [if_pos c15] at hF
          refine zx_aload_n rfl rfl rfl ?_
          refine zx_aload_n rfl rfl rfl ?_
          replace hF := zgd_some hF
          obtain ⟨g16, hF⟩ := hF
          replace hF := zbnd hF
          obtain ⟨p18, e17, hF⟩ := hF
          refine zx_callE rfl rfl rfl rfl (zrcv_isO g16) rfl rfl (zc4 (Nat.le_of_ble_eq_true rfl)) (t154 (by omega) e17 (zaI ?_))
          replace hF := zgd_some hF
          obtain ⟨g19, hF⟩ := hF
          replace hF := Option.some.inj hF
          subst hF
          exact zx_bret rfl rfl rfl g19 q
    · rw [if_pos c7] at hF
      refine zx_iconst (v := 1) rfl rfl rfl ?_
      replace hF := Option.some.inj hF
      subst hF
      exact zx_bret rfl rfl rfl rfl q
def f152 (n : Nat)  (y0 : Nat) (y1 : Option Nat) (h : zH) : Option (Int32 × zH) :=
  y1.bind fun a1 =>
  (gR h a1 3 1).bind fun x2 =>
  match x2 with
  | none =>
    b152_22 n  y0 (some a1) none h
  | some a4 =>
    (gR h a1 3 1).bind fun x5 =>
    x5.bind fun a7 =>
    (gR h a7 9 3).bind fun x8 =>
    zgd (isO h y0 1) <|
    (f153 n y0 x8 h).bind fun p12 =>
    b152_22 n  y0 (some a1) p12.1 p12.2
set_option maxRecDepth 20000 in
theorem t152 {d n : Nat} {Q : zRs → zH → Prop}  {y0 : Nat} {y1 : Option Nat} (hd : 6 ≤ d)  {h : zH} {p : (Int32 × zH)} (hF : f152 n  y0 y1 h = some p) (q : Q (eI p.1) p.2) : zC d 152 [.ref y0, va_rf y1] h Q := by
  refine zC_of (L := [some (.ref y0), some (va_rf y1), none, none]) (congrArg (List.cons _) ((zsl_rf _ _).trans (congrArg (List.cons _) rfl))) rfl ?_
  unfold f152 at hF
  obtain ⟨d, rfl⟩ : ∃ e, d = e + 1 := ⟨d - 1, by omega⟩
  refine zy_rload_n rfl rfl rfl ?_
  replace hF := zbnd hF
  obtain ⟨a1, rfl, hF⟩ := hF
  replace hF := zbnd hF
  obtain ⟨x2, e3, hF⟩ := hF
  refine zy_getR rfl rfl e3 ?_
  cases x2 with
  | none =>
    dsimp only at hF
    refine zx_ifnnN rfl rfl ?_
    refine zx_null rfl rfl ?_
    refine zx_goto rfl rfl ?_
    exact tb152_22 (l0 := y0) (l1 := (some a1)) (s0 := none) hd  rfl rfl hF q
  | some a4 =>
    dsimp only at hF
    refine zx_ifnn rfl rfl ?_
    refine zx_aload_n rfl rfl rfl ?_
    refine zx_aload_n rfl rfl rfl ?_
    replace hF := zbnd hF
    obtain ⟨x5, e6, hF⟩ := hF
    refine zy_getR rfl rfl e6 ?_
    replace hF := zbnd hF
    obtain ⟨a7, rfl, hF⟩ := hF
    replace hF := zbnd hF
    obtain ⟨x8, e9, hF⟩ := hF
    refine zy_getR rfl rfl e9 ?_
    replace hF := zgd_some hF
    obtain ⟨g10, hF⟩ := hF
    replace hF := zbnd hF
    obtain ⟨p12, e11, hF⟩ := hF
    refine zx_callE rfl rfl rfl rfl (zrcv_isO g10) (congrArg (List.cons _) ((zsl_rf _ _).trans (congrArg (List.cons _) rfl))) rfl (zc4 (Nat.le_of_ble_eq_true rfl)) (t153 (by omega) e11 (zaA ?_))
    exact tb152_22 (l0 := y0) (l1 := (some a1)) (s0 := p12.1) hd  rfl rfl hF q
def b150_118 (n : Nat) (g150 : Nat → Option Nat → Int32 → zH → Option (Int32 × zH)) (r118 : Nat → Option Nat → Int32 → Int32 → Option Nat → zH → Option (Int32 × zH)) (l0 : Nat) (l1 : Option Nat) (l2 : Int32) (l3 : Int32) (l4 : Option Nat) (h : zH) : Option (Int32 × zH) :=
  match l4 with
  | none =>
    if l3 = 0 then
      some (1, h)
    else
      some (0, h)
  | some a1 =>
    zgd (isO h l0 1) <|
    (g150 l0 (some a1) (l2 + 1) h).bind fun p5 =>
    if p5.1 = l3 then
      zgd (zrtn .boolean l3) <|
      some (l3, p5.2)
    else
      (gR p5.2 a1 3 5).bind fun x8 =>
      r118 l0 l1 l2 l3 x8 p5.2
set_option maxRecDepth 20000 in
theorem tb150_118 {d n : Nat} {dk : Nat} {Q : zRs → zH → Prop} {g150 : Nat → Option Nat → Int32 → zH → Option (Int32 × zH)} {r118 : Nat → Option Nat → Int32 → Int32 → Option Nat → zH → Option (Int32 × zH)} {l0 : Nat} {l1 : Option Nat} {l2 : Int32} {l3 : Int32} {l4 : Option Nat}   (hd : 7 ≤ d ∧ dk + 1 ≤ d) (hg150 : ∀ {d' : Nat}, dk ≤ d' → ∀ {y0 : Nat} {y1 : Option Nat} {y2 : Int32} {h : zH} {p : (Int32 × zH)} {Q : zRs → zH → Prop}, g150 y0 y1 y2 h = some p → Q (eI p.1) p.2 → zC d' 150 [.ref y0, va_rf y1, .int y2] h Q) (hr118 : ∀ {l0 : Nat} {l1 : Option Nat} {l2 : Int32} {l3 : Int32} {l4 : Option Nat}   {h : zH} {p : (Int32 × zH)}, r118 l0 l1 l2 l3 l4 h = some p → Q (eI p.1) p.2 → zW d 150 118 [some (.ref l0), some (va_rf l1), some (.int l2), some (.int l3), some (va_rf l4)] [] h Q) {h : zH} {p : (Int32 × zH)}  (hF : b150_118 n g150 r118 l0 l1 l2 l3 l4 h = some p) (q : Q (eI p.1) p.2) : zW d 150 118 [some (.ref l0), some (va_rf l1), some (.int l2), some (.int l3), some (va_rf l4)] [] h Q := by
  unfold b150_118 at hF
  obtain ⟨d, rfl⟩ : ∃ e, d = e + 1 := ⟨d - 1, by omega⟩
  refine zy_rload rfl rfl rfl ?_
  cases l4 with
  | none =>
    dsimp only at hF
    refine zx_ifnullN rfl rfl ?_
    refine zx_iload_n rfl rfl rfl ?_
    refine zx_if_ne rfl rfl (fun c2 => ?_) (fun c2 => ?_)
    · rw [if_neg c2] at hF
      refine zx_iconst (v := 0) rfl rfl rfl ?_
      replace hF := Option.some.inj hF
      subst hF
      exact zx_bret rfl rfl rfl rfl q
    · rw [if_pos c2] at hF
      refine zx_iconst (v := 1) rfl rfl rfl ?_
      refine zx_goto rfl rfl ?_
      replace hF := Option.some.inj hF
      subst hF
      exact zx_bret rfl rfl rfl rfl q
  | some a1 =>
    dsimp only at hF
    refine zx_ifnull rfl rfl ?_
    refine zx_aload_n rfl rfl rfl ?_
    refine zx_aload rfl rfl rfl ?_
    refine zx_iload_n rfl rfl rfl ?_
    refine zx_iconst (v := 1) rfl rfl rfl ?_
    refine zx_iadd rfl rfl ?_
    replace hF := zgd_some hF
    obtain ⟨g3, hF⟩ := hF
    replace hF := zbnd hF
    obtain ⟨p5, e4, hF⟩ := hF
    refine zx_callE rfl rfl rfl rfl (zrcv_isO g3) rfl rfl (zc4 (Nat.le_of_ble_eq_true rfl)) (hg150 (by omega) e4 (zaI ?_))
    refine zx_iload_n rfl rfl rfl ?_
    refine zx_ic_ne rfl rfl (fun c6 => ?_) (fun c6 => ?_)
    · rw [if_neg c6] at hF
      refine zx_aload rfl rfl rfl ?_
      replace hF := zbnd hF
      obtain ⟨x8, e9, hF⟩ := hF
      refine zy_getR rfl rfl e9 ?_
      refine zy_rstore rfl rfl rfl ?_
      refine zx_goto rfl rfl ?_
      exact hr118  hF q
    · rw [if_pos c6] at hF
      refine zx_iload_n rfl rfl rfl ?_
      replace hF := zgd_some hF
      obtain ⟨g7, hF⟩ := hF
      replace hF := Option.some.inj hF
      subst hF
      exact zx_bret rfl rfl rfl g7 q
def f150_118 (n : Nat) (g150 : Nat → Option Nat → Int32 → zH → Option (Int32 × zH))  (k : Nat) : Nat → Option Nat → Int32 → Int32 → Option Nat → zH → Option (Int32 × zH) := Nat.rec (fun _ _ _ _ _ _ => none) (fun _ ih => b150_118 n g150 ih) k
theorem tf150_118 {d n : Nat} {dk : Nat} {Q : zRs → zH → Prop} {g150 : Nat → Option Nat → Int32 → zH → Option (Int32 × zH)}  (hd : 7 ≤ d ∧ dk + 1 ≤ d) (hg150 : ∀ {d' : Nat}, dk ≤ d' → ∀ {y0 : Nat} {y1 : Option Nat} {y2 : Int32} {h : zH} {p : (Int32 × zH)} {Q : zRs → zH → Prop}, g150 y0 y1 y2 h = some p → Q (eI p.1) p.2 → zC d' 150 [.ref y0, va_rf y1, .int y2] h Q)  (k : Nat) : ∀ {l0 : Nat} {l1 : Option Nat} {l2 : Int32} {l3 : Int32} {l4 : Option Nat}   {h : zH} {p : (Int32 × zH)}, f150_118 n g150  k l0 l1 l2 l3 l4 h = some p → Q (eI p.1) p.2 → zW d 150 118 [some (.ref l0), some (va_rf l1), some (.int l2), some (.int l3), some (va_rf l4)] [] h Q := by
  induction k with
  | zero => intros; rename_i hF _; cases hF
  | succ k ih => intros; rename_i  hF q; exact tb150_118 (n := n) hd hg150 ih  hF q
def b150_111 (n : Nat) (g150 : Nat → Option Nat → Int32 → zH → Option (Int32 × zH))  (l0 : Nat) (l1 : Option Nat) (l2 : Int32) (s0 : Int32) (h : zH) : Option (Int32 × zH) :=
  l1.bind fun a1 =>
  (gR h a1 3 4).bind fun x2 =>
  f150_118 n g150 n l0 (some a1) l2 s0 x2 h
set_option maxRecDepth 20000 in
theorem tb150_111 {d n : Nat} {dk : Nat} {Q : zRs → zH → Prop} {g150 : Nat → Option Nat → Int32 → zH → Option (Int32 × zH)}  {l0 : Nat} {l1 : Option Nat} {l2 : Int32} {s0 : Int32} {x3 : Option Value} {x4 : Option Value} (hd : 7 ≤ d ∧ dk + 1 ≤ d) (hg150 : ∀ {d' : Nat}, dk ≤ d' → ∀ {y0 : Nat} {y1 : Option Nat} {y2 : Int32} {h : zH} {p : (Int32 × zH)} {Q : zRs → zH → Prop}, g150 y0 y1 y2 h = some p → Q (eI p.1) p.2 → zC d' 150 [.ref y0, va_rf y1, .int y2] h Q)  {h : zH} {p : (Int32 × zH)} (hx3 : zn2 x3 = true) (hx4 : zn2 x4 = true) (hF : b150_111 n g150  l0 l1 l2 s0 h = some p) (q : Q (eI p.1) p.2) : zW d 150 111 [some (.ref l0), some (va_rf l1), some (.int l2), x3, x4] [.int s0] h Q := by
  unfold b150_111 at hF
  obtain ⟨d, rfl⟩ : ∃ e, d = e + 1 := ⟨d - 1, by omega⟩
  refine zx_istore_n rfl rfl rfl ?_
  refine zy_rload_n rfl rfl rfl ?_
  replace hF := zbnd hF
  obtain ⟨a1, rfl, hF⟩ := hF
  replace hF := zbnd hF
  obtain ⟨x2, e3, hF⟩ := hF
  refine zy_getR rfl rfl e3 ?_
  refine zy_rstore rfl rfl rfl ?_
  exact tf150_118 hd hg150 n (l0 := l0) (l1 := (some a1)) (l2 := l2) (l3 := s0) (l4 := x2)  hF q
def b150 (n : Nat) (g150 : Nat → Option Nat → Int32 → zH → Option (Int32 × zH)) (y0 : Nat) (y1 : Option Nat) (y2 : Int32) (h : zH) : Option (Int32 × zH) :=
  if y2 ≤ 48 then
    y1.bind fun a2 =>
    (gR h a2 3 0).bind fun x3 =>
    x3.bind fun a5 =>
    zgd (isO h a5 15) <|
    (f66 n a5 h).bind fun p8 =>
    (aI p8.2 45 p8.1).bind fun x9 =>
    if x9 = 11 then
      some (1, p8.2)
    else
    if x9 = 12 then
      some (0, p8.2)
    else
    if x9 = 13 then
      (gI p8.2 a2 3 3).bind fun x14 =>
      zgd (isO p8.2 y0 1) <|
      (f151 n y0 x14 p8.2).bind fun p18 =>
      zgd (zrtn .boolean p18.1) <|
      some (p18.1, p18.2)
    else
    if x9 = 14 then
      (gR p8.2 a2 3 4).bind fun x21 =>
      match x21 with
      | none =>
        some (0, p8.2)
      | some a23 =>
        (gR p8.2 a2 3 4).bind fun x24 =>
        zgd (isO p8.2 y0 1) <|
        (g150 y0 x24 (y2 + 1) p8.2).bind fun p28 =>
        if p28.1 = 0 then
          some (1, p28.2)
        else
          some (0, p28.2)
    else
    if x9 = 15 then
      (gR p8.2 a2 3 0).bind fun x31 =>
      (rEq x31 (some 32)).bind fun b33 =>
      if b33 = true then
        b150_111 n g150 y0 (some a2) y2 1 p8.2
      else
        b150_111 n g150 y0 (some a2) y2 0 p8.2
    else
    if x9 = 16 then
      (gR p8.2 a2 3 0).bind fun x37 =>
      (rEq x37 (some 32)).bind fun b39 =>
      if b39 = true then
        b150_111 n g150 y0 (some a2) y2 1 p8.2
      else
        b150_111 n g150 y0 (some a2) y2 0 p8.2
    else
    zgd (isO p8.2 y0 1) <|
    (f152 n y0 (some a2) p8.2).bind fun p44 =>
    zgd (zrtn .boolean p44.1) <|
    some (p44.1, p44.2)
  else
    some (0, h)
set_option maxRecDepth 20000 in
theorem tb150 {d n : Nat} {dk : Nat} {Q : zRs → zH → Prop} {g150 : Nat → Option Nat → Int32 → zH → Option (Int32 × zH)} {y0 : Nat} {y1 : Option Nat} {y2 : Int32} (hd : 7 ≤ d ∧ dk + 1 ≤ d) (hg150 : ∀ {d' : Nat}, dk ≤ d' → ∀ {y0 : Nat} {y1 : Option Nat} {y2 : Int32} {h : zH} {p : (Int32 × zH)} {Q : zRs → zH → Prop}, g150 y0 y1 y2 h = some p → Q (eI p.1) p.2 → zC d' 150 [.ref y0, va_rf y1, .int y2] h Q) {h : zH} {p : (Int32 × zH)} (hF : b150 n g150 y0 y1 y2 h = some p) (q : Q (eI p.1) p.2) : zC d 150 [.ref y0, va_rf y1, .int y2] h Q := by
  refine zC_of (L := [some (.ref y0), some (va_rf y1), some (.int y2), none, none]) (congrArg (List.cons _) ((zsl_rf _ _).trans (congrArg (List.cons _) rfl))) rfl ?_
  unfold b150 at hF
  obtain ⟨d, rfl⟩ : ∃ e, d = e + 1 := ⟨d - 1, by omega⟩
  refine zx_iload_n rfl rfl rfl ?_
  refine zx_bipush (v := 48) rfl rfl rfl ?_
  refine zx_ic_le rfl rfl (fun c1 => ?_) (fun c1 => ?_)
  · rw [if_pos c1] at hF
    refine zx_gets rfl rfl rfl ?_
    refine zy_rload_n rfl rfl rfl ?_
    replace hF := zbnd hF
    obtain ⟨a2, rfl, hF⟩ := hF
    replace hF := zbnd hF
    obtain ⟨x3, e4, hF⟩ := hF
    refine zy_getR rfl rfl e4 ?_
    replace hF := zbnd hF
    obtain ⟨a5, rfl, hF⟩ := hF
    replace hF := zgd_some hF
    obtain ⟨g6, hF⟩ := hF
    replace hF := zbnd hF
    obtain ⟨p8, e7, hF⟩ := hF
    refine zx_callF rfl rfl rfl rfl (zrcv_isO g6) rfl rfl (zc4 (Nat.le_of_ble_eq_true rfl)) (t66 (by omega) e7 (zaI ?_))
    replace hF := zbnd hF
    obtain ⟨x9, e10, hF⟩ := hF
    refine zy_aI rfl rfl e10 ?_
    by_cases c11 : x9 = 11
    · rw [if_pos c11] at hF
      refine zw_switch rfl rfl (t := 56) (by rw [c11]; rfl) ?_
      refine zx_iconst (v := 1) rfl rfl rfl ?_
      replace hF := Option.some.inj hF
      subst hF
      exact zx_bret rfl rfl rfl rfl q
    rw [if_neg c11] at hF
    by_cases c12 : x9 = 12
    · rw [if_pos c12] at hF
      refine zw_switch rfl rfl (t := 58) (by rw [c12]; rfl) ?_
      refine zx_iconst (v := 0) rfl rfl rfl ?_
      replace hF := Option.some.inj hF
      subst hF
      exact zx_bret rfl rfl rfl rfl q
    rw [if_neg c12] at hF
    by_cases c13 : x9 = 13
    · rw [if_pos c13] at hF
      refine zw_switch rfl rfl (t := 60) (by rw [c13]; rfl) ?_
      refine zx_aload_n rfl rfl rfl ?_
      refine zx_aload_n rfl rfl rfl ?_
      replace hF := zbnd hF
      obtain ⟨x14, e15, hF⟩ := hF
      refine zy_getI rfl rfl e15 ?_
      replace hF := zgd_some hF
      obtain ⟨g16, hF⟩ := hF
      replace hF := zbnd hF
      obtain ⟨p18, e17, hF⟩ := hF
      refine zx_callE rfl rfl rfl rfl (zrcv_isO g16) rfl rfl (zc4 (Nat.le_of_ble_eq_true rfl)) (t151 (by omega) e17 (zaI ?_))
      replace hF := zgd_some hF
      obtain ⟨g19, hF⟩ := hF
      replace hF := Option.some.inj hF
      subst hF
      exact zx_bret rfl rfl rfl g19 q
    rw [if_neg c13] at hF
    by_cases c20 : x9 = 14
    · rw [if_pos c20] at hF
      refine zw_switch rfl rfl (t := 69) (by rw [c20]; rfl) ?_
      refine zx_aload_n rfl rfl rfl ?_
      replace hF := zbnd hF
      obtain ⟨x21, e22, hF⟩ := hF
      refine zy_getR rfl rfl e22 ?_
      cases x21 with
      | none =>
        dsimp only at hF
        refine zx_ifnullN rfl rfl ?_
        refine zx_iconst (v := 0) rfl rfl rfl ?_
        replace hF := Option.some.inj hF
        subst hF
        exact zx_bret rfl rfl rfl rfl q
      | some a23 =>
        dsimp only at hF
        refine zx_ifnull rfl rfl ?_
        refine zx_aload_n rfl rfl rfl ?_
        refine zx_aload_n rfl rfl rfl ?_
        replace hF := zbnd hF
        obtain ⟨x24, e25, hF⟩ := hF
        refine zy_getR rfl rfl e25 ?_
        refine zx_iload_n rfl rfl rfl ?_
        refine zx_iconst (v := 1) rfl rfl rfl ?_
        refine zx_iadd rfl rfl ?_
        replace hF := zgd_some hF
        obtain ⟨g26, hF⟩ := hF
        replace hF := zbnd hF
        obtain ⟨p28, e27, hF⟩ := hF
        refine zx_callE rfl rfl rfl rfl (zrcv_isO g26) (congrArg (List.cons _) ((zsl_rf _ _).trans (congrArg (List.cons _) rfl))) rfl (zc4 (Nat.le_of_ble_eq_true rfl)) (hg150 (by omega) e27 (zaI ?_))
        refine zx_if_ne rfl rfl (fun c29 => ?_) (fun c29 => ?_)
        · rw [if_neg c29] at hF
          refine zx_iconst (v := 0) rfl rfl rfl ?_
          replace hF := Option.some.inj hF
          subst hF
          exact zx_bret rfl rfl rfl rfl q
        · rw [if_pos c29] at hF
          refine zx_iconst (v := 1) rfl rfl rfl ?_
          refine zx_goto rfl rfl ?_
          replace hF := Option.some.inj hF
          subst hF
          exact zx_bret rfl rfl rfl rfl q
    rw [if_neg c20] at hF
    by_cases c30 : x9 = 15
    · rw [if_pos c30] at hF
      refine zw_switch rfl rfl (t := 96) (by rw [c30]; rfl) ?_
      refine zx_aload_n rfl rfl rfl ?_
      replace hF := zbnd hF
      obtain ⟨x31, e32, hF⟩ := hF
      refine zy_getR rfl rfl e32 ?_
      refine zx_gets rfl rfl rfl ?_
      replace hF := zbnd hF
      obtain ⟨b33, e34, hF⟩ := hF
      refine zy_ane rfl rfl e34 (fun c35 => ?_) (fun c35 => ?_)
      · rw [if_neg (by rw [c35]; exact Bool.false_ne_true)] at hF
        refine zx_iconst (v := 0) rfl rfl rfl ?_
        exact tb150_111 (l0 := y0) (l1 := (some a2)) (l2 := y2) (s0 := 0) hd hg150 rfl rfl hF q
      · rw [if_pos c35] at hF
        refine zx_iconst (v := 1) rfl rfl rfl ?_
        refine zx_goto rfl rfl ?_
        exact tb150_111 (l0 := y0) (l1 := (some a2)) (l2 := y2) (s0 := 1) hd hg150 rfl rfl hF q
    rw [if_neg c30] at hF
    by_cases c36 : x9 = 16
    · rw [if_pos c36] at hF
      refine zw_switch rfl rfl (t := 96) (by rw [c36]; rfl) ?_
      refine zx_aload_n rfl rfl rfl ?_
      replace hF := zbnd hF
      obtain ⟨x37, e38, hF⟩ := hF
      refine zy_getR rfl rfl e38 ?_
      refine zx_gets rfl rfl rfl ?_
      replace hF := zbnd hF
      obtain ⟨b39, e40, hF⟩ := hF
      refine zy_ane rfl rfl e40 (fun c41 => ?_) (fun c41 => ?_)
      · rw [if_neg (by rw [c41]; exact Bool.false_ne_true)] at hF
        refine zx_iconst (v := 0) rfl rfl rfl ?_
        exact tb150_111 (l0 := y0) (l1 := (some a2)) (l2 := y2) (s0 := 0) hd hg150 rfl rfl hF q
      · rw [if_pos c41] at hF
        refine zx_iconst (v := 1) rfl rfl rfl ?_
        refine zx_goto rfl rfl ?_
        exact tb150_111 (l0 := y0) (l1 := (some a2)) (l2 := y2) (s0 := 1) hd hg150 rfl rfl hF q
    rw [if_neg c36] at hF
    have zc11 := zne c11 (z := 11) (by decide)
    have zc12 := zne c12 (z := 12) (by decide)
    have zc13 := zne c13 (z := 13) (by decide)
    have zc20 := zne c20 (z := 14) (by decide)
    have zc30 := zne c30 (z := 15) (by decide)
    have zc36 := zne c36 (z := 16) (by decide)
    refine zw_switch rfl rfl (t := 158) (zsw_d (by omega) (by decide) (by decide)) ?_
    refine zx_aload_n rfl rfl rfl ?_
    refine zx_aload_n rfl rfl rfl ?_
    replace hF := zgd_some hF
    obtain ⟨g42, hF⟩ := hF
    replace hF := zbnd hF
    obtain ⟨p44, e43, hF⟩ := hF
    refine zx_callE rfl rfl rfl rfl (zrcv_isO g42) rfl rfl (zc4 (Nat.le_of_ble_eq_true rfl)) (t152 (by omega) e43 (zaI ?_))
    replace hF := zgd_some hF
    obtain ⟨g45, hF⟩ := hF
    replace hF := Option.some.inj hF
    subst hF
    exact zx_bret rfl rfl rfl g45 q
  · rw [if_neg c1] at hF
    refine zx_iconst (v := 0) rfl rfl rfl ?_
    replace hF := Option.some.inj hF
    subst hF
    exact zx_bret rfl rfl rfl rfl q
def fRH (n k : Nat) : ((Nat → Option Nat → Int32 → zH → Option (Int32 × zH))) := Nat.rec ((fun _ _ _ _ => none)) (fun _ ih => (b150 n ih)) k
def f150 (n k : Nat) : (Nat → Option Nat → Int32 → zH → Option (Int32 × zH)) := (fRH n k)
theorem tRH {n : Nat} (k : Nat) : (∀ {d : Nat}, 7 + k ≤ d → ∀ {y0 : Nat} {y1 : Option Nat} {y2 : Int32} {h : zH} {p : (Int32 × zH)} {Q : zRs → zH → Prop}, f150 n k y0 y1 y2 h = some p → Q (eI p.1) p.2 → zC d 150 [.ref y0, va_rf y1, .int y2] h Q) := by
  induction k with
  | zero =>
    skip
    · intros; rename_i d hd y0 y1 y2 h p Q hF q; cases hF
  | succ k ih =>
    skip
    · intros; rename_i d hd y0 y1 y2 h p Q hF q; exact tb150 (dk := 7 + k) ⟨by omega, by omega⟩ ih hF q
theorem t150 {n : Nat} (k : Nat) {d : Nat} (hd : 7 + k ≤ d) {y0 : Nat} {y1 : Option Nat} {y2 : Int32} {h : zH} {p : (Int32 × zH)} {Q : zRs → zH → Prop} (hF : f150 n k y0 y1 y2 h = some p) (q : Q (eI p.1) p.2) : zC d 150 [.ref y0, va_rf y1, .int y2] h Q := (tRH k) hd hF q
def b149_2 (n : Nat)  (r2 : Nat → Option Nat → Int32 → zH → Option (Unit × zH)) (l0 : Nat) (l1 : Option Nat) (l2 : Int32) (h : zH) : Option (Unit × zH) :=
  l1.bind fun a1 =>
  (gR h a1 4 3).bind fun x2 =>
  x2.bind fun a4 =>
  zgd (isO h a4 14) <|
  (f68 n a4 h).bind fun p7 =>
  if p7.1 ≤ l2 then
    some ((), p7.2)
  else
    (gR p7.2 l0 1 3).bind fun x9 =>
    x9.bind fun a11 =>
    (aN p7.2 a11).bind fun x12 =>
    if x12 ≤ l2 then
      some ((), p7.2)
    else
      (gR p7.2 l0 1 3).bind fun x15 =>
      (gR p7.2 a1 4 3).bind fun x17 =>
      x17.bind fun a19 =>
      zgd (isO p7.2 a19 14) <|
      (f74 n a19 l2 p7.2).bind fun p22 =>
      zgd (kC p22.2 p22.1 3 0) <|
      zgd (isO p22.2 l0 1) <|
      (f150 n 64 l0 p22.1 0 p22.2).bind fun p26 =>
      x15.bind fun a27 =>
      (aS zsB p26.2 a27 l2 (.int p26.1)).bind fun h28 =>
      r2 l0 (some a1) (l2 + 1) h28
set_option maxRecDepth 20000 in
theorem tb149_2 {d n : Nat} {Q : zRs → zH → Prop}  {r2 : Nat → Option Nat → Int32 → zH → Option (Unit × zH)} {l0 : Nat} {l1 : Option Nat} {l2 : Int32}   (hd : 72 ≤ d)  (hr2 : ∀ {l0 : Nat} {l1 : Option Nat} {l2 : Int32}   {h : zH} {p : (Unit × zH)}, r2 l0 l1 l2 h = some p → Q (eV p.1) p.2 → zW d 149 2 [some (.ref l0), some (va_rf l1), some (.int l2)] [] h Q) {h : zH} {p : (Unit × zH)}  (hF : b149_2 n  r2 l0 l1 l2 h = some p) (q : Q (eV p.1) p.2) : zW d 149 2 [some (.ref l0), some (va_rf l1), some (.int l2)] [] h Q := by
  unfold b149_2 at hF
  obtain ⟨d, rfl⟩ : ∃ e, d = e + 1 := ⟨d - 1, by omega⟩
  refine zx_iload_n rfl rfl rfl ?_
  refine zy_rload_n rfl rfl rfl ?_
  replace hF := zbnd hF
  obtain ⟨a1, rfl, hF⟩ := hF
  replace hF := zbnd hF
  obtain ⟨x2, e3, hF⟩ := hF
  refine zy_getR rfl rfl e3 ?_
  replace hF := zbnd hF
  obtain ⟨a4, rfl, hF⟩ := hF
  replace hF := zgd_some hF
  obtain ⟨g5, hF⟩ := hF
  replace hF := zbnd hF
  obtain ⟨p7, e6, hF⟩ := hF
  refine zx_callE rfl rfl rfl rfl (zrcv_isO g5) rfl rfl (zc4 (Nat.le_of_ble_eq_true rfl)) (t68 (by omega) e6 (zaI ?_))
  refine zx_ic_ge rfl rfl (fun c8 => ?_) (fun c8 => ?_)
  · rw [if_pos c8] at hF
    replace hF := Option.some.inj hF
    subst hF
    exact zx_return rfl rfl rfl q
  · rw [if_neg c8] at hF
    refine zx_iload_n rfl rfl rfl ?_
    refine zx_aload_n rfl rfl rfl ?_
    replace hF := zbnd hF
    obtain ⟨x9, e10, hF⟩ := hF
    refine zy_getR rfl rfl e10 ?_
    replace hF := zbnd hF
    obtain ⟨a11, rfl, hF⟩ := hF
    replace hF := zbnd hF
    obtain ⟨x12, e13, hF⟩ := hF
    refine zy_alen rfl rfl e13 ?_
    refine zx_ic_ge rfl rfl (fun c14 => ?_) (fun c14 => ?_)
    · rw [if_pos c14] at hF
      replace hF := Option.some.inj hF
      subst hF
      exact zx_return rfl rfl rfl q
    · rw [if_neg c14] at hF
      refine zx_aload_n rfl rfl rfl ?_
      replace hF := zbnd hF
      obtain ⟨x15, e16, hF⟩ := hF
      refine zy_getR rfl rfl e16 ?_
      refine zx_iload_n rfl rfl rfl ?_
      refine zx_aload_n rfl rfl rfl ?_
      refine zx_aload_n rfl rfl rfl ?_
      replace hF := zbnd hF
      obtain ⟨x17, e18, hF⟩ := hF
      refine zy_getR rfl rfl e18 ?_
      refine zx_iload_n rfl rfl rfl ?_
      replace hF := zbnd hF
      obtain ⟨a19, rfl, hF⟩ := hF
      replace hF := zgd_some hF
      obtain ⟨g20, hF⟩ := hF
      replace hF := zbnd hF
      obtain ⟨p22, e21, hF⟩ := hF
      refine zx_callE rfl rfl rfl rfl (zrcv_isO g20) rfl rfl (zc4 (Nat.le_of_ble_eq_true rfl)) (t74 (by omega) e21 (zaA ?_))
      replace hF := zgd_some hF
      obtain ⟨g23, hF⟩ := hF
      refine zy_cast (r := p22.1) rfl rfl g23 ?_
      refine zx_iconst (v := 0) rfl rfl rfl ?_
      replace hF := zgd_some hF
      obtain ⟨g24, hF⟩ := hF
      replace hF := zbnd hF
      obtain ⟨p26, e25, hF⟩ := hF
      refine zx_callE rfl rfl rfl rfl (zrcv_isO g24) (congrArg (List.cons _) ((zsl_rf _ _).trans (congrArg (List.cons _) rfl))) rfl (zc4 (Nat.le_of_ble_eq_true rfl)) (t150 64 (by omega) e25 (zaI ?_))
      replace hF := zbnd hF
      obtain ⟨a27, rfl, hF⟩ := hF
      replace hF := zbnd hF
      obtain ⟨h28, e29, hF⟩ := hF
      refine zy_sB rfl rfl e29 ?_
      refine zx_iinc (w := 1) rfl rfl rfl rfl rfl ?_
      refine zx_goto rfl rfl ?_
      exact hr2  hF q
def f149_2 (n : Nat)   (k : Nat) : Nat → Option Nat → Int32 → zH → Option (Unit × zH) := Nat.rec (fun _ _ _ _ => none) (fun _ ih => b149_2 n  ih) k
theorem tf149_2 {d n : Nat} {Q : zRs → zH → Prop}   (hd : 72 ≤ d)   (k : Nat) : ∀ {l0 : Nat} {l1 : Option Nat} {l2 : Int32}   {h : zH} {p : (Unit × zH)}, f149_2 n   k l0 l1 l2 h = some p → Q (eV p.1) p.2 → zW d 149 2 [some (.ref l0), some (va_rf l1), some (.int l2)] [] h Q := by
  induction k with
  | zero => intros; rename_i hF _; cases hF
  | succ k ih => intros; rename_i  hF q; exact tb149_2 (n := n) hd  ih  hF q
def f149 (n : Nat)  (y0 : Nat) (y1 : Option Nat) (h : zH) : Option (Unit × zH) :=
  f149_2 n  n y0 y1 0 h
set_option maxRecDepth 20000 in
theorem t149 {d n : Nat} {Q : zRs → zH → Prop}  {y0 : Nat} {y1 : Option Nat} (hd : 72 ≤ d)  {h : zH} {p : (Unit × zH)} (hF : f149 n  y0 y1 h = some p) (q : Q (eV p.1) p.2) : zC d 149 [.ref y0, va_rf y1] h Q := by
  refine zC_of (L := [some (.ref y0), some (va_rf y1), none]) (congrArg (List.cons _) ((zsl_rf _ _).trans (congrArg (List.cons _) rfl))) rfl ?_
  unfold f149 at hF
  obtain ⟨d, rfl⟩ : ∃ e, d = e + 1 := ⟨d - 1, by omega⟩
  refine zx_iconst (v := 0) rfl rfl rfl ?_
  refine zx_istore_n rfl rfl (zput_ok (L' := [some (.ref y0), some (va_rf y1), some (.int 0)]) rfl (zcl_X (j := 1) rfl (zn2_rf _)) rfl) ?_
  exact tf149_2 hd  n (l0 := y0) (l1 := y1) (l2 := 0)  hF q
def f159 (n : Nat)  (y0 : Nat) (y1 : Int32) (h : zH) : Option (Int32 × zH) :=
  (gI h y0 2 3).bind fun x1 =>
  if ((x1 >>> (y1 &&& 31)) &&& 1) = 0 then
    some (0, h)
  else
    some (1, h)
set_option maxRecDepth 20000 in
theorem t159 {d n : Nat} {Q : zRs → zH → Prop}  {y0 : Nat} {y1 : Int32} (hd : 0 ≤ d)  {h : zH} {p : (Int32 × zH)} (hF : f159 n  y0 y1 h = some p) (q : Q (eI p.1) p.2) : zC d 159 [.ref y0, .int y1] h Q := by
  refine zC_of (L := [some (.ref y0), some (.int y1)]) rfl rfl ?_
  unfold f159 at hF
  refine zx_aload_n rfl rfl rfl ?_
  replace hF := zbnd hF
  obtain ⟨x1, e2, hF⟩ := hF
  refine zy_getI rfl rfl e2 ?_
  refine zx_iload_n rfl rfl rfl ?_
  refine zx_ishr rfl rfl ?_
  refine zx_iconst (v := 1) rfl rfl rfl ?_
  refine zx_iand rfl rfl ?_
  refine zx_if_eq rfl rfl (fun c3 => ?_) (fun c3 => ?_)
  · rw [if_pos c3] at hF
    refine zx_iconst (v := 0) rfl rfl rfl ?_
    replace hF := Option.some.inj hF
    subst hF
    exact zx_bret rfl rfl rfl rfl q
  · rw [if_neg c3] at hF
    refine zx_iconst (v := 1) rfl rfl rfl ?_
    refine zx_goto rfl rfl ?_
    replace hF := Option.some.inj hF
    subst hF
    exact zx_bret rfl rfl rfl rfl q
def f161 (n : Nat)  (y0 : Nat) (y1 : Int32) (y2 : Int32) (y3 : Int32) (y4 : Int32) (h : zH) : Option (Unit × zH) :=
  (gR h y0 1 5).bind fun x1 =>
  x1.bind fun a3 =>
  (aS zsI h a3 0 (.int y1)).bind fun h4 =>
  (gR h4 y0 1 5).bind fun x6 =>
  x6.bind fun a8 =>
  (aS zsI h4 a8 1 (.int y2)).bind fun h9 =>
  (gR h9 y0 1 5).bind fun x11 =>
  x11.bind fun a13 =>
  (aS zsI h9 a13 2 (.int y3)).bind fun h14 =>
  (gR h14 y0 1 5).bind fun x16 =>
  x16.bind fun a18 =>
  (aS zsI h14 a18 3 (.int y4)).bind fun h19 =>
  (gR h19 y0 1 5).bind fun x21 =>
  x21.bind fun a23 =>
  (aS zsI h19 a23 4 (.int (-1))).bind fun h24 =>
  some ((), h24)
set_option maxRecDepth 20000 in
theorem t161 {d n : Nat} {Q : zRs → zH → Prop}  {y0 : Nat} {y1 : Int32} {y2 : Int32} {y3 : Int32} {y4 : Int32} (hd : 0 ≤ d)  {h : zH} {p : (Unit × zH)} (hF : f161 n  y0 y1 y2 y3 y4 h = some p) (q : Q (eV p.1) p.2) : zC d 161 [.ref y0, .int y1, .int y2, .int y3, .int y4] h Q := by
  refine zC_of (L := [some (.ref y0), some (.int y1), some (.int y2), some (.int y3), some (.int y4)]) rfl rfl ?_
  unfold f161 at hF
  refine zx_aload_n rfl rfl rfl ?_
  replace hF := zbnd hF
  obtain ⟨x1, e2, hF⟩ := hF
  refine zy_getR rfl rfl e2 ?_
  refine zx_iconst (v := 0) rfl rfl rfl ?_
  refine zx_iload_n rfl rfl rfl ?_
  replace hF := zbnd hF
  obtain ⟨a3, rfl, hF⟩ := hF
  replace hF := zbnd hF
  obtain ⟨h4, e5, hF⟩ := hF
  refine zy_sI rfl rfl e5 ?_
  refine zx_aload_n rfl rfl rfl ?_
  replace hF := zbnd hF
  obtain ⟨x6, e7, hF⟩ := hF
  refine zy_getR rfl rfl e7 ?_
  refine zx_iconst (v := 1) rfl rfl rfl ?_
  refine zx_iload_n rfl rfl rfl ?_
  replace hF := zbnd hF
  obtain ⟨a8, rfl, hF⟩ := hF
  replace hF := zbnd hF
  obtain ⟨h9, e10, hF⟩ := hF
  refine zy_sI rfl rfl e10 ?_
  refine zx_aload_n rfl rfl rfl ?_
  replace hF := zbnd hF
  obtain ⟨x11, e12, hF⟩ := hF
  refine zy_getR rfl rfl e12 ?_
  refine zx_iconst (v := 2) rfl rfl rfl ?_
  refine zx_iload_n rfl rfl rfl ?_
  replace hF := zbnd hF
  obtain ⟨a13, rfl, hF⟩ := hF
  replace hF := zbnd hF
  obtain ⟨h14, e15, hF⟩ := hF
  refine zy_sI rfl rfl e15 ?_
  refine zx_aload_n rfl rfl rfl ?_
  replace hF := zbnd hF
  obtain ⟨x16, e17, hF⟩ := hF
  refine zy_getR rfl rfl e17 ?_
  refine zx_iconst (v := 3) rfl rfl rfl ?_
  refine zx_iload rfl rfl rfl ?_
  replace hF := zbnd hF
  obtain ⟨a18, rfl, hF⟩ := hF
  replace hF := zbnd hF
  obtain ⟨h19, e20, hF⟩ := hF
  refine zy_sI rfl rfl e20 ?_
  refine zx_aload_n rfl rfl rfl ?_
  replace hF := zbnd hF
  obtain ⟨x21, e22, hF⟩ := hF
  refine zy_getR rfl rfl e22 ?_
  refine zx_iconst (v := 4) rfl rfl rfl ?_
  refine zx_iconst (v := (-1)) rfl rfl rfl ?_
  replace hF := zbnd hF
  obtain ⟨a23, rfl, hF⟩ := hF
  replace hF := zbnd hF
  obtain ⟨h24, e25, hF⟩ := hF
  refine zy_sI rfl rfl e25 ?_
  replace hF := Option.some.inj hF
  subst hF
  exact zx_return rfl rfl rfl q
def f160 (n : Nat)  (y0 : Nat) (y1 : Int32) (y2 : Int32) (y3 : Int32) (h : zH) : Option (Unit × zH) :=
  zgd (isO h y0 1) <|
  (f161 n y0 y1 y2 (-1) (-1) h).bind fun p3 =>
  (pF p3.2 y0 1 6 (.int y3)).bind fun h4 =>
  some ((), h4)
set_option maxRecDepth 20000 in
theorem t160 {d n : Nat} {Q : zRs → zH → Prop}  {y0 : Nat} {y1 : Int32} {y2 : Int32} {y3 : Int32} (hd : 1 ≤ d)  {h : zH} {p : (Unit × zH)} (hF : f160 n  y0 y1 y2 y3 h = some p) (q : Q (eV p.1) p.2) : zC d 160 [.ref y0, .int y1, .int y2, .int y3] h Q := by
  refine zC_of (L := [some (.ref y0), some (.int y1), some (.int y2), some (.int y3)]) rfl rfl ?_
  unfold f160 at hF
  obtain ⟨d, rfl⟩ : ∃ e, d = e + 1 := ⟨d - 1, by omega⟩
  refine zx_aload_n rfl rfl rfl ?_
  refine zx_iload_n rfl rfl rfl ?_
  refine zx_iload_n rfl rfl rfl ?_
  refine zx_iconst (v := (-1)) rfl rfl rfl ?_
  refine zx_iconst (v := (-1)) rfl rfl rfl ?_
  replace hF := zgd_some hF
  obtain ⟨g1, hF⟩ := hF
  replace hF := zbnd hF
  obtain ⟨p3, e2, hF⟩ := hF
  refine zx_callE rfl rfl rfl rfl (zrcv_isO g1) rfl rfl (zc4 (Nat.le_of_ble_eq_true rfl)) (t161 (by omega) e2 (zaV ?_))
  refine zx_aload_n rfl rfl rfl ?_
  refine zx_iload_n rfl rfl rfl ?_
  replace hF := zbnd hF
  obtain ⟨h4, e5, hF⟩ := hF
  refine zy_put rfl rfl e5 ?_
  replace hF := Option.some.inj hF
  subst hF
  exact zx_return rfl rfl rfl q
def b162_65 (n : Nat)  (r7 : Nat → Option Nat → Int32 → Int32 → Int32 → Int32 → zH → Option (Int32 × zH)) (l0 : Nat) (l1 : Option Nat) (l2 : Int32) (l3 : Int32) (l4 : Int32) (l5 : Int32) (l6 : Option Nat) (h : zH) : Option (Int32 × zH) :=
  r7 l0 l1 l2 l3 l4 (l5 + 1) h
set_option maxRecDepth 20000 in
theorem tb162_65 {d n : Nat} {Q : zRs → zH → Prop}  {r7 : Nat → Option Nat → Int32 → Int32 → Int32 → Int32 → zH → Option (Int32 × zH)} {l0 : Nat} {l1 : Option Nat} {l2 : Int32} {l3 : Int32} {l4 : Int32} {l5 : Int32} {l6 : Option Nat}   (hd : 72 ≤ d)  (hr7 : ∀ {l0 : Nat} {l1 : Option Nat} {l2 : Int32} {l3 : Int32} {l4 : Int32} {l5 : Int32}  {x6 : Option Value} {h : zH} {p : (Int32 × zH)}, zn2 x6 = true → r7 l0 l1 l2 l3 l4 l5 h = some p → Q (eI p.1) p.2 → zW d 162 7 [some (.ref l0), some (va_rf l1), some (.int l2), some (.int l3), some (.int l4), some (.int l5), x6] [] h Q) {h : zH} {p : (Int32 × zH)}  (hF : b162_65 n  r7 l0 l1 l2 l3 l4 l5 l6 h = some p) (q : Q (eI p.1) p.2) : zW d 162 65 [some (.ref l0), some (va_rf l1), some (.int l2), some (.int l3), some (.int l4), some (.int l5), some (va_rf l6)] [] h Q := by
  unfold b162_65 at hF
  obtain ⟨d, rfl⟩ : ∃ e, d = e + 1 := ⟨d - 1, by omega⟩
  refine zx_iinc (w := 1) rfl rfl rfl rfl rfl ?_
  refine zx_goto rfl rfl ?_
  exact hr7 (zn2_rf _) hF q
def b162_7 (n : Nat)  (r7 : Nat → Option Nat → Int32 → Int32 → Int32 → Int32 → zH → Option (Int32 × zH)) (l0 : Nat) (l1 : Option Nat) (l2 : Int32) (l3 : Int32) (l4 : Int32) (l5 : Int32) (h : zH) : Option (Int32 × zH) :=
  if l3 ≤ l5 then
    some ((-1), h)
  else
    l1.bind fun a2 =>
    (gR h a2 4 6).bind fun x3 =>
    x3.bind fun a5 =>
    zgd (isO h a5 14) <|
    (f68 n a5 h).bind fun p8 =>
    if p8.1 ≤ l5 then
      some ((-1), p8.2)
    else
      (gR p8.2 a2 4 6).bind fun x10 =>
      x10.bind fun a12 =>
      zgd (isO p8.2 a12 14) <|
      (f74 n a12 l5 p8.2).bind fun p15 =>
      zgd (kC p15.2 p15.1 6 0) <|
      p15.1.bind fun a17 =>
      (gI p15.2 a17 6 0).bind fun x19 =>
      if x19 = l4 then
        (gR p15.2 a17 6 1).bind fun x22 =>
        zgd (isO p15.2 l0 1) <|
        (f150 n 64 l0 x22 0 p15.2).bind fun p26 =>
        if p26.1 = 0 then
          b162_65 n r7 l0 (some a2) l2 l3 l4 l5 (some a17) p26.2
        else
          some (l5, p26.2)
      else
        b162_65 n r7 l0 (some a2) l2 l3 l4 l5 (some a17) p15.2
set_option maxRecDepth 20000 in
theorem tb162_7 {d n : Nat} {Q : zRs → zH → Prop}  {r7 : Nat → Option Nat → Int32 → Int32 → Int32 → Int32 → zH → Option (Int32 × zH)} {l0 : Nat} {l1 : Option Nat} {l2 : Int32} {l3 : Int32} {l4 : Int32} {l5 : Int32}  {x6 : Option Value} (hd : 72 ≤ d)  (hr7 : ∀ {l0 : Nat} {l1 : Option Nat} {l2 : Int32} {l3 : Int32} {l4 : Int32} {l5 : Int32}  {x6 : Option Value} {h : zH} {p : (Int32 × zH)}, zn2 x6 = true → r7 l0 l1 l2 l3 l4 l5 h = some p → Q (eI p.1) p.2 → zW d 162 7 [some (.ref l0), some (va_rf l1), some (.int l2), some (.int l3), some (.int l4), some (.int l5), x6] [] h Q) {h : zH} {p : (Int32 × zH)} (hx6 : zn2 x6 = true) (hF : b162_7 n  r7 l0 l1 l2 l3 l4 l5 h = some p) (q : Q (eI p.1) p.2) : zW d 162 7 [some (.ref l0), some (va_rf l1), some (.int l2), some (.int l3), some (.int l4), some (.int l5), x6] [] h Q := by
  unfold b162_7 at hF
  obtain ⟨d, rfl⟩ : ∃ e, d = e + 1 := ⟨d - 1, by omega⟩
  refine zx_iload rfl rfl rfl ?_
  refine zx_iload_n rfl rfl rfl ?_
  refine zx_ic_ge rfl rfl (fun c1 => ?_) (fun c1 => ?_)
  · rw [if_pos c1] at hF
    refine zx_iconst (v := (-1)) rfl rfl rfl ?_
    replace hF := Option.some.inj hF
    subst hF
    exact zx_bret rfl rfl rfl rfl q
  · rw [if_neg c1] at hF
    refine zx_iload rfl rfl rfl ?_
    refine zy_rload_n rfl rfl rfl ?_
    replace hF := zbnd hF
    obtain ⟨a2, rfl, hF⟩ := hF
    replace hF := zbnd hF
    obtain ⟨x3, e4, hF⟩ := hF
    refine zy_getR rfl rfl e4 ?_
    replace hF := zbnd hF
    obtain ⟨a5, rfl, hF⟩ := hF
    replace hF := zgd_some hF
    obtain ⟨g6, hF⟩ := hF
    replace hF := zbnd hF
    obtain ⟨p8, e7, hF⟩ := hF
    refine zx_callE rfl rfl rfl rfl (zrcv_isO g6) rfl rfl (zc4 (Nat.le_of_ble_eq_true rfl)) (t68 (by omega) e7 (zaI ?_))
    refine zx_ic_ge rfl rfl (fun c9 => ?_) (fun c9 => ?_)
    · rw [if_pos c9] at hF
      refine zx_iconst (v := (-1)) rfl rfl rfl ?_
      replace hF := Option.some.inj hF
      subst hF
      exact zx_bret rfl rfl rfl rfl q
    · rw [if_neg c9] at hF
      refine zx_aload_n rfl rfl rfl ?_
      replace hF := zbnd hF
      obtain ⟨x10, e11, hF⟩ := hF
      refine zy_getR rfl rfl e11 ?_
      refine zx_iload rfl rfl rfl ?_
      replace hF := zbnd hF
      obtain ⟨a12, rfl, hF⟩ := hF
      replace hF := zgd_some hF
      obtain ⟨g13, hF⟩ := hF
      replace hF := zbnd hF
      obtain ⟨p15, e14, hF⟩ := hF
      refine zx_callE rfl rfl rfl rfl (zrcv_isO g13) rfl rfl (zc4 (Nat.le_of_ble_eq_true rfl)) (t74 (by omega) e14 (zaA ?_))
      replace hF := zgd_some hF
      obtain ⟨g16, hF⟩ := hF
      refine zy_cast (r := p15.1) rfl rfl g16 ?_
      refine zy_rstore rfl rfl rfl ?_
      refine zy_rload rfl rfl rfl ?_
      replace hF := zbnd hF
      obtain ⟨a17, e18, hF⟩ := hF
      rw [e18]
      replace hF := zbnd hF
      obtain ⟨x19, e20, hF⟩ := hF
      refine zy_getI rfl rfl e20 ?_
      refine zx_iload rfl rfl rfl ?_
      refine zx_ic_ne rfl rfl (fun c21 => ?_) (fun c21 => ?_)
      · rw [if_neg c21] at hF
        exact tb162_65 (l0 := l0) (l1 := (some a2)) (l2 := l2) (l3 := l3) (l4 := l4) (l5 := l5) (l6 := (some a17)) hd hr7  hF q
      · rw [if_pos c21] at hF
        refine zx_aload_n rfl rfl rfl ?_
        refine zx_aload rfl rfl rfl ?_
        replace hF := zbnd hF
        obtain ⟨x22, e23, hF⟩ := hF
        refine zy_getR rfl rfl e23 ?_
        refine zx_iconst (v := 0) rfl rfl rfl ?_
        replace hF := zgd_some hF
        obtain ⟨g24, hF⟩ := hF
        replace hF := zbnd hF
        obtain ⟨p26, e25, hF⟩ := hF
        refine zx_callE rfl rfl rfl rfl (zrcv_isO g24) (congrArg (List.cons _) ((zsl_rf _ _).trans (congrArg (List.cons _) rfl))) rfl (zc4 (Nat.le_of_ble_eq_true rfl)) (t150 64 (by omega) e25 (zaI ?_))
        refine zx_if_eq rfl rfl (fun c27 => ?_) (fun c27 => ?_)
        · rw [if_pos c27] at hF
          exact tb162_65 (l0 := l0) (l1 := (some a2)) (l2 := l2) (l3 := l3) (l4 := l4) (l5 := l5) (l6 := (some a17)) hd hr7  hF q
        · rw [if_neg c27] at hF
          refine zx_iload rfl rfl rfl ?_
          replace hF := Option.some.inj hF
          subst hF
          exact zx_bret rfl rfl rfl rfl q
def f162_7 (n : Nat)   (k : Nat) : Nat → Option Nat → Int32 → Int32 → Int32 → Int32 → zH → Option (Int32 × zH) := Nat.rec (fun _ _ _ _ _ _ _ => none) (fun _ ih => b162_7 n  ih) k
theorem tf162_7 {d n : Nat} {Q : zRs → zH → Prop}   (hd : 72 ≤ d)   (k : Nat) : ∀ {l0 : Nat} {l1 : Option Nat} {l2 : Int32} {l3 : Int32} {l4 : Int32} {l5 : Int32}  {x6 : Option Value} {h : zH} {p : (Int32 × zH)}, zn2 x6 = true → f162_7 n   k l0 l1 l2 l3 l4 l5 h = some p → Q (eI p.1) p.2 → zW d 162 7 [some (.ref l0), some (va_rf l1), some (.int l2), some (.int l3), some (.int l4), some (.int l5), x6] [] h Q := by
  induction k with
  | zero => intros; rename_i hF _; cases hF
  | succ k ih => intros; rename_i hx6 hF q; exact tb162_7 (n := n) hd  ih hx6 hF q
def f162 (n : Nat)  (y0 : Nat) (y1 : Option Nat) (y2 : Int32) (y3 : Int32) (y4 : Int32) (h : zH) : Option (Int32 × zH) :=
  (f22 n 0 y2 h).bind fun p2 =>
  f162_7 n  n y0 y1 y2 y3 y4 p2.1 p2.2
set_option maxRecDepth 20000 in
theorem t162 {d n : Nat} {Q : zRs → zH → Prop}  {y0 : Nat} {y1 : Option Nat} {y2 : Int32} {y3 : Int32} {y4 : Int32} (hd : 72 ≤ d)  {h : zH} {p : (Int32 × zH)} (hF : f162 n  y0 y1 y2 y3 y4 h = some p) (q : Q (eI p.1) p.2) : zC d 162 [.ref y0, va_rf y1, .int y2, .int y3, .int y4] h Q := by
  refine zC_of (L := [some (.ref y0), some (va_rf y1), some (.int y2), some (.int y3), some (.int y4), none, none]) (congrArg (List.cons _) ((zsl_rf _ _).trans (congrArg (List.cons _) rfl))) rfl ?_
  unfold f162 at hF
  obtain ⟨d, rfl⟩ : ∃ e, d = e + 1 := ⟨d - 1, by omega⟩
  refine zx_iconst (v := 0) rfl rfl rfl ?_
  refine zx_iload_n rfl rfl rfl ?_
  replace hF := zbnd hF
  obtain ⟨p2, e1, hF⟩ := hF
  refine zx_callE rfl rfl rfl rfl rfl rfl rfl (zc4 (Nat.le_of_ble_eq_true rfl)) (t22 (by omega) e1 (zaI ?_))
  refine zx_istore rfl rfl rfl ?_
  exact tf162_7 hd  n (l0 := y0) (l1 := y1) (l2 := y2) (l3 := y3) (l4 := y4) (l5 := p2.1) rfl hF q
def f164 (n : Nat)  (y0 : Nat) (h : zH) : Option (Int32 × zH) :=
  (gI h y0 7 4).bind fun x1 =>
  (gR h y0 7 3).bind fun x3 =>
  x3.bind fun a5 =>
  (aN h a5).bind fun x6 =>
  (f13 n (x1 - 1) x6 h).bind fun p9 =>
  if p9.1 = 0 then
    some (0, p9.2)
  else
    (gR p9.2 y0 7 3).bind fun x11 =>
    (gI p9.2 y0 7 4).bind fun x13 =>
    x11.bind fun a15 =>
    (aI p9.2 a15 (x13 - 1)).bind fun x16 =>
    some (x16, p9.2)
set_option maxRecDepth 20000 in
theorem t164 {d n : Nat} {Q : zRs → zH → Prop}  {y0 : Nat} (hd : 1 ≤ d)  {h : zH} {p : (Int32 × zH)} (hF : f164 n  y0 h = some p) (q : Q (eI p.1) p.2) : zC d 164 [.ref y0] h Q := by
  refine zC_of (L := [some (.ref y0)]) rfl rfl ?_
  unfold f164 at hF
  obtain ⟨d, rfl⟩ : ∃ e, d = e + 1 := ⟨d - 1, by omega⟩
  refine zx_aload_n rfl rfl rfl ?_
  replace hF := zbnd hF
  obtain ⟨x1, e2, hF⟩ := hF
  refine zy_getI rfl rfl e2 ?_
  refine zx_iconst (v := 1) rfl rfl rfl ?_
  refine zx_isub rfl rfl ?_
  refine zx_aload_n rfl rfl rfl ?_
  replace hF := zbnd hF
  obtain ⟨x3, e4, hF⟩ := hF
  refine zy_getR rfl rfl e4 ?_
  replace hF := zbnd hF
  obtain ⟨a5, rfl, hF⟩ := hF
  replace hF := zbnd hF
  obtain ⟨x6, e7, hF⟩ := hF
  refine zy_alen rfl rfl e7 ?_
  replace hF := zbnd hF
  obtain ⟨p9, e8, hF⟩ := hF
  refine zx_callF rfl rfl rfl rfl rfl rfl rfl (zc4 (Nat.le_of_ble_eq_true rfl)) (t13 (by omega) e8 (zaI ?_))
  refine zx_if_eq rfl rfl (fun c10 => ?_) (fun c10 => ?_)
  · rw [if_pos c10] at hF
    refine zx_iconst (v := 0) rfl rfl rfl ?_
    replace hF := Option.some.inj hF
    subst hF
    exact zx_bret rfl rfl rfl rfl q
  · rw [if_neg c10] at hF
    refine zx_aload_n rfl rfl rfl ?_
    replace hF := zbnd hF
    obtain ⟨x11, e12, hF⟩ := hF
    refine zy_getR rfl rfl e12 ?_
    refine zx_aload_n rfl rfl rfl ?_
    replace hF := zbnd hF
    obtain ⟨x13, e14, hF⟩ := hF
    refine zy_getI rfl rfl e14 ?_
    refine zx_iconst (v := 1) rfl rfl rfl ?_
    refine zx_isub rfl rfl ?_
    replace hF := zbnd hF
    obtain ⟨a15, rfl, hF⟩ := hF
    replace hF := zbnd hF
    obtain ⟨x16, e17, hF⟩ := hF
    refine zy_aI rfl rfl e17 ?_
    refine zx_goto rfl rfl ?_
    replace hF := Option.some.inj hF
    subst hF
    exact zx_bret rfl rfl rfl rfl q
def f167 (n : Nat)  (y0 : Int64) (y1 : Int32) (h : zH) : Option (Int64 × zH) :=
  some (((y0 ^^^ y1.toInt64) * (1099511628211)), h)
set_option maxRecDepth 20000 in
theorem t167 {d n : Nat} {Q : zRs → zH → Prop}  {y0 : Int64} {y1 : Int32} (hd : 0 ≤ d)  {h : zH} {p : (Int64 × zH)} (hF : f167 n  y0 y1 h = some p) (q : Q (eJ p.1) p.2) : zC d 167 [.long y0, .int y1] h Q := by
  refine zC_of (L := [some (.long y0), none, some (.int y1)]) rfl rfl ?_
  unfold f167 at hF
  refine zx_lload_n rfl rfl rfl ?_
  refine zx_iload_n rfl rfl rfl ?_
  refine zx_i2l rfl rfl ?_
  refine zx_lxor rfl rfl ?_
  refine zx_ldc2 rfl rfl rfl ?_
  refine zx_lmul rfl rfl ?_
  replace hF := Option.some.inj hF
  subst hF
  exact zx_lreturn rfl rfl rfl q
def b166_5 (n : Nat)  (r5 : Int64 → Option Nat → Int64 → Int32 → zH → Option (Int64 × zH)) (l0 : Int64) (l2 : Option Nat) (l3 : Int64) (l5 : Int32) (h : zH) : Option (Int64 × zH) :=
  l2.bind fun a1 =>
  zgd (isO h a1 12) <|
  (f55 n a1 h).bind fun p4 =>
  if p4.1 ≤ l5 then
    some (l3, p4.2)
  else
    zgd (isO p4.2 a1 12) <|
    (f59 n a1 l5 p4.2).bind fun p8 =>
    (f167 n l3 p8.1 p8.2).bind fun p10 =>
    r5 l0 (some a1) p10.1 (l5 + 1) p10.2
set_option maxRecDepth 20000 in
theorem tb166_5 {d n : Nat} {Q : zRs → zH → Prop}  {r5 : Int64 → Option Nat → Int64 → Int32 → zH → Option (Int64 × zH)} {l0 : Int64} {l2 : Option Nat} {l3 : Int64} {l5 : Int32}   (hd : 4 ≤ d)  (hr5 : ∀ {l0 : Int64} {l2 : Option Nat} {l3 : Int64} {l5 : Int32}   {h : zH} {p : (Int64 × zH)}, r5 l0 l2 l3 l5 h = some p → Q (eJ p.1) p.2 → zW d 166 5 [some (.long l0), none, some (va_rf l2), some (.long l3), none, some (.int l5)] [] h Q) {h : zH} {p : (Int64 × zH)}  (hF : b166_5 n  r5 l0 l2 l3 l5 h = some p) (q : Q (eJ p.1) p.2) : zW d 166 5 [some (.long l0), none, some (va_rf l2), some (.long l3), none, some (.int l5)] [] h Q := by
  unfold b166_5 at hF
  obtain ⟨d, rfl⟩ : ∃ e, d = e + 1 := ⟨d - 1, by omega⟩
  refine zx_iload rfl rfl rfl ?_
  refine zy_rload_n rfl rfl rfl ?_
  replace hF := zbnd hF
  obtain ⟨a1, rfl, hF⟩ := hF
  replace hF := zgd_some hF
  obtain ⟨g2, hF⟩ := hF
  replace hF := zbnd hF
  obtain ⟨p4, e3, hF⟩ := hF
  refine zx_callE rfl rfl rfl rfl (zrcv_isO g2) rfl rfl (zc4 (Nat.le_of_ble_eq_true rfl)) (t55 (by omega) e3 (zaI ?_))
  refine zx_ic_ge rfl rfl (fun c5 => ?_) (fun c5 => ?_)
  · rw [if_pos c5] at hF
    refine zx_lload_n rfl rfl rfl ?_
    replace hF := Option.some.inj hF
    subst hF
    exact zx_lreturn rfl rfl rfl q
  · rw [if_neg c5] at hF
    refine zx_lload_n rfl rfl rfl ?_
    refine zx_aload_n rfl rfl rfl ?_
    refine zx_iload rfl rfl rfl ?_
    replace hF := zgd_some hF
    obtain ⟨g6, hF⟩ := hF
    replace hF := zbnd hF
    obtain ⟨p8, e7, hF⟩ := hF
    refine zx_callE rfl rfl rfl rfl (zrcv_isO g6) rfl rfl (zc4 (Nat.le_of_ble_eq_true rfl)) (t59 (by omega) e7 (zaI ?_))
    replace hF := zbnd hF
    obtain ⟨p10, e9, hF⟩ := hF
    refine zx_callE rfl rfl rfl rfl rfl rfl rfl (zc4 (Nat.le_of_ble_eq_true rfl)) (t167 (by omega) e9 (zaJ ?_))
    refine zx_lstore_n rfl rfl rfl ?_
    refine zx_iinc (w := 1) rfl rfl rfl rfl rfl ?_
    refine zx_goto rfl rfl ?_
    exact hr5  hF q
def f166_5 (n : Nat)   (k : Nat) : Int64 → Option Nat → Int64 → Int32 → zH → Option (Int64 × zH) := Nat.rec (fun _ _ _ _ _ => none) (fun _ ih => b166_5 n  ih) k
theorem tf166_5 {d n : Nat} {Q : zRs → zH → Prop}   (hd : 4 ≤ d)   (k : Nat) : ∀ {l0 : Int64} {l2 : Option Nat} {l3 : Int64} {l5 : Int32}   {h : zH} {p : (Int64 × zH)}, f166_5 n   k l0 l2 l3 l5 h = some p → Q (eJ p.1) p.2 → zW d 166 5 [some (.long l0), none, some (va_rf l2), some (.long l3), none, some (.int l5)] [] h Q := by
  induction k with
  | zero => intros; rename_i hF _; cases hF
  | succ k ih => intros; rename_i  hF q; exact tb166_5 (n := n) hd  ih  hF q
def f166 (n : Nat)  (y0 : Int64) (y1 : Option Nat) (h : zH) : Option (Int64 × zH) :=
  f166_5 n  n y0 y1 y0 0 h
set_option maxRecDepth 20000 in
theorem t166 {d n : Nat} {Q : zRs → zH → Prop}  {y0 : Int64} {y1 : Option Nat} (hd : 4 ≤ d)  {h : zH} {p : (Int64 × zH)} (hF : f166 n  y0 y1 h = some p) (q : Q (eJ p.1) p.2) : zC d 166 [.long y0, va_rf y1] h Q := by
  refine zC_of (L := [some (.long y0), none, some (va_rf y1), none, none, none]) (congrArg (fun l => _ :: none :: l) ((zsl_rf _ _).trans (congrArg (List.cons _) rfl))) rfl ?_
  unfold f166 at hF
  obtain ⟨d, rfl⟩ : ∃ e, d = e + 1 := ⟨d - 1, by omega⟩
  refine zx_lload_n rfl rfl rfl ?_
  refine zx_lstore_n rfl rfl (zput2_ok (L' := [some (.long y0), none, some (va_rf y1), some (.long y0), none, none]) rfl (zcl_X (j := 2) rfl (zn2_rf _)) rfl) ?_
  refine zx_iconst (v := 0) rfl rfl rfl ?_
  refine zx_istore rfl rfl rfl ?_
  exact tf166_5 hd  n (l0 := y0) (l2 := y1) (l3 := y0) (l5 := 0)  hF q
def f165 (n : Nat)  (y0 : Option Nat) (y1 : Option Nat) (h : zH) : Option (Int32 × zH) :=
  (f166 n (-3750763034362895579) y0 h).bind fun p2 =>
  (f167 n p2.1 0 p2.2).bind fun p4 =>
  (f166 n p4.1 y1 p4.2).bind fun p6 =>
  some ((((((p6.1 ^^^ (p6.1.toUInt64 >>> ((32 : Int32).toInt64.toUInt64 &&& Int64.toUInt64 63)).toInt64).toUInt64 >>> ((1 : Int32).toInt64.toUInt64 &&& Int64.toUInt64 63)).toInt64 - ((p6.1 ^^^ (p6.1.toUInt64 >>> ((32 : Int32).toInt64.toUInt64 &&& Int64.toUInt64 63)).toInt64).toUInt64 >>> ((1 : Int32).toInt64.toUInt64 &&& Int64.toUInt64 63)).toInt64 / (5000) * (5000)) * (2)) + ((p6.1 ^^^ (p6.1.toUInt64 >>> ((32 : Int32).toInt64.toUInt64 &&& Int64.toUInt64 63)).toInt64) &&& 1)).toInt32, p6.2)
set_option maxRecDepth 20000 in
theorem t165 {d n : Nat} {Q : zRs → zH → Prop}  {y0 : Option Nat} {y1 : Option Nat} (hd : 5 ≤ d)  {h : zH} {p : (Int32 × zH)} (hF : f165 n  y0 y1 h = some p) (q : Q (eI p.1) p.2) : zC d 165 [va_rf y0, va_rf y1] h Q := by
  refine zC_of (L := [some (va_rf y0), some (va_rf y1), none, none]) ((zsl_rf _ _).trans (congrArg (List.cons _) ((zsl_rf _ _).trans (congrArg (List.cons _) rfl)))) rfl ?_
  unfold f165 at hF
  obtain ⟨d, rfl⟩ : ∃ e, d = e + 1 := ⟨d - 1, by omega⟩
  refine zx_ldc2 rfl rfl rfl ?_
  refine zy_rload_n rfl rfl rfl ?_
  replace hF := zbnd hF
  obtain ⟨p2, e1, hF⟩ := hF
  refine zx_callE rfl rfl rfl rfl rfl (congrArg (fun l => _ :: none :: l) ((zsl_rf _ _).trans (congrArg (List.cons _) rfl))) rfl (zc4 (Nat.le_of_ble_eq_true rfl)) (t166 (by omega) e1 (zaJ ?_))
  refine zx_lstore_n rfl rfl (zput2_ok (L' := [some (va_rf y0), some (va_rf y1), some (.long p2.1), none]) rfl (zcl_X (j := 1) rfl (zn2_rf _)) rfl) ?_
  refine zx_lload_n rfl rfl rfl ?_
  refine zx_iconst (v := 0) rfl rfl rfl ?_
  replace hF := zbnd hF
  obtain ⟨p4, e3, hF⟩ := hF
  refine zx_callE rfl rfl rfl rfl rfl rfl rfl (zc4 (Nat.le_of_ble_eq_true rfl)) (t167 (by omega) e3 (zaJ ?_))
  refine zx_lstore_n rfl rfl (zput2_ok (L' := [some (va_rf y0), some (va_rf y1), some (.long p4.1), none]) rfl (zcl_X (j := 1) rfl (zn2_rf _)) rfl) ?_
  refine zx_lload_n rfl rfl rfl ?_
  refine zy_rload_n rfl rfl rfl ?_
  replace hF := zbnd hF
  obtain ⟨p6, e5, hF⟩ := hF
  refine zx_callE rfl rfl rfl rfl rfl (congrArg (fun l => _ :: none :: l) ((zsl_rf _ _).trans (congrArg (List.cons _) rfl))) rfl (zc4 (Nat.le_of_ble_eq_true rfl)) (t166 (by omega) e5 (zaJ ?_))
  refine zx_lstore_n rfl rfl (zput2_ok (L' := [some (va_rf y0), some (va_rf y1), some (.long p6.1), none]) rfl (zcl_X (j := 1) rfl (zn2_rf _)) rfl) ?_
  refine zx_lload_n rfl rfl rfl ?_
  refine zx_lload_n rfl rfl rfl ?_
  refine zx_bipush (v := 32) rfl rfl rfl ?_
  refine zx_lushr rfl rfl ?_
  refine zx_lxor rfl rfl ?_
  refine zx_lstore_n rfl rfl (zput2_ok (L' := [some (va_rf y0), some (va_rf y1), some (.long (p6.1 ^^^ (p6.1.toUInt64 >>> ((32 : Int32).toInt64.toUInt64 &&& Int64.toUInt64 63)).toInt64)), none]) rfl (zcl_X (j := 1) rfl (zn2_rf _)) rfl) ?_
  refine zx_lload_n rfl rfl rfl ?_
  refine zx_iconst (v := 1) rfl rfl rfl ?_
  refine zx_lushr rfl rfl ?_
  refine zx_ldc2 rfl rfl rfl ?_
  refine zx_lrem rfl rfl (by decide) ?_
  refine zx_ldc2 rfl rfl rfl ?_
  refine zx_lmul rfl rfl ?_
  refine zx_lload_n rfl rfl rfl ?_
  refine zx_lconst (v := 1) rfl rfl rfl ?_
  refine zx_land rfl rfl ?_
  refine zx_ladd rfl rfl ?_
  refine zx_l2i rfl rfl ?_
  replace hF := Option.some.inj hF
  subst hF
  exact zx_bret rfl rfl rfl rfl q
def b168_57 (n : Nat)   (l0 : Nat) (l1 : Int32) (l2 : Int32) (l3 : Int32) (h : zH) : Option (Int32 × zH) :=
  zgd (isO h l0 7) <|
  (f164 n l0 h).bind fun p3 =>
  some (p3.1, p3.2)
set_option maxRecDepth 20000 in
theorem tb168_57 {d n : Nat} {Q : zRs → zH → Prop}   {l0 : Nat} {l1 : Int32} {l2 : Int32} {l3 : Int32}   (hd : 2 ≤ d)   {h : zH} {p : (Int32 × zH)}  (hF : b168_57 n   l0 l1 l2 l3 h = some p) (q : Q (eI p.1) p.2) : zW d 168 57 [some (.ref l0), some (.int l1), some (.int l2), some (.int l3)] [] h Q := by
  unfold b168_57 at hF
  obtain ⟨d, rfl⟩ : ∃ e, d = e + 1 := ⟨d - 1, by omega⟩
  refine zx_aload_n rfl rfl rfl ?_
  replace hF := zgd_some hF
  obtain ⟨g1, hF⟩ := hF
  replace hF := zbnd hF
  obtain ⟨p3, e2, hF⟩ := hF
  refine zx_callE rfl rfl rfl rfl (zrcv_isO g1) rfl rfl (zc4 (Nat.le_of_ble_eq_true rfl)) (t164 (by omega) e2 (zaI ?_))
  replace hF := Option.some.inj hF
  subst hF
  exact zx_bret rfl rfl rfl rfl q
def b168_4 (n : Nat)  (r4 : Nat → Int32 → Int32 → Int32 → zH → Option (Int32 × zH)) (l0 : Nat) (l1 : Int32) (l2 : Int32) (l3 : Int32) (h : zH) : Option (Int32 × zH) :=
  (gI h l0 7 4).bind fun x1 =>
  if x1 ≤ l3 then
    b168_57 n  l0 l1 l2 l3 h
  else
    (gR h l0 7 2).bind fun x4 =>
    x4.bind fun a6 =>
    (aN h a6).bind fun x7 =>
    if x7 ≤ l3 then
      b168_57 n  l0 l1 l2 l3 h
    else
      (gR h l0 7 3).bind fun x10 =>
      x10.bind fun a12 =>
      (aN h a12).bind fun x13 =>
      if x13 ≤ l3 then
        b168_57 n  l0 l1 l2 l3 h
      else
        (gR h l0 7 2).bind fun x16 =>
        x16.bind fun a18 =>
        (aI h a18 l3).bind fun x19 =>
        if (l2 + x19) ≤ l1 then
          r4 l0 l1 (l2 + x19) (l3 + 1) h
        else
          (gR h l0 7 3).bind fun x22 =>
          x22.bind fun a24 =>
          (aI h a24 l3).bind fun x25 =>
          some (x25, h)
set_option maxRecDepth 20000 in
theorem tb168_4 {d n : Nat} {Q : zRs → zH → Prop}  {r4 : Nat → Int32 → Int32 → Int32 → zH → Option (Int32 × zH)} {l0 : Nat} {l1 : Int32} {l2 : Int32} {l3 : Int32}   (hd : 2 ≤ d)  (hr4 : ∀ {l0 : Nat} {l1 : Int32} {l2 : Int32} {l3 : Int32}   {h : zH} {p : (Int32 × zH)}, r4 l0 l1 l2 l3 h = some p → Q (eI p.1) p.2 → zW d 168 4 [some (.ref l0), some (.int l1), some (.int l2), some (.int l3)] [] h Q) {h : zH} {p : (Int32 × zH)}  (hF : b168_4 n  r4 l0 l1 l2 l3 h = some p) (q : Q (eI p.1) p.2) : zW d 168 4 [some (.ref l0), some (.int l1), some (.int l2), some (.int l3)] [] h Q := by
  unfold b168_4 at hF
  obtain ⟨d, rfl⟩ : ∃ e, d = e + 1 := ⟨d - 1, by omega⟩
  refine zx_iload_n rfl rfl rfl ?_
  refine zx_aload_n rfl rfl rfl ?_
  replace hF := zbnd hF
  obtain ⟨x1, e2, hF⟩ := hF
  refine zy_getI rfl rfl e2 ?_
  refine zx_ic_ge rfl rfl (fun c3 => ?_) (fun c3 => ?_)
  · rw [if_pos c3] at hF
    exact tb168_57 (l0 := l0) (l1 := l1) (l2 := l2) (l3 := l3) hd   hF q
  · rw [if_neg c3] at hF
    refine zx_iload_n rfl rfl rfl ?_
    refine zx_aload_n rfl rfl rfl ?_
    replace hF := zbnd hF
    obtain ⟨x4, e5, hF⟩ := hF
    refine zy_getR rfl rfl e5 ?_
    replace hF := zbnd hF
    obtain ⟨a6, rfl, hF⟩ := hF
    replace hF := zbnd hF
    obtain ⟨x7, e8, hF⟩ := hF
    refine zy_alen rfl rfl e8 ?_
    refine zx_ic_ge rfl rfl (fun c9 => ?_) (fun c9 => ?_)
    · rw [if_pos c9] at hF
      exact tb168_57 (l0 := l0) (l1 := l1) (l2 := l2) (l3 := l3) hd   hF q
    · rw [if_neg c9] at hF
      refine zx_iload_n rfl rfl rfl ?_
      refine zx_aload_n rfl rfl rfl ?_
      replace hF := zbnd hF
      obtain ⟨x10, e11, hF⟩ := hF
      refine zy_getR rfl rfl e11 ?_
      replace hF := zbnd hF
      obtain ⟨a12, rfl, hF⟩ := hF
      replace hF := zbnd hF
      obtain ⟨x13, e14, hF⟩ := hF
      refine zy_alen rfl rfl e14 ?_
      refine zx_ic_ge rfl rfl (fun c15 => ?_) (fun c15 => ?_)
      · rw [if_pos c15] at hF
        exact tb168_57 (l0 := l0) (l1 := l1) (l2 := l2) (l3 := l3) hd   hF q
      · rw [if_neg c15] at hF
        refine zx_iload_n rfl rfl rfl ?_
        refine zx_aload_n rfl rfl rfl ?_
        replace hF := zbnd hF
        obtain ⟨x16, e17, hF⟩ := hF
        refine zy_getR rfl rfl e17 ?_
        refine zx_iload_n rfl rfl rfl ?_
        replace hF := zbnd hF
        obtain ⟨a18, rfl, hF⟩ := hF
        replace hF := zbnd hF
        obtain ⟨x19, e20, hF⟩ := hF
        refine zy_aI rfl rfl e20 ?_
        refine zx_iadd rfl rfl ?_
        refine zx_istore_n rfl rfl rfl ?_
        refine zx_iload_n rfl rfl rfl ?_
        refine zx_iload_n rfl rfl rfl ?_
        refine zx_ic_le rfl rfl (fun c21 => ?_) (fun c21 => ?_)
        · rw [if_pos c21] at hF
          refine zx_iinc (w := 1) rfl rfl rfl rfl rfl ?_
          refine zx_goto rfl rfl ?_
          exact hr4  hF q
        · rw [if_neg c21] at hF
          refine zx_aload_n rfl rfl rfl ?_
          replace hF := zbnd hF
          obtain ⟨x22, e23, hF⟩ := hF
          refine zy_getR rfl rfl e23 ?_
          refine zx_iload_n rfl rfl rfl ?_
          replace hF := zbnd hF
          obtain ⟨a24, rfl, hF⟩ := hF
          replace hF := zbnd hF
          obtain ⟨x25, e26, hF⟩ := hF
          refine zy_aI rfl rfl e26 ?_
          replace hF := Option.some.inj hF
          subst hF
          exact zx_bret rfl rfl rfl rfl q
def f168_4 (n : Nat)   (k : Nat) : Nat → Int32 → Int32 → Int32 → zH → Option (Int32 × zH) := Nat.rec (fun _ _ _ _ _ => none) (fun _ ih => b168_4 n  ih) k
theorem tf168_4 {d n : Nat} {Q : zRs → zH → Prop}   (hd : 2 ≤ d)   (k : Nat) : ∀ {l0 : Nat} {l1 : Int32} {l2 : Int32} {l3 : Int32}   {h : zH} {p : (Int32 × zH)}, f168_4 n   k l0 l1 l2 l3 h = some p → Q (eI p.1) p.2 → zW d 168 4 [some (.ref l0), some (.int l1), some (.int l2), some (.int l3)] [] h Q := by
  induction k with
  | zero => intros; rename_i hF _; cases hF
  | succ k ih => intros; rename_i  hF q; exact tb168_4 (n := n) hd  ih  hF q
def f168 (n : Nat)  (y0 : Nat) (y1 : Int32) (h : zH) : Option (Int32 × zH) :=
  f168_4 n  n y0 y1 0 0 h
set_option maxRecDepth 20000 in
theorem t168 {d n : Nat} {Q : zRs → zH → Prop}  {y0 : Nat} {y1 : Int32} (hd : 2 ≤ d)  {h : zH} {p : (Int32 × zH)} (hF : f168 n  y0 y1 h = some p) (q : Q (eI p.1) p.2) : zC d 168 [.ref y0, .int y1] h Q := by
  refine zC_of (L := [some (.ref y0), some (.int y1), none, none]) rfl rfl ?_
  unfold f168 at hF
  obtain ⟨d, rfl⟩ : ∃ e, d = e + 1 := ⟨d - 1, by omega⟩
  refine zx_iconst (v := 0) rfl rfl rfl ?_
  refine zx_istore_n rfl rfl rfl ?_
  refine zx_iconst (v := 0) rfl rfl rfl ?_
  refine zx_istore_n rfl rfl rfl ?_
  exact tf168_4 hd  n (l0 := y0) (l1 := y1) (l2 := 0) (l3 := 0)  hF q
def b163_39 (n : Nat)   (l0 : Nat) (l1 : Int32) (l2 : Int32) (l3 : Int32) (l4 : Option Nat) (l5 : Option Nat) (h : zH) : Option (Unit × zH) :=
  zgd (isO h l0 1) <|
  (f161 n l0 l1 l2 l3 (-1) h).bind fun p3 =>
  l4.bind fun a4 =>
  zgd (isO p3.2 a4 7) <|
  (f164 n a4 p3.2).bind fun p7 =>
  (pF p7.2 l0 1 6 (.int p7.1)).bind fun h8 =>
  some ((), h8)
set_option maxRecDepth 20000 in
theorem tb163_39 {d n : Nat} {Q : zRs → zH → Prop}   {l0 : Nat} {l1 : Int32} {l2 : Int32} {l3 : Int32} {l4 : Option Nat} {l5 : Option Nat}  {x6 : Option Value} (hd : 6 ≤ d)   {h : zH} {p : (Unit × zH)} (hx6 : zn2 x6 = true) (hF : b163_39 n   l0 l1 l2 l3 l4 l5 h = some p) (q : Q (eV p.1) p.2) : zW d 163 39 [some (.ref l0), some (.int l1), some (.int l2), some (.int l3), some (va_rf l4), some (va_rf l5), x6] [] h Q := by
  unfold b163_39 at hF
  obtain ⟨d, rfl⟩ : ∃ e, d = e + 1 := ⟨d - 1, by omega⟩
  refine zx_aload_n rfl rfl rfl ?_
  refine zx_iload_n rfl rfl rfl ?_
  refine zx_iload_n rfl rfl rfl ?_
  refine zx_iload_n rfl rfl rfl ?_
  refine zx_iconst (v := (-1)) rfl rfl rfl ?_
  replace hF := zgd_some hF
  obtain ⟨g1, hF⟩ := hF
  replace hF := zbnd hF
  obtain ⟨p3, e2, hF⟩ := hF
  refine zx_callE rfl rfl rfl rfl (zrcv_isO g1) rfl rfl (zc4 (Nat.le_of_ble_eq_true rfl)) (t161 (by omega) e2 (zaV ?_))
  refine zx_aload_n rfl rfl rfl ?_
  refine zy_rload rfl rfl rfl ?_
  replace hF := zbnd hF
  obtain ⟨a4, rfl, hF⟩ := hF
  replace hF := zgd_some hF
  obtain ⟨g5, hF⟩ := hF
  replace hF := zbnd hF
  obtain ⟨p7, e6, hF⟩ := hF
  refine zx_callE rfl rfl rfl rfl (zrcv_isO g5) rfl rfl (zc4 (Nat.le_of_ble_eq_true rfl)) (t164 (by omega) e6 (zaI ?_))
  replace hF := zbnd hF
  obtain ⟨h8, e9, hF⟩ := hF
  refine zy_put rfl rfl e9 ?_
  replace hF := Option.some.inj hF
  subst hF
  exact zx_return rfl rfl rfl q
def b163_24 (n : Nat)   (l0 : Nat) (l1 : Int32) (l2 : Int32) (l3 : Int32) (l4 : Option Nat) (s0 : Option Nat) (h : zH) : Option (Unit × zH) :=
  match s0 with
  | none =>
    b163_39 n  l0 l1 l2 l3 l4 none h
  | some a1 =>
    l4.bind fun a2 =>
    (gR h a2 7 1).bind fun x3 =>
    match x3 with
    | none =>
      b163_39 n  l0 l1 l2 l3 (some a2) (some a1) h
    | some a5 =>
      (gR h a2 7 1).bind fun x6 =>
      x6.bind fun a8 =>
      (gR h a8 9 3).bind fun x9 =>
      (gR h a1 9 3).bind fun x11 =>
      (f165 n x9 x11 h).bind fun p14 =>
      zgd (isO p14.2 l0 1) <|
      (f161 n l0 l1 l2 l3 p14.1 p14.2).bind fun p17 =>
      zgd (isO p17.2 a2 7) <|
      (f168 n a2 p14.1 p17.2).bind fun p20 =>
      (pF p20.2 l0 1 6 (.int p20.1)).bind fun h21 =>
      some ((), h21)
set_option maxRecDepth 20000 in
theorem tb163_24 {d n : Nat} {Q : zRs → zH → Prop}   {l0 : Nat} {l1 : Int32} {l2 : Int32} {l3 : Int32} {l4 : Option Nat} {s0 : Option Nat} {x5 : Option Value} {x6 : Option Value} (hd : 6 ≤ d)   {h : zH} {p : (Unit × zH)} (hx5 : zn2 x5 = true) (hx6 : zn2 x6 = true) (hF : b163_24 n   l0 l1 l2 l3 l4 s0 h = some p) (q : Q (eV p.1) p.2) : zW d 163 24 [some (.ref l0), some (.int l1), some (.int l2), some (.int l3), some (va_rf l4), x5, x6] [va_rf s0] h Q := by
  unfold b163_24 at hF
  obtain ⟨d, rfl⟩ : ∃ e, d = e + 1 := ⟨d - 1, by omega⟩
  refine zy_rstore rfl rfl (zput_ok (L' := [some (.ref l0), some (.int l1), some (.int l2), some (.int l3), some (va_rf l4), some (va_rf s0), x6]) rfl (zcl_X (j := 4) rfl (zn2_rf _)) rfl) ?_
  refine zy_rload rfl rfl rfl ?_
  cases s0 with
  | none =>
    dsimp only at hF
    refine zx_ifnullN rfl rfl ?_
    exact tb163_39 (l0 := l0) (l1 := l1) (l2 := l2) (l3 := l3) (l4 := l4) (l5 := none) hd  hx6 hF q
  | some a1 =>
    dsimp only at hF
    refine zx_ifnull rfl rfl ?_
    refine zy_rload rfl rfl rfl ?_
    replace hF := zbnd hF
    obtain ⟨a2, rfl, hF⟩ := hF
    replace hF := zbnd hF
    obtain ⟨x3, e4, hF⟩ := hF
    refine zy_getR rfl rfl e4 ?_
    cases x3 with
    | none =>
      dsimp only at hF
      refine zx_ifnnN rfl rfl ?_
      exact tb163_39 (l0 := l0) (l1 := l1) (l2 := l2) (l3 := l3) (l4 := (some a2)) (l5 := (some a1)) hd  hx6 hF q
    | some a5 =>
      dsimp only at hF
      refine zx_ifnn rfl rfl ?_
      refine zx_aload rfl rfl rfl ?_
      replace hF := zbnd hF
      obtain ⟨x6, e7, hF⟩ := hF
      refine zy_getR rfl rfl e7 ?_
      replace hF := zbnd hF
      obtain ⟨a8, rfl, hF⟩ := hF
      replace hF := zbnd hF
      obtain ⟨x9, e10, hF⟩ := hF
      refine zy_getR rfl rfl e10 ?_
      refine zx_aload rfl rfl rfl ?_
      replace hF := zbnd hF
      obtain ⟨x11, e12, hF⟩ := hF
      refine zy_getR rfl rfl e12 ?_
      replace hF := zbnd hF
      obtain ⟨p14, e13, hF⟩ := hF
      refine zx_callE rfl rfl rfl rfl rfl ((zsl_rf _ _).trans (congrArg (List.cons _) ((zsl_rf _ _).trans (congrArg (List.cons _) rfl)))) rfl (zc4 (Nat.le_of_ble_eq_true rfl)) (t165 (by omega) e13 (zaI ?_))
      refine zx_istore rfl rfl rfl ?_
      refine zx_aload_n rfl rfl rfl ?_
      refine zx_iload_n rfl rfl rfl ?_
      refine zx_iload_n rfl rfl rfl ?_
      refine zx_iload_n rfl rfl rfl ?_
      refine zx_iload rfl rfl rfl ?_
      replace hF := zgd_some hF
      obtain ⟨g15, hF⟩ := hF
      replace hF := zbnd hF
      obtain ⟨p17, e16, hF⟩ := hF
      refine zx_callE rfl rfl rfl rfl (zrcv_isO g15) rfl rfl (zc4 (Nat.le_of_ble_eq_true rfl)) (t161 (by omega) e16 (zaV ?_))
      refine zx_aload_n rfl rfl rfl ?_
      refine zx_aload rfl rfl rfl ?_
      refine zx_iload rfl rfl rfl ?_
      replace hF := zgd_some hF
      obtain ⟨g18, hF⟩ := hF
      replace hF := zbnd hF
      obtain ⟨p20, e19, hF⟩ := hF
      refine zx_callE rfl rfl rfl rfl (zrcv_isO g18) rfl rfl (zc4 (Nat.le_of_ble_eq_true rfl)) (t168 (by omega) e19 (zaI ?_))
      replace hF := zbnd hF
      obtain ⟨h21, e22, hF⟩ := hF
      refine zy_put rfl rfl e22 ?_
      replace hF := Option.some.inj hF
      subst hF
      exact zx_return rfl rfl rfl q
def f163 (n : Nat)  (y0 : Nat) (y1 : Int32) (y2 : Int32) (y3 : Int32) (y4 : Option Nat) (h : zH) : Option (Unit × zH) :=
  y4.bind fun a1 =>
  (gR h a1 7 0).bind fun x2 =>
  match x2 with
  | none =>
    b163_24 n  y0 y1 y2 y3 (some a1) none h
  | some a4 =>
    (gR h a1 7 0).bind fun x5 =>
    x5.bind fun a7 =>
    (gR h a7 9 3).bind fun x8 =>
    zgd (isO h y0 1) <|
    (f153 n y0 x8 h).bind fun p12 =>
    b163_24 n  y0 y1 y2 y3 (some a1) p12.1 p12.2
set_option maxRecDepth 20000 in
theorem t163 {d n : Nat} {Q : zRs → zH → Prop}  {y0 : Nat} {y1 : Int32} {y2 : Int32} {y3 : Int32} {y4 : Option Nat} (hd : 6 ≤ d)  {h : zH} {p : (Unit × zH)} (hF : f163 n  y0 y1 y2 y3 y4 h = some p) (q : Q (eV p.1) p.2) : zC d 163 [.ref y0, .int y1, .int y2, .int y3, va_rf y4] h Q := by
  refine zC_of (L := [some (.ref y0), some (.int y1), some (.int y2), some (.int y3), some (va_rf y4), none, none]) (congrArg (List.cons _) (congrArg (List.cons _) (congrArg (List.cons _) (congrArg (List.cons _) ((zsl_rf _ _).trans (congrArg (List.cons _) rfl)))))) rfl ?_
  unfold f163 at hF
  obtain ⟨d, rfl⟩ : ∃ e, d = e + 1 := ⟨d - 1, by omega⟩
  refine zy_rload rfl rfl rfl ?_
  replace hF := zbnd hF
  obtain ⟨a1, rfl, hF⟩ := hF
  replace hF := zbnd hF
  obtain ⟨x2, e3, hF⟩ := hF
  refine zy_getR rfl rfl e3 ?_
  cases x2 with
  | none =>
    dsimp only at hF
    refine zx_ifnnN rfl rfl ?_
    refine zx_null rfl rfl ?_
    refine zx_goto rfl rfl ?_
    exact tb163_24 (l0 := y0) (l1 := y1) (l2 := y2) (l3 := y3) (l4 := (some a1)) (s0 := none) hd  rfl rfl hF q
  | some a4 =>
    dsimp only at hF
    refine zx_ifnn rfl rfl ?_
    refine zx_aload_n rfl rfl rfl ?_
    refine zx_aload rfl rfl rfl ?_
    replace hF := zbnd hF
    obtain ⟨x5, e6, hF⟩ := hF
    refine zy_getR rfl rfl e6 ?_
    replace hF := zbnd hF
    obtain ⟨a7, rfl, hF⟩ := hF
    replace hF := zbnd hF
    obtain ⟨x8, e9, hF⟩ := hF
    refine zy_getR rfl rfl e9 ?_
    replace hF := zgd_some hF
    obtain ⟨g10, hF⟩ := hF
    replace hF := zbnd hF
    obtain ⟨p12, e11, hF⟩ := hF
    refine zx_callE rfl rfl rfl rfl (zrcv_isO g10) (congrArg (List.cons _) ((zsl_rf _ _).trans (congrArg (List.cons _) rfl))) rfl (zc4 (Nat.le_of_ble_eq_true rfl)) (t153 (by omega) e11 (zaA ?_))
    exact tb163_24 (l0 := y0) (l1 := y1) (l2 := y2) (l3 := y3) (l4 := (some a1)) (s0 := p12.1) hd  rfl rfl hF q
def f169 (n : Nat)  (y0 : Nat) (y1 : Int32) (h : zH) : Option (Option Nat × zH) :=
  (gR h y0 2 4).bind fun x1 =>
  x1.bind fun a3 =>
  (aN h a3).bind fun x4 =>
  (f13 n y1 x4 h).bind fun p7 =>
  if p7.1 = 0 then
    some (none, p7.2)
  else
    (gR p7.2 y0 2 4).bind fun x9 =>
    x9.bind fun a11 =>
    (aR p7.2 a11 y1).bind fun x12 =>
    some (x12, p7.2)
set_option maxRecDepth 20000 in
theorem t169 {d n : Nat} {Q : zRs → zH → Prop}  {y0 : Nat} {y1 : Int32} (hd : 1 ≤ d)  {h : zH} {p : (Option Nat × zH)} (hF : f169 n  y0 y1 h = some p) (q : Q (eA p.1) p.2) : zC d 169 [.ref y0, .int y1] h Q := by
  refine zC_of (L := [some (.ref y0), some (.int y1)]) rfl rfl ?_
  unfold f169 at hF
  obtain ⟨d, rfl⟩ : ∃ e, d = e + 1 := ⟨d - 1, by omega⟩
  refine zx_iload_n rfl rfl rfl ?_
  refine zx_aload_n rfl rfl rfl ?_
  replace hF := zbnd hF
  obtain ⟨x1, e2, hF⟩ := hF
  refine zy_getR rfl rfl e2 ?_
  replace hF := zbnd hF
  obtain ⟨a3, rfl, hF⟩ := hF
  replace hF := zbnd hF
  obtain ⟨x4, e5, hF⟩ := hF
  refine zy_alen rfl rfl e5 ?_
  replace hF := zbnd hF
  obtain ⟨p7, e6, hF⟩ := hF
  refine zx_callF rfl rfl rfl rfl rfl rfl rfl (zc4 (Nat.le_of_ble_eq_true rfl)) (t13 (by omega) e6 (zaI ?_))
  refine zx_if_eq rfl rfl (fun c8 => ?_) (fun c8 => ?_)
  · rw [if_pos c8] at hF
    refine zx_null rfl rfl ?_
    replace hF := Option.some.inj hF
    subst hF
    exact zy_areturn (r := none) rfl rfl rfl rfl q
  · rw [if_neg c8] at hF
    refine zx_aload_n rfl rfl rfl ?_
    replace hF := zbnd hF
    obtain ⟨x9, e10, hF⟩ := hF
    refine zy_getR rfl rfl e10 ?_
    refine zx_iload_n rfl rfl rfl ?_
    replace hF := zbnd hF
    obtain ⟨a11, rfl, hF⟩ := hF
    replace hF := zbnd hF
    obtain ⟨x12, e13, hF⟩ := hF
    refine zy_aR rfl rfl e13 ?_
    refine zx_goto rfl rfl ?_
    replace hF := Option.some.inj hF
    subst hF
    exact zy_areturn (r := x12) rfl rfl rfl rfl q
def b158_6 (n : Nat)  (r6 : Nat → Option Nat → Int32 → Int32 → Int32 → Int32 → zH → Option (Int32 × zH)) (l0 : Nat) (l1 : Option Nat) (l2 : Int32) (l3 : Int32) (l4 : Int32) (l5 : Int32) (h : zH) : Option (Int32 × zH) :=
  if (8 : Int32) ≤ l5 then
    some (0, h)
  else
    l1.bind fun a2 =>
    (gR h a2 4 5).bind fun x3 =>
    x3.bind fun a5 =>
    zgd (isO h a5 14) <|
    (f68 n a5 h).bind fun p8 =>
    (f13 n l4 p8.1 p8.2).bind fun p10 =>
    if p10.1 = 0 then
      some (0, p10.2)
    else
      (gR p10.2 a2 4 5).bind fun x12 =>
      x12.bind fun a14 =>
      zgd (isO p10.2 a14 14) <|
      (f74 n a14 l4 p10.2).bind fun p17 =>
      zgd (kC p17.2 p17.1 2 0) <|
      p17.1.bind fun a19 =>
      zgd (isO p17.2 a19 2) <|
      (f159 n a19 l2 p17.2).bind fun p23 =>
      if p23.1 = 0 then
        (gI p23.2 a19 2 1).bind fun x25 =>
        (gI p23.2 a19 2 2).bind fun x27 =>
        zgd (isO p23.2 l0 1) <|
        (f162 n l0 (some a2) x25 x27 l2 p23.2).bind fun p31 =>
        if p31.1 = (-1) then
          zgd (isO p31.2 a19 2) <|
          (f169 n a19 l2 p31.2).bind fun p35 =>
          match p35.1 with
          | none =>
            (gI p35.2 a19 2 0).bind fun x38 =>
            r6 l0 (some a2) l2 l3 x38 (l5 + 1) p35.2
          | some a36 =>
            zgd (isO p35.2 l0 1) <|
            (f163 n l0 5 l4 (-1) (some a36) p35.2).bind fun p42 =>
            some (1, p42.2)
        else
          (gR p31.2 a2 4 6).bind fun x43 =>
          x43.bind fun a45 =>
          zgd (isO p31.2 a45 14) <|
          (f74 n a45 p31.1 p31.2).bind fun p48 =>
          zgd (kC p48.2 p48.1 6 0) <|
          p48.1.bind fun a50 =>
          (gR p48.2 a50 6 2).bind fun x52 =>
          zgd (isO p48.2 l0 1) <|
          (f163 n l0 4 l4 p31.1 x52 p48.2).bind fun p56 =>
          some (1, p56.2)
      else
        (gR p23.2 a2 4 4).bind fun x57 =>
        x57.bind fun a59 =>
        zgd (isO p23.2 a59 14) <|
        (f74 n a59 l2 p23.2).bind fun p62 =>
        zgd (kC p62.2 p62.1 0 0) <|
        p62.1.bind fun a64 =>
        (gI p62.2 a64 0 7).bind fun x66 =>
        zgd (isO p62.2 l0 1) <|
        (f160 n l0 3 l4 x66 p62.2).bind fun p70 =>
        some (1, p70.2)
set_option maxRecDepth 20000 in
theorem tb158_6 {d n : Nat} {Q : zRs → zH → Prop}  {r6 : Nat → Option Nat → Int32 → Int32 → Int32 → Int32 → zH → Option (Int32 × zH)} {l0 : Nat} {l1 : Option Nat} {l2 : Int32} {l3 : Int32} {l4 : Int32} {l5 : Int32}  {x6 : Option Value} {x7 : Option Value} {x8 : Option Value} (hd : 73 ≤ d)  (hr6 : ∀ {l0 : Nat} {l1 : Option Nat} {l2 : Int32} {l3 : Int32} {l4 : Int32} {l5 : Int32}  {x6 : Option Value} {x7 : Option Value} {x8 : Option Value} {h : zH} {p : (Int32 × zH)}, zn2 x6 = true → zn2 x7 = true → zn2 x8 = true → r6 l0 l1 l2 l3 l4 l5 h = some p → Q (eI p.1) p.2 → zW d 158 6 [some (.ref l0), some (va_rf l1), some (.int l2), some (.int l3), some (.int l4), some (.int l5), x6, x7, x8] [] h Q) {h : zH} {p : (Int32 × zH)} (hx6 : zn2 x6 = true) (hx7 : zn2 x7 = true) (hx8 : zn2 x8 = true) (hF : b158_6 n  r6 l0 l1 l2 l3 l4 l5 h = some p) (q : Q (eI p.1) p.2) : zW d 158 6 [some (.ref l0), some (va_rf l1), some (.int l2), some (.int l3), some (.int l4), some (.int l5), x6, x7, x8] [] h Q := by
  unfold b158_6 at hF
  obtain ⟨d, rfl⟩ : ∃ e, d = e + 1 := ⟨d - 1, by omega⟩
  refine zx_iload rfl rfl rfl ?_
  refine zx_bipush (v := 8) rfl rfl rfl ?_
  refine zx_ic_ge rfl rfl (fun c1 => ?_) (fun c1 => ?_)
  · rw [if_pos c1] at hF
    refine zx_iconst (v := 0) rfl rfl rfl ?_
    replace hF := Option.some.inj hF
    subst hF
    exact zx_bret rfl rfl rfl rfl q
  · rw [if_neg c1] at hF
    refine zx_iload rfl rfl rfl ?_
    refine zy_rload_n rfl rfl rfl ?_
    replace hF := zbnd hF
    obtain ⟨a2, rfl, hF⟩ := hF
    replace hF := zbnd hF
    obtain ⟨x3, e4, hF⟩ := hF
    refine zy_getR rfl rfl e4 ?_
    replace hF := zbnd hF
    obtain ⟨a5, rfl, hF⟩ := hF
    replace hF := zgd_some hF
    obtain ⟨g6, hF⟩ := hF
    replace hF := zbnd hF
    obtain ⟨p8, e7, hF⟩ := hF
    refine zx_callE rfl rfl rfl rfl (zrcv_isO g6) rfl rfl (zc4 (Nat.le_of_ble_eq_true rfl)) (t68 (by omega) e7 (zaI ?_))
    replace hF := zbnd hF
    obtain ⟨p10, e9, hF⟩ := hF
    refine zx_callF rfl rfl rfl rfl rfl rfl rfl (zc4 (Nat.le_of_ble_eq_true rfl)) (t13 (by omega) e9 (zaI ?_))
    refine zx_if_eq rfl rfl (fun c11 => ?_) (fun c11 => ?_)
    · rw [if_pos c11] at hF
      refine zx_iconst (v := 0) rfl rfl rfl ?_
      replace hF := Option.some.inj hF
      subst hF
      exact zx_bret rfl rfl rfl rfl q
    · rw [if_neg c11] at hF
      refine zx_aload_n rfl rfl rfl ?_
      replace hF := zbnd hF
      obtain ⟨x12, e13, hF⟩ := hF
      refine zy_getR rfl rfl e13 ?_
      refine zx_iload rfl rfl rfl ?_
      replace hF := zbnd hF
      obtain ⟨a14, rfl, hF⟩ := hF
      replace hF := zgd_some hF
      obtain ⟨g15, hF⟩ := hF
      replace hF := zbnd hF
      obtain ⟨p17, e16, hF⟩ := hF
      refine zx_callE rfl rfl rfl rfl (zrcv_isO g15) rfl rfl (zc4 (Nat.le_of_ble_eq_true rfl)) (t74 (by omega) e16 (zaA ?_))
      replace hF := zgd_some hF
      obtain ⟨g18, hF⟩ := hF
      refine zy_cast (r := p17.1) rfl rfl g18 ?_
      refine zy_rstore rfl rfl rfl ?_
      refine zy_rload rfl rfl rfl ?_
      refine zx_iload_n rfl rfl rfl ?_
      replace hF := zbnd hF
      obtain ⟨a19, e20, hF⟩ := hF
      rw [e20]
      replace hF := zgd_some hF
      obtain ⟨g21, hF⟩ := hF
      replace hF := zbnd hF
      obtain ⟨p23, e22, hF⟩ := hF
      refine zx_callE rfl rfl rfl rfl (zrcv_isO g21) rfl rfl (zc4 (Nat.le_of_ble_eq_true rfl)) (t159 (by omega) e22 (zaI ?_))
      refine zx_if_eq rfl rfl (fun c24 => ?_) (fun c24 => ?_)
      · rw [if_pos c24] at hF
        refine zx_aload_n rfl rfl rfl ?_
        refine zx_aload_n rfl rfl rfl ?_
        refine zx_aload rfl rfl rfl ?_
        replace hF := zbnd hF
        obtain ⟨x25, e26, hF⟩ := hF
        refine zy_getI rfl rfl e26 ?_
        refine zx_aload rfl rfl rfl ?_
        replace hF := zbnd hF
        obtain ⟨x27, e28, hF⟩ := hF
        refine zy_getI rfl rfl e28 ?_
        refine zx_iload_n rfl rfl rfl ?_
        replace hF := zgd_some hF
        obtain ⟨g29, hF⟩ := hF
        replace hF := zbnd hF
        obtain ⟨p31, e30, hF⟩ := hF
        refine zx_callE rfl rfl rfl rfl (zrcv_isO g29) rfl rfl (zc4 (Nat.le_of_ble_eq_true rfl)) (t162 (by omega) e30 (zaI ?_))
        refine zx_istore rfl rfl rfl ?_
        refine zx_iload rfl rfl rfl ?_
        refine zx_iconst (v := (-1)) rfl rfl rfl ?_
        refine zx_ic_eq rfl rfl (fun c32 => ?_) (fun c32 => ?_)
        · rw [if_pos c32] at hF
          refine zx_aload rfl rfl rfl ?_
          refine zx_iload_n rfl rfl rfl ?_
          replace hF := zgd_some hF
          obtain ⟨g33, hF⟩ := hF
          replace hF := zbnd hF
          obtain ⟨p35, e34, hF⟩ := hF
          refine zx_callE rfl rfl rfl rfl (zrcv_isO g33) rfl rfl (zc4 (Nat.le_of_ble_eq_true rfl)) (t169 (by omega) e34 (zaA ?_))
          refine zy_rstore rfl rfl rfl ?_
          refine zy_rload rfl rfl rfl ?_
          generalize p35.1 = o37 at hF ⊢
          cases o37 with
          | none =>
            dsimp only at hF
            refine zx_ifnullN rfl rfl ?_
            refine zx_aload rfl rfl rfl ?_
            replace hF := zbnd hF
            obtain ⟨x38, e39, hF⟩ := hF
            refine zy_getI rfl rfl e39 ?_
            refine zx_istore rfl rfl rfl ?_
            refine zx_iinc (w := 1) rfl rfl rfl rfl rfl ?_
            refine zx_goto rfl rfl ?_
            exact hr6 rfl rfl rfl hF q
          | some a36 =>
            dsimp only at hF
            refine zx_ifnull rfl rfl ?_
            refine zx_aload_n rfl rfl rfl ?_
            refine zx_iconst (v := 5) rfl rfl rfl ?_
            refine zx_iload rfl rfl rfl ?_
            refine zx_iconst (v := (-1)) rfl rfl rfl ?_
            refine zx_aload rfl rfl rfl ?_
            replace hF := zgd_some hF
            obtain ⟨g40, hF⟩ := hF
            replace hF := zbnd hF
            obtain ⟨p42, e41, hF⟩ := hF
            refine zx_callE rfl rfl rfl rfl (zrcv_isO g40) rfl rfl (zc4 (Nat.le_of_ble_eq_true rfl)) (t163 (by omega) e41 (zaV ?_))
            refine zx_iconst (v := 1) rfl rfl rfl ?_
            replace hF := Option.some.inj hF
            subst hF
            exact zx_bret rfl rfl rfl rfl q
        · rw [if_neg c32] at hF
          refine zx_aload_n rfl rfl rfl ?_
          refine zx_iconst (v := 4) rfl rfl rfl ?_
          refine zx_iload rfl rfl rfl ?_
          refine zx_iload rfl rfl rfl ?_
          refine zx_aload_n rfl rfl rfl ?_
          replace hF := zbnd hF
          obtain ⟨x43, e44, hF⟩ := hF
          refine zy_getR rfl rfl e44 ?_
          refine zx_iload rfl rfl rfl ?_
          replace hF := zbnd hF
          obtain ⟨a45, rfl, hF⟩ := hF
          replace hF := zgd_some hF
          obtain ⟨g46, hF⟩ := hF
          replace hF := zbnd hF
          obtain ⟨p48, e47, hF⟩ := hF
          refine zx_callE rfl rfl rfl rfl (zrcv_isO g46) rfl rfl (zc4 (Nat.le_of_ble_eq_true rfl)) (t74 (by omega) e47 (zaA ?_))
          replace hF := zgd_some hF
          obtain ⟨g49, hF⟩ := hF
          refine zy_cast (r := p48.1) rfl rfl g49 ?_
          replace hF := zbnd hF
          obtain ⟨a50, e51, hF⟩ := hF
          rw [e51]
          replace hF := zbnd hF
          obtain ⟨x52, e53, hF⟩ := hF
          refine zy_getR rfl rfl e53 ?_
          replace hF := zgd_some hF
          obtain ⟨g54, hF⟩ := hF
          replace hF := zbnd hF
          obtain ⟨p56, e55, hF⟩ := hF
          refine zx_callE rfl rfl rfl rfl (zrcv_isO g54) (congrArg (List.cons _) (congrArg (List.cons _) (congrArg (List.cons _) (congrArg (List.cons _) ((zsl_rf _ _).trans (congrArg (List.cons _) rfl)))))) rfl (zc4 (Nat.le_of_ble_eq_true rfl)) (t163 (by omega) e55 (zaV ?_))
          refine zx_iconst (v := 1) rfl rfl rfl ?_
          replace hF := Option.some.inj hF
          subst hF
          exact zx_bret rfl rfl rfl rfl q
      · rw [if_neg c24] at hF
        refine zx_aload_n rfl rfl rfl ?_
        refine zx_iconst (v := 3) rfl rfl rfl ?_
        refine zx_iload rfl rfl rfl ?_
        refine zx_aload_n rfl rfl rfl ?_
        replace hF := zbnd hF
        obtain ⟨x57, e58, hF⟩ := hF
        refine zy_getR rfl rfl e58 ?_
        refine zx_iload_n rfl rfl rfl ?_
        replace hF := zbnd hF
        obtain ⟨a59, rfl, hF⟩ := hF
        replace hF := zgd_some hF
        obtain ⟨g60, hF⟩ := hF
        replace hF := zbnd hF
        obtain ⟨p62, e61, hF⟩ := hF
        refine zx_callE rfl rfl rfl rfl (zrcv_isO g60) rfl rfl (zc4 (Nat.le_of_ble_eq_true rfl)) (t74 (by omega) e61 (zaA ?_))
        replace hF := zgd_some hF
        obtain ⟨g63, hF⟩ := hF
        refine zy_cast (r := p62.1) rfl rfl g63 ?_
        replace hF := zbnd hF
        obtain ⟨a64, e65, hF⟩ := hF
        rw [e65]
        replace hF := zbnd hF
        obtain ⟨x66, e67, hF⟩ := hF
        refine zy_getI rfl rfl e67 ?_
        replace hF := zgd_some hF
        obtain ⟨g68, hF⟩ := hF
        replace hF := zbnd hF
        obtain ⟨p70, e69, hF⟩ := hF
        refine zx_callE rfl rfl rfl rfl (zrcv_isO g68) rfl rfl (zc4 (Nat.le_of_ble_eq_true rfl)) (t160 (by omega) e69 (zaV ?_))
        refine zx_iconst (v := 1) rfl rfl rfl ?_
        replace hF := Option.some.inj hF
        subst hF
        exact zx_bret rfl rfl rfl rfl q
def f158_6 (n : Nat)   (k : Nat) : Nat → Option Nat → Int32 → Int32 → Int32 → Int32 → zH → Option (Int32 × zH) := Nat.rec (fun _ _ _ _ _ _ _ => none) (fun _ ih => b158_6 n  ih) k
theorem tf158_6 {d n : Nat} {Q : zRs → zH → Prop}   (hd : 73 ≤ d)   (k : Nat) : ∀ {l0 : Nat} {l1 : Option Nat} {l2 : Int32} {l3 : Int32} {l4 : Int32} {l5 : Int32}  {x6 : Option Value} {x7 : Option Value} {x8 : Option Value} {h : zH} {p : (Int32 × zH)}, zn2 x6 = true → zn2 x7 = true → zn2 x8 = true → f158_6 n   k l0 l1 l2 l3 l4 l5 h = some p → Q (eI p.1) p.2 → zW d 158 6 [some (.ref l0), some (va_rf l1), some (.int l2), some (.int l3), some (.int l4), some (.int l5), x6, x7, x8] [] h Q := by
  induction k with
  | zero => intros; rename_i hF _; cases hF
  | succ k ih => intros; rename_i hx6 hx7 hx8 hF q; exact tb158_6 (n := n) hd  ih hx6 hx7 hx8 hF q
def f158 (n : Nat)  (y0 : Nat) (y1 : Option Nat) (y2 : Int32) (y3 : Int32) (h : zH) : Option (Int32 × zH) :=
  f158_6 n  n y0 y1 y2 y3 y3 0 h
set_option maxRecDepth 20000 in
theorem t158 {d n : Nat} {Q : zRs → zH → Prop}  {y0 : Nat} {y1 : Option Nat} {y2 : Int32} {y3 : Int32} (hd : 73 ≤ d)  {h : zH} {p : (Int32 × zH)} (hF : f158 n  y0 y1 y2 y3 h = some p) (q : Q (eI p.1) p.2) : zC d 158 [.ref y0, va_rf y1, .int y2, .int y3] h Q := by
  refine zC_of (L := [some (.ref y0), some (va_rf y1), some (.int y2), some (.int y3), none, none, none, none, none]) (congrArg (List.cons _) ((zsl_rf _ _).trans (congrArg (List.cons _) rfl))) rfl ?_
  unfold f158 at hF
  obtain ⟨d, rfl⟩ : ∃ e, d = e + 1 := ⟨d - 1, by omega⟩
  refine zx_iload_n rfl rfl rfl ?_
  refine zx_istore rfl rfl rfl ?_
  refine zx_iconst (v := 0) rfl rfl rfl ?_
  refine zx_istore rfl rfl rfl ?_
  exact tf158_6 hd  n (l0 := y0) (l1 := y1) (l2 := y2) (l3 := y3) (l4 := y3) (l5 := 0) rfl rfl rfl hF q
def b170_15 (n : Nat)  (r15 : Nat → Option Nat → Int32 → Option Nat → Int32 → zH → Option (Unit × zH)) (l0 : Nat) (l1 : Option Nat) (l2 : Int32) (l3 : Option Nat) (l4 : Int32) (h : zH) : Option (Unit × zH) :=
  l3.bind fun a1 =>
  zgd (isO h a1 0) <|
  (f112 n a1 h).bind fun p4 =>
  if p4.1 ≤ l4 then
    (gI p4.2 a1 0 8).bind fun x6 =>
    (gI p4.2 a1 0 9).bind fun x8 =>
    zgd (isO p4.2 l0 1) <|
    (f162 n l0 l1 x6 x8 l2 p4.2).bind fun p12 =>
    if p12.1 = (-1) then
      (gR p12.2 a1 0 6).bind fun x14 =>
      zgd (isO p12.2 l0 1) <|
      (f163 n l0 0 (-1) (-1) x14 p12.2).bind fun p18 =>
      some ((), p18.2)
    else
      l1.bind fun a19 =>
      (gR p12.2 a19 4 6).bind fun x20 =>
      x20.bind fun a22 =>
      zgd (isO p12.2 a22 14) <|
      (f74 n a22 p12.1 p12.2).bind fun p25 =>
      zgd (kC p25.2 p25.1 6 0) <|
      p25.1.bind fun a27 =>
      (gR p25.2 a27 6 2).bind fun x29 =>
      zgd (isO p25.2 l0 1) <|
      (f163 n l0 2 (-1) p12.1 x29 p25.2).bind fun p33 =>
      some ((), p33.2)
  else
    (gR p4.2 a1 0 4).bind fun x34 =>
    x34.bind fun a36 =>
    (aI p4.2 a36 l4).bind fun x37 =>
    (gR p4.2 l0 1 4).bind fun x39 =>
    x39.bind fun a41 =>
    (aI p4.2 a41 x37).bind fun x42 =>
    (gR p4.2 a1 0 5).bind fun x44 =>
    x44.bind fun a46 =>
    (aI p4.2 a46 l4).bind fun x47 =>
    if x42 = x47 then
      r15 l0 l1 l2 (some a1) (l4 + 1) p4.2
    else
      (gI p4.2 a1 0 7).bind fun x50 =>
      zgd (isO p4.2 l0 1) <|
      (f160 n l0 1 (-1) x50 p4.2).bind fun p54 =>
      (gR p54.2 l0 1 5).bind fun x55 =>
      x55.bind fun a57 =>
      (aS zsI p54.2 a57 4 (.int x37)).bind fun h58 =>
      some ((), h58)
set_option maxRecDepth 20000 in
theorem tb170_15 {d n : Nat} {Q : zRs → zH → Prop}  {r15 : Nat → Option Nat → Int32 → Option Nat → Int32 → zH → Option (Unit × zH)} {l0 : Nat} {l1 : Option Nat} {l2 : Int32} {l3 : Option Nat} {l4 : Int32}  {x5 : Option Value} (hd : 73 ≤ d)  (hr15 : ∀ {l0 : Nat} {l1 : Option Nat} {l2 : Int32} {l3 : Option Nat} {l4 : Int32}  {x5 : Option Value} {h : zH} {p : (Unit × zH)}, zn2 x5 = true → r15 l0 l1 l2 l3 l4 h = some p → Q (eV p.1) p.2 → zW d 170 15 [some (.ref l0), some (va_rf l1), some (.int l2), some (va_rf l3), some (.int l4), x5] [] h Q) {h : zH} {p : (Unit × zH)} (hx5 : zn2 x5 = true) (hF : b170_15 n  r15 l0 l1 l2 l3 l4 h = some p) (q : Q (eV p.1) p.2) : zW d 170 15 [some (.ref l0), some (va_rf l1), some (.int l2), some (va_rf l3), some (.int l4), x5] [] h Q := by
  unfold b170_15 at hF
  obtain ⟨d, rfl⟩ : ∃ e, d = e + 1 := ⟨d - 1, by omega⟩
  refine zx_iload rfl rfl rfl ?_
  refine zy_rload_n rfl rfl rfl ?_
  replace hF := zbnd hF
  obtain ⟨a1, rfl, hF⟩ := hF
  replace hF := zgd_some hF
  obtain ⟨g2, hF⟩ := hF
  replace hF := zbnd hF
  obtain ⟨p4, e3, hF⟩ := hF
  refine zx_callE rfl rfl rfl rfl (zrcv_isO g2) rfl rfl (zc4 (Nat.le_of_ble_eq_true rfl)) (t112 (by omega) e3 (zaI ?_))
  refine zx_ic_ge rfl rfl (fun c5 => ?_) (fun c5 => ?_)
  · rw [if_pos c5] at hF
    refine zx_aload_n rfl rfl rfl ?_
    refine zy_rload_n rfl rfl rfl ?_
    refine zx_aload_n rfl rfl rfl ?_
    replace hF := zbnd hF
    obtain ⟨x6, e7, hF⟩ := hF
    refine zy_getI rfl rfl e7 ?_
    refine zx_aload_n rfl rfl rfl ?_
    replace hF := zbnd hF
    obtain ⟨x8, e9, hF⟩ := hF
    refine zy_getI rfl rfl e9 ?_
    refine zx_iload_n rfl rfl rfl ?_
    replace hF := zgd_some hF
    obtain ⟨g10, hF⟩ := hF
    replace hF := zbnd hF
    obtain ⟨p12, e11, hF⟩ := hF
    refine zx_callE rfl rfl rfl rfl (zrcv_isO g10) (congrArg (List.cons _) ((zsl_rf _ _).trans (congrArg (List.cons _) rfl))) rfl (zc4 (Nat.le_of_ble_eq_true rfl)) (t162 (by omega) e11 (zaI ?_))
    refine zx_istore rfl rfl rfl ?_
    refine zx_iload rfl rfl rfl ?_
    refine zx_iconst (v := (-1)) rfl rfl rfl ?_
    refine zx_ic_ne rfl rfl (fun c13 => ?_) (fun c13 => ?_)
    · rw [if_neg c13] at hF
      refine zx_aload_n rfl rfl rfl ?_
      refine zx_iconst (v := 2) rfl rfl rfl ?_
      refine zx_iconst (v := (-1)) rfl rfl rfl ?_
      refine zx_iload rfl rfl rfl ?_
      refine zy_rload_n rfl rfl rfl ?_
      replace hF := zbnd hF
      obtain ⟨a19, rfl, hF⟩ := hF
      replace hF := zbnd hF
      obtain ⟨x20, e21, hF⟩ := hF
      refine zy_getR rfl rfl e21 ?_
      refine zx_iload rfl rfl rfl ?_
      replace hF := zbnd hF
      obtain ⟨a22, rfl, hF⟩ := hF
      replace hF := zgd_some hF
      obtain ⟨g23, hF⟩ := hF
      replace hF := zbnd hF
      obtain ⟨p25, e24, hF⟩ := hF
      refine zx_callE rfl rfl rfl rfl (zrcv_isO g23) rfl rfl (zc4 (Nat.le_of_ble_eq_true rfl)) (t74 (by omega) e24 (zaA ?_))
      replace hF := zgd_some hF
      obtain ⟨g26, hF⟩ := hF
      refine zy_cast (r := p25.1) rfl rfl g26 ?_
      replace hF := zbnd hF
      obtain ⟨a27, e28, hF⟩ := hF
      rw [e28]
      replace hF := zbnd hF
      obtain ⟨x29, e30, hF⟩ := hF
      refine zy_getR rfl rfl e30 ?_
      replace hF := zgd_some hF
      obtain ⟨g31, hF⟩ := hF
      replace hF := zbnd hF
      obtain ⟨p33, e32, hF⟩ := hF
      refine zx_callE rfl rfl rfl rfl (zrcv_isO g31) (congrArg (List.cons _) (congrArg (List.cons _) (congrArg (List.cons _) (congrArg (List.cons _) ((zsl_rf _ _).trans (congrArg (List.cons _) rfl)))))) rfl (zc4 (Nat.le_of_ble_eq_true rfl)) (t163 (by omega) e32 (zaV ?_))
      replace hF := Option.some.inj hF
      subst hF
      exact zx_return rfl rfl rfl q
    · rw [if_pos c13] at hF
      refine zx_aload_n rfl rfl rfl ?_
      refine zx_iconst (v := 0) rfl rfl rfl ?_
      refine zx_iconst (v := (-1)) rfl rfl rfl ?_
      refine zx_iconst (v := (-1)) rfl rfl rfl ?_
      refine zx_aload_n rfl rfl rfl ?_
      replace hF := zbnd hF
      obtain ⟨x14, e15, hF⟩ := hF
      refine zy_getR rfl rfl e15 ?_
      replace hF := zgd_some hF
      obtain ⟨g16, hF⟩ := hF
      replace hF := zbnd hF
      obtain ⟨p18, e17, hF⟩ := hF
      refine zx_callE rfl rfl rfl rfl (zrcv_isO g16) (congrArg (List.cons _) (congrArg (List.cons _) (congrArg (List.cons _) (congrArg (List.cons _) ((zsl_rf _ _).trans (congrArg (List.cons _) rfl)))))) rfl (zc4 (Nat.le_of_ble_eq_true rfl)) (t163 (by omega) e17 (zaV ?_))
      refine zx_goto rfl rfl ?_
      replace hF := Option.some.inj hF
      subst hF
      exact zx_return rfl rfl rfl q
  · rw [if_neg c5] at hF
    refine zx_aload_n rfl rfl rfl ?_
    replace hF := zbnd hF
    obtain ⟨x34, e35, hF⟩ := hF
    refine zy_getR rfl rfl e35 ?_
    refine zx_iload rfl rfl rfl ?_
    replace hF := zbnd hF
    obtain ⟨a36, rfl, hF⟩ := hF
    replace hF := zbnd hF
    obtain ⟨x37, e38, hF⟩ := hF
    refine zy_aI rfl rfl e38 ?_
    refine zx_istore rfl rfl rfl ?_
    refine zx_aload_n rfl rfl rfl ?_
    replace hF := zbnd hF
    obtain ⟨x39, e40, hF⟩ := hF
    refine zy_getR rfl rfl e40 ?_
    refine zx_iload rfl rfl rfl ?_
    replace hF := zbnd hF
    obtain ⟨a41, rfl, hF⟩ := hF
    replace hF := zbnd hF
    obtain ⟨x42, e43, hF⟩ := hF
    refine zy_aI rfl rfl e43 ?_
    refine zx_aload_n rfl rfl rfl ?_
    replace hF := zbnd hF
    obtain ⟨x44, e45, hF⟩ := hF
    refine zy_getR rfl rfl e45 ?_
    refine zx_iload rfl rfl rfl ?_
    replace hF := zbnd hF
    obtain ⟨a46, rfl, hF⟩ := hF
    replace hF := zbnd hF
    obtain ⟨x47, e48, hF⟩ := hF
    refine zy_aI rfl rfl e48 ?_
    refine zx_ic_eq rfl rfl (fun c49 => ?_) (fun c49 => ?_)
    · rw [if_pos c49] at hF
      refine zx_iinc (w := 1) rfl rfl rfl rfl rfl ?_
      refine zx_goto rfl rfl ?_
      exact hr15 rfl hF q
    · rw [if_neg c49] at hF
      refine zx_aload_n rfl rfl rfl ?_
      refine zx_iconst (v := 1) rfl rfl rfl ?_
      refine zx_iconst (v := (-1)) rfl rfl rfl ?_
      refine zx_aload_n rfl rfl rfl ?_
      replace hF := zbnd hF
      obtain ⟨x50, e51, hF⟩ := hF
      refine zy_getI rfl rfl e51 ?_
      replace hF := zgd_some hF
      obtain ⟨g52, hF⟩ := hF
      replace hF := zbnd hF
      obtain ⟨p54, e53, hF⟩ := hF
      refine zx_callE rfl rfl rfl rfl (zrcv_isO g52) rfl rfl (zc4 (Nat.le_of_ble_eq_true rfl)) (t160 (by omega) e53 (zaV ?_))
      refine zx_aload_n rfl rfl rfl ?_
      replace hF := zbnd hF
      obtain ⟨x55, e56, hF⟩ := hF
      refine zy_getR rfl rfl e56 ?_
      refine zx_iconst (v := 4) rfl rfl rfl ?_
      refine zx_iload rfl rfl rfl ?_
      replace hF := zbnd hF
      obtain ⟨a57, rfl, hF⟩ := hF
      replace hF := zbnd hF
      obtain ⟨h58, e59, hF⟩ := hF
      refine zy_sI rfl rfl e59 ?_
      replace hF := Option.some.inj hF
      subst hF
      exact zx_return rfl rfl rfl q
def f170_15 (n : Nat)   (k : Nat) : Nat → Option Nat → Int32 → Option Nat → Int32 → zH → Option (Unit × zH) := Nat.rec (fun _ _ _ _ _ _ => none) (fun _ ih => b170_15 n  ih) k
theorem tf170_15 {d n : Nat} {Q : zRs → zH → Prop}   (hd : 73 ≤ d)   (k : Nat) : ∀ {l0 : Nat} {l1 : Option Nat} {l2 : Int32} {l3 : Option Nat} {l4 : Int32}  {x5 : Option Value} {h : zH} {p : (Unit × zH)}, zn2 x5 = true → f170_15 n   k l0 l1 l2 l3 l4 h = some p → Q (eV p.1) p.2 → zW d 170 15 [some (.ref l0), some (va_rf l1), some (.int l2), some (va_rf l3), some (.int l4), x5] [] h Q := by
  induction k with
  | zero => intros; rename_i hF _; cases hF
  | succ k ih => intros; rename_i hx5 hF q; exact tb170_15 (n := n) hd  ih hx5 hF q
def f170 (n : Nat)  (y0 : Nat) (y1 : Option Nat) (y2 : Int32) (h : zH) : Option (Unit × zH) :=
  y1.bind fun a1 =>
  (gR h a1 4 4).bind fun x2 =>
  x2.bind fun a4 =>
  zgd (isO h a4 14) <|
  (f74 n a4 y2 h).bind fun p7 =>
  zgd (kC p7.2 p7.1 0 0) <|
  f170_15 n  n y0 (some a1) y2 p7.1 0 p7.2
set_option maxRecDepth 20000 in
theorem t170 {d n : Nat} {Q : zRs → zH → Prop}  {y0 : Nat} {y1 : Option Nat} {y2 : Int32} (hd : 73 ≤ d)  {h : zH} {p : (Unit × zH)} (hF : f170 n  y0 y1 y2 h = some p) (q : Q (eV p.1) p.2) : zC d 170 [.ref y0, va_rf y1, .int y2] h Q := by
  refine zC_of (L := [some (.ref y0), some (va_rf y1), some (.int y2), none, none, none]) (congrArg (List.cons _) ((zsl_rf _ _).trans (congrArg (List.cons _) rfl))) rfl ?_
  unfold f170 at hF
  obtain ⟨d, rfl⟩ : ∃ e, d = e + 1 := ⟨d - 1, by omega⟩
  refine zy_rload_n rfl rfl rfl ?_
  replace hF := zbnd hF
  obtain ⟨a1, rfl, hF⟩ := hF
  replace hF := zbnd hF
  obtain ⟨x2, e3, hF⟩ := hF
  refine zy_getR rfl rfl e3 ?_
  refine zx_iload_n rfl rfl rfl ?_
  replace hF := zbnd hF
  obtain ⟨a4, rfl, hF⟩ := hF
  replace hF := zgd_some hF
  obtain ⟨g5, hF⟩ := hF
  replace hF := zbnd hF
  obtain ⟨p7, e6, hF⟩ := hF
  refine zx_callE rfl rfl rfl rfl (zrcv_isO g5) rfl rfl (zc4 (Nat.le_of_ble_eq_true rfl)) (t74 (by omega) e6 (zaA ?_))
  replace hF := zgd_some hF
  obtain ⟨g8, hF⟩ := hF
  refine zy_cast (r := p7.1) rfl rfl g8 ?_
  refine zy_rstore_n rfl rfl rfl ?_
  refine zx_iconst (v := 0) rfl rfl rfl ?_
  refine zx_istore rfl rfl (zput_ok (L' := [some (.ref y0), some (.ref a1), some (.int y2), some (va_rf p7.1), some (.int 0), none]) rfl (zcl_X (j := 3) rfl (zn2_rf _)) rfl) ?_
  exact tf170_15 hd  n (l0 := y0) (l1 := (some a1)) (l2 := y2) (l3 := p7.1) (l4 := 0) rfl hF q
def b148_77 (n : Nat)  (r20 : Nat → Option Nat → Int32 → Int32 → Int32 → Int32 → zH → Option (Int32 × zH)) (l0 : Nat) (l1 : Option Nat) (l2 : Int32) (l3 : Int32) (l4 : Int32) (l5 : Int32) (l6 : Int32) (h : zH) : Option (Int32 × zH) :=
  r20 l0 l1 l2 l3 l4 (l5 + 1) h
set_option maxRecDepth 20000 in
theorem tb148_77 {d n : Nat} {Q : zRs → zH → Prop}  {r20 : Nat → Option Nat → Int32 → Int32 → Int32 → Int32 → zH → Option (Int32 × zH)} {l0 : Nat} {l1 : Option Nat} {l2 : Int32} {l3 : Int32} {l4 : Int32} {l5 : Int32} {l6 : Int32}   (hd : 74 ≤ d)  (hr20 : ∀ {l0 : Nat} {l1 : Option Nat} {l2 : Int32} {l3 : Int32} {l4 : Int32} {l5 : Int32}  {x6 : Option Value} {h : zH} {p : (Int32 × zH)}, zn2 x6 = true → r20 l0 l1 l2 l3 l4 l5 h = some p → Q (eI p.1) p.2 → zW d 148 20 [some (.ref l0), some (va_rf l1), some (.int l2), some (.int l3), some (.int l4), some (.int l5), x6] [] h Q) {h : zH} {p : (Int32 × zH)}  (hF : b148_77 n  r20 l0 l1 l2 l3 l4 l5 l6 h = some p) (q : Q (eI p.1) p.2) : zW d 148 77 [some (.ref l0), some (va_rf l1), some (.int l2), some (.int l3), some (.int l4), some (.int l5), some (.int l6)] [] h Q := by
  unfold b148_77 at hF
  obtain ⟨d, rfl⟩ : ∃ e, d = e + 1 := ⟨d - 1, by omega⟩
  refine zx_iinc (w := 1) rfl rfl rfl rfl rfl ?_
  refine zx_goto rfl rfl ?_
  exact hr20 rfl hF q
def b148_66 (n : Nat)  (r20 : Nat → Option Nat → Int32 → Int32 → Int32 → Int32 → zH → Option (Int32 × zH)) (l0 : Nat) (l1 : Option Nat) (l2 : Int32) (l3 : Int32) (l4 : Int32) (l5 : Int32) (l6 : Int32) (h : zH) : Option (Int32 × zH) :=
  (gR h l0 1 4).bind fun x1 =>
  (gI h l0 1 6).bind fun x3 =>
  x1.bind fun a5 =>
  (aS zsI h a5 l6 (.int x3)).bind fun h6 =>
  b148_77 n r20 l0 l1 l2 l3 l4 l5 l6 h6
set_option maxRecDepth 20000 in
theorem tb148_66 {d n : Nat} {Q : zRs → zH → Prop}  {r20 : Nat → Option Nat → Int32 → Int32 → Int32 → Int32 → zH → Option (Int32 × zH)} {l0 : Nat} {l1 : Option Nat} {l2 : Int32} {l3 : Int32} {l4 : Int32} {l5 : Int32} {l6 : Int32}   (hd : 74 ≤ d)  (hr20 : ∀ {l0 : Nat} {l1 : Option Nat} {l2 : Int32} {l3 : Int32} {l4 : Int32} {l5 : Int32}  {x6 : Option Value} {h : zH} {p : (Int32 × zH)}, zn2 x6 = true → r20 l0 l1 l2 l3 l4 l5 h = some p → Q (eI p.1) p.2 → zW d 148 20 [some (.ref l0), some (va_rf l1), some (.int l2), some (.int l3), some (.int l4), some (.int l5), x6] [] h Q) {h : zH} {p : (Int32 × zH)}  (hF : b148_66 n  r20 l0 l1 l2 l3 l4 l5 l6 h = some p) (q : Q (eI p.1) p.2) : zW d 148 66 [some (.ref l0), some (va_rf l1), some (.int l2), some (.int l3), some (.int l4), some (.int l5), some (.int l6)] [] h Q := by
  unfold b148_66 at hF
  obtain ⟨d, rfl⟩ : ∃ e, d = e + 1 := ⟨d - 1, by omega⟩
  refine zx_aload_n rfl rfl rfl ?_
  replace hF := zbnd hF
  obtain ⟨x1, e2, hF⟩ := hF
  refine zy_getR rfl rfl e2 ?_
  refine zx_iload rfl rfl rfl ?_
  refine zx_aload_n rfl rfl rfl ?_
  replace hF := zbnd hF
  obtain ⟨x3, e4, hF⟩ := hF
  refine zy_getI rfl rfl e4 ?_
  replace hF := zbnd hF
  obtain ⟨a5, rfl, hF⟩ := hF
  replace hF := zbnd hF
  obtain ⟨h6, e7, hF⟩ := hF
  refine zy_sI rfl rfl e7 ?_
  exact tb148_77 (l0 := l0) (l1 := l1) (l2 := l2) (l3 := l3) (l4 := l4) (l5 := l5) (l6 := l6) hd hr20  hF q
def b148_20 (n : Nat)  (r20 : Nat → Option Nat → Int32 → Int32 → Int32 → Int32 → zH → Option (Int32 × zH)) (l0 : Nat) (l1 : Option Nat) (l2 : Int32) (l3 : Int32) (l4 : Int32) (l5 : Int32) (h : zH) : Option (Int32 × zH) :=
  l1.bind fun a1 =>
  zgd (isO h a1 4) <|
  (f115 n a1 h).bind fun p4 =>
  if p4.1 ≤ l5 then
    (gR p4.2 l0 1 4).bind fun x6 =>
    x6.bind fun a8 =>
    (aI p4.2 a8 l2).bind fun x9 =>
    some (x9, p4.2)
  else
    (gR p4.2 a1 4 11).bind fun x11 =>
    x11.bind fun a13 =>
    (aI p4.2 a13 l5).bind fun x14 =>
    if ((l4 >>> (x14 &&& 31)) &&& 1) = 0 then
      b148_77 n r20 l0 (some a1) l2 l3 l4 l5 x14 p4.2
    else
      zgd (isO p4.2 l0 1) <|
      (f158 n l0 (some a1) x14 l3 p4.2).bind fun p19 =>
      if p19.1 = 0 then
        zgd (isO p19.2 l0 1) <|
        (f170 n l0 (some a1) x14 p19.2).bind fun p23 =>
        b148_66 n r20 l0 (some a1) l2 l3 l4 l5 x14 p23.2
      else
        b148_66 n r20 l0 (some a1) l2 l3 l4 l5 x14 p19.2
set_option maxRecDepth 20000 in
theorem tb148_20 {d n : Nat} {Q : zRs → zH → Prop}  {r20 : Nat → Option Nat → Int32 → Int32 → Int32 → Int32 → zH → Option (Int32 × zH)} {l0 : Nat} {l1 : Option Nat} {l2 : Int32} {l3 : Int32} {l4 : Int32} {l5 : Int32}  {x6 : Option Value} (hd : 74 ≤ d)  (hr20 : ∀ {l0 : Nat} {l1 : Option Nat} {l2 : Int32} {l3 : Int32} {l4 : Int32} {l5 : Int32}  {x6 : Option Value} {h : zH} {p : (Int32 × zH)}, zn2 x6 = true → r20 l0 l1 l2 l3 l4 l5 h = some p → Q (eI p.1) p.2 → zW d 148 20 [some (.ref l0), some (va_rf l1), some (.int l2), some (.int l3), some (.int l4), some (.int l5), x6] [] h Q) {h : zH} {p : (Int32 × zH)} (hx6 : zn2 x6 = true) (hF : b148_20 n  r20 l0 l1 l2 l3 l4 l5 h = some p) (q : Q (eI p.1) p.2) : zW d 148 20 [some (.ref l0), some (va_rf l1), some (.int l2), some (.int l3), some (.int l4), some (.int l5), x6] [] h Q := by
  unfold b148_20 at hF
  obtain ⟨d, rfl⟩ : ∃ e, d = e + 1 := ⟨d - 1, by omega⟩
  refine zx_iload rfl rfl rfl ?_
  refine zy_rload_n rfl rfl rfl ?_
  replace hF := zbnd hF
  obtain ⟨a1, rfl, hF⟩ := hF
  replace hF := zgd_some hF
  obtain ⟨g2, hF⟩ := hF
  replace hF := zbnd hF
  obtain ⟨p4, e3, hF⟩ := hF
  refine zx_callE rfl rfl rfl rfl (zrcv_isO g2) rfl rfl (zc4 (Nat.le_of_ble_eq_true rfl)) (t115 (by omega) e3 (zaI ?_))
  refine zx_ic_ge rfl rfl (fun c5 => ?_) (fun c5 => ?_)
  · rw [if_pos c5] at hF
    refine zx_aload_n rfl rfl rfl ?_
    replace hF := zbnd hF
    obtain ⟨x6, e7, hF⟩ := hF
    refine zy_getR rfl rfl e7 ?_
    refine zx_iload_n rfl rfl rfl ?_
    replace hF := zbnd hF
    obtain ⟨a8, rfl, hF⟩ := hF
    replace hF := zbnd hF
    obtain ⟨x9, e10, hF⟩ := hF
    refine zy_aI rfl rfl e10 ?_
    replace hF := Option.some.inj hF
    subst hF
    exact zx_bret rfl rfl rfl rfl q
  · rw [if_neg c5] at hF
    refine zx_aload_n rfl rfl rfl ?_
    replace hF := zbnd hF
    obtain ⟨x11, e12, hF⟩ := hF
    refine zy_getR rfl rfl e12 ?_
    refine zx_iload rfl rfl rfl ?_
    replace hF := zbnd hF
    obtain ⟨a13, rfl, hF⟩ := hF
    replace hF := zbnd hF
    obtain ⟨x14, e15, hF⟩ := hF
    refine zy_aI rfl rfl e15 ?_
    refine zx_istore rfl rfl rfl ?_
    refine zx_iload rfl rfl rfl ?_
    refine zx_iload rfl rfl rfl ?_
    refine zx_ishr rfl rfl ?_
    refine zx_iconst (v := 1) rfl rfl rfl ?_
    refine zx_iand rfl rfl ?_
    refine zx_if_eq rfl rfl (fun c16 => ?_) (fun c16 => ?_)
    · rw [if_pos c16] at hF
      exact tb148_77 (l0 := l0) (l1 := (some a1)) (l2 := l2) (l3 := l3) (l4 := l4) (l5 := l5) (l6 := x14) hd hr20  hF q
    · rw [if_neg c16] at hF
      refine zx_aload_n rfl rfl rfl ?_
      refine zx_aload_n rfl rfl rfl ?_
      refine zx_iload rfl rfl rfl ?_
      refine zx_iload_n rfl rfl rfl ?_
      replace hF := zgd_some hF
      obtain ⟨g17, hF⟩ := hF
      replace hF := zbnd hF
      obtain ⟨p19, e18, hF⟩ := hF
      refine zx_callE rfl rfl rfl rfl (zrcv_isO g17) rfl rfl (zc4 (Nat.le_of_ble_eq_true rfl)) (t158 (by omega) e18 (zaI ?_))
      refine zx_if_ne rfl rfl (fun c20 => ?_) (fun c20 => ?_)
      · rw [if_neg c20] at hF
        exact tb148_66 (l0 := l0) (l1 := (some a1)) (l2 := l2) (l3 := l3) (l4 := l4) (l5 := l5) (l6 := x14) hd hr20  hF q
      · rw [if_pos c20] at hF
        refine zx_aload_n rfl rfl rfl ?_
        refine zx_aload_n rfl rfl rfl ?_
        refine zx_iload rfl rfl rfl ?_
        replace hF := zgd_some hF
        obtain ⟨g21, hF⟩ := hF
        replace hF := zbnd hF
        obtain ⟨p23, e22, hF⟩ := hF
        refine zx_callE rfl rfl rfl rfl (zrcv_isO g21) rfl rfl (zc4 (Nat.le_of_ble_eq_true rfl)) (t170 (by omega) e22 (zaV ?_))
        exact tb148_66 (l0 := l0) (l1 := (some a1)) (l2 := l2) (l3 := l3) (l4 := l4) (l5 := l5) (l6 := x14) hd hr20  hF q
def f148_20 (n : Nat)   (k : Nat) : Nat → Option Nat → Int32 → Int32 → Int32 → Int32 → zH → Option (Int32 × zH) := Nat.rec (fun _ _ _ _ _ _ _ => none) (fun _ ih => b148_20 n  ih) k
theorem tf148_20 {d n : Nat} {Q : zRs → zH → Prop}   (hd : 74 ≤ d)   (k : Nat) : ∀ {l0 : Nat} {l1 : Option Nat} {l2 : Int32} {l3 : Int32} {l4 : Int32} {l5 : Int32}  {x6 : Option Value} {h : zH} {p : (Int32 × zH)}, zn2 x6 = true → f148_20 n   k l0 l1 l2 l3 l4 l5 h = some p → Q (eI p.1) p.2 → zW d 148 20 [some (.ref l0), some (va_rf l1), some (.int l2), some (.int l3), some (.int l4), some (.int l5), x6] [] h Q := by
  induction k with
  | zero => intros; rename_i hF _; cases hF
  | succ k ih => intros; rename_i hx6 hF q; exact tb148_20 (n := n) hd  ih hx6 hF q
def f148 (n : Nat)  (y0 : Nat) (y1 : Option Nat) (y2 : Int32) (y3 : Int32) (h : zH) : Option (Int32 × zH) :=
  zgd (isO h y0 1) <|
  (f149 n y0 y1 h).bind fun p3 =>
  y1.bind fun a4 =>
  (gR p3.2 a4 4 10).bind fun x5 =>
  x5.bind fun a7 =>
  (aI p3.2 a7 y2).bind fun x8 =>
  f148_20 n  n y0 (some a4) y2 y3 (x8 ||| (1 <<< (y2 &&& 31))) 0 p3.2
set_option maxRecDepth 20000 in
theorem t148 {d n : Nat} {Q : zRs → zH → Prop}  {y0 : Nat} {y1 : Option Nat} {y2 : Int32} {y3 : Int32} (hd : 74 ≤ d)  {h : zH} {p : (Int32 × zH)} (hF : f148 n  y0 y1 y2 y3 h = some p) (q : Q (eI p.1) p.2) : zC d 148 [.ref y0, va_rf y1, .int y2, .int y3] h Q := by
  refine zC_of (L := [some (.ref y0), some (va_rf y1), some (.int y2), some (.int y3), none, none, none]) (congrArg (List.cons _) ((zsl_rf _ _).trans (congrArg (List.cons _) rfl))) rfl ?_
  unfold f148 at hF
  obtain ⟨d, rfl⟩ : ∃ e, d = e + 1 := ⟨d - 1, by omega⟩
  refine zx_aload_n rfl rfl rfl ?_
  refine zy_rload_n rfl rfl rfl ?_
  replace hF := zgd_some hF
  obtain ⟨g1, hF⟩ := hF
  replace hF := zbnd hF
  obtain ⟨p3, e2, hF⟩ := hF
  refine zx_callE rfl rfl rfl rfl (zrcv_isO g1) (congrArg (List.cons _) ((zsl_rf _ _).trans (congrArg (List.cons _) rfl))) rfl (zc4 (Nat.le_of_ble_eq_true rfl)) (t149 (by omega) e2 (zaV ?_))
  refine zy_rload_n rfl rfl rfl ?_
  replace hF := zbnd hF
  obtain ⟨a4, rfl, hF⟩ := hF
  replace hF := zbnd hF
  obtain ⟨x5, e6, hF⟩ := hF
  refine zy_getR rfl rfl e6 ?_
  refine zx_iload_n rfl rfl rfl ?_
  replace hF := zbnd hF
  obtain ⟨a7, rfl, hF⟩ := hF
  replace hF := zbnd hF
  obtain ⟨x8, e9, hF⟩ := hF
  refine zy_aI rfl rfl e9 ?_
  refine zx_iconst (v := 1) rfl rfl rfl ?_
  refine zx_iload_n rfl rfl rfl ?_
  refine zx_ishl rfl rfl ?_
  refine zx_ior rfl rfl ?_
  refine zx_istore rfl rfl rfl ?_
  refine zx_iconst (v := 0) rfl rfl rfl ?_
  refine zx_istore rfl rfl rfl ?_
  exact tf148_20 hd  n (l0 := y0) (l1 := (some a4)) (l2 := y2) (l3 := y3) (l4 := (x8 ||| (1 <<< (y2 &&& 31)))) (l5 := 0) rfl hF q
def b147_49 (n : Nat)   (l0 : Nat) (l1 : Int32) (l2 : Int32) (l3 : Int32) (h : zH) : Option ((Int32 ⊕ Nat) × zH) :=
  some (.inr 20, thH h)
set_option maxRecDepth 20000 in
theorem tb147_49 {d n : Nat} {Q : zRs → zH → Prop}   {l0 : Nat} {l1 : Int32} {l2 : Int32} {l3 : Int32}   (hd : 75 ≤ d)   {h : zH} {p : ((Int32 ⊕ Nat) × zH)}  (hF : b147_49 n   l0 l1 l2 l3 h = some p) (q : Q (eIx p.1) p.2) : zW d 147 49 [some (.ref l0), some (.int l1), some (.int l2), some (.int l3)] [] h Q := by
  unfold b147_49 at hF
  obtain ⟨d, rfl⟩ : ∃ e, d = e + 1 := ⟨d - 1, by omega⟩
  replace hF := Option.some.inj hF
  subst hF
  exact zw_throw rfl q
def b147_27 (n : Nat)   (l0 : Nat) (l1 : Int32) (l2 : Int32) (s0 : Int32) (h : zH) : Option ((Int32 ⊕ Nat) × zH) :=
  if s0 = 0 then
    b147_49 n  l0 l1 l2 s0 h
  else
    (gR h l0 10 2).bind fun x2 =>
    x2.bind fun a4 =>
    (gR h a4 4 4).bind fun x5 =>
    x5.bind fun a7 =>
    zgd (isO h a7 14) <|
    (f68 n a7 h).bind fun p10 =>
    (f13 n l1 p10.1 p10.2).bind fun p12 =>
    if p12.1 = 0 then
      b147_49 n  l0 l1 l2 s0 p12.2
    else
      (gR p12.2 l0 10 1).bind fun x14 =>
      (gR p12.2 l0 10 2).bind fun x16 =>
      x14.bind fun a18 =>
      zgd (isO p12.2 a18 1) <|
      (f148 n a18 x16 l1 l2 p12.2).bind fun p21 =>
      some (.inl p21.1, p21.2)
set_option maxRecDepth 20000 in
theorem tb147_27 {d n : Nat} {Q : zRs → zH → Prop}   {l0 : Nat} {l1 : Int32} {l2 : Int32} {s0 : Int32} {x3 : Option Value} (hd : 75 ≤ d)   {h : zH} {p : ((Int32 ⊕ Nat) × zH)} (hx3 : zn2 x3 = true) (hF : b147_27 n   l0 l1 l2 s0 h = some p) (q : Q (eIx p.1) p.2) : zW d 147 27 [some (.ref l0), some (.int l1), some (.int l2), x3] [.int s0] h Q := by
  unfold b147_27 at hF
  obtain ⟨d, rfl⟩ : ∃ e, d = e + 1 := ⟨d - 1, by omega⟩
  refine zx_istore_n rfl rfl rfl ?_
  refine zx_iload_n rfl rfl rfl ?_
  refine zx_if_eq rfl rfl (fun c1 => ?_) (fun c1 => ?_)
  · rw [if_pos c1] at hF
    exact tb147_49 (l0 := l0) (l1 := l1) (l2 := l2) (l3 := s0) hd   hF q
  · rw [if_neg c1] at hF
    refine zx_iload_n rfl rfl rfl ?_
    refine zx_aload_n rfl rfl rfl ?_
    replace hF := zbnd hF
    obtain ⟨x2, e3, hF⟩ := hF
    refine zy_getR rfl rfl e3 ?_
    replace hF := zbnd hF
    obtain ⟨a4, rfl, hF⟩ := hF
    replace hF := zbnd hF
    obtain ⟨x5, e6, hF⟩ := hF
    refine zy_getR rfl rfl e6 ?_
    replace hF := zbnd hF
    obtain ⟨a7, rfl, hF⟩ := hF
    replace hF := zgd_some hF
    obtain ⟨g8, hF⟩ := hF
    replace hF := zbnd hF
    obtain ⟨p10, e9, hF⟩ := hF
    refine zx_callE rfl rfl rfl rfl (zrcv_isO g8) rfl rfl (zc4 (Nat.le_of_ble_eq_true rfl)) (t68 (by omega) e9 (zaI ?_))
    replace hF := zbnd hF
    obtain ⟨p12, e11, hF⟩ := hF
    refine zx_callE rfl rfl rfl rfl rfl rfl rfl (zc4 (Nat.le_of_ble_eq_true rfl)) (t13 (by omega) e11 (zaI ?_))
    refine zx_if_ne rfl rfl (fun c13 => ?_) (fun c13 => ?_)
    · rw [if_neg c13] at hF
      refine zx_aload_n rfl rfl rfl ?_
      replace hF := zbnd hF
      obtain ⟨x14, e15, hF⟩ := hF
      refine zy_getR rfl rfl e15 ?_
      refine zx_aload_n rfl rfl rfl ?_
      replace hF := zbnd hF
      obtain ⟨x16, e17, hF⟩ := hF
      refine zy_getR rfl rfl e17 ?_
      refine zx_iload_n rfl rfl rfl ?_
      refine zx_iload_n rfl rfl rfl ?_
      replace hF := zbnd hF
      obtain ⟨a18, rfl, hF⟩ := hF
      replace hF := zgd_some hF
      obtain ⟨g19, hF⟩ := hF
      replace hF := zbnd hF
      obtain ⟨p21, e20, hF⟩ := hF
      refine zx_callE rfl rfl rfl rfl (zrcv_isO g19) (congrArg (List.cons _) ((zsl_rf _ _).trans (congrArg (List.cons _) rfl))) rfl (zc4 (Nat.le_of_ble_eq_true rfl)) (t148 (by omega) e20 (zaI ?_))
      replace hF := Option.some.inj hF
      subst hF
      exact zx_bret rfl rfl rfl rfl q
    · rw [if_pos c13] at hF
      exact tb147_49 (l0 := l0) (l1 := l1) (l2 := l2) (l3 := s0) hd   hF q
def b147_22 (n : Nat)   (l0 : Nat) (l1 : Int32) (l2 : Int32) (h : zH) : Option ((Int32 ⊕ Nat) × zH) :=
  b147_27 n  l0 l1 l2 1 h
set_option maxRecDepth 20000 in
theorem tb147_22 {d n : Nat} {Q : zRs → zH → Prop}   {l0 : Nat} {l1 : Int32} {l2 : Int32}  {x3 : Option Value} (hd : 75 ≤ d)   {h : zH} {p : ((Int32 ⊕ Nat) × zH)} (hx3 : zn2 x3 = true) (hF : b147_22 n   l0 l1 l2 h = some p) (q : Q (eIx p.1) p.2) : zW d 147 22 [some (.ref l0), some (.int l1), some (.int l2), x3] [] h Q := by
  unfold b147_22 at hF
  obtain ⟨d, rfl⟩ : ∃ e, d = e + 1 := ⟨d - 1, by omega⟩
  refine zx_iconst (v := 1) rfl rfl rfl ?_
  refine zx_goto rfl rfl ?_
  exact tb147_27 (l0 := l0) (l1 := l1) (l2 := l2) (s0 := 1) hd  hx3 hF q
def f147 (n : Nat)  (y0 : Nat) (y1 : Int32) (y2 : Int32) (h : zH) : Option ((Int32 ⊕ Nat) × zH) :=
  if y2 = (-1) then
    b147_22 n  y0 y1 y2 h
  else
    (gR h y0 10 2).bind fun x2 =>
    x2.bind fun a4 =>
    (gR h a4 4 5).bind fun x5 =>
    x5.bind fun a7 =>
    zgd (isO h a7 14) <|
    (f68 n a7 h).bind fun p10 =>
    (f13 n y2 p10.1 p10.2).bind fun p12 =>
    if p12.1 = 0 then
      b147_27 n  y0 y1 y2 0 p12.2
    else
      b147_22 n  y0 y1 y2 p12.2
set_option maxRecDepth 20000 in
theorem t147 {d n : Nat} {Q : zRs → zH → Prop}  {y0 : Nat} {y1 : Int32} {y2 : Int32} (hd : 75 ≤ d)  {h : zH} {p : ((Int32 ⊕ Nat) × zH)} (hF : f147 n  y0 y1 y2 h = some p) (q : Q (eIx p.1) p.2) : zC d 147 [.ref y0, .int y1, .int y2] h Q := by
  refine zC_of (L := [some (.ref y0), some (.int y1), some (.int y2), none]) rfl rfl ?_
  unfold f147 at hF
  obtain ⟨d, rfl⟩ : ∃ e, d = e + 1 := ⟨d - 1, by omega⟩
  refine zx_iload_n rfl rfl rfl ?_
  refine zx_iconst (v := (-1)) rfl rfl rfl ?_
  refine zx_ic_eq rfl rfl (fun c1 => ?_) (fun c1 => ?_)
  · rw [if_pos c1] at hF
    exact tb147_22 (l0 := y0) (l1 := y1) (l2 := y2) hd  rfl hF q
  · rw [if_neg c1] at hF
    refine zx_iload_n rfl rfl rfl ?_
    refine zx_aload_n rfl rfl rfl ?_
    replace hF := zbnd hF
    obtain ⟨x2, e3, hF⟩ := hF
    refine zy_getR rfl rfl e3 ?_
    replace hF := zbnd hF
    obtain ⟨a4, rfl, hF⟩ := hF
    replace hF := zbnd hF
    obtain ⟨x5, e6, hF⟩ := hF
    refine zy_getR rfl rfl e6 ?_
    replace hF := zbnd hF
    obtain ⟨a7, rfl, hF⟩ := hF
    replace hF := zgd_some hF
    obtain ⟨g8, hF⟩ := hF
    replace hF := zbnd hF
    obtain ⟨p10, e9, hF⟩ := hF
    refine zx_callE rfl rfl rfl rfl (zrcv_isO g8) rfl rfl (zc4 (Nat.le_of_ble_eq_true rfl)) (t68 (by omega) e9 (zaI ?_))
    replace hF := zbnd hF
    obtain ⟨p12, e11, hF⟩ := hF
    refine zx_callE rfl rfl rfl rfl rfl rfl rfl (zc4 (Nat.le_of_ble_eq_true rfl)) (t13 (by omega) e11 (zaI ?_))
    refine zx_if_eq rfl rfl (fun c13 => ?_) (fun c13 => ?_)
    · rw [if_pos c13] at hF
      refine zx_iconst (v := 0) rfl rfl rfl ?_
      exact tb147_27 (l0 := y0) (l1 := y1) (l2 := y2) (s0 := 0) hd  rfl hF q
    · rw [if_neg c13] at hF
      exact tb147_22 (l0 := y0) (l1 := y1) (l2 := y2) hd  rfl hF q
def f146 (n : Nat)  (y0 : Option Nat) (y1 : Int32) (y2 : Int32) (y3 : Option Nat) (h : zH) : Option (Int32 × zH) :=
  y0.bind fun a1 =>
  zgd (isO h a1 10) <|
  (f147 n a1 y1 y2 h).bind fun p7 => zth p7 (fun r4 h5 =>
    y3.bind fun a9 =>
    (aS zsL h5 a9 0 (.long r4.toInt64)).bind fun h10 =>
    some (0, h10))
    (fun x6 h5 =>
    if x6 = 20 then
      some (1, h5)
    else
    none)
set_option maxRecDepth 20000 in
theorem t146 {d n : Nat} {Q : zRs → zH → Prop}  {y0 : Option Nat} {y1 : Int32} {y2 : Int32} {y3 : Option Nat} (hd : 76 ≤ d)  {h : zH} {p : (Int32 × zH)} (hF : f146 n  y0 y1 y2 y3 h = some p) (q : Q (eI p.1) p.2) : zC d 146 [va_rf y0, .int y1, .int y2, va_rf y3] h Q := by
  refine zC_of (L := [some (va_rf y0), some (.int y1), some (.int y2), some (va_rf y3), none]) ((zsl_rf _ _).trans (congrArg (List.cons _) (congrArg (List.cons _) (congrArg (List.cons _) ((zsl_rf _ _).trans (congrArg (List.cons _) rfl)))))) rfl ?_
  unfold f146 at hF
  obtain ⟨d, rfl⟩ : ∃ e, d = e + 1 := ⟨d - 1, by omega⟩
  refine zy_rload_n rfl rfl rfl ?_
  refine zx_iconst (v := 0) rfl rfl rfl ?_
  refine zy_rload_n rfl rfl rfl ?_
  refine zx_iload_n rfl rfl rfl ?_
  refine zx_iload_n rfl rfl rfl ?_
  replace hF := zbnd hF
  obtain ⟨a1, rfl, hF⟩ := hF
  replace hF := zgd_some hF
  obtain ⟨g2, hF⟩ := hF
  replace hF := zbnd hF
  obtain ⟨⟨r4, h5⟩, e3, hF⟩ := hF
  refine zx_callE rfl rfl rfl rfl (zrcv_isO g2) rfl rfl (zc4 (Nat.le_of_ble_eq_true rfl)) (t147 (by omega) e3 ?_)
  rcases r4 with r4 | x6
  rotate_left 1
  · replace hF := zthH hF
    by_cases c8 : x6 = 20
    · subst c8
      refine zaH (hp := 13) rfl ?_
      refine zx_ustore rfl rfl (zput_ok (L' := [some (.ref a1), some (.int y1), some (.int y2), some (va_rf y3), some (.retAddr 0)]) rfl (zcl_X (j := 3) rfl (zn2_rf _)) rfl) ?_
      refine zx_iconst (v := 1) rfl rfl rfl ?_
      replace hF := Option.some.inj hF
      subst hF
      exact zx_bret rfl rfl rfl rfl q
    have hF : (if x6 = 20 then _ else _) = _ := hF
    rw [if_neg c8] at hF
    cases hF
  replace hF := zthG hF
  refine zaI ?_
  refine zx_i2l rfl rfl ?_
  replace hF := zbnd hF
  obtain ⟨a9, rfl, hF⟩ := hF
  replace hF := zbnd hF
  obtain ⟨h10, e11, hF⟩ := hF
  refine zy_sJ rfl rfl e11 ?_
  refine zx_goto rfl rfl ?_
  refine zx_iconst (v := 0) rfl rfl rfl ?_
  replace hF := Option.some.inj hF
  subst hF
  exact zx_bret rfl rfl rfl rfl q
def f172 (n : Nat)  (y0 : Nat) (y1 : Int32) (h : zH) : Option ((Int32 ⊕ Nat) × zH) :=
  (gR h y0 10 1).bind fun x1 =>
  x1.bind fun a3 =>
  (gR h a3 1 5).bind fun x4 =>
  x4.bind fun a6 =>
  (aN h a6).bind fun x7 =>
  (f13 n y1 x7 h).bind fun p10 =>
  if p10.1 = 0 then
    some (.inr 20, thH p10.2)
  else
    (gR p10.2 y0 10 1).bind fun x12 =>
    x12.bind fun a14 =>
    (gR p10.2 a14 1 5).bind fun x15 =>
    x15.bind fun a17 =>
    (aI p10.2 a17 y1).bind fun x18 =>
    some (.inl x18, p10.2)
set_option maxRecDepth 20000 in
theorem t172 {d n : Nat} {Q : zRs → zH → Prop}  {y0 : Nat} {y1 : Int32} (hd : 1 ≤ d)  {h : zH} {p : ((Int32 ⊕ Nat) × zH)} (hF : f172 n  y0 y1 h = some p) (q : Q (eIx p.1) p.2) : zC d 172 [.ref y0, .int y1] h Q := by
  refine zC_of (L := [some (.ref y0), some (.int y1)]) rfl rfl ?_
  unfold f172 at hF
  obtain ⟨d, rfl⟩ : ∃ e, d = e + 1 := ⟨d - 1, by omega⟩
  refine zx_iload_n rfl rfl rfl ?_
  refine zx_aload_n rfl rfl rfl ?_
  replace hF := zbnd hF
  obtain ⟨x1, e2, hF⟩ := hF
  refine zy_getR rfl rfl e2 ?_
  replace hF := zbnd hF
  obtain ⟨a3, rfl, hF⟩ := hF
  replace hF := zbnd hF
  obtain ⟨x4, e5, hF⟩ := hF
  refine zy_getR rfl rfl e5 ?_
  replace hF := zbnd hF
  obtain ⟨a6, rfl, hF⟩ := hF
  replace hF := zbnd hF
  obtain ⟨x7, e8, hF⟩ := hF
  refine zy_alen rfl rfl e8 ?_
  replace hF := zbnd hF
  obtain ⟨p10, e9, hF⟩ := hF
  refine zx_callE rfl rfl rfl rfl rfl rfl rfl (zc4 (Nat.le_of_ble_eq_true rfl)) (t13 (by omega) e9 (zaI ?_))
  refine zx_if_ne rfl rfl (fun c11 => ?_) (fun c11 => ?_)
  · rw [if_neg c11] at hF
    refine zx_aload_n rfl rfl rfl ?_
    replace hF := zbnd hF
    obtain ⟨x12, e13, hF⟩ := hF
    refine zy_getR rfl rfl e13 ?_
    replace hF := zbnd hF
    obtain ⟨a14, rfl, hF⟩ := hF
    replace hF := zbnd hF
    obtain ⟨x15, e16, hF⟩ := hF
    refine zy_getR rfl rfl e16 ?_
    refine zx_iload_n rfl rfl rfl ?_
    replace hF := zbnd hF
    obtain ⟨a17, rfl, hF⟩ := hF
    replace hF := zbnd hF
    obtain ⟨x18, e19, hF⟩ := hF
    refine zy_aI rfl rfl e19 ?_
    replace hF := Option.some.inj hF
    subst hF
    exact zx_bret rfl rfl rfl rfl q
  · rw [if_pos c11] at hF
    replace hF := Option.some.inj hF
    subst hF
    exact zw_throw rfl q
def f171 (n : Nat)  (y0 : Option Nat) (y1 : Int32) (y2 : Option Nat) (h : zH) : Option (Int32 × zH) :=
  y0.bind fun a1 =>
  zgd (isO h a1 10) <|
  (f172 n a1 y1 h).bind fun p7 => zth p7 (fun r4 h5 =>
    y2.bind fun a9 =>
    (aS zsL h5 a9 0 (.long r4.toInt64)).bind fun h10 =>
    some (0, h10))
    (fun x6 h5 =>
    if x6 = 20 then
      some (1, h5)
    else
    none)
set_option maxRecDepth 20000 in
theorem t171 {d n : Nat} {Q : zRs → zH → Prop}  {y0 : Option Nat} {y1 : Int32} {y2 : Option Nat} (hd : 2 ≤ d)  {h : zH} {p : (Int32 × zH)} (hF : f171 n  y0 y1 y2 h = some p) (q : Q (eI p.1) p.2) : zC d 171 [va_rf y0, .int y1, va_rf y2] h Q := by
  refine zC_of (L := [some (va_rf y0), some (.int y1), some (va_rf y2), none]) ((zsl_rf _ _).trans (congrArg (List.cons _) (congrArg (List.cons _) ((zsl_rf _ _).trans (congrArg (List.cons _) rfl))))) rfl ?_
  unfold f171 at hF
  obtain ⟨d, rfl⟩ : ∃ e, d = e + 1 := ⟨d - 1, by omega⟩
  refine zy_rload_n rfl rfl rfl ?_
  refine zx_iconst (v := 0) rfl rfl rfl ?_
  refine zy_rload_n rfl rfl rfl ?_
  refine zx_iload_n rfl rfl rfl ?_
  replace hF := zbnd hF
  obtain ⟨a1, rfl, hF⟩ := hF
  replace hF := zgd_some hF
  obtain ⟨g2, hF⟩ := hF
  replace hF := zbnd hF
  obtain ⟨⟨r4, h5⟩, e3, hF⟩ := hF
  refine zx_callE rfl rfl rfl rfl (zrcv_isO g2) rfl rfl (zc4 (Nat.le_of_ble_eq_true rfl)) (t172 (by omega) e3 ?_)
  rcases r4 with r4 | x6
  rotate_left 1
  · replace hF := zthH hF
    by_cases c8 : x6 = 20
    · subst c8
      refine zaH (hp := 12) rfl ?_
      refine zx_ustore_n rfl rfl (zput_ok (L' := [some (.ref a1), some (.int y1), some (va_rf y2), some (.retAddr 0)]) rfl (zcl_X (j := 2) rfl (zn2_rf _)) rfl) ?_
      refine zx_iconst (v := 1) rfl rfl rfl ?_
      replace hF := Option.some.inj hF
      subst hF
      exact zx_bret rfl rfl rfl rfl q
    have hF : (if x6 = 20 then _ else _) = _ := hF
    rw [if_neg c8] at hF
    cases hF
  replace hF := zthG hF
  refine zaI ?_
  refine zx_i2l rfl rfl ?_
  replace hF := zbnd hF
  obtain ⟨a9, rfl, hF⟩ := hF
  replace hF := zbnd hF
  obtain ⟨h10, e11, hF⟩ := hF
  refine zy_sJ rfl rfl e11 ?_
  refine zx_goto rfl rfl ?_
  refine zx_iconst (v := 0) rfl rfl rfl ?_
  replace hF := Option.some.inj hF
  subst hF
  exact zx_bret rfl rfl rfl rfl q
def f174 (n : Nat)  (y0 : Nat) (y1 : Int32) (h : zH) : Option ((Int32 ⊕ Nat) × zH) :=
  (gR h y0 10 2).bind fun x1 =>
  x1.bind fun a3 =>
  (gR h a3 4 3).bind fun x4 =>
  x4.bind fun a6 =>
  zgd (isO h a6 14) <|
  (f68 n a6 h).bind fun p9 =>
  (f13 n y1 p9.1 p9.2).bind fun p11 =>
  if p11.1 = 0 then
    some (.inr 20, thH p11.2)
  else
    (gR p11.2 y0 10 1).bind fun x13 =>
    (gR p11.2 y0 10 2).bind fun x15 =>
    x13.bind fun a17 =>
    zgd (isO p11.2 a17 1) <|
    (f149 n a17 x15 p11.2).bind fun p20 =>
    (gR p20.2 y0 10 1).bind fun x21 =>
    x21.bind fun a23 =>
    zgd (isO p20.2 a23 1) <|
    (f151 n a23 y1 p20.2).bind fun p26 =>
    if p26.1 = 0 then
      some (.inl 0, p26.2)
    else
      some (.inl 1, p26.2)
set_option maxRecDepth 20000 in
theorem t174 {d n : Nat} {Q : zRs → zH → Prop}  {y0 : Nat} {y1 : Int32} (hd : 73 ≤ d)  {h : zH} {p : ((Int32 ⊕ Nat) × zH)} (hF : f174 n  y0 y1 h = some p) (q : Q (eIx p.1) p.2) : zC d 174 [.ref y0, .int y1] h Q := by
  refine zC_of (L := [some (.ref y0), some (.int y1)]) rfl rfl ?_
  unfold f174 at hF
  obtain ⟨d, rfl⟩ : ∃ e, d = e + 1 := ⟨d - 1, by omega⟩
  refine zx_iload_n rfl rfl rfl ?_
  refine zx_aload_n rfl rfl rfl ?_
  replace hF := zbnd hF
  obtain ⟨x1, e2, hF⟩ := hF
  refine zy_getR rfl rfl e2 ?_
  replace hF := zbnd hF
  obtain ⟨a3, rfl, hF⟩ := hF
  replace hF := zbnd hF
  obtain ⟨x4, e5, hF⟩ := hF
  refine zy_getR rfl rfl e5 ?_
  replace hF := zbnd hF
  obtain ⟨a6, rfl, hF⟩ := hF
  replace hF := zgd_some hF
  obtain ⟨g7, hF⟩ := hF
  replace hF := zbnd hF
  obtain ⟨p9, e8, hF⟩ := hF
  refine zx_callE rfl rfl rfl rfl (zrcv_isO g7) rfl rfl (zc4 (Nat.le_of_ble_eq_true rfl)) (t68 (by omega) e8 (zaI ?_))
  replace hF := zbnd hF
  obtain ⟨p11, e10, hF⟩ := hF
  refine zx_callE rfl rfl rfl rfl rfl rfl rfl (zc4 (Nat.le_of_ble_eq_true rfl)) (t13 (by omega) e10 (zaI ?_))
  refine zx_if_ne rfl rfl (fun c12 => ?_) (fun c12 => ?_)
  · rw [if_neg c12] at hF
    refine zx_aload_n rfl rfl rfl ?_
    replace hF := zbnd hF
    obtain ⟨x13, e14, hF⟩ := hF
    refine zy_getR rfl rfl e14 ?_
    refine zx_aload_n rfl rfl rfl ?_
    replace hF := zbnd hF
    obtain ⟨x15, e16, hF⟩ := hF
    refine zy_getR rfl rfl e16 ?_
    replace hF := zbnd hF
    obtain ⟨a17, rfl, hF⟩ := hF
    replace hF := zgd_some hF
    obtain ⟨g18, hF⟩ := hF
    replace hF := zbnd hF
    obtain ⟨p20, e19, hF⟩ := hF
    refine zx_callE rfl rfl rfl rfl (zrcv_isO g18) (congrArg (List.cons _) ((zsl_rf _ _).trans (congrArg (List.cons _) rfl))) rfl (zc4 (Nat.le_of_ble_eq_true rfl)) (t149 (by omega) e19 (zaV ?_))
    refine zx_aload_n rfl rfl rfl ?_
    replace hF := zbnd hF
    obtain ⟨x21, e22, hF⟩ := hF
    refine zy_getR rfl rfl e22 ?_
    refine zx_iload_n rfl rfl rfl ?_
    replace hF := zbnd hF
    obtain ⟨a23, rfl, hF⟩ := hF
    replace hF := zgd_some hF
    obtain ⟨g24, hF⟩ := hF
    replace hF := zbnd hF
    obtain ⟨p26, e25, hF⟩ := hF
    refine zx_callE rfl rfl rfl rfl (zrcv_isO g24) rfl rfl (zc4 (Nat.le_of_ble_eq_true rfl)) (t151 (by omega) e25 (zaI ?_))
    refine zx_if_eq rfl rfl (fun c27 => ?_) (fun c27 => ?_)
    · rw [if_pos c27] at hF
      refine zx_iconst (v := 0) rfl rfl rfl ?_
      replace hF := Option.some.inj hF
      subst hF
      exact zx_bret rfl rfl rfl rfl q
    · rw [if_neg c27] at hF
      refine zx_iconst (v := 1) rfl rfl rfl ?_
      refine zx_goto rfl rfl ?_
      replace hF := Option.some.inj hF
      subst hF
      exact zx_bret rfl rfl rfl rfl q
  · rw [if_pos c12] at hF
    replace hF := Option.some.inj hF
    subst hF
    exact zw_throw rfl q
def f173 (n : Nat)  (y0 : Option Nat) (y1 : Int32) (y2 : Option Nat) (h : zH) : Option (Int32 × zH) :=
  y0.bind fun a1 =>
  zgd (isO h a1 10) <|
  (f174 n a1 y1 h).bind fun p7 => zth p7 (fun r4 h5 =>
    y2.bind fun a9 =>
    (aS zsL h5 a9 0 (.long r4.toInt64)).bind fun h10 =>
    some (0, h10))
    (fun x6 h5 =>
    if x6 = 20 then
      some (1, h5)
    else
    none)
set_option maxRecDepth 20000 in
theorem t173 {d n : Nat} {Q : zRs → zH → Prop}  {y0 : Option Nat} {y1 : Int32} {y2 : Option Nat} (hd : 74 ≤ d)  {h : zH} {p : (Int32 × zH)} (hF : f173 n  y0 y1 y2 h = some p) (q : Q (eI p.1) p.2) : zC d 173 [va_rf y0, .int y1, va_rf y2] h Q := by
  refine zC_of (L := [some (va_rf y0), some (.int y1), some (va_rf y2), none]) ((zsl_rf _ _).trans (congrArg (List.cons _) (congrArg (List.cons _) ((zsl_rf _ _).trans (congrArg (List.cons _) rfl))))) rfl ?_
  unfold f173 at hF
  obtain ⟨d, rfl⟩ : ∃ e, d = e + 1 := ⟨d - 1, by omega⟩
  refine zy_rload_n rfl rfl rfl ?_
  refine zx_iconst (v := 0) rfl rfl rfl ?_
  refine zy_rload_n rfl rfl rfl ?_
  refine zx_iload_n rfl rfl rfl ?_
  replace hF := zbnd hF
  obtain ⟨a1, rfl, hF⟩ := hF
  replace hF := zgd_some hF
  obtain ⟨g2, hF⟩ := hF
  replace hF := zbnd hF
  obtain ⟨⟨r4, h5⟩, e3, hF⟩ := hF
  refine zx_callE rfl rfl rfl rfl (zrcv_isO g2) rfl rfl (zc4 (Nat.le_of_ble_eq_true rfl)) (t174 (by omega) e3 ?_)
  rcases r4 with r4 | x6
  rotate_left 1
  · replace hF := zthH hF
    by_cases c8 : x6 = 20
    · subst c8
      refine zaH (hp := 12) rfl ?_
      refine zx_ustore_n rfl rfl (zput_ok (L' := [some (.ref a1), some (.int y1), some (va_rf y2), some (.retAddr 0)]) rfl (zcl_X (j := 2) rfl (zn2_rf _)) rfl) ?_
      refine zx_iconst (v := 1) rfl rfl rfl ?_
      replace hF := Option.some.inj hF
      subst hF
      exact zx_bret rfl rfl rfl rfl q
    have hF : (if x6 = 20 then _ else _) = _ := hF
    rw [if_neg c8] at hF
    cases hF
  replace hF := zthG hF
  refine zaI ?_
  refine zx_i2l rfl rfl ?_
  replace hF := zbnd hF
  obtain ⟨a9, rfl, hF⟩ := hF
  replace hF := zbnd hF
  obtain ⟨h10, e11, hF⟩ := hF
  refine zy_sJ rfl rfl e11 ?_
  refine zx_goto rfl rfl ?_
  refine zx_iconst (v := 0) rfl rfl rfl ?_
  replace hF := Option.some.inj hF
  subst hF
  exact zx_bret rfl rfl rfl rfl q
def f176 (n : Nat)  (y0 : Nat) (y1 : Int32) (h : zH) : Option ((Int32 ⊕ Nat) × zH) :=
  (gR h y0 10 2).bind fun x1 =>
  x1.bind fun a3 =>
  (gR h a3 4 4).bind fun x4 =>
  x4.bind fun a6 =>
  zgd (isO h a6 14) <|
  (f68 n a6 h).bind fun p9 =>
  (f13 n y1 p9.1 p9.2).bind fun p11 =>
  if p11.1 = 0 then
    some (.inr 20, thH p11.2)
  else
    (gR p11.2 y0 10 2).bind fun x13 =>
    x13.bind fun a15 =>
    (gR p11.2 a15 4 10).bind fun x16 =>
    x16.bind fun a18 =>
    (aI p11.2 a18 y1).bind fun x19 =>
    some (.inl x19, p11.2)
set_option maxRecDepth 20000 in
theorem t176 {d n : Nat} {Q : zRs → zH → Prop}  {y0 : Nat} {y1 : Int32} (hd : 1 ≤ d)  {h : zH} {p : ((Int32 ⊕ Nat) × zH)} (hF : f176 n  y0 y1 h = some p) (q : Q (eIx p.1) p.2) : zC d 176 [.ref y0, .int y1] h Q := by
  refine zC_of (L := [some (.ref y0), some (.int y1)]) rfl rfl ?_
  unfold f176 at hF
  obtain ⟨d, rfl⟩ : ∃ e, d = e + 1 := ⟨d - 1, by omega⟩
  refine zx_iload_n rfl rfl rfl ?_
  refine zx_aload_n rfl rfl rfl ?_
  replace hF := zbnd hF
  obtain ⟨x1, e2, hF⟩ := hF
  refine zy_getR rfl rfl e2 ?_
  replace hF := zbnd hF
  obtain ⟨a3, rfl, hF⟩ := hF
  replace hF := zbnd hF
  obtain ⟨x4, e5, hF⟩ := hF
  refine zy_getR rfl rfl e5 ?_
  replace hF := zbnd hF
  obtain ⟨a6, rfl, hF⟩ := hF
  replace hF := zgd_some hF
  obtain ⟨g7, hF⟩ := hF
  replace hF := zbnd hF
  obtain ⟨p9, e8, hF⟩ := hF
  refine zx_callE rfl rfl rfl rfl (zrcv_isO g7) rfl rfl (zc4 (Nat.le_of_ble_eq_true rfl)) (t68 (by omega) e8 (zaI ?_))
  replace hF := zbnd hF
  obtain ⟨p11, e10, hF⟩ := hF
  refine zx_callE rfl rfl rfl rfl rfl rfl rfl (zc4 (Nat.le_of_ble_eq_true rfl)) (t13 (by omega) e10 (zaI ?_))
  refine zx_if_ne rfl rfl (fun c12 => ?_) (fun c12 => ?_)
  · rw [if_neg c12] at hF
    refine zx_aload_n rfl rfl rfl ?_
    replace hF := zbnd hF
    obtain ⟨x13, e14, hF⟩ := hF
    refine zy_getR rfl rfl e14 ?_
    replace hF := zbnd hF
    obtain ⟨a15, rfl, hF⟩ := hF
    replace hF := zbnd hF
    obtain ⟨x16, e17, hF⟩ := hF
    refine zy_getR rfl rfl e17 ?_
    refine zx_iload_n rfl rfl rfl ?_
    replace hF := zbnd hF
    obtain ⟨a18, rfl, hF⟩ := hF
    replace hF := zbnd hF
    obtain ⟨x19, e20, hF⟩ := hF
    refine zy_aI rfl rfl e20 ?_
    replace hF := Option.some.inj hF
    subst hF
    exact zx_bret rfl rfl rfl rfl q
  · rw [if_pos c12] at hF
    replace hF := Option.some.inj hF
    subst hF
    exact zw_throw rfl q
def f175 (n : Nat)  (y0 : Option Nat) (y1 : Int32) (y2 : Option Nat) (h : zH) : Option (Int32 × zH) :=
  y0.bind fun a1 =>
  zgd (isO h a1 10) <|
  (f176 n a1 y1 h).bind fun p7 => zth p7 (fun r4 h5 =>
    y2.bind fun a9 =>
    (aS zsL h5 a9 0 (.long r4.toInt64)).bind fun h10 =>
    some (0, h10))
    (fun x6 h5 =>
    if x6 = 20 then
      some (1, h5)
    else
    none)
set_option maxRecDepth 20000 in
theorem t175 {d n : Nat} {Q : zRs → zH → Prop}  {y0 : Option Nat} {y1 : Int32} {y2 : Option Nat} (hd : 2 ≤ d)  {h : zH} {p : (Int32 × zH)} (hF : f175 n  y0 y1 y2 h = some p) (q : Q (eI p.1) p.2) : zC d 175 [va_rf y0, .int y1, va_rf y2] h Q := by
  refine zC_of (L := [some (va_rf y0), some (.int y1), some (va_rf y2), none]) ((zsl_rf _ _).trans (congrArg (List.cons _) (congrArg (List.cons _) ((zsl_rf _ _).trans (congrArg (List.cons _) rfl))))) rfl ?_
  unfold f175 at hF
  obtain ⟨d, rfl⟩ : ∃ e, d = e + 1 := ⟨d - 1, by omega⟩
  refine zy_rload_n rfl rfl rfl ?_
  refine zx_iconst (v := 0) rfl rfl rfl ?_
  refine zy_rload_n rfl rfl rfl ?_
  refine zx_iload_n rfl rfl rfl ?_
  replace hF := zbnd hF
  obtain ⟨a1, rfl, hF⟩ := hF
  replace hF := zgd_some hF
  obtain ⟨g2, hF⟩ := hF
  replace hF := zbnd hF
  obtain ⟨⟨r4, h5⟩, e3, hF⟩ := hF
  refine zx_callE rfl rfl rfl rfl (zrcv_isO g2) rfl rfl (zc4 (Nat.le_of_ble_eq_true rfl)) (t176 (by omega) e3 ?_)
  rcases r4 with r4 | x6
  rotate_left 1
  · replace hF := zthH hF
    by_cases c8 : x6 = 20
    · subst c8
      refine zaH (hp := 12) rfl ?_
      refine zx_ustore_n rfl rfl (zput_ok (L' := [some (.ref a1), some (.int y1), some (va_rf y2), some (.retAddr 0)]) rfl (zcl_X (j := 2) rfl (zn2_rf _)) rfl) ?_
      refine zx_iconst (v := 1) rfl rfl rfl ?_
      replace hF := Option.some.inj hF
      subst hF
      exact zx_bret rfl rfl rfl rfl q
    have hF : (if x6 = 20 then _ else _) = _ := hF
    rw [if_neg c8] at hF
    cases hF
  replace hF := zthG hF
  refine zaI ?_
  refine zx_i2l rfl rfl ?_
  replace hF := zbnd hF
  obtain ⟨a9, rfl, hF⟩ := hF
  replace hF := zbnd hF
  obtain ⟨h10, e11, hF⟩ := hF
  refine zy_sJ rfl rfl e11 ?_
  refine zx_goto rfl rfl ?_
  refine zx_iconst (v := 0) rfl rfl rfl ?_
  replace hF := Option.some.inj hF
  subst hF
  exact zx_bret rfl rfl rfl rfl q
def f178 (n : Nat)  (y0 : Nat) (y1 : Int32) (h : zH) : Option ((Int32 ⊕ Nat) × zH) :=
  (gR h y0 10 2).bind fun x1 =>
  x1.bind fun a3 =>
  (gR h a3 4 4).bind fun x4 =>
  x4.bind fun a6 =>
  zgd (isO h a6 14) <|
  (f68 n a6 h).bind fun p9 =>
  (f13 n y1 p9.1 p9.2).bind fun p11 =>
  if p11.1 = 0 then
    some (.inr 20, thH p11.2)
  else
    (gR p11.2 y0 10 2).bind fun x13 =>
    x13.bind fun a15 =>
    (gR p11.2 a15 4 11).bind fun x16 =>
    x16.bind fun a18 =>
    (aI p11.2 a18 y1).bind fun x19 =>
    some (.inl x19, p11.2)
set_option maxRecDepth 20000 in
theorem t178 {d n : Nat} {Q : zRs → zH → Prop}  {y0 : Nat} {y1 : Int32} (hd : 1 ≤ d)  {h : zH} {p : ((Int32 ⊕ Nat) × zH)} (hF : f178 n  y0 y1 h = some p) (q : Q (eIx p.1) p.2) : zC d 178 [.ref y0, .int y1] h Q := by
  refine zC_of (L := [some (.ref y0), some (.int y1)]) rfl rfl ?_
  unfold f178 at hF
  obtain ⟨d, rfl⟩ : ∃ e, d = e + 1 := ⟨d - 1, by omega⟩
  refine zx_iload_n rfl rfl rfl ?_
  refine zx_aload_n rfl rfl rfl ?_
  replace hF := zbnd hF
  obtain ⟨x1, e2, hF⟩ := hF
  refine zy_getR rfl rfl e2 ?_
  replace hF := zbnd hF
  obtain ⟨a3, rfl, hF⟩ := hF
  replace hF := zbnd hF
  obtain ⟨x4, e5, hF⟩ := hF
  refine zy_getR rfl rfl e5 ?_
  replace hF := zbnd hF
  obtain ⟨a6, rfl, hF⟩ := hF
  replace hF := zgd_some hF
  obtain ⟨g7, hF⟩ := hF
  replace hF := zbnd hF
  obtain ⟨p9, e8, hF⟩ := hF
  refine zx_callE rfl rfl rfl rfl (zrcv_isO g7) rfl rfl (zc4 (Nat.le_of_ble_eq_true rfl)) (t68 (by omega) e8 (zaI ?_))
  replace hF := zbnd hF
  obtain ⟨p11, e10, hF⟩ := hF
  refine zx_callE rfl rfl rfl rfl rfl rfl rfl (zc4 (Nat.le_of_ble_eq_true rfl)) (t13 (by omega) e10 (zaI ?_))
  refine zx_if_ne rfl rfl (fun c12 => ?_) (fun c12 => ?_)
  · rw [if_neg c12] at hF
    refine zx_aload_n rfl rfl rfl ?_
    replace hF := zbnd hF
    obtain ⟨x13, e14, hF⟩ := hF
    refine zy_getR rfl rfl e14 ?_
    replace hF := zbnd hF
    obtain ⟨a15, rfl, hF⟩ := hF
    replace hF := zbnd hF
    obtain ⟨x16, e17, hF⟩ := hF
    refine zy_getR rfl rfl e17 ?_
    refine zx_iload_n rfl rfl rfl ?_
    replace hF := zbnd hF
    obtain ⟨a18, rfl, hF⟩ := hF
    replace hF := zbnd hF
    obtain ⟨x19, e20, hF⟩ := hF
    refine zy_aI rfl rfl e20 ?_
    replace hF := Option.some.inj hF
    subst hF
    exact zx_bret rfl rfl rfl rfl q
  · rw [if_pos c12] at hF
    replace hF := Option.some.inj hF
    subst hF
    exact zw_throw rfl q
def f177 (n : Nat)  (y0 : Option Nat) (y1 : Int32) (y2 : Option Nat) (h : zH) : Option (Int32 × zH) :=
  y0.bind fun a1 =>
  zgd (isO h a1 10) <|
  (f178 n a1 y1 h).bind fun p7 => zth p7 (fun r4 h5 =>
    y2.bind fun a9 =>
    (aS zsL h5 a9 0 (.long r4.toInt64)).bind fun h10 =>
    some (0, h10))
    (fun x6 h5 =>
    if x6 = 20 then
      some (1, h5)
    else
    none)
set_option maxRecDepth 20000 in
theorem t177 {d n : Nat} {Q : zRs → zH → Prop}  {y0 : Option Nat} {y1 : Int32} {y2 : Option Nat} (hd : 2 ≤ d)  {h : zH} {p : (Int32 × zH)} (hF : f177 n  y0 y1 y2 h = some p) (q : Q (eI p.1) p.2) : zC d 177 [va_rf y0, .int y1, va_rf y2] h Q := by
  refine zC_of (L := [some (va_rf y0), some (.int y1), some (va_rf y2), none]) ((zsl_rf _ _).trans (congrArg (List.cons _) (congrArg (List.cons _) ((zsl_rf _ _).trans (congrArg (List.cons _) rfl))))) rfl ?_
  unfold f177 at hF
  obtain ⟨d, rfl⟩ : ∃ e, d = e + 1 := ⟨d - 1, by omega⟩
  refine zy_rload_n rfl rfl rfl ?_
  refine zx_iconst (v := 0) rfl rfl rfl ?_
  refine zy_rload_n rfl rfl rfl ?_
  refine zx_iload_n rfl rfl rfl ?_
  replace hF := zbnd hF
  obtain ⟨a1, rfl, hF⟩ := hF
  replace hF := zgd_some hF
  obtain ⟨g2, hF⟩ := hF
  replace hF := zbnd hF
  obtain ⟨⟨r4, h5⟩, e3, hF⟩ := hF
  refine zx_callE rfl rfl rfl rfl (zrcv_isO g2) rfl rfl (zc4 (Nat.le_of_ble_eq_true rfl)) (t178 (by omega) e3 ?_)
  rcases r4 with r4 | x6
  rotate_left 1
  · replace hF := zthH hF
    by_cases c8 : x6 = 20
    · subst c8
      refine zaH (hp := 12) rfl ?_
      refine zx_ustore_n rfl rfl (zput_ok (L' := [some (.ref a1), some (.int y1), some (va_rf y2), some (.retAddr 0)]) rfl (zcl_X (j := 2) rfl (zn2_rf _)) rfl) ?_
      refine zx_iconst (v := 1) rfl rfl rfl ?_
      replace hF := Option.some.inj hF
      subst hF
      exact zx_bret rfl rfl rfl rfl q
    have hF : (if x6 = 20 then _ else _) = _ := hF
    rw [if_neg c8] at hF
    cases hF
  replace hF := zthG hF
  refine zaI ?_
  refine zx_i2l rfl rfl ?_
  replace hF := zbnd hF
  obtain ⟨a9, rfl, hF⟩ := hF
  replace hF := zbnd hF
  obtain ⟨h10, e11, hF⟩ := hF
  refine zy_sJ rfl rfl e11 ?_
  refine zx_goto rfl rfl ?_
  refine zx_iconst (v := 0) rfl rfl rfl ?_
  replace hF := Option.some.inj hF
  subst hF
  exact zx_bret rfl rfl rfl rfl q
def b181_49 (n : Nat)  (r4 : Nat → Int32 → Int32 → Int32 → zH → Option (Int32 × zH)) (l0 : Nat) (l1 : Int32) (l2 : Int32) (l3 : Int32) (h : zH) : Option (Int32 × zH) :=
  r4 l0 l1 l2 (l3 + 1) h
set_option maxRecDepth 20000 in
theorem tb181_49 {d n : Nat} {Q : zRs → zH → Prop}  {r4 : Nat → Int32 → Int32 → Int32 → zH → Option (Int32 × zH)} {l0 : Nat} {l1 : Int32} {l2 : Int32} {l3 : Int32}   (hd : 0 ≤ d)  (hr4 : ∀ {l0 : Nat} {l1 : Int32} {l2 : Int32} {l3 : Int32}   {h : zH} {p : (Int32 × zH)}, r4 l0 l1 l2 l3 h = some p → Q (eI p.1) p.2 → zW d 181 4 [some (.ref l0), some (.int l1), some (.int l2), some (.int l3)] [] h Q) {h : zH} {p : (Int32 × zH)}  (hF : b181_49 n  r4 l0 l1 l2 l3 h = some p) (q : Q (eI p.1) p.2) : zW d 181 49 [some (.ref l0), some (.int l1), some (.int l2), some (.int l3)] [] h Q := by
  unfold b181_49 at hF
  refine zx_iinc (w := 1) rfl rfl rfl rfl rfl ?_
  refine zx_goto rfl rfl ?_
  exact hr4  hF q
def b181_4 (n : Nat)  (r4 : Nat → Int32 → Int32 → Int32 → zH → Option (Int32 × zH)) (l0 : Nat) (l1 : Int32) (l2 : Int32) (l3 : Int32) (h : zH) : Option (Int32 × zH) :=
  (gI h l0 7 4).bind fun x1 =>
  if x1 ≤ l3 then
    some (l2, h)
  else
    (gR h l0 7 2).bind fun x4 =>
    x4.bind fun a6 =>
    (aN h a6).bind fun x7 =>
    if x7 ≤ l3 then
      some (l2, h)
    else
      (gR h l0 7 3).bind fun x10 =>
      x10.bind fun a12 =>
      (aN h a12).bind fun x13 =>
      if x13 ≤ l3 then
        some (l2, h)
      else
        (gR h l0 7 3).bind fun x16 =>
        x16.bind fun a18 =>
        (aI h a18 l3).bind fun x19 =>
        if x19 = l1 then
          (gR h l0 7 2).bind fun x22 =>
          x22.bind fun a24 =>
          (aI h a24 l3).bind fun x25 =>
          b181_49 n r4 l0 l1 (l2 + x25) l3 h
        else
          b181_49 n r4 l0 l1 l2 l3 h
set_option maxRecDepth 20000 in
theorem tb181_4 {d n : Nat} {Q : zRs → zH → Prop}  {r4 : Nat → Int32 → Int32 → Int32 → zH → Option (Int32 × zH)} {l0 : Nat} {l1 : Int32} {l2 : Int32} {l3 : Int32}   (hd : 0 ≤ d)  (hr4 : ∀ {l0 : Nat} {l1 : Int32} {l2 : Int32} {l3 : Int32}   {h : zH} {p : (Int32 × zH)}, r4 l0 l1 l2 l3 h = some p → Q (eI p.1) p.2 → zW d 181 4 [some (.ref l0), some (.int l1), some (.int l2), some (.int l3)] [] h Q) {h : zH} {p : (Int32 × zH)}  (hF : b181_4 n  r4 l0 l1 l2 l3 h = some p) (q : Q (eI p.1) p.2) : zW d 181 4 [some (.ref l0), some (.int l1), some (.int l2), some (.int l3)] [] h Q := by
  unfold b181_4 at hF
  refine zx_iload_n rfl rfl rfl ?_
  refine zx_aload_n rfl rfl rfl ?_
  replace hF := zbnd hF
  obtain ⟨x1, e2, hF⟩ := hF
  refine zy_getI rfl rfl e2 ?_
  refine zx_ic_ge rfl rfl (fun c3 => ?_) (fun c3 => ?_)
  · rw [if_pos c3] at hF
    refine zx_iload_n rfl rfl rfl ?_
    replace hF := Option.some.inj hF
    subst hF
    exact zx_bret rfl rfl rfl rfl q
  · rw [if_neg c3] at hF
    refine zx_iload_n rfl rfl rfl ?_
    refine zx_aload_n rfl rfl rfl ?_
    replace hF := zbnd hF
    obtain ⟨x4, e5, hF⟩ := hF
    refine zy_getR rfl rfl e5 ?_
    replace hF := zbnd hF
    obtain ⟨a6, rfl, hF⟩ := hF
    replace hF := zbnd hF
    obtain ⟨x7, e8, hF⟩ := hF
    refine zy_alen rfl rfl e8 ?_
    refine zx_ic_ge rfl rfl (fun c9 => ?_) (fun c9 => ?_)
    · rw [if_pos c9] at hF
      refine zx_iload_n rfl rfl rfl ?_
      replace hF := Option.some.inj hF
      subst hF
      exact zx_bret rfl rfl rfl rfl q
    · rw [if_neg c9] at hF
      refine zx_iload_n rfl rfl rfl ?_
      refine zx_aload_n rfl rfl rfl ?_
      replace hF := zbnd hF
      obtain ⟨x10, e11, hF⟩ := hF
      refine zy_getR rfl rfl e11 ?_
      replace hF := zbnd hF
      obtain ⟨a12, rfl, hF⟩ := hF
      replace hF := zbnd hF
      obtain ⟨x13, e14, hF⟩ := hF
      refine zy_alen rfl rfl e14 ?_
      refine zx_ic_ge rfl rfl (fun c15 => ?_) (fun c15 => ?_)
      · rw [if_pos c15] at hF
        refine zx_iload_n rfl rfl rfl ?_
        replace hF := Option.some.inj hF
        subst hF
        exact zx_bret rfl rfl rfl rfl q
      · rw [if_neg c15] at hF
        refine zx_aload_n rfl rfl rfl ?_
        replace hF := zbnd hF
        obtain ⟨x16, e17, hF⟩ := hF
        refine zy_getR rfl rfl e17 ?_
        refine zx_iload_n rfl rfl rfl ?_
        replace hF := zbnd hF
        obtain ⟨a18, rfl, hF⟩ := hF
        replace hF := zbnd hF
        obtain ⟨x19, e20, hF⟩ := hF
        refine zy_aI rfl rfl e20 ?_
        refine zx_iload_n rfl rfl rfl ?_
        refine zx_ic_ne rfl rfl (fun c21 => ?_) (fun c21 => ?_)
        · rw [if_neg c21] at hF
          exact tb181_49 (l0 := l0) (l1 := l1) (l2 := l2) (l3 := l3) hd hr4  hF q
        · rw [if_pos c21] at hF
          refine zx_iload_n rfl rfl rfl ?_
          refine zx_aload_n rfl rfl rfl ?_
          replace hF := zbnd hF
          obtain ⟨x22, e23, hF⟩ := hF
          refine zy_getR rfl rfl e23 ?_
          refine zx_iload_n rfl rfl rfl ?_
          replace hF := zbnd hF
          obtain ⟨a24, rfl, hF⟩ := hF
          replace hF := zbnd hF
          obtain ⟨x25, e26, hF⟩ := hF
          refine zy_aI rfl rfl e26 ?_
          refine zx_iadd rfl rfl ?_
          refine zx_istore_n rfl rfl rfl ?_
          exact tb181_49 (l0 := l0) (l1 := l1) (l2 := (l2 + x25)) (l3 := l3) hd hr4  hF q
def f181_4 (n : Nat)   (k : Nat) : Nat → Int32 → Int32 → Int32 → zH → Option (Int32 × zH) := Nat.rec (fun _ _ _ _ _ => none) (fun _ ih => b181_4 n  ih) k
theorem tf181_4 {d n : Nat} {Q : zRs → zH → Prop}   (hd : 0 ≤ d)   (k : Nat) : ∀ {l0 : Nat} {l1 : Int32} {l2 : Int32} {l3 : Int32}   {h : zH} {p : (Int32 × zH)}, f181_4 n   k l0 l1 l2 l3 h = some p → Q (eI p.1) p.2 → zW d 181 4 [some (.ref l0), some (.int l1), some (.int l2), some (.int l3)] [] h Q := by
  induction k with
  | zero => intros; rename_i hF _; cases hF
  | succ k ih => intros; rename_i  hF q; exact tb181_4 (n := n) hd  ih  hF q
def f181 (n : Nat)  (y0 : Nat) (y1 : Int32) (h : zH) : Option (Int32 × zH) :=
  f181_4 n  n y0 y1 0 0 h
set_option maxRecDepth 20000 in
theorem t181 {d n : Nat} {Q : zRs → zH → Prop}  {y0 : Nat} {y1 : Int32} (hd : 0 ≤ d)  {h : zH} {p : (Int32 × zH)} (hF : f181 n  y0 y1 h = some p) (q : Q (eI p.1) p.2) : zC d 181 [.ref y0, .int y1] h Q := by
  refine zC_of (L := [some (.ref y0), some (.int y1), none, none]) rfl rfl ?_
  unfold f181 at hF
  refine zx_iconst (v := 0) rfl rfl rfl ?_
  refine zx_istore_n rfl rfl rfl ?_
  refine zx_iconst (v := 0) rfl rfl rfl ?_
  refine zx_istore_n rfl rfl rfl ?_
  exact tf181_4 hd  n (l0 := y0) (l1 := y1) (l2 := 0) (l3 := 0)  hF q
def f180 (n : Nat)  (y0 : Nat) (y1 : Int32) (y2 : Int32) (h : zH) : Option ((Int32 ⊕ Nat) × zH) :=
  (gR h y0 10 2).bind fun x1 =>
  x1.bind fun a3 =>
  (gR h a3 4 7).bind fun x4 =>
  x4.bind fun a6 =>
  zgd (isO h a6 14) <|
  (f68 n a6 h).bind fun p9 =>
  (f13 n y1 p9.1 p9.2).bind fun p11 =>
  if p11.1 = 0 then
    some (.inr 20, thH p11.2)
  else
    (gR p11.2 y0 10 2).bind fun x13 =>
    x13.bind fun a15 =>
    (gR p11.2 a15 4 7).bind fun x16 =>
    x16.bind fun a18 =>
    zgd (isO p11.2 a18 14) <|
    (f74 n a18 y1 p11.2).bind fun p21 =>
    zgd (kC p21.2 p21.1 7 0) <|
    p21.1.bind fun a23 =>
    zgd (isO p21.2 a23 7) <|
    (f181 n a23 y2 p21.2).bind fun p27 =>
    some (.inl p27.1, p27.2)
set_option maxRecDepth 20000 in
theorem t180 {d n : Nat} {Q : zRs → zH → Prop}  {y0 : Nat} {y1 : Int32} {y2 : Int32} (hd : 3 ≤ d)  {h : zH} {p : ((Int32 ⊕ Nat) × zH)} (hF : f180 n  y0 y1 y2 h = some p) (q : Q (eIx p.1) p.2) : zC d 180 [.ref y0, .int y1, .int y2] h Q := by
  refine zC_of (L := [some (.ref y0), some (.int y1), some (.int y2)]) rfl rfl ?_
  unfold f180 at hF
  obtain ⟨d, rfl⟩ : ∃ e, d = e + 1 := ⟨d - 1, by omega⟩
  refine zx_iload_n rfl rfl rfl ?_
  refine zx_aload_n rfl rfl rfl ?_
  replace hF := zbnd hF
  obtain ⟨x1, e2, hF⟩ := hF
  refine zy_getR rfl rfl e2 ?_
  replace hF := zbnd hF
  obtain ⟨a3, rfl, hF⟩ := hF
  replace hF := zbnd hF
  obtain ⟨x4, e5, hF⟩ := hF
  refine zy_getR rfl rfl e5 ?_
  replace hF := zbnd hF
  obtain ⟨a6, rfl, hF⟩ := hF
  replace hF := zgd_some hF
  obtain ⟨g7, hF⟩ := hF
  replace hF := zbnd hF
  obtain ⟨p9, e8, hF⟩ := hF
  refine zx_callE rfl rfl rfl rfl (zrcv_isO g7) rfl rfl (zc4 (Nat.le_of_ble_eq_true rfl)) (t68 (by omega) e8 (zaI ?_))
  replace hF := zbnd hF
  obtain ⟨p11, e10, hF⟩ := hF
  refine zx_callE rfl rfl rfl rfl rfl rfl rfl (zc4 (Nat.le_of_ble_eq_true rfl)) (t13 (by omega) e10 (zaI ?_))
  refine zx_if_ne rfl rfl (fun c12 => ?_) (fun c12 => ?_)
  · rw [if_neg c12] at hF
    refine zx_aload_n rfl rfl rfl ?_
    replace hF := zbnd hF
    obtain ⟨x13, e14, hF⟩ := hF
    refine zy_getR rfl rfl e14 ?_
    replace hF := zbnd hF
    obtain ⟨a15, rfl, hF⟩ := hF
    replace hF := zbnd hF
    obtain ⟨x16, e17, hF⟩ := hF
    refine zy_getR rfl rfl e17 ?_
    refine zx_iload_n rfl rfl rfl ?_
    replace hF := zbnd hF
    obtain ⟨a18, rfl, hF⟩ := hF
    replace hF := zgd_some hF
    obtain ⟨g19, hF⟩ := hF
    replace hF := zbnd hF
    obtain ⟨p21, e20, hF⟩ := hF
    refine zx_callE rfl rfl rfl rfl (zrcv_isO g19) rfl rfl (zc4 (Nat.le_of_ble_eq_true rfl)) (t74 (by omega) e20 (zaA ?_))
    replace hF := zgd_some hF
    obtain ⟨g22, hF⟩ := hF
    refine zy_cast (r := p21.1) rfl rfl g22 ?_
    refine zx_iload_n rfl rfl rfl ?_
    replace hF := zbnd hF
    obtain ⟨a23, e24, hF⟩ := hF
    rw [e24]
    replace hF := zgd_some hF
    obtain ⟨g25, hF⟩ := hF
    replace hF := zbnd hF
    obtain ⟨p27, e26, hF⟩ := hF
    refine zx_callE rfl rfl rfl rfl (zrcv_isO g25) rfl rfl (zc4 (Nat.le_of_ble_eq_true rfl)) (t181 (by omega) e26 (zaI ?_))
    replace hF := Option.some.inj hF
    subst hF
    exact zx_bret rfl rfl rfl rfl q
  · rw [if_pos c12] at hF
    replace hF := Option.some.inj hF
    subst hF
    exact zw_throw rfl q
def f179 (n : Nat)  (y0 : Option Nat) (y1 : Int32) (y2 : Int32) (y3 : Option Nat) (h : zH) : Option (Int32 × zH) :=
  y0.bind fun a1 =>
  zgd (isO h a1 10) <|
  (f180 n a1 y1 y2 h).bind fun p7 => zth p7 (fun r4 h5 =>
    y3.bind fun a9 =>
    (aS zsL h5 a9 0 (.long r4.toInt64)).bind fun h10 =>
    some (0, h10))
    (fun x6 h5 =>
    if x6 = 20 then
      some (1, h5)
    else
    none)
set_option maxRecDepth 20000 in
theorem t179 {d n : Nat} {Q : zRs → zH → Prop}  {y0 : Option Nat} {y1 : Int32} {y2 : Int32} {y3 : Option Nat} (hd : 4 ≤ d)  {h : zH} {p : (Int32 × zH)} (hF : f179 n  y0 y1 y2 y3 h = some p) (q : Q (eI p.1) p.2) : zC d 179 [va_rf y0, .int y1, .int y2, va_rf y3] h Q := by
  refine zC_of (L := [some (va_rf y0), some (.int y1), some (.int y2), some (va_rf y3), none]) ((zsl_rf _ _).trans (congrArg (List.cons _) (congrArg (List.cons _) (congrArg (List.cons _) ((zsl_rf _ _).trans (congrArg (List.cons _) rfl)))))) rfl ?_
  unfold f179 at hF
  obtain ⟨d, rfl⟩ : ∃ e, d = e + 1 := ⟨d - 1, by omega⟩
  refine zy_rload_n rfl rfl rfl ?_
  refine zx_iconst (v := 0) rfl rfl rfl ?_
  refine zy_rload_n rfl rfl rfl ?_
  refine zx_iload_n rfl rfl rfl ?_
  refine zx_iload_n rfl rfl rfl ?_
  replace hF := zbnd hF
  obtain ⟨a1, rfl, hF⟩ := hF
  replace hF := zgd_some hF
  obtain ⟨g2, hF⟩ := hF
  replace hF := zbnd hF
  obtain ⟨⟨r4, h5⟩, e3, hF⟩ := hF
  refine zx_callE rfl rfl rfl rfl (zrcv_isO g2) rfl rfl (zc4 (Nat.le_of_ble_eq_true rfl)) (t180 (by omega) e3 ?_)
  rcases r4 with r4 | x6
  rotate_left 1
  · replace hF := zthH hF
    by_cases c8 : x6 = 20
    · subst c8
      refine zaH (hp := 13) rfl ?_
      refine zx_ustore rfl rfl (zput_ok (L' := [some (.ref a1), some (.int y1), some (.int y2), some (va_rf y3), some (.retAddr 0)]) rfl (zcl_X (j := 3) rfl (zn2_rf _)) rfl) ?_
      refine zx_iconst (v := 1) rfl rfl rfl ?_
      replace hF := Option.some.inj hF
      subst hF
      exact zx_bret rfl rfl rfl rfl q
    have hF : (if x6 = 20 then _ else _) = _ := hF
    rw [if_neg c8] at hF
    cases hF
  replace hF := zthG hF
  refine zaI ?_
  refine zx_i2l rfl rfl ?_
  replace hF := zbnd hF
  obtain ⟨a9, rfl, hF⟩ := hF
  replace hF := zbnd hF
  obtain ⟨h10, e11, hF⟩ := hF
  refine zy_sJ rfl rfl e11 ?_
  refine zx_goto rfl rfl ?_
  refine zx_iconst (v := 0) rfl rfl rfl ?_
  replace hF := Option.some.inj hF
  subst hF
  exact zx_bret rfl rfl rfl rfl q
def f182 (n : Nat)  (y0 : Nat) (h : zH) : Option (Unit × zH) :=
  (nA h 1 6000).bind fun h1 =>
  (pF h1 y0 11 1 (.ref h.1.length)).bind fun h3 =>
  (pF h3 y0 11 4 (.int 1)).bind fun h5 =>
  (nA h5 0 2).bind fun h7 =>
  (pF h7 y0 11 5 (.ref h5.1.length)).bind fun h9 =>
  (nA h9 0 3016).bind fun h11 =>
  (pF h11 y0 11 6 (.ref h9.1.length)).bind fun h13 =>
  (nA h13 1 48256).bind fun h15 =>
  (pF h15 y0 11 7 (.ref h13.1.length)).bind fun h17 =>
  (nA h17 0 2).bind fun h19 =>
  (pF h19 y0 11 8 (.ref h17.1.length)).bind fun h21 =>
  (nA h21 0 24).bind fun h23 =>
  (pF h23 y0 11 9 (.ref h21.1.length)).bind fun h25 =>
  (nA h25 0 24).bind fun h27 =>
  (pF h27 y0 11 10 (.ref h25.1.length)).bind fun h29 =>
  (nA h29 0 24).bind fun h31 =>
  (pF h31 y0 11 11 (.ref h29.1.length)).bind fun h33 =>
  (nA h33 0 24).bind fun h35 =>
  (pF h35 y0 11 12 (.ref h33.1.length)).bind fun h37 =>
  (nA h37 0 2).bind fun h39 =>
  (pF h39 y0 11 13 (.ref h37.1.length)).bind fun h41 =>
  (nA h41 0 48).bind fun h43 =>
  (pF h43 y0 11 14 (.ref h41.1.length)).bind fun h45 =>
  (nA h45 0 48).bind fun h47 =>
  (pF h47 y0 11 15 (.ref h45.1.length)).bind fun h49 =>
  (nA h49 0 48).bind fun h51 =>
  (pF h51 y0 11 16 (.ref h49.1.length)).bind fun h53 =>
  (nA h53 0 384).bind fun h55 =>
  (pF h55 y0 11 17 (.ref h53.1.length)).bind fun h57 =>
  (nA h57 0 48).bind fun h59 =>
  (pF h59 y0 11 18 (.ref h57.1.length)).bind fun h61 =>
  (nA h61 0 48).bind fun h63 =>
  (pF h63 y0 11 19 (.ref h61.1.length)).bind fun h65 =>
  (nA h65 0 48).bind fun h67 =>
  (pF h67 y0 11 20 (.ref h65.1.length)).bind fun h69 =>
  (nA h69 0 192).bind fun h71 =>
  (pF h71 y0 11 21 (.ref h69.1.length)).bind fun h73 =>
  (nA h73 0 192).bind fun h75 =>
  (pF h75 y0 11 22 (.ref h73.1.length)).bind fun h77 =>
  (nA h77 0 192).bind fun h79 =>
  (pF h79 y0 11 23 (.ref h77.1.length)).bind fun h81 =>
  (nA h81 0 192).bind fun h83 =>
  (pF h83 y0 11 24 (.ref h81.1.length)).bind fun h85 =>
  (nA h85 0 192).bind fun h87 =>
  (pF h87 y0 11 25 (.ref h85.1.length)).bind fun h89 =>
  (nA h89 0 192).bind fun h91 =>
  (pF h91 y0 11 26 (.ref h89.1.length)).bind fun h93 =>
  (nA h93 0 192).bind fun h95 =>
  (pF h95 y0 11 27 (.ref h93.1.length)).bind fun h97 =>
  (nA h97 0 192).bind fun h99 =>
  (pF h99 y0 11 28 (.ref h97.1.length)).bind fun h101 =>
  (nA h101 0 2).bind fun h103 =>
  (pF h103 y0 11 29 (.ref h101.1.length)).bind fun h105 =>
  (nA h105 0 16).bind fun h107 =>
  (pF h107 y0 11 30 (.ref h105.1.length)).bind fun h109 =>
  (nA h109 0 16).bind fun h111 =>
  (pF h111 y0 11 31 (.ref h109.1.length)).bind fun h113 =>
  (nA h113 0 2).bind fun h115 =>
  (pF h115 y0 11 32 (.ref h113.1.length)).bind fun h117 =>
  (nA h117 0 200).bind fun h119 =>
  (pF h119 y0 11 33 (.ref h117.1.length)).bind fun h121 =>
  (nA h121 0 200).bind fun h123 =>
  (pF h123 y0 11 34 (.ref h121.1.length)).bind fun h125 =>
  (nA h125 0 200).bind fun h127 =>
  (pF h127 y0 11 35 (.ref h125.1.length)).bind fun h129 =>
  (nA h129 0 200).bind fun h131 =>
  (pF h131 y0 11 36 (.ref h129.1.length)).bind fun h133 =>
  (nA h133 0 200).bind fun h135 =>
  (pF h135 y0 11 37 (.ref h133.1.length)).bind fun h137 =>
  (nA h137 0 200).bind fun h139 =>
  (pF h139 y0 11 38 (.ref h137.1.length)).bind fun h141 =>
  (nA h141 0 2).bind fun h143 =>
  (pF h143 y0 11 39 (.ref h141.1.length)).bind fun h145 =>
  (nA h145 0 80).bind fun h147 =>
  (pF h147 y0 11 40 (.ref h145.1.length)).bind fun h149 =>
  (nA h149 0 80).bind fun h151 =>
  (pF h151 y0 11 41 (.ref h149.1.length)).bind fun h153 =>
  (nA h153 0 80).bind fun h155 =>
  (pF h155 y0 11 42 (.ref h153.1.length)).bind fun h157 =>
  (nA h157 0 2).bind fun h159 =>
  (pF h159 y0 11 43 (.ref h157.1.length)).bind fun h161 =>
  (nA h161 0 480).bind fun h163 =>
  (pF h163 y0 11 44 (.ref h161.1.length)).bind fun h165 =>
  (nA h165 0 480).bind fun h167 =>
  (pF h167 y0 11 45 (.ref h165.1.length)).bind fun h169 =>
  (nA h169 0 2).bind fun h171 =>
  (pF h171 y0 11 46 (.ref h169.1.length)).bind fun h173 =>
  (nA h173 2 200).bind fun h175 =>
  (pF h175 y0 11 47 (.ref h173.1.length)).bind fun h177 =>
  (nA h177 0 200).bind fun h179 =>
  (pF h179 y0 11 48 (.ref h177.1.length)).bind fun h181 =>
  (nA h181 0 200).bind fun h183 =>
  (pF h183 y0 11 49 (.ref h181.1.length)).bind fun h185 =>
  (nA h185 0 200).bind fun h187 =>
  (pF h187 y0 11 50 (.ref h185.1.length)).bind fun h189 =>
  (nA h189 0 1600).bind fun h191 =>
  (pF h191 y0 11 51 (.ref h189.1.length)).bind fun h193 =>
  (nA h193 0 1600).bind fun h195 =>
  (pF h195 y0 11 52 (.ref h193.1.length)).bind fun h197 =>
  (nA h197 0 2).bind fun h199 =>
  (pF h199 y0 11 53 (.ref h197.1.length)).bind fun h201 =>
  (nA h201 0 800).bind fun h203 =>
  (pF h203 y0 11 54 (.ref h201.1.length)).bind fun h205 =>
  (nA h205 0 800).bind fun h207 =>
  (pF h207 y0 11 55 (.ref h205.1.length)).bind fun h209 =>
  (nA h209 2 800).bind fun h211 =>
  (pF h211 y0 11 56 (.ref h209.1.length)).bind fun h213 =>
  (nA h213 0 800).bind fun h215 =>
  (pF h215 y0 11 57 (.ref h213.1.length)).bind fun h217 =>
  (nA h217 0 800).bind fun h219 =>
  (pF h219 y0 11 58 (.ref h217.1.length)).bind fun h221 =>
  (nA h221 0 800).bind fun h223 =>
  (pF h223 y0 11 59 (.ref h221.1.length)).bind fun h225 =>
  (nA h225 0 800).bind fun h227 =>
  (pF h227 y0 11 60 (.ref h225.1.length)).bind fun h229 =>
  (nA h229 0 800).bind fun h231 =>
  (pF h231 y0 11 61 (.ref h229.1.length)).bind fun h233 =>
  (nA h233 0 2).bind fun h235 =>
  (pF h235 y0 11 62 (.ref h233.1.length)).bind fun h237 =>
  (nA h237 0 48).bind fun h239 =>
  (pF h239 y0 11 63 (.ref h237.1.length)).bind fun h241 =>
  (nA h241 2 8).bind fun h243 =>
  (pF h243 y0 11 66 (.ref h241.1.length)).bind fun h245 =>
  (nA h245 0 8).bind fun h247 =>
  (pF h247 y0 11 67 (.ref h245.1.length)).bind fun h249 =>
  (nA h249 0 24).bind fun h251 =>
  (pF h251 y0 11 74 (.ref h249.1.length)).bind fun h253 =>
  (nA h253 0 24).bind fun h255 =>
  (pF h255 y0 11 77 (.ref h253.1.length)).bind fun h257 =>
  (nA h257 0 24).bind fun h259 =>
  (pF h259 y0 11 78 (.ref h257.1.length)).bind fun h261 =>
  (nA h261 0 24).bind fun h263 =>
  (pF h263 y0 11 79 (.ref h261.1.length)).bind fun h265 =>
  (nA h265 0 24).bind fun h267 =>
  (pF h267 y0 11 80 (.ref h265.1.length)).bind fun h269 =>
  (nA h269 0 24).bind fun h271 =>
  (pF h271 y0 11 81 (.ref h269.1.length)).bind fun h273 =>
  (nA h273 2 400).bind fun h275 =>
  (pF h275 y0 11 82 (.ref h273.1.length)).bind fun h277 =>
  (nA h277 2 12).bind fun h279 =>
  (pF h279 y0 11 83 (.ref h277.1.length)).bind fun h281 =>
  (nA h281 0 24).bind fun h283 =>
  (pF h283 y0 11 91 (.ref h281.1.length)).bind fun h285 =>
  some ((), h285)
set_option maxRecDepth 20000 in
theorem t182 {d n : Nat} {Q : zRs → zH → Prop}  {y0 : Nat} (hd : 0 ≤ d)  {h : zH} {p : (Unit × zH)} (hF : f182 n  y0 h = some p) (q : Q (eV p.1) p.2) : zC d 182 [.ref y0] h Q := by
  refine zC_of (L := [some (.ref y0)]) rfl rfl ?_
  unfold f182 at hF
  refine zx_aload_n rfl rfl rfl ?_
  refine zw_obj rfl rfl rfl (Nat.ble_eq_true_of_le (Nat.le_trans (zcat_le _) (Nat.le_of_ble_eq_true rfl))) ?_
  refine zx_aload_n rfl rfl rfl ?_
  refine zx_sipush (v := 6000) rfl rfl rfl ?_
  replace hF := zbnd hF
  obtain ⟨h1, e2, hF⟩ := hF
  refine zy_newarr rfl rfl rfl e2 ?_
  replace hF := zbnd hF
  obtain ⟨h3, e4, hF⟩ := hF
  refine zy_put rfl rfl e4 ?_
  refine zx_aload_n rfl rfl rfl ?_
  refine zx_iconst (v := 1) rfl rfl rfl ?_
  replace hF := zbnd hF
  obtain ⟨h5, e6, hF⟩ := hF
  refine zy_put rfl rfl e6 ?_
  refine zx_aload_n rfl rfl rfl ?_
  refine zx_iconst (v := 2) rfl rfl rfl ?_
  replace hF := zbnd hF
  obtain ⟨h7, e8, hF⟩ := hF
  refine zy_newarr rfl rfl rfl e8 ?_
  replace hF := zbnd hF
  obtain ⟨h9, e10, hF⟩ := hF
  refine zy_put rfl rfl e10 ?_
  refine zx_aload_n rfl rfl rfl ?_
  refine zx_sipush (v := 3016) rfl rfl rfl ?_
  replace hF := zbnd hF
  obtain ⟨h11, e12, hF⟩ := hF
  refine zy_newarr rfl rfl rfl e12 ?_
  replace hF := zbnd hF
  obtain ⟨h13, e14, hF⟩ := hF
  refine zy_put rfl rfl e14 ?_
  refine zx_aload_n rfl rfl rfl ?_
  refine zx_ldc rfl rfl rfl ?_
  replace hF := zbnd hF
  obtain ⟨h15, e16, hF⟩ := hF
  refine zy_newarr rfl rfl rfl e16 ?_
  replace hF := zbnd hF
  obtain ⟨h17, e18, hF⟩ := hF
  refine zy_put rfl rfl e18 ?_
  refine zx_aload_n rfl rfl rfl ?_
  refine zx_iconst (v := 2) rfl rfl rfl ?_
  replace hF := zbnd hF
  obtain ⟨h19, e20, hF⟩ := hF
  refine zy_newarr rfl rfl rfl e20 ?_
  replace hF := zbnd hF
  obtain ⟨h21, e22, hF⟩ := hF
  refine zy_put rfl rfl e22 ?_
  refine zx_aload_n rfl rfl rfl ?_
  refine zx_bipush (v := 24) rfl rfl rfl ?_
  replace hF := zbnd hF
  obtain ⟨h23, e24, hF⟩ := hF
  refine zy_newarr rfl rfl rfl e24 ?_
  replace hF := zbnd hF
  obtain ⟨h25, e26, hF⟩ := hF
  refine zy_put rfl rfl e26 ?_
  refine zx_aload_n rfl rfl rfl ?_
  refine zx_bipush (v := 24) rfl rfl rfl ?_
  replace hF := zbnd hF
  obtain ⟨h27, e28, hF⟩ := hF
  refine zy_newarr rfl rfl rfl e28 ?_
  replace hF := zbnd hF
  obtain ⟨h29, e30, hF⟩ := hF
  refine zy_put rfl rfl e30 ?_
  refine zx_aload_n rfl rfl rfl ?_
  refine zx_bipush (v := 24) rfl rfl rfl ?_
  replace hF := zbnd hF
  obtain ⟨h31, e32, hF⟩ := hF
  refine zy_newarr rfl rfl rfl e32 ?_
  replace hF := zbnd hF
  obtain ⟨h33, e34, hF⟩ := hF
  refine zy_put rfl rfl e34 ?_
  refine zx_aload_n rfl rfl rfl ?_
  refine zx_bipush (v := 24) rfl rfl rfl ?_
  replace hF := zbnd hF
  obtain ⟨h35, e36, hF⟩ := hF
  refine zy_newarr rfl rfl rfl e36 ?_
  replace hF := zbnd hF
  obtain ⟨h37, e38, hF⟩ := hF
  refine zy_put rfl rfl e38 ?_
  refine zx_aload_n rfl rfl rfl ?_
  refine zx_iconst (v := 2) rfl rfl rfl ?_
  replace hF := zbnd hF
  obtain ⟨h39, e40, hF⟩ := hF
  refine zy_newarr rfl rfl rfl e40 ?_
  replace hF := zbnd hF
  obtain ⟨h41, e42, hF⟩ := hF
  refine zy_put rfl rfl e42 ?_
  refine zx_aload_n rfl rfl rfl ?_
  refine zx_bipush (v := 48) rfl rfl rfl ?_
  replace hF := zbnd hF
  obtain ⟨h43, e44, hF⟩ := hF
  refine zy_newarr rfl rfl rfl e44 ?_
  replace hF := zbnd hF
  obtain ⟨h45, e46, hF⟩ := hF
  refine zy_put rfl rfl e46 ?_
  refine zx_aload_n rfl rfl rfl ?_
  refine zx_bipush (v := 48) rfl rfl rfl ?_
  replace hF := zbnd hF
  obtain ⟨h47, e48, hF⟩ := hF
  refine zy_newarr rfl rfl rfl e48 ?_
  replace hF := zbnd hF
  obtain ⟨h49, e50, hF⟩ := hF
  refine zy_put rfl rfl e50 ?_
  refine zx_aload_n rfl rfl rfl ?_
  refine zx_bipush (v := 48) rfl rfl rfl ?_
  replace hF := zbnd hF
  obtain ⟨h51, e52, hF⟩ := hF
  refine zy_newarr rfl rfl rfl e52 ?_
  replace hF := zbnd hF
  obtain ⟨h53, e54, hF⟩ := hF
  refine zy_put rfl rfl e54 ?_
  refine zx_aload_n rfl rfl rfl ?_
  refine zx_sipush (v := 384) rfl rfl rfl ?_
  replace hF := zbnd hF
  obtain ⟨h55, e56, hF⟩ := hF
  refine zy_newarr rfl rfl rfl e56 ?_
  replace hF := zbnd hF
  obtain ⟨h57, e58, hF⟩ := hF
  refine zy_put rfl rfl e58 ?_
  refine zx_aload_n rfl rfl rfl ?_
  refine zx_bipush (v := 48) rfl rfl rfl ?_
  replace hF := zbnd hF
  obtain ⟨h59, e60, hF⟩ := hF
  refine zy_newarr rfl rfl rfl e60 ?_
  replace hF := zbnd hF
  obtain ⟨h61, e62, hF⟩ := hF
  refine zy_put rfl rfl e62 ?_
  refine zx_aload_n rfl rfl rfl ?_
  refine zx_bipush (v := 48) rfl rfl rfl ?_
  replace hF := zbnd hF
  obtain ⟨h63, e64, hF⟩ := hF
  refine zy_newarr rfl rfl rfl e64 ?_
  replace hF := zbnd hF
  obtain ⟨h65, e66, hF⟩ := hF
  refine zy_put rfl rfl e66 ?_
  refine zx_aload_n rfl rfl rfl ?_
  refine zx_bipush (v := 48) rfl rfl rfl ?_
  replace hF := zbnd hF
  obtain ⟨h67, e68, hF⟩ := hF
  refine zy_newarr rfl rfl rfl e68 ?_
  replace hF := zbnd hF
  obtain ⟨h69, e70, hF⟩ := hF
  refine zy_put rfl rfl e70 ?_
  refine zx_aload_n rfl rfl rfl ?_
  refine zx_sipush (v := 192) rfl rfl rfl ?_
  replace hF := zbnd hF
  obtain ⟨h71, e72, hF⟩ := hF
  refine zy_newarr rfl rfl rfl e72 ?_
  replace hF := zbnd hF
  obtain ⟨h73, e74, hF⟩ := hF
  refine zy_put rfl rfl e74 ?_
  refine zx_aload_n rfl rfl rfl ?_
  refine zx_sipush (v := 192) rfl rfl rfl ?_
  replace hF := zbnd hF
  obtain ⟨h75, e76, hF⟩ := hF
  refine zy_newarr rfl rfl rfl e76 ?_
  replace hF := zbnd hF
  obtain ⟨h77, e78, hF⟩ := hF
  refine zy_put rfl rfl e78 ?_
  refine zx_aload_n rfl rfl rfl ?_
  refine zx_sipush (v := 192) rfl rfl rfl ?_
  replace hF := zbnd hF
  obtain ⟨h79, e80, hF⟩ := hF
  refine zy_newarr rfl rfl rfl e80 ?_
  replace hF := zbnd hF
  obtain ⟨h81, e82, hF⟩ := hF
  refine zy_put rfl rfl e82 ?_
  refine zx_aload_n rfl rfl rfl ?_
  refine zx_sipush (v := 192) rfl rfl rfl ?_
  replace hF := zbnd hF
  obtain ⟨h83, e84, hF⟩ := hF
  refine zy_newarr rfl rfl rfl e84 ?_
  replace hF := zbnd hF
  obtain ⟨h85, e86, hF⟩ := hF
  refine zy_put rfl rfl e86 ?_
  refine zx_aload_n rfl rfl rfl ?_
  refine zx_sipush (v := 192) rfl rfl rfl ?_
  replace hF := zbnd hF
  obtain ⟨h87, e88, hF⟩ := hF
  refine zy_newarr rfl rfl rfl e88 ?_
  replace hF := zbnd hF
  obtain ⟨h89, e90, hF⟩ := hF
  refine zy_put rfl rfl e90 ?_
  refine zx_aload_n rfl rfl rfl ?_
  refine zx_sipush (v := 192) rfl rfl rfl ?_
  replace hF := zbnd hF
  obtain ⟨h91, e92, hF⟩ := hF
  refine zy_newarr rfl rfl rfl e92 ?_
  replace hF := zbnd hF
  obtain ⟨h93, e94, hF⟩ := hF
  refine zy_put rfl rfl e94 ?_
  refine zx_aload_n rfl rfl rfl ?_
  refine zx_sipush (v := 192) rfl rfl rfl ?_
  replace hF := zbnd hF
  obtain ⟨h95, e96, hF⟩ := hF
  refine zy_newarr rfl rfl rfl e96 ?_
  replace hF := zbnd hF
  obtain ⟨h97, e98, hF⟩ := hF
  refine zy_put rfl rfl e98 ?_
  refine zx_aload_n rfl rfl rfl ?_
  refine zx_sipush (v := 192) rfl rfl rfl ?_
  replace hF := zbnd hF
  obtain ⟨h99, e100, hF⟩ := hF
  refine zy_newarr rfl rfl rfl e100 ?_
  replace hF := zbnd hF
  obtain ⟨h101, e102, hF⟩ := hF
  refine zy_put rfl rfl e102 ?_
  refine zx_aload_n rfl rfl rfl ?_
  refine zx_iconst (v := 2) rfl rfl rfl ?_
  replace hF := zbnd hF
  obtain ⟨h103, e104, hF⟩ := hF
  refine zy_newarr rfl rfl rfl e104 ?_
  replace hF := zbnd hF
  obtain ⟨h105, e106, hF⟩ := hF
  refine zy_put rfl rfl e106 ?_
  refine zx_aload_n rfl rfl rfl ?_
  refine zx_bipush (v := 16) rfl rfl rfl ?_
  replace hF := zbnd hF
  obtain ⟨h107, e108, hF⟩ := hF
  refine zy_newarr rfl rfl rfl e108 ?_
  replace hF := zbnd hF
  obtain ⟨h109, e110, hF⟩ := hF
  refine zy_put rfl rfl e110 ?_
  refine zx_aload_n rfl rfl rfl ?_
  refine zx_bipush (v := 16) rfl rfl rfl ?_
  replace hF := zbnd hF
  obtain ⟨h111, e112, hF⟩ := hF
  refine zy_newarr rfl rfl rfl e112 ?_
  replace hF := zbnd hF
  obtain ⟨h113, e114, hF⟩ := hF
  refine zy_put rfl rfl e114 ?_
  refine zx_aload_n rfl rfl rfl ?_
  refine zx_iconst (v := 2) rfl rfl rfl ?_
  replace hF := zbnd hF
  obtain ⟨h115, e116, hF⟩ := hF
  refine zy_newarr rfl rfl rfl e116 ?_
  replace hF := zbnd hF
  obtain ⟨h117, e118, hF⟩ := hF
  refine zy_put rfl rfl e118 ?_
  refine zx_aload_n rfl rfl rfl ?_
  refine zx_sipush (v := 200) rfl rfl rfl ?_
  replace hF := zbnd hF
  obtain ⟨h119, e120, hF⟩ := hF
  refine zy_newarr rfl rfl rfl e120 ?_
  replace hF := zbnd hF
  obtain ⟨h121, e122, hF⟩ := hF
  refine zy_put rfl rfl e122 ?_
  refine zx_aload_n rfl rfl rfl ?_
  refine zx_sipush (v := 200) rfl rfl rfl ?_
  replace hF := zbnd hF
  obtain ⟨h123, e124, hF⟩ := hF
  refine zy_newarr rfl rfl rfl e124 ?_
  replace hF := zbnd hF
  obtain ⟨h125, e126, hF⟩ := hF
  refine zy_put rfl rfl e126 ?_
  refine zx_aload_n rfl rfl rfl ?_
  refine zx_sipush (v := 200) rfl rfl rfl ?_
  replace hF := zbnd hF
  obtain ⟨h127, e128, hF⟩ := hF
  refine zy_newarr rfl rfl rfl e128 ?_
  replace hF := zbnd hF
  obtain ⟨h129, e130, hF⟩ := hF
  refine zy_put rfl rfl e130 ?_
  refine zx_aload_n rfl rfl rfl ?_
  refine zx_sipush (v := 200) rfl rfl rfl ?_
  replace hF := zbnd hF
  obtain ⟨h131, e132, hF⟩ := hF
  refine zy_newarr rfl rfl rfl e132 ?_
  replace hF := zbnd hF
  obtain ⟨h133, e134, hF⟩ := hF
  refine zy_put rfl rfl e134 ?_
  refine zx_aload_n rfl rfl rfl ?_
  refine zx_sipush (v := 200) rfl rfl rfl ?_
  replace hF := zbnd hF
  obtain ⟨h135, e136, hF⟩ := hF
  refine zy_newarr rfl rfl rfl e136 ?_
  replace hF := zbnd hF
  obtain ⟨h137, e138, hF⟩ := hF
  refine zy_put rfl rfl e138 ?_
  refine zx_aload_n rfl rfl rfl ?_
  refine zx_sipush (v := 200) rfl rfl rfl ?_
  replace hF := zbnd hF
  obtain ⟨h139, e140, hF⟩ := hF
  refine zy_newarr rfl rfl rfl e140 ?_
  replace hF := zbnd hF
  obtain ⟨h141, e142, hF⟩ := hF
  refine zy_put rfl rfl e142 ?_
  refine zx_aload_n rfl rfl rfl ?_
  refine zx_iconst (v := 2) rfl rfl rfl ?_
  replace hF := zbnd hF
  obtain ⟨h143, e144, hF⟩ := hF
  refine zy_newarr rfl rfl rfl e144 ?_
  replace hF := zbnd hF
  obtain ⟨h145, e146, hF⟩ := hF
  refine zy_put rfl rfl e146 ?_
  refine zx_aload_n rfl rfl rfl ?_
  refine zx_bipush (v := 80) rfl rfl rfl ?_
  replace hF := zbnd hF
  obtain ⟨h147, e148, hF⟩ := hF
  refine zy_newarr rfl rfl rfl e148 ?_
  replace hF := zbnd hF
  obtain ⟨h149, e150, hF⟩ := hF
  refine zy_put rfl rfl e150 ?_
  refine zx_aload_n rfl rfl rfl ?_
  refine zx_bipush (v := 80) rfl rfl rfl ?_
  replace hF := zbnd hF
  obtain ⟨h151, e152, hF⟩ := hF
  refine zy_newarr rfl rfl rfl e152 ?_
  replace hF := zbnd hF
  obtain ⟨h153, e154, hF⟩ := hF
  refine zy_put rfl rfl e154 ?_
  refine zx_aload_n rfl rfl rfl ?_
  refine zx_bipush (v := 80) rfl rfl rfl ?_
  replace hF := zbnd hF
  obtain ⟨h155, e156, hF⟩ := hF
  refine zy_newarr rfl rfl rfl e156 ?_
  replace hF := zbnd hF
  obtain ⟨h157, e158, hF⟩ := hF
  refine zy_put rfl rfl e158 ?_
  refine zx_aload_n rfl rfl rfl ?_
  refine zx_iconst (v := 2) rfl rfl rfl ?_
  replace hF := zbnd hF
  obtain ⟨h159, e160, hF⟩ := hF
  refine zy_newarr rfl rfl rfl e160 ?_
  replace hF := zbnd hF
  obtain ⟨h161, e162, hF⟩ := hF
  refine zy_put rfl rfl e162 ?_
  refine zx_aload_n rfl rfl rfl ?_
  refine zx_sipush (v := 480) rfl rfl rfl ?_
  replace hF := zbnd hF
  obtain ⟨h163, e164, hF⟩ := hF
  refine zy_newarr rfl rfl rfl e164 ?_
  replace hF := zbnd hF
  obtain ⟨h165, e166, hF⟩ := hF
  refine zy_put rfl rfl e166 ?_
  refine zx_aload_n rfl rfl rfl ?_
  refine zx_sipush (v := 480) rfl rfl rfl ?_
  replace hF := zbnd hF
  obtain ⟨h167, e168, hF⟩ := hF
  refine zy_newarr rfl rfl rfl e168 ?_
  replace hF := zbnd hF
  obtain ⟨h169, e170, hF⟩ := hF
  refine zy_put rfl rfl e170 ?_
  refine zx_aload_n rfl rfl rfl ?_
  refine zx_iconst (v := 2) rfl rfl rfl ?_
  replace hF := zbnd hF
  obtain ⟨h171, e172, hF⟩ := hF
  refine zy_newarr rfl rfl rfl e172 ?_
  replace hF := zbnd hF
  obtain ⟨h173, e174, hF⟩ := hF
  refine zy_put rfl rfl e174 ?_
  refine zx_aload_n rfl rfl rfl ?_
  refine zx_sipush (v := 200) rfl rfl rfl ?_
  replace hF := zbnd hF
  obtain ⟨h175, e176, hF⟩ := hF
  refine zy_newarr rfl rfl rfl e176 ?_
  replace hF := zbnd hF
  obtain ⟨h177, e178, hF⟩ := hF
  refine zy_put rfl rfl e178 ?_
  refine zx_aload_n rfl rfl rfl ?_
  refine zx_sipush (v := 200) rfl rfl rfl ?_
  replace hF := zbnd hF
  obtain ⟨h179, e180, hF⟩ := hF
  refine zy_newarr rfl rfl rfl e180 ?_
  replace hF := zbnd hF
  obtain ⟨h181, e182, hF⟩ := hF
  refine zy_put rfl rfl e182 ?_
  refine zx_aload_n rfl rfl rfl ?_
  refine zx_sipush (v := 200) rfl rfl rfl ?_
  replace hF := zbnd hF
  obtain ⟨h183, e184, hF⟩ := hF
  refine zy_newarr rfl rfl rfl e184 ?_
  replace hF := zbnd hF
  obtain ⟨h185, e186, hF⟩ := hF
  refine zy_put rfl rfl e186 ?_
  refine zx_aload_n rfl rfl rfl ?_
  refine zx_sipush (v := 200) rfl rfl rfl ?_
  replace hF := zbnd hF
  obtain ⟨h187, e188, hF⟩ := hF
  refine zy_newarr rfl rfl rfl e188 ?_
  replace hF := zbnd hF
  obtain ⟨h189, e190, hF⟩ := hF
  refine zy_put rfl rfl e190 ?_
  refine zx_aload_n rfl rfl rfl ?_
  refine zx_sipush (v := 1600) rfl rfl rfl ?_
  replace hF := zbnd hF
  obtain ⟨h191, e192, hF⟩ := hF
  refine zy_newarr rfl rfl rfl e192 ?_
  replace hF := zbnd hF
  obtain ⟨h193, e194, hF⟩ := hF
  refine zy_put rfl rfl e194 ?_
  refine zx_aload_n rfl rfl rfl ?_
  refine zx_sipush (v := 1600) rfl rfl rfl ?_
  replace hF := zbnd hF
  obtain ⟨h195, e196, hF⟩ := hF
  refine zy_newarr rfl rfl rfl e196 ?_
  replace hF := zbnd hF
  obtain ⟨h197, e198, hF⟩ := hF
  refine zy_put rfl rfl e198 ?_
  refine zx_aload_n rfl rfl rfl ?_
  refine zx_iconst (v := 2) rfl rfl rfl ?_
  replace hF := zbnd hF
  obtain ⟨h199, e200, hF⟩ := hF
  refine zy_newarr rfl rfl rfl e200 ?_
  replace hF := zbnd hF
  obtain ⟨h201, e202, hF⟩ := hF
  refine zy_put rfl rfl e202 ?_
  refine zx_aload_n rfl rfl rfl ?_
  refine zx_sipush (v := 800) rfl rfl rfl ?_
  replace hF := zbnd hF
  obtain ⟨h203, e204, hF⟩ := hF
  refine zy_newarr rfl rfl rfl e204 ?_
  replace hF := zbnd hF
  obtain ⟨h205, e206, hF⟩ := hF
  refine zy_put rfl rfl e206 ?_
  refine zx_aload_n rfl rfl rfl ?_
  refine zx_sipush (v := 800) rfl rfl rfl ?_
  replace hF := zbnd hF
  obtain ⟨h207, e208, hF⟩ := hF
  refine zy_newarr rfl rfl rfl e208 ?_
  replace hF := zbnd hF
  obtain ⟨h209, e210, hF⟩ := hF
  refine zy_put rfl rfl e210 ?_
  refine zx_aload_n rfl rfl rfl ?_
  refine zx_sipush (v := 800) rfl rfl rfl ?_
  replace hF := zbnd hF
  obtain ⟨h211, e212, hF⟩ := hF
  refine zy_newarr rfl rfl rfl e212 ?_
  replace hF := zbnd hF
  obtain ⟨h213, e214, hF⟩ := hF
  refine zy_put rfl rfl e214 ?_
  refine zx_aload_n rfl rfl rfl ?_
  refine zx_sipush (v := 800) rfl rfl rfl ?_
  replace hF := zbnd hF
  obtain ⟨h215, e216, hF⟩ := hF
  refine zy_newarr rfl rfl rfl e216 ?_
  replace hF := zbnd hF
  obtain ⟨h217, e218, hF⟩ := hF
  refine zy_put rfl rfl e218 ?_
  refine zx_aload_n rfl rfl rfl ?_
  refine zx_sipush (v := 800) rfl rfl rfl ?_
  replace hF := zbnd hF
  obtain ⟨h219, e220, hF⟩ := hF
  refine zy_newarr rfl rfl rfl e220 ?_
  replace hF := zbnd hF
  obtain ⟨h221, e222, hF⟩ := hF
  refine zy_put rfl rfl e222 ?_
  refine zx_aload_n rfl rfl rfl ?_
  refine zx_sipush (v := 800) rfl rfl rfl ?_
  replace hF := zbnd hF
  obtain ⟨h223, e224, hF⟩ := hF
  refine zy_newarr rfl rfl rfl e224 ?_
  replace hF := zbnd hF
  obtain ⟨h225, e226, hF⟩ := hF
  refine zy_put rfl rfl e226 ?_
  refine zx_aload_n rfl rfl rfl ?_
  refine zx_sipush (v := 800) rfl rfl rfl ?_
  replace hF := zbnd hF
  obtain ⟨h227, e228, hF⟩ := hF
  refine zy_newarr rfl rfl rfl e228 ?_
  replace hF := zbnd hF
  obtain ⟨h229, e230, hF⟩ := hF
  refine zy_put rfl rfl e230 ?_
  refine zx_aload_n rfl rfl rfl ?_
  refine zx_sipush (v := 800) rfl rfl rfl ?_
  replace hF := zbnd hF
  obtain ⟨h231, e232, hF⟩ := hF
  refine zy_newarr rfl rfl rfl e232 ?_
  replace hF := zbnd hF
  obtain ⟨h233, e234, hF⟩ := hF
  refine zy_put rfl rfl e234 ?_
  refine zx_aload_n rfl rfl rfl ?_
  refine zx_iconst (v := 2) rfl rfl rfl ?_
  replace hF := zbnd hF
  obtain ⟨h235, e236, hF⟩ := hF
  refine zy_newarr rfl rfl rfl e236 ?_
  replace hF := zbnd hF
  obtain ⟨h237, e238, hF⟩ := hF
  refine zy_put rfl rfl e238 ?_
  refine zx_aload_n rfl rfl rfl ?_
  refine zx_bipush (v := 48) rfl rfl rfl ?_
  replace hF := zbnd hF
  obtain ⟨h239, e240, hF⟩ := hF
  refine zy_newarr rfl rfl rfl e240 ?_
  replace hF := zbnd hF
  obtain ⟨h241, e242, hF⟩ := hF
  refine zy_put rfl rfl e242 ?_
  refine zx_aload_n rfl rfl rfl ?_
  refine zx_bipush (v := 8) rfl rfl rfl ?_
  replace hF := zbnd hF
  obtain ⟨h243, e244, hF⟩ := hF
  refine zy_newarr rfl rfl rfl e244 ?_
  replace hF := zbnd hF
  obtain ⟨h245, e246, hF⟩ := hF
  refine zy_put rfl rfl e246 ?_
  refine zx_aload_n rfl rfl rfl ?_
  refine zx_bipush (v := 8) rfl rfl rfl ?_
  replace hF := zbnd hF
  obtain ⟨h247, e248, hF⟩ := hF
  refine zy_newarr rfl rfl rfl e248 ?_
  replace hF := zbnd hF
  obtain ⟨h249, e250, hF⟩ := hF
  refine zy_put rfl rfl e250 ?_
  refine zx_aload_n rfl rfl rfl ?_
  refine zx_bipush (v := 24) rfl rfl rfl ?_
  replace hF := zbnd hF
  obtain ⟨h251, e252, hF⟩ := hF
  refine zy_newarr rfl rfl rfl e252 ?_
  replace hF := zbnd hF
  obtain ⟨h253, e254, hF⟩ := hF
  refine zy_put rfl rfl e254 ?_
  refine zx_aload_n rfl rfl rfl ?_
  refine zx_bipush (v := 24) rfl rfl rfl ?_
  replace hF := zbnd hF
  obtain ⟨h255, e256, hF⟩ := hF
  refine zy_newarr rfl rfl rfl e256 ?_
  replace hF := zbnd hF
  obtain ⟨h257, e258, hF⟩ := hF
  refine zy_put rfl rfl e258 ?_
  refine zx_aload_n rfl rfl rfl ?_
  refine zx_bipush (v := 24) rfl rfl rfl ?_
  replace hF := zbnd hF
  obtain ⟨h259, e260, hF⟩ := hF
  refine zy_newarr rfl rfl rfl e260 ?_
  replace hF := zbnd hF
  obtain ⟨h261, e262, hF⟩ := hF
  refine zy_put rfl rfl e262 ?_
  refine zx_aload_n rfl rfl rfl ?_
  refine zx_bipush (v := 24) rfl rfl rfl ?_
  replace hF := zbnd hF
  obtain ⟨h263, e264, hF⟩ := hF
  refine zy_newarr rfl rfl rfl e264 ?_
  replace hF := zbnd hF
  obtain ⟨h265, e266, hF⟩ := hF
  refine zy_put rfl rfl e266 ?_
  refine zx_aload_n rfl rfl rfl ?_
  refine zx_bipush (v := 24) rfl rfl rfl ?_
  replace hF := zbnd hF
  obtain ⟨h267, e268, hF⟩ := hF
  refine zy_newarr rfl rfl rfl e268 ?_
  replace hF := zbnd hF
  obtain ⟨h269, e270, hF⟩ := hF
  refine zy_put rfl rfl e270 ?_
  refine zx_aload_n rfl rfl rfl ?_
  refine zx_bipush (v := 24) rfl rfl rfl ?_
  replace hF := zbnd hF
  obtain ⟨h271, e272, hF⟩ := hF
  refine zy_newarr rfl rfl rfl e272 ?_
  replace hF := zbnd hF
  obtain ⟨h273, e274, hF⟩ := hF
  refine zy_put rfl rfl e274 ?_
  refine zx_aload_n rfl rfl rfl ?_
  refine zx_sipush (v := 400) rfl rfl rfl ?_
  replace hF := zbnd hF
  obtain ⟨h275, e276, hF⟩ := hF
  refine zy_newarr rfl rfl rfl e276 ?_
  replace hF := zbnd hF
  obtain ⟨h277, e278, hF⟩ := hF
  refine zy_put rfl rfl e278 ?_
  refine zx_aload_n rfl rfl rfl ?_
  refine zx_bipush (v := 12) rfl rfl rfl ?_
  replace hF := zbnd hF
  obtain ⟨h279, e280, hF⟩ := hF
  refine zy_newarr rfl rfl rfl e280 ?_
  replace hF := zbnd hF
  obtain ⟨h281, e282, hF⟩ := hF
  refine zy_put rfl rfl e282 ?_
  refine zx_aload_n rfl rfl rfl ?_
  refine zx_bipush (v := 24) rfl rfl rfl ?_
  replace hF := zbnd hF
  obtain ⟨h283, e284, hF⟩ := hF
  refine zy_newarr rfl rfl rfl e284 ?_
  replace hF := zbnd hF
  obtain ⟨h285, e286, hF⟩ := hF
  refine zy_put rfl rfl e286 ?_
  replace hF := Option.some.inj hF
  subst hF
  exact zx_return rfl rfl rfl q
end ZDEC

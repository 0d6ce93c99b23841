/-! THE CALLS OF THE CLASS: flag, name, find, isIn, value, forget, fault, end, feed -/
section ZMB
section
variable {n : Nat} {Y Y0 Y1 Y2 : zY} {a b jd k pl rc sq x tp ou w : Nat} {S : List Nat} {K : KL} {vI vW vY vs : List Value} {A : Nat → Nat} {ans : Int32} {bs : List Bool} {l : Nat → Nat} {xs : Nat → List Nat} {bd : Nat → Nat} {L : Ldd} {s : St} {T : List Int32} {y c y1 y2 y3 : Int32} {o : yO} {P : Pln}
/-- how many rules a range has -/
theorem RNG_cnt {rules : List Rul} {p : Rul → Bool} {fr er : Nat} (h : RNG rules (fun r => p r = true) fr er) : (rules.filter p).length = er - fr := by
  obtain ⟨h1, h2, h3⟩ := h
  have e : rules = rules.take fr ++ ((rules.drop fr).take (er - fr) ++ rules.drop er) := by
    have e1 : rules.drop er = (rules.drop fr).drop (er - fr) := by rw [List.drop_drop]; congr 1; omega
    rw [e1, List.take_append_drop, List.take_append_drop]
  have f1 : (rules.take fr).filter p = [] := by
    rw [List.filter_eq_nil_iff]
    intro r hr hp
    obtain ⟨j, hj⟩ := List.mem_iff_getElem?.mp hr
    have hlt : j < fr := by have := lt_of_get hj; rw [List.length_take] at this; omega
    rw [List.getElem?_take_of_lt hlt] at hj
    have := (h3 j r hj).mp hp
    omega
  have f2 : ((rules.drop fr).take (er - fr)).filter p = (rules.drop fr).take (er - fr) := by
    rw [List.filter_eq_self]
    intro r hr
    obtain ⟨j, hj⟩ := List.mem_iff_getElem?.mp hr
    have hlt : j < er - fr := by have := lt_of_get hj; rw [List.length_take] at this; omega
    rw [List.getElem?_take_of_lt hlt, List.getElem?_drop] at hj
    exact (h3 (fr + j) r hj).mpr ⟨by omega, by omega⟩
  have f3 : (rules.drop er).filter p = [] := by
    rw [List.filter_eq_nil_iff]
    intro r hr hp
    obtain ⟨j, hj⟩ := List.mem_iff_getElem?.mp hr
    rw [List.getElem?_drop] at hj
    have := (h3 (er + j) r hj).mp hp
    omega
  rw [e, List.filter_append, List.filter_append, f1, f2, f3, List.nil_append, List.append_nil, List.length_take, List.length_drop]
  omega
theorem RNG_rlC {fr er i : Nat} (h : RNG P.2.2.2.1 (fun r => r.1 = i ∧ r.2.1 = -1) fr er) : rlC P i = er - fr := by
  unfold rlC
  refine RNG_cnt ⟨h.1, h.2.1, fun j r hj => ?_⟩
  refine Iff.trans ?_ (h.2.2 j r hj)
  show (r.1 == i && r.2.1 == -1) = true ↔ (r.1 = i ∧ r.2.1 = -1)
  rw [Bool.and_eq_true]
  constructor
  · intro ⟨p, q⟩; exact ⟨by simpa using p, by simpa using q⟩
  · intro ⟨p, q⟩; exact ⟨by simpa using p, by simpa using q⟩
/-- flag -/
theorem flg_c (h : CSt Y x s) : CIn Y x ou 22 (c144 n x y c Y) (sFlag y c s) 20 := by
  obtain ⟨hB, h1, h2, h3, tp, jd, pl, hx, hT, hC⟩ := id h
  obtain ⟨l, rc, sq, bd, xs, hL, l3, l4, l5, l6, l7⟩ := CJd_l hC
  have hP := hL.1.1.1
  have hpl := hP.1.1
  have h24 : s.2.1.1.2.1.length ≤ 24 := h2.2.2.1.2.1
  have hx4 := hP.2.1.1 4 (by omega)
  unfold sFlag
  cases hb : inB y s.2.1.1.2.1.length with
  | false =>
    rw [if_neg (by intro q; cases q.1)]
    refine CIn_x h (by decide) (by omega) ?_
    unfold c144
    refine bnd_eq (yR_of (r := some pl) hx rfl) (bnd_eq rfl (bnd_eq (yR_of (r := some (l 4)) hpl rfl) (bnd_eq rfl (zgd_eq (lsx_o hx4) (bnd_eq (lsx_n hx4) ?_)))))
    rw [l4]
    refine bnd_eq (bel_B (by omega)) ?_
    rw [hb]
    rfl
  | true =>
    obtain ⟨i, hi, rfl⟩ := inB_lt (by omega) hb
    have hi2 : (nI i).toInt.toNat = i := by rw [nI_toInt (by omega)]; omega
    obtain ⟨g, hg⟩ : ∃ g, s.2.1.1.2.1[i]? = some g := ⟨_, List.getElem?_eq_getElem hi⟩
    have hlN : s.2.1.2.1.length = s.2.1.1.2.1.length := h2.2.2.2.1
    obtain ⟨ns, hns⟩ : ∃ ns, s.2.1.2.1[i]? = some ns := ⟨_, List.getElem?_eq_getElem (by omega)⟩
    obtain ⟨fl, A', kd, st, fr, er, X, v4, v5, k1, k2, k3, k4, k5⟩ := STL_g hL.1 hg hns
    have hgo : ∀ {R}, (if c = 0 then
        (some fl).bind fun a24 =>
        zgd (yisO Y a24 0) <|
        (c145 n a24 Y).bind fun p28 =>
        some ((.inl p28.1 : Int32 ⊕ Nat), p28.2)
      else
      if c = 1 then
        (some fl).bind fun a30 =>
        (yR Y a30 0 1).bind fun x32 =>
        x32.bind fun a34 =>
        zgd (yisO Y a34 14) <|
        (c68 n a34 Y).bind fun p37 =>
        some (.inl p37.1, p37.2)
      else
      if c = 2 then
        (some fl).bind fun a39 =>
        (yR Y a39 0 2).bind fun x41 =>
        x41.bind fun a43 =>
        zgd (yisO Y a43 14) <|
        (c68 n a43 Y).bind fun p46 =>
        some (.inl p46.1, p46.2)
      else
      if c = 3 then
        (some fl).bind fun a48 =>
        (yI Y a48 0 9).bind fun x50 =>
        (yI Y a48 0 8).bind fun x52 =>
        some (.inl (x50 - x52), Y)
      else
      if c = 4 then
        (some fl).bind fun a55 =>
        (yI Y a55 0 7).bind fun x57 =>
        some (.inl x57, Y)
      else
      some (.inr 20, thY Y)) = R → c144 n x (nI i) c Y = R := by
      intro R hR
      unfold c144
      refine bnd_eq (yR_of (r := some pl) hx rfl) (bnd_eq rfl (bnd_eq (yR_of (r := some (l 4)) hpl rfl) (bnd_eq rfl (zgd_eq (lsx_o hx4) (bnd_eq (lsx_n hx4) ?_)))))
      rw [l4]
      refine bnd_eq (bel hi (by omega)) ?_
      dsimp only
      rw [if_neg (by decide)]
      exact bnd_eq (yR_of (r := some pl) hx rfl) (bnd_eq rfl (bnd_eq (yR_of (r := some (l 4)) hpl rfl) (bnd_eq rfl (zgd_eq (lsx_o hx4) (bnd_eq (lsx_g hx4 k1 (by omega)) (zgd_eq (yk2 k2.1 rfl) hR))))))
    cases hc : inB c 5 with
    | false =>
      rw [if_neg (by intro q; cases q.2)]
      refine CIn_x h (by decide) (by omega) (hgo ?_)
      have hne : ∀ k, k < 5 → c ≠ nI k := inB_m (by omega) hc
      rw [if_neg (show ¬ c = 0 from hne 0 (by omega)), if_neg (show ¬ c = 1 from hne 1 (by omega)), if_neg (show ¬ c = 2 from hne 2 (by omega)), if_neg (show ¬ c = 3 from hne 3 (by omega)), if_neg (show ¬ c = 4 from hne 4 (by omega))]
    | true =>
      obtain ⟨k, hk, rfl⟩ := inB_lt (by omega) hc
      have hk2 : (nI k).toInt.toNat = k := by rw [nI_toInt (by omega)]; omega
      rw [if_pos ⟨rfl, rfl⟩, hi2, hk2]
      refine CIn_s h (hgo ?_)
      have hgd : s.2.1.1.2.1.getD i fl00 = g := gtD hg
      have hfl : flgA s.2.1.1 i k = if k = 0 then nI g.2.1.1 else if k = 1 then nI g.2.1.2.length else if k = 2 then nI g.2.2.1.length else if k = 3 then nI (rlC s.2.1.1 i) else g.2.2.2.2 := by
        unfold flgA
        rw [hgd]
      have h5 : k = 0 ∨ k = 1 ∨ k = 2 ∨ k = 3 ∨ k = 4 := by omega
      rcases h5 with rfl | rfl | rfl | rfl | rfl
      · rw [if_pos (by decide), show flgA s.2.1.1 i 0 = nI g.2.1.1 from hfl]
        refine bnd_eq rfl (zgd_eq (yisO_of k2.1) (bnd_eq (x := (nI g.2.1.1, Y)) ?_ rfl))
        unfold c145
        have hkd := k3.1
        have hk2' := k3.2.1
        refine bnd_eq (yR_of (r := some kd) k2.1 rfl) (bnd_eq (rEq_s (by rw [hkd]; unfold kdA; split <;> (try split) <;> omega) (by omega)) ?_)
        rw [hkd]
        have : g.2.1.1 = 0 ∨ g.2.1.1 = 1 ∨ g.2.1.1 = 2 := by omega
        rcases this with e | e | e
        · rw [e, if_pos (by decide)]; rfl
        · rw [e, if_neg (by decide)]
          refine bnd_eq (yR_of (r := some kd) k2.1 rfl) (bnd_eq (rEq_s (by rw [hkd]; unfold kdA; split <;> (try split) <;> omega) (by omega)) ?_)
          rw [hkd, e, if_pos (by decide)]; rfl
        · rw [e, if_neg (by decide)]
          refine bnd_eq (yR_of (r := some kd) k2.1 rfl) (bnd_eq (rEq_s (by rw [hkd]; unfold kdA; split <;> (try split) <;> omega) (by omega)) ?_)
          rw [hkd, e, if_neg (by decide)]; rfl
      · rw [if_neg (by decide), if_pos (by decide), show flgA s.2.1.1 i 1 = nI g.2.1.2.length from hfl]
        have := k2.2.2.1 1 (by omega) (by omega)
        refine bnd_eq rfl (bnd_eq (yR_of (r := some (A' 1)) k2.1 rfl) (bnd_eq rfl (zgd_eq (lsx_o this) (bnd_eq (lsx_n this) ?_))))
        rw [AL_len k3.2.2.1]
      · rw [if_neg (by decide), if_neg (by decide), if_pos (by decide), show flgA s.2.1.1 i 2 = nI g.2.2.1.length from hfl]
        have := k2.2.2.1 2 (by omega) (by omega)
        refine bnd_eq rfl (bnd_eq (yR_of (r := some (A' 2)) k2.1 rfl) (bnd_eq rfl (zgd_eq (lsx_o this) (bnd_eq (lsx_n this) ?_))))
        rw [AL_len k3.2.2.2.2.1, List.length_map]
      · rw [if_neg (by decide), if_neg (by decide), if_neg (by decide), if_pos (by decide), show flgA s.2.1.1 i 3 = nI (rlC s.2.1.1 i) from hfl]
        refine bnd_eq rfl (bnd_eq (yI_of k2.1 rfl) (bnd_eq (yI_of k2.1 rfl) ?_))
        rw [nI_sub_le k4.1, RNG_rlC k4]
      · rw [if_neg (by decide), if_neg (by decide), if_neg (by decide), if_neg (by decide), if_pos (by decide), show flgA s.2.1.1 i 4 = g.2.2.2.2 from hfl]
        exact bnd_eq rfl (bnd_eq (yI_of k2.1 rfl) rfl)
/-- which names -/
theorem nms_c (hL : LDP Y pl l rc sq bd xs s.2.1) (hk : k ≤ 2) : c139 n pl (nI k) Y = some (some (l k), Y) ∧ LSX Y (l k) (xs k) ∧ AL (RNm Y) (xs k) (nmK s.2.1.1 k) ∧ (nmK s.2.1.1 k).length ≤ 24 := by
  have hP := hL.1.1.1
  have hpl := hP.1.1
  obtain ⟨b1, _, _, _, _, b6, b7⟩ := hP.2.2.2
  have : k = 0 ∨ k = 1 ∨ k = 2 := by omega
  unfold c139 nmK
  rcases this with rfl | rfl | rfl
  · refine ⟨?_, hP.2.1.1 0 (by omega), hP.2.2.1.1, ?_⟩
    · rw [if_pos (by decide)]; exact bnd_eq (yR_of (r := some (l 0)) hpl rfl) rfl
    · rw [if_pos rfl, List.length_map]; omega
  · refine ⟨?_, hP.2.1.1 1 (by omega), hP.2.2.1.2.2.2.2.1, ?_⟩
    · rw [if_neg (by decide), if_pos (by decide)]; exact bnd_eq (yR_of (r := some (l 1)) hpl rfl) rfl
    · rw [if_neg (by decide), if_pos rfl]; omega
  · refine ⟨?_, hP.2.1.1 2 (by omega), hP.2.2.1.2.2.2.2.2, ?_⟩
    · rw [if_neg (by decide), if_neg (by decide)]; exact bnd_eq (yR_of (r := some (l 2)) hpl rfl) rfl
    · rw [if_neg (by decide), if_neg (by decide)]; omega
theorem kind_c : c138 n y Y = some (b2 (inB y 3), Y) := by
  unfold c138
  by_cases h0 : y < 0
  · rw [if_pos h0]
    have : inB y 3 = false := decide_eq_false (fun q => absurd q.1 (Int32.not_le.mpr h0))
    rw [this]; rfl
  · rw [if_neg h0]
    have h2 : (2 : Int32) < y ↔ ¬ y < nI 3 := by
      rw [Int32.not_lt, Int32.lt_iff_toInt_lt, Int32.le_iff_toInt_le]
      show (2 : Int) < y.toInt ↔ (3 : Int) ≤ y.toInt
      omega
    by_cases h1 : (2 : Int32) < y
    · rw [if_pos h1]
      have : inB y 3 = false := decide_eq_false (fun q => (h2.mp h1) q.2)
      rw [this]; rfl
    · rw [if_neg h1]
      have : inB y 3 = true := decide_eq_true ⟨Int32.not_lt.mp h0, Classical.byContradiction (fun q => h1 (h2.mpr q))⟩
      rw [this]; rfl
/-- name -/
theorem nam_c (h : CSt Y x s) : CIn Y x ou 22 (c142 n x y1 y2 y3 Y) (sName y1 y2 y3 s) 20 := by
  obtain ⟨hB, h1, h2, h3, tp, jd, pl, hx, hT, hC⟩ := id h
  obtain ⟨l, rc, sq, bd, xs, hL, l3, l4, l5, l6, l7⟩ := CJd_l hC
  have hpl := hL.1.1.1.1.1
  unfold sName
  cases hb : inB y1 3 with
  | false =>
    rw [if_neg (by decide)]
    refine CIn_x h (by decide) (by omega) ?_
    unfold c142
    refine bnd_eq kind_c ?_
    rw [hb]
    rfl
  | true =>
    obtain ⟨k, hk, rfl⟩ := inB_lt (by omega) hb
    have hk2 : (nI k).toInt.toNat = k := by rw [nI_toInt (by omega)]; omega
    rw [if_pos rfl, hk2]
    obtain ⟨n1, n2, n3, n4⟩ := nms_c (n := n) hL (show k ≤ 2 by omega)
    have hlen := AL_len n3
    have hpre : ∀ {R}, (if b2 (inB y2 (nmK s.2.1.1 k).length) = 0 then some ((.inr 20 : Int32 ⊕ Nat), thY Y) else
      (c74 n (l k) y2 Y).bind fun p28 =>
      zgd (ykC p28.2 p28.1 9 0) <|
      p28.1.bind fun a30 =>
      (yR p28.2 a30 9 3).bind fun x32 =>
      if y3 = (-1) then
        x32.bind fun a35 =>
        zgd (yisO p28.2 a35 12) <|
        (c55 n a35 p28.2).bind fun p38 =>
        some (.inl p38.1, p38.2)
      else
        x32.bind fun a39 =>
        zgd (yisO p28.2 a39 12) <|
        (c55 n a39 p28.2).bind fun p42 =>
        (c13 n y3 p42.1 p42.2).bind fun p44 =>
        if p44.1 = 0 then
          some (.inr 20, thY p44.2)
        else
          zgd (yisO p44.2 a39 12) <|
          (c59 n a39 y3 p44.2).bind fun p48 =>
          some (.inl p48.1, p48.2)) = R → c142 n x (nI k) y2 y3 Y = R := by
      intro R hR
      unfold c142
      refine bnd_eq kind_c ?_
      dsimp only
      rw [hb, if_neg (by decide)]
      refine bnd_eq (yR_of (r := some pl) hx rfl) (bnd_eq rfl (zgd_eq (yisO_of hpl) (bnd_eq n1 (bnd_eq rfl (zgd_eq (lsx_o n2) (bnd_eq (lsx_n n2) ?_))))))
      rw [hlen]
      refine bnd_eq (bel_B (by omega)) ?_
      dsimp only
      cases hq : inB y2 (nmK s.2.1.1 k).length with
      | false => rw [hq] at hR; rw [if_pos b2_f] at hR ⊢; exact hR
      | true =>
        rw [hq] at hR
        rw [if_neg (by decide)] at hR ⊢
        exact bnd_eq (yR_of (r := some pl) hx rfl) (bnd_eq rfl (zgd_eq (yisO_of hpl) (bnd_eq n1 (bnd_eq rfl (zgd_eq (lsx_o n2) hR)))))
    cases hq : inB y2 (nmK s.2.1.1 k).length with
    | false =>
      rw [if_neg (by decide)]
      refine CIn_x h (by decide) (by omega) (hpre ?_)
      rw [hq, if_pos b2_f]
    | true =>
      obtain ⟨i, hi, rfl⟩ := inB_lt (by omega) hq
      have hi2 : (nI i).toInt.toNat = i := by rw [nI_toInt (by omega)]; omega
      rw [if_pos rfl, hi2]
      obtain ⟨q, hq2, tw, hw, htw⟩ := AL_get n3 (getD_get (d := []) hi)
      obtain ⟨st, j1, j2, j3, j4, j5, j6, j7, j8⟩ := tk_txt hw
      have hl16 := j7.2.1
      rw [htw] at j2 hl16
      unfold nmW
      by_cases c1 : y3 = -1
      · rw [if_pos c1]
        refine CIn_s h (hpre ?_)
        rw [hq, if_neg (by decide)]
        refine bnd_eq (lsx_g n2 hq2 (by omega)) (zgd_eq j6 (bnd_eq rfl (bnd_eq j1 ?_)))
        rw [if_pos c1]
        exact bnd_eq rfl (zgd_eq (isO_s j2) (bnd_eq (c55_of j2) rfl))
      · rw [if_neg c1]
        cases hz : inB y3 ((nmK s.2.1.1 k).getD i []).length with
        | false =>
          rw [if_neg (by decide)]
          refine CIn_x h (by decide) (by omega) (hpre ?_)
          rw [hq, if_neg (by decide)]
          refine bnd_eq (lsx_g n2 hq2 (by omega)) (zgd_eq j6 (bnd_eq rfl (bnd_eq j1 ?_)))
          rw [if_neg c1]
          refine bnd_eq rfl (zgd_eq (isO_s j2) (bnd_eq (c55_of j2) (bnd_eq (bel_B (by omega)) ?_)))
          rw [hz]
          rfl
        | true =>
          obtain ⟨m, hm, rfl⟩ := inB_lt (by omega) hz
          have hm2 : (nI m).toInt.toNat = m := by rw [nI_toInt (by omega)]; omega
          rw [if_pos rfl, hm2]
          refine CIn_s h (hpre ?_)
          rw [hq, if_neg (by decide)]
          refine bnd_eq (lsx_g n2 hq2 (by omega)) (zgd_eq j6 (bnd_eq rfl (bnd_eq j1 ?_)))
          rw [if_neg c1]
          refine bnd_eq rfl (zgd_eq (isO_s j2) (bnd_eq (c55_of j2) (bnd_eq (bel hm (by omega)) ?_)))
          dsimp only
          rw [if_neg (by decide)]
          exact zgd_eq (isO_s j2) (bnd_eq (c59_of j2 (by omega) (getD_get hm)) rfl)
/-- isIn -/
theorem isn_c (h : CSt Y x s) (hn : 6002 ≤ n) (hN : Y.2.1 + 2 ≤ n) : CIn Y x ou 22 (c174 n x y Y) (sIsIn y s) 20 := by
  obtain ⟨hB, h1, h2, h3, tp, jd, pl, hx, hT, hC⟩ := id h
  obtain ⟨A, vI, vW, vY, ans, l, rc, sq, bd, xs, bs, W, hJ, hb12, hI, hW, hw⟩ := id hC
  have hL := hJ.2.2.1
  have hP := hL.1.1.1
  have hpl := hP.1.1
  have h12 : s.2.1.1.1.length ≤ 12 := h2.2.2.1.1
  have hx3 := hP.2.1.1 3 (by omega)
  have l3 : (xs 3).length = s.2.1.1.1.length := by rw [AL_len hP.2.2.1.2.1, List.length_map]
  unfold sIsIn
  cases hb : inB y s.2.1.1.1.length with
  | false =>
    rw [if_neg (by decide)]
    refine CIn_x h (by decide) (by omega) ?_
    unfold c174
    refine bnd_eq (yR_of (r := some pl) hx rfl) (bnd_eq rfl (bnd_eq (yR_of (r := some (l 3)) hpl rfl) (bnd_eq rfl (zgd_eq (lsx_o hx3) (bnd_eq (lsx_n hx3) ?_)))))
    rw [l3]
    refine bnd_eq (bel_B (by omega)) ?_
    rw [hb]
    rfl
  | true =>
    obtain ⟨k, hk, rfl⟩ := inB_lt (by omega) hb
    have hk2 : (nI k).toInt.toNat = k := by rw [nI_toInt (by omega)]; omega
    rw [if_pos rfl, hk2]
    obtain ⟨Y1, vI1, bs1, e1, e2, e3, e4⟩ := sgs_ok (n := n) h2.2.1 hn hN hJ hb12 hI
    have hx1 := JF_o hJ.2.1 e3 hx (by decide)
    have hin := ins_ok (n := n) (i := k) e2.2.1 e4.2.1 (by omega)
    rw [e4.2.2 k hk] at hin
    refine ⟨Y1, ⟨e3.1, h1, h2, h3, tp, jd, pl, hx1, JF_t hJ.2.1 e3 hT, A, vI1, vW, vY, ans, l, rc, sq, bd, xs, bs1, W, e2, e4.1, e4.2.1, hW, hw⟩, fun v hv => ⟨JF_4 hJ.2.1 e3 hv.1, hv.2⟩, ?_, ?_, ?_⟩
    · unfold wY; rw [e3.2.2]; omega
    · rw [e3.2.2]; exact Nat.le_refl _
    · rw [if_pos rfl]
      unfold c174
      refine bnd_eq (yR_of (r := some pl) hx rfl) (bnd_eq rfl (bnd_eq (yR_of (r := some (l 3)) hpl rfl) (bnd_eq rfl (zgd_eq (lsx_o hx3) (bnd_eq (lsx_n hx3) ?_)))))
      rw [l3]
      refine bnd_eq (bel hk (by omega)) ?_
      dsimp only
      rw [if_neg (by decide)]
      refine bnd_eq (yR_of (r := some jd) hx rfl) (bnd_eq (yR_of (r := some pl) hx rfl) (bnd_eq rfl (zgd_eq (jd_o hJ.2.1) (bnd_eq e1 (bnd_eq (yR_of (r := some jd) hx1 rfl) (bnd_eq rfl (zgd_eq (jd_o e2.2.1) (bnd_eq hin ?_))))))))
      dsimp only
      cases (ins s.2.2.1 s.2.1.1).getD k false with
      | true => rw [if_neg (by decide)]; rfl
      | false => rw [if_pos b2_f]; rfl
/-- value -/
theorem val_cc (h : CSt Y x s) (hn : 6002 ≤ n) (hN : Y.2.1 + 2 ≤ n) : CIn Y x ou 22 (c147 n x y c Y) (sValue y c s) 20 := by
  obtain ⟨hB, h1, h2, h3, tp, jd, pl, hx, hT, hC⟩ := id h
  obtain ⟨A, vI, vW, vY, ans, l, rc, sq, bd, xs, bs, W, hJ, hb12, hI, hW, hw⟩ := id hC
  have hL := hJ.2.2.1
  have hP := hL.1.1.1
  have hpl := hP.1.1
  have h24 : s.2.1.1.2.1.length ≤ 24 := h2.2.2.1.2.1
  have h8 : s.2.1.1.2.2.1.length ≤ 8 := h2.2.2.1.2.2
  have hx4 := hP.2.1.1 4 (by omega)
  have hx5 := hP.2.1.1 5 (by omega)
  have l4 : (xs 4).length = s.2.1.1.2.1.length := hL.1.1.2.1.1
  have l5 : (xs 5).length = s.2.1.1.2.2.1.length := hL.1.1.2.2.1.1
  have hpre : ∀ {R}, cb147_27 n x y c (b2 (inL c s.2.1.1.2.2.1.length)) Y = R → c147 n x y c Y = R := by
    intro R hR
    unfold c147 cb147_22
    by_cases c1 : c = -1
    · rw [if_pos c1]
      have : inL c s.2.1.1.2.2.1.length = true := by unfold inL; rw [decide_eq_true c1]; rfl
      rw [this] at hR
      exact hR
    · rw [if_neg c1]
      refine bnd_eq (yR_of (r := some pl) hx rfl) (bnd_eq rfl (bnd_eq (yR_of (r := some (l 5)) hpl rfl) (bnd_eq rfl (zgd_eq (lsx_o hx5) (bnd_eq (lsx_n hx5) ?_)))))
      rw [l5]
      refine bnd_eq (bel_B (by omega)) ?_
      have : inL c s.2.1.1.2.2.1.length = inB c s.2.1.1.2.2.1.length := by unfold inL; rw [decide_eq_false c1, Bool.false_or]
      rw [this] at hR
      dsimp only
      cases hq : inB c s.2.1.1.2.2.1.length with
      | false => rw [hq] at hR; rw [if_pos b2_f]; exact hR
      | true => rw [hq] at hR; rw [if_neg (by decide)]; exact hR
  have hflag : ∀ {R}, (if b2 (inB y s.2.1.1.2.1.length) = 0 then some ((.inr 20 : Int32 ⊕ Nat), thY Y) else (yR Y x 10 1).bind fun x14 =>
      (yR Y x 10 2).bind fun x16 =>
      x14.bind fun a18 =>
      zgd (yisO Y a18 1) <|
      (c148 n a18 x16 y c Y).bind fun p21 =>
      some (.inl p21.1, p21.2)) = R → inL c s.2.1.1.2.2.1.length = true → c147 n x y c Y = R := by
    intro R hR hl
    refine hpre ?_
    unfold cb147_27 cb147_49
    rw [hl, if_neg (by decide)]
    refine bnd_eq (yR_of (r := some pl) hx rfl) (bnd_eq rfl (bnd_eq (yR_of (r := some (l 4)) hpl rfl) (bnd_eq rfl (zgd_eq (lsx_o hx4) (bnd_eq (lsx_n hx4) ?_)))))
    rw [l4]
    exact bnd_eq (bel_B (by omega)) hR
  unfold sValue
  cases hl : inL c s.2.1.1.2.2.1.length with
  | false =>
    rw [if_neg (by intro q; cases q.2)]
    refine CIn_x h (by decide) (by omega) (hpre ?_)
    unfold cb147_27 cb147_49
    rw [hl, if_pos b2_f]
  | true =>
    cases hb : inB y s.2.1.1.2.1.length with
    | false =>
      rw [if_neg (by intro q; cases q.1)]
      refine CIn_x h (by decide) (by omega) (hflag ?_ hl)
      rw [hb, if_pos b2_f]
    | true =>
      obtain ⟨i, hi, rfl⟩ := inB_lt (by omega) hb
      have hi2 : (nI i).toInt.toNat = i := by rw [nI_toInt (by omega)]; omega
      rw [if_pos ⟨rfl, rfl⟩, hi2]
      obtain ⟨Y1, vI1, vW1, vY1, ans1, bs1, W1, e1, e2, e3, e4, e5, e6, e7⟩ := val_c (n := n) h2 h3 hi (inL_of (by omega) hl) hn hN hJ hb12 hI hW
      have hx1 := JF_o hJ.2.1 e3 hx (by decide)
      refine ⟨Y1, ⟨e3.1, h1, h2, h3, tp, jd, pl, hx1, JF_t hJ.2.1 e3 hT, A, vI1, vW1, vY1, ans1, l, rc, sq, bd, xs, bs1, W1, e2, e4, e5, e6, e7⟩, fun v hv => ⟨JF_4 hJ.2.1 e3 hv.1, hv.2⟩, ?_, ?_, ?_⟩
      · unfold wY; rw [e3.2.2]; omega
      · rw [e3.2.2]; exact Nat.le_refl _
      · rw [if_pos rfl]
        refine hflag ?_ hl
        rw [hb, if_neg (by decide)]
        exact bnd_eq (yR_of (r := some jd) hx rfl) (bnd_eq (yR_of (r := some pl) hx rfl) (bnd_eq rfl (zgd_eq (jd_o hJ.2.1) (bnd_eq e1 rfl))))
end
end ZMB

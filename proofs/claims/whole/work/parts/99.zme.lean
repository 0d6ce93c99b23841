/-! THE CALLS OF THE CLASS: load -/
section ZME
section
variable {n : Nat} {Y Y0 Y1 Y2 : zY} {a b jd k pl rc sq x tp ou w z rd W WE : Nat} {S : List Nat} {K : KL} {vI vW vY vs fs : List Value} {A : Nat → Nat} {ans : Int32} {bs : List Bool} {l : Nat → Nat} {xs : Nat → List Nat} {bd : Nat → Nat} {L : Ldd} {s : St} {T T' : List Int32} {y c v : Int32} {o : yO} {P : Pln} {ts : List Tk}
theorem fl_1 {r : Option Nat → Int32 → Int32 → Int32 → zY → Option (Unit × zY)} {j : Nat} (h : Y.1 a = some (oA 0 vs)) (ha : 139 ≤ a) (hj : j < vs.length) (hl : vs.length ≤ 100) : cb4_5 n r (some a) v (nI j) (nI vs.length) Y = r (some a) v (nI (j + 1)) (nI vs.length) (yu Y a (some (oA 0 (zs vs j (.int v))))) := by
  unfold cb4_5
  rw [if_neg (nI_ge hj (by omega))]
  refine bnd_eq rfl (bnd_eq (yS_of (ok := zsI) (v := .int v) (y := .int v) (j := j) (u := vs[j]) h ha rfl (by omega) (by rw [zg_eq, List.getElem?_eq_getElem hj])) ?_)
  rw [nI_1]
/-- dropReasons -/
theorem dr_ok (hB : BY Y) (h : JDG Y jd A K vI vW vY ans) (hn : 6002 ≤ n) : ∃ Y1, c120 n jd Y = some ((), Y1) ∧ JDG Y1 jd A K vI vW [.int (-1), .int (-1), .int (-1), .int (-1), .int (-1)] ans ∧ JF jd A Y Y1 := by
  obtain ⟨g1, g2, ⟨v0, v1, k1, k2, k3⟩, g4, g5, g6, g7, g8, g9, g10, g11, g12, g13, g14, g15⟩ := id h
  refine ⟨_, ?_, (JDG_y hB h rfl).1, (JDG_y hB h rfl).2⟩
  obtain ⟨e0, e1, e2, e3, e4, rfl⟩ : ∃ e0 e1 e2 e3 e4, vY = [e0, e1, e2, e3, e4] := by
    match vY, g14 with
    | [e0, e1, e2, e3, e4], _ => exact ⟨e0, e1, e2, e3, e4, rfl⟩
  obtain ⟨m, rfl⟩ : ∃ m, n = m + 6 := ⟨n - 6, by omega⟩
  unfold c120 c4
  refine bnd_eq (yR_of (r := some (A 5)) g1 rfl) (bnd_eq (x := ((), _)) ?_ rfl)
  refine bnd_eq rfl (bnd_eq (yL_of g13) ?_)
  show cb4_5 (m + 6) (cf4_5 (m + 6) (m + 5)) (some (A 5)) (-1) (nI 0) (nI 5) Y = _
  refine (fl_1 (j := 0) g13 g15 (by show 0 < 5; omega) (by show 5 ≤ 100; omega)).trans ?_
  show cb4_5 (m + 6) (cf4_5 (m + 6) (m + 4)) (some (A 5)) (-1) (nI 1) (nI 5) _ = _
  refine (fl_1 (vs := [.int (-1), e1, e2, e3, e4]) (j := 1) yu_s g15 (by show 1 < 5; omega) (by show 5 ≤ 100; omega)).trans ?_
  rw [yu_yu]
  show cb4_5 (m + 6) (cf4_5 (m + 6) (m + 3)) (some (A 5)) (-1) (nI 2) (nI 5) _ = _
  refine (fl_1 (vs := [.int (-1), .int (-1), e2, e3, e4]) (j := 2) yu_s g15 (by show 2 < 5; omega) (by show 5 ≤ 100; omega)).trans ?_
  rw [yu_yu]
  show cb4_5 (m + 6) (cf4_5 (m + 6) (m + 2)) (some (A 5)) (-1) (nI 3) (nI 5) _ = _
  refine (fl_1 (vs := [.int (-1), .int (-1), .int (-1), e3, e4]) (j := 3) yu_s g15 (by show 3 < 5; omega) (by show 5 ≤ 100; omega)).trans ?_
  rw [yu_yu]
  show cb4_5 (m + 6) (cf4_5 (m + 6) (m + 1)) (some (A 5)) (-1) (nI 4) (nI 5) _ = _
  refine (fl_1 (vs := [.int (-1), .int (-1), .int (-1), .int (-1), e4]) (j := 4) yu_s g15 (by show 4 < 5; omega) (by show 5 ≤ 100; omega)).trans ?_
  rw [yu_yu]
  show cb4_5 (m + 6) (cf4_5 (m + 6) m) (some (A 5)) (-1) (nI 5) (nI 5) _ = _
  unfold cb4_5
  rw [if_pos (Int32.le_refl _)]
  rfl
/-- a field of the object is written -/
theorem xw {fs' : List Value} (hB : BY Y) (h1 : 139 ≤ x) (hx : Y.1 x = some (oB 10 fs)) : BY (yu Y x (some (oB 10 fs'))) ∧ OF Y (yu Y x (some (oB 10 fs'))) ∧ (∀ tp T, TAP Y tp T → TAP (yu Y x (some (oB 10 fs'))) tp T) ∧ (∀ ou v, OUT Y ou v → OUT (yu Y x (some (oB 10 fs'))) ou v) := by
  have hf : FR Y (yu Y x (some (oB 10 fs'))) [x] := FR_u hx rfl
  have hs : ∀ a ∈ [x], ∀ o, Y.1 a = some o → o = oB 10 fs := fun a ha o ho => by rw [List.mem_singleton.mp ha, hx] at ho; cases ho; rfl
  exact ⟨BY_u hB h1 (hB.2.2 _ _ hx), OF_of hf (fun a ha o ho => by rw [hs a ha o ho]; rfl), fun tp T hT => TAP_f hT hf (fun a ha o ho => by rw [hs a ha o ho]; rfl), fun ou v hv => ⟨by rw [yu_n (oBA_ne hx hv.1).symm]; exact hv.1, hv.2⟩⟩
/-- load -/
theorem ld_c (h : CSt Y x s) (hn : 6002 ≤ n) : ∃ Y1, c9 n x Y = some ((sLd s).2.1, Y1) ∧ CSt Y1 x (sLd s).2.2 ∧ (∀ v, OUT Y ou v → OUT Y1 ou v) ∧ wY Y1 ≤ wY Y + 820 + 420 * s.1.length ∧ Y.2.1 ≤ Y1.2.1 := by
  obtain ⟨hB, h1, h2, h3, tp, jd, pl, hx, hT, A, vI, vW, vY, ans, l0, rc0, sq0, bd0, xs0, bs, W0, hJ, hr⟩ := id h
  obtain ⟨a, Y2, Y3, l, rc, sq, bd, g0, g1, g2, g3, g4, g5, ⟨frd, g6⟩, g7, g8, g9, g10, g11, g12, g13⟩ := rd_go (n := n) (ou := ou) h hx hn
  have hxl := hB.2.2 _ _ hx
  have hxr : x ≠ Y.2.1 := by omega
  have htx := tx_ok (n := n) (rd := Y.2.1) (S := [Y.2.1]) (WE := wY Y + 820 + 420 * s.1.length) (by simp) g2.2 (fun q hq => by
    rcases PS_m.mp hq with d | d | ⟨j, hj, d⟩
    · exact Or.inl (by simp [d])
    · exact Or.inr (by omega)
    · exact Or.inr (by rw [d]; exact g12 j hj)) g10 g11 hn (by omega) g7 g8 g9
  have hsd : ∀ q ∈ [Y.2.1], ∀ o, Y2.1 q = some o → o = oB 5 frd := fun q hq o ho => by rw [List.mem_singleton.mp hq, g6] at ho; cases ho; rfl
  have hkeep : ∀ {Y5 : zY}, FR Y2 Y5 [Y.2.1] → OF Y Y5 ∧ TAP Y5 tp [] ∧ Y5.1 x = some (oB 10 [.ref tp, .ref jd, .ref pl, .int s.2.2.2.1]) ∧ (∀ v, OUT Y ou v → OUT Y5 ou v) := by
    intro Y5 hf
    refine ⟨OF_T g1 (OF_of hf (fun q hq o ho => by rw [hsd q hq o ho]; rfl)), TAP_f g3 hf (fun q hq o ho => by rw [hsd q hq o ho]; rfl), FR_k hf g4 (by simpa using hxr), fun v hv => ⟨FR_k hf (g5 v hv).1 (fun q => ?_), hv.2⟩⟩
    have := (g5 v hv).1
    rw [List.mem_singleton.mp q, g6] at this; cases this
  have e9 : ∀ {R}, (zgd (yisO Y3 Y.2.1 5) <|
  (c65 n Y.2.1 Y3).bind fun p14 => zth p14 (fun r11 h12 =>
    (yP h12 x 10 3 (.int 0)).bind fun h22 =>
    (yR h22 Y.2.1 5 0).bind fun x24 =>
    (yP h22 x 10 2 (va_rf x24)).bind fun h26 =>
    (yR h26 x 10 1).bind fun x28 =>
    x28.bind fun a30 =>
    zgd (yisO h26 a30 1) <|
    (c120 n a30 h26).bind fun p33 =>
    (yR p33.2 x 10 2).bind fun x34 =>
    x34.bind fun a36 =>
    (yR p33.2 a36 4 4).bind fun x37 =>
    x37.bind fun a39 =>
    zgd (yisO p33.2 a39 14) <|
    (c68 n a39 p33.2).bind fun p42 =>
    some (p42.1, p42.2))
    (fun x13 h12 =>
    if x13 = 18 then
      (yI h12 Y.2.1 5 1).bind fun x16 =>
      (yP h12 x 10 3 (.int x16)).bind fun h18 =>
      (yI h18 Y.2.1 5 2).bind fun x20 =>
      some (((-1) - x20), h18)
    else
    none)) = R → c9 n x Y = R := by
    intro R hR
    unfold c9
    exact g0.trans hR
  have hO3 := rdr_o g7.2.1
  have hG := sLoad_G (T := s.1)
  unfold sLd
  cases hq : rb (sTxtL 6000 ([], [], [], [], [], [], 0) (tks s.1)) txG with
  | inl e =>
    rw [hq] at htx hG
    rw [← hG]
    show ∃ Y1, c9 n x Y = some (-1 - nI e.2, Y1) ∧ CSt Y1 x ([], s.2.1, s.2.2.1, e.1, s.2.2.2.2) ∧ _
    obtain ⟨Y5, k1, k2, k3, k4, p5, q5, k5⟩ := htx
    obtain ⟨o1, o2, o3, o4⟩ := hkeep k3
    obtain ⟨x1, x2, x3, x4⟩ := xw (fs' := [.ref tp, .ref jd, .ref pl, .int e.1]) k2 h1 o3
    have hOF := OF_T o1 x2
    refine ⟨_, e9 ?_, ⟨x1, h1, h2, h3, tp, jd, pl, yu_s, x3 tp [] o2, A, vI, vW, vY, ans, l0, rc0, sq0, bd0, xs0, bs, W0, JCX_of hJ x1 hOF, hr⟩, fun v hv => x4 ou v (o4 v hv), k4, hOF.1⟩
    refine zgd_eq hO3 (bnd_eq k1 ?_)
    show ((yI Y5 Y.2.1 5 1).bind fun x16 => (yP Y5 x 10 3 (.int x16)).bind fun h18 => (yI h18 Y.2.1 5 2).bind fun x20 => some (((-1) - x20), h18)) = _
    refine bnd_eq (yI_of k5 rfl) (bnd_eq (yP_of o3 h1 rfl rfl) (bnd_eq (yI_of (by rw [yu_n hxr.symm]; exact k5) rfl) rfl))
  | inr zz =>
    rw [hq] at htx hG
    rw [← hG]
    show ∃ Y1, c9 n x Y = some (nI zz.1.1.2.1.length, Y1) ∧ CSt Y1 x ([], zz.1, s.2.2.1, 0, none) ∧ _
    have hsl : sLoad s.1 = .inr zz.1 := by rw [← hG]; rfl
    have hok := sLoad_ok hsl
    have hof := sLoad_of hsl
    obtain ⟨u, Y5, k1, k2, k3, bdn, xsn, k4⟩ := htx
    obtain ⟨o1, o2, o3, o4⟩ := hkeep k3
    obtain ⟨x1, x2, x3, x4⟩ := xw (fs' := [.ref tp, .ref jd, .ref pl, .int 0]) k2.1 h1 o3
    obtain ⟨Y6, hY6⟩ : ∃ Y6, Y6 = yu Y5 x (some (oB 10 [.ref tp, .ref jd, .ref pl, .int 0])) := ⟨_, rfl⟩
    rw [← hY6] at x1 x2 x3 x4
    have hx6 : Y6.1 x = some (oB 10 [.ref tp, .ref jd, .ref pl, .int 0]) := by rw [hY6]; exact yu_s
    obtain ⟨z1, z2, z3, z4⟩ := xw (fs' := [.ref tp, .ref jd, .ref Y2.2.1, .int 0]) x1 h1 hx6
    obtain ⟨Y7, hY7⟩ : ∃ Y7, Y7 = yu Y6 x (some (oB 10 [.ref tp, .ref jd, .ref Y2.2.1, .int 0])) := ⟨_, rfl⟩
    rw [← hY7] at z1 z2 z3 z4
    have hx7 : Y7.1 x = some (oB 10 [.ref tp, .ref jd, .ref Y2.2.1, .int 0]) := by rw [hY7]; exact yu_s
    have hOF := OF_T o1 (OF_T x2 z2)
    have hJD := JDG_of hJ.2.1 hOF
    have hLD := LDP_of k4 (OF_T x2 z2)
    obtain ⟨Y8, d1, d2, d3⟩ := dr_ok (n := n) z1 hJD hn
    obtain ⟨gA, _, _, _, _, _, _, _, _, gA4, _⟩ := id hJ.2.1
    have hA4 : A 4 < Y.2.1 := hB.2.2 _ _ gA4
    have hY2 := g1.1
    have hx8 := JF_o hJD d3 hx7 (by decide)
    obtain ⟨_, _, _, _, p5, p6, _⟩ := hLD.1.1
    have hLD8 := LDP_p hLD (JF_p hJD (by omega) (by omega) p5 p6 d3)
    have hpl8 := hLD8.1.1.1.1.1
    have hx48 := hLD8.1.1.1.2.1.1 4 (by omega)
    have l4 : (xsn 4).length = zz.1.1.2.1.length := hLD8.1.1.2.1.1
    have hrd6 : Y6.1 Y.2.1 = Y5.1 Y.2.1 := by rw [hY6, yu_n hxr.symm]
    refine ⟨Y8, e9 ?_, ⟨d3.1, h1, hok, hof, tp, jd, Y2.2.1, hx8, JF_t hJD d3 (z3 tp [] (x3 tp [] o2)), A, vI, vW, _, ans, l, rc, sq, bdn, xsn, bs, W0, ⟨d3.1, d2, hLD8, by omega, by omega⟩, hr.1, hr.2.1, hr.2.2.1, rfl⟩, fun v hv => ⟨JF_4 hJD d3 (z4 ou v (x4 ou v (o4 v hv))).1, hv.2⟩, ?_, ?_⟩
    · obtain ⟨⟨fk, fp, q, r1, _⟩, _⟩ := k2.2.1
      have y6 : yP Y5 x 10 3 (.int 0) = some Y6 := by rw [hY6]; exact yP_of o3 h1 rfl rfl
      have y7 : yP Y6 x 10 2 (va_rf (some Y2.2.1)) = some Y7 := by rw [hY7]; exact yP_of hx6 h1 rfl rfl
      refine zgd_eq hO3 (bnd_eq k1 ?_)
      refine bnd_eq y6 (bnd_eq (yR_of (r := some Y2.2.1) (by rw [hrd6]; exact r1) rfl) (bnd_eq y7 ?_))
      refine bnd_eq (yR_of (r := some jd) hx7 rfl) (bnd_eq rfl (zgd_eq (jd_o hJD) (bnd_eq d1 (bnd_eq (yR_of (r := some Y2.2.1) hx8 rfl) (bnd_eq rfl (bnd_eq (yR_of (r := some (l 4)) hpl8 rfl) (bnd_eq rfl (zgd_eq (lsx_o hx48) (bnd_eq (lsx_n hx48) ?_)))))))))
      rw [l4]
    · have hw : wY Y8 = wY Y5 := by
        unfold wY
        rw [d3.2.2, hY7, hY6]
        rfl
      rw [hw]
      have := k2.2.2
      omega
    · have := d3.2.1.1
      have := hOF.1
      omega
end
end ZME

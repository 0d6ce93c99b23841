/-! THE CLASS JUDGES: its cells; what is told -/
section ZKQ
section
variable {n : Nat} {Y Y1 Y2 : zY} {a b jd k pl rc sq fl ly sa : Nat} {S : List Nat} {K : KL} {vI vI' vW vW' vY vY' vs vs' : List Value} {A : Nat → Nat} {ans ans' : Int32} {bs : List Bool} {spl : List Spl} {s : Srv} {l : Nat → Nat} {xs : Nat → List Nat} {bd : Nat → Nat} {P : Pln} {L : Ldd} {N : List (List (Nat × Int32))} {o : yO}
theorem arr_ne {t t' : Nat} (h : Y.1 a = some (oA t vs)) (h' : Y.1 b = some (oA t' vs')) (hc : t ≠ t' ∨ vs.length ≠ vs'.length) : a ≠ b := fun e => by
  subst e
  rw [h] at h'
  have h2 := Sum.inl.inj (Sum.inr.inj (Option.some.inj h'))
  have e1 : t = t' := congrArg Prod.fst h2
  have e2 : vs = vs' := congrArg Prod.snd h2
  rcases hc with c | c
  · exact c e1
  · exact c (by rw [e2])
theorem oBA_ne {c t : Nat} {fs : List Value} (h : Y.1 a = some (oB c fs)) (h' : Y.1 b = some (oA t vs)) : a ≠ b := fun e => by
  subst e
  rw [h] at h'
  cases h'
theorem mto_n {t : Nat} (h1 : vs.length ≠ 1) (h2 : vs.length ≠ 2) (h8 : vs.length ≠ 8) : mto (oA t vs) = true := by
  show (!(Nat.beq t 0 && (Nat.beq vs.length 1 || Nat.beq vs.length 2 || Nat.beq vs.length 8))) = true
  have b : ∀ x y : Nat, x ≠ y → Nat.beq x y = false := fun x y h => by
    cases q : Nat.beq x y with
    | false => rfl
    | true => exact absurd (Nat.eq_of_beq_eq_true q) h
  rw [b _ _ h1, b _ _ h2, b _ _ h8]
  cases Nat.beq t 0 <;> rfl
theorem mto_t {t : Nat} (h : t ≠ 0) : mto (oA t vs) = true := by
  show (!(Nat.beq t 0 && _)) = true
  have : Nat.beq t 0 = false := by
    cases q : Nat.beq t 0 with
    | false => rfl
    | true => exact absurd (Nat.eq_of_beq_eq_true q) h
  rw [this]
  rfl
/-- what the judge writes: its own cells -/
def JF (jd : Nat) (A : Nat → Nat) (Y Y1 : zY) : Prop := BY Y1 ∧ FR Y Y1 [jd, A 3, A 4, A 5] ∧ Y1.2 = Y.2
theorem JF_R (h : BY Y) : JF jd A Y Y := ⟨h, FR_R, rfl⟩
theorem JF_T (h1 : JF jd A Y Y1) (h2 : JF jd A Y1 Y2) : JF jd A Y Y2 := ⟨h2.1, ⟨Nat.le_trans h1.2.1.1 h2.2.1.1, fun a o q => (h1.2.1.2.1 a o q).elim Or.inl (fun q => h2.2.1.2.1 a o q), IMK_T h1.2.1.2.2 h2.2.1.2.2⟩, h2.2.2.trans h1.2.2⟩
/-- the reasons -/
theorem JDG_y (hB : BY Y) (h : JDG Y jd A K vI vW vY ans) (hl : vY'.length = 5) : JDG (yu Y (A 5) (some (oA 0 vY'))) jd A K vI vW vY' ans ∧ JF jd A Y (yu Y (A 5) (some (oA 0 vY'))) := by
  obtain ⟨g1, g2, ⟨v0, v1, k1, k2, k3⟩, g4, g5, g6, g7, g8, g9, g10, g11, g12, g13, g14, g15⟩ := h
  have hf : FR Y (yu Y (A 5) (some (oA 0 vY'))) [A 5] := FR_u g13 (mto_n (by omega) (by omega) (by omega))
  refine ⟨⟨?_, g2, ⟨v0, v1, ?_, ?_, KNW_k k3 hf.2.2⟩, g4, g5, g6, ?_, g8, g9, ?_, g11, g12, yu_s, hl, g15⟩, BY_u hB g15 (hB.2.2 _ _ g13), FR_M hf (fun a h => by rw [List.mem_singleton.mp h]; simp), rfl⟩
  · rw [yu_n (oBA_ne g1 g13)]; exact g1
  · rw [yu_n (arr_ne k1 g13 (Or.inl (by decide)))]; exact k1
  · rw [yu_n (arr_ne k2 g13 (Or.inl (by decide)))]; exact k2
  · rw [yu_n (arr_ne g7 g13 (Or.inl (by decide)))]; exact g7
  · rw [yu_n (arr_ne g10 g13 (Or.inr (by omega)))]; exact g10
/-- the worths -/
theorem JDG_w (hB : BY Y) (h : JDG Y jd A K vI vW vY ans) (hl : vW'.length = 24) : JDG (yu Y (A 4) (some (oA 0 vW'))) jd A K vI vW' vY ans ∧ JF jd A Y (yu Y (A 4) (some (oA 0 vW'))) := by
  obtain ⟨g1, g2, ⟨v0, v1, k1, k2, k3⟩, g4, g5, g6, g7, g8, g9, g10, g11, g12, g13, g14, g15⟩ := h
  have hf : FR Y (yu Y (A 4) (some (oA 0 vW'))) [A 4] := FR_u g10 (mto_n (by omega) (by omega) (by omega))
  refine ⟨⟨?_, g2, ⟨v0, v1, ?_, ?_, KNW_k k3 hf.2.2⟩, g4, g5, g6, ?_, g8, g9, yu_s, hl, g12, ?_, g14, g15⟩, BY_u hB g12 (hB.2.2 _ _ g10), FR_M hf (fun a h => by rw [List.mem_singleton.mp h]; simp), rfl⟩
  · rw [yu_n (oBA_ne g1 g10)]; exact g1
  · rw [yu_n (arr_ne k1 g10 (Or.inl (by decide)))]; exact k1
  · rw [yu_n (arr_ne k2 g10 (Or.inl (by decide)))]; exact k2
  · rw [yu_n (arr_ne g7 g10 (Or.inl (by decide)))]; exact g7
  · rw [yu_n (arr_ne g13 g10 (Or.inr (by omega)))]; exact g13
/-- who is in which segment -/
theorem JDG_i (hB : BY Y) (h : JDG Y jd A K vI vW vY ans) (hl : vI'.length = 12) : JDG (yu Y (A 3) (some (oA 2 vI'))) jd A K vI' vW vY ans ∧ JF jd A Y (yu Y (A 3) (some (oA 2 vI'))) := by
  obtain ⟨g1, g2, ⟨v0, v1, k1, k2, k3⟩, g4, g5, g6, g7, g8, g9, g10, g11, g12, g13, g14, g15⟩ := h
  have hf : FR Y (yu Y (A 3) (some (oA 2 vI'))) [A 3] := FR_u g7 (mto_t (by decide))
  refine ⟨⟨?_, g2, ⟨v0, v1, ?_, ?_, KNW_k k3 hf.2.2⟩, g4, g5, g6, yu_s, hl, g9, ?_, g11, g12, ?_, g14, g15⟩, BY_u hB g9 (hB.2.2 _ _ g7), FR_M hf (fun a h => by rw [List.mem_singleton.mp h]; simp), rfl⟩
  · rw [yu_n (oBA_ne g1 g7)]; exact g1
  · rw [yu_n (arr_ne k1 g7 (Or.inl (by decide)))]; exact k1
  · rw [yu_n (arr_ne k2 g7 (Or.inl (by decide)))]; exact k2
  · rw [yu_n (arr_ne g10 g7 (Or.inl (by decide)))]; exact g10
  · rw [yu_n (arr_ne g13 g7 (Or.inl (by decide)))]; exact g13
/-- the answer -/
theorem JDG_a (hB : BY Y) (h : JDG Y jd A K vI vW vY ans) : ∃ Y1, yP Y jd 1 6 (.int ans') = some Y1 ∧ JDG Y1 jd A K vI vW vY ans' ∧ JF jd A Y Y1 := by
  obtain ⟨g1, g2, ⟨v0, v1, k1, k2, k3⟩, g4, g5, g6, g7, g8, g9, g10, g11, g12, g13, g14, g15⟩ := h
  have hf : FR Y (yu Y jd (some (oB 1 [.ref (A 0), .ref (A 1), .int (nI K.length), .ref (A 3), .ref (A 4), .ref (A 5), .int ans']))) [jd] := FR_u g1 rfl
  refine ⟨_, yP_of g1 g2 rfl rfl, ⟨yu_s, g2, ⟨v0, v1, ?_, ?_, KNW_k k3 hf.2.2⟩, g4, g5, g6, ?_, g8, g9, ?_, g11, g12, ?_, g14, g15⟩, BY_u hB g2 (hB.2.2 _ _ g1), FR_M hf (fun a h => by rw [List.mem_singleton.mp h]; simp), rfl⟩
  · exact (yu_n (oBA_ne g1 k1).symm).trans k1
  · exact (yu_n (oBA_ne g1 k2).symm).trans k2
  · exact (yu_n (oBA_ne g1 g7).symm).trans g7
  · exact (yu_n (oBA_ne g1 g10).symm).trans g10
  · exact (yu_n (oBA_ne g1 g13).symm).trans g13
/-- one reason is kept -/
theorem kr_1 {α : Type} {q j : Nat} {y : Int32} {fs : List Value} {F : zY → Option α} (h1 : Y.1 jd = some (oB 1 fs)) (hfs : zg fs 5 = some (.ref q)) (hq : Y.1 q = some (oA 0 vY)) (h139 : 139 ≤ q) (hj : j < vY.length) (hj2 : vY.length ≤ 100) : ((yR Y jd 1 5).bind fun x => x.bind fun a => (yS zsI Y a (nI j) (.int y)).bind F) = F (yu Y q (some (oA 0 (zs vY j (.int y))))) := by
  refine bnd_eq (yR_of (r := some q) h1 hfs) (bnd_eq rfl (bnd_eq (yS_of (ok := zsI) (v := .int y) (y := .int y) (j := j) (u := vY[j]) hq h139 rfl (by omega) ?_) rfl))
  rw [zg_eq, List.getElem?_eq_getElem hj]
/-- keepReasons -/
theorem kr_ok {y1 y2 y3 y4 : Int32} (h : JDG Y jd A K vI vW vY ans) : c161 n jd y1 y2 y3 y4 Y = some ((), yu Y (A 5) (some (oA 0 [.int y1, .int y2, .int y3, .int y4, .int (-1)]))) := by
  obtain ⟨g1, g2, ⟨v0, v1, k1, k2, k3⟩, g4, g5, g6, g7, g8, g9, g10, g11, g12, g13, g14, g15⟩ := h
  obtain ⟨e0, e1, e2, e3, e4, rfl⟩ : ∃ e0 e1 e2 e3 e4, vY = [e0, e1, e2, e3, e4] := by
    match vY, g14 with
    | [e0, e1, e2, e3, e4], _ => exact ⟨e0, e1, e2, e3, e4, rfl⟩
  have hj : ∀ {o : Option yO}, (yu Y (A 5) o).1 jd = Y.1 jd := fun {o} => yu_n (oBA_ne g1 g13)
  unfold c161
  refine (kr_1 (j := 0) g1 rfl g13 g15 (by show 0 < 5; omega) (by show 5 ≤ 100; omega)).trans ?_
  refine (kr_1 (j := 1) (hj.trans g1) rfl yu_s g15 (by show 1 < 5; omega) (by show 5 ≤ 100; omega)).trans ?_
  rw [yu_yu]
  refine (kr_1 (j := 2) (hj.trans g1) rfl yu_s g15 (by show 2 < 5; omega) (by show 5 ≤ 100; omega)).trans ?_
  rw [yu_yu]
  refine (kr_1 (j := 3) (hj.trans g1) rfl yu_s g15 (by show 3 < 5; omega) (by show 5 ≤ 100; omega)).trans ?_
  rw [yu_yu]
  refine (kr_1 (j := 4) (hj.trans g1) rfl yu_s g15 (by show 4 < 5; omega) (by show 5 ≤ 100; omega)).trans ?_
  rw [yu_yu]
  rfl
/-- the reasons as they are kept -/
def WHc (vY : List Value) (y : Why) : Prop := vY = [.int y.1, .int y.2.1, .int y.2.2.1, .int y.2.2.2.1, .int y.2.2.2.2]
theorem kr_ok2 {y1 y2 y3 y4 : Int32} (hB : BY Y) (h : JDG Y jd A K vI vW vY ans) : ∃ Y1, c161 n jd y1 y2 y3 y4 Y = some ((), Y1) ∧ JDG Y1 jd A K vI vW [.int y1, .int y2, .int y3, .int y4, .int (-1)] ans ∧ JF jd A Y Y1 :=
  ⟨_, kr_ok h, (JDG_y hB h rfl).1, (JDG_y hB h rfl).2⟩
/-- tellOff -/
theorem to_ok {y1 y2 y3 : Int32} (hB : BY Y) (h : JDG Y jd A K vI vW vY ans) : ∃ Y1, c160 n jd y1 y2 y3 Y = some ((), Y1) ∧ JDG Y1 jd A K vI vW [.int y1, .int y2, .int (-1), .int (-1), .int (-1)] y3 ∧ JF jd A Y Y1 := by
  obtain ⟨Ya, e1, e2, e3⟩ := kr_ok2 (n := n) (y1 := y1) (y2 := y2) (y3 := -1) (y4 := -1) hB h
  obtain ⟨Yb, f1, f2, f3⟩ := JDG_a (ans' := y3) e3.1 e2
  refine ⟨Yb, ?_, f2, JF_T e3 f3⟩
  unfold c160
  exact zgd_eq (jd_o h) (bnd_eq e1 (bnd_eq f1 rfl))
theorem spD {i : Nat} {sp : Spl} (h : spl[i]? = some sp) : spl.getD i ([], [], []) = sp := by
  rw [List.getD_eq_getElem?_getD, h]
  rfl
/-- tellServed -/
theorem ts_ok {y1 y2 y3 : Int32} {za : Nat} (hB : BY Y) (h : JDG Y jd A K vI vW vY ans) (hs : RSv Y spl za s) (hn : 6002 ≤ n) : ∃ Y1 vY', c163 n jd y1 y2 y3 (some za) Y = some ((), Y1) ∧ JDG Y1 jd A K vI vW vY' (srvV K spl s).1 ∧ WHc vY' (y1, y2, y3, (srvV K spl s).2, -1) ∧ JF jd A Y Y1 := by
  have h39 : ∀ {nm sa : Value} {sh : List (Int32 × Int32)} {L0 : Nat} {l5 : Option Nat}, SVX Y 0 za nm sa sh L0 → ∃ Y1, cb163_39 n jd y1 y2 y3 (some za) l5 Y = some ((), Y1) ∧ JDG Y1 jd A K vI vW [.int y1, .int y2, .int y3, .int (-1), .int (-1)] (lstV sh) ∧ JF jd A Y Y1 := by
    intro nm sa sh L0 l5 hX
    obtain ⟨Ya, e1, e2, e3⟩ := kr_ok2 (n := n) (y1 := y1) (y2 := y2) (y3 := y3) (y4 := -1) hB h
    obtain ⟨Yb, f1, f2, f3⟩ := JDG_a (ans' := lstV sh) e3.1 e2
    have hXa := SVX_k e3.2.1.2.2 hX
    refine ⟨Yb, ?_, f2, JF_T e3 f3⟩
    unfold cb163_39
    exact zgd_eq (jd_o h) (bnd_eq e1 (bnd_eq rfl (zgd_eq (sv_o hXa) (bnd_eq (sv_last hXa) (bnd_eq f1 rfl)))))
  cases s with
  | inl v =>
    have hX : SVX Y 0 za .null .null [(10000, v)] 1 := hs
    obtain ⟨Yb, f1, f2, f3⟩ := h39 (l5 := none) hX
    refine ⟨Yb, _, ?_, f2, rfl, f3⟩
    obtain ⟨a1, a2, h1, _⟩ := hX
    unfold c163
    refine bnd_eq rfl (bnd_eq (yR_of (r := none) h1 rfl) ?_)
    dsimp only
    unfold cb163_24
    exact f1
  | inr i =>
    obtain ⟨sp, hsp, wt, st, L0, hX, ⟨tw, hw, htw⟩, ⟨t2, hst, hts⟩⟩ := hs
    have hv : srvV K spl (.inr i) = match kn K sp.1 with
      | none => (lstV sp.2.2, -1)
      | some t => (atV (plc sp.2.1 t) (lstV sp.2.2) 0 sp.2.2, plc sp.2.1 t) := by
      show (match kn K (spl.getD i ([], [], [])).1 with
      | none => (lstV (spl.getD i ([], [], [])).2.2, -1)
      | some t => (atV (plc (spl.getD i ([], [], [])).2.1 t) (lstV (spl.getD i ([], [], [])).2.2) 0 (spl.getD i ([], [], [])).2.2, plc (spl.getD i ([], [], [])).2.1 t)) = _
      rw [spD hsp]
    obtain ⟨sw, j1, j2, j3, j4, j5, j6, j7, j8⟩ := tk_txt hw
    obtain ⟨ss, i1, i2, i3, i4, i5, i6, i7, i8⟩ := tk_txt hst
    rw [htw] at j2
    obtain ⟨ov, e153, hk⟩ := kth_ok (n := n) h j2 j3 hn
    have hX' := hX
    obtain ⟨a1, a2, h1, _⟩ := hX'
    have e163 : ∀ {R}, cb163_24 n jd y1 y2 y3 (some za) ov Y = R → c163 n jd y1 y2 y3 (some za) Y = R := by
      intro R hR
      unfold c163
      refine bnd_eq rfl (bnd_eq (yR_of (r := some wt) h1 rfl) ?_)
      dsimp only
      exact bnd_eq (yR_of (r := some wt) h1 rfl) (bnd_eq rfl (bnd_eq j1 (zgd_eq (jd_o h) (bnd_eq e153 hR))))
    rw [hv]
    cases hkn : kn K sp.1 with
    | none =>
      rw [hkn] at hk
      have hk : ov = none := hk
      subst hk
      obtain ⟨Yb, f1, f2, f3⟩ := h39 (l5 := none) hX
      refine ⟨Yb, _, e163 ?_, f2, rfl, f3⟩
      unfold cb163_24
      exact f1
    | some T =>
      rw [hkn] at hk
      obtain ⟨tt, t, rfl, ht, ht3, htT⟩ := hk
      obtain ⟨s1, q1, q2, q3, q4, q5, q6, q7, fx, q8⟩ := tk_txt ht
      have l2 := q7.2.1
      rw [ttx_B ht3, htT] at q2 l2
      have l1 := i7.2.1
      rw [hts] at i2 l1
      obtain ⟨Ya, e1, e2, e3⟩ := kr_ok2 (n := n) (y1 := y1) (y2 := y2) (y3 := y3) (y4 := plc sp.2.1 T) hB h
      obtain ⟨Yb, f1, f2, f3⟩ := JDG_a (ans' := atV (plc sp.2.1 T) (lstV sp.2.2) 0 sp.2.2) e3.1 e2
      have hXa := SVX_k e3.2.1.2.2 hX
      refine ⟨Yb, _, e163 ?_, f2, rfl, JF_T e3 f3⟩
      unfold cb163_24
      dsimp only
      refine bnd_eq rfl (bnd_eq (yR_of (r := some st) h1 rfl) ?_)
      dsimp only
      exact bnd_eq (yR_of (r := some st) h1 rfl) (bnd_eq rfl (bnd_eq i1 (bnd_eq q1 (bnd_eq (pl_ok i2 q2 (by omega) (by omega) hn) (zgd_eq (jd_o h) (bnd_eq e1 (zgd_eq (sv_o hXa) (bnd_eq (sv_at hXa hn) (bnd_eq f1 rfl)))))))))
end
end ZKQ

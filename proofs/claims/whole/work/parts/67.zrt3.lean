/-! THE REFERENCE'S EXPRESSION: readTest, readPart -/
section ZRT3
/-- what stands behind a test's name -/
def sTst2 (w : List Int32) (ts : List Tk) (p : Nat) : RR (Den × List Tk × Nat) :=
  let s := (hd ts).1
  if s = 41 then rb (sEat 7 (adv ts)) fun ts => rb (sOne ts) fun o => rb (sAmgL 401 [thg o.1] o.2 p) fun x => rb (sEat 8 x.2.1) fun ts => .inr (dAmong w x.1, ts, x.2.2)
  else if s = 42 then .inr (dTest 42 w (false, 0, []), adv ts, p)
  else if s = 35 then rb (sOne (adv ts)) fun o => .inr (dTest 35 w (thg o.1), o.2, p)
  else if s = 36 ∨ s = 37 then rb (sTake 3 (adv ts)) fun o => .inr (dTest s w (thg o.1), o.2, p)
  else if s = 38 ∨ s = 39 ∨ s = 40 then rb (sTake 4 (adv ts)) fun o => .inr (dTest s w (thg o.1), o.2, p)
  else .inl (sErr 2 (hd ts))
theorem sTest_2 {ts : List Tk} {p : Nat} : sTest ts p = rb (sTake 2 ts) fun w => rb (sPrt p w.1) fun p => sTst2 w.1.2.2.1 w.2 p := rfl
section
variable {n : Nat} {X X1 : zX} {b m p q fm cb c s0 : Nat} {S : List Fr} {D P L : List Pd} {Q : List Nat} {φ : Den} {U0 : List Nat} {T : List Int32} {fk : Int32} {ts : List Tk} {segs : List (List Int32)} {w : List Int32}
theorem TsP_tr {X0 : zX} {r : RR (Den × List Tk × Nat)} (h : TsP X X1 b m fm cb S D q T fk r) (hs : SKa b X0 X) : TsP X0 X1 b m fm cb S D q T fk r := by
  cases r with
  | inl e => exact h
  | inr x =>
    obtain ⟨h1, V, h2, h3, h4, h5, h6⟩ := h
    exact ⟨h1, V, h2, h3, h4, SKa_tr hs h5, h6⟩
theorem test_ok (hI : Inv X b m fm cb S D p [] [] [q]) (hR : RI X T fk (.inr ts)) (hs : (hd ts).1 = 2) (h52 : pv X b 52 q = 0) (h53 : pv X b 53 q = 0) (h55 : pv X b 55 q = -1) (h56 : pv X b 56 q = -1) (hc : cv X 1 b = nI c) (hc2 : c + 2 ≤ cb + 2 * p) (hg : gdT ts) (hl : ts.length ≤ 6001) (hn : 6002 ≤ n) : ∃ X1, g217 n (nI (400 * b + q)) X = some ((), X1) ∧ TsP X X1 b m fm cb S D q T fk (sTst2 (hd ts).2.2.1 (adv ts) p) := by
  have hI0 := hI
  obtain ⟨⟨a1, a2, a3⟩, _⟩ := hI
  have hq4 : q < 400 := opn_lt hI0 (by simp)
  have hqm : 400 * b + q < 800 := by omega
  have hbr : (hd ts).1 ≠ 1 := by omega
  obtain ⟨X2, s1, s2, s3, s4, s5, s6, s7, s8, s9⟩ := inv_slot (n := n) hI0 hR (Or.inl ⟨hbr, by rw [hs]; rfl⟩) hc (by omega) hn
  have hI3 := Inv_ow (i := 51) (v := nI (1500 * b + c)) (by omega) s5
  obtain ⟨X4, e1, e2⟩ := ri_next (RI_up (i := 51) (j := 400 * b + q) (v := nI (1500 * b + c)) s2 (by decide)) hn
  have hI4 := Inv_nx hI3 e1
  obtain ⟨g1, g2, g3, g4⟩ := gd_adv hg
  have hal := g2 (by omega)
  have hsk24 : SKa b X2 X4 := SKa_tr (SKa_up (by decide) (by decide) (by decide)) (SKa_nx e1)
  have hsk4 : SKa b X X4 := SKa_tr s8 hsk24
  have hcell : ∀ i x, i ≠ 51 ∨ x ≠ q → 4 ≤ i → pv X4 b i x = pv X b i x := by
    intro i x hx hi
    unfold pv
    rw [cv_of (X := up X2 51 (400 * b + q) (nI (1500 * b + c))) (by rw [nx_arr e1]), cv_ne (by omega), cv_of (X := X) (s9 i (by omega) (by omega) (by omega))]
  have h51 : pv X4 b 51 q = nI (1500 * b + c) := by
    unfold pv
    rw [cv_of (X := up X2 51 (400 * b + q) (nI (1500 * b + c))) (by rw [nx_arr e1]), cv_eq s5.1.1 (by decide) hqm]
  have hc4 : cv X4 1 b = nI (c + 1) := by
    rw [cv_of (X := up X2 51 (400 * b + q) (nI (1500 * b + c))) (by rw [nx_arr e1]), cv_ne (by omega)]
    exact s6
  have hbeg : ∀ {R : Option (Unit × zX)}, (if (X4.1 73) = (-1) then (g199 n 65 X4).bind fun p10 => gb217_33 n (nI (400 * b + q)) p10.1 p10.2 else gb217_33 n (nI (400 * b + q)) (-1) X4) = R → g217 n (nI (400 * b + q)) X = R := by
    intro R hR'
    unfold g217
    rw [s1]
    dsimp only [Option.bind_some]
    refine wst 400 q s5.1.1 s5.1.2.1 a3 (by decide) rfl (by decide) hq4 rfl (by decide) rfl ?_
    rw [e1]
    exact hR'
  have hno : ∀ {X5 : zX} {e : Er}, RI X5 T fk (.inl e) → gb217_33 n (nI (400 * b + q)) (-1) X5 = some ((), X5) := by
    intro X5 e h5
    unfold gb217_33 gb217_45
    rw [if_pos rfl, ri_needF h5]
    dsimp only [Option.bind_some]
    rw [if_neg (ri_flt h5)]
  by_cases hb2 : (hd (adv ts)).1 = 1
  · have h' := ri_of_brk e2 hb2 (k := 2)
    refine ⟨X4, hbeg (by rw [if_neg (ri_flt h'), hno h']), ?_⟩
    unfold sTst2
    dsimp only
    rw [if_neg (by omega), if_neg (by omega), if_neg (by omega), if_neg (by omega), if_neg (by omega)]
    exact h'
  obtain ⟨r1, r2, r3, r4, r5, r6, r7⟩ := ri_hd e2 hb2
  by_cases hk : 35 ≤ (hd (adv ts)).1 ∧ (hd (adv ts)).1 ≤ 42
  · obtain ⟨k, hk1⟩ : ∃ k, (hd (adv ts)).1 = k + 35 := ⟨(hd (adv ts)).1 - 35, by omega⟩
    have hk7 : k ≤ 7 := by omega
    have hidx : g199 n 65 X4 = some (nI k, X4) := by
      rw [amg_tok wk_65 e2 hb2 hn, hk1]
      have := (by decide +kernel : ∀ k : Fin 8, (match ([35, 36, 37, 38, 39, 40, 41, 42] : List Nat).findIdx? (fun s => s == k.val + 35) with | some i => nI i | none => (-1 : Int32)) = nI k.val) ⟨k, by omega⟩
      exact congrArg (fun z => some (z, X4)) this
    -- the kind, the next token
    have hI5 := Inv_ow (i := 50) (v := nI (k + 3)) (by omega) hI4
    obtain ⟨X6, f1, f2⟩ := ri_next (RI_up (i := 50) (j := 400 * b + q) (v := nI (k + 3)) e2 (by decide)) hn
    have hI6 := Inv_nx hI5 f1
    have hsk46 : SKa b X4 X6 := SKa_tr (SKa_up (by decide) (by decide) (by decide)) (SKa_nx f1)
    have hcell6 : ∀ i x, i ≠ 50 ∨ x ≠ q → pv X6 b i x = pv X4 b i x := by
      intro i x hx
      unfold pv
      rw [cv_of (X := up X4 50 (400 * b + q) (nI (k + 3))) (by rw [nx_arr f1]), cv_ne (by omega)]
    have h50 : pv X6 b 50 q = nI (k + 3) := by
      unfold pv
      rw [cv_of (X := up X4 50 (400 * b + q) (nI (k + 3))) (by rw [nx_arr f1]), cv_eq hI4.1.1 (by decide) hqm]
    have hc6 : cv X6 1 b = nI (c + 1) := by
      rw [cv_of (X := up X4 50 (400 * b + q) (nI (k + 3))) (by rw [nx_arr f1]), cv_ne (by omega)]
      exact hc4
    have hsl6 := hsk46 _ _ (hsk24 _ _ s4 s3).1 (hsk24 _ _ s4 s3).2
    have hTS : TS0 X6 b m fm cb S D p q (k + 3) (1500 * b + c) (c + 1) (hd ts).2.2.1 := ⟨hI6, h50, by rw [hcell6 51 q (by omega)]; exact h51, hsl6.1, hsl6.2, by rw [hcell6 52 q (by omega), hcell 52 q (by omega) (by omega)]; exact h52, by rw [hcell6 53 q (by omega), hcell 53 q (by omega) (by omega)]; exact h53, by rw [hcell6 55 q (by omega), hcell 55 q (by omega) (by omega)]; exact h55, by rw [hcell6 56 q (by omega), hcell 56 q (by omega) (by omega)]; exact h56, hc6, by omega⟩
    have hrd : ∀ {α : Type} {F : Int32 → Option α} {R : Option α}, F (nI (k + 3)) = R → ((rd (X6.2.2 50) (nI (400 * b + q))).bind F) = R := by
      intro α F R hF
      refine rst (j := 400 * b + q) hI6.1.1 (by decide) (by show 400 * b + q < 800; omega) (by omega) rfl ?_
      have : cv X6 50 (400 * b + q) = nI (k + 3) := h50
      rw [this]
      exact hF
    have hgo : ∀ {R : Option (Unit × zX)}, (if nI (k + 3) = 3 then (g218 n (nI (400 * b + q)) X6).bind fun p14 => some ((), p14.2) else if nI (k + 3) = 4 then gb217_108 n (nI (400 * b + q)) (nI k) X6 else if nI (k + 3) = 5 then gb217_108 n (nI (400 * b + q)) (nI k) X6 else (g187 n (nI (k + 3)) 6 8 X6).bind fun p27 => if p27.1 = 0 then (rd (p27.2.2.2 50) (nI (400 * b + q))).bind fun x31 => if x31 = 9 then (g219 n (nI (400 * b + q)) p27.2).bind fun p34 => some ((), p34.2) else some ((), p27.2) else if (p27.2.1 69) = 3 then gb217_172 n (nI (400 * b + q)) (nI k) 1 p27.2 else gb217_172 n (nI (400 * b + q)) (nI k) 0 p27.2) = R → g217 n (nI (400 * b + q)) X = R := by
      intro R hR'
      apply hbeg
      rw [if_pos r1, hidx]
      dsimp only [Option.bind_some]
      unfold gb217_33 gb217_45
      rw [if_neg (nI_m1 (by omega)), need_1]
      dsimp only [Option.bind_some]
      rw [if_pos r1]
      refine wst 400 q hI4.1.1 hI4.1.2.1 a3 (by decide) rfl (by decide) hq4 rfl (by decide) rfl ?_
      rw [show (3 + nI k : Int32) = nI (k + 3) by rw [show (3 : Int32) = nI 3 from rfl, nI_add, Nat.add_comm], f1]
      dsimp only [Option.bind_some]
      apply hrd
      by_cases c3 : nI (k + 3) = 3
      · rw [if_pos c3] at hR' ⊢; exact hR'
      · rw [if_neg c3] at hR' ⊢
        apply hrd
        by_cases c4 : nI (k + 3) = 4
        · rw [if_pos c4] at hR' ⊢; exact hR'
        · rw [if_neg c4] at hR' ⊢
          apply hrd
          by_cases c5 : nI (k + 3) = 5
          · rw [if_pos c5] at hR' ⊢; exact hR'
          · rw [if_neg c5] at hR' ⊢
            apply hrd
            exact hR'
    have hskX : SKa b X X6 := SKa_tr hsk4 hsk46
    have hl2 : (adv (adv ts)).length ≤ 6001 := by have := (gd_adv g1).2.2.1; omega
    unfold sTst2
    dsimp only
    rw [hk1]
    have hcases : k = 0 ∨ k = 1 ∨ k = 2 ∨ k = 3 ∨ k = 4 ∨ k = 5 ∨ k = 6 ∨ k = 7 := by omega
    rcases hcases with rfl | rfl | rfl | rfl | rfl | rfl | rfl | rfl
    · obtain ⟨X1, z1, z2⟩ := ts_is (n := n) hTS f2 hn
      refine ⟨X1, hgo ?_, TsP_tr z2 hskX⟩
      rw [if_pos (by decide), z1]
      rfl
    · obtain ⟨X1, z1, z2⟩ := ts_num (n := n) (l2 := nI 1) (Or.inl rfl) hTS f2 hn
      refine ⟨X1, hgo ?_, TsP_tr z2 hskX⟩
      rw [if_neg (by decide), if_pos (by decide), z1]
    · obtain ⟨X1, z1, z2⟩ := ts_num (n := n) (l2 := nI 2) (Or.inr rfl) hTS f2 hn
      refine ⟨X1, hgo ?_, TsP_tr z2 hskX⟩
      rw [if_neg (by decide), if_neg (by decide), if_pos (by decide), z1]
    · obtain ⟨X1, z1, z2⟩ := ts_txt (n := n) (l2 := nI 3) (by omega) hTS f2 hn
      refine ⟨X1, hgo ?_, TsP_tr z2 hskX⟩
      rw [if_neg (by decide), if_neg (by decide), if_neg (by decide), g187_eq]
      dsimp only [Option.bind_some]
      rw [if_neg (by decide)]
      exact z1
    · obtain ⟨X1, z1, z2⟩ := ts_txt (n := n) (l2 := nI 4) (by omega) hTS f2 hn
      refine ⟨X1, hgo ?_, TsP_tr z2 hskX⟩
      rw [if_neg (by decide), if_neg (by decide), if_neg (by decide), g187_eq]
      dsimp only [Option.bind_some]
      rw [if_neg (by decide)]
      exact z1
    · obtain ⟨X1, z1, z2⟩ := ts_txt (n := n) (l2 := nI 5) (by omega) hTS f2 hn
      refine ⟨X1, hgo ?_, TsP_tr z2 hskX⟩
      rw [if_neg (by decide), if_neg (by decide), if_neg (by decide), g187_eq]
      dsimp only [Option.bind_some]
      rw [if_neg (by decide)]
      exact z1
    · obtain ⟨X1, z1, z2⟩ := ts_am (n := n) hTS f2 (gd_adv g1).1 hl2 hn
      refine ⟨X1, hgo ?_, TsP_tr z2 hskX⟩
      rw [if_neg (by decide), if_neg (by decide), if_neg (by decide), g187_eq]
      dsimp only [Option.bind_some]
      rw [if_pos (by decide)]
      apply hrd
      rw [if_pos (by decide), z1]
      rfl
    · refine ⟨X6, hgo ?_, TsP_tr (ts_giv hTS f2) hskX⟩
      rw [if_neg (by decide), if_neg (by decide), if_neg (by decide), g187_eq]
      dsimp only [Option.bind_some]
      rw [if_pos (by decide)]
      apply hrd
      rw [if_neg (by decide)]
  · -- no such word
    obtain ⟨X5, f1, f2⟩ := ri_need (n := n) (b := false) e2 hb2
    rw [if_neg (by decide)] at f2
    refine ⟨X5, hbeg ?_, ?_⟩
    · rw [if_pos r1, amg_tok wk_65 e2 hb2 hn, fidx_no (by
        intro s hs'
        simp only [List.mem_cons, List.not_mem_nil, or_false] at hs'
        omega)]
      show gb217_33 n (nI (400 * b + q)) (-1) X4 = _
      unfold gb217_33 gb217_45
      rw [if_pos rfl, show g200 n 0 X4 = some ((), X5) from f1]
      dsimp only [Option.bind_some]
      rw [if_neg (ri_flt f2)]
    · unfold sTst2
      dsimp only
      rw [if_neg (by omega), if_neg (by omega), if_neg (by omega), if_neg (by omega), if_neg (by omega)]
      exact f2
/-- a test -/
theorem leaf_ts {l1 : Int32} (hI : Inv X b m fm cb S D p [] [] []) (hH : HT X S) (hB : okB S) (hw : wnt S) (hR : RI X T fk (.inr ts)) (hC : CX X b segs) (hbr : (hd ts).1 ≠ 1) (hsl : sLeaf segs ts p = sTest ts p) (hg : gdT ts) (hl : ts.length ≤ 6001) (hn : 6002 ≤ n) : ∃ X1, ((g203 n X).bind fun p10 => (g200 n p10.1 p10.2).bind fun p12 => (g215 n 3 p12.2).bind fun p14 => if (p14.2.1 73) = (-1) then (g217 n ((400 * (p14.2.1 4)) + p14.1) p14.2).bind fun p17 => gb212_206 n l1 p14.1 p17.2 else gb212_206 n l1 p14.1 p14.2) = some (0, X1) ∧ LfP X X1 b m fm cb S D p U0 T fk segs (sLeaf segs ts p) := by
  have hI0 := hI
  obtain ⟨⟨a1, a2, a3⟩, ⟨b1, b2'⟩, _, ⟨d1, c, d2, d3⟩, _⟩ := hI
  obtain ⟨r1, r2, r3, r4, r5, r6, r7⟩ := ri_hd hR hbr
  rw [hsl, sTest_2, name_tok hR hbr hn]
  dsimp only [Option.bind_some]
  unfold sTake
  by_cases h2 : (hd ts).1 = 2
  · rw [show ((hd ts).1 == 2) = true by simpa using h2, need_t, if_pos h2, rb_inr]
    dsimp only [Option.bind_some]
    unfold sPrt
    by_cases hp : p < 400
    · rw [if_neg (by omega), rb_inr, newP a1 a2 a3 r1 b1 hp]
      dsimp only [Option.bind_some]
      rw [if_pos (show (nP X b p 3).1 73 = -1 from r1)]
      have own := nP_own (k := (3 : Int32)) a1 a3 hp
      have hi4 : (400 : Int32) * (nP X b p 3).1 4 + nI p = nI (400 * b + p) := i400 a2
      obtain ⟨X2, e1, e2⟩ := test_ok (n := n) (Inv_new (k := 3) hI0 hp) (RI_nP hR) h2 own.2.2.1 own.2.2.2.1 own.2.2.2.2.2.1 own.2.2.2.2.2.2.1 (c := c) (by rw [nP_cv (by omega) (by omega)]; exact d2) (by omega) hg hl hn
      rw [hi4, e1]
      dsimp only [Option.bind_some]
      have hw2 := w217 e1
      cases hr : sTst2 (hd ts).2.2.1 (adv ts) (p + 1) with
      | inl e =>
        rw [hr] at e2
        exact ⟨X2, g206f_flt e2, e2⟩
      | inr x =>
        rw [hr] at e2
        obtain ⟨e2, V, e3, e4, e5, e6, e7⟩ := e2
        by_cases hb2 : (hd x.2.1).1 = 1
        · refine ⟨X2, ?_, e2, fun z => absurd hb2 z⟩
          unfold gb212_206
          rw [if_neg (ri_flt' e2 hb2)]
        · obtain ⟨X3, f1, f2, f3, f4, f5, f6, f7, f8⟩ := fin_ok (n := n) (U0 := U0) (l1 := l1) (φ := x.1) (V := V) e3 e7 (ri_hd e2 hb2).1 (fun U' _ => Or.inr (Or.inr (Or.inr (Or.inr (Or.inr (Or.inr (e4 U'))))))) e5 (HT_of (X := X) hH (hw2.1 75 rfl) (hw2.1 76 rfl)) hB hw hn
          have hsk : SKa b X X3 := SKa_tr nP_SK (SKa_tr e6 f4)
          refine ⟨X3, f1, RI_k e2 f5 f6, fun _ => ⟨f2, f3, hsk, CX_of hC ?_ ?_ hsk⟩⟩
          · rw [f7, hw2.2.2.1 4 rfl]; rfl
          · rw [f8, hw2.2.2.1 5 rfl]; rfl
    · rw [if_pos (by omega), rb_inl]
      obtain ⟨X1, e1, e2⟩ := new_flt (n := n) (k := 3) hI0 hR hbr hp
      rw [e1]
      dsimp only [Option.bind_some]
      rw [if_neg (ri_flt e2)]
      exact ⟨X1, g206f_flt e2, e2⟩
  · rw [show ((hd ts).1 == 2) = false by simpa using h2, if_neg h2, rb_inl]
    obtain ⟨X1, e1, e2⟩ := ri_need (n := n) (b := false) hR hbr
    rw [if_neg (by decide)] at e2
    rw [e1]
    dsimp only [Option.bind_some]
    rw [newP_flt (ri_flt e2)]
    dsimp only [Option.bind_some]
    rw [if_neg (ri_flt e2)]
    exact ⟨X1, g206f_flt e2, e2⟩
end
end ZRT3

/-! THE CLASS JUDGES: what holds -/
section ZKO
section
variable {n : Nat} {Y Y1 : zY} {a b s jd k : Nat} {S : List Nat} {t o : Tk} {K : KL} {w u : List Int32} {v0 v1 vI vW vY : List Value} {A : Nat → Nat} {ans sg : Int32} {bs : List Bool} {nm on fi nx : Value} {φ : Den} {F : List Nat}
theorem zb2 {x : Bool} : zrtn .boolean (b2 x) = true := by cases x <;> rfl
theorem AMC_r {os : List Tk} {v : Value} (h : AMC Y os v .null F) : ∃ r, v = va_rf r := by
  cases os with
  | nil => exact ⟨none, h.1⟩
  | cons o os => obtain ⟨a, _, _, _, e, _⟩ := h; exact ⟨some a, e⟩
theorem PCH_r {h : Nat} {ds : List Den} {v : Value} (q : PCH (PRT Y h) ds v .null F) : ∃ r, v = va_rf r := by
  cases ds with
  | nil => exact ⟨none, q.1⟩
  | cons d ds => obtain ⟨a, _, _, _, e, _⟩ := q; exact ⟨some a, e⟩
/-- a test -/
def TSB (Y : zY) (s : Nat) (nm on fi : Value) (F : List Nat) (φ : Den) : Prop := ∃ w wt, nm = .ref wt ∧ RNm Y wt w ∧ ((s = 42 ∧ F = [] ∧ φ = dTest 42 w (false, 0, [])) ∨ (F = [] ∧ ∃ ot o, on = .ref ot ∧ RTk Y ot o ∧ tsO s o ∧ φ = dTest s w (thg o)) ∨ (s = 41 ∧ ∃ ot o os, on = .ref ot ∧ RTk Y ot o ∧ (o.1 = 3 ∨ o.1 = 4) ∧ AMC Y os fi .null F ∧ φ = dAmong w (thg o :: os.map thg)))
theorem pas_ok (h : JDG Y jd A K vI vW vY ans) (hF : FXY Y) (hD : DM Y) (hn : 6002 ≤ n) (hN : Y.2.1 + 2 ≤ n) (ha : Y.1 a = some (oB 3 [.ref (s + 1), nm, on, .int sg, fi, nx])) (hT : TSB Y s nm on fi F φ) : c152 n jd (some a) Y = some (b2 (φ (K, bs)), Y) := by
  obtain ⟨w, wt, rfl, ⟨tw, hw, htw⟩, hC⟩ := hT
  obtain ⟨st, j1, j2, j3, j4, j5, j6, j7, j8⟩ := tk_txt hw
  rw [htw] at j2
  obtain ⟨ov, e153, hk⟩ := kth_ok (n := n) h j2 j3 hn
  have e152 : ∀ {R}, cb152_22 n jd (some a) ov Y = R → c152 n jd (some a) Y = R := by
    intro R hR
    unfold c152
    refine bnd_eq rfl (bnd_eq (yR_of (r := some wt) ha rfl) ?_)
    dsimp only
    exact bnd_eq (yR_of (r := some wt) ha rfl) (bnd_eq rfl (bnd_eq j1 (zgd_eq (jd_o h) (bnd_eq e153 hR))))
  refine e152 ?_
  unfold cb152_22
  cases hkn : kn K w with
  | none =>
    rw [hkn] at hk
    have hk : ov = none := hk
    subst hk
    dsimp only
    have : φ (K, bs) = false := by
      rcases hC with ⟨_, _, e⟩ | ⟨_, _, _, _, _, _, e⟩ | ⟨_, _, _, _, _, _, _, _, e⟩
      · rw [e]; unfold dTest; rw [hkn]
      · rw [e]; unfold dTest; rw [hkn]
      · rw [e]; unfold dAmong; rw [hkn]
    rw [this]
    rfl
  | some T =>
    rw [hkn] at hk
    obtain ⟨tt, t, rfl, ht, ht3, htT⟩ := hk
    obtain ⟨s1, i1, i2, i3, i4, i5, i6, i7, fx, i8⟩ := tk_txt ht
    dsimp only
    refine bnd_eq rfl (bnd_eq (yR_of (r := some (s + 1)) ha rfl) (bnd_eq (rEq_s (by omega) (by omega)) ?_))
    rcases hC with ⟨e42, _, eφ⟩ | ⟨_, ot, o, rfl, ho, hts, eφ⟩ | ⟨e41, ot, o, os, rfl, ho, ho3, hA, eφ⟩
    · rw [if_pos (decide_eq_true (by omega)), eφ]
      unfold dTest
      rw [hkn]
      rfl
    · obtain ⟨s2, q1, q2, q3, q4, q5, q6, q7, q8⟩ := tk_txt ho
      have hs : 35 ≤ s ∧ s ≤ 40 := by
        rcases hts with ⟨e, _⟩ | ⟨e, _⟩ | ⟨e, _⟩ <;> omega
      rw [if_neg (by rw [decide_eq_false (by omega)]; decide)]
      refine bnd_eq (yR_of (r := some ot) ha rfl) ?_
      dsimp only
      refine bnd_eq (yR_of (r := some (s + 1)) ha rfl) (bnd_eq (rEq_s (by omega) (by omega)) ?_)
      have hφ : φ (K, bs) = (if s = 42 then true
        else if s = 35 then same T (thg o)
        else if s = 36 then !T.1 && decide (T.2.1 < (thg o).2.1)
        else if s = 37 then !T.1 && decide ((thg o).2.1 < T.2.1)
        else if s = 38 then T.1 && std T.2.2 (thg o).2.2 0
        else if s = 39 then T.1 && (decide ((thg o).2.2.length ≤ T.2.2.length) && std T.2.2 (thg o).2.2 (T.2.2.length - (thg o).2.2.length))
        else T.1 && (List.range (T.2.2.length + 1)).any (fun k => std T.2.2 (thg o).2.2 k)) := by
        rw [eφ]; unfold dTest; rw [hkn]
      rw [hφ, if_neg (show ¬ s = 42 by omega), ← htT]
      by_cases e35 : s = 35
      · rw [if_pos (decide_eq_true (by omega)), if_pos e35]
        have ho3 : o.1 = 3 ∨ o.1 = 4 := by
          rcases hts with ⟨_, e⟩ | ⟨e, _⟩ | ⟨e, _⟩
          · exact e
          · omega
          · omega
        refine zgd_eq (yisO_of i8) (bnd_eq (sam_ok ht ho ht3 ho3 hn) (zgd_eq zb2 rfl))
      rw [if_neg (by rw [decide_eq_false (by omega)]; decide), if_neg e35]
      refine bnd_eq (yR_of (r := some (s + 1)) ha rfl) (bnd_eq (rEq_s (by omega) (by omega)) ?_)
      rw [if_neg (by rw [decide_eq_false (by omega)]; decide)]
      refine bnd_eq i4 (bnd_eq q4 (bnd_eq (rEq_s (by omega) (by omega)) ?_))
      have hosort : (s ≤ 37 → o.1 = 3) ∧ (38 ≤ s → o.1 = 4) := by
        rcases hts with ⟨e, _⟩ | ⟨e, e'⟩ | ⟨e, e'⟩
        · omega
        · exact ⟨fun _ => e', fun _ => by omega⟩
        · exact ⟨fun _ => by omega, fun _ => e'⟩
      by_cases hso : t.1 = o.1
      · rw [if_pos (decide_eq_true (by omega))]
        have e66 : c66 n (s + 1) Y = some (nI s, Y) := by unfold c66; exact bnd_eq (yI_of (fx_sort hF (by omega)) rfl) rfl
        refine bnd_eq (yR_of (r := some (s + 1)) ha rfl) (bnd_eq rfl (zgd_eq (yisO_of (fx_sort hF (by omega))) (bnd_eq e66 (bnd_eq (fx_sw hF (by omega)) ?_))))
        dsimp only
        by_cases e36 : s = 36
        · subst e36
          have h3 : t.1 = 3 := by rw [hso]; exact hosort.1 (by omega)
          rw [if_pos (show swL.getD 36 0 = 6 from rfl), if_pos rfl]
          refine bnd_eq i5 (bnd_eq q5 ?_)
          show _ = some (b2 (!(t.1 == 4) && decide (t.2.2.2 < o.2.2.2)), Y)
          rw [h3]
          by_cases c : o.2.2.2 ≤ t.2.2.2
          · rw [if_pos c, decide_eq_false (Int32.not_lt.mpr c)]; rfl
          · rw [if_neg c, decide_eq_true (Int32.not_le.mp c)]; rfl
        rw [if_neg e36]
        by_cases e37 : s = 37
        · subst e37
          have h3 : t.1 = 3 := by rw [hso]; exact hosort.1 (by omega)
          rw [if_neg (show ¬ swL.getD 37 0 = 6 by decide), if_pos (show swL.getD 37 0 = 7 from rfl), if_pos rfl]
          refine bnd_eq i5 (bnd_eq q5 ?_)
          show _ = some (b2 (!(t.1 == 4) && decide (o.2.2.2 < t.2.2.2)), Y)
          rw [h3]
          by_cases c : t.2.2.2 ≤ o.2.2.2
          · rw [if_pos c, decide_eq_false (Int32.not_lt.mpr c)]; rfl
          · rw [if_neg c, decide_eq_true (Int32.not_le.mp c)]; rfl
        rw [if_neg e37]
        have h4 : o.1 = 4 := hosort.2 (by omega)
        have h4' : t.1 = 4 := by omega
        have x1 : ttx t = t.2.2.1 := by unfold ttx; rw [if_neg (by omega)]
        have x2 : ttx o = o.2.2.1 := by unfold ttx; rw [if_neg (by omega)]
        have l1 := i7.2.1
        have l2 := q7.2.1
        rw [x1] at i2 l1
        rw [x2] at q2 l2
        have hT1 : (thg t).1 = true := by show (t.1 == 4) = true; rw [h4']; rfl
        rw [hT1]
        by_cases e38 : s = 38
        · subst e38
          rw [if_neg (show ¬ swL.getD 38 0 = 6 by decide), if_neg (show ¬ swL.getD 38 0 = 7 by decide), if_pos (show swL.getD 38 0 = 8 from rfl), if_pos rfl]
          refine bnd_eq i1 (bnd_eq q1 (bnd_eq (stn_ok (k := 0) i2 q2 (by omega) (by omega) (by omega) hn) (zgd_eq zb2 ?_)))
          rfl
        rw [if_neg e38]
        by_cases e39 : s = 39
        · subst e39
          rw [if_neg (show ¬ swL.getD 39 0 = 6 by decide), if_neg (show ¬ swL.getD 39 0 = 7 by decide), if_neg (show ¬ swL.getD 39 0 = 8 by decide), if_pos (show swL.getD 39 0 = 9 from rfl), if_pos rfl]
          refine bnd_eq i1 (bnd_eq q1 (bnd_eq i1 (bnd_eq rfl (zgd_eq (isO_s i2) (bnd_eq (c55_of i2) (bnd_eq q1 (bnd_eq rfl (zgd_eq (isO_s q2) (bnd_eq (c55_of q2) ?_)))))))))
          dsimp only
          show _ = some (b2 (true && (decide (o.2.2.1.length ≤ t.2.2.1.length) && std t.2.2.1 o.2.2.1 (t.2.2.1.length - o.2.2.1.length))), Y)
          by_cases c : o.2.2.1.length ≤ t.2.2.1.length
          · rw [nI_sub_le c, decide_eq_true c]
            exact bnd_eq (stn_ok i2 q2 (by omega) (by omega) (by omega) hn) (zgd_eq zb2 (by rw [Bool.true_and, Bool.true_and]))
          · rw [decide_eq_false c]
            exact bnd_eq (stn_m (nI_sub_neg (by omega) (by omega))) rfl
        have e40 : s = 40 := by omega
        subst e40
        rw [if_neg (show ¬ swL.getD 40 0 = 6 by decide), if_neg (show ¬ swL.getD 40 0 = 7 by decide), if_neg (show ¬ swL.getD 40 0 = 8 by decide), if_neg (show ¬ swL.getD 40 0 = 9 by decide), if_neg (by decide)]
        refine bnd_eq i1 (bnd_eq q1 (bnd_eq (sti_ok i2 q2 (by omega) (by omega) hn) (zgd_eq zb2 ?_)))
        rw [Bool.true_and]
        rfl
      · rw [if_neg (by rw [decide_eq_false (by omega)]; decide)]
        have hz : ∀ b : Bool, (s ≤ 37 → b = (!(thg t).1 && b)) → True := fun _ _ => trivial
        by_cases e37 : s ≤ 37
        · have h3 := hosort.1 e37
          have h4' : t.1 = 4 := by omega
          have hT1 : (thg t).1 = true := by show (t.1 == 4) = true; rw [h4']; rfl
          rw [hT1]
          by_cases e36 : s = 36
          · rw [if_pos e36]; rfl
          · rw [if_neg e36, if_pos (by omega)]; rfl
        · have h3 := hosort.2 (by omega)
          have h4' : t.1 = 3 := by omega
          have hT1 : (thg t).1 = false := by show (t.1 == 4) = false; rw [h4']; rfl
          rw [hT1, if_neg (by omega), if_neg (by omega)]
          by_cases e38 : s = 38
          · rw [if_pos e38]; rfl
          · rw [if_neg e38]
            by_cases e39 : s = 39
            · rw [if_pos e39]; rfl
            · rw [if_neg e39]; rfl
    · subst e41
      obtain ⟨r, rfl⟩ := AMC_r hA
      rw [if_neg (by decide)]
      refine bnd_eq (yR_of (r := some ot) ha rfl) ?_
      dsimp only
      refine bnd_eq (yR_of (r := some (41 + 1)) ha rfl) (bnd_eq (rEq_s (by omega) (by omega)) ?_)
      rw [if_neg (by decide)]
      refine bnd_eq (yR_of (r := some (41 + 1)) ha rfl) (bnd_eq (rEq_s (by omega) (by omega)) ?_)
      rw [if_pos (by decide)]
      have hφ : φ (K, bs) = (same (thg t) (thg o) || (os.map thg).any (fun o => same (thg t) o)) := by
        rw [eφ]; unfold dAmong; rw [hkn, ← htT]; rfl
      rw [hφ]
      have e155 : c155 n (some tt) (some a) Y = some (b2 (same (thg t) (thg o) || (os.map thg).any (fun o => same (thg t) o)), Y) := by
        unfold c155
        refine bnd_eq rfl (bnd_eq (yR_of (r := some ot) ha rfl) ?_)
        dsimp only
        refine bnd_eq (yR_of (r := some ot) ha rfl) (bnd_eq rfl (zgd_eq (yisO_of i8) (bnd_eq (sam_ok ht ho ht3 ho3 hn) ?_)))
        dsimp only
        cases hs : same (thg t) (thg o) with
        | true => rw [if_neg (by decide)]; rfl
        | false =>
          rw [if_pos b2_f, Bool.false_or]
          unfold cb155_20
          obtain ⟨as, g1, g2⟩ := AMC_n hA
          have := NCH_len hD g1
          exact bnd_eq rfl (bnd_eq (yR_of (r := r) ha rfl) (amc_c ht ht3 hn n (by omega) hA))
      exact bnd_eq e155 (zgd_eq zb2 rfl)
theorem yaB_of {v : Int32} {vs : List Value} {j : Nat} (h : Y.1 a = some (oA 2 vs)) (hj : j < 2 ^ 31) (hv : vs[j]? = some (.int v)) : yaB Y a (nI j) = some v := by
  unfold yaB
  rw [yal_of h rfl hj, zg_eq, hv]
  rfl
/-- which segments hold, as far as it was worked out -/
def INc (vI : List Value) (bs : List Bool) : Prop := ∀ j : Nat, j < 12 → vI[j]? = some (Value.int (b2 (bs.getD j false)))
theorem ins_ok {i : Nat} (h : JDG Y jd A K vI vW vY ans) (hI : INc vI bs) (hi : i < 12) : c151 n jd (nI i) Y = some (b2 (bs.getD i false), Y) := by
  obtain ⟨g1, g2, _, _, _, _, g7, g8, g9, _⟩ := h
  unfold c151
  refine bnd_eq (yR_of (r := some (A 3)) g1 rfl) (bnd_eq rfl (bnd_eq (yL_of g7) ?_))
  rw [g8]
  refine bnd_eq (bel hi (by omega)) ?_
  dsimp only
  rw [if_neg (by decide)]
  refine bnd_eq (yR_of (r := some (A 3)) g1 rfl) (bnd_eq rfl (bnd_eq (yaB_of g7 (by omega) (hI i hi)) ?_))
  cases bs.getD i false with
  | true => rw [if_neg (by decide)]; rfl
  | false => rw [if_pos b2_f]; rfl
/-- the members of a row -/
theorem mem_l {hh : Nat} {d : Nat} {E : Env} {dc : Bool} {l1 : Option Nat} {g150 : Nat → Option Nat → Int32 → zY → Option (Int32 × zY)} (hjd : yisO Y jd 1 = true) (hM : ∀ {a : Nat} {φ : Den} {nx : Value} {F : List Nat}, PRT Y hh a φ nx F → g150 jd (some a) (nI d + 1) Y = some (b2 (φ E), Y)) : ∀ (fu : Nat) {ds : List Den} {v : Option Nat} {F : List Nat}, ds.length < fu → PCH (PRT Y hh) ds (va_rf v) .null F → cf150_118 n g150 fu jd l1 (nI d) (b2 dc) v Y = some (b2 (if dc = true then ds.any (fun x => x E) else ds.all (fun x => x E)), Y)
  | 0, ds, v, F, h, _ => by omega
  | fu + 1, ds, v, F, hfu, h => by
    show cb150_118 n g150 (cf150_118 n g150 fu) jd l1 (nI d) (b2 dc) v Y = _
    unfold cb150_118
    cases ds with
    | nil =>
      have e : va_rf v = .null := h.1
      cases v with
      | some a => cases e
      | none =>
        dsimp only
        cases dc with
        | true => rw [if_neg (by decide)]; rfl
        | false => rw [if_pos b2_f]; rfl
    | cons x ds =>
      obtain ⟨a, nx', F1, F2, h1, h2, h3, h4⟩ := h
      obtain ⟨r, rfl⟩ := PCH_r h3
      cases v with
      | none => cases h1
      | some a' =>
        have : a' = a := by cases h1; rfl
        subst this
        dsimp only
        refine zgd_eq hjd (bnd_eq (hM h2) ?_)
        dsimp only
        have hcell : ∃ x0 x1 x2 x3 x4, Y.1 a' = some (oB 3 [x0, x1, x2, x3, x4, va_rf r]) := by
          cases hh with
          | zero => exact h2.elim
          | succ hh =>
            obtain ⟨s, nm, on, sg, fi, F', _, _, _, c1, _⟩ := h2
            exact ⟨_, _, _, _, _, c1⟩
        obtain ⟨x0, x1, x2, x3, x4, hcell⟩ := hcell
        have hrec := mem_l (dc := dc) (l1 := l1) hjd hM fu (ds := ds) (v := r) (by rw [List.length_cons] at hfu; omega) h3
        rw [List.any_cons, List.all_cons]
        cases hx : x E <;> cases dc
        · rw [if_pos rfl]
          exact zgd_eq zb2 rfl
        · rw [if_neg (by decide)]
          refine bnd_eq (yR_of (r := r) hcell rfl) ?_
          rw [Bool.false_or]
          exact hrec
        · rw [if_neg (by decide)]
          refine bnd_eq (yR_of (r := r) hcell rfl) ?_
          rw [Bool.true_and]
          exact hrec
        · rw [if_pos rfl]
          exact zgd_eq zb2 rfl
/-- holds -/
theorem hld_ok (h : JDG Y jd A K vI vW vY ans) (hI : INc vI bs) (hF : FXY Y) (hD : DM Y) (hn : 6002 ≤ n) (hN : Y.2.1 + 2 ≤ n) : ∀ (hh : Nat) {a k d : Nat} {φ : Den} {nx : Value} {F : List Nat}, PRT Y hh a φ nx F → hh ≤ k → d + hh ≤ 49 → cRH n k jd (some a) (nI d) Y = some (b2 (φ (K, bs)), Y)
  | 0, a, k, d, φ, nx, F, q, _, _ => q.elim
  | hh + 1, a, k, d, φ, nx, F, q, hk, hd => by
    obtain ⟨k', rfl⟩ : ∃ k', k = k' + 1 := ⟨k - 1, by omega⟩
    have hrec := fun {a : Nat} {φ : Den} {nx : Value} {F : List Nat} (q : PRT Y hh a φ nx F) => hld_ok h hI hF hD hn hN hh (k := k') (d := d + 1) q (by omega) (by omega)
    obtain ⟨(s : Nat), nm, on, sg, fi, F', e1, e2, e3, ha, hB⟩ := q
    have h43 : s < 43 := by
      rcases hB with ⟨e, _⟩ | ⟨e, _⟩ | ⟨e, _⟩ | ⟨e, _⟩ | ⟨w, wt, _, _, ⟨e, _⟩ | ⟨_, _, _, _, _, e, _⟩ | ⟨e, _⟩⟩
      · omega
      · omega
      · omega
      · omega
      · omega
      · rcases e with ⟨e, _⟩ | ⟨e, _⟩ | ⟨e, _⟩ <;> omega
      · omega
    show cb150 n (cRH n k') jd (some a) (nI d) Y = _
    unfold cb150
    rw [if_pos (show nI d ≤ (48 : Int32) from (nI_le (show d ≤ 48 by omega) (by omega) : nI d ≤ nI 48))]
    have e66 : c66 n (s + 1) Y = some (nI s, Y) := by unfold c66; exact bnd_eq (yI_of (fx_sort hF h43) rfl) rfl
    refine bnd_eq rfl (bnd_eq (yR_of (r := some (s + 1)) ha rfl) (bnd_eq rfl (zgd_eq (yisO_of (fx_sort hF h43)) (bnd_eq e66 (bnd_eq (fx_sw hF h43) ?_)))))
    dsimp only
    rcases hB with ⟨e, _, rfl⟩ | ⟨e, _, i, hi, rfl, rfl⟩ | ⟨e, c, ψ, rfl, hc, rfl⟩ | ⟨e, ds, hds, rfl⟩ | hT
    · rcases e with rfl | rfl
      · rw [if_pos (show swL.getD 33 0 = 11 from rfl)]; rfl
      · rw [if_neg (show ¬ swL.getD 34 0 = 11 by decide), if_pos (show swL.getD 34 0 = 12 from rfl)]; rfl
    · subst e
      rw [if_neg (show ¬ swL.getD 29 0 = 11 by decide), if_neg (show ¬ swL.getD 29 0 = 12 by decide), if_pos (show swL.getD 29 0 = 13 from rfl)]
      exact bnd_eq (yI_of ha rfl) (zgd_eq (jd_o h) (bnd_eq (ins_ok h hI hi) (zgd_eq zb2 rfl)))
    · subst e
      rw [if_neg (show ¬ swL.getD 30 0 = 11 by decide), if_neg (show ¬ swL.getD 30 0 = 12 by decide), if_neg (show ¬ swL.getD 30 0 = 13 by decide), if_pos (show swL.getD 30 0 = 14 from rfl)]
      refine bnd_eq (yR_of (r := some c) ha rfl) ?_
      dsimp only
      refine bnd_eq (yR_of (r := some c) ha rfl) (zgd_eq (jd_o h) ?_)
      rw [nI_1]
      refine bnd_eq (hrec hc) ?_
      dsimp only
      cases ψ (K, bs) with
      | true => rw [if_neg (by decide)]; rfl
      | false => rw [if_pos b2_f]; rfl
    · obtain ⟨r, rfl⟩ := PCH_r hds
      obtain ⟨as, g1, g2⟩ := PCH_n hds
      have hl := NCH_len hD g1
      have hrow : ∀ dc : Bool, cb150_111 n (cRH n k') jd (some a) (nI d) (b2 dc) Y = some (b2 (if dc = true then ds.any (fun x => x (K, bs)) else ds.all (fun x => x (K, bs))), Y) := by
        intro dc
        unfold cb150_111
        exact bnd_eq rfl (bnd_eq (yR_of (r := r) ha rfl) (mem_l (E := (K, bs)) (jd_o h) (fun q => by rw [nI_1]; exact hrec q) n (by omega) hds))
      rcases e with rfl | rfl
      · rw [if_neg (show ¬ swL.getD 31 0 = 11 by decide), if_neg (show ¬ swL.getD 31 0 = 12 by decide), if_neg (show ¬ swL.getD 31 0 = 13 by decide), if_neg (show ¬ swL.getD 31 0 = 14 by decide), if_pos (show swL.getD 31 0 = 15 from rfl)]
        refine bnd_eq (yR_of (r := some (31 + 1)) ha rfl) (bnd_eq (rEq_s (by omega) (by omega)) ?_)
        rw [if_pos (by decide)]
        have := hrow true
        rw [if_pos rfl] at this
        rw [if_pos rfl]
        exact this
      · rw [if_neg (show ¬ swL.getD 32 0 = 11 by decide), if_neg (show ¬ swL.getD 32 0 = 12 by decide), if_neg (show ¬ swL.getD 32 0 = 13 by decide), if_neg (show ¬ swL.getD 32 0 = 14 by decide), if_neg (show ¬ swL.getD 32 0 = 15 by decide), if_pos (show swL.getD 32 0 = 16 from rfl)]
        refine bnd_eq (yR_of (r := some (32 + 1)) ha rfl) (bnd_eq (rEq_s (by omega) (by omega)) ?_)
        rw [if_neg (by decide)]
        have := hrow false
        rw [if_neg (by decide)] at this
        rw [if_neg (by decide)]
        exact this
    · have hs : s = 42 ∨ s = 41 ∨ (35 ≤ s ∧ s ≤ 40) := by
        obtain ⟨w, wt, _, _, ⟨e, _⟩ | ⟨_, _, _, _, _, e, _⟩ | ⟨e, _⟩⟩ := hT
        · exact Or.inl e
        · rcases e with ⟨e, _⟩ | ⟨e, _⟩ | ⟨e, _⟩ <;> omega
        · exact Or.inr (Or.inl e)
      have hsw : ∀ s : Fin 43, (s.1 = 42 ∨ s.1 = 41 ∨ (35 ≤ s.1 ∧ s.1 ≤ 40)) → swL.getD s.1 0 ≠ 11 ∧ swL.getD s.1 0 ≠ 12 ∧ swL.getD s.1 0 ≠ 13 ∧ swL.getD s.1 0 ≠ 14 ∧ swL.getD s.1 0 ≠ 15 ∧ swL.getD s.1 0 ≠ 16 := by decide
      obtain ⟨n1, n2, n3, n4, n5, n6⟩ := hsw ⟨s, h43⟩ hs
      rw [if_neg n1, if_neg n2, if_neg n3, if_neg n4, if_neg n5, if_neg n6]
      exact zgd_eq (jd_o h) (bnd_eq (pas_ok h hF hD hn hN ha hT) (zgd_eq zb2 rfl))
end
end ZKO

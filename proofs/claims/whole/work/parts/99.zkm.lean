/-! THE CLASS JUDGES: numbers as they are written, what is known -/
section ZKM
def dval (l : List Int32) : Nat := l.foldl (fun a x => 10 * a + (x.toInt.toNat - 48)) 0
theorem dval_n : ∀ (k m : Nat), 0 < k → m < 10 ^ k → dval (dcN k m) = m
  | 0, m, h, _ => by omega
  | k + 1, m, _, hm => by
    unfold dcN
    by_cases h : m < 10
    · rw [if_pos h]
      show 10 * 0 + ((nI (48 + m)).toInt.toNat - 48) = m
      rw [nI_tn (by omega)]
      omega
    · rw [if_neg h]
      have hk : 0 < k := by
        rcases Nat.eq_zero_or_pos k with e | e
        · subst e; simp at hm; omega
        · exact e
      have hq : m / 10 < 10 ^ k := by
        rw [Nat.pow_succ] at hm
        exact Nat.div_lt_of_lt_mul (by omega)
      unfold dval
      rw [List.foldl_append]
      show 10 * dval (dcN k (m / 10)) + ((nI (48 + m % 10)).toInt.toNat - 48) = m
      rw [dval_n k (m / 10) hk hq, nI_tn (by omega)]
      omega
theorem dcN_45 : ∀ (k m : Nat), (45 : Int32) ∉ dcN k m
  | 0, m, h => by cases h
  | k + 1, m, h => by
    unfold dcN at h
    have hd : ∀ d, d < 10 → (45 : Int32) ≠ nI (48 + d) := by
      intro d hd e
      have := congrArg Int32.toInt e
      rw [nI_toInt (by omega)] at this
      have h45 : (45 : Int32).toInt = 45 := by decide
      omega
    by_cases c : m < 10
    · rw [if_pos c] at h
      exact hd m c (List.mem_singleton.mp h)
    · rw [if_neg c] at h
      rcases List.mem_append.mp h with q | q
      · exact dcN_45 k (m / 10) q
      · exact hd (m % 10) (by omega) (List.mem_singleton.mp q)
theorem dcI_inj {a b : Int32} (ha : a.toInt.natAbs ≤ 999999999) (hb : b.toInt.natAbs ≤ 999999999) (e : dcI a = dcI b) : a = b := by
  unfold dcI at e
  have key : dcN 11 a.toInt.natAbs = dcN 11 b.toInt.natAbs → a.toInt.natAbs = b.toInt.natAbs := fun q => by
    have := congrArg dval q
    rw [dval_n 11 _ (by omega) (by omega), dval_n 11 _ (by omega) (by omega)] at this
    exact this
  apply Int32.toInt_inj.mp
  have hz : (0 : Int32).toInt = 0 := by decide
  by_cases na : a < 0
  · rw [if_pos na] at e
    by_cases nb : b < 0
    · rw [if_pos nb] at e
      have := key (List.append_cancel_left e)
      rw [Int32.lt_iff_toInt_lt] at na nb
      omega
    · rw [if_neg nb] at e
      exfalso
      apply dcN_45 11 b.toInt.natAbs
      have e : 45 :: dcN 11 a.toInt.natAbs = dcN 11 b.toInt.natAbs := e
      rw [← e]
      exact List.mem_cons_self
  · rw [if_neg na] at e
    by_cases nb : b < 0
    · rw [if_pos nb] at e
      exfalso
      apply dcN_45 11 a.toInt.natAbs
      have e : dcN 11 a.toInt.natAbs = 45 :: dcN 11 b.toInt.natAbs := e
      rw [e]
      exact List.mem_cons_self
    · rw [if_neg nb] at e
      have := key e
      rw [Int32.lt_iff_toInt_lt] at na nb
      omega
section
variable {n : Nat} {Y Y1 : zY} {a b s jd k : Nat} {S : List Nat} {t u : Tk} {K : KL} {w v : List Int32} {v0 v1 vI vW vY : List Value} {A : Nat → Nat} {ans : Int32} {bs : List Bool}
/-- what is known -/
def KNW (Y : zY) (v0 v1 : List Value) (K : KL) : Prop := K.length ≤ 8 ∧ v0.length = 8 ∧ v1.length = 8 ∧ ∀ (k : Nat) (x : List Int32 × Thg), K[k]? = some x → ∃ (wt tt : Nat) (t : Tk), v0[k]? = some (.ref wt) ∧ RNm Y wt x.1 ∧ v1[k]? = some (.ref tt) ∧ RTk Y tt t ∧ (t.1 = 3 ∨ t.1 = 4) ∧ thg t = x.2
/-- the judge -/
def JDG (Y : zY) (jd : Nat) (A : Nat → Nat) (K : KL) (vI vW vY : List Value) (ans : Int32) : Prop := Y.1 jd = some (oB 1 [.ref (A 0), .ref (A 1), .int (nI K.length), .ref (A 3), .ref (A 4), .ref (A 5), .int ans]) ∧ 139 ≤ jd ∧ (∃ v0 v1, Y.1 (A 0) = some (oA 14 v0) ∧ Y.1 (A 1) = some (oA 14 v1) ∧ KNW Y v0 v1 K) ∧ A 0 ≠ A 1 ∧ 139 ≤ A 0 ∧ 139 ≤ A 1 ∧ Y.1 (A 3) = some (oA 2 vI) ∧ vI.length = 12 ∧ 139 ≤ A 3 ∧ Y.1 (A 4) = some (oA 0 vW) ∧ vW.length = 24 ∧ 139 ≤ A 4 ∧ Y.1 (A 5) = some (oA 0 vY) ∧ vY.length = 5 ∧ 139 ≤ A 5
theorem KNW_k (h : KNW Y v0 v1 K) (hf : IMK Y Y1) : KNW Y1 v0 v1 K := by
  obtain ⟨h1, h2, h3, h4⟩ := h
  refine ⟨h1, h2, h3, fun k x hx => ?_⟩
  obtain ⟨wt, tt, t, g1, g2, g3, g4, g5⟩ := h4 k x hx
  exact ⟨wt, tt, t, g1, RNm_k hf g2, g3, RTk_k hf g4, g5⟩
theorem jd_o (h : JDG Y jd A K vI vW vY ans) : yisO Y jd 1 = true := yisO_of h.1
theorem yaR_of {r : Option Nat} {vs : List Value} {j ty : Nat} (h : Y.1 a = some (oA ty vs)) (hty : Nat.ble 5 ty = true) (hj : j < 2 ^ 31) (hv : vs[j]? = some (va_rf r)) : yaR Y a (nI j) = some r := by
  unfold yaR
  rw [yal_of h hty hj, zg_eq, hv]
  cases r <;> rfl
/-- where a name is known -/
theorem kno_l (h : JDG Y jd A K vI vW vY ans) (hs : Y.1 s = some (oS w)) (hs1 : 1 ≤ s) (hn : 6002 ≤ n) : ∀ (fu i : Nat), i ≤ K.length → K.length - i < fu → cf134_2 n fu jd (some s) (nI i) Y = some (ixI (((K.drop i).findIdx? (fun x => x.1 == w)).map (fun j => i + j)), Y)
  | 0, i, _, hf => by omega
  | fu + 1, i, hi, hf => by
    have hJ := h
    obtain ⟨g1, g2, ⟨v0, v1, g3, g4, k1, k2, k3, k4⟩, _⟩ := h
    show cb134_2 n (cf134_2 n fu) jd (some s) (nI i) Y = _
    unfold cb134_2
    refine bnd_eq (yI_of g1 rfl) ?_
    by_cases hz : K.length ≤ i
    · rw [if_pos (nI_le hz (by omega)), List.drop_eq_nil_of_le hz]
      rfl
    · have hlt : i < K.length := by omega
      rw [if_neg (nI_ge hlt (by omega))]
      have hx : K[i]? = some K[i] := List.getElem?_eq_getElem hlt
      obtain ⟨wt, tt, t, q1, ⟨tw, ⟨ew, nw, q2⟩, q3⟩, q4, q5⟩ := k4 i _ hx
      obtain ⟨st, j1, j2, j3, j4, j5, j6, j7, j8⟩ := tk_txt ⟨ew, nw, q2⟩
      refine bnd_eq (yR_of (r := some (A 0)) g1 rfl) (bnd_eq rfl (bnd_eq (yL_of g3) ?_))
      rw [k2, if_neg (nI_ge (show i < 8 by omega) (by omega))]
      refine bnd_eq (yR_of (r := some (A 0)) g1 rfl) (bnd_eq rfl (bnd_eq (yaR_of (r := some wt) g3 rfl (by omega) q1) ?_))
      dsimp only
      refine bnd_eq (yR_of (r := some (A 0)) g1 rfl) (bnd_eq rfl (bnd_eq (yaR_of (r := some wt) g3 rfl (by omega) q1) (bnd_eq rfl (bnd_eq j1 (bnd_eq rfl (zgd_eq (isO_s j2) (bnd_eq (eq_ok j2 hs j3 hs1 (by have := j7.2.1; omega) hn) ?_)))))))
      dsimp only
      rw [List.drop_eq_getElem_cons hlt, List.findIdx?_cons, q3]
      by_cases hu : K[i].1 = w
      · rw [if_pos hu, if_neg (by decide), show (K[i].1 == w) = true by simpa using hu]
        rfl
      · rw [if_neg hu, if_pos (show (0 : Int32) = 0 from rfl), show (K[i].1 == w) = false by simpa using hu]
        unfold cb134_46
        rw [nI_1, kno_l hJ hs hs1 hn fu (i + 1) (by omega) (by omega)]
        cases (K.drop (i + 1)).findIdx? (fun x => x.1 == w) with
        | none => rfl
        | some j => show some (nI (i + 1 + j), Y) = some (nI (i + (j + 1)), Y); rw [show i + 1 + j = i + (j + 1) by omega]
theorem kno_ok (h : JDG Y jd A K vI vW vY ans) (hs : Y.1 s = some (oS w)) (hs1 : 1 ≤ s) (hn : 6002 ≤ n) : c134 n jd (some s) Y = some (ixI (knf K w), Y) := by
  obtain ⟨_, _, ⟨v0, v1, _, _, k1, _⟩, _⟩ := id h
  unfold c134
  have := kno_l (n := n) h hs hs1 hn n 0 (by omega) (by omega)
  rw [show (0 : Int32) = nI 0 from rfl, this]
  unfold knf
  rw [List.drop_zero]
  cases K.findIdx? (fun x => x.1 == w) with
  | none => rfl
  | some j => show some (nI (0 + j), Y) = some (nI j, Y); rw [Nat.zero_add]
/-- the thing that a name is known as -/
def KTH (Y : zY) (o : Option Nat) (r : Option Thg) : Prop := match r with
  | none => o = none
  | some T => ∃ tt t, o = some tt ∧ RTk Y tt t ∧ (t.1 = 3 ∨ t.1 = 4) ∧ thg t = T
theorem kth_ok (h : JDG Y jd A K vI vW vY ans) (hs : Y.1 s = some (oS w)) (hs1 : 1 ≤ s) (hn : 6002 ≤ n) : ∃ o, c153 n jd (some s) Y = some (o, Y) ∧ KTH Y o (kn K w) := by
  have hk := kno_ok (n := n) h hs hs1 hn
  obtain ⟨g1, g2, ⟨v0, v1, g3, g4, k1, k2, k3, k4⟩, _⟩ := id h
  cases hf : knf K w with
  | none =>
    rw [hf] at hk
    refine ⟨none, ?_, by rw [knf_no hf]; rfl⟩
    unfold c153
    refine zgd_eq (jd_o h) (bnd_eq hk (bnd_eq (yR_of (r := some (A 1)) g1 rfl) (bnd_eq rfl (bnd_eq (yL_of g4) ?_))))
    have : c13 n (ixI none) (nI v1.length) Y = some (0, Y) := by
      unfold c13
      rw [if_pos (by decide)]
    exact bnd_eq this rfl
  | some k =>
    rw [hf] at hk
    obtain ⟨x, hx, hxw, hkn⟩ := knf_lt hf
    have hlt := lt_of_get hx
    obtain ⟨wt, tt, t, q1, q2, q3, q4, q5, q6⟩ := k4 k x hx
    refine ⟨some tt, ?_, by rw [hkn]; exact ⟨tt, t, rfl, q4, q5, q6⟩⟩
    unfold c153
    refine zgd_eq (jd_o h) (bnd_eq hk (bnd_eq (yR_of (r := some (A 1)) g1 rfl) (bnd_eq rfl (bnd_eq (yL_of g4) ?_))))
    rw [k3]
    refine bnd_eq (bel (show k < 8 by omega) (by omega)) ?_
    dsimp only
    rw [if_neg (by decide)]
    exact bnd_eq (yR_of (r := some (A 1)) g1 rfl) (bnd_eq rfl (bnd_eq (yaR_of (r := some tt) g4 rfl (by omega) q3) rfl))
/-- the same thing -/
theorem sam_ok (ha : RTk Y a t) (hb : RTk Y b u) (h3 : t.1 = 3 ∨ t.1 = 4) (h4 : u.1 = 3 ∨ u.1 = 4) (hn : 6002 ≤ n) : c154 n a (some b) Y = some (b2 (same (thg t) (thg u)), Y) := by
  obtain ⟨s1, j1, j2, j3, j4, j5, j6, j7, j8⟩ := tk_txt ha
  obtain ⟨s2, i1, i2, i3, i4, i5, i6, i7, i8⟩ := tk_txt hb
  unfold c154
  refine bnd_eq j4 (bnd_eq rfl (bnd_eq i4 (bnd_eq (rEq_s (by omega) (by omega)) ?_)))
  by_cases hs : t.1 = u.1
  · rw [if_pos (decide_eq_true (by omega))]
    refine bnd_eq j1 (bnd_eq i1 (bnd_eq rfl (zgd_eq (isO_s j2) (bnd_eq (eq_ok j2 i2 j3 i3 (by have := j7.2.1; omega) hn) ?_))))
    dsimp only
    have key : (ttx t = ttx u) ↔ same (thg t) (thg u) = true := by
      unfold same thg ttx
      rcases h3 with e | e
      · have e' : u.1 = 3 := by omega
        rw [if_pos e, if_pos e', e, e']
        show _ ↔ (true && (t.2.2.2 == u.2.2.2)) = true
        rw [Bool.true_and]
        refine ⟨fun q => ?_, fun q => ?_⟩
        · rw [dcI_inj j7.2.2 i7.2.2 q]; simp
        · rw [show t.2.2.2 = u.2.2.2 by simpa using q]
      · have e' : u.1 = 4 := by omega
        rw [if_neg (by omega), if_neg (by omega), e, e']
        show _ ↔ (true && (t.2.2.1 == u.2.2.1)) = true
        rw [Bool.true_and]
        simp
    by_cases hq : ttx t = ttx u
    · rw [if_pos hq, if_neg (by decide), key.mp hq]; rfl
    · rw [if_neg hq, if_pos rfl]
      cases hh : same (thg t) (thg u) with
      | false => rfl
      | true => exact absurd (key.mpr hh) hq
  · rw [if_neg (by rw [decide_eq_false (by omega)]; decide)]
    have : same (thg t) (thg u) = false := by
      unfold same thg
      rcases h3 with e | e <;> rcases h4 with e' | e'
      · omega
      · rw [e, e']; rfl
      · rw [e, e']; rfl
      · omega
    rw [this]
    rfl
end
end ZKM

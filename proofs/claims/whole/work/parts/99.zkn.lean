/-! THE CLASS JUDGES: what holds -/
section ZKN
section
variable {n : Nat} {Y Y1 : zY} {a b s jd k : Nat} {S : List Nat} {t o : Tk} {K : KL} {w u : List Int32} {v0 v1 vI vW vY : List Value} {A : Nat → Nat} {ans : Int32} {bs : List Bool}
theorem c55_of (h : Y.1 a = some (oS u)) : c55 n a Y = some (nI u.length, Y) := by
  unfold c55
  rw [h]
theorem c59_of {x : Int32} (h : Y.1 a = some (oS u)) (hk : k < 2 ^ 31) (hx : u[k]? = some x) : c59 n a (nI k) Y = some (x, Y) := by
  unfold c59
  rw [h]
  dsimp only
  rw [rd_nI hk, zg_eq, hx]
  rfl
/-- a piece stands at k -/
theorem stn_l (ha : Y.1 a = some (oS u)) (hb : Y.1 b = some (oS w)) (hl : k + w.length ≤ u.length) (hu : u.length ≤ 100) : ∀ (fu c : Nat), c ≤ w.length → w.length - c < fu → cf156_21 n fu (some a) (some b) (nI k) (nI c) Y = some (b2 (decide (((u.drop k).take w.length).drop c = w.drop c)), Y)
  | 0, c, _, h => by omega
  | fu + 1, c, hc, hfu => by
    show cb156_21 n (cf156_21 n fu) (some a) (some b) (nI k) (nI c) Y = _
    unfold cb156_21
    refine bnd_eq rfl (zgd_eq (isO_s hb) (bnd_eq (c55_of hb) ?_))
    dsimp only
    have hlen : ((u.drop k).take w.length).length = w.length := by rw [List.length_take, List.length_drop]; omega
    by_cases hz : c = w.length
    · rw [if_pos (by rw [hz]; exact Int32.le_refl _), List.drop_eq_nil_of_le (by omega), List.drop_eq_nil_of_le (show w.length ≤ c by omega)]
      rfl
    · have hlt : c < w.length := by omega
      rw [if_neg (nI_ge hlt (by omega)), nI_add]
      have h1 : u[k + c]? = some (u[k + c]'(by omega)) := List.getElem?_eq_getElem _
      have h2 : w[c]? = some w[c] := List.getElem?_eq_getElem hlt
      refine bnd_eq rfl (zgd_eq (isO_s ha) (bnd_eq (c59_of ha (by omega) h1) (zgd_eq (isO_s hb) (bnd_eq (c59_of hb (by omega) h2) ?_))))
      dsimp only
      have e1 : ((u.drop k).take w.length).drop c = (u[k + c]'(by omega)) :: ((u.drop k).take w.length).drop (c + 1) := by
        rw [List.drop_eq_getElem_cons (by omega)]
        congr 1
        rw [List.getElem_take, List.getElem_drop]
      rw [e1, List.drop_eq_getElem_cons hlt]
      by_cases hq : (u[k + c]'(by omega)) = w[c]
      · rw [if_pos hq, nI_1, stn_l ha hb hl hu fu (c + 1) (by omega) (by omega)]
        congr 2
        congr 1
        apply decide_eq_decide.mpr
        rw [hq]
        exact ⟨fun e => by rw [e], fun e => (List.cons.inj e).2⟩
      · rw [if_neg hq, decide_eq_false (fun e => hq (List.cons.inj e).1)]
        rfl
theorem stn_ok (ha : Y.1 a = some (oS u)) (hb : Y.1 b = some (oS w)) (hu : u.length ≤ 100) (hw : w.length ≤ 100) (hk : k ≤ 200) (hn : 6002 ≤ n) : c156 n (some a) (some b) (nI k) Y = some (b2 (std u w k), Y) := by
  unfold c156 std
  rw [if_neg (nI_pos (by omega))]
  refine bnd_eq rfl (zgd_eq (isO_s ha) (bnd_eq (c55_of ha) (bnd_eq rfl (zgd_eq (isO_s hb) (bnd_eq (c55_of hb) ?_)))))
  dsimp only
  by_cases hl : w.length ≤ u.length
  · rw [nI_sub_le hl]
    by_cases hq : k + w.length ≤ u.length
    · rw [if_pos (nI_le (by omega) (by omega)), show (0 : Int32) = nI 0 from rfl, stn_l ha hb hq hu n 0 (by omega) (by omega), decide_eq_true hq, Bool.true_and]
      rw [List.drop_zero, List.drop_zero]
      congr 2
      congr 1
      cases hh : (List.take w.length (List.drop k u) == w) with
      | true => exact decide_eq_true (by simpa using hh)
      | false => exact decide_eq_false (by simpa using hh)
    · rw [if_neg (nI_ge (by omega) (by omega)), decide_eq_false hq]
      rfl
  · have hneg := nI_sub_neg (a := u.length) (c := w.length) (by omega) (by omega)
    rw [if_neg (fun q => nI_pos (show k < 2 ^ 31 by omega) (Int32.lt_of_le_of_lt q hneg)), decide_eq_false (by omega)]
    rfl
theorem stn_m {d : Int32} (hd : d < 0) : c156 n (some a) (some b) d Y = some (0, Y) := by
  unfold c156
  rw [if_pos hd]
/-- a piece stands somewhere -/
theorem sti_l (ha : Y.1 a = some (oS u)) (hb : Y.1 b = some (oS w)) (hu : u.length ≤ 100) (hw : w.length ≤ 100) (hn : 6002 ≤ n) : ∀ (fu i : Nat), i ≤ u.length + 1 → u.length + 1 - i < fu → cf157_2 n fu (some a) (some b) (nI i) Y = some (b2 (((List.range (u.length + 1)).drop i).any (fun k => std u w k)), Y)
  | 0, i, _, h => by omega
  | fu + 1, i, hi, hfu => by
    show cb157_2 n (cf157_2 n fu) (some a) (some b) (nI i) Y = _
    unfold cb157_2
    refine bnd_eq rfl (zgd_eq (isO_s ha) (bnd_eq (c55_of ha) (bnd_eq rfl (zgd_eq (isO_s hb) (bnd_eq (c55_of hb) ?_)))))
    dsimp only
    have hno : u.length < i + w.length → (((List.range (u.length + 1)).drop i).any (fun k => std u w k)) = false := by
      intro h
      rw [List.any_eq_false]
      intro k hk
      have : i ≤ k := by
        obtain ⟨j, hj⟩ := List.mem_iff_getElem?.mp hk
        rw [List.getElem?_drop] at hj
        have hlt := (List.getElem?_eq_some_iff.mp hj).1
        rw [List.getElem?_eq_getElem hlt, List.getElem_range] at hj
        cases hj
        omega
      unfold std
      rw [decide_eq_false (by omega)]
      simp
    by_cases hl : w.length ≤ u.length
    · rw [nI_sub_le hl]
      by_cases hq : u.length - w.length < i
      · rw [if_pos ((nI_ltI (by omega) (by omega)).mpr hq), hno (by omega)]
        rfl
      · rw [if_neg (fun q => hq ((nI_ltI (by omega) (by omega)).mp q))]
        refine bnd_eq (stn_ok ha hb hu hw (by omega) hn) ?_
        dsimp only
        rw [range_drop (show i < u.length + 1 by omega), List.any_cons]
        cases hs : std u w i with
        | true => rw [if_neg (by decide)]; rfl
        | false => rw [if_pos b2_f, nI_1, sti_l ha hb hu hw hn fu (i + 1) (by omega) (by omega), Bool.false_or]
    · have hneg := nI_sub_neg (a := u.length) (c := w.length) (by omega) (by omega)
      rw [if_pos (Int32.lt_of_lt_of_le hneg (show (0 : Int32) ≤ nI i from Int32.not_lt.mp (nI_pos (by omega)))), hno (by omega)]
      rfl
theorem sti_ok (ha : Y.1 a = some (oS u)) (hb : Y.1 b = some (oS w)) (hu : u.length ≤ 100) (hw : w.length ≤ 100) (hn : 6002 ≤ n) : c157 n (some a) (some b) Y = some (b2 ((List.range (u.length + 1)).any (fun k => std u w k)), Y) := by
  unfold c157
  have := sti_l (n := n) ha hb hu hw hn n 0 (by omega) (by omega)
  rw [List.drop_zero] at this
  exact this
/-! chains by their ends -/
def NCH (Y : zY) : List Nat → Value → Prop
  | [], v => v = .null
  | a :: as, v => v = .ref a ∧ ∃ x0 x1 x2 x3 x4 nx, Y.1 a = some (oB 3 [x0, x1, x2, x3, x4, nx]) ∧ NCH Y as nx
theorem NCH_det : ∀ {as cs : List Nat} {v : Value}, NCH Y as v → NCH Y cs v → as = cs
  | [], [], _, _, _ => rfl
  | [], c :: cs, v, h1, h2 => by rw [h1] at h2; cases h2.1
  | a :: as, [], v, h1, h2 => by rw [h2] at h1; cases h1.1
  | a :: as, c :: cs, v, h1, h2 => by
    obtain ⟨e1, x0, x1, x2, x3, x4, nx, g1, g2⟩ := h1
    obtain ⟨e2, y0, y1, y2, y3, y4, ny, k1, k2⟩ := h2
    rw [e1] at e2
    cases e2
    rw [g1] at k1
    cases k1
    rw [NCH_det g2 k2]
theorem NCH_sub : ∀ {p : List Nat} {a : Nat} {q : List Nat} {v : Value}, NCH Y (p ++ a :: q) v → NCH Y (a :: q) (.ref a)
  | [], a, q, v, h => by
    have h : NCH Y (a :: q) v := h
    have e := h.1
    rw [e] at h
    exact h
  | b :: p, a, q, v, h => by
    obtain ⟨_, _, _, _, _, _, _, _, g⟩ := h
    exact NCH_sub (p := p) g
theorem NCH_nd : ∀ {as : List Nat} {v : Value}, NCH Y as v → as.Nodup
  | [], _, _ => List.nodup_nil
  | a :: as, v, h => by
    have h' := h
    obtain ⟨e, x0, x1, x2, x3, x4, nx, g1, g2⟩ := h'
    refine List.nodup_cons.mpr ⟨fun hm => ?_, NCH_nd g2⟩
    obtain ⟨p, q, rfl⟩ := List.append_of_mem hm
    rw [e] at h
    have h2 := NCH_sub (p := p) g2
    have := congrArg List.length (NCH_det h h2)
    rw [List.length_cons, List.length_append, List.length_cons] at this
    omega
theorem NCH_lt (hD : DM Y) : ∀ {as : List Nat} {v : Value}, NCH Y as v → ∀ a ∈ as, a < Y.2.1
  | [], _, _, a, h => by cases h
  | b :: as, v, h, a, ha => by
    obtain ⟨e, x0, x1, x2, x3, x4, nx, g1, g2⟩ := h
    rcases List.mem_cons.mp ha with d | d
    · rw [d]; exact hD.2 _ _ g1
    · exact NCH_lt hD g2 a d
theorem NCH_len (hD : DM Y) {as : List Nat} {v : Value} (h : NCH Y as v) : as.length ≤ Y.2.1 := nd_len Y.2.1 as (NCH_nd h) (NCH_lt hD h)
theorem AMC_n : ∀ {os : List Tk} {v : Value} {F : List Nat}, AMC Y os v .null F → ∃ as, NCH Y as v ∧ as.length = os.length
  | [], v, F, h => ⟨[], h.1, rfl⟩
  | o :: os, v, F, h => by
    obtain ⟨a, b, nx', F', h1, h2, h3, h4, h5, h6, h7⟩ := h
    obtain ⟨as, g1, g2⟩ := AMC_n h6
    exact ⟨a :: as, ⟨h1, _, _, _, _, _, _, h2, g1⟩, by rw [List.length_cons, List.length_cons, g2]⟩
theorem PCH_n {h : Nat} : ∀ {ds : List Den} {v : Value} {F : List Nat}, PCH (PRT Y h) ds v .null F → ∃ as, NCH Y as v ∧ as.length = ds.length
  | [], v, F, q => ⟨[], q.1, rfl⟩
  | d :: ds, v, F, q => by
    obtain ⟨a, nx', F1, F2, h1, h2, h3, h4⟩ := q
    obtain ⟨as, g1, g2⟩ := PCH_n h3
    cases h with
    | zero => exact h2.elim
    | succ h =>
      obtain ⟨s, nm, on, sg, fi, F', _, _, _, c1, _⟩ := h2
      exact ⟨a :: as, ⟨h1, _, _, _, _, _, _, c1, g1⟩, by rw [List.length_cons, List.length_cons, g2]⟩
/-- among: the further ones -/
theorem amc_c {x : Nat} {l1 : Option Nat} (hx : RTk Y x t) (h3 : t.1 = 3 ∨ t.1 = 4) (hn : 6002 ≤ n) : ∀ (fu : Nat) {os : List Tk} {v : Option Nat} {F : List Nat}, os.length < fu → AMC Y os (va_rf v) .null F → cf155_25 n fu (some x) l1 v Y = some (b2 ((os.map thg).any (fun o => same (thg t) o)), Y)
  | 0, os, v, F, h, _ => by omega
  | fu + 1, os, v, F, hfu, h => by
    show cb155_25 n (cf155_25 n fu) (some x) l1 v Y = _
    unfold cb155_25
    cases os with
    | nil =>
      have e : va_rf v = .null := h.1
      cases v with
      | none => rfl
      | some a => cases e
    | cons o os =>
      obtain ⟨a, b, nx', F', h1, h2, h3', h4, h5, h6, h7⟩ := h
      have hnx : ∃ r, nx' = va_rf r := by
        cases os with
        | nil => exact ⟨none, h6.1⟩
        | cons o' os' => obtain ⟨a', _, _, _, e, _⟩ := h6; exact ⟨some a', e⟩
      obtain ⟨r, rfl⟩ := hnx
      cases v with
      | none => cases h1
      | some a' =>
        have : a' = a := by cases h1; rfl
        subst this
        dsimp only
        refine bnd_eq (yR_of (r := some b) h2 rfl) ?_
        dsimp only
        obtain ⟨_, _, _, _, _, _, _, _, fx, hfx⟩ := tk_txt hx
        refine bnd_eq (yR_of (r := some b) h2 rfl) (bnd_eq rfl (zgd_eq (yisO_of hfx) (bnd_eq (sam_ok hx h4 h3 h5 hn) ?_)))
        dsimp only
        rw [List.map_cons, List.any_cons]
        cases hs : same (thg t) (thg o) with
        | true => rw [if_neg (by decide)]; rfl
        | false =>
          rw [if_pos b2_f, Bool.false_or]
          unfold cb155_49
          exact bnd_eq rfl (bnd_eq (yR_of (r := r) h2 rfl) (amc_c hx h3 hn fu (by rw [List.length_cons] at hfu; omega) h6))
end
end ZKN

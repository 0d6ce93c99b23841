/-! THE REFERENCE LOOKS AT WORDS -/
section ZRW
/-- words with a blank between -/
def joinW : List (List Int32) → List Int32
  | [] => []
  | [w] => w
  | w :: v :: ws => w ++ 32 :: joinW (v :: ws)
/-- the token is this word -/
def mtc (X : zX) (T : List Int32) (q : Nat) (w : List Int32) : Bool := decide (X.1 71 = nI w.length) && (List.range w.length).all (fun k => tAt T (q + k) == w.getD k 0)
section
variable {n a q : Nat} {X : zX} {T : List Int32} {c0 st : Int32}
theorem kS_len (h : kS a = true) : (cs a).length ≤ 1000 := by
  obtain ⟨h1, h2, vs, e1, e2, e3, e4⟩ := kS_spec h
  unfold cs
  rw [e2]
  dsimp only
  rw [List.length_map]
  exact e4
theorem l7s (hk : kS a = true) : ∀ (d k i : Nat), (∀ j, j < d → ∃ c, zg (cs a) (i + j) = some c ∧ c ≠ 32) → i + d ≤ (cs a).length → d ≤ k → gf199_7 n k a c0 st (nI i) X = gf199_7 n (k - d) a c0 st (nI (i + d)) X
  | 0, k, i, _, _, _ => rfl
  | d + 1, 0, i, _, _, h => by omega
  | d + 1, k + 1, i, hc, hl, h => by
    have hlen := kS_len hk
    obtain ⟨c, e, hn⟩ := hc 0 (by omega)
    show gb199_7 n (gf199_7 n k) a c0 st (nI i) X = _
    unfold gb199_7
    refine zgd_eq hk ?_
    rw [if_neg (nI_nlt (by omega) (by omega))]
    refine zgd_eq hk ?_
    rw [if_neg (by rw [nI_eq (by omega) (by omega)]; omega)]
    refine zgd_eq hk ?_
    rw [rd_nI (by omega)]
    rw [Nat.add_zero] at e
    rw [e]
    dsimp only [Option.bind_some]
    rw [if_neg hn]
    unfold gb199_129
    rw [nI_1, l7s hk d k (i + 1) (fun j hj => by have := hc (j + 1) (by omega); rw [show i + 1 + j = i + (j + 1) by omega]; exact this) (by omega) (by omega)]
    rw [show k + 1 - (d + 1) = k - d by omega, show i + (d + 1) = i + 1 + d by omega]
theorem l65 {q7 : Nat → Int32 → Int32 → Int32 → zX → Option (Int32 × zX)} {s e m : Nat} (hk : kS a = true) (hT : TP X T) (h70 : X.1 70 = nI q) (hq : q ≤ 6000) (h71 : X.1 71 = nI m) (hm : s + m ≤ (cs a).length) : ∀ (k c : Nat), c ≤ m → m - c < k → gf199_65 n q7 k a c0 (nI s) (nI e) 1 (nI c) X = if (List.range (m - c)).all (fun j => tAt T (q + (c + j)) == (cs a).getD (s + (c + j)) 0) = true then some (c0, X) else q7 a (c0 + 1) (nI (e + 1)) (nI (e + 1)) X
  | 0, c, _, h => by omega
  | k + 1, c, hc, h => by
    have hlen := kS_len hk
    show gb199_65 n q7 (gf199_65 n q7 k) a c0 (nI s) (nI e) 1 (nI c) X = _
    unfold gb199_65
    rw [h71]
    by_cases hz : c = m
    · subst hz
      rw [if_pos (Int32.le_refl _), Nat.sub_self]
      rfl
    · have hcm : c < m := by omega
      rw [if_neg (nI_ge hcm (by omega)), if_neg (by decide), h70, nI_add, at_eq hT (by omega)]
      dsimp only [Option.bind_some]
      refine zgd_eq hk ?_
      rw [nI_add, rd_nI (by omega), zg_eq, List.getElem?_eq_getElem (by omega)]
      dsimp only [Option.bind_some]
      have hr : (List.range (m - c)).all (fun j => tAt T (q + (c + j)) == (cs a).getD (s + (c + j)) 0) = ((tAt T (q + c) == (cs a)[s + c]'(by omega)) && (List.range (m - (c + 1))).all (fun j => tAt T (q + (c + 1 + j)) == (cs a).getD (s + (c + 1 + j)) 0)) := by
        rw [show m - c = (m - (c + 1)) + 1 by omega, List.range_succ_eq_map, List.all_cons, List.all_map, Nat.add_zero]
        congr 1
        · rw [List.getD_eq_getElem?_getD, List.getElem?_eq_getElem (by omega)]
          rfl
        · congr 1
          funext j
          show (tAt T (q + (c + (j + 1))) == (cs a).getD (s + (c + (j + 1))) 0) = _
          rw [show c + (j + 1) = c + 1 + j by omega]
      rw [hr]
      by_cases he : tAt T (q + c) = (cs a)[s + c]'(by omega)
      · rw [if_pos he]
        unfold gb199_106
        rw [nI_1, l65 hk hT h70 hq h71 hm k (c + 1) (by omega) (by omega), he]
        simp
      · rw [if_neg he]
        unfold gb199_106
        have hf : (tAt T (q + c) == (cs a)[s + c]'(by omega)) = false := by simpa using he
        rw [hf, Bool.false_and, if_neg (by decide)]
        cases k with
        | zero => omega
        | succ k =>
          show gb199_65 n q7 (gf199_65 n q7 k) a c0 (nI s) (nI e) 0 (nI c + 1) X = _
          unfold gb199_65 gb199_114 gb199_129
          rw [if_pos rfl, if_pos rfl]
          simp only [nI_1]
          split <;> rfl
theorem l36w {q7 : Nat → Int32 → Int32 → Int32 → zX → Option (Int32 × zX)} {s e : Nat} (hk : kS a = true) (hT : TP X T) (h70 : X.1 70 = nI q) (hq : q ≤ 6000) (hse : s ≤ e) (he : e ≤ (cs a).length) (hn : 1002 ≤ n) {w : List Int32} (hw : w = ((cs a).drop s).take (e - s)) : gb199_36 n q7 a c0 (nI s) (nI e) X = if X.1 69 = 1 ∧ mtc X T q w = true then some (c0, X) else q7 a (c0 + 1) (nI (e + 1)) (nI (e + 1)) X := by
  have hlen := kS_len hk
  have hwl : w.length = e - s := by rw [hw, List.length_take, List.length_drop]; omega
  have h59 : gb199_59 n q7 a c0 (nI s) (nI e) X = q7 a (c0 + 1) (nI (e + 1)) (nI (e + 1)) X := by
    unfold gb199_59 gb199_60
    cases n with
    | zero => omega
    | succ n =>
      show gb199_65 _ q7 (gf199_65 _ q7 n) a c0 (nI s) (nI e) 0 0 X = _
      unfold gb199_65 gb199_114 gb199_129
      rw [if_pos rfl, if_pos rfl, nI_1]
      split <;> rfl
  unfold gb199_36
  by_cases h69 : X.1 69 = 1
  · rw [if_pos h69, pk_sub hse]
    by_cases h71 : X.1 71 = nI (e - s)
    · rw [if_pos h71]
      unfold gb199_60
      rw [show (0 : Int32) = nI 0 from rfl, l65 hk hT h70 hq h71 (by omega) n 0 (by omega) (by omega)]
      have hm : mtc X T q w = (List.range (e - s - 0)).all (fun j => tAt T (q + (0 + j)) == (cs a).getD (s + (0 + j)) 0) := by
        unfold mtc
        rw [hwl, decide_eq_true h71, Bool.true_and, Nat.sub_zero]
        rw [Bool.eq_iff_iff, List.all_eq_true, List.all_eq_true]
        apply forall_congr'
        intro j
        constructor
        · intro h hj
          have h := h hj
          have hj' := List.mem_range.mp hj
          rw [hw] at h
          rw [Nat.zero_add]
          rw [List.getD_eq_getElem?_getD, List.getElem?_take, if_pos hj', List.getElem?_drop, ← List.getD_eq_getElem?_getD] at h
          exact h
        · intro h hj
          have h := h hj
          have hj' := List.mem_range.mp hj
          rw [hw]
          rw [Nat.zero_add] at h
          rw [List.getD_eq_getElem?_getD, List.getElem?_take, if_pos hj', List.getElem?_drop, ← List.getD_eq_getElem?_getD]
          exact h
      rw [← hm]
      by_cases hb : mtc X T q w = true
      · rw [if_pos hb, if_pos ⟨h69, hb⟩]
      · rw [if_neg hb, if_neg (fun z => hb z.2)]
    · rw [if_neg h71, h59, if_neg]
      intro z
      have := z.2
      unfold mtc at this
      rw [Bool.and_eq_true, decide_eq_true_eq, hwl] at this
      exact h71 this.1
  · rw [if_neg h69, h59, if_neg (fun z => h69 z.1)]
theorem l7 (hk : kS a = true) (hT : TP X T) (h70 : X.1 70 = nI q) (hq : q ≤ 6000) (hn : 1002 ≤ n) : ∀ (ws : List (List Int32)) (s j k : Nat), ws ≠ [] → (∀ w ∈ ws, ∀ c ∈ w, c ≠ 32) → s ≤ (cs a).length → (cs a).drop s = joinW ws → (cs a).length - s + 1 < k → gf199_7 n k a (nI j) (nI s) (nI s) X = some (if X.1 69 = 1 then (match ws.findIdx? (mtc X T q) with | some i => nI (j + i) | none => -1) else -1, X)
  | [], s, j, k, h, _, _, _, _ => absurd rfl h
  | w :: ws, s, j, k, _, hc, hs, hd, hk' => by
    have hlen := kS_len hk
    -- where the word ends
    have hwt : ∃ r, (cs a).drop s = w ++ r ∧ ((ws = [] ∧ r = []) ∨ (ws ≠ [] ∧ r = 32 :: joinW ws)) := by
      cases ws with
      | nil => exact ⟨[], by rw [hd, List.append_nil]; rfl, Or.inl ⟨rfl, rfl⟩⟩
      | cons v ws => exact ⟨32 :: joinW (v :: ws), hd, Or.inr ⟨by simp, rfl⟩⟩
    obtain ⟨r, hr, hrc⟩ := hwt
    have hl2 : (cs a).length = s + w.length + r.length := by
      have := congrArg List.length hr
      rw [List.length_drop, List.length_append] at this
      omega
    have hz : ∀ i, i < w.length → zg (cs a) (s + i) = some (w.getD i 0) := by
      intro i hi
      rw [zg_eq, ← List.getElem?_drop, hr, List.getElem?_append_left hi, List.getD_eq_getElem?_getD, List.getElem?_eq_getElem hi]
      rfl
    rw [l7s hk w.length k s (fun i hi => ⟨_, hz i hi, hc w List.mem_cons_self _ (by rw [List.getD_eq_getElem?_getD, List.getElem?_eq_getElem hi]; exact List.getElem_mem hi)⟩) (by omega) (by omega)]
    obtain ⟨k', hk2⟩ : ∃ k', k - w.length = k' + 1 := ⟨k - w.length - 1, by omega⟩
    rw [hk2]
    have h36 := l36w (n := n) (c0 := nI j) (q7 := gf199_7 n k') hk hT h70 hq (s := s) (e := s + w.length) (by omega) (by omega) hn (w := w) (by rw [hr, Nat.add_sub_cancel_left, List.take_left])
    have h7 : gf199_7 n (k' + 1) a (nI j) (nI s) (nI (s + w.length)) X = gb199_36 n (gf199_7 n k') a (nI j) (nI s) (nI (s + w.length)) X := by
      show gb199_7 n (gf199_7 n k') a (nI j) (nI s) (nI (s + w.length)) X = _
      unfold gb199_7
      refine zgd_eq hk ?_
      rw [if_neg (nI_nlt (by omega) (by omega))]
      refine zgd_eq hk ?_
      rcases hrc with ⟨_, e2⟩ | ⟨_, e2⟩
      · rw [if_pos]
        rw [hl2, e2]
        rfl
      · rw [e2, List.length_cons] at hl2
        rw [if_neg (by rw [nI_eq (by omega) (by omega)]; omega)]
        refine zgd_eq hk ?_
        have e32 : zg (cs a) (s + w.length) = some 32 := by
          rw [zg_eq, ← List.getElem?_drop, hr, e2, List.getElem?_append_right (Nat.le_refl _), Nat.sub_self]
          rfl
        rw [rd_nI (by omega), e32]
        dsimp only [Option.bind_some]
        rw [if_pos rfl]
    rw [h7, h36, List.findIdx?_cons]
    by_cases hm : mtc X T q w = true
    · rw [if_pos hm]
      by_cases h69 : X.1 69 = 1
      · rw [if_pos ⟨h69, hm⟩, if_pos h69]
        rfl
      · rw [if_neg (fun z => h69 z.1), if_neg h69]
        rcases hrc with ⟨e1, e2⟩ | ⟨e1, e2⟩
        · have e3 : r.length = 0 := by rw [e2]; rfl
          cases k' with
          | zero => omega
          | succ k' =>
            show gb199_7 n (gf199_7 n k') a (nI j + 1) _ _ X = _
            unfold gb199_7
            refine zgd_eq hk ?_
            rw [if_pos (nI_lt (by omega) (by omega))]
        · rw [e2, List.length_cons] at hl2
          rw [nI_1, l7 hk hT h70 hq hn ws (s + w.length + 1) (j + 1) k' e1 (fun w' hw' => hc w' (List.mem_cons_of_mem _ hw')) (by omega) (by rw [show s + w.length + 1 = s + (w.length + 1) by omega, ← List.drop_drop, hr, e2, List.drop_append, List.drop_eq_nil_of_le (by omega), show w.length + 1 - w.length = 1 by omega]; rfl) (by omega), if_neg h69]
    · rw [if_neg hm, if_neg (fun z => hm z.2)]
      rcases hrc with ⟨e1, e2⟩ | ⟨e1, e2⟩
      · have e3 : r.length = 0 := by rw [e2]; rfl
        rw [e1]
        cases k' with
        | zero => omega
        | succ k' =>
          show gb199_7 n (gf199_7 n k') a (nI j + 1) _ _ X = _
          unfold gb199_7
          refine zgd_eq hk ?_
          rw [if_pos (nI_lt (by omega) (by omega))]
          simp
      · rw [e2, List.length_cons] at hl2
        rw [nI_1, l7 hk hT h70 hq hn ws (s + w.length + 1) (j + 1) k' e1 (fun w' hw' => hc w' (List.mem_cons_of_mem _ hw')) (by omega) (by rw [show s + w.length + 1 = s + (w.length + 1) by omega, ← List.drop_drop, hr, e2, List.drop_append, List.drop_eq_nil_of_le (by omega), show w.length + 1 - w.length = 1 by omega]; rfl) (by omega)]
        congr 2
        split
        · cases ws.findIdx? (mtc X T q) with
          | none => rfl
          | some i => show nI (j + 1 + i) = nI (j + (i + 1)); congr 1; omega
        · rfl
theorem amg_eq {ws : List (List Int32)} (hk : kS a = true) (hw : cs a = joinW ws) (hne : ws ≠ []) (hc : ∀ w ∈ ws, ∀ c ∈ w, c ≠ 32) (hT : TP X T) (h70 : X.1 70 = nI q) (hq : q ≤ 6000) (hn : 1002 ≤ n) : g199 n a X = some (if X.1 69 = 1 then (match ws.findIdx? (mtc X T q) with | some i => nI i | none => -1) else -1, X) := by
  have hlen := kS_len hk
  unfold g199
  have := l7 (n := n) hk hT h70 hq hn ws 0 0 n hne hc (by omega) (by rw [List.drop_zero]; exact hw) (by omega)
  rw [show (0 : Int32) = nI 0 from rfl, this]
  simp only [Nat.zero_add]
end
end ZRW

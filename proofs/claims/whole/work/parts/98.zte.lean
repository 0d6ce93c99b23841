/-! THE REFERENCE TESTS -/
section ZTE
/-- what is known -/
def KNX (X : zX) (K : KL) : Prop := X.1 65 = nI K.length ∧ K.length ≤ 8 ∧ ∀ (k : Nat) (x : List Int32 × Thg), K[k]? = some x → SLT X (3000 + k) x.1 ∧ cv X 60 k = b2 x.2.1 ∧ (x.2.1 = false → cv X 61 k = x.2.2.1) ∧ (x.2.1 = true → SLT X (3008 + k) x.2.2.2 ∧ ∀ c ∈ x.2.2.2, dTxt c = true)
def knf (K : KL) (w : List Int32) : Option Nat := K.findIdx? (fun x => x.1 == w)
section
variable {n : Nat} {X X1 : zX} {b p s t : Nat} {K : KL} {w u : List Int32} {o : Thg} {φ : Den} {U : Nat → Prop}
theorem knf_kn : kn K w = (knf K w).bind fun k => (K[k]?).map (·.2) := by
  unfold kn knf
  induction K with
  | nil => rfl
  | cons a K ih =>
    rw [List.findIdx?_cons]
    by_cases h : (a.1 == w) = true
    · rw [if_pos h, List.find?_cons_of_pos (p := fun x : List Int32 × Thg => x.1 == w) h]
      rfl
    · rw [if_neg h, List.find?_cons_of_neg (p := fun x : List Int32 × Thg => x.1 == w) h, ih]
      cases List.findIdx? (fun x => x.1 == w) K with
      | none => rfl
      | some k => rfl
theorem knf_lt {k : Nat} (h : knf K w = some k) : ∃ x, K[k]? = some x ∧ x.1 = w ∧ kn K w = some x.2 := by
  have h' := h
  unfold knf at h
  obtain ⟨h1, h2, _⟩ := List.findIdx?_eq_some_iff_getElem.mp h
  refine ⟨K[k], List.getElem?_eq_getElem h1, by simpa using h2, ?_⟩
  rw [knf_kn, h']
  show (K[k]?).map (·.2) = _
  rw [List.getElem?_eq_getElem h1]
  rfl
theorem knf_no (h : knf K w = none) : kn K w = none := by rw [knf_kn, h]; rfl
theorem kof_l (hK : KNX X K) (hS : SLT X s w) (hs : s < 3016) (hn : 6002 ≤ n) : ∀ (fu k : Nat), k ≤ K.length → K.length - k < fu → gf254_2 n fu (nI s) (nI k) X = some (match (K.drop k).findIdx? (fun x => x.1 == w) with | some j => nI (k + j) | none => -1, X)
  | 0, k, _, h => by omega
  | fu + 1, k, hk, hf => by
    obtain ⟨h1, h2, h3⟩ := hK
    show gb254_2 n (gf254_2 n fu) (nI s) (nI k) X = _
    unfold gb254_2
    rw [h1]
    by_cases hz : k = K.length
    · rw [if_pos (by rw [hz]; exact Int32.le_refl _), List.drop_eq_nil_of_le (by omega)]
      rfl
    · have hlt : k < K.length := by omega
      obtain ⟨x, hx⟩ : ∃ x, K[k]? = some x := ⟨_, List.getElem?_eq_getElem hlt⟩
      rw [if_neg (nI_ge hlt (by omega)), show (3000 : Int32) = nI 3000 from rfl, nI_add, alk_ok (h3 k x hx).1 (by omega) hS hs hn]
      dsimp only [Option.bind_some]
      rw [drop_get hx, List.findIdx?_cons]
      by_cases he : x.1 = w
      · rw [decide_eq_true he, if_neg (by decide), if_pos (by simpa using he)]
        rfl
      · rw [decide_eq_false he, if_pos b2_f, if_neg (by simpa using he), nI_1, kof_l ⟨h1, h2, h3⟩ hS hs hn fu (k + 1) (by omega) (by omega)]
        cases List.findIdx? (fun x => x.1 == w) (K.drop (k + 1)) with
        | none => rfl
        | some j => show some (nI (k + 1 + j), X) = some (nI (k + (j + 1)), X); rw [show k + 1 + j = k + (j + 1) by omega]
theorem kof_ok (hK : KNX X K) (hS : SLT X s w) (hs : s < 3016) (hn : 6002 ≤ n) : g254 n (nI s) X = some (match knf K w with | some k => nI k | none => -1, X) := by
  have h2 := hK.2.1
  unfold g254
  rw [show (0 : Int32) = nI 0 from rfl, kof_l hK hS hs hn n 0 (by omega) (by omega), List.drop_zero]
  unfold knf
  cases K.findIdx? (fun x => x.1 == w) with
  | none => rfl
  | some j => show some (nI (0 + j), X) = _; rw [Nat.zero_add]
theorem b2_eq {a c : Bool} : (b2 a = b2 c) ↔ a = c := by cases a <;> cases c <;> decide
theorem one_is {k : Nat} {x : List Int32 × Thg} (hL : LN X) (hK : KNX X K) (hx : K[k]? = some x) (hb : b ≤ 1) (hp : p < 400) (ho : THG X b p o) (hn : 6002 ≤ n) : g255 n (nI k) (nI (400 * b + p)) X = some (b2 (same x.2 o), X) := by
  obtain ⟨h1, h2, h3⟩ := hK
  obtain ⟨k1, k2, k3, k4⟩ := h3 k x hx
  obtain ⟨o1, o2, o3⟩ := ho
  unfold pv at o1 o2 o3
  have hk8 : k < 8 := by have := lt_of_get hx; omega
  unfold g255 same
  rw [rd_cv hL (by decide) (by show _ < 8; omega) (by omega), k2, rd_cv hL (by decide) (by show _ < 800; omega) (by omega), o1]
  dsimp only [Option.bind_some]
  by_cases he : x.2.1 = o.1
  · rw [if_pos (b2_eq.mpr he), show (x.2.1 == o.1) = true by simpa using he, Bool.true_and]
    cases hot : o.1 with
    | false =>
      rw [if_pos (show b2 false = 0 from rfl), if_neg (by decide), rd_cv hL (by decide) (by show _ < 8; omega) (by omega), k3 (he.trans hot)]
      dsimp only [Option.bind_some]
      rw [rd_cv hL (by decide) (by show _ < 800; omega) (by omega), o2 hot]
      dsimp only [Option.bind_some]
      by_cases hv : x.2.2.1 = o.2.1
      · rw [if_pos hv, show (x.2.2.1 == o.2.1) = true by simpa using hv]; rfl
      · rw [if_neg hv, show (x.2.2.1 == o.2.1) = false by simpa using hv]; rfl
    | true =>
      obtain ⟨q, q1, q2, q3⟩ := o3 hot
      obtain ⟨c, _, c2, c3, c4⟩ := q1
      rw [if_neg (show ¬ b2 true = 0 by decide), if_pos rfl, rd_cv hL (by decide) (by show _ < 800; omega) (by omega), q2]
      dsimp only [Option.bind_some]
      rw [show (3008 : Int32) = nI 3008 from rfl, nI_add, alk_ok (k4 (he.trans hot)).1 (by omega) q3 (by omega) hn]
      dsimp only [Option.bind_some]
      by_cases hv : x.2.2.2 = o.2.2
      · rw [decide_eq_true hv, if_neg (by decide), show (x.2.2.2 == o.2.2) = true by simpa using hv]; rfl
      · rw [decide_eq_false hv, if_pos b2_f, show (x.2.2.2 == o.2.2) = false by simpa using hv]; rfl
  · rw [if_neg (fun q => he (b2_eq.mp q)), show (x.2.1 == o.1) = false by simpa using he]
    rfl
/-! where a piece stands -/
theorem sta_l {k : Nat} (hS : SLT X s w) (hs : s < 3016) (hU : SLT X t u) (ht : t < 3016) (hl : k + w.length ≤ u.length) : ∀ (fu c : Nat), c ≤ w.length → w.length - c < fu → gf256_31 n fu (nI s) (nI t) (nI k) 1 (nI c) X = some (b2 (decide (w.drop c = ((u.drop k).take w.length).drop c)), X)
  | 0, c, _, h => by omega
  | fu + 1, c, hc, hk => by
    obtain ⟨w1, w2, w3, w4⟩ := hS
    obtain ⟨u1, u2, u3, u4⟩ := hU
    have hlen : ((u.drop k).take w.length).length = w.length := by rw [List.length_take, List.length_drop]; omega
    show gb256_31 n (gf256_31 n fu) (nI s) (nI t) (nI k) 1 (nI c) X = _
    unfold gb256_31
    rw [rd_nI (by omega), w2]
    dsimp only [Option.bind_some]
    by_cases hz : c = w.length
    · rw [if_pos (by rw [hz]; exact Int32.le_refl _), decide_eq_true (by rw [List.drop_eq_nil_of_le (by omega), List.drop_eq_nil_of_le (by omega)])]
      rfl
    · have hcm : c < w.length := by omega
      have hcu : c < ((u.drop k).take w.length).length := by omega
      rw [if_neg (nI_ge hcm (by omega)), if_neg (by decide), show (16 : Int32) = nI 16 from rfl, nI_mul, nI_add, rd_nI (by omega), w3 c (by omega)]
      dsimp only [Option.bind_some]
      rw [nI_mul, nI_add, nI_add, rd_nI (by omega), show 16 * t + k + c = 16 * t + (k + c) by omega, u3 (k + c) (by omega)]
      dsimp only [Option.bind_some]
      have hbw : byt (w.getD c 0) := by
        rw [List.getD_eq_getElem?_getD, List.getElem?_eq_getElem (by omega)]
        exact w4 _ (List.getElem_mem _)
      have hbu : byt (u.getD (k + c) 0) := by
        rw [List.getD_eq_getElem?_getD, List.getElem?_eq_getElem (by omega)]
        exact u4 _ (List.getElem_mem _)
      have ew : w.getD c 0 = w[c] := by rw [List.getD_eq_getElem?_getD, List.getElem?_eq_getElem hcm]; rfl
      have eu : u.getD (k + c) 0 = ((u.drop k).take w.length)[c] := by
        rw [List.getElem_take, List.getElem_drop, List.getD_eq_getElem?_getD, List.getElem?_eq_getElem (by omega)]; rfl
      rw [List.drop_eq_getElem_cons hcm, List.drop_eq_getElem_cons hcu, ← ew, ← eu]
      unfold gb256_81
      by_cases he : w.getD c 0 = u.getD (k + c) 0
      · rw [if_pos (by rw [he]), nI_1, sta_l ⟨w1, w2, w3, w4⟩ hs ⟨u1, u2, u3, u4⟩ ht hl fu (c + 1) (by omega) (by omega), he]
        congr 3
        apply decide_eq_decide.mpr
        constructor
        · intro h; rw [h]
        · intro h; exact (List.cons.inj h).2
      · rw [if_neg (fun q => he (nB_eq hbw hbu q)), decide_eq_false (fun h => he (List.cons.inj h).1)]
        cases fu with
        | zero => omega
        | succ fu =>
          show gb256_31 n (gf256_31 n fu) (nI s) (nI t) (nI k) 0 (nI c + 1) X = _
          unfold gb256_31
          rw [rd_nI (by omega), w2]
          dsimp only [Option.bind_some]
          rw [if_pos rfl]
          split <;> rfl
theorem sta_0 {k : Int32} (hS : SLT X s w) (hs : s < 3016) (hn : 6002 ≤ n) : gb256_25 n (nI s) (nI t) k X = some (0, X) := by
  obtain ⟨w1, w2, w3, w4⟩ := hS
  unfold gb256_25 gb256_26
  cases n with
  | zero => omega
  | succ n =>
    show gb256_31 _ (gf256_31 _ n) (nI s) (nI t) k 0 0 X = _
    unfold gb256_31
    rw [rd_nI (by omega), w2]
    dsimp only [Option.bind_some]
    rw [if_pos rfl]
    split <;> rfl
theorem sta_ok {k : Nat} (hS : SLT X s w) (hs : s < 3016) (hU : SLT X t u) (ht : t < 3016) (hk : k ≤ 100) (hn : 6002 ≤ n) : g256 n (nI s) (nI t) (nI k) X = some (b2 (std u w k), X) := by
  have h1 := hS.1
  have h2 := hU.1
  unfold g256 std
  rw [if_neg (nI_pos (by omega)), rd_nI (by omega), hS.2.1]
  dsimp only [Option.bind_some]
  rw [rd_nI (by omega), hU.2.1]
  dsimp only [Option.bind_some]
  rw [nI_add]
  by_cases hl : k + w.length ≤ u.length
  · rw [if_neg (nI_nlt hl (by omega)), decide_eq_true hl, Bool.true_and]
    unfold gb256_26
    rw [show (0 : Int32) = nI 0 from rfl, sta_l hS hs hU ht hl n 0 (by omega) (by omega), List.drop_zero, List.drop_zero]
    congr 3
    by_cases q : w = (u.drop k).take w.length
    · rw [decide_eq_true q]
      exact (by simpa using q.symm : (((u.drop k).take w.length) == w) = true).symm
    · rw [decide_eq_false q]
      exact (by simpa using fun e => q e.symm : (((u.drop k).take w.length) == w) = false).symm
  · rw [if_pos (nI_lt (by omega) (by omega)), decide_eq_false hl, sta_0 hS hs hn]
    rfl
theorem sta_m {d : Int32} (hS : SLT X s w) (hs : s < 3016) (hd : d < 0) (hn : 6002 ≤ n) : g256 n (nI s) (nI t) d X = some (0, X) := by
  unfold g256
  rw [if_pos hd]
  exact sta_0 hS hs hn
theorem hol_l (hS : SLT X s w) (hs : s < 3016) (hU : SLT X t u) (ht : t < 3016) (hn : 6002 ≤ n) : ∀ (fu k : Nat) (v : Bool), k ≤ u.length + 1 → u.length + 1 - k < fu → gf257_5 n fu (nI s) (nI t) (b2 v) (nI k) X = some (b2 (v || ((List.range (u.length + 1)).drop k).any (fun k => std u w k)), X)
  | 0, k, v, _, h => by omega
  | fu + 1, k, v, hk, hf => by
    have h2 := hU.1
    show gb257_5 n (gf257_5 n fu) (nI s) (nI t) (b2 v) (nI k) X = _
    unfold gb257_5 gb257_31 gb257_36
    rw [rd_nI (by omega), hU.2.1]
    dsimp only [Option.bind_some]
    by_cases hz : k = u.length + 1
    · rw [if_pos (nI_lt (by omega) (by omega)), List.drop_eq_nil_of_le (by rw [List.length_range]; omega), List.any_nil, Bool.or_false]
      cases v <;> rfl
    · have hlt : k < u.length + 1 := by omega
      rw [if_neg (nI_nlt (show k ≤ u.length by omega) (by omega)), range_drop hlt, List.any_cons, nI_1]
      cases v with
      | true =>
        rw [if_neg (show ¬ b2 true = 0 by decide), show (1 : Int32) = b2 true from rfl, hol_l hS hs hU ht hn fu (k + 1) true (by omega) (by omega)]
        simp
      | false =>
        rw [if_pos b2_f, sta_ok hS hs hU ht (by omega) hn]
        dsimp only [Option.bind_some]
        cases hst : std u w k with
        | true =>
          rw [if_neg (by decide), show (1 : Int32) = b2 true from rfl, hol_l hS hs hU ht hn fu (k + 1) true (by omega) (by omega)]
          simp
        | false =>
          rw [if_pos b2_f, show (0 : Int32) = b2 false from rfl, hol_l hS hs hU ht hn fu (k + 1) false (by omega) (by omega)]
          simp
theorem hol_ok (hS : SLT X s w) (hs : s < 3016) (hU : SLT X t u) (ht : t < 3016) (hn : 6002 ≤ n) : g257 n (nI s) (nI t) X = some (b2 ((List.range (u.length + 1)).any (fun k => std u w k)), X) := by
  have h2 := hU.1
  unfold g257
  rw [show (gf257_5 n n (nI s) (nI t) 0 0 X) = gf257_5 n n (nI s) (nI t) (b2 false) (nI 0) X from rfl, hol_l hS hs hU ht hn n 0 false (by omega) (by omega), List.drop_zero, Bool.false_or]
end
end ZTE

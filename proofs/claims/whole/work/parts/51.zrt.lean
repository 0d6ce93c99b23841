/-! THE REFERENCE READS TOKENS -/
section ZRT
theorem rd_nI {l : List Int32} {k : Nat} (hk : k < 2 ^ 31) : rd l (nI k) = zg l k := by
  unfold rd
  rw [decide_eq_false (nI_pos hk), nI_clamp hk]
theorem wr_nI {X : zX} {i k : Nat} {v : Int32} (hk : k < 2 ^ 31) (h : k < (X.2.2 i).length) : wr X i (nI k) v = some (xA X i (zs (X.2.2 i) k v)) := by
  unfold wr
  rw [rd_nI hk, zg_eq, List.getElem?_eq_getElem h, nI_clamp hk]
theorem xF_self {X : zX} {k : Nat} {v : Int32} (h : X.1 k = v) : xF X k v = X := by
  refine Prod.ext (funext fun j => ?_) rfl
  rw [xF_1]
  split
  · rename_i q; rw [q, h]
  · rfl
theorem xF_xF {X : zX} {k : Nat} {a b : Int32} : xF (xF X k a) k b = xF X k b := by
  refine Prod.ext (funext fun j => ?_) rfl
  rw [xF_1, xF_1, xF_1]
  split <;> rfl
def b2 (b : Bool) : Int32 := if b = true then 1 else 0
theorem b2_t : b2 true = 1 := rfl
theorem b2_f : b2 false = 0 := rfl
theorem b2_0 {b : Bool} : b2 b = 0 ↔ b = false := by cases b <;> simp [b2]
theorem b2_rtn {b : Bool} : zrtn .boolean (b2 b) = true := by cases b <;> decide
section
variable {n : Nat} {X : zX} {c : Int32}
theorem g187_eq {l h : Int32} : g187 n c l h X = some (b2 (dIn c l h), X) := by
  unfold g187 dIn
  by_cases h1 : c < l
  · rw [if_pos h1, decide_eq_true h1]; rfl
  · rw [if_neg h1, decide_eq_false h1]
    by_cases h2 : h < c
    · rw [if_pos h2, decide_eq_true h2]; rfl
    · rw [if_neg h2, decide_eq_false h2]; rfl
theorem g192_eq : g192 n c X = some (b2 (dLet c), X) := by
  unfold g192 dLet
  rw [g187_eq]
  dsimp only [Option.bind_some]
  cases dIn c 97 122 with
  | true => rw [if_neg (by decide)]; rfl
  | false =>
    rw [if_pos b2_f, g187_eq]
    dsimp only [Option.bind_some]
    cases dIn c 65 90 <;> rfl
theorem g194_eq : g194 n c X = some (b2 (dDig c), X) := by
  unfold g194 dDig
  rw [g187_eq]
  exact zgd_eq b2_rtn rfl
theorem g193_eq : g193 n c X = some (b2 (dWrd c), X) := by
  unfold g193 dWrd
  rw [g192_eq]
  dsimp only [Option.bind_some]
  cases dLet c with
  | true => rw [if_neg (by decide)]; rfl
  | false =>
    rw [if_pos b2_f, g194_eq]
    dsimp only [Option.bind_some]
    cases dDig c with
    | true => rw [if_neg (by decide)]; rfl
    | false =>
      rw [if_pos b2_f]
      by_cases h : c = 95
      · rw [if_pos h, h]; rfl
      · rw [if_neg h]
        rw [show (false || false || c == 95) = false by simpa using h]
        rfl
end
/-- a byte -/
def byt (b : Int32) : Prop := ∃ k : Nat, k < 256 ∧ b = nI k
theorem byt_and {b : Int32} (h : byt b) : nB b &&& 255 = b := by
  obtain ⟨k, hk, rfl⟩ := h
  exact (by decide +kernel : ∀ k : Fin 256, nB (nI k.val) &&& 255 = nI k.val) ⟨k, hk⟩
/-- the tape T stands in the reference's memory -/
def TP (X : zX) (T : List Int32) : Prop := X.1 2 = nI T.length ∧ T.length ≤ 6000 ∧ (X.2.2 0).length = 6000 ∧ (∀ i b, zg T i = some b → zg (X.2.2 0) i = some (nB b)) ∧ ∀ b ∈ T, byt b
theorem TP_of {X X1 : zX} {T : List Int32} (h : TP X T) (h1 : X1.1 2 = X.1 2) (h2 : X1.2.2 0 = X.2.2 0) : TP X1 T := by
  unfold TP
  rw [h1, h2]
  exact h
theorem TP_xF {X : zX} {T : List Int32} {k : Nat} {v : Int32} (h : TP X T) (hk : 2 ≠ k) : TP (xF X k v) T := TP_of h (by rw [xF_1, if_neg hk]) rfl
section
variable {n : Nat} {X : zX} {T : List Int32} {p : Nat}
theorem tAt_ge (h : T.length ≤ p) : tAt T p = -1 := by
  unfold tAt
  rw [zg_eq, List.getElem?_eq_none h]
  rfl
theorem tAt_lt (h : p < T.length) : tAt T p = T[p] := by
  unfold tAt
  rw [zg_eq, List.getElem?_eq_getElem h]
  rfl
theorem at_eq (hT : TP X T) (hp : p < 2 ^ 31) : g191 n (nI p) X = some (tAt T p, X) := by
  obtain ⟨h1, h2, h3, h4, h5⟩ := hT
  unfold g191
  rw [h1]
  by_cases c : T.length ≤ p
  · rw [if_pos (nI_le c hp), tAt_ge c]
  · have c' : p < T.length := Nat.lt_of_not_le c
    rw [if_neg (nI_ge c' (by omega)), rd_nI hp, h4 p T[p] (by rw [zg_eq, List.getElem?_eq_getElem c'])]
    dsimp only [Option.bind_some]
    rw [byt_and (h5 _ (List.getElem_mem c')), tAt_lt c']
theorem spn_eq {f : Int32 → Bool} (hf : f (-1) = false) : spn f T p = if f (tAt T p) = true then spn f T (p + 1) + 1 else 0 := by
  unfold spn
  by_cases c : p < T.length
  · rw [List.drop_eq_getElem_cons c, List.takeWhile_cons, tAt_lt c]
    by_cases h : f T[p] = true
    · rw [if_pos h, if_pos h]; rfl
    · rw [if_neg h, if_neg h]; rfl
  · rw [List.drop_eq_nil_of_le (Nat.le_of_not_lt c), tAt_ge (Nat.le_of_not_lt c), hf]
    rfl
theorem spn_le {f : Int32 → Bool} (h : p ≤ T.length) : p + spn f T p ≤ T.length := by
  unfold spn
  have h1 : ((T.drop p).takeWhile f).length ≤ (T.drop p).length := (List.takeWhile_sublist f).length_le
  rw [List.length_drop] at h1
  omega
theorem spn_t {f : Int32 → Bool} (hf : f (-1) = false) (h : f (tAt T p) = true) : spn f T p = spn f T (p + 1) + 1 ∧ p < T.length := by
  refine ⟨by rw [spn_eq hf, if_pos h], ?_⟩
  rcases Nat.lt_or_ge p T.length with c | c
  · exact c
  · rw [tAt_ge c, hf] at h; cases h
theorem spn_f {f : Int32 → Bool} (hf : f (-1) = false) (h : f (tAt T p) = false) : spn f T p = 0 := by rw [spn_eq hf, h]; rfl
/-- behind the last byte of a span stands another one -/
theorem spn_end {f : Int32 → Bool} (hf : f (-1) = false) : ∀ (k p : Nat), T.length - p < k → f (tAt T (p + spn f T p)) = false
  | 0, p, h => by omega
  | k + 1, p, h => by
    cases c : f (tAt T p) with
    | true =>
      obtain ⟨h1, h2⟩ := spn_t hf c
      rw [h1, show p + (spn f T (p + 1) + 1) = (p + 1) + spn f T (p + 1) by omega]
      exact spn_end hf k (p + 1) (by omega)
    | false => rw [spn_f hf c]; exact c
theorem spn_stop {f : Int32 → Bool} (hf : f (-1) = false) : f (tAt T (p + spn f T p)) = false := spn_end hf (T.length - p + 1) p (by omega)
/-- the loop over a word's bytes -/
theorem l116 {c : Int32} : ∀ (k q : Nat) {X : zX}, X.1 68 = nI q → TP X T → q ≤ T.length → T.length - q < k → gf190_116 n k c X = gb190_116 n (fun _ _ => none) c (xF X 68 (nI (q + spn dWrd T q))) := by
  intro k
  induction k with
  | zero => intro q X _ _ _ h; omega
  | succ k ih =>
    intro q X hq hT hl hk
    have h6 := hT.2.1
    show gb190_116 n (gf190_116 n k) c X = _
    cases d : dWrd (tAt T q) with
    | true =>
      obtain ⟨h1, h2⟩ := spn_t (f := dWrd) rfl d
      conv => lhs; unfold gb190_116
      rw [hq, at_eq hT (by omega)]
      dsimp only [Option.bind_some]
      rw [g193_eq, d]
      dsimp only [Option.bind_some]
      rw [if_neg (by decide)]
      show gf190_116 n k c (xF X 68 (X.1 68 + 1)) = _
      rw [hq, nI_1, ih (q + 1) (by rw [xF_1, if_pos rfl]) (TP_xF hT (by decide)) (by omega) (by omega), xF_xF, h1, show q + 1 + spn dWrd T (q + 1) = q + (spn dWrd T (q + 1) + 1) by omega]
    | false =>
      rw [spn_f rfl d, Nat.add_zero, xF_self hq]
      unfold gb190_116
      rw [hq, at_eq hT (by omega)]
      dsimp only [Option.bind_some]
      rw [g193_eq, d]
      rfl
/-- the loop over blanks -/
theorem l9 : ∀ (k q : Nat) {X : zX}, X.1 68 = nI q → TP X T → q ≤ T.length → T.length - q < k → gf190_9 n k X = gb190_9 n (fun _ => none) (xF X 68 (nI (q + spn dBlk T q))) := by
  intro k
  induction k with
  | zero => intro q X _ _ _ h; omega
  | succ k ih =>
    intro q X hq hT hl hk
    have h6 := hT.2.1
    show gb190_9 n (gf190_9 n k) X = _
    cases d : dBlk (tAt T q) with
    | true =>
      obtain ⟨h1, h2⟩ := spn_t (f := dBlk) rfl d
      have hs : gb190_9 n (gf190_9 n k) X = gf190_9 n k (xF X 68 (nI (q + 1))) := by
        have e61 : gb190_61 n (gf190_9 n k) X = gf190_9 n k (xF X 68 (nI (q + 1))) := by
          unfold gb190_61 zlet
          rw [hq, nI_1]
        unfold gb190_9
        rw [hq, at_eq hT (by omega)]
        dsimp only [Option.bind_some]
        by_cases c9 : tAt T q = 9
        · rw [if_pos c9, e61]
        · rw [if_neg c9, hq, at_eq hT (by omega)]
          dsimp only [Option.bind_some]
          by_cases c10 : tAt T q = 10
          · rw [if_pos c10, e61]
          · rw [if_neg c10, hq, at_eq hT (by omega)]
            dsimp only [Option.bind_some]
            by_cases c13 : tAt T q = 13
            · rw [if_pos c13, e61]
            · rw [if_neg c13, hq, at_eq hT (by omega)]
              dsimp only [Option.bind_some]
              by_cases c32 : tAt T q = 32
              · rw [if_pos c32, e61]
              · exfalso
                unfold dBlk at d
                simp [c9, c10, c13, c32] at d
      rw [hs, ih (q + 1) (by rw [xF_1, if_pos rfl]) (TP_xF hT (by decide)) (by omega) (by omega), xF_xF, h1, show q + 1 + spn dBlk T (q + 1) = q + (spn dBlk T (q + 1) + 1) by omega]
    | false =>
      rw [spn_f rfl d, Nat.add_zero, xF_self hq]
      unfold dBlk at d
      simp only [Bool.or_eq_false_iff, beq_eq_false_iff_ne, ne_eq] at d
      unfold gb190_9
      rw [hq, at_eq hT (by omega)]
      dsimp only [Option.bind_some]
      rw [if_neg d.1.1.1, if_neg d.1.1.1, hq, at_eq hT (by omega)]
      dsimp only [Option.bind_some]
      rw [if_neg d.1.1.2, if_neg d.1.1.2, hq, at_eq hT (by omega)]
      dsimp only [Option.bind_some]
      rw [if_neg d.1.2, if_neg d.1.2, hq, at_eq hT (by omega)]
      dsimp only [Option.bind_some]
      rw [if_neg d.2, if_neg d.2]
theorem spn_in {f : Int32 → Bool} (hf : f (-1) = false) : ∀ (d p : Nat), d < spn f T p → f (tAt T (p + d)) = true ∧ p + d < T.length
  | 0, p, h => by
    cases c : f (tAt T p) with
    | true => exact ⟨rfl, (spn_t hf c).2⟩
    | false => rw [spn_f hf c] at h; omega
  | d + 1, p, h => by
    cases c : f (tAt T p) with
    | true =>
      have := spn_in hf d (p + 1) (by rw [(spn_t hf c).1] at h; omega)
      rw [show p + (d + 1) = p + 1 + d by omega]
      exact this
    | false => rw [spn_f hf c] at h; omega
theorem xF_comm {X : zX} {i j : Nat} {a b : Int32} (h : i ≠ j) : xF (xF X i a) j b = xF (xF X j b) i a := by
  refine Prod.ext (funext fun k => ?_) rfl
  rw [xF_1, xF_1, xF_1, xF_1]
  by_cases h1 : k = j
  · by_cases h2 : k = i
    · exact absurd (h2.symm.trans h1) h
    · rw [if_pos h1, if_neg h2, if_pos h1]
  · rw [if_neg h1]
    by_cases h2 : k = i
    · rw [if_pos h2, if_pos h2]
    · rw [if_neg h2, if_neg h2, if_neg h1]
/-- the loop over digits -/
theorem l36 {m : Int32} {s : Nat} (hT : TP X T) (hs : s ≤ T.length) : ∀ (k d : Nat), d ≤ min 9 (spn dDig T s) → min 9 (spn dDig T s) - d < k → gf197_36 n k m (nI s) (xF (xF X 72 (dgn T s d)) 68 (nI (s + d))) = gb197_97 n m (nI s) (xF (xF X 72 (dgn T s (min 9 (spn dDig T s)))) 68 (nI (s + min 9 (spn dDig T s)))) := by
  intro k
  have h6 := hT.2.1
  have h7 : s + spn dDig T s ≤ T.length := spn_le hs
  induction k with
  | zero => intro d _ h; omega
  | succ k ih =>
    intro d hd hk
    have hTX : TP (xF (xF X 72 (dgn T s d)) 68 (nI (s + d))) T := TP_xF (TP_xF hT (by decide)) (by decide)
    have h68 : (xF (xF X 72 (dgn T s d)) 68 (nI (s + d))).1 68 = nI (s + d) := by rw [xF_1, if_pos rfl]
    show gb197_36 n (gf197_36 n k) m (nI s) _ = _
    unfold gb197_36
    rw [h68, at_eq hTX (by omega)]
    dsimp only [Option.bind_some]
    rw [g194_eq]
    dsimp only [Option.bind_some]
    by_cases hz : d = spn dDig T s
    · have hD : min 9 (spn dDig T s) = d := by omega
      have hf : dDig (tAt T (s + d)) = false := by rw [hz]; exact spn_stop rfl
      rw [hf, if_pos b2_f, hD]
    · obtain ⟨hg, hl⟩ := spn_in (T := T) (f := dDig) rfl d s (by omega)
      rw [hg, if_neg (by decide), h68, pk_sub (by omega), show s + d - s = d by omega]
      by_cases h9 : d = 9
      · rw [if_pos (by rw [h9]; decide), show min 9 (spn dDig T s) = d by omega]
      · rw [if_neg (by rw [show (9 : Int32) = nI 9 from rfl, nI_leI (by omega) (by omega)]; omega), at_eq hTX (by omega)]
        dsimp only [Option.bind_some]
        unfold zlet
        have e72 : (xF (xF X 72 (dgn T s d)) 68 (nI (s + d))).1 72 = dgn T s d := by rw [xF_1, if_neg (by decide), xF_1, if_pos rfl]
        rw [e72, show (10 * dgn T s d + tAt T (s + d) - 48 : Int32) = dgn T s (d + 1) from rfl, xF_comm (i := 68) (j := 72) (by decide), xF_xF]
        dsimp only
        rw [show (xF (xF X 72 (dgn T s (d + 1))) 68 (nI (s + d))).1 68 = nI (s + d) by rw [xF_1, if_pos rfl], nI_1, xF_xF]
        exact ih (d + 1) (by omega) (by omega)
/-- the loop over a text's bytes -/
theorem l15 {a : Nat} (hT : TP X T) (ha : a < T.length) (h70 : X.1 70 = nI a) : ∀ (k d : Nat), d ≤ min 16 (spn dTxt T (a + 1)) → min 16 (spn dTxt T (a + 1)) - d < k → gf198_15 n k (xF X 68 (nI (a + 1 + d))) = gb198_75 n (xF X 68 (nI (a + 1 + min 16 (spn dTxt T (a + 1))))) := by
  intro k
  have h6 := hT.2.1
  have h7 : a + 1 + spn dTxt T (a + 1) ≤ T.length := spn_le (by omega)
  induction k with
  | zero => intro d _ h; omega
  | succ k ih =>
    intro d hd hk
    have hTX : TP (xF X 68 (nI (a + 1 + d))) T := TP_xF hT (by decide)
    have h68 : (xF X 68 (nI (a + 1 + d))).1 68 = nI (a + 1 + d) := by rw [xF_1, if_pos rfl]
    have h70' : (xF X 68 (nI (a + 1 + d))).1 70 = nI a := by rw [xF_1, if_neg (by decide), h70]
    show gb198_15 n (gf198_15 n k) _ = _
    unfold gb198_15
    rw [h68, at_eq hTX (by omega)]
    dsimp only [Option.bind_some]
    rw [g187_eq]
    dsimp only [Option.bind_some]
    by_cases hz : d = spn dTxt T (a + 1)
    · have hD : min 16 (spn dTxt T (a + 1)) = d := by omega
      have hf : dTxt (tAt T (a + 1 + d)) = false := by rw [hz]; exact spn_stop rfl
      rw [hD]
      cases hi : dIn (tAt T (a + 1 + d)) 32 126 with
      | false => rw [if_pos b2_f]
      | true =>
        rw [if_neg (by decide), h68, at_eq hTX (by omega)]
        dsimp only [Option.bind_some]
        rw [if_pos]
        unfold dTxt at hf
        rw [hi] at hf
        simpa using hf
    · obtain ⟨hg, hl⟩ := spn_in (T := T) (f := dTxt) rfl d (a + 1) (by omega)
      unfold dTxt at hg
      rw [Bool.and_eq_true] at hg
      rw [hg.1, if_neg (by decide), h68, at_eq hTX (by omega)]
      dsimp only [Option.bind_some]
      rw [if_neg (by have := hg.2; simpa using this), h68, h70', pk_sub (by omega), show a + 1 + d - a = d + 1 by omega, nI_pred]
      by_cases h9 : d = 16
      · rw [if_pos (by rw [h9]; decide), show min 16 (spn dTxt T (a + 1)) = d by omega]
      · rw [if_neg (by rw [show (16 : Int32) = nI 16 from rfl, nI_leI (by omega) (by omega)]; omega)]
        unfold zlet
        rw [nI_1, xF_xF]
        exact ih (d + 1) (by omega) (by omega)
theorem bad1 {k : Int32} (hf : X.1 73 = -1) : g195 n k X = some ((), xF (xF X 73 (X.1 70)) 64 k) := by
  unfold g195 g196
  rw [if_pos hf]
  rfl
theorem bad0 {k : Int32} (hf : X.1 73 ≠ -1) : g195 n k X = some ((), X) := by
  unfold g195 g196
  rw [if_neg hf]
  rfl
/-- the reference's number of a token's sort -/
def kdO (s : Nat) : Int32 := if s = 0 then 5 else if s = 3 then 2 else if s = 4 then 3 else if s = 13 then 6 else if 5 ≤ s ∧ s ≤ 12 then 4 else 1
/-- the token at p is the one that is looked at -/
def TOKs (T : List Int32) (p : Nat) (fk : Int32) (X : zX) : Prop :=
  ((tokB T p).1.1 = 1 → X.1 73 = nI (tokB T p).1.2.1 ∧ X.1 64 = 1 ∧ X.1 70 = nI (tokB T p).1.2.1) ∧
  ((tokB T p).1.1 ≠ 1 → X.1 73 = -1 ∧ X.1 64 = fk ∧ X.1 70 = nI (tokB T p).1.2.1 ∧ X.1 68 = nI (tokB T p).2 ∧ X.1 69 = kdO (tokB T p).1.1 ∧ ((tokB T p).1.1 = 3 → X.1 72 = (tokB T p).1.2.2.2) ∧ (kdO (tokB T p).1.1 = 1 ∨ (tokB T p).1.1 = 4 → X.1 71 = nI (tokB T p).1.2.2.1.length))
theorem wsort_rng (w : List Int32) : wsort w = 2 ∨ (14 ≤ wsort w ∧ wsort w ≤ 42) := by
  unfold wsort
  split
  · rename_i x h
    have hm := List.mem_of_find?_eq_some h
    right
    revert hm
    generalize x = y
    unfold wrds
    intro hm
    simp only [List.mem_cons, List.not_mem_nil, or_false] at hm
    rcases hm with h | h | h | h | h | h | h | h | h | h | h | h | h | h | h | h | h | h | h | h | h | h | h | h | h | h | h | h | h <;> (rw [h]; exact ⟨by decide, by decide⟩)
  · left; rfl
theorem kdO_w (w : List Int32) : kdO (wsort w) = 1 ∧ wsort w ≠ 1 ∧ wsort w ≠ 3 ∧ wsort w ≠ 4 := by
  have h := wsort_rng w
  refine ⟨?_, by omega, by omega, by omega⟩
  unfold kdO
  rw [if_neg (by omega), if_neg (by omega), if_neg (by omega), if_neg (by omega), if_neg (by omega)]
theorem cut_len {a e : Nat} (h : e ≤ T.length) : (cut T a e).length = e - a := by
  unfold cut
  rw [List.length_take, List.length_drop]
  omega
/-- what a token is, once blanks are passed -/
def TOKa (T : List Int32) (a : Nat) (fk : Int32) (X : zX) : Prop :=
  ((tokA T a).1.1 = 1 → X.1 73 = nI (tokA T a).1.2.1 ∧ X.1 64 = 1 ∧ X.1 70 = nI (tokA T a).1.2.1) ∧
  ((tokA T a).1.1 ≠ 1 → X.1 73 = -1 ∧ X.1 64 = fk ∧ X.1 70 = nI (tokA T a).1.2.1 ∧ X.1 68 = nI (tokA T a).2 ∧ X.1 69 = kdO (tokA T a).1.1 ∧ ((tokA T a).1.1 = 3 → X.1 72 = (tokA T a).1.2.2.2) ∧ (kdO (tokA T a).1.1 = 1 ∨ (tokA T a).1.1 = 4 → X.1 71 = nI (tokA T a).1.2.2.1.length))
section
variable {a : Nat} {fk : Int32}
theorem TOKa_bad (ht : (tokA T a).1 = (1, a, [], 0)) (h73 : X.1 73 = nI a) (h64 : X.1 64 = 1) (h70 : X.1 70 = nI a) : TOKa T a fk X := by
  unfold TOKa
  rw [ht]
  exact ⟨fun _ => ⟨h73, h64, h70⟩, fun h => absurd rfl h⟩
theorem TOKa_ok {t : Tk} {e : Nat} (ht : tokA T a = (t, e)) (hs : t.1 ≠ 1) (h73 : X.1 73 = -1) (h64 : X.1 64 = fk) (h70 : X.1 70 = nI t.2.1) (h68 : X.1 68 = nI e) (h69 : X.1 69 = kdO t.1) (h72 : t.1 = 3 → X.1 72 = t.2.2.2) (h71 : kdO t.1 = 1 ∨ t.1 = 4 → X.1 71 = nI t.2.2.1.length) : TOKa T a fk X := by
  unfold TOKa
  rw [ht]
  exact ⟨fun h => absurd h hs, fun _ => ⟨h73, h64, h70, h68, h69, h72, h71⟩⟩
theorem word_ok (hT : TP X T) (h73 : X.1 73 = -1) (h64 : X.1 64 = fk) (h68 : X.1 68 = nI a) (h70 : X.1 70 = nI a) (h69 : X.1 69 = 1) (ha : a < T.length) (hc : dLet (tAt T a) = true) (hn : 6002 ≤ n) {c : Int32} : ∃ X1, gf190_116 n n c X = some ((), X1) ∧ TOKa T a fk X1 := by
  have h6 := hT.2.1
  have hle : a + spn dWrd T a ≤ T.length := spn_le (by omega)
  rw [l116 n a h68 hT (by omega) (by omega)]
  have hTX : TP (xF X 68 (nI (a + spn dWrd T a))) T := TP_xF hT (by decide)
  unfold gb190_116
  rw [show (xF X 68 (nI (a + spn dWrd T a))).1 68 = nI (a + spn dWrd T a) by rw [xF_1, if_pos rfl], at_eq hTX (by omega)]
  dsimp only [Option.bind_some]
  rw [g193_eq, spn_stop (f := dWrd) rfl]
  dsimp only [Option.bind_some]
  rw [if_pos b2_f]
  unfold zlet
  dsimp only
  have e71 : (xF X 68 (nI (a + spn dWrd T a))).1 68 - (xF X 68 (nI (a + spn dWrd T a))).1 70 = nI (spn dWrd T a) := by
    rw [xF_1, if_pos rfl, xF_1, if_neg (by decide), h70, pk_sub (by omega)]
    congr 1
    omega
  rw [e71, xF_1 (k := 71), if_pos rfl]
  have et : tokA T a = if 16 < a + spn dWrd T a - a then ((1, a, [], 0), a) else ((wsort (cut T a (a + spn dWrd T a)), a, cut T a (a + spn dWrd T a), 0), a + spn dWrd T a) := by
    unfold tokA
    dsimp only
    rw [if_neg (by omega), if_pos hc]
  by_cases hw : spn dWrd T a ≤ 16
  · rw [if_pos (show nI (spn dWrd T a) ≤ 16 from nI_le (b := 16) hw (by decide))]
    rw [if_neg (by omega)] at et
    have hk := kdO_w (cut T a (a + spn dWrd T a))
    refine ⟨_, rfl, TOKa_ok et hk.2.1 ?_ ?_ ?_ ?_ ?_ (fun h => absurd h hk.2.2.1) ?_⟩
    · simp [xF_1, h73]
    · simp [xF_1, h64]
    · simp [xF_1, h70]
    · simp [xF_1]
    · simp [xF_1, h69, hk.1]
    · intro _
      dsimp only
      rw [cut_len hle, xF_1, if_pos rfl]
      congr 1
      omega
  · rw [if_neg (by rw [show (16 : Int32) = nI 16 from rfl, nI_leI (by omega) (by omega)]; omega)]
    rw [if_pos (by omega)] at et
    rw [bad1 (by simp [xF_1, h73])]
    refine ⟨_, rfl, TOKa_bad (by rw [et]) ?_ ?_ (by simp [xF_1, h70])⟩
    · simp [xF_1, h70]
    · simp [xF_1]
theorem num_ok (hT : TP X T) (h73 : X.1 73 = -1) (h64 : X.1 64 = fk) (h68 : X.1 68 = nI a) (h70 : X.1 70 = nI a) (ha : a < T.length) (hl : dLet (tAt T a) = false) (h39 : tAt T a ≠ 39) (hc : dDig (tAt T a) = true ∨ (tAt T a = 45 ∧ dDig (tAt T (a + 1)) = true)) (hn : 6002 ≤ n) : ∃ X1, g197 n (if tAt T a = 45 then 1 else 0) X = some ((), X1) ∧ TOKa T a fk X1 := by
  have h6 := hT.2.1
  -- where the digits begin
  obtain ⟨s, hs⟩ : ∃ s, s = if tAt T a = 45 then a + 1 else a := ⟨_, rfl⟩
  have hsd : dDig (tAt T s) = true := by
    rcases hc with h | h
    · rw [hs, if_neg]
      · exact h
      · intro q; rw [q] at h; cases h
    · rw [hs, if_pos h.1]; exact h.2
  obtain ⟨hs1, hs2⟩ := spn_t (f := dDig) rfl hsd
  have hle : s + spn dDig T s ≤ T.length := spn_le (by omega)
  have et : tokA T a = if dWrd (tAt T (s + min 9 (spn dDig T s))) = true then ((1, a, [], 0), a) else ((3, a, [], if tAt T a = 45 then -dgn T s (min 9 (spn dDig T s)) else dgn T s (min 9 (spn dDig T s))), s + min 9 (spn dDig T s)) := by
    unfold tokA
    dsimp only
    rw [if_neg (by omega), if_neg (by rw [hl]; decide), if_neg h39, if_pos, ← hs]
    · by_cases hw : dWrd (tAt T (s + min 9 (spn dDig T s))) = true
      · rw [if_pos hw, if_pos (Or.inr hw)]
      · rw [if_neg hw, if_neg]
        intro q
        rcases q with q | q
        · omega
        · exact hw q
    · rcases hc with h | h
      · exact Or.inl h
      · refine Or.inr ⟨h.1, ?_⟩
        intro q
        rw [q] at h
        exact absurd h.2 (by decide)
  -- the beginning
  have hbeg : g197 n (if tAt T a = 45 then 1 else 0) X = gf197_36 n n (if tAt T a = 45 then 1 else 0) (nI s) (xF (xF (xF X 69 2) 72 (dgn T s 0)) 68 (nI (s + 0))) := by
    unfold g197 zlet gb197_23 zlet
    dsimp only
    have e68 : (xF X 69 2).1 68 = nI a := by rw [xF_1, if_neg (by decide), h68]
    by_cases h45 : tAt T a = 45
    · rw [if_pos h45] at hs
      rw [if_pos h45, if_neg (by decide), e68, nI_1, ← hs, xF_1, if_pos rfl, xF_comm (by decide)]
      rfl
    · rw [if_neg h45] at hs
      rw [if_neg h45, if_pos rfl, e68, ← hs, xF_1, if_pos rfl, xF_comm (by decide)]
      rfl
  rw [hbeg, l36 (TP_xF hT (by decide)) (by omega) n 0 (by omega) (by omega)]
  generalize hD : min 9 (spn dDig T s) = D at et ⊢
  have hDl : s + D ≤ T.length := by omega
  have hTX : TP (xF (xF (xF X 69 2) 72 (dgn T s D)) 68 (nI (s + D))) T := TP_xF (TP_xF (TP_xF hT (by decide)) (by decide)) (by decide)
  have e97 : gb197_97 n (if tAt T a = 45 then 1 else 0) (nI s) (xF (xF (xF X 69 2) 72 (dgn T s D)) 68 (nI (s + D))) = gb197_114 n (if tAt T a = 45 then 1 else 0) (nI s) (if tAt T a = 45 then -dgn T s D else dgn T s D) (xF (xF (xF X 69 2) 72 (dgn T s D)) 68 (nI (s + D))) := by
    unfold gb197_97
    have e72 : (xF (xF (xF X 69 2) 72 (dgn T s D)) 68 (nI (s + D))).1 72 = dgn T s D := by rw [xF_1, if_neg (by decide), xF_1, if_pos rfl]
    rw [e72]
    by_cases h45 : tAt T a = 45
    · rw [if_pos h45, if_pos h45, if_neg (by decide)]
    · rw [if_neg h45, if_neg h45, if_pos rfl]
  rw [e97]
  unfold gb197_114 zlet
  dsimp only
  have e68 : ∀ v : Int32, (xF (xF (xF (xF (xF X 69 2) 72 (dgn T s D)) 68 (nI (s + D))) 72 v) 71 0).1 68 = nI (s + D) := by
    intro v
    simp [xF_1]
  rw [e68, at_eq (TP_xF (TP_xF hTX (by decide)) (by decide)) (by omega)]
  dsimp only [Option.bind_some]
  rw [g193_eq]
  dsimp only [Option.bind_some]
  cases hw : dWrd (tAt T (s + D)) with
  | false =>
    rw [if_pos b2_f]
    rw [hw, if_neg (by decide)] at et
    refine ⟨_, rfl, TOKa_ok et (show (3 : Nat) ≠ 1 by decide) ?_ ?_ ?_ ?_ ?_ (fun _ => ?_) (fun h => ?_)⟩
    · simp [xF_1, h73]
    · simp [xF_1, h64]
    · simp [xF_1, h70]
    · simp [xF_1]
    · simp [xF_1]; decide
    · simp [xF_1]
    · rcases h with h | h
      · exact absurd (show kdO 3 = 1 from h) (by decide)
      · exact absurd (show (3 : Nat) = 4 from h) (by decide)
  | true =>
    rw [if_neg (by decide), bad1 (by simp [xF_1, h73])]
    rw [hw, if_pos rfl] at et
    refine ⟨_, rfl, TOKa_bad (by rw [et]) ?_ ?_ (by simp [xF_1, h70])⟩
    · simp [xF_1, h70]
    · simp [xF_1]
theorem text_ok (hT : TP X T) (h73 : X.1 73 = -1) (h64 : X.1 64 = fk) (h68 : X.1 68 = nI a) (h70 : X.1 70 = nI a) (ha : a < T.length) (h39 : tAt T a = 39) (hn : 6002 ≤ n) : ∃ X1, g198 n X = some ((), X1) ∧ TOKa T a fk X1 := by
  have h6 := hT.2.1
  have hle : a + 1 + spn dTxt T (a + 1) ≤ T.length := spn_le (by omega)
  have et : tokA T a = if tAt T (a + 1 + spn dTxt T (a + 1)) = 39 ∧ a + 1 + spn dTxt T (a + 1) - (a + 1) ≤ 16 then ((4, a, cut T (a + 1) (a + 1 + spn dTxt T (a + 1)), 0), a + 1 + spn dTxt T (a + 1) + 1) else ((1, a, [], 0), a) := by
    unfold tokA
    dsimp only
    rw [if_neg (by omega), if_neg (by rw [h39]; decide), if_pos h39]
  unfold g198 zlet
  dsimp only
  have e0 : xF (xF X 69 3) 68 ((xF X 69 3).1 68 + 1) = xF (xF X 69 3) 68 (nI (a + 1 + 0)) := by rw [xF_1, if_neg (by decide), h68, nI_1]
  rw [e0, l15 (TP_xF hT (by decide)) ha (by rw [xF_1, if_neg (by decide), h70]) n 0 (by omega) (by omega)]
  generalize hD : min 16 (spn dTxt T (a + 1)) = D
  have hTX : TP (xF (xF X 69 3) 68 (nI (a + 1 + D))) T := TP_xF (TP_xF hT (by decide)) (by decide)
  unfold gb198_75 zlet
  dsimp only
  have e71 : (xF (xF X 69 3) 68 (nI (a + 1 + D))).1 68 - (xF (xF X 69 3) 68 (nI (a + 1 + D))).1 70 - 1 = nI D := by
    rw [xF_1, if_pos rfl, xF_1, if_neg (by decide), xF_1, if_neg (by decide), h70, pk_sub (by omega), show a + 1 + D - a = D + 1 by omega, nI_pred]
  rw [e71, show (xF (xF (xF X 69 3) 68 (nI (a + 1 + D))) 71 (nI D)).1 68 = nI (a + 1 + D) by simp [xF_1], at_eq (TP_xF hTX (by decide)) (by omega)]
  dsimp only [Option.bind_some]
  by_cases hq : tAt T (a + 1 + D) = 39
  · have hDs : D = spn dTxt T (a + 1) := by
      rcases Nat.lt_or_ge D (spn dTxt T (a + 1)) with h | h
      · have := (spn_in (T := T) (f := dTxt) rfl D (a + 1) h).1
        rw [hq] at this
        exact absurd this (by decide)
      · omega
    rw [if_pos hq]
    rw [if_pos ⟨by rw [← hDs]; exact hq, by omega⟩] at et
    refine ⟨_, rfl, TOKa_ok et (show (4 : Nat) ≠ 1 by decide) ?_ ?_ ?_ ?_ ?_ (fun h => absurd (show (4 : Nat) = 3 from h) (by decide)) (fun _ => ?_)⟩
    · simp [xF_1, h73]
    · simp [xF_1, h64]
    · simp [xF_1, h70]
    · rw [xF_1, if_pos rfl, xF_1, if_neg (by decide), xF_1, if_pos rfl, nI_1, hDs]
    · simp [xF_1]; decide
    · dsimp only
      rw [cut_len hle, xF_1, if_neg (by decide), xF_1, if_pos rfl]
      congr 1
      omega
  · rw [if_neg hq, bad1 (by simp [xF_1, h73])]
    rw [if_neg] at et
    · refine ⟨_, rfl, TOKa_bad (by rw [et]) ?_ ?_ (by simp [xF_1, h70])⟩
      · simp [xF_1, h70]
      · simp [xF_1]
    · intro q
      apply hq
      rw [show D = spn dTxt T (a + 1) by omega]
      exact q.1
end
section
variable {a : Nat} {fk : Int32}
theorem sign_ok (hT : TP X T) (h73 : X.1 73 = -1) (h64 : X.1 64 = fk) (h68 : X.1 68 = nI a) (h70 : X.1 70 = nI a) (et : tokA T a = ((gsort (tAt T a), a, [], 0), a + 1) ∨ (gsort (tAt T a) = 1 ∧ (tokA T a).1 = (1, a, [], 0))) : ∃ X1, gb190_273 n (tAt T a) X = some ((), X1) ∧ TOKa T a fk X1 := by
  have hs : ∀ k, gsort (tAt T a) = k → 5 ≤ k → k ≤ 12 → gb190_273 n (tAt T a) X = gb190_321 n (tAt T a) X → ∃ X1, gb190_273 n (tAt T a) X = some ((), X1) ∧ TOKa T a fk X1 := by
    intro k hk h5 h12 he
    have et' : tokA T a = ((k, a, [], 0), a + 1) := by
      rcases et with e | e
      · rw [e, hk]
      · omega
    rw [he]
    refine ⟨_, rfl, TOKa_ok et' (show k ≠ 1 by omega) ?_ ?_ ?_ ?_ ?_ (fun h => ?_) (fun h => ?_)⟩
    · simp [xF_1, h73]
    · simp [xF_1, h64]
    · simp [xF_1, h70]
    · rw [xF_1, if_pos rfl, xF_1, if_neg (by decide), h68, nI_1]
    · rw [xF_1, if_neg (by decide), xF_1, if_pos rfl]
      show (4 : Int32) = kdO k
      unfold kdO
      rw [if_neg (by omega), if_neg (by omega), if_neg (by omega), if_neg (by omega), if_pos ⟨h5, h12⟩]
    · have : k = 3 := h
      omega
    · rcases h with h | h
      · have h : kdO k = 1 := h
        unfold kdO at h
        rw [if_neg (by omega), if_neg (by omega), if_neg (by omega), if_neg (by omega), if_pos ⟨h5, h12⟩] at h
        exact absurd h (by decide)
      · have : k = 4 := h
        omega
  by_cases c5 : tAt T a = 123
  · exact hs 5 (by rw [c5]; rfl) (by omega) (by omega) (by rw [c5]; rfl)
  by_cases c6 : tAt T a = 125
  · exact hs 6 (by rw [c6]; rfl) (by omega) (by omega) (by rw [c6]; rfl)
  by_cases c7 : tAt T a = 40
  · exact hs 7 (by rw [c7]; rfl) (by omega) (by omega) (by rw [c7]; rfl)
  by_cases c8 : tAt T a = 41
  · exact hs 8 (by rw [c8]; rfl) (by omega) (by omega) (by rw [c8]; rfl)
  by_cases c9 : tAt T a = 59
  · exact hs 9 (by rw [c9]; rfl) (by omega) (by omega) (by rw [c9]; rfl)
  by_cases c10 : tAt T a = 44
  · exact hs 10 (by rw [c10]; rfl) (by omega) (by omega) (by rw [c10]; rfl)
  by_cases c11 : tAt T a = 58
  · exact hs 11 (by rw [c11]; rfl) (by omega) (by omega) (by rw [c11]; rfl)
  by_cases c12 : tAt T a = 61
  · exact hs 12 (by rw [c12]; rfl) (by omega) (by omega) (by rw [c12]; rfl)
  have hg : gsort (tAt T a) = 1 := by
    unfold gsort
    rw [if_neg c5, if_neg c6, if_neg c7, if_neg c8, if_neg c9, if_neg c10, if_neg c11, if_neg c12]
  have et' : (tokA T a).1 = (1, a, [], 0) := by
    rcases et with e | e
    · rw [e, hg]
    · exact e.2
  unfold gb190_273
  rw [if_neg c5, if_neg c6, if_neg c7, if_neg c8, if_neg c9, if_neg c10, if_neg c11, if_neg c12, bad1 h73]
  refine ⟨_, rfl, TOKa_bad et' ?_ ?_ (by simp [xF_1, h70])⟩
  · simp [xF_1, h70]
  · simp [xF_1]
theorem next_ok (hT : TP X T) (hf : X.1 73 = -1) (h64 : X.1 64 = fk) (hp : X.1 68 = nI p) (hpl : p ≤ T.length) (hn : 6002 ≤ n) : ∃ X1, g190 n X = some ((), X1) ∧ TOKs T p fk X1 := by
  have h6 := hT.2.1
  have hb : p + spn dBlk T p ≤ T.length := spn_le hpl
  have hnb : dBlk (tAt T (p + spn dBlk T p)) = false := spn_stop rfl
  unfold g190
  rw [if_pos hf, l9 n p hp hT hpl (by omega)]
  show ∃ X1, gb190_9 n (fun _ => none) (xF X 68 (nI (p + spn dBlk T p))) = some ((), X1) ∧ TOKa T (p + spn dBlk T p) fk X1
  generalize p + spn dBlk T p = a at hb hnb
  unfold dBlk at hnb
  simp only [Bool.or_eq_false_iff, beq_eq_false_iff_ne, ne_eq] at hnb
  have hT1 : TP (xF X 68 (nI a)) T := TP_xF hT (by decide)
  have e68 : (xF X 68 (nI a)).1 68 = nI a := by rw [xF_1, if_pos rfl]
  unfold gb190_9
  rw [e68, at_eq hT1 (by omega)]
  dsimp only [Option.bind_some]
  rw [if_neg hnb.1.1.1, e68, at_eq hT1 (by omega)]
  dsimp only [Option.bind_some]
  rw [if_neg hnb.1.1.2, e68, at_eq hT1 (by omega)]
  dsimp only [Option.bind_some]
  rw [if_neg hnb.1.2, e68, at_eq hT1 (by omega)]
  dsimp only [Option.bind_some]
  rw [if_neg hnb.2, e68]
  unfold zlet
  dsimp only
  have hT2 : TP (xF (xF X 68 (nI a)) 70 (nI a)) T := TP_xF hT1 (by decide)
  have f68 : (xF (xF X 68 (nI a)) 70 (nI a)).1 68 = nI a := by simp [xF_1]
  have f70 : (xF (xF X 68 (nI a)) 70 (nI a)).1 70 = nI a := by simp [xF_1]
  have f73 : (xF (xF X 68 (nI a)) 70 (nI a)).1 73 = -1 := by simp [xF_1, hf]
  have f64 : (xF (xF X 68 (nI a)) 70 (nI a)).1 64 = fk := by simp [xF_1, h64]
  generalize xF (xF X 68 (nI a)) 70 (nI a) = X2 at hT2 f68 f70 f73 f64
  rw [f68, at_eq hT2 (by omega)]
  dsimp only [Option.bind_some]
  by_cases hl : T.length ≤ a
  · rw [if_pos (tAt_ge hl)]
    have et : tokA T a = ((0, a, [], 0), a) := by unfold tokA; dsimp only; rw [if_pos hl]
    refine ⟨_, rfl, TOKa_ok et (show (0 : Nat) ≠ 1 by decide) ?_ ?_ ?_ ?_ ?_ (fun h => absurd (show (0 : Nat) = 3 from h) (by decide)) (fun h => ?_)⟩
    · simp [xF_1, f73]
    · simp [xF_1, f64]
    · simp [xF_1, f70]
    · simp [xF_1, f68]
    · simp [xF_1]; decide
    · rcases h with h | h
      · exact absurd (show kdO 0 = 1 from h) (by decide)
      · exact absurd (show (0 : Nat) = 4 from h) (by decide)
  have hl' : a < T.length := Nat.lt_of_not_le hl
  have hby : tAt T a ≠ -1 := by
    rw [tAt_lt hl']
    obtain ⟨k, hk, e⟩ := hT.2.2.2.2 _ (List.getElem_mem hl')
    rw [e]
    exact (by decide +kernel : ∀ k : Fin 256, nI k.val ≠ -1) ⟨k, hk⟩
  rw [if_neg hby, g192_eq]
  dsimp only [Option.bind_some]
  cases hc : dLet (tAt T a) with
  | true =>
    rw [if_neg (by decide)]
    exact word_ok (TP_xF hT2 (by decide)) (by simp [xF_1, f73]) (by simp [xF_1, f64]) (by simp [xF_1, f68]) (by simp [xF_1, f70]) (by simp [xF_1]) hl' hc hn
  | false =>
    rw [if_pos b2_f, g194_eq]
    dsimp only [Option.bind_some]
    have h202 : (dDig (tAt T a) = true ∨ (tAt T a = 45 ∧ dDig (tAt T (a + 1)) = true)) → ∃ X1, gb190_202 n (tAt T a) X2 = some ((), X1) ∧ TOKa T a fk X1 := by
      intro hd
      have h39 : tAt T a ≠ 39 := by
        intro q
        rcases hd with hd | hd
        · rw [q] at hd; exact absurd hd (by decide)
        · rw [q] at hd; exact absurd hd.1 (by decide)
      obtain ⟨X1, e1, e2⟩ := num_ok hT2 f73 f64 f68 f70 hl' hc h39 hd hn
      refine ⟨X1, ?_, e2⟩
      unfold gb190_202 gb190_214
      by_cases h45 : tAt T a = 45
      · rw [if_pos h45] at e1 ⊢
        rw [e1]; rfl
      · rw [if_neg h45] at e1 ⊢
        rw [e1]; rfl
    have h220 : dDig (tAt T a) = false → ¬ (tAt T a = 45 ∧ dDig (tAt T (a + 1)) = true) → ∃ X1, gb190_220 n (tAt T a) X2 = some ((), X1) ∧ TOKa T a fk X1 := by
      intro hd h45d
      unfold gb190_220
      by_cases h39 : tAt T a = 39
      · rw [if_pos h39]
        obtain ⟨X1, e1, e2⟩ := text_ok hT2 f73 f64 f68 f70 hl' h39 hn
        rw [e1]
        exact ⟨X1, rfl, e2⟩
      · rw [if_neg h39]
        by_cases h45 : tAt T a = 45
        · rw [if_pos h45, f68, nI_1, at_eq hT2 (by omega)]
          dsimp only [Option.bind_some]
          by_cases h62 : tAt T (a + 1) = 62
          · rw [if_pos h62]
            have et : tokA T a = ((13, a, [], 0), a + 2) := by
              unfold tokA
              dsimp only
              rw [if_neg hl, if_neg (by rw [hc]; decide), if_neg h39, if_neg, if_pos h45]
              intro q
              rcases q with q | q
              · rw [hd] at q; cases q
              · exact q.2 h62
            refine ⟨_, rfl, TOKa_ok et (show (13 : Nat) ≠ 1 by decide) ?_ ?_ ?_ ?_ ?_ (fun h => absurd (show (13 : Nat) = 3 from h) (by decide)) (fun h => ?_)⟩
            · simp [xF_1, f73]
            · simp [xF_1, f64]
            · simp [xF_1, f70]
            · rw [xF_1, if_pos rfl, xF_1, if_neg (by decide), f68]
              exact nI_add a 2
            · simp [xF_1]; decide
            · rcases h with h | h
              · exact absurd (show kdO 13 = 1 from h) (by decide)
              · exact absurd (show (13 : Nat) = 4 from h) (by decide)
          · rw [if_neg h62]
            refine sign_ok hT2 f73 f64 f68 f70 (Or.inr ⟨by rw [h45]; rfl, ?_⟩)
            have hz : spn dDig T (a + 1) = 0 := spn_f rfl (by
              cases q : dDig (tAt T (a + 1)) with
              | false => rfl
              | true => exact absurd ⟨h45, q⟩ h45d)
            unfold tokA
            dsimp only
            rw [if_neg hl, if_neg (by rw [hc]; decide), if_neg h39, if_pos (Or.inr ⟨h45, h62⟩), if_pos h45, hz, if_pos (Or.inl (show min 9 0 = 0 from rfl))]
        · rw [if_neg h45]
          refine sign_ok hT2 f73 f64 f68 f70 (Or.inl ?_)
          unfold tokA
          dsimp only
          rw [if_neg hl, if_neg (by rw [hc]; decide), if_neg h39, if_neg, if_neg h45]
          intro q
          rcases q with q | q
          · rw [hd] at q; cases q
          · exact h45 q.1
    cases hd : dDig (tAt T a) with
    | true =>
      rw [if_neg (by decide)]
      exact h202 (Or.inl hd)
    | false =>
      rw [if_pos b2_f]
      by_cases h45 : tAt T a = 45
      · rw [if_pos h45, f68, nI_1, at_eq hT2 (by omega)]
        dsimp only [Option.bind_some]
        rw [g194_eq]
        dsimp only [Option.bind_some]
        cases hd2 : dDig (tAt T (a + 1)) with
        | true =>
          rw [if_neg (by decide)]
          exact h202 (Or.inr ⟨h45, hd2⟩)
        | false =>
          rw [if_pos b2_f]
          exact h220 hd (fun q => by rw [hd2] at q; cases q.2)
      · rw [if_neg h45]
        exact h220 hd (fun q => h45 q.1)
end
end
end ZRT

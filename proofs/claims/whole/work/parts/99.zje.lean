/-! THE CLASS: a number becomes a string -/
section ZJE
section
variable {n : Nat} {Y Y1 : zY} {a s k ar m : Nat} {w : List Int32} {x v l1 l6 : Int32}
theorem dgS_l {m : Nat} : ∀ k, (dgS m k).length = k + 1
  | 0 => rfl
  | k + 1 => by show (dgS m k).length + 1 = _; rw [dgS_l k]
theorem ss_l (hm : m ≤ 999999999) : ∀ (r j fu : Nat), j + r = 9 → 1 ≤ j → r < fu → (1 < j → 10 ^ (j - 1) ≤ m) → cf38_16 n fu (-(nI m)) l1 (-(nI (10 ^ j))) (nI j) Y = some (nI (dcV m).length + l1, Y)
  | r, j, 0, _, _, h, _ => by omega
  | r, j, fu + 1, hj, h1, hf, hle => by
    have hj9 : 10 ^ j ≤ 10 ^ 9 := Nat.pow_le_pow_right (by omega) (by omega)
    have hj9 : 10 ^ j ≤ 1000000000 := hj9
    show cb38_16 n (cf38_16 n fu) (-(nI m)) l1 (-(nI (10 ^ j))) (nI j) Y = _
    unfold cb38_16
    rw [show (10 : Int32) = nI 10 from rfl, if_neg (nI_ge (by omega) (by omega))]
    by_cases h : 10 ^ j ≤ m
    · rw [if_pos ((ng_le (by omega) (by omega)).mpr h)]
      have hr : 0 < r := by
        cases r with
        | zero =>
          have : j = 9 := by omega
          subst this
          have : 1000000000 ≤ m := h
          omega
        | succ r => omega
      have e : nI 10 * -(nI (10 ^ j)) = -(nI (10 ^ (j + 1))) := by
        rw [Int32.mul_neg, nI_mul, Nat.pow_succ, Nat.mul_comm]
      rw [e, nI_1]
      exact ss_l hm (r - 1) (j + 1) fu (by omega) (by omega) (by omega) (fun _ => h)
    · rw [if_neg (fun q => h ((ng_le (by omega) (by omega)).mp q))]
      have hl : (dcV m).length = j := by
        unfold dcV
        rw [List.length_map, dcN_dg (j - 1) 11 m (by omega) (by rw [show j - 1 + 1 = j by omega]; omega) (fun q => hle (by omega)), dgS_l]
        omega
      rw [hl]
theorem ss_ok (hv : v.toInt.natAbs ≤ 999999999) (hn : 6002 ≤ n) : c38 n v Y = some (nI (dcI v).length, Y) := by
  unfold c38 cb38_11 dcI
  have key : ∀ b : Nat, cf38_16 n n (-(nI v.toInt.natAbs)) (nI b) (-10) 1 Y = some (nI ((dcV v.toInt.natAbs).length + b), Y) := by
    intro b
    have := ss_l (n := n) (Y := Y) (l1 := nI b) hv 8 1 n (by omega) (by omega) (by omega) (fun q => by omega)
    rw [nI_add] at this
    exact this
  by_cases h0 : v < 0
  · have hneg : v.toInt < 0 := by rw [Int32.lt_iff_toInt_lt] at h0; exact h0
    have hu : v = -(nI v.toInt.natAbs) := by
      apply Int32.toInt_inj.mp
      rw [ng_i (by omega)]
      omega
    rw [if_pos h0, if_pos h0]
    conv => lhs; rw [hu]
    rw [show (1 : Int32) = nI 1 from rfl] 
    have := key 1
    rw [show (1 : Int32) = nI 1 from rfl] at this
    rw [this]
    congr 2
    rw [List.length_append, show (dcN 11 v.toInt.natAbs).length = (dcV v.toInt.natAbs).length by unfold dcV; rw [List.length_map]]
    congr 1
    exact Nat.add_comm _ _
  · have hpos : 0 ≤ v.toInt := by rw [Int32.lt_iff_toInt_lt] at h0; exact Int.not_lt.mp h0
    have hu : v = nI v.toInt.natAbs := nI_ij (by omega) (by omega)
    rw [if_neg h0, if_neg h0, List.nil_append]
    conv => lhs; rw [hu]
    have := key 0
    rw [show (0 : Int32) = nI 0 from rfl]
    rw [this]
    congr 2
    rw [Nat.add_zero]
    unfold dcV
    rw [List.length_map]
theorem dcI_l (hv : v.toInt.natAbs ≤ 999999999) : (dcI v).length ≤ 10 ∧ 1 ≤ (dcI v).length := by
  unfold dcI
  have hk : ∃ k, k < 9 ∧ v.toInt.natAbs < 10 ^ (k + 1) ∧ (0 < k → 10 ^ k ≤ v.toInt.natAbs) := by
    generalize v.toInt.natAbs = m at hv
    have : ∀ j, j ≤ 9 → m < 10 ^ j → 0 < j → ∃ k, k < j ∧ m < 10 ^ (k + 1) ∧ (0 < k → 10 ^ k ≤ m) := by
      intro j
      induction j with
      | zero => intro _ _ h; omega
      | succ j ih =>
        intro h1 h2 _
        by_cases q : 0 < j ∧ m < 10 ^ j
        · obtain ⟨k, a, b, c⟩ := ih (by omega) q.2 q.1
          exact ⟨k, by omega, b, c⟩
        · exact ⟨j, by omega, h2, fun hj => by
            have : ¬ m < 10 ^ j := fun r => q ⟨hj, r⟩
            omega⟩
    exact this 9 (by omega) (by show m < 1000000000; omega) (by omega)
  obtain ⟨k, k1, k2, k3⟩ := hk
  rw [List.length_append, dcN_dg k 11 _ (by omega) k2 k3, dgS_l]
  split
  · show 1 + (k + 1) ≤ 10 ∧ 1 ≤ 1 + (k + 1); omega
  · show 0 + (k + 1) ≤ 10 ∧ 1 ≤ 0 + (k + 1); omega
theorem dcI_b {y : Int32} (h : y ∈ dcI v) : ∃ k, k < 128 ∧ y = nI k := by
  unfold dcI at h
  have hN : ∀ (f m : Nat), ∀ y ∈ dcN f m, ∃ k, k < 128 ∧ y = nI k := by
    intro f
    induction f with
    | zero => intro m y hy; cases hy
    | succ f ih =>
      intro m y hy
      unfold dcN at hy
      split at hy
      · rename_i hm
        rw [List.mem_singleton] at hy
        exact ⟨48 + m, by omega, hy⟩
      · rcases List.mem_append.mp hy with hy | hy
        · exact ih _ y hy
        · rw [List.mem_singleton] at hy
          exact ⟨48 + m % 10, by omega, hy⟩
  rcases List.mem_append.mp h with h | h
  · split at h
    · rw [List.mem_singleton] at h
      exact ⟨45, by omega, h⟩
    · cases h
  · exact hN _ _ y h
/-- getChars as a whole -/
theorem gc_ok (hF : FXY Y) (ha : 139 ≤ ar) (hv : v.toInt.natAbs ≤ 999999999) (h : Y.1 ar = some (oA 1 (List.replicate 16 (.int 0)))) (hn : 6002 ≤ n) : ∃ q, c45 n v (nI (dcI v).length) (some ar) Y = some (q, yu Y ar (some (oA 1 (((dcI v).map fun x => Value.int x) ++ List.replicate (16 - (dcI v).length) (.int 0))))) := by
  obtain ⟨hl10, hl1⟩ := dcI_l hv
  have hr : List.replicate 16 (Value.int 0) = List.replicate (dcI v).length (.int 0) ++ List.replicate (16 - (dcI v).length) (.int 0) := by
    rw [List.replicate_append_replicate]
    congr 1
    omega
  rw [hr] at h
  have hdV : (dcV v.toInt.natAbs) = (dcN 11 v.toInt.natAbs).map fun x => Value.int x := rfl
  have hdl : (dcV v.toInt.natAbs).length = (dcN 11 v.toInt.natAbs).length := by rw [hdV, List.length_map]
  have hb : v.toInt.natAbs < 10 ^ n := by
    have : 10 ^ 9 ≤ 10 ^ n := Nat.pow_le_pow_right (by omega) (by omega)
    have h9 : (10 : Nat) ^ 9 = 1000000000 := rfl
    omega
  unfold c45 cb45_12
  by_cases h0 : v < 0
  · have hneg : v.toInt < 0 := by rw [Int32.lt_iff_toInt_lt] at h0; exact h0
    have hu : v = -(nI v.toInt.natAbs) := by
      apply Int32.toInt_inj.mp
      rw [ng_i (by omega)]
      omega
    have hd : dcI v = 45 :: dcN 11 v.toInt.natAbs := by unfold dcI; rw [if_pos h0]; rfl
    have hlen : (dcI v).length = (dcV v.toInt.natAbs).length + 1 := by rw [hd, hdl]; rfl
    obtain ⟨i, hi⟩ := gch (n := n) (l1 := nI (dcI v).length) (l6 := 1) ha hn n v.toInt.natAbs (dcI v).length (List.replicate (16 - (dcI v).length) (.int 0)) (Z := Y) hv hb (by omega) (by omega) (by omega) hF h
    rw [if_neg (by rw [Int32.not_le]; exact h0), if_neg (by decide)]
    rw [← hu] at hi
    rw [hi]
    unfold cb45_104
    rw [if_neg (by decide)]
    dsimp only [Option.bind_some]
    have e1 : (dcI v).length - (dcV v.toInt.natAbs).length = 1 := by omega
    rw [e1, show (45 : Int32) = nI 45 from rfl, put_d yu_s ha (by omega) (by omega) (by omega), yu_yu]
    dsimp only [Option.bind_some]
    refine ⟨nI 1 + -1, ?_⟩
    rw [hd]
    rfl
  · have hpos : 0 ≤ v.toInt := by rw [Int32.lt_iff_toInt_lt] at h0; exact Int.not_lt.mp h0
    have hu : v = nI v.toInt.natAbs := nI_ij (by omega) (by omega)
    have hd : dcI v = dcN 11 v.toInt.natAbs := by unfold dcI; rw [if_neg h0]; rfl
    have hlen : (dcI v).length = (dcV v.toInt.natAbs).length := by rw [hd, hdl]
    obtain ⟨i, hi⟩ := gch (n := n) (l1 := nI (dcI v).length) (l6 := 0) ha hn n v.toInt.natAbs (dcI v).length (List.replicate (16 - (dcI v).length) (.int 0)) (Z := Y) hv hb (by omega) (by omega) (by omega) hF h
    rw [if_pos (Int32.not_lt.mp h0), if_pos rfl]
    rw [← hu] at hi
    rw [hi]
    unfold cb45_104
    rw [if_pos rfl]
    have e1 : (dcI v).length - (dcV v.toInt.natAbs).length = 0 := by omega
    rw [e1]
    refine ⟨nI 0, ?_⟩
    rw [hd]
    rfl
end
end ZJE

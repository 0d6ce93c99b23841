/-! THE REFERENCE: the place of a thing -/
section ZPL
theorem nI_ij {a : Int32} {n : Nat} (h : n < 2 ^ 31) (e : a.toInt = (n : Int)) : a = nI n := by
  apply Int32.toInt_inj.mp
  rw [nI_toInt h, e]
theorem nI_dv {a c : Nat} (ha : a < 2 ^ 31) (hc : c < 2 ^ 31) : nI a / nI c = nI (a / c) := by
  have hle := Nat.div_le_self a c
  apply nI_ij (by omega)
  rw [Int32.toInt_div, nI_toInt ha, nI_toInt hc, ← Int.ofNat_tdiv]
  generalize a / c = q at hle
  apply Int.bmod_eq_of_le
  · omega
  · omega
theorem nI_md {a c : Nat} (ha : a < 2 ^ 31) (hc : c < 2 ^ 31) : nI a - nI a / nI c * nI c = nI (a % c) := by
  have h1 : nI a / nI c * nI c = nI (a / c * c) := by
    rw [nI_dv ha hc]; exact (Int32.ofNat_mul ..).symm
  have hle := Nat.div_mul_le_self a c
  have h2 : nI a = nI (a % c) + nI (a / c * c) := by
    have : a = a % c + a / c * c := by rw [Nat.mul_comm]; exact (Nat.mod_add_div a c).symm
    conv => lhs; rw [this]
    exact Int32.ofNat_add ..
  rw [h1, h2, Int32.add_sub_cancel]
theorem plc_eq (g : Int64) : ((((2 : Int64) * ((g.toUInt64 >>> ((1 : Int32).toInt64.toUInt64 &&& Int64.toUInt64 63)).toInt64 - (g.toUInt64 >>> ((1 : Int32).toInt64.toUInt64 &&& Int64.toUInt64 63)).toInt64 / 10000 * 10000)) + (g &&& 1)) - (((2 : Int64) * ((g.toUInt64 >>> ((1 : Int32).toInt64.toUInt64 &&& Int64.toUInt64 63)).toInt64 - (g.toUInt64 >>> ((1 : Int32).toInt64.toUInt64 &&& Int64.toUInt64 63)).toInt64 / 10000 * 10000)) + (g &&& 1)) / 10000 * 10000).toInt32 = nI (g.toUInt64.toNat % 10000) := by
  have hs : ((1 : Int32).toInt64.toUInt64 &&& Int64.toUInt64 63) = 1 := by decide
  rw [hs]
  generalize hU : g.toUInt64.toNat = U
  have hU2 : U < 2 ^ 64 := by rw [← hU]; exact g.toUInt64.toNat_lt
  have hm : ((g.toUInt64 >>> 1).toInt64).toInt = (U / 2 : Nat) := by
    have h1 : (g.toUInt64 >>> 1).toNat = U / 2 := by
      rw [UInt64.toNat_shiftRight, hU]
      rfl
    have h2 : ((g.toUInt64 >>> 1).toInt64).toInt = ((g.toUInt64 >>> 1).toNat : Int) := by
      show (g.toUInt64 >>> 1).toBitVec.toInt = _
      rw [BitVec.toInt_eq_toNat_of_lt]
      · rfl
      · show 2 * (g.toUInt64 >>> 1).toNat < 2 ^ 64
        rw [h1]; omega
    rw [h2, h1]
  generalize (g.toUInt64 >>> 1).toInt64 = M at hm
  have hb : (g &&& 1).toInt = (U % 2 : Nat) := by
    have : (g &&& 1).toBitVec.toNat = U % 2 := by
      rw [Int64.toBitVec_and, BitVec.toNat_and]
      show g.toUInt64.toNat &&& 1 = U % 2
      rw [hU, Nat.and_one_is_mod]
    show (g &&& 1).toBitVec.toInt = _
    rw [BitVec.toInt_eq_toNat_of_lt, this]
    rw [this]; omega
  generalize (g &&& 1) = B at hb
  have hd : (M - M / 10000 * 10000).toInt = (U / 2 % 10000 : Nat) := by
    rw [Int64.toInt_sub, Int64.toInt_mul, Int64.toInt_div, hm]
    have e : ((U / 2 : Nat) : Int).tdiv (10000 : Int64).toInt = ((U / 2 / 10000 : Nat) : Int) := by
      show ((U / 2 : Nat) : Int).tdiv ((10000 : Nat) : Int) = _
      rw [← Int.ofNat_tdiv]
    rw [e]
    have hq : U / 2 / 10000 < 2 ^ 60 := by omega
    rw [show (10000 : Int64).toInt = 10000 from rfl]
    rw [Int.bmod_eq_of_le (n := ((U / 2 / 10000 : Nat) : Int)) (by omega) (by omega), Int.bmod_eq_of_le (n := ((U / 2 / 10000 : Nat) : Int) * 10000) (by omega) (by omega), Int.bmod_eq_of_le (by omega) (by omega)]
    omega
  generalize (M - M / 10000 * 10000) = R at hd
  have hS : (2 * R + B).toInt = ((2 * (U / 2 % 10000) + U % 2 : Nat) : Int) := by
    rw [Int64.toInt_add, Int64.toInt_mul, hd, hb, show (2 : Int64).toInt = 2 from rfl]
    rw [Int.bmod_eq_of_le (n := 2 * ((U / 2 % 10000 : Nat) : Int)) (by omega) (by omega), Int.bmod_eq_of_le (by omega) (by omega)]
    omega
  generalize (2 * R + B) = S at hS
  have hF : (S - S / 10000 * 10000).toInt = ((U % 10000 : Nat) : Int) := by
    rw [Int64.toInt_sub, Int64.toInt_mul, Int64.toInt_div, hS]
    have e : (((2 * (U / 2 % 10000) + U % 2 : Nat)) : Int).tdiv (10000 : Int64).toInt = (((2 * (U / 2 % 10000) + U % 2) / 10000 : Nat) : Int) := by
      show (((2 * (U / 2 % 10000) + U % 2 : Nat)) : Int).tdiv ((10000 : Nat) : Int) = _
      rw [← Int.ofNat_tdiv]
    rw [e, show (10000 : Int64).toInt = 10000 from rfl]
    rw [Int.bmod_eq_of_le (n := (((2 * (U / 2 % 10000) + U % 2) / 10000 : Nat) : Int)) (by omega) (by omega), Int.bmod_eq_of_le (n := (((2 * (U / 2 % 10000) + U % 2) / 10000 : Nat) : Int) * 10000) (by omega) (by omega), Int.bmod_eq_of_le (by omega) (by omega)]
    omega
  apply nI_ij (by omega)
  rw [Int64.toInt_toInt32, hF]
  apply Int.bmod_eq_of_le
  · omega
  · omega
/-- the digits of m from the place k down -/
def dgS (m : Nat) : Nat → List Int32
  | 0 => [nI (48 + m % 10)]
  | k + 1 => nI (48 + m / 10 ^ (k + 1) % 10) :: dgS m k
theorem dgS_snoc {m : Nat} : ∀ k, dgS m (k + 1) = dgS (m / 10) k ++ [nI (48 + m % 10)]
  | 0 => by
    show [nI (48 + m / 10 ^ 1 % 10), nI (48 + m % 10)] = [nI (48 + m / 10 % 10), nI (48 + m % 10)]
    rw [Nat.pow_one]
  | k + 1 => by
    show nI (48 + m / 10 ^ (k + 2) % 10) :: dgS m (k + 1) = (nI (48 + m / 10 / 10 ^ (k + 1) % 10) :: dgS (m / 10) k) ++ _
    rw [dgS_snoc k, Nat.div_div_eq_div_mul, Nat.pow_succ 10 (k + 1), Nat.mul_comm (10 ^ (k + 1)) 10]
    rfl
theorem dcN_dg : ∀ (k f m : Nat), k < f → m < 10 ^ (k + 1) → (0 < k → 10 ^ k ≤ m) → dcN f m = dgS m k
  | 0, f + 1, m, _, h2, _ => by
    unfold dcN
    rw [Nat.pow_one] at h2
    rw [if_pos h2]
    show _ = [nI (48 + m % 10)]
    rw [Nat.mod_eq_of_lt h2]
  | k + 1, f + 1, m, h1, h2, h3 => by
    have h3 := h3 (by omega)
    have hp : 10 ^ (k + 1) = 10 * 10 ^ k := by rw [Nat.pow_succ, Nat.mul_comm]
    have hp2 : 10 ^ (k + 2) = 10 * 10 ^ (k + 1) := by rw [Nat.pow_succ, Nat.mul_comm]
    have hpos : 0 < 10 ^ k := Nat.pow_pos (by omega)
    unfold dcN
    rw [if_neg (by omega), dcN_dg k f (m / 10) (by omega) (by omega) (fun _ => by omega), dgS_snoc]
  | _, 0, _, h, _, _ => by omega
section
variable {n : Nat} {X X1 X2 : zX} {b k s : Nat} {K : KL} {w salt : List Int32} {h : Int64}
theorem nB_txt {c : Int32} (h : dTxt c = true) : nB c = c := by
  have h2 : ∀ k : Fin 128, nB (nI k.1) = nI k.1 := by decide +kernel
  unfold dTxt dIn at h
  simp only [Bool.and_eq_true, Bool.not_eq_true', decide_eq_false_iff_not] at h
  obtain ⟨⟨a, d⟩, _⟩ := h
  have h1 : ∃ k : Nat, k < 128 ∧ c = nI k := by
    rw [Int32.not_lt] at a d
    rw [Int32.le_iff_toInt_le] at a d
    have e1 : (32 : Int32).toInt = 32 := rfl
    have e2 : (126 : Int32).toInt = 126 := rfl
    rw [e1] at a
    rw [e2] at d
    refine ⟨c.toInt.toNat, by omega, nI_ij (by omega) (by omega)⟩
  obtain ⟨k, hk, rfl⟩ := h1
  exact h2 ⟨k, hk⟩
theorem mix_ok {v : Int32} : g264 n v (xH X h) = some ((), xH X (mxB h v)) := rfl
/-- the bytes of a slot are mixed -/
theorem mixT {c : Nat} (hS : SLT X s w) (hs : s < 3016) (ht : ∀ c ∈ w, dTxt c = true) (hc : c < w.length) : rd ((xH X h).2.2 3) (nI (16 * s + c)) = some (w.getD c 0) := by
  obtain ⟨w1, w2, w3, w4⟩ := hS
  have : rd (X.2.2 3) (nI (16 * s + c)) = some (w.getD c 0) := by
    rw [rd_nI (by omega), w3 c hc, nB_txt (ht _ (by
      rw [List.getD_eq_getElem?_getD, List.getElem?_eq_getElem hc]
      exact List.getElem_mem _))]
  exact this
theorem drop_D {c : Nat} (hc : c < w.length) : w.drop c = w.getD c 0 :: w.drop (c + 1) := by
  rw [List.drop_eq_getElem_cons hc, List.getD_eq_getElem?_getD, List.getElem?_eq_getElem hc]
  rfl
theorem mix56 {l1 : Int32} (hS : SLT X (3008 + k) w) (hk : k < 8) (ht : ∀ c ∈ w, dTxt c = true) : ∀ (fu c : Nat) (h : Int64), c ≤ w.length → w.length - c < fu → ∃ l3, gf263_56 n fu l1 (nI k) (nI c) (xH X h) = gb263_108 n l1 (nI k) l3 (xH X ((w.drop c).foldl mxB h))
  | 0, c, h, _, hf => by omega
  | fu + 1, c, h, hc, hf => by
    have hl := hS.1
    show ∃ l3, gb263_56 n (gf263_56 n fu) l1 (nI k) (nI c) (xH X h) = _
    unfold gb263_56
    rw [i3008, show rd ((xH X h).2.2 2) (nI (3008 + k)) = some (nI w.length) from (rd_nI (by omega)).trans hS.2.1]
    dsimp only [Option.bind_some]
    by_cases hz : c = w.length
    · rw [if_pos (by rw [hz]; exact Int32.le_refl _), List.drop_eq_nil_of_le (by omega)]
      exact ⟨_, rfl⟩
    · have hlt : c < w.length := by omega
      rw [if_neg (nI_ge hlt (by omega)), show (16 : Int32) = nI 16 from rfl, nI_mul, nI_add, mixT hS (by omega) ht hlt]
      dsimp only [Option.bind_some]
      rw [mix_ok]
      dsimp only [Option.bind_some]
      rw [nI_1, drop_D hlt]
      exact mix56 hS hk ht fu (c + 1) (mxB h (w.getD c 0)) (by omega) (by omega)
/-- digits -/
theorem mix39 {l1 : Int32} {m : Nat} (hm : m < 2 ^ 31) : ∀ (j fu : Nat) (h : Int64), 10 ^ j < 2 ^ 31 → j + 1 < fu → gf265_39 n fu l1 (nI m) (nI (10 ^ j)) (xH X h) = some ((), xH X ((dgS m j).foldl mxB h))
  | j, 0, h, _, hf => by omega
  | j, fu + 1, h, hj, hf => by
    have hpos : 0 < 10 ^ j := Nat.pow_pos (by omega)
    show gb265_39 n (gf265_39 n fu) l1 (nI m) (nI (10 ^ j)) (xH X h) = _
    unfold gb265_39
    have hdm : m / 10 ^ j < 2 ^ 31 := by have := Nat.div_le_self m (10 ^ j); omega
    have hd : nI m / nI (10 ^ j) - nI m / nI (10 ^ j) / 10 * 10 = nI (m / 10 ^ j % 10) := by
      rw [nI_dv hm hj]
      exact nI_md (c := 10) hdm (by omega)
    rw [if_neg (by rw [show (0 : Int32) = nI 0 from rfl]; exact nI_ge hpos hj), hd, show (48 : Int32) = nI 48 from rfl, nI_add, mix_ok]
    have hz : (!decide (nI (10 ^ j) = 0)) = true := by
      rw [decide_eq_false (nI_ne0 hpos hj)]; rfl
    unfold zgd
    rw [hz]
    dsimp only [Option.bind_some]
    cases j with
    | zero =>
      have e : nI (10 ^ 0) / 10 = 0 := by decide
      rw [e]
      obtain ⟨fu, rfl⟩ : ∃ q, fu = q + 1 := ⟨fu - 1, by omega⟩
      show gb265_39 n (gf265_39 n fu) l1 (nI m) 0 _ = _
      unfold gb265_39
      rw [if_pos (Int32.le_refl _), Nat.pow_zero, Nat.div_one]
      rfl
    | succ j =>
      have e : nI (10 ^ (j + 1)) / 10 = nI (10 ^ j) := by
        rw [show (10 : Int32) = nI 10 from rfl, nI_dv hj (by omega), Nat.pow_succ, Nat.mul_div_cancel _ (by omega)]
      rw [e, mix39 hm j fu _ (by rw [Nat.pow_succ] at hj; omega) (by omega)]
      rfl
theorem mix23 {l1 : Int32} {m : Nat} (hm : m ≤ 999999999) (hn : 6002 ≤ n) : ∀ (r j fu : Nat), j + r = 8 → r < fu → (0 < j → 10 ^ j ≤ m) → gf265_23 n fu l1 (nI m) (nI (10 ^ j)) (xH X h) = some ((), xH X ((dcN 11 m).foldl mxB h))
  | r, j, 0, _, hf, _ => by omega
  | r, j, fu + 1, hj, hf, hle => by
    have hpos : 0 < 10 ^ j := Nat.pow_pos (by omega)
    have hj8 : 10 ^ j ≤ 10 ^ 8 := Nat.pow_le_pow_right (by omega) (by omega)
    have hj8 : 10 ^ j ≤ 100000000 := hj8
    show gb265_23 n (gf265_23 n fu) l1 (nI m) (nI (10 ^ j)) (xH X h) = _
    unfold gb265_23
    have hz : (!decide (nI (10 ^ j) = 0)) = true := by
      rw [decide_eq_false (nI_ne0 hpos (by omega))]; rfl
    unfold zgd
    rw [hz]
    dsimp only
    rw [nI_dv (by omega) (by omega), show (10 : Int32) = nI 10 from rfl]
    have hdl := Nat.div_le_self m (10 ^ j)
    by_cases hlt : m / 10 ^ j < 10
    · have hm2 : m < 10 ^ (j + 1) := by
        rw [Nat.pow_succ]
        rw [Nat.div_lt_iff_lt_mul hpos] at hlt
        omega
      rw [if_pos (nI_lt hlt (by omega)), mix39 (by omega) j n h (by omega) (by omega), dcN_dg j 11 m (by omega) hm2 hle]
    · have hm2 : 10 ^ (j + 1) ≤ m := by
        rw [Nat.pow_succ]
        have : 10 ≤ m / 10 ^ j := by omega
        rw [Nat.le_div_iff_mul_le hpos] at this
        omega
      have hr : 0 < r := by
        cases r with
        | zero =>
          have : j = 8 := by omega
          subst this
          have : 10 ^ 9 ≤ m := hm2
          omega
        | succ r => omega
      rw [if_neg (nI_nlt (by omega) (by omega)), nI_mul, show 10 * 10 ^ j = 10 ^ (j + 1) by rw [Nat.pow_succ, Nat.mul_comm]]
      exact mix23 hm hn (r - 1) (j + 1) fu (by omega) (by omega) (fun _ => hm2)
/-- a number is mixed -/
theorem mixN {v : Int32} (hv : v.toInt.natAbs ≤ 999999999) (hn : 6002 ≤ n) : g265 n v (xH X h) = some ((), xH X ((dcI v).foldl mxB h)) := by
  have key : ∀ (h : Int64) (m : Nat) (u l1 : Int32), m = v.toInt.natAbs → u = nI m → gb265_20 n l1 u (xH X h) = some ((), xH X ((dcN 11 v.toInt.natAbs).foldl mxB h)) := by
    intro h m u l1 hm hu
    unfold gb265_20
    rw [hu, ← hm]
    exact mix23 (by omega) hn 8 0 n (by omega) (by omega) (fun q => by omega)
  unfold g265 dcI
  by_cases h0 : v < 0
  · have h0' : ¬ (0 : Int32) ≤ v := by rw [Int32.not_le]; exact h0
    have hneg : v.toInt < 0 := by rw [Int32.lt_iff_toInt_lt] at h0; exact h0
    rw [if_neg h0', if_pos h0, mix_ok]
    dsimp only [Option.bind_some]
    unfold gb265_10
    rw [if_neg h0']
    have hu : -v = nI v.toInt.natAbs := by
      apply nI_ij (by omega)
      rw [Int32.toInt_neg, Int.bmod_eq_of_le (by omega) (by omega)]
      omega
    rw [key _ _ _ _ rfl hu]
    rfl
  · have h0' : (0 : Int32) ≤ v := by rw [Int32.not_lt] at h0; exact h0
    have hpos : 0 ≤ v.toInt := by rw [Int32.le_iff_toInt_le] at h0'; exact h0'
    rw [if_pos h0', if_neg h0]
    unfold gb265_10
    rw [if_pos h0']
    have hu : v = nI v.toInt.natAbs := nI_ij (by omega) (by omega)
    rw [key _ _ _ _ rfl hu]
    rfl
theorem p108 {l1 l2 l3 : Int32} : gb263_108 n l1 l2 l3 (xH X h) = some (nI ((h.toUInt64 ^^^ (h.toUInt64 >>> 32)).toNat % 10000), xH X h) := by
  unfold gb263_108
  have e : (h ^^^ (h.toUInt64 >>> ((32 : Int32).toInt64.toUInt64 &&& Int64.toUInt64 63)).toInt64).toUInt64 = h.toUInt64 ^^^ (h.toUInt64 >>> 32) := by
    rw [show ((32 : Int32).toInt64.toUInt64 &&& Int64.toUInt64 63) = 32 by decide]
    rfl
  rw [← e, ← plc_eq]
  rfl
theorem mix9 {x : List Int32 × Thg} (hL : LN X) (hS : SLT X s salt) (hs : s < 3016) (ht : ∀ c ∈ salt, dTxt c = true) (hK : KNX X K) (hx : K[k]? = some x) (hb : x.2.1 = false → x.2.2.1.toInt.natAbs ≤ 999999999) (hn : 6002 ≤ n) : ∀ (fu c : Nat) (h : Int64), c ≤ salt.length → salt.length - c < fu → gf263_9 n fu (nI s) (nI k) (nI c) (xH X h) = some (nI (((((salt.drop c) ++ (0 :: thB x.2)).foldl mxB h).toUInt64 ^^^ ((((salt.drop c) ++ (0 :: thB x.2)).foldl mxB h).toUInt64 >>> 32)).toNat % 10000), xH X (((salt.drop c) ++ (0 :: thB x.2)).foldl mxB h))
  | 0, c, h, _, hf => by omega
  | fu + 1, c, h, hc, hf => by
    have hl := hS.1
    have hk8 : k < 8 := by have := lt_of_get hx; have := hK.2.1; omega
    obtain ⟨k1, k2, k3, k4⟩ := hK.2.2 k x hx
    show gb263_9 n (gf263_9 n fu) (nI s) (nI k) (nI c) (xH X h) = _
    unfold gb263_9
    rw [show rd ((xH X h).2.2 2) (nI s) = some (nI salt.length) from (rd_nI (by omega)).trans hS.2.1]
    dsimp only [Option.bind_some]
    by_cases hz : c = salt.length
    · rw [if_pos (by rw [hz]; exact Int32.le_refl _), mix_ok, List.drop_eq_nil_of_le (by omega), List.nil_append]
      dsimp only [Option.bind_some]
      rw [show rd ((xH X (mxB h 0)).2.2 60) (nI k) = some (b2 x.2.1) from (rd_cv hL (by decide) (by show _ < 8; omega) (by omega)).trans (by rw [k2])]
      dsimp only [Option.bind_some]
      unfold thB
      rw [List.foldl_cons]
      cases hxt : x.2.1 with
      | false =>
        rw [if_pos b2_f, if_neg (by decide), show rd ((xH X (mxB h 0)).2.2 61) (nI k) = some x.2.2.1 from (rd_cv hL (by decide) (by show _ < 8; omega) (by omega)).trans (by rw [k3 hxt])]
        dsimp only [Option.bind_some]
        rw [mixN (hb hxt) hn]
        dsimp only [Option.bind_some]
        exact p108
      | true =>
        have hkt := k4 hxt
        rw [if_neg (show ¬ b2 true = 0 by decide), if_pos rfl]
        obtain ⟨l3, e⟩ := mix56 (n := n) (l1 := nI s) hkt.1 hk8 hkt.2 n 0 (mxB h 0) (by omega) (by have := hkt.1.1; omega)
        rw [show (0 : Int32) = nI 0 from rfl, show mxB h (nI 0) = mxB h 0 from rfl, e, List.drop_zero]
        exact p108
    · have hlt : c < salt.length := by omega
      rw [if_neg (nI_ge hlt (by omega)), show (16 : Int32) = nI 16 from rfl, nI_mul, nI_add, mixT hS (by omega) ht hlt]
      dsimp only [Option.bind_some]
      rw [mix_ok]
      dsimp only [Option.bind_some]
      rw [nI_1, drop_D hlt]
      exact mix9 hL hS hs ht hK hx hb hn fu (c + 1) (mxB h (salt.getD c 0)) (by omega) (by omega)
/-- placeOf -/
theorem plc_ok {x : List Int32 × Thg} (hL : LN X) (hS : SLT X s salt) (hs : s < 3016) (ht : ∀ c ∈ salt, dTxt c = true) (hK : KNX X K) (hx : K[k]? = some x) (hb : x.2.1 = false → x.2.2.1.toInt.natAbs ≤ 999999999) (hn : 6002 ≤ n) : ∃ h, g263 n (nI s) (nI k) X = some (plc salt x.2, xH X h) := by
  have hl := hS.1
  refine ⟨hsh salt x.2, ?_⟩
  have := mix9 hL hS hs ht hK hx hb hn n 0 (-3750763034362895579) (by omega) (by omega)
  rw [List.drop_zero] at this
  exact this
end
end ZPL

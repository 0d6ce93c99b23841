/-! THE CLASS: a number as it is written -/
section ZJD
theorem ng_i {m : Nat} (h : m < 2 ^ 31) : (-(nI m)).toInt = -(m : Int) := by
  rw [Int32.toInt_neg, nI_toInt h, Int.bmod_eq_of_le (by omega) (by omega)]
theorem ng_lt {m c : Nat} (hm : m < 2 ^ 31) (hc : c < 2 ^ 31) : (-(nI c) < -(nI m)) ↔ m < c := by
  rw [Int32.lt_iff_toInt_lt, ng_i hm, ng_i hc]
  omega
theorem ng_le {m c : Nat} (hm : m < 2 ^ 31) (hc : c < 2 ^ 31) : (-(nI c) ≤ -(nI m)) ↔ m ≤ c := by
  rw [Int32.le_iff_toInt_le, ng_i hm, ng_i hc]
  omega
theorem ng_dv {m : Nat} (hm : m < 2 ^ 31) : -(nI m) / 100 = -(nI (m / 100)) := by
  apply Int32.toInt_inj.mp
  have hq := Nat.div_le_self m 100
  rw [Int32.toInt_div, ng_i hm, ng_i (by omega), show (100 : Int32).toInt = ((100 : Nat) : Int) from rfl, Int.neg_tdiv, ← Int.ofNat_tdiv]
  apply Int.bmod_eq_of_le
  · omega
  · omega
theorem ng_md {m : Nat} (hm : m < 2 ^ 31) : -(nI m) / 100 * 100 - -(nI m) = nI (m % 100) := by
  have h := nI_md (a := m) (c := 100) hm (by omega)
  rw [nI_dv hm (by omega)] at h
  rw [ng_dv hm, ← h, Int32.neg_mul, Int32.sub_eq_add_neg, Int32.neg_neg, Int32.sub_eq_add_neg, Int32.add_comm]
  rfl
theorem nrw_d : ∀ k : Fin 128, narrow .byte (.int (nI k.1)) = .int (nI k.1) := by decide +kernel
section
variable {n : Nat} {Y Y1 : zY} {a s k ar m : Nat} {w : List Int32} {x v l1 l6 : Int32}
theorem fx_ones (hF : FXY Y) {r : Nat} (hr : r < 100) : yaB Y 46 (nI r) = some (nI (48 + r % 10)) := by
  have h1 : zg zroL 45 = some (.inl (1, (List.range 100).map fun r => Value.int (nI (48 + r % 10)))) := by decide +kernel
  have := hF.2.1 45 1 _ h1 (by omega) (by omega)
  unfold yaB
  rw [yal_of this rfl (by omega), zg_eq, List.getElem?_map, List.getElem?_range hr]
  rfl
theorem fx_tens (hF : FXY Y) {r : Nat} (hr : r < 100) : yaB Y 47 (nI r) = some (nI (48 + r / 10)) := by
  have h1 : zg zroL 46 = some (.inl (1, (List.range 100).map fun r => Value.int (nI (48 + r / 10)))) := by decide +kernel
  have := hF.2.1 46 1 _ h1 (by omega) (by omega)
  unfold yaB
  rw [yal_of this rfl (by omega), zg_eq, List.getElem?_map, List.getElem?_range hr]
  rfl
theorem nI_p {p : Nat} (h : 0 < p) : nI p + (-1) = nI (p - 1) := by
  have : p = (p - 1) + 1 := by omega
  rw [this, ← nI_1, Int32.add_assoc, show (1 : Int32) + -1 = 0 from rfl, Int32.add_zero]
  congr 1
/-- one digit is written -/
theorem put_d {p d : Nat} {suf : List Value} (h : Y.1 ar = some (oA 1 (List.replicate p (.int 0) ++ suf))) (ha : 139 ≤ ar) (hp : 0 < p) (hp2 : p < 1000) (hd : d < 128) : yS zsB Y ar (nI p + (-1)) (.int (nI d)) = some (yu Y ar (some (oA 1 (List.replicate (p - 1) (.int 0) ++ (.int (nI d) :: suf))))) := by
  have hr : List.replicate p (Value.int 0) ++ suf = List.replicate (p - 1) (.int 0) ++ (.int 0 :: suf) := by
    have : p = (p - 1) + 1 := by omega
    conv => lhs; rw [this, List.replicate_succ', List.append_assoc]
    rfl
  rw [hr] at h
  have hl : (List.replicate (p - 1) (Value.int 0)).length = p - 1 := List.length_replicate ..
  have e1 := zg_mid (l := List.replicate (p - 1) (Value.int 0)) (x := Value.int 0) (r := suf)
  have e2 := zs_mid (l := List.replicate (p - 1) (Value.int 0)) (x := Value.int 0) (y := Value.int (nI d)) (r := suf)
  rw [hl] at e1 e2
  rw [nI_p hp, yS_of (ok := zsB) (y := .int (nI d)) h ha (by show some (narrow .byte (.int (nI d))) = _; rw [nrw_d ⟨d, hd⟩]) (by omega) e1, e2]
theorem FXY_u {ob : yO} (hF : FXY Y) (ha : 139 ≤ a) : FXY (yu Y a (some ob)) := FXY_F hF (FRY_u [a] (by simp)) (fun b hb => by rw [List.mem_singleton.mp hb]; exact ha)
def dcV (m : Nat) : List Value := (dcN 11 m).map fun x => Value.int x
theorem dcV_1 (h : m < 10) : dcV m = [.int (nI (48 + m))] := by
  unfold dcV dcN
  rw [if_pos h]
  rfl
theorem dcN_f : ∀ (f g m : Nat), m < 10 ^ f → m < 10 ^ g → 0 < f → 0 < g → dcN f m = dcN g m
  | 0, _, _, _, _, h, _ => by omega
  | _, 0, _, _, _, _, h => by omega
  | f + 1, g + 1, m, h1, h2, _, _ => by
    unfold dcN
    by_cases hm : m < 10
    · rw [if_pos hm, if_pos hm]
    · rw [if_neg hm, if_neg hm]
      have p1 : 10 ^ (f + 1) = 10 * 10 ^ f := by rw [Nat.pow_succ, Nat.mul_comm]
      have p2 : 10 ^ (g + 1) = 10 * 10 ^ g := by rw [Nat.pow_succ, Nat.mul_comm]
      have f0 : 0 < f := by
        cases f with
        | zero => rw [Nat.pow_one] at h1; omega
        | succ f => omega
      have g0 : 0 < g := by
        cases g with
        | zero => rw [Nat.pow_one] at h2; omega
        | succ g => omega
      rw [dcN_f f g (m / 10) (by omega) (by omega) f0 g0]
theorem dcN_s (h : ¬ m < 10) (hm : m ≤ 999999999) : dcN 11 m = dcN 11 (m / 10) ++ [nI (48 + m % 10)] := by
  have e : dcN 11 m = dcN 10 (m / 10) ++ [nI (48 + m % 10)] := by
    show (if m < 10 then _ else _) = _
    rw [if_neg h]
  rw [e, dcN_f 10 11 (m / 10) (by omega) (by omega) (by omega) (by omega)]
theorem dcV_2 (h1 : ¬ m < 10) (h2 : m < 100) : dcV m = [.int (nI (48 + m / 10)), .int (nI (48 + m % 10))] := by
  unfold dcV
  rw [dcN_s h1 (by omega), List.map_append, show dcN 11 (m / 10) = [nI (48 + m / 10)] by unfold dcN; rw [if_pos (by omega)]]
  rfl
theorem dcV_3 (h : ¬ m < 100) (hm : m ≤ 999999999) : dcV m = dcV (m / 100) ++ [.int (nI (48 + m % 100 / 10)), .int (nI (48 + m % 100 % 10))] := by
  unfold dcV
  rw [dcN_s (by omega) hm, dcN_s (by omega) (by omega), List.map_append, List.map_append, Nat.div_div_eq_div_mul, List.append_assoc, show m / 10 % 10 = m % 100 / 10 by omega, show m % 100 % 10 = m % 10 by omega]
  rfl
theorem dcV_l : ∀ (k m : Nat), m ≤ 999999999 → m < k → 1 ≤ (dcV m).length
  | 0, _, _, h => by omega
  | k + 1, m, hm, hk => by
    by_cases h1 : m < 10
    · rw [dcV_1 h1]; show 1 ≤ 1; omega
    · by_cases h2 : m < 100
      · rw [dcV_2 h1 h2]; show 1 ≤ 2; omega
      · rw [dcV_3 h2 hm, List.length_append]; show 1 ≤ _ + 2; omega
/-- getChars -/
theorem gch (ha : 139 ≤ ar) (hn : 6002 ≤ n) : ∀ (fu m p : Nat) (suf : List Value) {Z : zY}, m ≤ 999999999 → m < 10 ^ fu → 0 < fu → (dcV m).length ≤ p → p ≤ 16 → FXY Z → Z.1 ar = some (oA 1 (List.replicate p (.int 0) ++ suf)) → ∃ i, cf45_22 n fu (-(nI m)) l1 (some ar) (nI p) l6 Z = cb45_104 n i l1 (some ar) (nI (p - (dcV m).length)) l6 (yu Z ar (some (oA 1 (List.replicate (p - (dcV m).length) (.int 0) ++ (dcV m ++ suf)))))
  | 0, m, p, suf, Z, _, _, h, _, _, _, _ => by omega
  | fu + 1, m, p, suf, Z, hm, hfu, _, hl, hp, hF, hZ => by
    show ∃ i, cb45_22 n (cf45_22 n fu) (-(nI m)) l1 (some ar) (nI p) l6 Z = _
    unfold cb45_22
    by_cases h2 : m < 100
    · rw [show (-100 : Int32) = -(nI 100) from rfl, if_pos ((ng_lt (by omega) (by omega)).mpr h2), Int32.neg_neg, fx_ones hF h2]
      dsimp only [Option.bind_some]
      have hp0 : 0 < p := by have := dcV_l (m + 1) m hm (by omega); omega
      rw [put_d hZ ha hp0 (by omega) (by omega)]
      dsimp only [Option.bind_some]
      rw [show (-9 : Int32) = -(nI 9) from rfl]
      by_cases h1 : m < 10
      · rw [if_pos ((ng_le (by omega) (by omega)).mpr (by omega)), dcV_1 h1, nI_p hp0]
        exact ⟨_, by rw [Nat.mod_eq_of_lt h1]; rfl⟩
      · rw [if_neg (fun q => absurd ((ng_le (by omega) (by omega)).mp q) (by omega)), fx_tens (FXY_u hF ha) h2]
        dsimp only [Option.bind_some]
        rw [dcV_2 h1 h2] at hl ⊢
        have hl : 2 ≤ p := hl
        rw [nI_p hp0, put_d yu_s ha (by omega) (by omega) (by omega), yu_yu, nI_p (by omega)]
        dsimp only [Option.bind_some]
        exact ⟨-(nI m), rfl⟩
    · have hd3 := dcV_3 h2 hm
      have hlen : (dcV m).length = (dcV (m / 100)).length + 2 := by rw [hd3, List.length_append]; rfl
      have hl1 := dcV_l (m / 100 + 1) (m / 100) (by omega) (by omega)
      rw [show (-100 : Int32) = -(nI 100) from rfl, if_neg (fun q => h2 ((ng_lt (by omega) (by omega)).mp q)), ng_md (by omega), fx_ones hF (by omega)]
      dsimp only [Option.bind_some]
      rw [put_d hZ ha (by omega) (by omega) (by omega)]
      dsimp only [Option.bind_some]
      rw [fx_tens (FXY_u hF ha) (by omega)]
      dsimp only [Option.bind_some]
      rw [nI_p (by omega), put_d yu_s ha (by omega) (by omega) (by omega), yu_yu, nI_p (by omega), ng_dv (by omega)]
      dsimp only [Option.bind_some]
      have hf0 : 0 < fu := by
        cases fu with
        | zero => rw [Nat.zero_add, Nat.pow_one] at hfu; omega
        | succ f => omega
      have p1 : 10 ^ (fu + 1) = 10 * 10 ^ fu := by rw [Nat.pow_succ, Nat.mul_comm]
      obtain ⟨i, hi⟩ := gch ha hn fu (m / 100) (p - 1 - 1) (.int (nI (48 + m % 100 / 10)) :: .int (nI (48 + m % 100 % 10)) :: suf) (Z := yu Z ar (some (oA 1 (List.replicate (p - 1 - 1) (.int 0) ++ (.int (nI (48 + m % 100 / 10)) :: .int (nI (48 + m % 100 % 10)) :: suf))))) (by omega) (by omega) hf0 (by omega) (by omega) (FXY_u hF ha) yu_s
      refine ⟨i, ?_⟩
      rw [hi, yu_yu, hd3, List.append_assoc, List.length_append]
      have e : p - 1 - 1 - (dcV (m / 100)).length = p - ((dcV (m / 100)).length + 2) := by omega
      show cb45_104 n i l1 (some ar) (nI (p - 1 - 1 - (dcV (m / 100)).length)) l6 _ = cb45_104 n i l1 (some ar) (nI (p - ((dcV (m / 100)).length + 2))) l6 _
      rw [e]
      rfl
end
end ZJD

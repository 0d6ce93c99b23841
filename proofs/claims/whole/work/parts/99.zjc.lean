/-! THE CLASS: which word, which sign -/
section ZJC
def spA : List Nat := [49, 49, 49, 49, 49, 91, 93, 95, 97, 99, 101, 103, 105, 107, 109, 111, 113, 115, 69, 71, 73, 75, 117, 87, 89, 119, 79, 77, 81, 121, 61, 59, 57, 83, 85, 123, 125, 127, 129, 131, 133, 135, 137]
def sps : List (List Int32) := spA.map cs
theorem sps_w : sps.drop 14 = wrds.map (·.1) := by decide +kernel
theorem sps_14 : ∀ x ∈ sps.take 14, x = [] ∨ dLet (x.headD 0) = false := by decide +kernel
theorem wrds_i : ∀ j : Fin 29, (wrds.map (·.2))[j.1]? = some (14 + j.1) := by decide +kernel
theorem sps_l : sps.length = 43 := by decide +kernel
def sgL : List (Option Int32) := List.replicate 5 none ++ [some 123, some 125, some 40, some 41, some 59, some 44, some 58, some 61] ++ List.replicate 30 none
theorem sps_sg : sps.map (fun u => if u.length = 1 then some (u.headD 0) else none) = sgL := by decide +kernel
theorem sps_len : ∀ u ∈ sps, u.length ≤ 16 := by decide +kernel
section
variable {n : Nat} {Y Y1 : zY} {a s k : Nat} {w : List Int32} {x : Int32}
theorem fx_sort (hF : FXY Y) (hk : k < 43) : Y.1 (k + 1) = some (oB 15 [.int (nI k), .ref (spA.getD k 0)]) := by
  have : ∀ k : Fin 43, zg zroL k.1 = some (.inr (15, [.int (nI k.1), .ref (spA.getD k.1 0)])) := by decide +kernel
  exact hF.1 k 15 _ (this ⟨k, hk⟩) rfl
theorem fx_all (hF : FXY Y) : Y.1 44 = some (oA 20 ((List.range 43).map fun k => Value.ref (k + 1))) := by
  have : zg zroL 43 = some (.inl (20, (List.range 43).map fun k => Value.ref (k + 1))) := by decide +kernel
  exact hF.2.1 43 20 _ this (by omega) (by omega)
theorem fx_sp (hF : FXY Y) (hk : k < 43) : Y.1 (spA.getD k 0) = some (oS (sps.getD k [])) := by
  have h1 : ∀ k : Fin 43, spA.getD k.1 0 ∈ fxs := by decide
  have h2 : ∀ k : Fin 43, cs (spA.getD k.1 0) = sps.getD k.1 [] := by decide +kernel
  rw [hF.2.2 _ (h1 ⟨k, hk⟩), h2 ⟨k, hk⟩]
theorem spA_pos (hk : k < 43) : 1 ≤ spA.getD k 0 := by
  have h1 : ∀ k : Fin 43, 1 ≤ spA.getD k.1 0 := by decide
  exact h1 ⟨k, hk⟩
theorem all_at (hF : FXY Y) (hk : k < 43) : yaR Y 44 (nI k) = some (some (k + 1)) := by
  unfold yaR
  rw [yal_of (fx_all hF) rfl (by omega), zg_eq, List.getElem?_map, List.getElem?_range hk]
  rfl
theorem all_len (hF : FXY Y) : yL Y 44 = some (nI 43) := by
  rw [yL_of (fx_all hF), List.length_map, List.length_range]
theorem eq_ok {u : List Int32} (h1 : Y.1 a = some (oS u)) (h2 : Y.1 s = some (oS w)) (ha : 1 ≤ a) (hs : 1 ≤ s) (hl : u.length ≤ 6000) (hn : 6002 ≤ n) : c29 n a (some s) Y = some (if u = w then 1 else 0, Y) := by
  unfold c29
  dsimp only [Option.bind_some]
  rw [h1, h2]
  dsimp only
  have : (Nat.ble 1 a && Nat.ble 1 s && Nat.ble (u.length + 1) n) = true := by
    rw [show Nat.ble 1 a = true from Nat.ble_eq_true_of_le ha, show Nat.ble 1 s = true from Nat.ble_eq_true_of_le hs, show Nat.ble (u.length + 1) n = true from Nat.ble_eq_true_of_le (by omega)]; rfl
  rw [this]
theorem isO_s {u : List Int32} (h : Y.1 a = some (oS u)) : yisO Y a 12 = true := by
  unfold yisO
  rw [h]
  rfl
theorem getD_mem {k : Nat} (hk : k < 43) : sps.getD k [] ∈ sps := by
  rw [List.getD_eq_getElem?_getD, List.getElem?_eq_getElem (by rw [sps_l]; exact hk)]
  exact List.getElem_mem _
theorem spsd {k : Nat} (hk : k < 43) : sps.drop k = sps.getD k [] :: sps.drop (k + 1) := by
  rw [List.drop_eq_getElem_cons (by rw [sps_l]; exact hk), List.getD_eq_getElem?_getD, List.getElem?_eq_getElem (by rw [sps_l]; exact hk)]
  rfl
theorem ofw_l (hF : FXY Y) (hs : Y.1 s = some (oS w)) (hs1 : 1 ≤ s) (hn : 6002 ≤ n) : ∀ (fu i : Nat), i ≤ 43 → 43 - i < fu → cf28_2 n fu (some s) (nI i) Y = some (match (sps.drop i).findIdx? (fun u => u == w) with | some j => some (i + j + 1) | none => some 3, Y)
  | 0, i, _, h => by omega
  | fu + 1, i, hi, hf => by
    show cb28_2 n (cf28_2 n fu) (some s) (nI i) Y = _
    unfold cb28_2
    refine bnd_eq (all_len hF) ?_
    by_cases hz : i = 43
    · rw [hz, if_pos (Int32.le_refl _), List.drop_eq_nil_of_le (by rw [sps_l]; omega)]
      rfl
    · have hlt : i < 43 := by omega
      rw [if_neg (nI_ge hlt (by omega)), all_at hF hlt]
      dsimp only [Option.bind_some]
      refine bnd_eq (yR_of (r := some (spA.getD i 0)) (fx_sort hF hlt) rfl) ?_
      dsimp only [Option.bind_some]
      refine zgd_eq (isO_s (fx_sp hF hlt)) ?_
      rw [eq_ok (fx_sp hF hlt) hs (spA_pos hlt) hs1 (by have := sps_len _ (getD_mem hlt); omega) hn]
      dsimp only [Option.bind_some]
      rw [spsd hlt, List.findIdx?_cons]
      by_cases he : sps.getD i [] = w
      · rw [if_pos he, if_neg (by decide), if_pos (by simpa using he), all_at hF hlt]
        rfl
      · rw [if_neg he, if_pos rfl, if_neg (by simpa using he), nI_1, ofw_l hF hs hs1 hn fu (i + 1) (by omega) (by omega)]
        cases List.findIdx? (fun u => u == w) (sps.drop (i + 1)) with
        | none => rfl
        | some j => show some (some (i + 1 + j + 1), Y) = some (some (i + (j + 1) + 1), Y); rw [show i + 1 + j + 1 = i + (j + 1) + 1 by omega]
theorem find_idx {w : List Int32} : (match wrds.find? (fun x => x.1 == w) with | some x => some x.2 | none => none) = ((wrds.map (·.1)).findIdx? (fun u => u == w)).map (fun j => 14 + j) := by
  have h : ∀ (l : List (List Int32 × Nat)) (b : Nat), (∀ j, (l.map (·.2))[j]? = if j < l.length then some (b + j) else none) → (match l.find? (fun x => x.1 == w) with | some x => some x.2 | none => none) = ((l.map (·.1)).findIdx? (fun u => u == w)).map (fun j => b + j) := by
    intro l
    induction l with
    | nil => intro b _; rfl
    | cons y l ih =>
      intro b hb
      rw [List.map_cons, List.findIdx?_cons]
      have h0 := hb 0
      rw [if_pos (by show 0 < l.length + 1; omega)] at h0
      have h0 : y.2 = b + 0 := Option.some.inj h0
      by_cases q : (y.1 == w) = true
      · rw [List.find?_cons_of_pos (p := fun x : List Int32 × Nat => x.1 == w) q, if_pos q]
        show some y.2 = some (b + 0)
        rw [h0]
      · rw [List.find?_cons_of_neg (p := fun x : List Int32 × Nat => x.1 == w) q, if_neg q, ih (b + 1) (fun j => by
          have := hb (j + 1)
          rw [List.map_cons, List.getElem?_cons_succ] at this
          rw [this]
          by_cases hj : j < l.length
          · rw [if_pos (by show j + 1 < l.length + 1; omega), if_pos hj]; congr 1; omega
          · rw [if_neg (by show ¬ j + 1 < l.length + 1; omega), if_neg hj])]
        cases (l.map (·.1)).findIdx? (fun u => u == w) with
        | none => rfl
        | some j => show some (b + 1 + j) = some (b + (j + 1)); congr 1; omega
  refine h wrds 14 (fun j => ?_)
  have hl : wrds.length = 29 := by decide
  by_cases hj : j < 29
  · rw [wrds_i ⟨j, hj⟩, if_pos (by rw [hl]; exact hj)]
  · rw [List.getElem?_eq_none (by rw [List.length_map, hl]; omega), if_neg (by rw [hl]; exact hj)]
/-- ofWord -/
theorem ofw_ok (hF : FXY Y) (hs : Y.1 s = some (oS w)) (hs1 : 1 ≤ s) (hw : w ≠ []) (hl : dLet (w.headD 0) = true) (hn : 6002 ≤ n) : c28 n (some s) Y = some (some (wsort w + 1), Y) := by
  unfold c28
  rw [show (0 : Int32) = nI 0 from rfl, ofw_l hF hs hs1 hn n 0 (by omega) (by omega), List.drop_zero]
  have h14 : sps.findIdx? (fun u => u == w) = ((sps.drop 14).findIdx? (fun u => u == w)).map (fun j => j + 14) := by
    conv => lhs; rw [← List.take_append_drop 14 sps]
    rw [List.findIdx?_append]
    have : (sps.take 14).findIdx? (fun u => u == w) = none := by
      rw [List.findIdx?_eq_none_iff]
      intro x hx
      rcases sps_14 x hx with h | h
      · simp only [beq_eq_false_iff_ne]
        rw [h]
        exact fun q => hw q.symm
      · simp only [beq_eq_false_iff_ne]
        intro q
        rw [q, hl] at h
        cases h
    rw [this]
    have hlen : (sps.take 14).length = 14 := by rw [List.length_take, sps_l]; rfl
    rw [hlen]
    cases (sps.drop 14).findIdx? (fun u => u == w) <;> rfl
  rw [h14, sps_w]
  have hfi := find_idx (w := w)
  unfold wsort
  cases hq : wrds.find? (fun x => x.1 == w) with
  | none =>
    rw [hq] at hfi
    cases hj : (wrds.map (·.1)).findIdx? (fun u => u == w) with
    | none => rfl
    | some j => rw [hj] at hfi; cases hfi
  | some x =>
    rw [hq] at hfi
    cases hj : (wrds.map (·.1)).findIdx? (fun u => u == w) with
    | none => rw [hj] at hfi; cases hfi
    | some j =>
      rw [hj] at hfi
      have hfi : x.2 = 14 + j := Option.some.inj hfi
      show some (some (0 + (j + 14) + 1), Y) = some (some (x.2 + 1), Y)
      rw [hfi]
      congr 3
      omega
/-! signs -/
def sgB (x : Int32) (u : List Int32) : Bool := decide ((if u.length = 1 then some (u.headD 0) else none) = some x)
theorem ofs_l (hF : FXY Y) (hn : 6002 ≤ n) : ∀ (fu i : Nat), i ≤ 43 → 43 - i < fu → cf58_2 n fu x (nI i) Y = some (match (sps.drop i).findIdx? (sgB x) with | some j => some (i + j + 1) | none => some 2, Y)
  | 0, i, _, h => by omega
  | fu + 1, i, hi, hf => by
    show cb58_2 n (cf58_2 n fu) x (nI i) Y = _
    unfold cb58_2 cb58_42
    refine bnd_eq (all_len hF) ?_
    by_cases hz : i = 43
    · rw [hz, if_pos (Int32.le_refl _), List.drop_eq_nil_of_le (by rw [sps_l]; omega)]
      rfl
    · have hlt : i < 43 := by omega
      have hnext : sgB x (sps.getD i []) = false → cf58_2 n fu x (nI i + 1) Y = some (match (sps.drop i).findIdx? (sgB x) with | some j => some (i + j + 1) | none => some 2, Y) := by
        intro hB
        rw [spsd hlt, List.findIdx?_cons, hB, if_neg (by decide), nI_1, ofs_l hF hn fu (i + 1) (by omega) (by omega)]
        cases List.findIdx? (sgB x) (sps.drop (i + 1)) with
        | none => rfl
        | some j => show some (some (i + 1 + j + 1), Y) = some (some (i + (j + 1) + 1), Y); rw [show i + 1 + j + 1 = i + (j + 1) + 1 by omega]
      rw [if_neg (nI_ge hlt (by omega)), all_at hF hlt]
      dsimp only [Option.bind_some]
      refine bnd_eq (yR_of (r := some (spA.getD i 0)) (fx_sort hF hlt) rfl) ?_
      dsimp only [Option.bind_some]
      refine zgd_eq (isO_s (fx_sp hF hlt)) ?_
      have hlen := sps_len _ (getD_mem hlt)
      rw [show c55 n (spA.getD i 0) Y = some (nI (sps.getD i []).length, Y) by unfold c55; rw [fx_sp hF hlt]]
      dsimp only [Option.bind_some]
      by_cases h1 : (sps.getD i []).length = 1
      · rw [if_pos (by rw [h1]; rfl)]
        refine zgd_eq (isO_s (fx_sp hF hlt)) ?_
        obtain ⟨y, hy⟩ : ∃ y, sps.getD i [] = [y] := List.length_eq_one_iff.mp h1
        rw [show c59 n (spA.getD i 0) 0 Y = some (y, Y) by unfold c59; rw [fx_sp hF hlt, hy]; rfl]
        dsimp only [Option.bind_some]
        by_cases he : y = x
        · rw [if_pos he, spsd hlt, List.findIdx?_cons, if_pos (by unfold sgB; rw [hy, he]; simp), all_at hF hlt]
          rfl
        · rw [if_neg he]
          exact hnext (by unfold sgB; rw [hy]; simpa using he)
      · rw [if_neg (by rw [show (1 : Int32) = nI 1 from rfl, nI_eq (by omega) (by omega)]; exact h1)]
        exact hnext (by unfold sgB; rw [if_neg h1]; rfl)
theorem ofs_ok (hF : FXY Y) (hn : 6002 ≤ n) : c58 n x Y = some (some (gsort x + 1), Y) := by
  unfold c58
  rw [show (0 : Int32) = nI 0 from rfl, ofs_l hF hn n 0 (by omega) (by omega), List.drop_zero]
  have h : sps.findIdx? (sgB x) = sgL.findIdx? (fun u => decide (u = some x)) := by
    rw [← sps_sg, List.findIdx?_map]
    rfl
  rw [h]
  unfold gsort
  by_cases h1 : x = 123
  · subst h1; rfl
  by_cases h2 : x = 125
  · subst h2; rfl
  by_cases h3 : x = 40
  · subst h3; rfl
  by_cases h4 : x = 41
  · subst h4; rfl
  by_cases h5 : x = 59
  · subst h5; rfl
  by_cases h6 : x = 44
  · subst h6; rfl
  by_cases h7 : x = 58
  · subst h7; rfl
  by_cases h8 : x = 61
  · subst h8; rfl
  rw [if_neg h1, if_neg h2, if_neg h3, if_neg h4, if_neg h5, if_neg h6, if_neg h7, if_neg h8]
  have : sgL.findIdx? (fun u => decide (u = some x)) = none := by
    rw [List.findIdx?_eq_none_iff]
    intro u hu
    rw [decide_eq_false_iff_not]
    intro e
    subst e
    unfold sgL at hu
    simp only [List.mem_append, List.mem_replicate, List.mem_cons, List.not_mem_nil, Option.some.injEq, reduceCtorEq, and_false, or_false, false_or] at hu
    rcases hu with h | h | h | h | h | h | h | h
    · exact h1 h
    · exact h2 h
    · exact h3 h
    · exact h4 h
    · exact h5 h
    · exact h6 h
    · exact h7 h
    · exact h8 h
  rw [this]
end
end ZJC

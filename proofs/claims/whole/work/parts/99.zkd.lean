/-! THE CLASS READS: layers -/
section ZKD
section
variable {n : Nat} {Y Y0 Y1 Y2 Y' : zY} {a b s p m e r q rd pl W W2 WE lo hi x c i : Nat} {S S1 : List Nat} {t : Tk} {ts ts0 : List Tk} {of ob : Int32} {l : Nat → Nat} {rc sq ly sa fr er os : Nat} {k : Nat × List (List Int32)} {xs xs' : Nat → List Nat} {P P' : Pln} {bd : Nat → Nat} {vs : List Value} {w : List Int32} {fn ln : List (List Int32)} {spl : List Spl} {items : List Itm}
/-- what a layer tells next: a rule -/
theorem te21 (h : RS rd pl W Y ts) (hP : PLC Y pl l os p rc sq) (hx : LSX Y (l 6) (xs 6)) (h21 : (hd ts).1 = 21) (hl : (xs 6).length = m) (hm : m ≤ 100) (hE : W ≤ WE + 250) : CR rd pl Y [rd] (W - 300) WE (c109 n rd Y) (sFirst m 100 ts) (fun z => z) (fun _ z v => v = some 22 ∧ z = adv ts ∧ z.length + 1 = ts.length ∧ m < 100) := by
  unfold c109
  obtain ⟨a, e, nx, k1, k2, k3, k4⟩ := rdr_t h.2.1
  refine CR_y k1 (CR_y rfl (CR_y k4 (CR_y (rEq_s (by omega) (by omega)) ?_)))
  rw [if_pos (decide_eq_true (by omega))]
  refine CR_y (rdr_p h.2.1) (CR_y rfl (CR_y (yR_of (r := some (l 6)) hP.1 rfl) (CR_y rfl (CR_g (lsx_o hx) (CR_y (lsx_n hx) (CR_g (rdr_o h.2.1) ?_))))))
  rw [show sFirst m 100 ts = rb (sFirst m 100 ts) (fun z => .inr z) by cases sFirst m 100 ts <;> rfl]
  refine CR_b (fw_ok (hv := m) (mo := 100) h (by rw [hl]) rfl (by omega) (by omega) (by omega) hE) FR_R (fun a h => Or.inl h) h.1.2 ?_
  rintro z v Y1 hS1 hf1 hf01 ⟨i1, i2, i3⟩
  exact CR_s hS1 hf01 ⟨by rw [h21], i1, i2, i3⟩
/-- an off or a set -/
theorem te19 (h : RS rd pl W Y ts) (hP : PLC Y pl l os p rc sq) (hs : (hd ts).1 = 19 ∨ (hd ts).1 = 24) (hm : os ≤ 40) (hE : W ≤ WE + 250) : CR rd pl Y [rd, pl] (W - 300) WE (c109 n rd Y) (sFirst os 40 ts) (fun z => z) (fun Y1 z v => v = some ((hd ts).1 + 1) ∧ PLC Y1 pl l (os + 1) p rc sq ∧ z = adv ts ∧ z.length + 1 = ts.length ∧ os < 40) := by
  have hpr := pl_rd h hP
  have hgo : CR rd pl Y [rd, pl] (W - 300) WE (cb109_48 n rd (some ((hd ts).1 + 1)) Y) (sFirst os 40 ts) (fun z => z) (fun Y1 z v => v = some ((hd ts).1 + 1) ∧ PLC Y1 pl l (os + 1) p rc sq ∧ z = adv ts ∧ z.length + 1 = ts.length ∧ os < 40) := by
    unfold cb109_48
    refine CR_y (rdr_p h.2.1) (CR_y rfl (CR_y (yI_of hP.1 rfl) (CR_g (rdr_o h.2.1) ?_)))
    rw [show sFirst os 40 ts = rb (sFirst os 40 ts) (fun z => .inr z) by cases sFirst os 40 ts <;> rfl]
    refine CR_b (fw_ok (hv := os) (mo := 40) h rfl rfl (by omega) (by omega) (by omega) hE) FR_R (fun a h => Or.inl (by rw [List.mem_singleton.mp h]; simp)) h.1.2 ?_
    rintro z v Y1 hS1 hf1 hf01 ⟨i1, i2, i3⟩
    have hP1 := PLC_k hP hf1 (by simpa using hpr)
    refine CR_y (rdr_p hS1.2.1) (CR_y rfl (CR_y (yI_of hP1.1 rfl) (CR_y (yP_of hP1.1 hP1.2 rfl rfl) ?_)))
    refine CR_s (RS_w hS1 hP1.1 rfl hpr hP1.2) (FR_T hf01 (FR_u hP1.1 rfl) (fun a h => Or.inl (by rw [List.mem_singleton.mp h]; simp)) h.1.2) ⟨rfl, ⟨?_, hP.2⟩, i1, i2, i3⟩
    rw [yu_s, nI_1]
    rfl
  unfold c109
  obtain ⟨a, e, nx, k1, k2, k3, k4⟩ := rdr_t h.2.1
  refine CR_y k1 (CR_y rfl (CR_y k4 (CR_y (rEq_s (by omega) (by omega)) ?_)))
  rw [if_neg (by rw [decide_eq_false (by omega)]; decide)]
  refine CR_y (rEq_s (by omega) (by omega)) ?_
  by_cases c : (hd ts).1 = 19
  · rw [if_pos (decide_eq_true (by omega))]
    exact hgo
  · rw [if_neg (by rw [decide_eq_false (by omega)]; decide)]
    refine CR_y (rEq_s (by omega) (by omega)) ?_
    rw [if_pos (decide_eq_true (by omega))]
    exact hgo
/-- nothing of that -/
theorem te0 {α σ : Type} {f : Option Nat → zY → Option ((α ⊕ Nat) × zY)} {L : σ → List Tk} {Q : zY → σ → α → Prop} (h : RS rd pl W Y ts) (h1 : (hd ts).1 ≠ 21) (h2 : ¬ ((hd ts).1 = 19 ∨ (hd ts).1 = 24)) (hf : FR Y0 Y S) (hr : rd ∈ S) (hD : DM Y0) (hE : W ≤ WE + 250) : CR rd pl Y0 S W2 WE ((c109 n rd Y).bind fun p => zth p f (fun x h => zgd (exOk x) <| some (.inr x, h))) (.inl (sErr 2 (hd ts))) L Q := by
  obtain ⟨a, e, nx, k1, k2, k3, k4⟩ := rdr_t h.2.1
  obtain ⟨Y1, g1, g2, g3, g4, g5⟩ := ref_ok (n := n) (kd := 2) h.1 h.2.1 k2
  have e109 : c109 n rd Y = some (.inr 18, Y1) := by
    unfold c109
    refine bnd_eq k1 (bnd_eq rfl (bnd_eq k4 (bnd_eq (rEq_s (by omega) (by omega)) ?_)))
    rw [if_neg (by rw [decide_eq_false (by omega)]; decide)]
    refine bnd_eq (rEq_s (by omega) (by omega)) ?_
    rw [if_neg (by rw [decide_eq_false (by omega)]; decide)]
    refine bnd_eq (rEq_s (by omega) (by omega)) ?_
    rw [if_neg (by rw [decide_eq_false (by omega)]; decide)]
    exact bnd_eq k1 (zgd_eq (rdr_o h.2.1) (bnd_eq g1 rfl))
  exact ⟨Y1, bnd_eq e109 rfl, g2, FR_T hf g3 (fun a h => by rw [List.mem_singleton.mp h]; exact Or.inl hr) hD, by have := h.2.2; omega, g5⟩
/-- a new layer -/
theorem ly_new {M : Nat} {y2 : Int32} (hB : BY Y) (hy : y2 = nI M) : ∃ Y1, c108 n Y.2.1 of y2 (yN Y 2 5) = some ((), Y1) ∧ BY Y1 ∧ FR Y Y1 [] ∧ wY Y1 = wY Y + 61 ∧ LYX Y1 Y.2.1 (Y.2.1 + 1) of M M 0 (List.replicate 24 .null) ∧ Y1.2.1 = Y.2.1 + 2 := by
  subst hy
  have h231 := hB.2.1
  have hN : (yN Y 2 5).1 Y.2.1 = some (oB 2 (zdf 2)) := ya_s
  obtain ⟨Z1, hZ1⟩ : ∃ Z1, Z1 = yu (yN Y 2 5) Y.2.1 (some (oB 2 (zs (zdf 2) 3 (.int 0)))) := ⟨_, rfl⟩
  obtain ⟨Z2, hZ2⟩ : ∃ Z2, Z2 = ya Z1 (oA 12 (List.replicate 24 .null)) 24 := ⟨_, rfl⟩
  obtain ⟨Z3, hZ3⟩ : ∃ Z3, Z3 = yu Z2 Y.2.1 (some (oB 2 [.int of, .int (nI M), .int (nI M), .int 0, .ref (Y.2.1 + 1)])) := ⟨_, rfl⟩
  have a1 : Z1.1 Y.2.1 = some (oB 2 (zs (zdf 2) 3 (.int 0))) := by rw [hZ1]; exact yu_s
  have a2 : Z1.2.1 = Y.2.1 + 1 := by rw [hZ1]; rfl
  have b1 : Z2.1 Y.2.1 = some (oB 2 (zs (zdf 2) 3 (.int 0))) := by rw [hZ2, ya_n (by rw [a2]; omega)]; exact a1
  have b2 : Z2.1 (Y.2.1 + 1) = some (oA 12 (List.replicate 24 .null)) := by rw [hZ2, ← a2]; exact ya_s
  have hB1 : BY Z1 := by rw [hZ1]; exact BY_u (BY_a hB) (by omega) (by show Y.2.1 < Y.2.1 + 1; omega)
  have hB2 : BY Z2 := by rw [hZ2]; exact BY_a hB1
  have hB3 : BY Z3 := by rw [hZ3]; exact BY_u hB2 (by omega) (hB2.2.2 _ _ b1)
  have f1 : FR Y Z1 [] := by rw [hZ1]; exact FR_n (FR_a hB.2) hB.2 (Nat.le_refl _)
  have f2 : FR Y Z2 [] := FR_T f1 (by rw [hZ2]; exact FR_a hB1.2) (fun a h => by cases h) hB.2 (S1 := [])
  have f3 : FR Y Z3 [] := by rw [hZ3]; exact FR_n f2 hB.2 (Nat.le_refl _)
  have hW : yW Z1 7 24 = some Z2 := by
    unfold yW
    rw [hZ2]
    rfl
  refine ⟨Z3, ?_, hB3, f3, ?_, ⟨by rw [hZ3]; exact yu_s, by rw [hZ3, yu_n (by omega)]; exact b2, by rw [List.length_replicate], by omega, by omega⟩, ?_⟩
  · unfold c108
    refine bnd_eq (yP_of hN (by omega) rfl rfl) ?_
    rw [← hZ1]
    refine bnd_eq hW ?_
    rw [a2]
    refine bnd_eq (yP_of b1 (by omega) rfl rfl) ?_
    refine bnd_eq (yP_of yu_s (by omega) rfl rfl) ?_
    rw [yu_yu]
    refine bnd_eq (yP_of yu_s (by omega) rfl rfl) ?_
    rw [yu_yu]
    refine bnd_eq (yP_of yu_s (by omega) rfl rfl) ?_
    rw [yu_yu, hZ3]
    rfl
  · rw [hZ3, hZ2, hZ1]
    show 16 * (Y.2.2.1 + 1 + 1) + (Y.2.2.2 + 5 + 24) = 16 * Y.2.2.1 + Y.2.2.2 + 61
    omega
  · rw [hZ3, hZ2]
    show Z1.2.1 + 1 = _
    omega
/-! bits of a layer -/
theorem bits_o1 {f : Nat → Bool} {j : Nat} (hj : j < 24) : bitsI f 24 ||| ((1 : Int32) <<< (nI j &&& 31)) = bitsI (fun x => f x || x == j) 24 := by
  refine bt_ext (fun i hi => ?_)
  rw [bt_or, bt_bits (by omega), bt_bits (by omega), bt_sh (by omega)]
  by_cases c : i = j
  · subst c
    rw [decide_eq_true (show i = i from rfl), decide_eq_true hj]
    simp
  · rw [decide_eq_false c, show (i == j) = false by simpa using c, Bool.or_false, Bool.or_false]
theorem bits_0 : bitsI (fun _ => false) 24 = 0 := by decide
theorem LYm_0 {Y : zY} {spl : List Spl} {items : List Itm} (h : ∀ I ∈ items, I.1 ≠ i) : LYm Y spl items i 0 (List.replicate 24 .null) := by
  have hb : ∀ f, itB items f i = false := fun f => by
    have := itB_app (items := []) (its := items) h (f := f)
    rw [List.nil_append] at this
    rw [this]
    rfl
  have hn : ∀ f, items.find? (fun I => I.2.1 == f && I.1 == i && I.2.2.isSome == true) = none := fun f => by
    have := fnd_app (items := []) (its := items) h (f := f)
    rw [List.nil_append] at this
    rw [this]
    rfl
  refine ⟨?_, fun f hf => ?_⟩
  · rw [show (fun f => itB items f i) = (fun _ => false) from funext hb, bits_0]
  · rw [hn f]
    show (List.replicate 24 Value.null)[f]? = some .null
    rw [List.getElem?_replicate, if_pos hf]
/-- an off more -/
theorem LYm_off {f : Nat} (h : LYm Y spl items i ob vs) (hf : f < 24) : LYm Y spl (items ++ [(i, f, none)]) i (ob ||| ((1 : Int32) <<< (nI f &&& 31))) vs := by
  obtain ⟨h1, h2⟩ := h
  refine ⟨?_, fun f' hf' => ?_⟩
  · rw [h1, bits_o1 hf]
    congr 1
    funext x
    unfold itB
    rw [List.any_append]
    congr 1
    show (x == f) = (f == x && i == i && (none : Option Srv).isSome == false || false)
    by_cases c : x = f
    · subst c; simp
    · have c' : ¬ f = x := fun e => c e.symm
      rw [show (x == f) = false by simpa using c, show (f == x) = false by simpa using c']
      rfl
  · have hfd : (items ++ [(i, f, none)]).find? (fun I : Itm => I.2.1 == f' && I.1 == i && I.2.2.isSome == true) = items.find? (fun I => I.2.1 == f' && I.1 == i && I.2.2.isSome == true) := by
      rw [List.find?_append]
      have : [(i, f, (none : Option Srv))].find? (fun I : Itm => I.2.1 == f' && I.1 == i && I.2.2.isSome == true) = none := by
        rw [List.find?_eq_none]
        intro I hI
        rw [List.mem_singleton.mp hI]
        simp
      rw [this, Option.or_none]
    rw [hfd]
    exact h2 f' hf'
theorem itB_set {f : Nat} {s : Srv} {x : Nat} : itB (items ++ [(i, f, some s)]) x i = itB items x i := by
  unfold itB
  rw [List.any_append]
  have : [(i, f, some s)].any (fun I : Itm => I.2.1 == x && I.1 == i && I.2.2.isSome == false) = false := by
    simp
  rw [this, Bool.or_false]
theorem fnd_set {f f' : Nat} {s : Srv} : (items ++ [(i, f, some s)]).find? (fun I : Itm => I.2.1 == f' && I.1 == i && I.2.2.isSome == true) = match items.find? (fun I => I.2.1 == f' && I.1 == i && I.2.2.isSome == true) with
  | some I => some I
  | none => if f = f' then some (i, f, some s) else none := by
  rw [List.find?_append]
  cases items.find? (fun I => I.2.1 == f' && I.1 == i && I.2.2.isSome == true) with
  | some I => rfl
  | none =>
    dsimp only
    rw [Option.none_or]
    by_cases c : f = f'
    · rw [if_pos c]; simp [c]
    · rw [if_neg c]; simp [c]
/-- a set more: the first one of a flag stays -/
theorem LYm_set0 {f : Nat} {s : Srv} {za : Nat} (h : LYm Y spl items i ob vs) (hf : f < 24) (hv : vs[f]? = some (.ref za)) : LYm Y spl (items ++ [(i, f, some s)]) i ob vs := by
  obtain ⟨h1, h2⟩ := h
  refine ⟨by rw [h1]; congr 1; funext x; exact itB_set.symm, fun f' hf' => ?_⟩
  rw [fnd_set]
  have := h2 f' hf'
  cases hfd : items.find? (fun I => I.2.1 == f' && I.1 == i && I.2.2.isSome == true) with
  | some I => rw [hfd] at this; exact this
  | none =>
    rw [hfd] at this
    dsimp only at this ⊢
    by_cases c : f = f'
    · subst c
      rw [hv] at this
      cases this
    · rw [if_neg c]; exact this
theorem LYm_set1 {f : Nat} {s : Srv} {za : Nat} (h : LYm Y spl items i ob vs) (hf : f < 24) (hl : vs.length = 24) (hv : vs[f]? = some .null) (hz : RSv Y spl za s) : LYm Y spl (items ++ [(i, f, some s)]) i ob (zs vs f (.ref za)) := by
  obtain ⟨h1, h2⟩ := h
  have hzs : ∀ f', (zs vs f (.ref za))[f']? = if f' = f then some (.ref za) else vs[f']? := by
    intro f'
    by_cases c : f' = f
    · subst c; rw [if_pos rfl, ← zg_eq, zg_zs_eq (by omega)]
    · rw [if_neg c, ← zg_eq, zg_ne _ _ _ _ c, zg_eq]
  refine ⟨by rw [h1]; congr 1; funext x; exact itB_set.symm, fun f' hf' => ?_⟩
  rw [fnd_set]
  have := h2 f' hf'
  cases hfd : items.find? (fun I => I.2.1 == f' && I.1 == i && I.2.2.isSome == true) with
  | some I =>
    rw [hfd] at this
    obtain ⟨zb, s', q1, q2, q3⟩ := this
    refine ⟨zb, s', q1, ?_, q3⟩
    rw [hzs, if_neg]
    · exact q2
    · intro e; rw [e, hv] at q2; cases q2
  | none =>
    rw [hfd] at this
    dsimp only at this ⊢
    by_cases c : f = f'
    · subst c
      rw [if_pos rfl]
      exact ⟨za, s, rfl, by rw [hzs, if_pos rfl], hz⟩
    · rw [if_neg c]
      show (zs vs f (.ref za))[f']? = some .null
      rw [hzs, if_neg (fun e => c e.symm)]
      exact this
end
end ZKD

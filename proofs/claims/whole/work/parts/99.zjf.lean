/-! THE CLASS: StringBuilder's number -/
section ZJF
theorem cap_ok : ∀ k : Fin 17, nI k.1 - (nI 16 >>> ((0 : Int32) &&& 31)) ≤ 0 := by decide +kernel
theorem zelB_d : ∀ k : Fin 128, zelB (.int (nI k.1)) = true := by decide +kernel
theorem byV_d : ∀ k : Fin 128, byV (.int (nI k.1)) = true := by decide +kernel
theorem chr_d : ∀ k : Fin 128, chr (nI k.1) = nI k.1 := by decide +kernel
section
variable {n : Nat} {Y Y1 : zY} {a s k ar m : Nat} {w : List Int32} {x v l1 l6 : Int32}
theorem num_str (hY : BY Y) (hv : v.toInt.natAbs ≤ 999999999) (hn : 6002 ≤ n) : ∃ s Y1, (∀ {α : Type} (K : Option Nat × zY → Option α), ((c34 n Y.2.1 (yN Y 13 4)).bind fun p2 => zgd (yisO p2.2 Y.2.1 13) <| (c36 n Y.2.1 v p2.2).bind fun p5 => p5.1.bind fun a6 => zgd (yisO p5.2 a6 13) <| (c46 n a6 p5.2).bind K) = K (some s, Y1)) ∧ BY Y1 ∧ FRY Y Y1 [] 98 ∧ Y1.1 s = some (oS (dcI v)) ∧ Y.2.1 ≤ s ∧ s < Y1.2.1 := by
  obtain ⟨hF, hD⟩ := hY
  have h231 := hD.1
  obtain ⟨hl10, hl1⟩ := dcI_l hv
  -- the builder, its bytes
  obtain ⟨Ya, hYa⟩ : ∃ Ya, Ya = ya (yN Y 13 4) (oA 1 (List.replicate 16 (.int 0))) 16 := ⟨_, rfl⟩
  have hda : DM Ya := by rw [hYa]; exact DM_a (DM_a hD)
  have a0 : ∀ q, q < Y.2.1 → Ya.1 q = Y.1 q := fun q hq => by
    rw [hYa, ya_n (by show q ≠ Y.2.1 + 1; omega)]
    exact ya_n (by omega)
  have a1 : Ya.1 Y.2.1 = some (oB 13 [.null, .int 0, .int 0, .int 0]) := by
    rw [hYa, ya_n (by show Y.2.1 ≠ Y.2.1 + 1; omega)]
    exact ya_s
  have a2 : Ya.1 (Y.2.1 + 1) = some (oA 1 (List.replicate 16 (.int 0))) := by rw [hYa]; exact ya_s
  have a3 : Ya.2 = (Y.2.1 + 2, Y.2.2.1 + 2, Y.2.2.2 + 20) := by rw [hYa]; rfl
  obtain ⟨Yb, hYb⟩ : ∃ Yb, Yb = yu Ya Y.2.1 (some (oB 13 [.ref (Y.2.1 + 1), .int 0, .int 0, .int 0])) := ⟨_, rfl⟩
  have e34 : c34 n Y.2.1 (yN Y 13 4) = some ((), Yb) := by
    unfold c34 c35
    rw [if_neg (by decide), show (16 : Int32) = nI 16 from rfl, yA_of (by omega) (by omega)]
    dsimp only [Option.bind_some]
    rw [show zdef 1 = Value.int 0 from rfl, ← hYa, show (yN Y 13 4).2.1 = Y.2.1 + 1 from rfl]
    refine bnd_eq (x := ((), Yb)) ?_ rfl
    refine bnd_eq (yP_of a1 (by omega) rfl rfl) ?_
    refine bnd_eq (yP_of yu_s (by omega) rfl rfl) ?_
    rw [yu_yu, hYb]
    rfl
  have b1 : Yb.1 Y.2.1 = some (oB 13 [.ref (Y.2.1 + 1), .int 0, .int 0, .int 0]) := by rw [hYb, yu_s]
  have b2 : Yb.1 (Y.2.1 + 1) = some (oA 1 (List.replicate 16 (.int 0))) := by rw [hYb, yu_n (by omega)]; exact a2
  have b0 : ∀ q, q < Y.2.1 → Yb.1 q = Y.1 q := fun q hq => by rw [hYb, yu_n (by omega)]; exact a0 q hq
  have b3 : Yb.2 = (Y.2.1 + 2, Y.2.2.1 + 2, Y.2.2.2 + 20) := by rw [hYb, yu_2]; exact a3
  have bF : FXY Yb := FXY_F hF (Y1 := Yb) (S := []) (w := 100) ⟨by rw [b3]; show Y.2.1 ≤ Y.2.1 + 2; omega, by unfold wY; rw [b3]; show 16 * (Y.2.2.1 + 2) + (Y.2.2.2 + 20) ≤ _; omega, fun q o hq => Or.inr (by rw [b0 q (hD.2 q o hq)]; exact hq)⟩ (fun a ha => by cases ha)
  -- the digits
  obtain ⟨pos, e45⟩ := gc_ok (n := n) (v := v) bF (ar := Y.2.1 + 1) (by omega) hv b2 hn
  obtain ⟨vs, hvs⟩ : ∃ vs, vs = ((dcI v).map fun x => Value.int x) ++ List.replicate (16 - (dcI v).length) (Value.int 0) := ⟨_, rfl⟩
  rw [← hvs] at e45
  have hvl : vs.length = 16 := by rw [hvs, List.length_append, List.length_map, List.length_replicate]; omega
  obtain ⟨Yd, hYd⟩ : ∃ Yd, Yd = yu (yu Yb (Y.2.1 + 1) (some (oA 1 vs))) Y.2.1 (some (oB 13 [.ref (Y.2.1 + 1), .int 0, .int 0, .int (nI (dcI v).length)])) := ⟨_, rfl⟩
  have e36 : c36 n Y.2.1 v Yb = some (some Y.2.1, Yd) := by
    unfold c36
    refine zgd_eq (yisO_of b1) ?_
    refine bnd_eq (x := (some Y.2.1, Yd)) ?_ rfl
    unfold c37
    refine bnd_eq (yI_of b1 rfl) ?_
    rw [ss_ok hv hn]
    dsimp only [Option.bind_some]
    refine zgd_eq (yisO_of b1) ?_
    rw [Int32.zero_add]
    have e39 : c39 n Y.2.1 (nI (dcI v).length) Yb = some ((), Yb) := by
      unfold c39
      refine bnd_eq (yR_of (r := some (Y.2.1 + 1)) b1 rfl) ?_
      dsimp only [Option.bind_some]
      refine bnd_eq (yL_of b2) ?_
      refine bnd_eq (yI_of b1 rfl) ?_
      rw [List.length_replicate, if_pos (cap_ok ⟨(dcI v).length, by omega⟩)]
    rw [e39]
    dsimp only [Option.bind_some]
    refine zgd_eq (yisO_of b1) ?_
    have e44 : c44 n Y.2.1 Yb = some (1, Yb) := by
      unfold c44
      rw [if_neg (by decide)]
      refine bnd_eq (yI_of b1 rfl) ?_
      rw [if_pos rfl]
    rw [e44]
    dsimp only [Option.bind_some]
    rw [if_neg (by decide)]
    refine bnd_eq (yR_of (r := some (Y.2.1 + 1)) b1 rfl) ?_
    rw [e45]
    dsimp only [Option.bind_some]
    refine bnd_eq (yP_of (by rw [yu_n (by omega)]; exact b1) (by omega) rfl rfl) ?_
    rw [hYd]
    rfl
  have d1 : Yd.1 Y.2.1 = some (oB 13 [.ref (Y.2.1 + 1), .int 0, .int 0, .int (nI (dcI v).length)]) := by rw [hYd, yu_s]
  have d2 : Yd.1 (Y.2.1 + 1) = some (oA 1 vs) := by rw [hYd, yu_n (by omega), yu_s]
  have d0 : ∀ q, q < Y.2.1 → Yd.1 q = Y.1 q := fun q hq => by rw [hYd, yu_n (by omega), yu_n (by omega)]; exact b0 q hq
  have d3 : Yd.2 = (Y.2.1 + 2, Y.2.2.1 + 2, Y.2.2.2 + 20) := by rw [hYd, yu_2, yu_2]; exact b3
  -- the string
  obtain ⟨Ye, hYe⟩ : ∃ Ye, Ye = yN Yd 12 4 := ⟨_, rfl⟩
  have hdd : Yd.2.1 = Y.2.1 + 2 := by rw [d3]
  have n0 : ∀ q, q < Y.2.1 + 2 → Ye.1 q = Yd.1 q := fun q hq => by rw [hYe]; exact ya_n (by rw [hdd]; omega)
  have n1 : Ye.1 (Y.2.1 + 2) = some (oB 12 [.null, .int 0]) := by rw [hYe, ← hdd]; exact ya_s
  have n3 : Ye.2 = (Y.2.1 + 3, Y.2.2.1 + 3, Y.2.2.2 + 24) := by
    rw [hYe]
    show (Yd.2.1 + 1, Yd.2.2.1 + 1, Yd.2.2.2 + 4) = _
    rw [d3]
  have n4 : Ye.1 Y.2.1 = some (oB 13 [.ref (Y.2.1 + 1), .int 0, .int 0, .int (nI (dcI v).length)]) := by rw [n0 _ (by omega)]; exact d1
  obtain ⟨Yf, hYf⟩ : ∃ Yf, Yf = yu Ye (Y.2.1 + 2) (some (oB 12 [.null, .int 0])) := ⟨_, rfl⟩
  have f1 : Yf.1 (Y.2.1 + 1) = some (oA 1 vs) := by rw [hYf, yu_n (by omega), n0 _ (by omega)]; exact d2
  have f3 : Yf.2 = (Y.2.1 + 3, Y.2.2.1 + 3, Y.2.2.2 + 24) := by rw [hYf, yu_2]; exact n3
  obtain ⟨Yg, hYg⟩ : ∃ Yg, Yg = ya Yf (oA 1 (List.replicate (dcI v).length (.int 0))) (dcI v).length := ⟨_, rfl⟩
  have hff : Yf.2.1 = Y.2.1 + 3 := by rw [f3]
  have g1 : Yg.1 (Y.2.1 + 1) = some (oA 1 vs) := by rw [hYg, ya_n (by rw [hff]; omega)]; exact f1
  have g2 : Yg.1 (Y.2.1 + 3) = some (oA 1 (List.replicate (dcI v).length (.int 0))) := by rw [hYg, ← hff]; exact ya_s
  have g4 : Yg.1 (Y.2.1 + 2) = some (oB 12 [.null, .int 0]) := by rw [hYg, ya_n (by rw [hff]; omega), hYf, yu_s]
  have hcp : zcp vs (List.replicate (dcI v).length (.int 0)) 0 0 (dcI v).length = (dcI v).map fun x => Value.int x := by
    unfold zcp
    rw [List.take_zero, List.nil_append, List.drop_zero, Nat.zero_add, List.drop_eq_nil_of_le (by rw [List.length_replicate]; omega), List.append_nil, hvs, List.take_append_of_le_length (by rw [List.length_map]; omega), List.take_of_length_le (by rw [List.length_map]; omega)]
  obtain ⟨Yh, hYh⟩ : ∃ Yh, Yh = yu (yu Yg (Y.2.1 + 3) (some (oA 1 ((dcI v).map fun x => Value.int x)))) (Y.2.1 + 2) (some (oB 12 [.ref (Y.2.1 + 3), .int 0])) := ⟨_, rfl⟩
  have e53 : c53 n (some (Y.2.1 + 1)) 0 (nI (dcI v).length) Yf = some (some (Y.2.1 + 3), yu Yg (Y.2.1 + 3) (some (oA 1 ((dcI v).map fun x => Value.int x)))) := by
    unfold c53 c54
    rw [if_pos (nI_pos' (by omega))]
    dsimp only [Option.bind_some]
    rw [Int32.sub_zero, yA_of (by omega) (by omega)]
    dsimp only [Option.bind_some]
    rw [show zdef 1 = Value.int 0 from rfl, ← hYg]
    refine bnd_eq (yL_of g1) ?_
    unfold c43
    rw [hvl, Int32.sub_zero, if_pos (nI_lt (by omega) (by omega))]
    dsimp only [Option.bind_some]
    rw [hff]
    have ent : ynt Yg (Y.2.1 + 1) 0 (Y.2.1 + 3) 0 (nI (dcI v).length) = some (yu Yg (Y.2.1 + 3) (some (oA 1 ((dcI v).map fun x => Value.int x)))) := by
      unfold ynt
      rw [g1, g2]
      dsimp only
      have h0 : (0 : Int32).toNatClampNeg = 0 := rfl
      have hall : ((vs.drop 0).take (dcI v).length).all zelB = true := by
        rw [List.drop_zero, hvs, List.take_append_of_le_length (by rw [List.length_map]; omega), List.take_of_length_le (by rw [List.length_map]; omega), List.all_eq_true]
        intro y hy
        obtain ⟨z, hz, rfl⟩ := List.mem_map.mp hy
        obtain ⟨k, hk, rfl⟩ := dcI_b hz
        exact zelB_d ⟨k, hk⟩
      have : (Nat.beq 1 1 && Nat.beq 1 1 && (Nat.ble zn0 (Y.2.1 + 3) && !decide ((0 : Int32) < 0) && !decide ((0 : Int32) < 0) && !decide (nI (dcI v).length < 0) && Nat.ble ((0 : Int32).toNatClampNeg + (nI (dcI v).length).toNatClampNeg) vs.length && Nat.ble ((0 : Int32).toNatClampNeg + (nI (dcI v).length).toNatClampNeg) (List.replicate (dcI v).length (Value.int 0)).length && ((vs.drop (0 : Int32).toNatClampNeg).take (nI (dcI v).length).toNatClampNeg).all zelB)) = true := by
        rw [nI_clamp (by omega), h0, hall, hvl, List.length_replicate, decide_eq_false (nI_pos (by omega)), show Nat.ble zn0 (Y.2.1 + 3) = true from Nat.ble_eq_true_of_le (by show 139 ≤ _; omega), show Nat.ble (0 + (dcI v).length) 16 = true from Nat.ble_eq_true_of_le (by omega), show Nat.ble (0 + (dcI v).length) (dcI v).length = true from Nat.ble_eq_true_of_le (by omega)]
        rfl
      rw [this]
      dsimp only
      rw [nI_clamp (by omega), h0, hcp]
    rw [ent]
    rfl
  have e46 : c46v n Y.2.1 Yd = some (some (Y.2.1 + 2), Yh) := by
    unfold c46v c47 c48
    rw [← hYe, hdd]
    dsimp only [Option.bind_some]
    refine bnd_eq (x := ((), Yh)) ?_ rfl
    refine bnd_eq (x := ((), Yh)) ?_ rfl
    refine zgd_eq (yisO_of n4) ?_
    have e49 : c49 n Y.2.1 Ye = some (some (Y.2.1 + 1), Ye) := by
      unfold c49
      exact bnd_eq (yR_of (r := some (Y.2.1 + 1)) n4 rfl) rfl
    have e50 : c50 n Y.2.1 Ye = some (nI (dcI v).length, Ye) := by
      unfold c50 c51
      refine zgd_eq (yisO_of n4) ?_
      rw [yI_of n4 rfl]
      rfl
    have e44 : c44 n Y.2.1 Ye = some (1, Ye) := by
      unfold c44
      rw [if_neg (by decide)]
      refine bnd_eq (yI_of n4 rfl) ?_
      rw [if_pos rfl]
    rw [e49]
    dsimp only [Option.bind_some]
    refine zgd_eq (yisO_of n4) ?_
    rw [e50]
    dsimp only [Option.bind_some]
    refine zgd_eq (yisO_of n4) ?_
    rw [e44]
    dsimp only [Option.bind_some]
    rw [if_neg (by decide)]
    refine bnd_eq (yP_of n1 (by omega) rfl rfl) ?_
    rw [show yu Ye (Y.2.1 + 2) (some (oB 12 (zs [Value.null, Value.int 0] 1 (Value.int 0)))) = Yf by rw [hYf]; rfl]
    unfold c52 cb52_10
    rw [if_pos rfl]
    dsimp only [Option.bind_some]
    rw [yL_of f1, hvl]
    dsimp only [Option.bind_some]
    rw [if_neg (by rw [nI_eq (by omega) (by omega)]; omega), e53]
    dsimp only [Option.bind_some]
    refine bnd_eq (yP_of (by rw [yu_n (by omega)]; exact g4) (by omega) rfl rfl) ?_
    rw [hYh]
    rfl
  have hb1 : Yh.1 (Y.2.1 + 2) = some (oB 12 [.ref (Y.2.1 + 3), .int 0]) := by rw [hYh, yu_s]
  have hb2 : Yh.1 (Y.2.1 + 3) = some (oA 1 ((dcI v).map fun x => Value.int x)) := by rw [hYh, yu_n (by omega), yu_s]
  have hHS : yHS Yh (Y.2.1 + 2) = some (yu (yu Yh (Y.2.1 + 3) none) (Y.2.1 + 2) (some (oS (dcI v)))) := by
    unfold yHS
    rw [hb1]
    dsimp only
    rw [hb2]
    dsimp only
    have hav : ((dcI v).map fun x => Value.int x).all byV = true := by
      rw [List.all_eq_true]
      intro y hy
      obtain ⟨z, hz, rfl⟩ := List.mem_map.mp hy
      obtain ⟨k, hk, rfl⟩ := dcI_b hz
      exact byV_d ⟨k, hk⟩
    have : (Nat.beq 12 12 && (0 : Int32) == 0 && Nat.beq 1 1 && ((dcI v).map fun x => Value.int x).all byV && Nat.ble ((dcI v).map fun x => Value.int x).length 65536) = true := by
      rw [hav, List.length_map, show Nat.ble (dcI v).length 65536 = true from Nat.ble_eq_true_of_le (by omega)]; rfl
    rw [this]
    dsimp only
    have hmc : ((dcI v).map fun x => Value.int x).map (fun u => chr (vI u)) = dcI v := by
      rw [List.map_map]
      have : ∀ l : List Int32, (∀ y ∈ l, ∃ k, k < 128 ∧ y = nI k) → l.map ((fun u => chr (vI u)) ∘ fun x => Value.int x) = l := by
        intro l
        induction l with
        | nil => intro _; rfl
        | cons y l ih =>
          intro h
          obtain ⟨k, hk, rfl⟩ := h y List.mem_cons_self
          rw [List.map_cons, ih (fun z hz => h z (List.mem_cons_of_mem _ hz))]
          show chr (nI k) :: l = _
          rw [chr_d ⟨k, hk⟩]
      exact this _ (fun y hy => dcI_b hy)
    rw [hmc]
  have e46' : c46 n Y.2.1 Yd = some (some (Y.2.1 + 2), yu (yu Yh (Y.2.1 + 3) none) (Y.2.1 + 2) (some (oS (dcI v)))) := by
    unfold c46
    rw [e46]
    dsimp only [Option.bind_some]
    rw [hHS]
    rfl
  have h3 : (yu (yu Yh (Y.2.1 + 3) none) (Y.2.1 + 2) (some (oS (dcI v)))).2 = (Y.2.1 + 4, Y.2.2.1 + 4, Y.2.2.2 + 24 + (dcI v).length) := by
    rw [yu_2, yu_2, hYh, yu_2, yu_2, hYg]
    show (Yf.2.1 + 1, Yf.2.2.1 + 1, Yf.2.2.2 + (dcI v).length) = _
    rw [f3]
  have h0 : ∀ q, q < Y.2.1 → (yu (yu Yh (Y.2.1 + 3) none) (Y.2.1 + 2) (some (oS (dcI v)))).1 q = Y.1 q := fun q hq => by
    rw [yu_n (by omega), yu_n (by omega), hYh, yu_n (by omega), yu_n (by omega), hYg, ya_n (by rw [hff]; omega), hYf, yu_n (by omega), n0 q (by omega), d0 q hq]
  have hfr : FRY Y (yu (yu Yh (Y.2.1 + 3) none) (Y.2.1 + 2) (some (oS (dcI v)))) [] 98 := ⟨by rw [h3]; show Y.2.1 ≤ Y.2.1 + 4; omega, by unfold wY; rw [h3]; show 16 * (Y.2.2.1 + 4) + (Y.2.2.2 + 24 + (dcI v).length) ≤ 16 * Y.2.2.1 + Y.2.2.2 + 98; omega, fun q o hq => Or.inr (by rw [h0 q (hD.2 q o hq)]; exact hq)⟩
  refine ⟨Y.2.1 + 2, yu (yu Yh (Y.2.1 + 3) none) (Y.2.1 + 2) (some (oS (dcI v))), fun K => ?_, ⟨FXY_F hF hfr (fun a ha => by cases ha), ?_⟩, hfr, yu_s, by omega, by rw [h3]; show Y.2.1 + 2 < Y.2.1 + 4; omega⟩
  · rw [e34]
    dsimp only [Option.bind_some]
    refine zgd_eq (yisO_of b1) ?_
    rw [e36]
    dsimp only [Option.bind_some]
    refine zgd_eq (yisO_of d1) ?_
    rw [e46']
    rfl
  · refine ⟨by rw [h3]; show 231 ≤ Y.2.1 + 4; omega, fun q o hq => ?_⟩
    rw [h3]
    show q < Y.2.1 + 4
    refine Classical.byContradiction fun hge => ?_
    rw [yu_n (by omega), yu_n (by omega), hYh, yu_n (by omega), yu_n (by omega), hYg, ya_n (by rw [hff]; omega), hYf, yu_n (by omega), hYe, show (yN Yd 12 4).1 q = Yd.1 q from ya_n (by rw [hdd]; omega), hYd, yu_n (by omega), yu_n (by omega), hYb, yu_n (by omega)] at hq
    have := hda.2 q o hq
    rw [a3] at this
    have : q < Y.2.1 + 2 := this
    omega
end
end ZJF

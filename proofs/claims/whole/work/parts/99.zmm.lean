/-! THE START: the class and the reference are made -/
section ZMM
section
variable {n a b c k m i : Nat} {Z R : List zO} {fs vs : List Value} {v v' u : Value} {j : Int32}
theorem oLn (hZ : Z.length = i) : ((Z ++ R, a, b) : zH).1.length = i + R.length := by show (Z ++ R).length = _; rw [List.length_append, hZ]
theorem oHd (hZ : Z.length = i) {x : zO} : zg (Z ++ (x :: R)) i = some x := by rw [zg_appR (by omega), hZ, Nat.sub_self]; rfl
theorem oSt (hZ : Z.length = i) {x y : zO} : zs (Z ++ (x :: R)) i y = Z ++ (y :: R) := by rw [zs_appR (by omega), hZ, Nat.sub_self]; rfl
theorem oP (hZ : Z.length = i) (h139 : 139 ≤ i) (hv : v = v') (hf : zfit (zty c k) v' = true) (hk : zg fs k = some u) : pF (Z ++ (.inr (c, fs) :: R), a, b) i c k v = some (Z ++ (.inr (c, zs fs k v') :: R), a, b) := by
  unfold pF
  dsimp only
  rw [oHd hZ]
  dsimp only
  rw [hv, hf, Nat.beq_refl, show Nat.ble zn0 i = true from Nat.ble_eq_true_of_le h139, hk]
  dsimp only [Bool.and_true]
  rw [oSt hZ]
  rfl
theorem oA' (hj : (!decide (j < 0) && Nat.ble j.toNatClampNeg 65536 && Nat.ble c 4) = true) (hm : j.toNatClampNeg = m) : nA (Z ++ R, a, b) c j = some (Z ++ (R ++ [.inl (c, List.replicate m (zdef c))]), a + 1, b + m) := by
  unfold nA
  rw [hj]
  dsimp only
  rw [hm, List.append_assoc]
theorem oV (hj : (!decide (j < 0) && Nat.ble j.toNatClampNeg 65536) = true) (hm : j.toNatClampNeg = m) : nV (Z ++ R, a, b) c j = some (Z ++ (R ++ [.inl (c + 5, List.replicate m .null)]), a + 1, b + m) := by
  unfold nV
  rw [hj]
  dsimp only
  rw [hm, List.append_assoc]
theorem oN : nO (Z ++ R, a, b) c m = (Z ++ (R ++ [.inr (c, zdf c)]), a + 1, b + m) := by
  unfold nO
  rw [List.append_assoc]
theorem f2_ok (hZ : Z.length = i) (h139 : 139 ≤ i) : f2 n i (Z ++ [.inr (8, zdf 8)], a, b) = some ((), (Z ++ [.inr (8, [.ref (i + 1), .int 0]), .inl (1, List.replicate 6000 (.int 0))], a + 1, b + 6000)) := by
  unfold f2
  refine bnd_eq (oA' (m := 6000) (by decide) (by decide)) ?_
  refine bnd_eq (oP (v' := .ref (i + 1)) (u := .null) hZ h139 (by rw [oLn hZ]; rfl) rfl rfl) ?_
  refine bnd_eq (oP (v' := .int 0) (u := .int 0) hZ h139 rfl rfl rfl) ?_
  rfl
/-- a list is made -/
theorem f6_ok (hZ : Z.length = i) (h139 : 139 ≤ i) : f6 n i (Z ++ [.inr (14, zdf 14)], a, b) = some ((), (Z ++ [.inr (14, [.int 0, .ref 48, .int 0])], a, b)) := by
  unfold f6 f7 f8
  refine bnd_eq (bnd_eq rfl (bnd_eq (oP (v' := .int 0) (u := .int 0) hZ h139 rfl rfl rfl) rfl)) ?_
  exact bnd_eq (oP (v' := .ref 48) (u := .null) hZ h139 rfl rfl rfl) rfl
abbrev lst0 : zO := .inr (14, [.int 0, .ref 48, .int 0])
theorem st6 (hZ : Z.length = i) (h139 : 139 ≤ i) : f6 n ((Z ++ R, a, b) : zH).1.length (nO (Z ++ R, a, b) 14 3) = some ((), (Z ++ (R ++ [lst0]), a + 1, b + 3)) := by
  have := f6_ok (n := n) (Z := Z ++ R) (i := (Z ++ R).length) (a := a + 1) (b := b + 3) rfl (by rw [List.length_append]; omega)
  refine this.trans ?_
  rw [List.append_assoc]
theorem st2 (hZ : Z.length = i) (h139 : 139 ≤ i) : f2 n ((Z ++ R, a, b) : zH).1.length (nO (Z ++ R, a, b) 8 2) = some ((), (Z ++ (R ++ [.inr (8, [.ref (i + R.length + 1), .int 0]), .inl (1, List.replicate 6000 (.int 0))]), a + 1 + 1, b + 2 + 6000)) := by
  have := f2_ok (n := n) (Z := Z ++ R) (i := i + R.length) (a := a + 1) (b := b + 2) (by rw [List.length_append, hZ]) (by omega)
  rw [oLn hZ]
  refine this.trans ?_
  rw [List.append_assoc]
theorem oS1 (hZ : Z.length = i) (h139 : 139 ≤ i) {x : Int32} (hj : ¬ j < 0) (hm : j.toNatClampNeg = m) (hk : zg vs m = some u) : aS zsI (Z ++ (.inl (0, vs) :: R), a, b) i j (.int x) = some (Z ++ (.inl (0, zs vs m (.int x)) :: R), a, b) := by
  unfold aS zast
  dsimp only
  rw [oHd hZ]
  dsimp only
  rw [show zsI 0 (Value.int x) = some (Value.int x) from rfl]
  dsimp only
  rw [decide_eq_false hj, show Nat.ble zn0 i = true from Nat.ble_eq_true_of_le h139, hm, hk]
  dsimp only [Bool.not_false, Bool.and_true]
  rw [oSt hZ]
  rfl
theorem f4_ok (hZ : Z.length = i) (h139 : 139 ≤ i) (hn : 6 ≤ n) : f4 n (some i) (-1) (Z ++ [.inl (0, List.replicate 5 (.int 0))], a, b) = some ((), (Z ++ [.inl (0, List.replicate 5 (.int (-1)))], a, b)) := by
  unfold f4
  rw [Option.bind_some]
  refine bnd_eq (x := (5 : Int32)) (by unfold aN; rw [oHd hZ]; rfl) ?_
  obtain ⟨k, hk⟩ : ∃ k, n = k + 6 := ⟨n - 6, by omega⟩
  rw [show f4_5 n n = f4_5 n (k + 6) by rw [← hk]]
  show b4_5 n (f4_5 n (k + 5)) (some i) (-1) 0 5 _ = _
  unfold b4_5
  rw [if_neg (by decide), Option.bind_some]
  refine bnd_eq (oS1 (m := 0) (u := .int 0) hZ h139 (by decide) (by decide) rfl) ?_
  show b4_5 n (f4_5 n (k + 4)) (some i) (-1) 1 5 _ = _
  unfold b4_5
  rw [if_neg (by decide), Option.bind_some]
  refine bnd_eq (oS1 (m := 1) (u := .int 0) hZ h139 (by decide) (by decide) rfl) ?_
  show b4_5 n (f4_5 n (k + 3)) (some i) (-1) 2 5 _ = _
  unfold b4_5
  rw [if_neg (by decide), Option.bind_some]
  refine bnd_eq (oS1 (m := 2) (u := .int 0) hZ h139 (by decide) (by decide) rfl) ?_
  show b4_5 n (f4_5 n (k + 2)) (some i) (-1) 3 5 _ = _
  unfold b4_5
  rw [if_neg (by decide), Option.bind_some]
  refine bnd_eq (oS1 (m := 3) (u := .int 0) hZ h139 (by decide) (by decide) rfl) ?_
  show b4_5 n (f4_5 n (k + 1)) (some i) (-1) 4 5 _ = _
  unfold b4_5
  rw [if_neg (by decide), Option.bind_some]
  refine bnd_eq (oS1 (m := 4) (u := .int 0) hZ h139 (by decide) (by decide) rfl) ?_
  show b4_5 n (f4_5 n k) (some i) (-1) 5 5 _ = _
  unfold b4_5
  rw [if_pos (by decide)]
  rfl
abbrev jdo (i : Nat) : List zO := [.inr (1, [.ref (i + 1), .ref (i + 2), .int 0, .ref (i + 3), .ref (i + 4), .ref (i + 5), .int 0]), .inl (14, List.replicate 8 .null), .inl (14, List.replicate 8 .null), .inl (2, List.replicate 12 (.int 0)), .inl (0, List.replicate 24 (.int 0)), .inl (0, List.replicate 5 (.int (-1)))]
theorem f3_ok (hZ : Z.length = i) (h139 : 139 ≤ i) (hn : 6 ≤ n) : f3 n i (Z ++ [.inr (1, zdf 1)], a, b) = some ((), (Z ++ jdo i, a + 1 + 1 + 1 + 1 + 1, b + 8 + 8 + 12 + 24 + 5)) := by
  unfold f3
  refine bnd_eq (oV (m := 8) (by decide) (by decide)) ?_
  refine bnd_eq (oP (v' := .ref (i + 1)) (u := .null) hZ h139 (by rw [oLn hZ]; rfl) rfl rfl) ?_
  refine bnd_eq (oV (m := 8) (by decide) (by decide)) ?_
  refine bnd_eq (oP (v' := .ref (i + 2)) (u := .null) hZ h139 (by rw [oLn hZ]; rfl) rfl rfl) ?_
  refine bnd_eq (oP (v' := .int 0) (u := .int 0) hZ h139 rfl rfl rfl) ?_
  refine bnd_eq (oA' (m := 12) (by decide) (by decide)) ?_
  refine bnd_eq (oP (v' := .ref (i + 3)) (u := .null) hZ h139 (by rw [oLn hZ]; rfl) rfl rfl) ?_
  refine bnd_eq (oA' (m := 24) (by decide) (by decide)) ?_
  refine bnd_eq (oP (v' := .ref (i + 4)) (u := .null) hZ h139 (by rw [oLn hZ]; rfl) rfl rfl) ?_
  refine bnd_eq (oA' (m := 5) (by decide) (by decide)) ?_
  refine bnd_eq (oP (v' := .ref (i + 5)) (u := .null) hZ h139 (by rw [oLn hZ]; rfl) rfl rfl) ?_
  refine bnd_eq (oP (v' := .int 0) (u := .int 0) hZ h139 rfl rfl rfl) ?_
  refine bnd_eq (x := some (i + 5)) (by unfold gR gV; dsimp only; rw [oHd hZ]; rfl) ?_
  have := f4_ok (n := n) (Z := Z ++ (jdo i).take 5) (i := i + 5) (a := a + 1 + 1 + 1 + 1 + 1) (b := b + 8 + 8 + 12 + 24 + 5) (by rw [List.length_append, hZ]; rfl) (by omega) hn
  rw [List.append_assoc, List.append_assoc] at this
  exact bnd_eq this rfl
theorem st3 (hZ : Z.length = i) (h139 : 139 ≤ i) (hn : 6 ≤ n) : f3 n ((Z ++ R, a, b) : zH).1.length (nO (Z ++ R, a, b) 1 7) = some ((), (Z ++ (R ++ jdo (i + R.length)), a + 1 + 1 + 1 + 1 + 1 + 1, b + 7 + 8 + 8 + 12 + 24 + 5)) := by
  have := f3_ok (n := n) (Z := Z ++ R) (i := i + R.length) (a := a + 1) (b := b + 7) (by rw [List.length_append, hZ]) (by omega) hn
  rw [oLn hZ]
  refine this.trans ?_
  rw [List.append_assoc]
abbrev plo (i : Nat) : List zO := [.inr (4, [.ref (i + 1), .ref (i + 2), .ref (i + 3), .ref (i + 4), .ref (i + 5), .ref (i + 6), .ref (i + 7), .ref (i + 8), .int 0, .int 0, .ref (i + 9), .ref (i + 10)]), lst0, lst0, lst0, lst0, lst0, lst0, lst0, lst0, .inl (0, List.replicate 24 (.int 0)), .inl (0, List.replicate 24 (.int 0))]
theorem f5_ok (hZ : Z.length = i) (h139 : 139 ≤ i) : f5 n i (Z ++ [.inr (4, zdf 4)], a, b) = some ((), (Z ++ plo i, a + 10, b + 72)) := by
  unfold f5
  refine bnd_eq (st6 hZ h139) ?_
  refine bnd_eq (oP (v' := .ref (i + 1)) (u := .null) hZ h139 (by rw [oLn hZ]; rfl) rfl rfl) ?_
  refine bnd_eq (st6 hZ h139) ?_
  refine bnd_eq (oP (v' := .ref (i + 2)) (u := .null) hZ h139 (by rw [oLn hZ]; rfl) rfl rfl) ?_
  refine bnd_eq (st6 hZ h139) ?_
  refine bnd_eq (oP (v' := .ref (i + 3)) (u := .null) hZ h139 (by rw [oLn hZ]; rfl) rfl rfl) ?_
  refine bnd_eq (st6 hZ h139) ?_
  refine bnd_eq (oP (v' := .ref (i + 4)) (u := .null) hZ h139 (by rw [oLn hZ]; rfl) rfl rfl) ?_
  refine bnd_eq (st6 hZ h139) ?_
  refine bnd_eq (oP (v' := .ref (i + 5)) (u := .null) hZ h139 (by rw [oLn hZ]; rfl) rfl rfl) ?_
  refine bnd_eq (st6 hZ h139) ?_
  refine bnd_eq (oP (v' := .ref (i + 6)) (u := .null) hZ h139 (by rw [oLn hZ]; rfl) rfl rfl) ?_
  refine bnd_eq (st6 hZ h139) ?_
  refine bnd_eq (oP (v' := .ref (i + 7)) (u := .null) hZ h139 (by rw [oLn hZ]; rfl) rfl rfl) ?_
  refine bnd_eq (st6 hZ h139) ?_
  refine bnd_eq (oP (v' := .ref (i + 8)) (u := .null) hZ h139 (by rw [oLn hZ]; rfl) rfl rfl) ?_
  refine bnd_eq (oP (v' := .int 0) (u := .int 0) hZ h139 rfl rfl rfl) ?_
  refine bnd_eq (oP (v' := .int 0) (u := .int 0) hZ h139 rfl rfl rfl) ?_
  refine bnd_eq (oA' (m := 24) (by decide) (by decide)) ?_
  refine bnd_eq (oP (v' := .ref (i + 9)) (u := .null) hZ h139 (by rw [oLn hZ]; rfl) rfl rfl) ?_
  refine bnd_eq (oA' (m := 24) (by decide) (by decide)) ?_
  refine bnd_eq (oP (v' := .ref (i + 10)) (u := .null) hZ h139 (by rw [oLn hZ]; rfl) rfl rfl) ?_
  rfl
theorem st5 (hZ : Z.length = i) (h139 : 139 ≤ i) : f5 n ((Z ++ R, a, b) : zH).1.length (nO (Z ++ R, a, b) 4 12) = some ((), (Z ++ (R ++ plo (i + R.length)), a + 1 + 10, b + 12 + 72)) := by
  have := f5_ok (n := n) (Z := Z ++ R) (i := i + R.length) (a := a + 1) (b := b + 12) (by rw [List.length_append, hZ]) (by omega)
  rw [oLn hZ]
  refine this.trans ?_
  rw [List.append_assoc]
/-- the class, made -/
def clo : List zO := [.inr (10, [.ref 140, .ref 142, .ref 148, .int 0]), .inr (8, [.ref 141, .int 0]), .inl (1, List.replicate 6000 (.int 0))] ++ (jdo 142 ++ plo 148)
theorem f1_ok (hZ : Z.length = 139) (hn : 6 ≤ n) : f1 n 139 (Z ++ [.inr (10, zdf 10)], 1, 4) = some ((), (Z ++ clo, 20, 6154)) := by
  unfold f1
  refine bnd_eq (st2 hZ (Nat.le_refl _)) ?_
  refine bnd_eq (oP (v' := .ref 140) (u := .null) hZ (Nat.le_refl _) (by rw [oLn hZ]; rfl) rfl rfl) ?_
  refine bnd_eq (st3 hZ (Nat.le_refl _) hn) ?_
  refine bnd_eq (oP (v' := .ref 142) (u := .null) hZ (Nat.le_refl _) (by rw [oLn hZ]; rfl) rfl rfl) ?_
  refine bnd_eq (st5 hZ (Nat.le_refl _)) ?_
  refine bnd_eq (oP (v' := .ref 148) (u := .null) hZ (Nat.le_refl _) (by rw [oLn hZ]; rfl) rfl rfl) ?_
  refine bnd_eq (oP (v' := .int 0) (u := .int 0) hZ (Nat.le_refl _) rfl rfl rfl) ?_
  rfl
/-- the rows of the reference -/
def mkAll : List (Nat × Int32 × Nat) → Nat → zH → Option (Unit × zH)
  | [], _, h => some ((), h)
  | (c, j, k) :: l, y, h => (nA h c j).bind fun h1 => (pF h1 y 11 k (.ref h.1.length)).bind fun h2 => mkAll l y h2
def mrw : List (Nat × Int32 × Nat) := [(0, 2, 5), (0, 3016, 6), (1, 48256, 7), (0, 2, 8), (0, 24, 9), (0, 24, 10), (0, 24, 11), (0, 24, 12), (0, 2, 13), (0, 48, 14), (0, 48, 15), (0, 48, 16), (0, 384, 17), (0, 48, 18), (0, 48, 19), (0, 48, 20), (0, 192, 21), (0, 192, 22), (0, 192, 23), (0, 192, 24), (0, 192, 25), (0, 192, 26), (0, 192, 27), (0, 192, 28), (0, 2, 29), (0, 16, 30), (0, 16, 31), (0, 2, 32), (0, 200, 33), (0, 200, 34), (0, 200, 35), (0, 200, 36), (0, 200, 37), (0, 200, 38), (0, 2, 39), (0, 80, 40), (0, 80, 41), (0, 80, 42), (0, 2, 43), (0, 480, 44), (0, 480, 45), (0, 2, 46), (2, 200, 47), (0, 200, 48), (0, 200, 49), (0, 200, 50), (0, 1600, 51), (0, 1600, 52), (0, 2, 53), (0, 800, 54), (0, 800, 55), (2, 800, 56), (0, 800, 57), (0, 800, 58), (0, 800, 59), (0, 800, 60), (0, 800, 61), (0, 2, 62), (0, 48, 63), (2, 8, 66), (0, 8, 67), (0, 24, 74), (0, 24, 77), (0, 24, 78), (0, 24, 79), (0, 24, 80), (0, 24, 81), (2, 400, 82), (2, 12, 83), (0, 24, 91)]
theorem f182_mk {y : Nat} {h : zH} : f182 n y h = (nA h 1 6000).bind fun h1 => (pF h1 y 11 1 (.ref h.1.length)).bind fun h3 => (pF h3 y 11 4 (.int 1)).bind fun h5 => mkAll mrw y h5 := rfl
def mrk (i : Nat) : List zO := (List.range i).map (fun i => .inl (mty i, zI32 (List.replicate (mln i) 0)))
def mck : List (Nat × Int32 × Nat) → Nat → Bool
  | [], _ => true
  | (c, j, k) :: l, i => Nat.beq c (mty i) && (!decide (j < 0)) && Nat.beq j.toNatClampNeg (mln i) && Nat.ble (mln i) 65536 && Nat.ble c 2 && zfit (zty 11 k) (.ref 0) && Nat.ble k 91 && mck l (i + 1)
def mfs : List (Nat × Int32 × Nat) → Nat → List Value → List Value
  | [], _, fs => fs
  | (_, _, k) :: l, i, fs => mfs l (i + 1) (zs fs k (.ref (160 + i)))
def msm : List (Nat × Int32 × Nat) → Nat → Nat
  | [], b => b
  | (_, j, _) :: l, b => msm l (b + j.toNatClampNeg)
theorem zfit_r {ty : FieldType} {x y : Nat} (h : zfit ty (.ref x) = true) : zfit ty (.ref y) = true := by
  cases ty <;> first | exact h | rfl
theorem mrk_s : mrk i ++ [.inl (mty i, zI32 (List.replicate (mln i) 0))] = mrk (i + 1) := by
  unfold mrk
  rw [List.range_succ, List.map_append]
  rfl
theorem mk_ok (hZ : Z.length = 159) : ∀ (l : List (Nat × Int32 × Nat)) (i a b : Nat) (fs : List Value), fs.length = 92 → mck l i = true → mkAll l 159 (Z ++ (.inr (11, fs) :: mrk i), a, b) = some ((), (Z ++ (.inr (11, mfs l i fs) :: mrk (i + l.length)), a + l.length, msm l b))
  | [], i, a, b, fs, _, _ => rfl
  | (c, j, k) :: l, i, a, b, fs, hf, h => by
    unfold mck at h
    simp only [Bool.and_eq_true] at h
    obtain ⟨⟨⟨⟨⟨⟨⟨h1, h2⟩, h3⟩, h4⟩, h5⟩, h6⟩, h7⟩, h8⟩ := h
    have e1 := Nat.eq_of_beq_eq_true h1
    have e3 := Nat.eq_of_beq_eq_true h3
    have e5 := Nat.le_of_ble_eq_true h5
    have e7 := Nat.le_of_ble_eq_true h7
    have hl : (mrk i).length = i := by unfold mrk; rw [List.length_map, List.length_range]
    unfold mkAll
    have hd : zdef c = .int 0 := by
      match c, e5 with
      | 0, _ => rfl
      | 1, _ => rfl
      | 2, _ => rfl
    refine bnd_eq (oA' (m := mln i) (R := .inr (11, fs) :: mrk i) (by rw [h2, e3, h4, show Nat.ble c 4 = true from Nat.ble_eq_true_of_le (by omega)]; rfl) e3) ?_
    rw [hd, show List.replicate (mln i) (Value.int 0) = zI32 (List.replicate (mln i) 0) from List.map_replicate.symm, List.cons_append, e1, mrk_s]
    refine bnd_eq (oP (v' := .ref (160 + i)) (u := fs[k]) hZ (by omega) (by rw [oLn hZ, List.length_cons, hl, show 159 + (i + 1) = 160 + i by omega]) (zfit_r h6) (by rw [zg_eq, List.getElem?_eq_getElem (by omega)])) ?_
    rw [mk_ok hZ l (i + 1) (a + 1) (b + mln i) _ (by rw [zs_length]; exact hf) h8]
    show some ((), (Z ++ (Sum.inr (11, mfs l (i + 1) (zs fs k (.ref (160 + i)))) :: mrk (i + 1 + l.length)), a + 1 + l.length, msm l (b + mln i))) = some ((), (Z ++ (Sum.inr (11, mfs l (i + 1) (zs fs k (.ref (160 + i)))) :: mrk (i + (l.length + 1))), a + (l.length + 1), msm l (b + j.toNatClampNeg)))
    rw [e3, show i + 1 + l.length = i + (l.length + 1) by omega, show a + 1 + l.length = a + (l.length + 1) by omega]
def rs0 (k : Nat) : Int32 := if k = 4 then 1 else 0
def rA0 (i : Nat) : List Int32 := List.replicate (mln i) 0
def X0 : zX := (rs0, 0, rA0)
theorem mrk_1 : ([.inl (1, List.replicate 6000 (zdef 1))] : List zO) = mrk 1 := by
  rw [← mrk_s (i := 0), show zI32 (List.replicate (mln 0) 0) = List.replicate (mln 0) (Value.int 0) from List.map_replicate, show mln 0 = 6000 from rfl]
  rfl
theorem mrw_ck : mck mrw 1 = true := by decide +kernel
theorem mrw_sm : msm mrw (b + 6000) = b + 73072 := by
  have : ∀ (l : List (Nat × Int32 × Nat)) (b : Nat), msm l b = b + msm l 0 := by
    intro l
    induction l with
    | nil => intro b; rfl
    | cons x l ih =>
      intro b
      obtain ⟨c, j, k⟩ := x
      show msm l (b + j.toNatClampNeg) = b + msm l (0 + j.toNatClampNeg)
      rw [ih (b + j.toNatClampNeg), ih (0 + j.toNatClampNeg)]
      omega
  have e : msm mrw 0 = 67072 := by decide +kernel
  have := this mrw (b + 6000)
  omega
theorem mrw_fs : mfs mrw 1 (zs (zs (zdf 11) 1 (.ref 160)) 4 (.int 1)) = mF rs0 0 := by rfl
theorem f182_ok (hZ : Z.length = 159) : f182 n 159 (Z ++ [.inr (11, zdf 11)], a, b) = some ((), (Z ++ mO X0.1 X0.2.1 X0.2.2, a + 71, b + 73072)) := by
  rw [f182_mk]
  have eA : nA (Z ++ [.inr (11, zdf 11)], a, b) 1 6000 = some (Z ++ (.inr (11, zdf 11) :: mrk 1), a + 1, b + 6000) := by
    rw [oA' (m := 6000) (by decide) (by decide), mrk_1]
    rfl
  refine bnd_eq eA ?_
  refine bnd_eq (oP (v' := .ref 160) (u := .null) hZ (by omega) (by rw [oLn hZ]; rfl) rfl rfl) ?_
  refine bnd_eq (oP (v' := .int 1) (u := .int 0) hZ (by omega) rfl rfl rfl) ?_
  rw [mk_ok hZ mrw 1 (a + 1) (b + 6000) (zs (zs (zdf 11) 1 (.ref 160)) 4 (.int 1)) (by decide +kernel) mrw_ck, mrw_fs, mrw_sm, show mrw.length = 70 from rfl]
  show some ((), (Z ++ (Sum.inr (11, mF rs0 0) :: mrk (1 + 70)), a + 1 + 70, b + 73072)) = some ((), (Z ++ (Sum.inr (11, mF rs0 0) :: mrk 71), a + 71, b + 73072))
  rw [show a + 1 + 70 = a + 71 by omega]
end
end ZMM

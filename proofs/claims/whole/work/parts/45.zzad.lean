/-! ArrayList.add over the abstract heap -/
section ZAD
section
variable {Mm : Nat → Option zO} {own : Nat → Nat} {h h1 : zH} {Y Y1 : zY} {a n : Nat} {j : Int32}
theorem rep_list {xs ys : List Nat} {cap cap' d r1 r2 : Nat} {h' : zH} {mc : Int32} (hR : RepO Mm own h Y) (ha : Y.1 a = some (oL xs cap)) (hn : 139 ≤ a)
    (hlen : h.1.length ≤ h'.1.length) (hr : h'.2 = (r1, r2))
    (hb : ∀ b, b < h.1.length → b ≠ a → b ≠ d → zg h'.1 b = zg h.1 b)
    (hd : ∀ b ob, b ≠ a → Y.1 b = some ob → hid ob = true → own b ≠ d)
    (hd2 : 139 ≤ d) (hd3 : ¬ rgn d) (hd4 : Y.1 d = none)
    (e1 : zg h'.1 a = some (.inr (14, [.int mc, .ref d, .int (nI ys.length)])))
    (e2 : zg h'.1 d = some (.inl (21, ys.map (fun x => Value.ref x) ++ List.replicate (cap' - ys.length) .null)))
    (hl : ys.length ≤ cap') (hc : cap' ≤ 30000) (hc0 : cap' ≠ 0)
    (hys : ∀ x ∈ ys, ∃ c fs, Y.1 x = some (oB c fs) ∧ zasg c 16 = true) :
    RepO Mm (fun i => if i = a then d else own i) h' ((yu Y a (some (oL ys cap'))).1, h'.1.length, r1, r2) := by
  obtain ⟨q1, q2, q3, q4, q5, q6, q7, q8, q9, q10⟩ := hR
  have hlt := celO_lt (q5 a _ ha).1
  have hra := (q5 a _ ha).2
  have a48 : 48 ≠ a := by omega
  have ey : ∀ i, (yu Y a (some (oL ys cap'))).1 i = if i = a then some (oL ys cap') else Y.1 i := fun _ => rfl
  have nown : ∀ b ob, Y.1 b = some ob → hid ob = true → own b ≠ a := by
    intro b ob hb hh q
    rw [← q, (q6 b ob hb hh).1] at ha
    cases ha
  have nvis : ∀ b ob, Y.1 b = some ob → b ≠ d := by
    intro b ob hb q
    rw [q, hd4] at hb
    cases hb
  refine ⟨rfl, hr.symm, by omega, ?_, ?_, ?_, ?_, ?_, ?_, ?_⟩
  · intro b hb'
    rw [hb b, q4 b hb']
    · rcases hb' with hb' | hb'
      · omega
      · have := hb'.2; omega
    · intro q
      rcases hb' with hb' | hb'
      · omega
      · rw [q] at hb'; exact hra hb'
    · intro q
      rcases hb' with hb' | hb'
      · omega
      · rw [q] at hb'; exact hd3 hb'
  · intro b ob hob
    dsimp only at hob
    rw [ey] at hob
    by_cases q : b = a
    · rw [if_pos q] at hob
      cases hob
      subst q
      refine ⟨⟨⟨mc, ?_⟩, ?_, hl, hc, fun z => absurd z hc0, fun _ => ?_⟩, hra⟩
      · dsimp only
        rw [if_pos rfl]
        exact e1
      · dsimp only
        rw [if_pos rfl]
        exact e2
      · dsimp only
        rw [if_pos rfl]
        exact hd2
    · rw [if_neg q] at hob
      have h5 := q5 b ob hob
      exact ⟨celO_tr h5.1 (hb b (celO_lt h5.1) q (nvis b ob hob)) (fun hh => hb _ (celO_olt h5.1 hh) (nown b ob hob hh) (hd b ob q hob hh)) (if_neg q), h5.2⟩
  · intro b ob hob hh
    dsimp only at hob
    rw [ey] at hob
    show (yu Y a (some (oL ys cap'))).1 (if b = a then d else own b) = none ∧ ¬ rgn (if b = a then d else own b)
    by_cases q : b = a
    · rw [if_pos q, ey, if_neg (by intro z; rw [z, ha] at hd4; cases hd4)]
      exact ⟨hd4, hd3⟩
    · rw [if_neg q] at hob
      rw [if_neg q, ey, if_neg (nown b ob hob hh)]
      exact q6 b ob hob hh
  · intro b b' xs' ca ys' cb hob hob' hca he
    dsimp only at hob hob' he
    rw [ey] at hob hob'
    by_cases q : b = a
    · by_cases q' : b' = a
      · rw [q, q']
      · rw [if_pos q, if_neg q'] at he
        rw [if_neg q'] at hob'
        exact absurd he.symm (hd b' _ q' hob' rfl)
    · rw [if_neg q] at hob he
      by_cases q' : b' = a
      · rw [if_pos q'] at he
        exact absurd he (hd b _ q hob rfl)
      · rw [if_neg q'] at hob' he
        exact q7 b b' xs' ca ys' cb hob hob' hca he
  · intro b xs' cap'' x hob hx
    dsimp only at hob
    rw [ey] at hob
    have : ∃ c fs, Y.1 x = some (oB c fs) ∧ zasg c 16 = true := by
      by_cases q : b = a
      · rw [if_pos q] at hob
        cases hob
        exact hys x hx
      · rw [if_neg q] at hob
        exact q8 b xs' cap'' x hob hx
    obtain ⟨c, fs, k1, k2⟩ := this
    refine ⟨c, fs, ?_, k2⟩
    show (yu Y a (some (oL ys cap'))).1 x = _
    rw [ey, if_neg (by intro z; rw [z, ha] at k1; cases k1)]
    exact k1
  · show (yu Y a (some (oL ys cap'))).1 48 = none
    rw [ey, if_neg a48]
    exact q9
  · rw [hb 48 (by omega) a48 (by omega)]
    exact q10
theorem ycap_le {cap : Nat} (h : cap ≤ 500) : cap < ycap cap ∧ ycap cap ≤ 1000 := by
  unfold ycap
  split
  · omega
  · have := Nat.le_max_left 1 (cap / 2)
    have := Nat.max_le (a := 1) (b := cap / 2) (c := 500) |>.mpr ⟨by omega, by omega⟩
    omega
theorem zs_zs {α : Type} : ∀ {l : List α} {k : Nat} {x y : α}, zs (zs l k x) k y = zs l k y
  | [], _, _, _ => rfl
  | _ :: _, 0, _, _ => rfl
  | b :: l, k + 1, x, y => by
    show b :: zs (zs l k x) k y = b :: zs l k y
    rw [zs_zs]
theorem zelA_all {xs : List Nat} {r : List Value} (hys : ∀ x ∈ xs, ∃ c fs, zg h.1 x = some (.inr (c, fs)) ∧ zasg c 16 = true) : (xs.map (fun x => Value.ref x)).all (zelA h.1) = true := by
  rw [List.all_eq_true]
  intro v hv
  obtain ⟨x, hx, rfl⟩ := List.mem_map.mp hv
  obtain ⟨c, fs, e1, e2⟩ := hys x hx
  show (match zg h.1 x with | some (.inr (ci, _)) => zasg ci 16 | _ => false) = true
  rw [e1]
  exact e2
/-- the list's array is full: a new one -/
theorem f88_ok {xs : List Nat} {cap d : Nat} {mc : Int32} (e1 : zg h.1 a = some (.inr (14, [.int mc, .ref d, .int (nI xs.length)]))) (ha : 139 ≤ a) (hal : a < h.1.length) (h0 : cap = 0 → d = 48) (hd : cap ≠ 0 → 139 ≤ d) (e2 : zg h.1 d = some (.inl (21, xs.map (fun x => Value.ref x) ++ List.replicate (cap - xs.length) .null))) (hl : xs.length = cap) (hc : cap ≤ 500) (hys : ∀ x ∈ xs, ∃ c fs, zg h.1 x = some (.inr (c, fs)) ∧ zasg c 16 = true) :
    f88 n a h = some (some h.1.length, (zs (h.1 ++ [.inl (21, xs.map (fun x => Value.ref x) ++ List.replicate (ycap cap - xs.length) .null)]) a (.inr (14, [.int mc, .ref h.1.length, .int (nI xs.length)])), h.2.1 + 1, h.2.2 + ycap cap)) := by
  have hyc := ycap_le hc
  have el : (xs.map (fun x => Value.ref x) ++ List.replicate (cap - xs.length) Value.null).length = cap := by
    rw [List.length_append, List.length_map, List.length_replicate]
    omega
  unfold f88
  refine bnd_eq (gI_ob e1 rfl) ?_
  refine zgd_eq (isO_ob e1) ?_
  refine bnd_eq (x := (some h.1.length, _)) ?_ rfl
  unfold f89
  refine bnd_eq (gR_ob (v := some d) e1 rfl) ?_
  refine bnd_eq rfl ?_
  refine bnd_eq (aN_ar e2) ?_
  rw [el]
  have ea : zg (h.1 ++ [.inl (21, xs.map (fun x => Value.ref x) ++ List.replicate (ycap cap - xs.length) .null)]) a = some (.inr (14, [.int mc, .ref d, .int (nI xs.length)])) := by
    rw [zg_app1 hal]
    exact e1
  by_cases q : cap = 0
  · rw [if_neg (by rw [q]; decide)]
    have hx0 : xs = [] := List.eq_nil_of_length_eq_zero (by omega)
    refine bnd_eq (gR_ob (v := some d) e1 rfl) ?_
    refine bnd_eq (x := true) (by rw [h0 q]; rfl) ?_
    rw [if_pos rfl]
    refine bnd_eq (x := (nI 10, h)) ?_ ?_
    · rw [show (nI xs.length + 1 : Int32) = nI 1 by rw [hx0]; rfl]
      exact f22_max 10 1 (by omega) (by omega)
    refine bnd_eq (x := (h.1 ++ [.inl (21, xs.map (fun x => Value.ref x) ++ List.replicate (ycap cap - xs.length) .null)], h.2.1 + 1, h.2.2 + ycap cap)) ?_ ?_
    · rw [hx0, q]
      rfl
    exact bnd_eq (pF_ob (c := 14) (k := 1) ea ha rfl rfl) rfl
  · rw [if_pos (show (0 : Int32) < nI cap from nI_lt (a := 0) (by omega) (by omega))]
    unfold b89_20
    have ey : ycap cap = cap + max 1 (cap / 2) := by unfold ycap; rw [if_neg q]
    have hm : max 1 (cap / 2) ≤ 500 := Nat.max_le.mpr ⟨by omega, by omega⟩
    have hm1 : 1 ≤ max 1 (cap / 2) := Nat.le_max_left _ _
    refine bnd_eq (x := (nI (ycap cap), h)) ?_ ?_
    · rw [show (nI xs.length + 1 - nI cap : Int32) = nI 1 by rw [nI_1, pk_sub (by omega)]; congr 1; omega, nI_shr1 (by omega)]
      unfold f41
      refine bnd_eq (f22_max 1 (cap / 2) (by omega) (by omega)) ?_
      dsimp only
      rw [nI_add, ← ey, if_neg (by rw [show (0 : Int32) = nI 0 from rfl, nI_leI (by omega) (by omega)]; omega), if_neg (by rw [show (2147483639 : Int32) = nI 2147483639 from rfl, nI_ltI (by omega) (by omega)]; omega)]
    refine bnd_eq (gR_ob (v := some d) e1 rfl) ?_
    refine bnd_eq rfl ?_
    refine bnd_eq (x := (h.1 ++ [.inl (21, xs.map (fun x => Value.ref x) ++ List.replicate (ycap cap - xs.length) .null)], h.2.1 + 1, h.2.2 + ycap cap)) ?_ ?_
    · unfold nt1 zNco
      dsimp only
      simp only [e2]
      rw [hl, Nat.sub_self, List.replicate_zero, List.append_nil, List.length_map, nI_clamp (by omega), decide_eq_false (nI_pos (by omega)), show Nat.ble zn0 d = true from Nat.ble_eq_true_of_le (hd q), Nat.ble_eq_true_of_le (show ycap cap ≤ 65536 by omega), Nat.ble_eq_true_of_le (show xs.length ≤ ycap cap by omega), zelA_all (r := []) hys]
      rw [hl]
      rfl
    exact bnd_eq (pF_ob (c := 14) (k := 1) ea ha rfl rfl) rfl
theorem k86 {r : Option Nat} {p : Int32 × zY} (hR : Rep Mm h Y) (e : c86 n a r Y = some p) : ∃ kh : zH, f86 n a r h = some (p.1, kh) ∧ Rep Mm kh p.2 := by
  have hR' := hR
  obtain ⟨own, hO⟩ := hR
  have hO' := hO
  obtain ⟨q1, q2, q3, q4, q5, q6, q7, q8, q9, q10⟩ := hO
  unfold c86 at e
  replace e := zbnd e
  obtain ⟨x, rfl, e⟩ := e
  replace e := zbnd e
  obtain ⟨Y1, e, ep⟩ := e
  cases ep
  unfold yAdd at e
  split at e
  · rename_i xs cap c fs ho hx
    split at e
    · rename_i hb
      simp only [Bool.and_eq_true] at hb
      obtain ⟨⟨g1, g2⟩, g3⟩ := hb
      have g2 : 139 ≤ a := Nat.le_of_ble_eq_true g2
      have g3 := Nat.le_of_ble_eq_true g3
      obtain ⟨⟨⟨mc, o1⟩, o2, o3, o4, o5, o6⟩, hra⟩ := q5 a _ ho
      have hal := zg_lt o1
      have hdl := zg_lt o2
      obtain ⟨o7, o8⟩ := q6 a _ ho rfl
      have nad : a ≠ own a := by intro z; rw [← z, ho] at o7; cases o7
      have ob := rep_ob hR' hx
      have hxa : x ≠ a := by intro z; rw [z, ho] at hx; cases hx
      have hxd : x ≠ own a := by intro z; rw [z, o7] at hx; cases hx
      -- the heap behind the first write
      obtain ⟨g, hg⟩ : ∃ g : zH, g = (zs h.1 a (.inr (14, [.int (mc + 1), .ref (own a), .int (nI xs.length)])), h.2) := ⟨_, rfl⟩
      have w1 : zg g.1 a = some (.inr (14, [.int (mc + 1), .ref (own a), .int (nI xs.length)])) := by rw [hg]; exact zg_zs_eq hal
      have w2 : ∀ b, b ≠ a → zg g.1 b = zg h.1 b := fun b hb => by rw [hg]; exact zg_zs_ne (fun z => hb z.symm)
      have wl : g.1.length = h.1.length := by rw [hg]; exact zs_length _ _ _
      have wr : g.2 = h.2 := by rw [hg]
      have w3 : zg g.1 (own a) = some (.inl (21, xs.map (fun x => Value.ref x) ++ List.replicate (cap - xs.length) .null)) := by rw [w2 _ (fun z => nad z.symm)]; exact o2
      have w4 : zg g.1 x = some (.inr (c, fs)) := by rw [w2 _ hxa]; exact ob
      have hys : ∀ x' ∈ xs ++ [x], ∃ c fs, Y.1 x' = some (oB c fs) ∧ zasg c 16 = true := by
        intro x' hx'
        rcases List.mem_append.mp hx' with z | z
        · exact q8 a xs cap x' ho z
        · rw [List.mem_singleton.mp z]
          exact ⟨c, fs, hx, g1⟩
      have f86e : ∀ {u : zH}, f87 n a (some x) (some (own a)) (nI xs.length) g = some ((), u) → f86 n a (some x) h = some (1, u) := by
        intro u hu
        unfold f86
        refine bnd_eq (gI_ob o1 rfl) ?_
        refine bnd_eq (x := g) (by rw [hg]; exact pF_ob (c := 14) (k := 0) o1 g2 rfl rfl) ?_
        refine bnd_eq (gR_ob (v := some (own a)) w1 rfl) ?_
        refine bnd_eq (gI_ob w1 rfl) ?_
        refine zgd_eq (isO_ob w1) ?_
        exact bnd_eq hu rfl
      have el : (xs.map (fun x => Value.ref x) ++ List.replicate (cap - xs.length) Value.null).length = cap := by
        rw [List.length_append, List.length_map, List.length_replicate]
        omega
      have hnd : ∀ b ob, b ≠ a → Y.1 b = some ob → hid ob = true → cap ≠ 0 → own b ≠ own a := by
        intro b obb hba hob hh hc z
        have h5 := (q5 b obb hob).1
        match obb, hob, hh, h5 with
        | .inr (.inr (.inl (ys, cb))), hob, hh, h5 => exact hba ((q7 a b xs cap ys cb ho hob hc z.symm).symm)
        | .inr (.inr (.inr bs)), hob, hh, ⟨_, h5, _⟩ =>
          rw [z, o2] at h5
          cases h5
      split at e
      · rename_i hlt
        have hlt := of_decide_eq_true hlt
        cases e
        have hcn : cap ≠ 0 := by omega
        have k1 := b87_ok (n := n) w1 g2 (o6 hcn) w3 hlt (by omega) w4 g1
        refine ⟨_, f86e (u := (zs (zs g.1 (own a) (.inl (21, (xs ++ [x]).map (fun x => Value.ref x) ++ List.replicate (cap - (xs ++ [x]).length) .null))) a (.inr (14, [.int (mc + 1), .ref (own a), .int (nI (xs ++ [x]).length)])), g.2)) ?_, ?_⟩
        · unfold f87
          refine bnd_eq rfl ?_
          refine bnd_eq (aN_ar w3) ?_
          rw [el, if_neg (by rw [nI_eq (by omega) (by omega)]; omega)]
          exact k1
        · have hl' : (zs (zs g.1 (own a) (.inl (21, (xs ++ [x]).map (fun x => Value.ref x) ++ List.replicate (cap - (xs ++ [x]).length) .null))) a (.inr (14, [.int (mc + 1), .ref (own a), .int (nI (xs ++ [x]).length)]))).length = h.1.length := by rw [zs_length, zs_length, wl]
          have k2 := rep_list (h' := (zs (zs g.1 (own a) (.inl (21, (xs ++ [x]).map (fun x => Value.ref x) ++ List.replicate (cap - (xs ++ [x]).length) .null))) a (.inr (14, [.int (mc + 1), .ref (own a), .int (nI (xs ++ [x]).length)])), g.2)) (r1 := g.2.1) (r2 := g.2.2) (ys := xs ++ [x]) (cap' := cap) (d := own a) (mc := mc + 1) hO' ho g2 (by rw [hl']; exact Nat.le_refl _) rfl
            (fun b _ hb1 hb2 => by show zg (zs _ a _) b = _; rw [zg_zs_ne (fun z => hb1 z.symm), zg_zs_ne (fun z => hb2 z.symm), w2 b hb1])
            (fun b ob hb1 hb2 hb3 => hnd b ob hb1 hb2 hb3 hcn) (o6 hcn) o8 o7
            (zg_zs_eq (by rw [zs_length, wl]; exact hal))
            (by show zg (zs _ a _) (own a) = _; rw [zg_zs_ne nad]; exact zg_zs_eq (by rw [wl]; exact hdl))
            (by rw [List.length_append]; exact hlt) o4 hcn hys
          rw [hl', wr] at k2
          refine ⟨fun i => if i = a then own a else own i, ?_⟩
          rw [show (1, yu Y a (some (oL (xs ++ [x]) cap))).2 = yu Y a (some (oL (xs ++ [x]) cap)) from rfl]
          rw [show yu Y a (some (oL (xs ++ [x]) cap)) = ((yu Y a (some (oL (xs ++ [x]) cap))).1, h.1.length, h.2.1, h.2.2) by rw [← q1, ← q2]; rfl]
          rw [wr]
          exact k2
      · rename_i hge
        have hge := of_decide_eq_false hge
        cases e
        have hxl : xs.length = cap := by omega
        have hyc := ycap_le g3
        have hyx : ∀ x' ∈ xs, ∃ c fs, zg g.1 x' = some (.inr (c, fs)) ∧ zasg c 16 = true := by
          intro x' hx'
          obtain ⟨c', fs', z1, z2⟩ := hys x' (List.mem_append_left _ hx')
          refine ⟨c', fs', ?_, z2⟩
          rw [w2]
          · exact rep_ob hR' z1
          · intro z; rw [z, ho] at z1; cases z1
        have k0 := f88_ok (n := n) w1 g2 (by rw [wl]; exact hal) o5 o6 w3 hxl g3 hyx
        rw [wl, wr] at k0
        -- the heap with the new array
        obtain ⟨g', hg'⟩ : ∃ g' : zH, g' = (zs (g.1 ++ [.inl (21, xs.map (fun x => Value.ref x) ++ List.replicate (ycap cap - xs.length) .null)]) a (.inr (14, [.int (mc + 1), .ref h.1.length, .int (nI xs.length)])), h.2.1 + 1, h.2.2 + ycap cap) := ⟨_, rfl⟩
        rw [← hg'] at k0
        have hal' : a ≠ h.1.length := by omega
        have v1 : zg g'.1 a = some (.inr (14, [.int (mc + 1), .ref h.1.length, .int (nI xs.length)])) := by rw [hg']; exact zg_zs_eq (by rw [List.length_append, wl]; omega)
        have v2 : ∀ b, b < h.1.length → b ≠ a → zg g'.1 b = zg h.1 b := fun b hb1 hb2 => by
          rw [hg']
          show zg (zs _ a _) b = _
          rw [zg_zs_ne (fun z => hb2 z.symm), zg_app1 (by rw [wl]; exact hb1), w2 b hb2]
        have v3 : zg g'.1 h.1.length = some (.inl (21, xs.map (fun x => Value.ref x) ++ List.replicate (ycap cap - xs.length) .null)) := by
          rw [hg']
          show zg (zs _ a _) _ = _
          rw [zg_zs_ne hal', ← wl]
          exact zg_appN
        have vl : g'.1.length = h.1.length + 1 := by rw [hg']; show (zs _ a _).length = _; rw [zs_length, List.length_append, wl]; rfl
        have v4 : zg g'.1 x = some (.inr (c, fs)) := by rw [v2 x (zg_lt ob) hxa]; exact ob
        have v5 : g'.2 = (h.2.1 + 1, h.2.2 + ycap cap) := by rw [hg']
        have k1 := b87_ok (n := n) v1 g2 (by omega) v3 (by omega) (by omega) v4 g1
        refine ⟨_, f86e (u := (zs (zs g'.1 h.1.length (.inl (21, (xs ++ [x]).map (fun x => Value.ref x) ++ List.replicate (ycap cap - (xs ++ [x]).length) .null))) a (.inr (14, [.int (mc + 1), .ref h.1.length, .int (nI (xs ++ [x]).length)])), g'.2)) ?_, ?_⟩
        · unfold f87
          refine bnd_eq rfl ?_
          refine bnd_eq (aN_ar w3) ?_
          rw [el, if_pos (by rw [hxl])]
          refine zgd_eq (isO_ob w1) ?_
          refine bnd_eq k0 ?_
          exact k1
        · have hl' : (zs (zs g'.1 h.1.length (.inl (21, (xs ++ [x]).map (fun x => Value.ref x) ++ List.replicate (ycap cap - (xs ++ [x]).length) .null))) a (.inr (14, [.int (mc + 1), .ref h.1.length, .int (nI (xs ++ [x]).length)]))).length = h.1.length + 1 := by rw [zs_length, zs_length, vl]
          have k2 := rep_list (h' := (zs (zs g'.1 h.1.length (.inl (21, (xs ++ [x]).map (fun x => Value.ref x) ++ List.replicate (ycap cap - (xs ++ [x]).length) .null))) a (.inr (14, [.int (mc + 1), .ref h.1.length, .int (nI (xs ++ [x]).length)])), g'.2)) (r1 := g'.2.1) (r2 := g'.2.2) (ys := xs ++ [x]) (cap' := ycap cap) (d := h.1.length) (mc := mc + 1) hO' ho g2 (by rw [hl']; omega) rfl
            (fun b hb0 hb1 hb2 => by show zg (zs _ a _) b = _; rw [zg_zs_ne (fun z => hb1 z.symm), zg_zs_ne (fun z => hb2 z.symm), v2 b hb0 hb1])
            (fun b ob hb1 hb2 hb3 => by have := celO_olt (q5 b ob hb2).1 hb3; omega) (by omega) (fun z => by have := z.2; omega)
            (by cases hz : Y.1 h.1.length with
                | none => rfl
                | some o => have := celO_lt (q5 _ _ hz).1; omega)
            (zg_zs_eq (by rw [zs_length, vl]; omega))
            (by show zg (zs _ a _) h.1.length = _; rw [zg_zs_ne hal']; exact zg_zs_eq (by rw [vl]; omega))
            (by rw [List.length_append]; show xs.length + 1 ≤ _; omega) (by omega) (by omega) hys
          rw [hl', v5] at k2
          refine ⟨fun i => if i = a then h.1.length else own i, ?_⟩
          rw [v5]
          rw [show ((yu Y a (some (oL (xs ++ [x]) (ycap cap)))).1, Y.2.1 + 1, Y.2.2.1 + 1, Y.2.2.2 + ycap cap) = ((yu Y a (some (oL (xs ++ [x]) (ycap cap)))).1, h.1.length + 1, h.2.1 + 1, h.2.2 + ycap cap) by rw [q1, q2]]
          exact k2
    · cases e
  · cases e
end
end ZAD

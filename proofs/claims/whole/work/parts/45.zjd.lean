/-! LISTS AND STRINGS over the abstract heap -/
section ZJD
section
variable {Mm : Nat → Option zO} {own : Nat → Nat} {h h1 : zH} {Y Y1 : zY} {a n : Nat} {j : Int32}
/-- a cell that is shown becomes a list or a string whose array stands at d -/
theorem k_HL (hR : Rep Mm h Y) (e : yHL Y a = some Y1) : Rep Mm h Y1 := by
  obtain ⟨own, r1, r2, r3, r4, r5, r6, r7, r8, r9, r10⟩ := hR
  unfold yHL at e
  split at e
  · rename_i c mc d z ho
    split at e
    · rename_i hb
      cases e
      simp only [Bool.and_eq_true] at hb
      obtain ⟨⟨q1, q2⟩, q3⟩ := hb
      rw [Nat.eq_of_beq_eq_true q1, Nat.eq_of_beq_eq_true q2, eq_of_beq q3] at ho
      have ha := r5 a _ ho
      have n48 : ∀ b, b = a → b ≠ 48 := by
        intro b q q'
        rw [← q, q', r9] at ho
        cases ho
      refine ⟨fun i => if i = a then 48 else own i, r1, r2, r3, r4, ?_, ?_, ?_, ?_, ?_, r10⟩
      · intro b ob hb
        rw [yu_1] at hb
        by_cases q : b = a
        · rw [if_pos q] at hb
          cases hb
          subst q
          refine ⟨⟨⟨mc, ?_⟩, ?_, Nat.le_refl _, by omega, fun _ => if_pos rfl, fun q => absurd rfl q⟩, ha.2⟩
          · dsimp only
            rw [if_pos rfl]
            exact ha.1
          · dsimp only
            rw [if_pos rfl]
            exact r10
        · rw [if_neg q] at hb
          exact ⟨celO_tr (r5 b ob hb).1 rfl (fun _ => rfl) (if_neg q), (r5 b ob hb).2⟩
      · intro b ob hb hh
        rw [yu_1] at hb
        by_cases q : b = a
        · rw [if_pos q] at hb
          show (yu Y a (some (oL [] 0))).1 (if b = a then 48 else own b) = none ∧ ¬ rgn (if b = a then 48 else own b)
          rw [if_pos q, yu_1, if_neg (fun q' => n48 48 q' rfl)]
          exact ⟨r9, fun q' => by have := q'.1; omega⟩
        · rw [if_neg q] at hb
          show (yu Y a (some (oL [] 0))).1 (if b = a then 48 else own b) = none ∧ ¬ rgn (if b = a then 48 else own b)
          rw [if_neg q, yu_1]
          have h6 := r6 b ob hb hh
          rw [if_neg (by intro q'; rw [q', ho] at h6; cases h6.1)]
          exact h6
      · intro b b' xs ca ys cb hb hb' hca he
        rw [yu_1] at hb hb'
        by_cases q : b = a
        · rw [if_pos q] at hb
          cases hb
          exact absurd rfl hca
        · rw [if_neg q] at hb
          dsimp only at he
          rw [if_neg q] at he
          by_cases q' : b' = a
          · rw [if_pos q'] at he
            obtain ⟨⟨_, _, _, _, _, z6⟩, _⟩ := r5 b _ hb
            have := z6 hca
            omega
          · rw [if_neg q'] at hb' he
            exact r7 b b' xs ca ys cb hb hb' hca he
      · intro b xs cap x hb hx
        rw [yu_1] at hb
        by_cases q : b = a
        · rw [if_pos q] at hb
          cases hb
          cases hx
        · rw [if_neg q] at hb
          obtain ⟨c, fs, h1, h2⟩ := r8 b xs cap x hb hx
          refine ⟨c, fs, ?_, h2⟩
          rw [yu_1, if_neg]
          · exact h1
          · intro q'
            rw [q', ho] at h1
            cases h1
            cases h2
      · rw [yu_1, if_neg (fun q' => n48 48 q' rfl)]
        exact r9
    · cases e
  · cases e
theorem map_byV : ∀ {vs : List Value}, vs.all byV = true → zI32 ((vs.map fun v => chr (vI v)).map nB) = vs
  | [], _ => rfl
  | v :: vs, h => by
    rw [List.all_cons, Bool.and_eq_true] at h
    show Value.int (nB (chr (vI v))) :: zI32 ((vs.map fun v => chr (vI v)).map nB) = v :: vs
    rw [map_byV h.2]
    cases v with
    | int x =>
      have h1 := h.1
      unfold byV at h1
      simp only [Bool.and_eq_true, decide_eq_true_eq] at h1
      show Value.int (nB (chr x)) :: vs = _
      rw [show nB (chr x) = x from h1.1.1]
    | _ => exact absurd h.1 (by simp [byV])
theorem mem_byV {b : Int32} : ∀ {vs : List Value}, vs.all byV = true → b ∈ vs.map (fun v => chr (vI v)) → chr (nB b) = b
  | [], _, h => by cases h
  | v :: vs, h, hm => by
    rw [List.all_cons, Bool.and_eq_true] at h
    rw [List.map_cons] at hm
    rcases List.mem_cons.mp hm with q | q
    · cases v with
      | int x =>
        have h1 := h.1
        unfold byV at h1
        simp only [Bool.and_eq_true, decide_eq_true_eq] at h1
        rw [q]
        show chr (nB (chr x)) = chr x
        rw [show nB (chr x) = x from h1.1.1]
      | _ => exact absurd h.1 (by simp [byV])
    · exact mem_byV h.2 q
theorem k_HS (hR : Rep Mm h Y) (e : yHS Y a = some Y1) : Rep Mm h Y1 := by
  obtain ⟨own, r1, r2, r3, r4, r5, r6, r7, r8, r9, r10⟩ := hR
  unfold yHS at e
  split at e
  · rename_i c d z ho
    split at e
    · rename_i t vs hd
      split at e
      · rename_i hb
        cases e
        simp only [Bool.and_eq_true] at hb
        obtain ⟨⟨⟨⟨q1, q2⟩, q3⟩, q4⟩, q5⟩ := hb
        rw [Nat.eq_of_beq_eq_true q1, eq_of_beq q2] at ho
        rw [Nat.eq_of_beq_eq_true q3] at hd
        have ha := r5 a _ ho
        have hd' := r5 d _ hd
        have nad : a ≠ d := by
          intro q
          rw [q, hd] at ho
          cases ho
        have nown : ∀ b ob, Y.1 b = some ob → hid ob = true → own b ≠ a ∧ own b ≠ d := by
          intro b ob hb hh
          have h6 := (r6 b ob hb hh).1
          constructor
          · intro q; rw [q, ho] at h6; cases h6
          · intro q; rw [q, hd] at h6; cases h6
        have ey : ∀ i, (yu (yu Y d none) a (some (oS (vs.map fun v => chr (vI v))))).1 i = if i = a then some (oS (vs.map fun v => chr (vI v))) else if i = d then none else Y.1 i := fun _ => rfl
        refine ⟨fun i => if i = a then d else own i, r1, r2, r3, r4, ?_, ?_, ?_, ?_, ?_, r10⟩
        · intro b ob hb
          rw [ey] at hb
          by_cases q : b = a
          · rw [if_pos q] at hb
            cases hb
            subst q
            refine ⟨⟨?_, ?_, ?_, ?_⟩, ha.2⟩
            · dsimp only
              rw [if_pos rfl]
              exact ha.1
            · dsimp only
              rw [if_pos rfl, map_byV q4]
              exact hd'.1
            · rw [List.length_map]
              exact Nat.le_of_ble_eq_true q5
            · intro b hb
              exact mem_byV q4 hb
          · rw [if_neg q] at hb
            by_cases q' : b = d
            · rw [if_pos q'] at hb
              cases hb
            · rw [if_neg q'] at hb
              exact ⟨celO_tr (r5 b ob hb).1 rfl (fun _ => rfl) (if_neg q), (r5 b ob hb).2⟩
        · intro b ob hb hh
          rw [ey] at hb
          by_cases q : b = a
          · show (yu (yu Y d none) a _).1 (if b = a then d else own b) = none ∧ ¬ rgn (if b = a then d else own b)
            rw [if_pos q, ey, if_neg (fun q' => nad q'.symm), if_pos rfl]
            exact ⟨rfl, hd'.2⟩
          · rw [if_neg q] at hb
            show (yu (yu Y d none) a _).1 (if b = a then d else own b) = none ∧ ¬ rgn (if b = a then d else own b)
            by_cases q' : b = d
            · rw [if_pos q'] at hb
              cases hb
            · rw [if_neg q'] at hb
              have h6 := r6 b ob hb hh
              have h7 := nown b ob hb hh
              rw [if_neg q, ey, if_neg h7.1, if_neg h7.2]
              exact h6
        · intro b b' xs ca ys cb hb hb' hca he
          rw [ey] at hb hb'
          dsimp only at he
          by_cases q : b = a
          · rw [if_pos q] at hb
            cases hb
          · rw [if_neg q] at hb he
            by_cases q2 : b = d
            · rw [if_pos q2] at hb
              cases hb
            · rw [if_neg q2] at hb
              by_cases q' : b' = a
              · rw [if_pos q'] at hb'
                cases hb'
              · rw [if_neg q'] at hb' he
                by_cases q3 : b' = d
                · rw [if_pos q3] at hb'
                  cases hb'
                · rw [if_neg q3] at hb'
                  exact r7 b b' xs ca ys cb hb hb' hca he
        · intro b xs cap x hb hx
          rw [ey] at hb
          by_cases q : b = a
          · rw [if_pos q] at hb
            cases hb
          · rw [if_neg q] at hb
            by_cases q2 : b = d
            · rw [if_pos q2] at hb
              cases hb
            · rw [if_neg q2] at hb
              obtain ⟨c, fs, h1, h2⟩ := r8 b xs cap x hb hx
              refine ⟨c, fs, ?_, h2⟩
              rw [ey, if_neg, if_neg]
              · exact h1
              · intro q'
                rw [q', hd] at h1
                cases h1
              · intro q'
                rw [q', ho] at h1
                cases h1
                cases h2
        · rw [ey]
          split
          · rename_i q
            rw [← q, r9] at ho
            cases ho
          · split
            · rfl
            · exact r9
      · cases e
    · cases e
  · cases e
theorem k68 {p : Int32 × zY} (hR : Rep Mm h Y) (e : c68 n a Y = some p) : ∃ kh : zH, f68 n a h = some (p.1, kh) ∧ Rep Mm kh p.2 := by
  have hR' := hR
  obtain ⟨own, _, _, _, _, r5, _⟩ := hR
  unfold c68 at e
  split at e
  · rename_i xs cap ho
    cases e
    obtain ⟨⟨⟨mc, q⟩, _⟩, _⟩ := r5 a _ ho
    refine ⟨h, ?_, hR'⟩
    unfold f68
    exact bnd_eq (gI_ob q rfl) rfl
  · cases e
theorem zgmap {xs : List Nat} {r : List Value} {k x : Nat} (e : zg xs k = some x) : zg (xs.map (fun x => Value.ref x) ++ r) k = some (.ref x) := by
  have hl := zg_lt e
  rw [zg_appL (by rw [List.length_map]; exact hl), zg_eq, List.getElem?_map, ← zg_eq, e]
  rfl
theorem k74 {p : Option Nat × zY} (hR : Rep Mm h Y) (e : c74 n a j Y = some p) : ∃ kh : zH, f74 n a j h = some (p.1, kh) ∧ Rep Mm kh p.2 := by
  have hR' := hR
  obtain ⟨own, _, _, _, _, r5, _⟩ := hR
  unfold c74 at e
  split at e
  · rename_i xs cap ho
    split at e
    · cases e
    · rename_i hj
      have hj := of_decide_eq_false hj
      replace e := zbnd e
      obtain ⟨x, ex, e⟩ := e
      cases e
      obtain ⟨⟨⟨mc, q⟩, q2, q3, q4, _⟩, _⟩ := r5 a _ ho
      have hl := zg_lt ex
      obtain ⟨k, hk, rfl⟩ := nI_of hj
      rw [nI_clamp hk] at ex hl
      have hlt : nI k < nI xs.length := nI_lt hl (by omega)
      refine ⟨h, ?_, hR'⟩
      unfold f74
      refine bnd_eq (gI_ob q rfl) ?_
      have e75 : f75 n (nI k) (nI xs.length) h = some (nI k, h) := by
        unfold f75
        exact bnd_eq (f63_ok hj hlt) rfl
      refine bnd_eq e75 ?_
      refine zgd_eq (isO_ob q) ?_
      have e76 : f76 n a (nI k) h = some (some x, h) := by
        unfold f76
        refine bnd_eq (gR_ob (v := some (own a)) q rfl) ?_
        refine bnd_eq rfl ?_
        refine bnd_eq (x := some x) ?_ rfl
        unfold aR aL
        rw [q2]
        dsimp only
        rw [decide_eq_false hj]
        show oR (zg _ _) = _
        rw [nI_clamp hk, zgmap ex]
        rfl
      exact bnd_eq e76 rfl
  · cases e
theorem rep_STR {bs : List Int32} (hR : Rep Mm h Y) (e : Y.1 a = some (.inr (.inr (.inr bs)))) : STR h a (bs.map nB) ∧ (∀ b ∈ bs, chr (nB b) = b) ∧ bs.length ≤ 65536 := by
  obtain ⟨own, _, _, _, _, r5, _⟩ := hR
  obtain ⟨⟨q1, q2, q3, q4⟩, _⟩ := r5 a _ e
  exact ⟨⟨own a, q1, q2, by rw [List.length_map]; omega⟩, q4, q3⟩
theorem k55 {p : Int32 × zY} (hR : Rep Mm h Y) (e : c55 n a Y = some p) : ∃ kh : zH, f55 n a h = some (p.1, kh) ∧ Rep Mm kh p.2 := by
  unfold c55 at e
  split at e
  · rename_i bs ho
    cases e
    refine ⟨h, ?_, hR⟩
    rw [f55_STR (rep_STR hR ho).1, List.length_map]
  · cases e
theorem rd_map {bs : List Int32} {x : Int32} (e : rd bs j = some x) : rd (bs.map nB) j = some (nB x) := by
  obtain ⟨e1, e2⟩ := rd_some e
  unfold rd
  rw [decide_eq_false e1]
  rw [zg_eq] at e2 ⊢
  rw [List.getElem?_map, e2]
  rfl
theorem rd_mem {bs : List Int32} {x : Int32} (e : rd bs j = some x) : x ∈ bs := by
  obtain ⟨e1, e2⟩ := rd_some e
  rw [zg_eq] at e2
  exact List.mem_of_getElem? e2
theorem k59 {p : Int32 × zY} (hR : Rep Mm h Y) (e : c59 n a j Y = some p) : ∃ kh : zH, f59 n a j h = some (p.1, kh) ∧ Rep Mm kh p.2 := by
  unfold c59 at e
  split at e
  · rename_i bs ho
    replace e := zbnd e
    obtain ⟨x, ex, e⟩ := e
    cases e
    obtain ⟨q1, q2, q3⟩ := rep_STR hR ho
    refine ⟨h, ?_, hR⟩
    rw [f59_STR q1 (rd_map ex), q2 x (rd_mem ex)]
  · cases e
theorem f22_max (x y : Nat) (hx : x < 2 ^ 31) (hy : y < 2 ^ 31) : f22 n (nI x) (nI y) h = some (nI (max x y), h) := by
  unfold f22
  by_cases c : x < y
  · rw [if_pos ((nI_ltI hx hy).mpr c), Nat.max_eq_right (Nat.le_of_lt c)]
  · rw [if_neg (fun q => c ((nI_ltI hx hy).mp q)), Nat.max_eq_left (Nat.le_of_not_lt c)]
theorem pF_ob {c k : Nat} {fs : List Value} {v w : Value} (e : zg h.1 a = some (.inr (c, fs))) (hn : 139 ≤ a) (hf : zfit (zty c k) v = true) (hw : zg fs k = some w) : pF h a c k v = some (zs h.1 a (.inr (c, zs fs k v)), h.2) := by
  unfold pF
  rw [e]
  dsimp only
  rw [Nat.beq_refl, show Nat.ble zn0 a = true from Nat.ble_eq_true_of_le hn, hf]
  simp only [Bool.and_self, hw]
theorem nI_shr1 {k : Nat} (hk : k < 512) : nI k >>> ((1 : Int32) &&& 31) = nI (k / 2) := by
  have : ∀ k : Fin 512, nI k.val >>> ((1 : Int32) &&& 31) = nI (k.val / 2) := by decide +kernel
  exact this ⟨k, hk⟩
/-- the list's own array, with room for one more -/
theorem zs_ap {l r : List Value} {x y : Value} {k : Nat} (hk : k = l.length) : zs (l ++ x :: r) k y = l ++ y :: r := by
  subst hk
  rw [zs_appR (Nat.le_refl _), Nat.sub_self]
  rfl
/-- the store at the end, the new size -/
theorem b87_ok {xs : List Nat} {cap d x c : Nat} {fs : List Value} {mc : Int32} (e1 : zg h.1 a = some (.inr (14, [.int mc, .ref d, .int (nI xs.length)]))) (ha : 139 ≤ a) (hd : 139 ≤ d) (e2 : zg h.1 d = some (.inl (21, xs.map (fun x => Value.ref x) ++ List.replicate (cap - xs.length) .null))) (hl : xs.length < cap) (hc : cap < 2 ^ 31) (ex : zg h.1 x = some (.inr (c, fs))) (hg : zasg c 16 = true) : b87_11 n a (some x) (some d) (nI xs.length) h = some ((), (zs (zs h.1 d (.inl (21, (xs ++ [x]).map (fun x => Value.ref x) ++ List.replicate (cap - (xs ++ [x]).length) .null))) a (.inr (14, [.int mc, .ref d, .int (nI (xs ++ [x]).length)])), h.2)) := by
  unfold b87_11
  refine bnd_eq rfl ?_
  have nad : a ≠ d := by
    intro q
    rw [q, e2] at e1
    cases e1
  obtain ⟨r, hr⟩ : ∃ r, cap - xs.length = r + 1 := ⟨cap - xs.length - 1, by omega⟩
  have hr2 : cap - (xs ++ [x]).length = r := by rw [List.length_append]; show cap - (xs.length + 1) = r; omega
  refine bnd_eq (x := (zs h.1 d (.inl (21, (xs ++ [x]).map (fun x => Value.ref x) ++ List.replicate (cap - (xs ++ [x]).length) .null)), h.2)) ?_ ?_
  · unfold aS zast va_rf
    dsimp only
    rw [e2]
    dsimp only
    rw [show zsA zasg h.1 21 (.ref x) = some (.ref x) by show (match zg h.1 x with | some (.inr (ci, _)) => _ | _ => _) = _; rw [ex]; dsimp only; rw [hg]]
    dsimp only
    rw [show Nat.ble zn0 d = true from Nat.ble_eq_true_of_le hd, decide_eq_false (nI_pos (by omega)), nI_clamp (by omega), hr, hr2, List.replicate_succ]
    simp only [Bool.not_false, Bool.and_self]
    rw [zs_ap (by rw [List.length_map]), zg_appR (by rw [List.length_map]; exact Nat.le_refl _), List.length_map, Nat.sub_self]
    dsimp only [zg]
    rw [List.map_append]
    simp
  · refine bnd_eq (pF_ob (v := .int (nI xs.length + 1)) (c := 14) (k := 2) (fs := [.int mc, .ref d, .int (nI xs.length)]) (w := .int (nI xs.length)) ?_ ha rfl rfl) ?_
    · show zg (zs h.1 d _) a = _
      rw [zg_zs_ne (fun q => nad q.symm)]
      exact e1
    · rw [nI_1, List.length_append]
      rfl
/-- the bytes of two strings, from k on -/
theorem f30_l {u v : Nat} {bs ds : List Int32} (eu : zg h.1 u = some (.inl (1, zI32 bs))) (ev : zg h.1 v = some (.inl (1, zI32 ds))) (hl : bs.length = ds.length) (hm : bs.length < 2 ^ 31) : ∀ (f k : Nat), bs.length - k < f → k ≤ bs.length → f30_9 n f (some u) (some v) (nI k) h = some (if bs.drop k = ds.drop k then 1 else 0, h)
  | 0, k, hf, _ => by omega
  | f + 1, k, hf, hk => by
    show b30_9 n (f30_9 n f) (some u) (some v) (nI k) h = _
    unfold b30_9
    refine bnd_eq rfl ?_
    refine bnd_eq (aN_ar eu) ?_
    rw [List.length_map]
    by_cases c : k = bs.length
    · rw [if_pos (by rw [c]; exact Int32.le_refl _), c, List.drop_length, hl, List.drop_length, if_pos rfl]
    · have hk' : k < bs.length := by omega
      rw [if_neg (by rw [nI_leI hm (by omega)]; omega)]
      have hkv : k < ds.length := by omega
      have r1 : rd bs (nI k) = some bs[k] := by
        unfold rd
        rw [decide_eq_false (nI_pos (by omega)), nI_clamp (by omega), zg_eq, List.getElem?_eq_getElem hk']
      have r2 : rd ds (nI k) = some ds[k] := by
        unfold rd
        rw [decide_eq_false (nI_pos (by omega)), nI_clamp (by omega), zg_eq, List.getElem?_eq_getElem hkv]
      refine bnd_eq (aB_ar eu r1) ?_
      refine bnd_eq rfl ?_
      refine bnd_eq (aB_ar ev r2) ?_
      rw [List.drop_eq_getElem_cons hk', List.drop_eq_getElem_cons hkv]
      by_cases q : bs[k] = ds[k]
      · rw [if_pos q, nI_1, f30_l eu ev hl hm f (k + 1) (by omega) (by omega)]
        by_cases w : bs.drop (k + 1) = ds.drop (k + 1)
        · rw [if_pos w, if_pos (by rw [q, w])]
        · rw [if_neg w, if_neg (fun z => w (List.cons.inj z).2)]
      · rw [if_neg q, if_neg (by intro z; exact q (List.cons.inj z).1)]
theorem nB_inj {bs ds : List Int32} (hb : ∀ b ∈ bs, chr (nB b) = b) (hd : ∀ b ∈ ds, chr (nB b) = b) (e : bs.map nB = ds.map nB) : bs = ds := by
  have e2 : (bs.map nB).map chr = (ds.map nB).map chr := by rw [e]
  rw [List.map_map, List.map_map] at e2
  have i1 : bs.map (chr ∘ nB) = bs := by
    conv => rhs; rw [← List.map_id bs]
    exact List.map_congr_left (fun b q => hb b q)
  have i2 : ds.map (chr ∘ nB) = ds := by
    conv => rhs; rw [← List.map_id ds]
    exact List.map_congr_left (fun b q => hd b q)
  rw [i1, i2] at e2
  exact e2
theorem k29 {r : Option Nat} {p : Int32 × zY} (hR : Rep Mm h Y) (e : c29 n a r Y = some p) : ∃ kh : zH, f29 n a r h = some (p.1, kh) ∧ Rep Mm kh p.2 := by
  unfold c29 at e
  replace e := zbnd e
  obtain ⟨b, rfl, e⟩ := e
  split at e
  · rename_i bs ds h0 h1
    split at e
    · rename_i hb
      cases e
      simp only [Bool.and_eq_true] at hb
      obtain ⟨⟨g1, g2⟩, g3⟩ := hb
      have g3 := Nat.le_of_ble_eq_true g3
      obtain ⟨⟨u, u1, u2, u3⟩, u4, u5⟩ := rep_STR hR h0
      obtain ⟨⟨v, v1, v2, v3⟩, v4, v5⟩ := rep_STR hR h1
      refine ⟨h, ?_, hR⟩
      unfold f29
      refine bnd_eq (x := decide (a = b)) (by unfold rEq zreq va_rf; dsimp only; rw [g1, g2]; rfl) ?_
      by_cases q : a = b
      · subst q
        rw [h0] at h1
        cases h1
        rw [if_pos (by simp), if_pos rfl]
      · rw [if_neg (by simpa using q)]
        refine bnd_eq (x := (1 : Int32)) ?_ ?_
        · unfold iO zCa va_rf
          dsimp only
          rw [v1]
          rfl
        rw [if_neg (by decide)]
        refine zgd_eq ?_ ?_
        · unfold kC zCa va_rf
          dsimp only
          rw [v1]
          rfl
        rw [if_neg (by decide)]
        refine bnd_eq (gI_ob u1 rfl) ?_
        refine bnd_eq rfl ?_
        refine bnd_eq (gI_ob v1 rfl) ?_
        rw [if_pos rfl]
        unfold b29_36
        refine bnd_eq (gR_ob (v := some u) u1 rfl) ?_
        refine bnd_eq rfl ?_
        refine bnd_eq (gR_ob (v := some v) v1 rfl) ?_
        have e30 : f30 n (some u) (some v) h = some (if bs.map nB = ds.map nB then 1 else 0, h) := by
          unfold f30
          refine bnd_eq rfl ?_
          refine bnd_eq (aN_ar u2) ?_
          refine bnd_eq rfl ?_
          refine bnd_eq (aN_ar v2) ?_
          rw [List.length_map, List.length_map, List.length_map, List.length_map]
          by_cases ql : bs.length = ds.length
          · rw [if_pos (by rw [ql])]
            have := f30_l (n := n) u2 v2 (by rw [List.length_map, List.length_map]; exact ql) (by omega) n 0 (by rw [List.length_map]; omega) (by omega)
            rw [List.drop_zero, List.drop_zero] at this
            exact this
          · rw [if_neg (by rw [nI_eq (by omega) (by omega)]; exact ql), if_neg]
            intro z
            have := congrArg List.length z
            rw [List.length_map, List.length_map] at this
            exact ql this
        by_cases qe : bs = ds
        · rw [if_pos (by rw [qe])] at e30
          refine bnd_eq e30 ?_
          rw [if_pos qe, if_neg (show ¬ (1 : Int32) = 0 by decide)]
        · rw [if_neg (fun z => qe (nB_inj u4 v4 z))] at e30
          refine bnd_eq e30 ?_
          rw [if_neg qe, if_pos (show (0 : Int32) = 0 from rfl)]
    · cases e
  · cases e
end
end ZJD

/-! THE START, third text: the fixed objects are apart -/
section ZSTB
def zdifv : List Value → List Value → Bool
  | .int a :: l, .int b :: r => !decide (a = b) || zdifv l r
  | [], _ :: _ => true
  | _ :: _, [] => true
  | _, _ => false
theorem zdifv_ne {ad : List Nat} : ∀ (v1 v2 ws : List Value), zdifv v1 v2 = true → zrs ad v1 ws → zrs ad v2 ws → False := by
  intro v1
  induction v1 with
  | nil =>
    intro v2 ws h h1 h2
    cases v2 with
    | nil => cases h
    | cons b r =>
      obtain ⟨w, ws', e, -, -⟩ := h2
      rw [show ws = [] from h1] at e
      cases e
  | cons a l ih =>
    intro v2 ws h h1 h2
    obtain ⟨w, ws', e, h3, h4⟩ := h1
    cases v2 with
    | nil =>
      rw [show ws = [] from h2] at e
      cases e
    | cons b r =>
      obtain ⟨w2, ws2, e2, h5, h6⟩ := h2
      rw [e] at e2
      cases e2
      cases a <;> cases b <;> first
        | (rename_i x y
           rw [zdifv, Bool.or_eq_true, Bool.not_eq_true', decide_eq_false_iff_not] at h
           rcases h with h | h
           · have h3 : w = .int x := h3
             have h5 : w = .int y := h5
             rw [h3] at h5
             exact h (Value.int.inj h5)
           · exact ih r ws' h h4 h6)
        | (cases h; done)
def zhomI (vs : List Value) : Bool := vs.all (fun v => match v with | .int _ => true | _ => false)
def zhomR (vs : List Value) : Bool := vs.all (fun v => match v with | .ref _ => true | _ => false)
def zisA (p : Nat) : Bool := match zg zroL (p - 1) with
  | some (.inl _) => Nat.ble 1 p
  | _ => false
/-- two fields of an object: a number and a reference -/
def zmix (fs : List Value) : Bool := match fs with
  | [.int _, .ref _] => true
  | [.ref _, .int _] => true
  | _ => false
def zfdif (f1 f2 : List Value) : Bool := match f1, f2 with
  | .int a :: _, .int b :: _ => !decide (a = b)
  | .ref p :: _, .ref q :: _ => !Nat.beq p q && (zisA p && zisA q)
  | _, _ => false
def zapB (o1 o2 : zO) : Bool := match o1, o2 with
  | .inl (t1, v1), .inl (t2, v2) => (Nat.ble t1 21 && (Nat.ble t2 21 && !Nat.beq t1 t2)) || zdifv v1 v2
  | .inl (_, v), .inr (_, f) => (zhomI v || zhomR v) && zmix f
  | .inr (_, f), .inl (_, v) => (zhomI v || zhomR v) && zmix f
  | .inr (c1, f1), .inr (c2, f2) => (!Nat.beq c1 c2 && (Nat.ble c1 15 && Nat.ble c2 15)) || (Nat.beq c1 c2 && zfdif f1 f2)
theorem zaty_ne : ∀ t1, t1 < 22 → ∀ t2, t2 < 22 → t1 ≠ t2 → zaty zcnm t1 ≠ zaty zcnm t2 := by decide +kernel
theorem zcnm_ne : ∀ t1, t1 < 16 → ∀ t2, t2 < 16 → t1 ≠ t2 → zcnm t1 ≠ zcnm t2 := by decide +kernel
def zpw {α : Type} (P : α → α → Bool) : List α → Bool
  | [] => true
  | a :: l => l.all (P a) && zpw P l
theorem zpw_get {α : Type} {P : α → α → Bool} : ∀ {l : List α} {i j : Nat} {a b : α}, zpw P l = true → zg l i = some a → zg l j = some b → i < j → P a b = true
  | [], i, j, a, b, h, hi, hj, hij => by cases hi
  | c :: l, 0, j + 1, a, b, h, hi, hj, hij => by
    cases hi
    rw [zpw, Bool.and_eq_true] at h
    exact List.all_eq_true.mp h.1 b (zg_mem hj)
  | c :: l, i + 1, j + 1, a, b, h, hi, hj, hij => by
    rw [zpw, Bool.and_eq_true] at h
    exact zpw_get h.2 hi hj (by omega)
  | c :: l, i, 0, a, b, h, hi, hj, hij => absurd hij (Nat.not_lt_zero i)
theorem zpw_ro : zpw zapB zroL = true := by decide +kernel
variable {s : State} {D : va_G} {ad : List Nat}
theorem zap_arr {cell : Cell} {t1 t2 : Nat} {v1 v2 : List Value} (h1 : zob D zclL zcnm s ad (.inl (t1, v1)) cell) (h2 : zob D zclL zcnm s ad (.inl (t2, v2)) cell) (h : zapB (.inl (t1, v1)) (.inl (t2, v2)) = true) : False := by
  obtain ⟨-, ⟨-, k, hk, comp, hkind⟩, h3⟩ := h1
  obtain ⟨-, ⟨-, k', hk', comp', hkind'⟩, h4⟩ := h2
  rw [zapB, Bool.or_eq_true, Bool.and_eq_true, Bool.and_eq_true, Bool.not_eq_true'] at h
  rcases h with ⟨ha, hb, hc⟩ | h
  · cases Option.some.inj (hk.symm.trans hk')
    have e := hkind.symm.trans hkind'
    have ha := Nat.le_of_ble_eq_true ha
    have hb := Nat.le_of_ble_eq_true hb
    refine zaty_ne t1 (by omega) t2 (by omega) (fun q => ?_) (by injection e)
    rw [q] at hc
    rw [Nat.beq_refl] at hc
    cases hc
  · exact zdifv_ne _ _ _ h h3 h4
theorem zrs_homI {ad : List Nat} : ∀ {vs ws : List Value}, zhomI vs = true → zrs ad vs ws → ∀ w ∈ ws, ∃ x, w = .int x
  | [], ws, _, h, w, hw => by rw [show ws = [] from h] at hw; cases hw
  | v :: vs, ws, hh, ⟨u, ws', e, h1, h2⟩, w, hw => by
    rw [zhomI, List.all_cons, Bool.and_eq_true] at hh
    rw [e] at hw
    rcases List.mem_cons.mp hw with rfl | hw
    · cases v <;> first | exact ⟨_, h1⟩ | (cases hh.1; done)
    · exact zrs_homI hh.2 h2 w hw
theorem zrs_homR {ad : List Nat} : ∀ {vs ws : List Value}, zhomR vs = true → zrs ad vs ws → ∀ w ∈ ws, ∃ x, w = .ref x
  | [], ws, _, h, w, hw => by rw [show ws = [] from h] at hw; cases hw
  | v :: vs, ws, hh, ⟨u, ws', e, h1, h2⟩, w, hw => by
    rw [zhomR, List.all_cons, Bool.and_eq_true] at hh
    rw [e] at hw
    rcases List.mem_cons.mp hw with rfl | hw
    · cases v <;> first | (obtain ⟨a, -, h3⟩ := h1; exact ⟨a, h3⟩) | (cases hh.1; done)
    · exact zrs_homR hh.2 h2 w hw
theorem zap_mix {cell : Cell} {t ci : Nat} {vs fs : List Value} (h1 : zob D zclL zcnm s ad (.inl (t, vs)) cell) (h2 : zob D zclL zcnm s ad (.inr (ci, fs)) cell) (h : ((zhomI vs || zhomR vs) && zmix fs) = true) : False := by
  obtain ⟨-, -, h3⟩ := h1
  obtain ⟨-, -, -, r, -, -, h4⟩ := h2
  rw [Bool.and_eq_true, Bool.or_eq_true] at h
  obtain ⟨ha, hb⟩ := h
  have hI : ∃ (k : Nat) (x : Int32), cell.slots[k]? = some (Value.int x) := by
    unfold zmix at hb
    split at hb
    · obtain ⟨w, q1, q2⟩ := h4 0 _ rfl
      exact ⟨_, _, by rw [q1, show w = _ from q2]⟩
    · obtain ⟨w, q1, q2⟩ := h4 1 _ rfl
      exact ⟨_, _, by rw [q1, show w = _ from q2]⟩
    · cases hb
  have hR : ∃ (k x : Nat), cell.slots[k]? = some (Value.ref x) := by
    unfold zmix at hb
    split at hb
    · obtain ⟨w, q1, a, -, q2⟩ := h4 1 _ rfl
      exact ⟨_, a, by rw [q1, q2]⟩
    · obtain ⟨w, q1, a, -, q2⟩ := h4 0 _ rfl
      exact ⟨_, a, by rw [q1, q2]⟩
    · cases hb
  rcases ha with ha | ha
  · obtain ⟨k, x, q⟩ := hR
    obtain ⟨y, hy⟩ := zrs_homI ha h3 _ (List.mem_of_getElem? (i := k) (by rw [Array.getElem?_toList]; exact q))
    cases hy
  · obtain ⟨k, x, q⟩ := hI
    obtain ⟨y, hy⟩ := zrs_homR ha h3 _ (List.mem_of_getElem? (i := k) (by rw [Array.getElem?_toList]; exact q))
    cases hy
theorem zI_of (hlen : ad.length = 139) (hKn : ∀ ci r, zg zclL ci = some r → zKn D s ci r) (hP : ∀ k o, zg zroL k = some o → zPo D s ad k o) : zI 139 ad := by
  have get : ∀ i a, 1 ≤ i → zg ad i = some a → ∃ o cell, zg zroL (i - 1) = some o ∧ s.heap[a]? = some cell ∧ zob D zclL zcnm s ad o cell := by
    intro i a hi ha
    have h1 := zg_lt ha
    obtain ⟨o, ho⟩ := zg_of_lt (l := zroL) (n := i - 1) (by show i - 1 < 138; omega)
    obtain ⟨a', cell, h2, h3, h4⟩ := hP _ o ho
    rw [show i - 1 + 1 = i by omega, ha] at h2
    cases h2
    exact ⟨o, cell, ho, h3, h4⟩
  have keyA : ∀ i j a, 1 ≤ i → i < j → zisA i = true → zisA j = true → zg ad i = some a → zg ad j = some a → False := by
    intro i j a h1 h2 hA hB hi hj
    obtain ⟨o1, c1, p1, p2, p3⟩ := get i a h1 hi
    obtain ⟨o2, c2, q1, q2, q3⟩ := get j a (by omega) hj
    cases Option.some.inj (p2.symm.trans q2)
    have hb := zpw_get zpw_ro p1 q1 (by omega)
    unfold zisA at hA hB
    rw [p1] at hA
    rw [q1] at hB
    rcases o1 with ⟨t1, v1⟩ | x1
    · rcases o2 with ⟨t2, v2⟩ | x2
      · exact zap_arr p3 q3 hb
      · cases hB
    · cases hA
  have key : ∀ i j a, 1 ≤ i → i < j → zg ad i = some a → zg ad j = some a → False := by
    intro i j a h1 h2 hi hj
    obtain ⟨o1, c1, p1, p2, p3⟩ := get i a h1 hi
    obtain ⟨o2, c2, q1, q2, q3⟩ := get j a (by omega) hj
    cases Option.some.inj (p2.symm.trans q2)
    have hb := zpw_get zpw_ro p1 q1 (by omega)
    rcases o1 with ⟨t1, v1⟩ | ⟨k1, f1⟩
    · rcases o2 with ⟨t2, v2⟩ | ⟨k2, f2⟩
      · exact zap_arr p3 q3 hb
      · exact zap_mix p3 q3 hb
    · rcases o2 with ⟨t2, v2⟩ | ⟨k2, f2⟩
      · exact zap_mix q3 p3 hb
      · rw [zapB, Bool.or_eq_true, Bool.and_eq_true, Bool.and_eq_true, Bool.and_eq_true, Bool.not_eq_true'] at hb
        obtain ⟨-, -, e1, r1, w1, w2, w3⟩ := p3
        obtain ⟨-, -, e2, r2, y1, y2, y3⟩ := q3
        rcases hb with ⟨hne, ha, hb⟩ | ⟨heq, hd⟩
        · have ha := Nat.le_of_ble_eq_true ha
          have hb := Nat.le_of_ble_eq_true hb
          obtain ⟨-, d1, kv1, d2, -⟩ := hKn _ _ w1
          obtain ⟨-, d3, kv2, d4, -⟩ := hKn _ _ y1
          have n1 := zcl_nm k1 (by omega)
          have n2 := zcl_nm k2 (by omega)
          rw [w1] at n1
          rw [y1] at n2
          have n1 : r1.1 = zcnm k1 := Option.some.inj n1
          have n2 : r2.1 = zcnm k2 := Option.some.inj n2
          refine zcnm_ne k1 (by omega) k2 (by omega) (fun q => ?_) ?_
          · rw [q, Nat.beq_refl] at hne
            cases hne
          · obtain ⟨kA, g1, g2⟩ := Vm.findClass_spec d1
            obtain ⟨kB, g3, g4⟩ := Vm.findClass_spec d3
            rw [← e1] at g1
            rw [← e2] at g3
            cases Option.some.inj (g1.symm.trans g3)
            rw [← n1, ← n2, ← g2, ← g4]
        · cases Nat.eq_of_beq_eq_true heq
          unfold zfdif at hd
          split at hd
          · rename_i a1 l1 b1 l2
            rw [Bool.not_eq_true', decide_eq_false_iff_not] at hd
            obtain ⟨u1, v1, v2⟩ := w3 0 _ rfl
            obtain ⟨u2, v3, v4⟩ := y3 0 _ rfl
            rw [v1] at v3
            cases v3
            have v2 : u1 = .int a1 := v2
            have v4 : u1 = .int b1 := v4
            rw [v2] at v4
            exact hd (Value.int.inj v4)
          · rename_i p l1 q l2
            rw [Bool.and_eq_true, Bool.and_eq_true, Bool.not_eq_true'] at hd
            obtain ⟨u1, v1, x1, v2, rfl⟩ := w3 0 _ rfl
            obtain ⟨u2, v3, x2, v4, rfl⟩ := y3 0 _ rfl
            rw [v1] at v3
            cases v3
            have hp : 1 ≤ p := by
              have := hd.2.1
              unfold zisA at this
              split at this
              · exact Nat.le_of_ble_eq_true this
              · cases this
            have hq : 1 ≤ q := by
              have := hd.2.2
              unfold zisA at this
              split at this
              · exact Nat.le_of_ble_eq_true this
              · cases this
            rcases Nat.lt_trichotomy p q with g | g | g
            · exact keyA p q _ hp g hd.2.1 hd.2.2 v2 v4
            · rw [g, Nat.beq_refl] at hd
              cases hd.1
            · exact keyA q p _ hq g hd.2.2 hd.2.1 v4 v2
          · cases hd
  intro i j a hi hj hc
  have h1 := zg_lt hi
  have h2 := zg_lt hj
  have hc : 1 ≤ i ∧ 1 ≤ j := by
    rcases hc with hc | hc | hc
    · exact hc
    · omega
    · omega
  rcases Nat.lt_trichotomy i j with g | g | g
  · exact absurd (key i j a hc.1 g hi hj) (fun q => q)
  · exact g
  · exact absurd (key j i a hc.2 g hj hi) (fun q => q)
end ZSTB

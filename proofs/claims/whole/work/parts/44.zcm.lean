/-! THE ABSTRACT HEAP: objects, arrays, lists (what they hold, their room), strings (their bytes) -/
section ZCM
abbrev yO : Type := (Nat × List Value) ⊕ ((Nat × List Value) ⊕ ((List Nat × Nat) ⊕ List Int32))
abbrev oB (c : Nat) (fs : List Value) : yO := .inl (c, fs)
abbrev oA (t : Nat) (vs : List Value) : yO := .inr (.inl (t, vs))
abbrev oL (xs : List Nat) (cap : Nat) : yO := .inr (.inr (.inl (xs, cap)))
abbrev oS (bs : List Int32) : yO := .inr (.inr (.inr bs))
abbrev zY : Type := (Nat → Option yO) × Nat × Nat × Nat
def yu (Y : zY) (a : Nat) (o : Option yO) : zY := (fun i => if i = a then o else Y.1 i, Y.2)
theorem yu_1 {Y : zY} {a i : Nat} {o : Option yO} : (yu Y a o).1 i = if i = a then o else Y.1 i := rfl
theorem yu_2 {Y : zY} {a : Nat} {o : Option yO} : (yu Y a o).2 = Y.2 := rfl
/-- a new cell, with c slots -/
def ya (Y : zY) (o : yO) (c : Nat) : zY := (fun i => if i = Y.2.1 then some o else Y.1 i, Y.2.1 + 1, Y.2.2.1 + 1, Y.2.2.2 + c)
def yV (Y : zY) (a ci k : Nat) : Option Value := match Y.1 a with
  | some (.inl (c, fs)) => match Nat.beq c ci with
    | true => zg fs k
    | false => none
  | _ => none
def yI (Y : zY) (a ci k : Nat) : Option Int32 := oI (yV Y a ci k)
def yJ (Y : zY) (a ci k : Nat) : Option Int64 := oJ (yV Y a ci k)
def yR (Y : zY) (a ci k : Nat) : Option (Option Nat) := oR (yV Y a ci k)
def yP (Y : zY) (a ci k : Nat) (v : Value) : Option zY := match Y.1 a with
  | some (.inl (c, fs)) => match Nat.beq c ci && Nat.ble zn0 a && zfit (zty ci k) v with
    | true => match zg fs k with
      | some _ => some (yu Y a (some (oB c (zs fs k v))))
      | none => none
    | false => none
  | _ => none
def yN (Y : zY) (ci n : Nat) : zY := ya Y (oB ci (zdf ci)) n
def yA (Y : zY) (c : Nat) (j : Int32) : Option zY := match !decide (j < 0) && Nat.ble j.toNatClampNeg 65536 && Nat.ble c 4 with
  | true => some (ya Y (oA c (List.replicate j.toNatClampNeg (zdef c))) j.toNatClampNeg)
  | false => none
def yW (Y : zY) (ci : Nat) (j : Int32) : Option zY := match !decide (j < 0) && Nat.ble j.toNatClampNeg 65536 with
  | true => some (ya Y (oA (ci + 5) (List.replicate j.toNatClampNeg .null)) j.toNatClampNeg)
  | false => none
def yL (Y : zY) (a : Nat) : Option Int32 := match Y.1 a with
  | some (.inr (.inl (_, vs))) => some (nI vs.length)
  | _ => none
def yal (ok : Nat → Bool) (Y : zY) (a : Nat) (j : Int32) : Option Value := match Y.1 a with
  | some (.inr (.inl (ty, vs))) => match ok ty && !decide (j < 0) with
    | true => zg vs j.toNatClampNeg
    | false => none
  | _ => none
def yaI (Y : zY) (a : Nat) (j : Int32) : Option Int32 := oI (yal (fun ty => Nat.beq ty 0) Y a j)
def yaB (Y : zY) (a : Nat) (j : Int32) : Option Int32 := oI (yal (fun ty => Nat.beq ty 1 || Nat.beq ty 2) Y a j)
def yaC (Y : zY) (a : Nat) (j : Int32) : Option Int32 := oI (yal (fun ty => Nat.beq ty 3) Y a j)
def yaJ (Y : zY) (a : Nat) (j : Int32) : Option Int64 := oJ (yal (fun ty => Nat.beq ty 4) Y a j)
def yaR (Y : zY) (a : Nat) (j : Int32) : Option (Option Nat) := oR (yal (fun ty => Nat.ble 5 ty) Y a j)
def ysA (Y : zY) (ty : Nat) (x : Value) : Option Value := match ty, x with
  | _ + 5, .null => some .null
  | n + 5, .ref k => match Y.1 k with
    | some (.inl (ci, _)) => match zasg ci n with
      | true => some (.ref k)
      | false => none
    | _ => none
  | _, _ => none
def yS (ok : Nat → Value → Option Value) (Y : zY) (a : Nat) (j : Int32) (v : Value) : Option zY := match Y.1 a with
  | some (.inr (.inl (ty, vs))) => match ok ty v with
    | some y => match Nat.ble zn0 a && !decide (j < 0) with
      | true => match zg vs j.toNatClampNeg with
        | some _ => some (yu Y a (some (oA ty (zs vs j.toNatClampNeg y))))
        | none => none
      | false => none
    | none => none
  | _ => none
def ykC (Y : zY) (r : Option Nat) (k : Nat) (_ : Nat) : Bool := match r with
  | none => true
  | some a => match Y.1 a with
    | some (.inl (ci, _)) => zasg ci k
    | _ => false
def yisO (Y : zY) (a n : Nat) : Bool := match Y.1 a with
  | some (.inl (ci, _)) => Nat.beq ci n
  | some (.inr (.inr (.inl _))) => Nat.beq 14 n
  | some (.inr (.inr (.inr _))) => Nat.beq 12 n
  | _ => false
def ynt (Y : zY) (k0 : Nat) (sp : Int32) (k1 : Nat) (dp n : Int32) : Option zY := match Y.1 k0, Y.1 k1 with
  | some (.inr (.inl (t0, v0))), some (.inr (.inl (t1, v1))) => match Nat.beq t0 1 && Nat.beq t1 1 && (Nat.ble zn0 k1 && !decide (sp < 0) && !decide (dp < 0) && !decide (n < 0) && Nat.ble (sp.toNatClampNeg + n.toNatClampNeg) v0.length && Nat.ble (dp.toNatClampNeg + n.toNatClampNeg) v1.length && ((v0.drop sp.toNatClampNeg).take n.toNatClampNeg).all zelB) with
    | true => some (yu Y k1 (some (oA 1 (zcp v0 v1 sp.toNatClampNeg dp.toNatClampNeg n.toNatClampNeg))))
    | false => none
  | _, _ => none
def thY (Y : zY) : zY := (Y.1, Y.2.1, Y.2.2.1 + 1, Y.2.2.2 + 6)
/-- an ArrayList that was just made becomes a list -/
def yHL (Y : zY) (a : Nat) : Option zY := match Y.1 a with
  | some (.inl (c, [.int _, .ref d, .int z])) => match Nat.beq c 14 && Nat.beq d 48 && z == 0 with
    | true => some (yu Y a (some (oL [] 0)))
    | false => none
  | _ => none
def byV (v : Value) : Bool := match v with
  | .int x => decide ((chr x).toInt8.toInt32 = x) && decide (0 ≤ chr x) && decide (chr x < 256)
  | _ => false
/-- a String that was just made becomes a string -/
def yHS (Y : zY) (a : Nat) : Option zY := match Y.1 a with
  | some (.inl (c, [.ref d, .int z])) => match Y.1 d with
    | some (.inr (.inl (t, vs))) => match Nat.beq c 12 && z == 0 && Nat.beq t 1 && vs.all byV && Nat.ble vs.length 65536 with
      | true => some (yu (yu Y d none) a (some (oS (vs.map fun v => chr (vI v)))))
      | false => none
    | _ => none
  | _ => none
def ycap (cap : Nat) : Nat := if cap = 0 then 10 else cap + max 1 (cap / 2)
def yAdd (Y : zY) (a x : Nat) : Option zY := match Y.1 a, Y.1 x with
  | some (.inr (.inr (.inl (xs, cap)))), some (.inl (c, _)) => match zasg c 16 && Nat.ble zn0 a && Nat.ble cap 500 with
    | true => match decide (xs.length < cap) with
      | true => some (yu Y a (some (oL (xs ++ [x]) cap)))
      | false => some ((yu Y a (some (oL (xs ++ [x]) (ycap cap)))).1, Y.2.1 + 1, Y.2.2.1 + 1, Y.2.2.2 + ycap cap)
    | false => none
  | _, _ => none
def c86 (_ : Nat) (y0 : Nat) (y1 : Option Nat) (Y : zY) : Option (Int32 × zY) := y1.bind fun x => (yAdd Y y0 x).bind fun Y1 => some (1, Y1)
def c68 (_ : Nat) (y0 : Nat) (Y : zY) : Option (Int32 × zY) := match Y.1 y0 with
  | some (.inr (.inr (.inl (xs, _)))) => some (nI xs.length, Y)
  | _ => none
def c74 (_ : Nat) (y0 : Nat) (j : Int32) (Y : zY) : Option (Option Nat × zY) := match Y.1 y0 with
  | some (.inr (.inr (.inl (xs, _)))) => match decide (j < 0) with
    | true => none
    | false => (zg xs j.toNatClampNeg).bind fun x => some (some x, Y)
  | _ => none
def c55 (_ : Nat) (y0 : Nat) (Y : zY) : Option (Int32 × zY) := match Y.1 y0 with
  | some (.inr (.inr (.inr bs))) => some (nI bs.length, Y)
  | _ => none
def c59 (_ : Nat) (y0 : Nat) (j : Int32) (Y : zY) : Option (Int32 × zY) := match Y.1 y0 with
  | some (.inr (.inr (.inr bs))) => (rd bs j).bind fun x => some (x, Y)
  | _ => none
def c29 (n : Nat) (y0 : Nat) (y1 : Option Nat) (Y : zY) : Option (Int32 × zY) := y1.bind fun b => match Y.1 y0, Y.1 b with
  | some (.inr (.inr (.inr bs))), some (.inr (.inr (.inr ds))) => match Nat.ble 1 y0 && Nat.ble 1 b && Nat.ble (bs.length + 1) n with
    | true => some (if bs = ds then 1 else 0, Y)
    | false => none
  | _, _ => none
/-- a byte as it is stored -/
abbrev nB (x : Int32) : Int32 := x.toInt8.toInt32
def celO (h : zH) (own : Nat → Nat) (a : Nat) (o : yO) : Prop := match o with
  | .inl (c, fs) => zg h.1 a = some (.inr (c, fs))
  | .inr (.inl (t, vs)) => zg h.1 a = some (.inl (t, vs))
  | .inr (.inr (.inl (xs, cap))) => (∃ mc : Int32, zg h.1 a = some (.inr (14, [.int mc, .ref (own a), .int (nI xs.length)]))) ∧ zg h.1 (own a) = some (.inl (21, xs.map (fun x => Value.ref x) ++ List.replicate (cap - xs.length) .null)) ∧ xs.length ≤ cap ∧ cap ≤ 30000 ∧ (cap = 0 → own a = 48) ∧ (cap ≠ 0 → 139 ≤ own a)
  | .inr (.inr (.inr bs)) => zg h.1 a = some (.inr (12, [.ref (own a), .int 0])) ∧ zg h.1 (own a) = some (.inl (1, zI32 (bs.map nB))) ∧ bs.length ≤ 65536 ∧ ∀ b ∈ bs, chr (nB b) = b
def hid (o : yO) : Bool := match o with
  | .inl _ => false
  | .inr (.inl _) => false
  | _ => true
def visO (o : yO) : Option zO := match o with
  | .inl (c, fs) => some (.inr (c, fs))
  | .inr (.inl (t, vs)) => some (.inl (t, vs))
  | _ => none
def rgn (a : Nat) : Prop := 159 ≤ a ∧ a ≤ 230
def RepO (Mm : Nat → Option zO) (own : Nat → Nat) (h : zH) (Y : zY) : Prop :=
  Y.2.1 = h.1.length ∧ Y.2.2 = h.2 ∧ 231 ≤ h.1.length ∧
  (∀ a, a < 139 ∨ rgn a → zg h.1 a = Mm a) ∧
  (∀ a o, Y.1 a = some o → celO h own a o ∧ ¬ rgn a) ∧
  (∀ a o, Y.1 a = some o → hid o = true → Y.1 (own a) = none ∧ ¬ rgn (own a)) ∧
  (∀ a b xs ca ys cb, Y.1 a = some (oL xs ca) → Y.1 b = some (oL ys cb) → ca ≠ 0 → own a = own b → a = b) ∧
  (∀ a xs cap x, Y.1 a = some (oL xs cap) → x ∈ xs → ∃ c fs, Y.1 x = some (oB c fs) ∧ zasg c 16 = true) ∧
  Y.1 48 = none ∧ zg h.1 48 = some (.inl (21, []))
def Rep (Mm : Nat → Option zO) (h : zH) (Y : zY) : Prop := ∃ own, RepO Mm own h Y
section
variable {Mm : Nat → Option zO} {own : Nat → Nat} {h h1 : zH} {Y Y1 : zY} {a : Nat} {o o' : yO} {z : zO}
theorem celO_vis (hv : visO o = some z) : celO h own a o ↔ zg h.1 a = some z := by
  match o, hv with
  | .inl (c, fs), hv => cases hv; exact Iff.rfl
  | .inr (.inl (t, vs)), hv => cases hv; exact Iff.rfl
theorem hid_vis (hv : visO o = some z) : hid o = false := by
  match o, hv with
  | .inl (c, fs), hv => rfl
  | .inr (.inl (t, vs)), hv => rfl
theorem celO_tr {own' : Nat → Nat} (hc : celO h own a o) (e1 : zg h1.1 a = zg h.1 a) (e2 : hid o = true → zg h1.1 (own a) = zg h.1 (own a)) (e3 : own' a = own a) : celO h1 own' a o := by
  match o, hc, e2 with
  | .inl (c, fs), hc, e2 => exact e1.trans hc
  | .inr (.inl (t, vs)), hc, e2 => exact e1.trans hc
  | .inr (.inr (.inl (xs, cap))), hc, e2 =>
    unfold celO
    rw [e1, e3, e2 rfl]
    exact hc
  | .inr (.inr (.inr bs)), hc, e2 =>
    unfold celO
    rw [e1, e3, e2 rfl]
    exact hc
theorem celO_lt (hc : celO h own a o) : a < h.1.length := by
  match o, hc with
  | .inl (c, fs), hc => exact zg_lt hc
  | .inr (.inl (t, vs)), hc => exact zg_lt hc
  | .inr (.inr (.inl (xs, cap))), ⟨⟨mc, hc⟩, _⟩ => exact zg_lt hc
  | .inr (.inr (.inr bs)), ⟨hc, _⟩ => exact zg_lt hc
theorem celO_olt (hc : celO h own a o) (hh : hid o = true) : own a < h.1.length := by
  match o, hc, hh with
  | .inr (.inr (.inl (xs, cap))), ⟨_, hc, _⟩, _ => exact zg_lt hc
  | .inr (.inr (.inr bs)), ⟨_, hc, _⟩, _ => exact zg_lt hc
theorem rep_upd (hR : RepO Mm own h Y) (ha : Y.1 a = some o) (hn : 139 ≤ a) (hv : visO o = some z) {z' : zO} (hv' : visO o' = some z') (hc : ∀ c fs, o = oB c fs → ∃ fs', o' = oB c fs') : RepO Mm own (zs h.1 a z', h.2) (yu Y a (some o')) := by
  obtain ⟨r1, r2, r3, r4, r5, r6, r7, r8, r9, r10⟩ := hR
  have hra := (r5 a o ha).2
  have hlt := celO_lt (r5 a o ha).1
  have ne : ∀ b ob, Y.1 b = some ob → hid ob = true → own b ≠ a := by
    intro b ob hb hh q
    rw [← q, (r6 b ob hb hh).1] at ha
    cases ha
  have a48 : 48 ≠ a := by omega
  refine ⟨by rw [yu_2, zs_length]; exact r1, r2, by rw [zs_length]; exact r3, ?_, ?_, ?_, ?_, ?_, ?_, ?_⟩
  · intro b hb
    show zg (zs h.1 a z') b = _
    rw [zg_zs_ne, r4 b hb]
    intro q
    subst q
    rcases hb with hb | hb
    · omega
    · exact hra hb
  · intro b ob hb
    rw [yu_1] at hb
    by_cases q : b = a
    · rw [if_pos q] at hb
      cases hb
      subst q
      refine ⟨(celO_vis hv').mpr ?_, hra⟩
      exact zg_zs_eq hlt
    · rw [if_neg q] at hb
      refine ⟨celO_tr (r5 b ob hb).1 (zg_zs_ne (fun e => q e.symm)) (fun hh => zg_zs_ne (fun e => ne b ob hb hh e.symm)) rfl, (r5 b ob hb).2⟩
  · intro b ob hb hh
    rw [yu_1] at hb
    by_cases q : b = a
    · rw [if_pos q] at hb
      cases hb
      rw [hid_vis hv'] at hh
      cases hh
    · rw [if_neg q] at hb
      rw [yu_1, if_neg (ne b ob hb hh)]
      exact r6 b ob hb hh
  · intro b b' xs ca ys cb hb hb' hca he
    rw [yu_1] at hb hb'
    by_cases q : b = a
    · rw [if_pos q] at hb
      cases hb
      cases hv'
    · rw [if_neg q] at hb
      by_cases q' : b' = a
      · rw [if_pos q'] at hb'
        cases hb'
        cases hv'
      · rw [if_neg q'] at hb'
        exact r7 b b' xs ca ys cb hb hb' hca he
  · intro b xs cap x hb hx
    rw [yu_1] at hb
    by_cases q : b = a
    · rw [if_pos q] at hb
      cases hb
      cases hv'
    · rw [if_neg q] at hb
      obtain ⟨c, fs, h1, h2⟩ := r8 b xs cap x hb hx
      by_cases q' : x = a
      · subst q'
        rw [ha] at h1
        obtain ⟨fs', e⟩ := hc c fs (Option.some.inj h1)
        exact ⟨c, fs', by rw [yu_1, if_pos rfl, e], h2⟩
      · exact ⟨c, fs, by rw [yu_1, if_neg q']; exact h1, h2⟩
  · rw [yu_1, if_neg a48]
    exact r9
  · show zg (zs h.1 a z') 48 = _
    rw [zg_zs_ne (fun e => a48 e.symm)]
    exact r10
theorem zg_app1 {α : Type} {l : List α} {x : α} {k : Nat} (hk : k < l.length) : zg (l ++ [x]) k = zg l k := zg_appL hk
theorem zg_appN {α : Type} {l : List α} {x : α} : zg (l ++ [x]) l.length = some x := by
  rw [zg_appR (Nat.le_refl _), Nat.sub_self]
  rfl
theorem rep_app {c : Nat} (hR : RepO Mm own h Y) (hv : visO o = some z) : RepO Mm own (h.1 ++ [z], h.2.1 + 1, h.2.2 + c) (ya Y o c) := by
  obtain ⟨r1, r2, r3, r4, r5, r6, r7, r8, r9, r10⟩ := hR
  have hl : (h.1 ++ [z]).length = h.1.length + 1 := by rw [List.length_append]; rfl
  have y1 : ∀ i, (ya Y o c).1 i = if i = Y.2.1 then some o else Y.1 i := fun _ => rfl
  have nl : ∀ b ob, Y.1 b = some ob → b ≠ Y.2.1 := fun b ob hb => by rw [r1]; exact Nat.ne_of_lt (celO_lt (r5 b ob hb).1)
  refine ⟨by rw [hl, ← r1]; rfl, by rw [← r2]; rfl, by rw [hl]; omega, ?_, ?_, ?_, ?_, ?_, ?_, ?_⟩
  · intro b hb
    show zg (h.1 ++ [z]) b = _
    rw [zg_app1 (by rcases hb with hb | hb; omega; have := hb.2; omega), r4 b hb]
  · intro b ob hb
    rw [y1] at hb
    by_cases q : b = Y.2.1
    · rw [if_pos q] at hb
      cases hb
      rw [q, r1]
      refine ⟨(celO_vis hv).mpr zg_appN, fun hh => ?_⟩
      have := hh.2
      omega
    · rw [if_neg q] at hb
      have h5 := r5 b ob hb
      exact ⟨celO_tr h5.1 (zg_app1 (celO_lt h5.1)) (fun hh => zg_app1 (celO_olt h5.1 hh)) rfl, h5.2⟩
  · intro b ob hb hh
    rw [y1] at hb
    by_cases q : b = Y.2.1
    · rw [if_pos q] at hb
      cases hb
      rw [hid_vis hv] at hh
      cases hh
    · rw [if_neg q] at hb
      have h5 := celO_olt (r5 b ob hb).1 hh
      rw [y1, if_neg (by omega)]
      exact r6 b ob hb hh
  · intro b b' xs ca ys cb hb hb' hca he
    rw [y1] at hb hb'
    by_cases q : b = Y.2.1
    · rw [if_pos q] at hb
      cases hb
      cases hv
    · rw [if_neg q] at hb
      by_cases q' : b' = Y.2.1
      · rw [if_pos q'] at hb'
        cases hb'
        cases hv
      · rw [if_neg q'] at hb'
        exact r7 b b' xs ca ys cb hb hb' hca he
  · intro b xs cap x hb hx
    rw [y1] at hb
    by_cases q : b = Y.2.1
    · rw [if_pos q] at hb
      cases hb
      cases hv
    · rw [if_neg q] at hb
      obtain ⟨c, fs, h1, h2⟩ := r8 b xs cap x hb hx
      exact ⟨c, fs, by rw [y1, if_neg (nl x _ h1)]; exact h1, h2⟩
  · rw [y1, if_neg (by omega)]
    exact r9
  · show zg (h.1 ++ [z]) 48 = _
    rw [zg_app1 (by omega)]
    exact r10
theorem k_th (hR : Rep Mm h Y) : Rep Mm (thH h) (thY Y) := by
  obtain ⟨own, r1, r2, r⟩ := hR
  exact ⟨own, r1, by show (Y.2.2.1 + 1, Y.2.2.2 + 6) = (h.2.1 + 1, h.2.2 + 6); rw [r2], r⟩
theorem rep_ob {c : Nat} {fs : List Value} (hR : Rep Mm h Y) (e : Y.1 a = some (.inl (c, fs))) : zg h.1 a = some (.inr (c, fs)) := by
  obtain ⟨own, _, _, _, _, r5, _⟩ := hR
  exact (r5 a _ e).1
theorem rep_ar {c : Nat} {fs : List Value} (hR : Rep Mm h Y) (e : Y.1 a = some (.inr (.inl (c, fs)))) : zg h.1 a = some (.inl (c, fs)) := by
  obtain ⟨own, _, _, _, _, r5, _⟩ := hR
  exact (r5 a _ e).1
variable {ci k n c : Nat} {v : Value} {j : Int32}
theorem yV_some (e : yV Y a ci k = some v) : ∃ fs, Y.1 a = some (.inl (ci, fs)) ∧ zg fs k = some v := by
  unfold yV at e
  split at e
  · rename_i c fs ho
    split at e
    · rename_i hb
      rw [Nat.eq_of_beq_eq_true hb] at ho
      exact ⟨fs, ho, e⟩
    · cases e
  · cases e
theorem k_gI {x : Int32} (hR : Rep Mm h Y) (e : yI Y a ci k = some x) : gI h a ci k = some x := by
  obtain ⟨fs, e1, e2⟩ := yV_some (oI_spec e)
  exact gI_ob (rep_ob hR e1) e2
theorem k_gJ {x : Int64} (hR : Rep Mm h Y) (e : yJ Y a ci k = some x) : gJ h a ci k = some x := by
  obtain ⟨fs, e1, e2⟩ := yV_some (oJ_spec e)
  exact gJ_ob (rep_ob hR e1) e2
theorem k_gR {x : Option Nat} (hR : Rep Mm h Y) (e : yR Y a ci k = some x) : gR h a ci k = some x := by
  obtain ⟨fs, e1, e2⟩ := yV_some (oR_spec e)
  exact gR_ob (rep_ob hR e1) e2
theorem k_pF (hR : Rep Mm h Y) (e : yP Y a ci k v = some Y1) : ∃ kh : zH, pF h a ci k v = some kh ∧ Rep Mm kh Y1 := by
  have hR' := hR
  obtain ⟨own, hO⟩ := hR
  unfold yP at e
  split at e
  · rename_i c fs ho
    split at e
    · rename_i hb
      split at e
      · rename_i w hw
        cases e
        have e1 := rep_ob hR' ho
        refine ⟨(zs h.1 a (.inr (c, zs fs k v)), h.2), ?_, own, ?_⟩
        · unfold pF
          rw [e1]
          dsimp only
          rw [hb]
          dsimp only
          rw [hw]
        · simp only [Bool.and_eq_true] at hb
          exact rep_upd hO ho (Nat.le_of_ble_eq_true hb.1.2) rfl rfl (fun c' fs' q => by cases q; exact ⟨_, rfl⟩)
      · cases e
    · cases e
  · cases e
theorem k_nO {ci n : Nat} (hR : Rep Mm h Y) : Rep Mm (nO h ci n) (yN Y ci n) := by
  obtain ⟨own, hO⟩ := hR
  exact ⟨own, rep_app hO rfl⟩
theorem rep_n (hR : Rep Mm h Y) : Y.2.1 = h.1.length := by
  obtain ⟨own, r1, _⟩ := hR
  exact r1
theorem k_nA (hR : Rep Mm h Y) (e : yA Y c j = some Y1) : ∃ kh : zH, nA h c j = some kh ∧ Rep Mm kh Y1 := by
  obtain ⟨own, hO⟩ := hR
  unfold yA at e
  split at e
  · rename_i hb
    cases e
    refine ⟨(h.1 ++ [.inl (c, List.replicate j.toNatClampNeg (zdef c))], h.2.1 + 1, h.2.2 + j.toNatClampNeg), ?_, own, rep_app hO rfl⟩
    unfold nA
    rw [hb]
  · cases e
theorem k_nV (hR : Rep Mm h Y) (e : yW Y ci j = some Y1) : ∃ kh : zH, nV h ci j = some kh ∧ Rep Mm kh Y1 := by
  obtain ⟨own, hO⟩ := hR
  unfold yW at e
  split at e
  · rename_i hb
    cases e
    refine ⟨(h.1 ++ [.inl (ci + 5, List.replicate j.toNatClampNeg .null)], h.2.1 + 1, h.2.2 + j.toNatClampNeg), ?_, own, rep_app hO rfl⟩
    unfold nV
    rw [hb]
  · cases e
theorem k_aN {x : Int32} (hR : Rep Mm h Y) (e : yL Y a = some x) : aN h a = some x := by
  unfold yL at e
  split at e
  · rename_i t vs ho
    cases e
    exact aN_ar (rep_ar hR ho)
  · cases e
theorem k_al {ok : Nat → Bool} (hR : Rep Mm h Y) (e : yal ok Y a j = some v) : aL ok h a j = some v := by
  unfold yal at e
  split at e
  · rename_i t vs ho
    unfold aL
    rw [rep_ar hR ho]
    exact e
  · cases e
theorem k_aI {x : Int32} (hR : Rep Mm h Y) (e : yaI Y a j = some x) : aI h a j = some x := by
  unfold aI
  rw [k_al hR (oI_spec e)]
  rfl
theorem k_aB {x : Int32} (hR : Rep Mm h Y) (e : yaB Y a j = some x) : aB h a j = some x := by
  unfold aB
  rw [k_al hR (oI_spec e)]
  rfl
theorem k_aC {x : Int32} (hR : Rep Mm h Y) (e : yaC Y a j = some x) : aC h a j = some x := by
  unfold aC
  rw [k_al hR (oI_spec e)]
  rfl
theorem k_aJ {x : Int64} (hR : Rep Mm h Y) (e : yaJ Y a j = some x) : aJ h a j = some x := by
  unfold aJ
  rw [k_al hR (oJ_spec e)]
  rfl
theorem k_aR {x : Option Nat} (hR : Rep Mm h Y) (e : yaR Y a j = some x) : aR h a j = some x := by
  unfold aR
  rw [k_al hR (oR_spec e)]
  cases x <;> rfl
theorem k_aS {ok ok' : Nat → Value → Option Value} (hR : Rep Mm h Y) (hok : ∀ ty y, ok ty v = some y → ok' ty v = some y) (e : yS ok Y a j v = some Y1) : ∃ kh : zH, aS ok' h a j v = some kh ∧ Rep Mm kh Y1 := by
  have hR' := hR
  obtain ⟨own, hO⟩ := hR
  unfold yS at e
  split at e
  · rename_i ty vs ho
    split at e
    · rename_i y hy
      split at e
      · rename_i hb
        split at e
        · rename_i w hw
          cases e
          refine ⟨(zs h.1 a (.inl (ty, zs vs j.toNatClampNeg y)), h.2), ?_, own, ?_⟩
          · unfold aS zast
            dsimp only
            rw [rep_ar hR' ho]
            dsimp only
            rw [hok ty y hy]
            dsimp only
            rw [hb]
            dsimp only
            rw [hw]
          · simp only [Bool.and_eq_true] at hb
            exact rep_upd hO ho (Nat.le_of_ble_eq_true hb.1) rfl rfl (fun c' fs' q => by cases q)
        · cases e
      · cases e
    · cases e
  · cases e
theorem k_sI (hR : Rep Mm h Y) (e : yS zsI Y a j v = some Y1) : ∃ kh : zH, aS zsI h a j v = some kh ∧ Rep Mm kh Y1 := k_aS hR (fun _ _ q => q) e
theorem k_sB (hR : Rep Mm h Y) (e : yS zsB Y a j v = some Y1) : ∃ kh : zH, aS zsB h a j v = some kh ∧ Rep Mm kh Y1 := k_aS hR (fun _ _ q => q) e
theorem k_sC (hR : Rep Mm h Y) (e : yS zsC Y a j v = some Y1) : ∃ kh : zH, aS zsC h a j v = some kh ∧ Rep Mm kh Y1 := k_aS hR (fun _ _ q => q) e
theorem k_sJ (hR : Rep Mm h Y) (e : yS zsL Y a j v = some Y1) : ∃ kh : zH, aS zsL h a j v = some kh ∧ Rep Mm kh Y1 := k_aS hR (fun _ _ q => q) e
theorem ysA_ok {ty : Nat} {y : Value} (hR : Rep Mm h Y) (e : ysA Y ty v = some y) : zsA zasg h.1 ty v = some y := by
  unfold ysA at e
  split at e
  · cases e; rfl
  · rename_i n k
    split at e
    · rename_i ci fs ho
      split at e
      · rename_i hb
        cases e
        show (match zg h.1 k with | some (.inr (ci, _)) => _ | _ => _) = _
        rw [rep_ob hR ho]
        dsimp only
        rw [hb]
      · cases e
    · cases e
  · cases e
theorem k_sR (hR : Rep Mm h Y) (e : yS (ysA Y) Y a j v = some Y1) : ∃ kh : zH, aS (zsA zasg h.1) h a j v = some kh ∧ Rep Mm kh Y1 := k_aS hR (fun _ _ q => ysA_ok hR q) e
theorem k_kC {r : Option Nat} {k a2 : Nat} (hR : Rep Mm h Y) (e : ykC Y r k a2 = true) : kC h r k a2 = true := by
  unfold ykC at e
  cases r with
  | none => rfl
  | some a =>
    dsimp only at e
    split at e
    · rename_i ci fs ho
      unfold kC zCa va_rf
      dsimp only
      rw [rep_ob hR ho]
      dsimp only
      rw [e]
    · cases e
theorem k_isO (hR : Rep Mm h Y) (e : yisO Y a n = true) : isO h a n = true := by
  have hR' := hR
  obtain ⟨own, _, _, _, _, r5, _⟩ := hR
  unfold yisO at e
  unfold isO
  split at e
  · rename_i ci fs ho
    rw [rep_ob hR' ho]
    exact e
  · rename_i p ho
    obtain ⟨⟨⟨mc, q⟩, _⟩, _⟩ := r5 a _ ho
    rw [q]
    exact e
  · rename_i p ho
    obtain ⟨⟨q, _⟩, _⟩ := r5 a _ ho
    rw [q]
    exact e
  · cases e
theorem k_nt {k0 k1 : Nat} {sp dp y : Int32} (hR : Rep Mm h Y) (e : ynt Y k0 sp k1 dp y = some Y1) : ∃ kh : zH, nt0 h k0 sp k1 dp y = some kh ∧ Rep Mm kh Y1 := by
  have hR' := hR
  obtain ⟨own, hO⟩ := hR
  unfold ynt at e
  split at e
  · rename_i t0 v0 t1 v1 h0 h1
    split at e
    · rename_i hb
      cases e
      rw [Bool.and_eq_true, Bool.and_eq_true] at hb
      obtain ⟨⟨q0, q1⟩, q2⟩ := hb
      rw [Nat.eq_of_beq_eq_true q0] at h0
      rw [Nat.eq_of_beq_eq_true q1] at h1
      refine ⟨(zs h.1 k1 (.inl (1, zcp v0 v1 sp.toNatClampNeg dp.toNatClampNeg y.toNatClampNeg)), h.2), ?_, own, ?_⟩
      · have e3 : zNcp [.int y, .int dp, .ref k1, .int sp, .ref k0] h = some ([], (zs h.1 k1 (.inl (1, zcp v0 v1 sp.toNatClampNeg dp.toNatClampNeg y.toNatClampNeg)), h.2)) := by
          unfold zNcp
          dsimp only
          rw [rep_ar hR' h0, rep_ar hR' h1]
          simp only [q2, show Nat.ble (zcat []) 8 = true from rfl, Bool.and_true]
        unfold nt0
        rw [e3]
      · simp only [Bool.and_eq_true] at q2
        exact rep_upd hO h1 (Nat.le_of_ble_eq_true q2.1.1.1.1.1.1) rfl rfl (fun c' fs' q => by cases q)
    · cases e
  · cases e
end
section
variable {α β : Type} {P : zH → Prop}
theorem bE {o : Option α} {f : α → Option (β × zH)} {x : α} {r : β} (h : o = some x) (k : ∃ kh : zH, f x = some (r, kh) ∧ P kh) : ∃ kh : zH, o.bind f = some (r, kh) ∧ P kh := by rw [h]; exact k
theorem zE {b : Bool} {x : Option (β × zH)} {r : β} (h : b = true) (k : ∃ kh : zH, x = some (r, kh) ∧ P kh) : ∃ kh : zH, zgd b x = some (r, kh) ∧ P kh := by rw [h]; exact k
theorem iE1 {c : Prop} {d : Decidable c} {x y : Option (β × zH)} {r : β} (h : c) (k : ∃ kh : zH, x = some (r, kh) ∧ P kh) : ∃ kh : zH, (@ite _ c d x y) = some (r, kh) ∧ P kh := by rw [if_pos h]; exact k
theorem iE2 {c : Prop} {d : Decidable c} {x y : Option (β × zH)} {r : β} (h : ¬ c) (k : ∃ kh : zH, y = some (r, kh) ∧ P kh) : ∃ kh : zH, (@ite _ c d x y) = some (r, kh) ∧ P kh := by rw [if_neg h]; exact k
theorem zthEl {ρ : Type} {r : ρ} {h : zH} {k : ρ → zH → Option (β × zH)} {x : Nat → zH → Option (β × zH)} {v : β} (e : ∃ kh : zH, k r h = some (v, kh) ∧ P kh) : ∃ kh : zH, zth (.inl r, h) k x = some (v, kh) ∧ P kh := e
theorem zthEr {ρ : Type} {r : Nat} {h : zH} {k : ρ → zH → Option (β × zH)} {x : Nat → zH → Option (β × zH)} {v : β} (e : ∃ kh : zH, x r h = some (v, kh) ∧ P kh) : ∃ kh : zH, zth (.inr r, h) k x = some (v, kh) ∧ P kh := e
end
end ZCM

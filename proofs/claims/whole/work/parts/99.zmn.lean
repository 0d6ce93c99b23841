/-! THE START: the states that stand there, and the end -/
section ZMN
def s00 : St := ([], L0, [], 0, none)
theorem cv_0 {i j : Nat} {s : Nat → Int32} {hh : Int64} : cv (s, hh, rA0) i j = 0 := by
  show (zg (List.replicate (mln i) (0 : Int32)) j).getD 0 = 0
  rw [zg_eq, List.getElem?_replicate]
  split <;> rfl
theorem LN_0 : LN X0 := fun i _ => List.length_replicate
/-- the reference, made -/
theorem RSt_00 : RSt X0 s00 := by
  have hL : LN (xF X0 4 (nI 0)) := fun i _ => List.length_replicate
  have c1 : ∀ i j, cv (xF X0 4 (nI 0)) i j = 0 := fun i j => cv_0
  have c0 : ∀ i j, cv X0 i j = 0 := fun i j => cv_0
  refine ⟨0, by omega, LN_0, by decide, by decide, ⟨by decide, by show 0 ≤ 6000; omega, List.length_replicate, fun i b hb => (by cases hb), fun b hb => (by cases hb)⟩, ⟨⟨[], 0, 0, ?_, by omega⟩, ⟨LN_0, by omega, c0 9 0, by show 0 ≤ 24; omega, fun l hl => (by cases hl), fun f l hl => (by cases hl)⟩, fun i l hl => (by cases hl), rfl, rfl, fun i x hx => (by cases hx)⟩, L0_ok, ⟨by decide, by show 0 ≤ 8; omega, fun k x hx => (by cases hx)⟩, ⟨List.replicate 12 false, List.length_replicate, fun j hj => ?_⟩, by decide, (show X0.1 85 = 0 by decide)⟩
  · refine ⟨⟨c1 4 0, by show 0 ≤ 12; omega, fun k s hs => (by cases hs)⟩, ⟨c1 9 0, by show 0 ≤ 24; omega, fun k s hs => (by cases hs)⟩, ⟨c1 25 0, by show 0 ≤ 8; omega, fun k s hs => (by cases hs)⟩, ⟨c1 28 0, by show 0 ≤ 100; omega, fun k s hs => (by cases hs)⟩, ⟨c1 35 0, by show 0 ≤ 40; omega, fun k s hs => (by cases hs)⟩, c1 39 0, ⟨c1 42 0, by show 0 ≤ 100; omega, fun k s hs => (by cases hs)⟩, ?_⟩
    exact ⟨⟨hL, rfl, by omega⟩, ⟨c1 49 0, by show 0 ≤ 400; omega⟩, ⟨c1 58 0, by show 0 + 0 + 0 ≤ 0; omega⟩, ⟨by omega, 0, c1 1 0, by omega⟩, trivial, fun i x hx => (by cases hx), fun _ => False, fun i x hx => (by cases hx), fun u hu => hu.elim, fun x hx => (by cases hx), List.nodup_nil, List.nodup_nil, fun x hx => (by cases hx), fun q hq => (by cases hq), fun q hq => (by cases hq)⟩
  · rw [c0 69 j, List.getD_eq_getElem?_getD, List.getElem?_replicate, if_pos hj]
    rfl
/-- the fixed objects, seen by the class -/
def y0f (a : Nat) : Option yO := match a with
  | 0 => none
  | k + 1 => match zg zroL k with
    | some (.inr (c, fs)) => if c = 15 then some (oB 15 fs) else if fxs.elem (k + 1) = true then some (oS (cs (k + 1))) else none
    | some (.inl (t, vs)) => if 43 ≤ k ∧ k ≤ 46 then some (oA t vs) else none
    | none => none
def y0c : List yO := [oB 10 [.ref 140, .ref 142, .ref 148, .int 0], oB 8 [.ref 141, .int 0], oA 1 (List.replicate 6000 (.int 0)),
  oB 1 [.ref 143, .ref 144, .int 0, .ref 145, .ref 146, .ref 147, .int 0], oA 14 (List.replicate 8 .null), oA 14 (List.replicate 8 .null), oA 2 (List.replicate 12 (.int 0)), oA 0 (List.replicate 24 (.int 0)), oA 0 (List.replicate 5 (.int (-1))),
  oB 4 [.ref 149, .ref 150, .ref 151, .ref 152, .ref 153, .ref 154, .ref 155, .ref 156, .int 0, .int 0, .ref 157, .ref 158], oL [] 0, oL [] 0, oL [] 0, oL [] 0, oL [] 0, oL [] 0, oL [] 0, oL [] 0, oA 0 (List.replicate 24 (.int 0)), oA 0 (List.replicate 24 (.int 0))]
def Y0 : zY := (fun a => if a < 139 then y0f a else if a < 159 then zg y0c (a - 139) else if a = 231 then some (oA 4 [.long 0]) else none, 232, 93, 79319)
def RLz (z : zO) (o : yO) : Prop := visO o = some z ∨ (o = oL [] 0 ∧ z = lst0)
def PRz : List zO → List yO → Prop
  | [], [] => True
  | z :: l, o :: m => RLz z o ∧ PRz l m
  | _, _ => False
theorem PR_at : ∀ {l : List zO} {m : List yO} {i : Nat} {o : yO}, PRz l m → zg m i = some o → ∃ z, zg l i = some z ∧ RLz z o
  | [], [], i, o, _, h => by cases h
  | z :: l, o' :: m, 0, o, hp, h => by cases h; exact ⟨z, rfl, hp.1⟩
  | z :: l, o' :: m, i + 1, o, hp, h => PR_at (l := l) (m := m) hp.2 h
  | [], _ :: _, i, o, hp, h => hp.elim
  | _ :: _, [], i, o, hp, h => by cases h
theorem PR_0 : PRz clo y0c := ⟨Or.inl rfl, Or.inl rfl, Or.inl rfl, Or.inl rfl, Or.inl rfl, Or.inl rfl, Or.inl rfl, Or.inl rfl, Or.inl rfl, Or.inl rfl, Or.inr ⟨rfl, rfl⟩, Or.inr ⟨rfl, rfl⟩, Or.inr ⟨rfl, rfl⟩, Or.inr ⟨rfl, rfl⟩, Or.inr ⟨rfl, rfl⟩, Or.inr ⟨rfl, rfl⟩, Or.inr ⟨rfl, rfl⟩, Or.inr ⟨rfl, rfl⟩, Or.inl rfl, Or.inl rfl, trivial⟩
theorem zro_len : zroL.length = 138 := by decide +kernel
theorem fxs_kS : ∀ a ∈ fxs, kS a = true := by decide +kernel
theorem fxs_lt : ∀ a ∈ fxs, 49 ≤ a ∧ a ≤ 137 := by decide +kernel
theorem Y0_hi {a : Nat} (h1 : 139 ≤ a) (h2 : a < 159) : Y0.1 a = zg y0c (a - 139) := by
  show (if a < 139 then _ else _) = _
  rw [if_neg (by omega), if_pos h2]
theorem Y0_lo {a : Nat} (h1 : a < 139) : Y0.1 a = y0f a := by
  show (if a < 139 then _ else _) = _
  rw [if_pos h1]
theorem Y0_in {a : Nat} {o : yO} (h : Y0.1 a = some o) : (a < 139 ∧ y0f a = some o) ∨ (139 ≤ a ∧ a < 159 ∧ zg y0c (a - 139) = some o) ∨ (a = 231 ∧ o = oA 4 [.long 0]) := by
  have h : (if a < 139 then y0f a else if a < 159 then zg y0c (a - 139) else if a = 231 then some (oA 4 [.long 0]) else none) = some o := h
  by_cases c1 : a < 139
  · rw [if_pos c1] at h; exact Or.inl ⟨c1, h⟩
  rw [if_neg c1] at h
  by_cases c2 : a < 159
  · rw [if_pos c2] at h; exact Or.inr (Or.inl ⟨by omega, c2, h⟩)
  rw [if_neg c2] at h
  by_cases c3 : a = 231
  · rw [if_pos c3] at h; cases h; exact Or.inr (Or.inr ⟨c3, rfl⟩)
  · rw [if_neg c3] at h; cases h
theorem y0f_in {a : Nat} {o : yO} (h : y0f a = some o) : ∃ k, a = k + 1 ∧ ((∃ fs, o = oB 15 fs ∧ zg zroL k = some (.inr (15, fs))) ∨ (∃ t vs, o = oA t vs ∧ zg zroL k = some (.inl (t, vs)) ∧ 43 ≤ k ∧ k ≤ 46) ∨ (a ∈ fxs ∧ o = oS (cs a))) := by
  cases a with
  | zero => cases h
  | succ k =>
    refine ⟨k, rfl, ?_⟩
    unfold y0f at h
    dsimp only at h
    split at h
    · rename_i c fs e
      by_cases c1 : c = 15
      · subst c1
        rw [if_pos rfl] at h
        cases h
        exact Or.inl ⟨fs, rfl, e⟩
      · rw [if_neg c1] at h
        by_cases c2 : fxs.elem (k + 1) = true
        · rw [if_pos c2] at h
          cases h
          exact Or.inr (Or.inr ⟨List.elem_iff.mp c2, rfl⟩)
        · rw [if_neg c2] at h; cases h
    · rename_i t vs e
      by_cases c1 : 43 ≤ k ∧ k ≤ 46
      · rw [if_pos c1] at h
        cases h
        exact Or.inr (Or.inl ⟨t, vs, rfl, e, c1.1, c1.2⟩)
      · rw [if_neg c1] at h; cases h
    · cases h
theorem FXY_0 : FXY Y0 := by
  refine ⟨fun k c fs e hc => ?_, fun k t vs e h1 h2 => ?_, fun a ha => ?_⟩
  · have := zg_lt e
    rw [zro_len] at this
    rw [Y0_lo (by omega)]
    show (match zg zroL k with | some (.inr (c, fs)) => _ | some (.inl (t, vs)) => _ | none => none) = _
    rw [e]
    dsimp only
    rw [if_pos hc]
  · rw [Y0_lo (by omega)]
    show (match zg zroL k with | some (.inr (c, fs)) => _ | some (.inl (t, vs)) => _ | none => none) = _
    rw [e]
    dsimp only
    rw [if_pos ⟨h1, h2⟩]
  · obtain ⟨h1, h2, vs, h3, h4, h5, h6⟩ := kS_spec (fxs_kS a ha)
    obtain ⟨k, rfl⟩ : ∃ k, a = k + 1 := ⟨a - 1, by omega⟩
    rw [Y0_lo (by omega)]
    have h3 : zg zroL k = some (.inr (12, [.ref (k + 1 + 1), .int 0])) := h3
    show (match zg zroL k with | some (.inr (c, fs)) => _ | some (.inl (t, vs)) => _ | none => none) = _
    rw [h3]
    dsimp only
    rw [if_neg (by decide), if_pos (List.elem_iff.mpr ha)]
theorem BY_0 : BY Y0 := by
  refine ⟨FXY_0, by show 231 ≤ 232; omega, fun a o h => ?_⟩
  show a < 232
  rcases Y0_in h with ⟨h1, _⟩ | ⟨_, h1, _⟩ | ⟨h1, _⟩ <;> omega
/-- the class, made -/
theorem CSt_00 : CSt Y0 139 s00 := by
  have hJ : JDG Y0 142 (fun k => if k < 2 then 143 + k else 142 + k) [] (List.replicate 12 (.int 0)) (List.replicate 24 (.int 0)) (List.replicate 5 (.int (-1))) 0 := by
    refine ⟨rfl, by omega, ⟨List.replicate 8 .null, List.replicate 8 .null, rfl, rfl, by show 0 ≤ 8; omega, List.length_replicate, List.length_replicate, fun k x hx => (by cases hx)⟩, by decide, by decide, by decide, rfl, List.length_replicate, by decide, rfl, List.length_replicate, by decide, rfl, List.length_replicate, by decide⟩
  have hls : ∀ j, j < 8 → LSX Y0 (149 + j) [] := by
    intro j hj
    refine ⟨⟨0, ?_, by omega⟩, by omega⟩
    have h8 : j = 0 ∨ j = 1 ∨ j = 2 ∨ j = 3 ∨ j = 4 ∨ j = 5 ∨ j = 6 ∨ j = 7 := by omega
    rcases h8 with rfl | rfl | rfl | rfl | rfl | rfl | rfl | rfl <;> rfl
  have hPK : PLK Y0 148 (fun j => 149 + j) 157 158 ([], [], [], [], [], [], 0) (fun _ => []) [] [] := by
    refine ⟨⟨rfl, by omega⟩, ⟨hls, fun i j _ _ e => ?_⟩, ⟨trivial, trivial, trivial, trivial, trivial, trivial⟩, ?_⟩
    · have e : 149 + i = 149 + j := e
      omega
    · exact ⟨(by show 0 ≤ 12; omega), (by show 0 ≤ 100; omega), (by show 0 ≤ 40; omega), (by show 0 ≤ 100; omega), (by show 0 ≤ 400; omega), (by show 0 ≤ 24; omega), (by show 0 ≤ 8; omega)⟩
  have hPL : PLN Y0 148 (fun j => 149 + j) 157 158 (fun _ => 232) ([], [], [], [], [], [], 0) (fun _ => []) := by
    refine ⟨hPK, ⟨rfl, fun i fl g h => (by cases h)⟩, ⟨rfl, fun i fl g h => (by cases h)⟩, ⟨fun r h => (by cases h), fun r h => (by cases h)⟩, ⟨List.replicate 24 (.int 0), rfl, List.length_replicate⟩, ⟨List.replicate 24 (.int 0), rfl, List.length_replicate⟩, by omega, by omega, by omega, by show 157 < 232; omega, by show 158 < 232; omega, fun i h => Nat.le_refl _, Nat.le_refl _⟩
  have hNO : NOK ([], [], [], [], [], [], 0) [] := ⟨rfl, fun l h => (by cases h), (by show 0 ≤ 24; omega), fun i g ns h => (by cases h)⟩
  have hLD : LDP Y0 148 (fun j => 149 + j) 157 158 (fun _ => 232) (fun _ => []) L0 := ⟨⟨hPL, fun j fl ns h => (by cases h)⟩, hNO, ⟨List.replicate 24 (.int 0), rfl, fun f hf => absurd hf (Nat.not_lt_zero f)⟩, List.replicate 24 (.int 0), rfl, fun i x hx => (by cases hx)⟩
  refine ⟨BY_0, Nat.le_refl _, L0_ok, fun j y hy => (by cases hy), 140, 142, 148, rfl, ⟨141, List.replicate 6000 (.int 0), rfl, rfl, List.length_replicate, by show 0 ≤ 6000; omega, fun i b hb => (by cases hb), fun b hb => (by cases hb), Nat.le_of_ble_eq_true rfl, Nat.le_of_ble_eq_true rfl⟩, fun k => if k < 2 then 143 + k else 142 + k, List.replicate 12 (.int 0), List.replicate 24 (.int 0), List.replicate 5 (.int (-1)), 0, fun j => 149 + j, 157, 158, fun _ => 232, fun _ => [], List.replicate 12 false, fun _ => 0, ⟨BY_0, hJ, hLD, by decide, by decide⟩, List.length_replicate, fun j hj => ?_, fun g hg => ?_, rfl⟩
  · rw [List.getElem?_replicate, if_pos hj, List.getD_eq_getElem?_getD, List.getElem?_replicate, if_pos hj]
    rfl
  · rw [List.getElem?_replicate, if_pos hg]
end ZMN

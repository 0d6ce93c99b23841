/-! THE CLASS READS: lists, names, new parts -/
section ZJK
def AL {α : Type} (R : Nat → α → Prop) : List Nat → List α → Prop
  | [], [] => True
  | x :: xs, y :: ys => R x y ∧ AL R xs ys
  | [], _ :: _ => False
  | _ :: _, [] => False
section
variable {α : Type} {R R' : Nat → α → Prop} {xs : List Nat} {ys : List α} {x : Nat} {y : α}
theorem AL_len : ∀ {xs : List Nat} {ys : List α}, AL R xs ys → xs.length = ys.length
  | [], [], _ => rfl
  | _ :: _, _ :: _, h => by show _ + 1 = _ + 1; rw [AL_len h.2]
  | [], _ :: _, h => h.elim
  | _ :: _, [], h => h.elim
theorem AL_app : ∀ {xs : List Nat} {ys : List α}, AL R xs ys → R x y → AL R (xs ++ [x]) (ys ++ [y])
  | [], [], _, q => ⟨q, trivial⟩
  | _ :: _, _ :: _, h, q => ⟨h.1, AL_app h.2 q⟩
  | [], _ :: _, h, _ => h.elim
  | _ :: _, [], h, _ => h.elim
theorem AL_imp (hi : ∀ x y, R x y → R' x y) : ∀ {xs : List Nat} {ys : List α}, AL R xs ys → AL R' xs ys
  | [], [], _ => trivial
  | _ :: _, _ :: _, h => ⟨hi _ _ h.1, AL_imp hi h.2⟩
  | [], _ :: _, h => h.elim
  | _ :: _, [], h => h.elim
theorem AL_get : ∀ {xs : List Nat} {ys : List α} {i : Nat} {y : α}, AL R xs ys → ys[i]? = some y → ∃ x, xs[i]? = some x ∧ R x y
  | x :: xs, y :: ys, 0, z, h, q => ⟨x, rfl, by cases q; exact h.1⟩
  | x :: xs, y :: ys, i + 1, z, h, q => AL_get (xs := xs) (ys := ys) (i := i) h.2 q
  | _, [], i, z, h, q => by cases q
  | [], _ :: _, _, _, h, _ => h.elim
end
section
variable {n : Nat} {Y Y0 Y1 Y2 Z : zY} {a b s k p m e tp r w rd pl W W2 WE : Nat} {S S1 : List Nat} {T : List Int32} {t : Tk} {ts : List Tk} {x v : Int32} {o : yO} {nx : Value} {α : Type} {R R' : Nat → α → Prop} {l : List α}
/-- the list at a holds l -/
def LSY (Y : zY) (a : Nat) (R : Nat → α → Prop) (l : List α) : Prop := ∃ xs cap, Y.1 a = some (oL xs cap) ∧ cap ≤ 2 * xs.length + 10 ∧ AL R xs l ∧ 139 ≤ a
theorem LSY_k (h : LSY Y a R l) (hf : FR Y Y1 S) (ha : a ∉ S) (hi : ∀ x y, R x y → R' x y) : LSY Y1 a R' l := by
  obtain ⟨xs, cap, h1, h2, h3, h4⟩ := h
  exact ⟨xs, cap, FR_k hf h1 ha, h2, AL_imp hi h3, h4⟩
theorem lsy_o (h : LSY Y a R l) : yisO Y a 14 = true := by
  obtain ⟨xs, cap, h1, _⟩ := h
  unfold yisO
  rw [h1]
  rfl
theorem lsy_n (h : LSY Y a R l) : c68 n a Y = some (nI l.length, Y) := by
  obtain ⟨xs, cap, h1, _, h3, _⟩ := h
  unfold c68
  rw [h1]
  dsimp only
  rw [AL_len h3]
theorem lsy_g {i : Nat} {y : α} (h : LSY Y a R l) (hi : l[i]? = some y) (h31 : i < 2 ^ 31) : ∃ x, c74 n a (nI i) Y = some (some x, Y) ∧ R x y := by
  obtain ⟨xs, cap, h1, _, h3, _⟩ := h
  obtain ⟨x, hx, hr⟩ := AL_get h3 hi
  refine ⟨x, ?_, hr⟩
  unfold c74
  rw [h1]
  dsimp only
  rw [decide_eq_false (nI_pos h31)]
  dsimp only
  rw [nI_clamp h31, zg_eq, hx]
  rfl
/-- one more -/
theorem lsy_a {c x : Nat} {fs : List Value} {y : α} (hB : BY Y) (h : LSY Y a R l) (hx : Y.1 x = some (oB c fs)) (hc : zasg c 16 = true) (hl : l.length ≤ 200) (hi : ∀ z u, R z u → R' z u) (hy : R' x y) : ∃ Y1, c86 n a (some x) Y = some (1, Y1) ∧ BY Y1 ∧ FR Y Y1 [a] ∧ wY Y1 ≤ wY Y + 26 + 2 * l.length ∧ LSY Y1 a R' (l ++ [y]) := by
  obtain ⟨xs, cap, h1, h2, h3, h4⟩ := h
  have hlen := AL_len h3
  have hm : ∀ q ∈ [a], ∀ o, Y.1 q = some o → mto o = true := fun q hq o ho => by rw [List.mem_singleton.mp hq, h1] at ho; cases ho; rfl
  unfold c86 yAdd
  dsimp only [Option.bind_some]
  rw [h1, hx]
  dsimp only
  rw [show (zasg c 16 && Nat.ble zn0 a && Nat.ble cap 500) = true by rw [hc, show Nat.ble zn0 a = true from Nat.ble_eq_true_of_le h4, show Nat.ble cap 500 = true from Nat.ble_eq_true_of_le (by omega)]; rfl]
  dsimp only
  have hDa := hB.2.2 _ _ h1
  by_cases hc : xs.length < cap
  · rw [decide_eq_true hc]
    dsimp only [Option.bind_some]
    refine ⟨_, rfl, BY_u hB h4 hDa, FR_u h1 rfl, by rw [show wY (yu Y a (some (oL (xs ++ [x]) cap))) = wY Y from rfl]; omega, ⟨xs ++ [x], cap, yu_s, by rw [List.length_append]; show cap ≤ 2 * (xs.length + 1) + 10; omega, AL_app (AL_imp hi h3) hy, h4⟩⟩
  · rw [decide_eq_false hc]
    dsimp only [Option.bind_some]
    have hy : ycap cap ≤ 10 + 2 * xs.length := by unfold ycap; split <;> omega
    have hfr : FRY Y ((yu Y a (some (oL (xs ++ [x]) (ycap cap)))).1, Y.2.1 + 1, Y.2.2.1 + 1, Y.2.2.2 + ycap cap) [a] (26 + 2 * l.length) := by
      refine ⟨by show Y.2.1 ≤ Y.2.1 + 1; omega, by show 16 * (Y.2.2.1 + 1) + (Y.2.2.2 + ycap cap) ≤ 16 * Y.2.2.1 + Y.2.2.2 + (26 + 2 * l.length); omega, fun q o hq => ?_⟩
      by_cases c : q = a
      · left; rw [c]; simp
      · right; exact (yu_n c).trans hq
    refine ⟨_, rfl, ⟨FXY_F hB.1 hfr (fun q hq => by rw [List.mem_singleton.mp hq]; exact h4), ⟨by show 231 ≤ Y.2.1 + 1; have := hB.2.1; omega, fun q o hq => ?_⟩⟩, FR_of hfr hm, by have := hfr.2.1; omega, ⟨xs ++ [x], ycap cap, yu_s, by rw [List.length_append]; show ycap cap ≤ 2 * (xs.length + 1) + 10; omega, AL_app (AL_imp hi h3) ‹R' x y›, h4⟩⟩
    show q < Y.2.1 + 1
    by_cases c : q = a
    · rw [c]; omega
    · have := hB.2.2 q o ((yu_n c).symm.trans hq)
      omega
/-- a token, and a token's text -/
def RTk (Y : zY) (x : Nat) (t : Tk) : Prop := ∃ e nx, TKO Y x t e nx
def RNm (Y : zY) (x : Nat) (w : List Int32) : Prop := ∃ t, RTk Y x t ∧ ttx t = w
theorem RTk_k (hf : IMK Y Y1) {x : Nat} {t : Tk} (h : RTk Y x t) : RTk Y1 x t := by
  obtain ⟨e, nx, h⟩ := h
  exact ⟨e, nx, TKO_k h hf⟩
theorem RNm_k (hf : IMK Y Y1) {x : Nat} {w : List Int32} (h : RNm Y x w) : RNm Y1 x w := by
  obtain ⟨t, h, q⟩ := h
  exact ⟨t, RTk_k hf h, q⟩
/-- the text of a token -/
theorem tk_txt {x : Nat} (h : RTk Y x t) : ∃ s, yR Y x 9 3 = some (some s) ∧ Y.1 s = some (oS (ttx t)) ∧ 1 ≤ s ∧ yR Y x 9 0 = some (some (t.1 + 1)) ∧ yI Y x 9 4 = some t.2.2.2 ∧ ykC Y (some x) 9 0 = true ∧ TKG t ∧ (∃ fs, Y.1 x = some (oB 9 fs)) := by
  obtain ⟨e, nx, s, h1, h2, h3, h4, h5⟩ := h
  refine ⟨s, yR_of (r := some s) h1 rfl, h2, h3, yR_of (r := some (t.1 + 1)) h1 rfl, yI_of h1 rfl, ?_, h5, _, h1⟩
  unfold ykC
  dsimp only
  rw [h1]
  show zasg 9 9 = true
  decide
/-- which name it is -/
def ixI (o : Option Nat) : Int32 := match o with
  | some i => nI i
  | none => -1
theorem ix_l {names : List (List Int32)} {u : List Int32} (hL : LSY Y a (RNm Y) names) (hs : Y.1 s = some (oS u)) (hs1 : 1 ≤ s) (hn : 6002 ≤ n) (hl : names.length ≤ 200) : ∀ (fu i : Nat), i ≤ names.length → names.length - i < fu → cf73_2 n fu (some a) (some s) (nI i) Y = some (ixI (((names.drop i).findIdx? (fun x => x == u)).map (fun j => i + j)), Y)
  | 0, i, _, h => by omega
  | fu + 1, i, hi, hf => by
    show cb73_2 n (cf73_2 n fu) (some a) (some s) (nI i) Y = _
    unfold cb73_2
    refine bnd_eq rfl (zgd_eq (lsy_o hL) (bnd_eq (lsy_n hL) ?_))
    dsimp only
    by_cases hz : names.length ≤ i
    · rw [if_pos (nI_le hz (by omega)), List.drop_eq_nil_of_le hz]
      rfl
    · have hlt : i < names.length := by omega
      rw [if_neg (nI_ge hlt (by omega))]
      obtain ⟨x, hx, t, ht, htx⟩ := lsy_g (n := n) hL (List.getElem?_eq_getElem hlt) (by omega)
      obtain ⟨st, q1, q2, q3, q4, q5, q6, q7, q8⟩ := tk_txt ht
      refine zgd_eq (lsy_o hL) (bnd_eq hx (zgd_eq q6 (bnd_eq rfl (bnd_eq q1 (bnd_eq rfl (zgd_eq (isO_s q2) ?_))))))
      refine bnd_eq (eq_ok q2 hs q3 hs1 (by have := q7.2.1; omega) hn) ?_
      dsimp only
      rw [List.drop_eq_getElem_cons hlt, List.findIdx?_cons, htx]
      by_cases hu : names[i] = u
      · rw [if_pos hu, if_neg (by decide), show (names[i] == u) = true by simpa using hu]
        rfl
      · rw [if_neg hu, if_pos (show (0 : Int32) = 0 from rfl), show (names[i] == u) = false by simpa using hu, nI_1, ix_l hL hs hs1 hn hl fu (i + 1) (by omega) (by omega)]
        cases (names.drop (i + 1)).findIdx? (fun x => x == u) with
        | none => rfl
        | some j => show some (nI (i + 1 + j), Y) = some (nI (i + (j + 1)), Y); rw [show i + 1 + j = i + (j + 1) by omega]
theorem ix_ok {names : List (List Int32)} {u : List Int32} (hL : LSY Y a (RNm Y) names) (hs : Y.1 s = some (oS u)) (hs1 : 1 ≤ s) (hn : 6002 ≤ n) (hl : names.length ≤ 200) : c73 n (some a) (some s) Y = some (ixI (fnd names u), Y) := by
  unfold c73
  have := ix_l (n := n) hL hs hs1 hn hl n 0 (by omega) (by omega)
  rw [show (0 : Int32) = nI 0 from rfl, this]
  unfold fnd
  rw [List.drop_zero]
  cases names.findIdx? (fun x => x == u) with
  | none => rfl
  | some j => show some (nI (0 + j), Y) = some (nI j, Y); rw [Nat.zero_add]
theorem ixI_m {o : Option Nat} (h : ∀ i, o = some i → i < 2 ^ 31) : (ixI o = -1) ↔ o = none := by
  cases o with
  | none => exact ⟨fun _ => rfl, fun _ => rfl⟩
  | some i =>
    refine ⟨fun q => ?_, fun q => by cases q⟩
    exfalso
    have h2 : ¬ nI i < 0 := nI_pos (h i rfl)
    apply h2
    have q : nI i = -1 := q
    rw [q]
    decide
theorem fnd_lt {names : List (List Int32)} {u : List Int32} {i : Nat} (h : fnd names u = some i) : i < names.length := by
  unfold fnd at h
  exact (List.findIdx?_eq_some_iff_getElem.mp h).1
/-- a new name -/
theorem nw_ok {names : List (List Int32)} (h : RS rd pl W Y ts) (hL : LSY Y a (RNm Y) names) (har : a ≠ rd) (hl : names.length ≤ 200) (hn : 6002 ≤ n) (hE : W ≤ WE + 250) : CR rd pl Y [rd] (W - 300) WE (c72 n rd (some a) Y) (sNew names ts) (fun x => x.2) (fun Y1 x v => ∃ q, v = some q ∧ RTk Y1 q x.1 ∧ x.1.1 = 2 ∧ x.2 = adv ts ∧ x.2.length + 1 = ts.length) := by
  unfold c72 sNew
  refine CR_g (rdr_o h.2.1) ?_
  refine CR_b (tk_ok (s := 2) h (by omega) hE) FR_R (fun a h => Or.inl h) h.1.2 ?_
  rintro ⟨t, ts'⟩ v Y1 hS hf hf0 ⟨q, e, nx, rfl, q2, q3, q4, q5, q6⟩
  dsimp only at q2 q3 q4 q5 q6 hS ⊢
  obtain ⟨st, j1, j2, j3, j4, j5, j6, j7, j8⟩ := tk_txt ⟨e, nx, q2⟩
  have hL1 : LSY Y1 a (RNm Y1) names := LSY_k hL hf (by simpa using har) (fun x y => RNm_k hf.2.2)
  refine CR_y rfl (CR_y j1 (CR_y (ix_ok hL1 j2 j3 hn hl) ?_))
  dsimp only
  have httx : ttx t = t.2.2.1 := by unfold ttx; rw [if_neg (by omega)]
  rw [httx]
  have hW := h.2.2
  have hlt := rdr_len h.2.1
  cases hfd : fnd names t.2.2.1 with
  | none =>
    rw [if_pos (show ixI none = -1 from rfl), if_neg (by decide)]
    exact CR_s hS hf ⟨q, rfl, ⟨e, nx, q2⟩, q4, q5, q6⟩
  | some i =>
    have := fnd_lt hfd
    rw [if_neg (fun c => by have := (ixI_m (o := some i) (fun j hj => by cases hj; omega)).mp c; cases this), if_pos (show (some i).isSome = true from rfl)]
    exact CR_g (rdr_o hS.2.1) (cr_ref hS.1 hS.2.1 q2 hf (by simp) h.1.2 (by have := hS.2.2; have := rdr_len hS.2.1; omega))
/-- a known name -/
theorem kw_ok {names : List (List Int32)} (h : RS rd pl W Y ts) (hL : LSY Y a (RNm Y) names) (har : a ≠ rd) (hl : names.length ≤ 200) (hn : 6002 ≤ n) (hE : W ≤ WE + 250) : CR rd pl Y [rd] (W - 300) WE (c81 n rd (some a) Y) (sKnw names ts) (fun x => x.2) (fun Y1 x v => v = nI x.1 ∧ x.1 < names.length ∧ x.2 = adv ts ∧ x.2.length + 1 = ts.length) := by
  unfold c81 sKnw
  refine CR_g (rdr_o h.2.1) ?_
  refine CR_b (tk_ok (s := 2) h (by omega) hE) FR_R (fun a h => Or.inl h) h.1.2 ?_
  rintro ⟨t, ts'⟩ v Y1 hS hf hf0 ⟨q, e, nx, rfl, q2, q3, q4, q5, q6⟩
  dsimp only at q2 q3 q4 q5 q6 hS ⊢
  obtain ⟨st, j1, j2, j3, j4, j5, j6, j7, j8⟩ := tk_txt ⟨e, nx, q2⟩
  have hL1 : LSY Y1 a (RNm Y1) names := LSY_k hL hf (by simpa using har) (fun x y => RNm_k hf.2.2)
  refine CR_y rfl (CR_y j1 (CR_y (ix_ok hL1 j2 j3 hn hl) ?_))
  dsimp only
  have httx : ttx t = t.2.2.1 := by unfold ttx; rw [if_neg (by omega)]
  rw [httx]
  cases hfd : fnd names t.2.2.1 with
  | none =>
    rw [if_pos (show ixI none = -1 from rfl)]
    have hW := h.2.2
    exact CR_g (rdr_o hS.2.1) (cr_ref hS.1 hS.2.1 q2 hf (by simp) h.1.2 (by have := hS.2.2; have := rdr_len hS.2.1; omega))
  | some i =>
    have := fnd_lt hfd
    rw [if_neg (fun c => by have := (ixI_m (o := some i) (fun j hj => by cases hj; omega)).mp c; cases this)]
    exact CR_s (s := (i, ts')) hS hf ⟨rfl, this, q5, q6⟩
/-- the first word of a telling -/
theorem fw_ok {hv mo : Nat} {y1 y2 : Int32} (h : RS rd pl W Y ts) (h1 : y1 = nI hv) (h2 : y2 = nI mo) (hv1 : hv < 2 ^ 31) (hm : mo < 2 ^ 31) (hs : 2 ≤ (hd ts).1) (hE : W ≤ WE + 250) : CR rd pl Y [rd] (W - 300) WE (c69 n rd y1 y2 Y) (sFirst hv mo ts) (fun x => x) (fun _ x _ => x = adv ts ∧ x.length + 1 = ts.length ∧ hv < mo) := by
  unfold c69 sFirst
  subst h1 h2
  obtain ⟨a, e, nx, k1, k2, k3, k4⟩ := rdr_t h.2.1
  by_cases c : mo ≤ hv
  · rw [if_pos c, if_neg (by rw [nI_ltI hv1 hm]; omega)]
    exact CR_y k1 (CR_g (rdr_o h.2.1) (cr_ref h.1 h.2.1 k2 FR_R (by simp) h.1.2 (by have := h.2.2; omega)))
  · rw [if_neg c, if_pos (by rw [nI_ltI hv1 hm]; omega)]
    unfold cb69_14
    refine CR_y k1 (CR_y rfl (CR_y k4 (CR_g (rdr_o h.2.1) ?_)))
    have := CR_b (f := fun (_ : Option Nat) h => some ((.inl () : Unit ⊕ Nat), h)) (g := fun x : Tk × List Tk => (.inr x.2 : RR (List Tk))) (L2 := fun x => x) (Q2 := fun _ x _ => x = adv ts ∧ x.length + 1 = ts.length ∧ hv < mo) (W2 := W - 300) (tk_any (n := n) h hs hE) FR_R (fun a h => Or.inl h) h.1.2 (fun x v Y1 hS hf hf0 hq => by
      obtain ⟨q, e, nx, q1, q2, q3, q4, q5⟩ := hq
      exact CR_s hS hf ⟨q4, q5, by omega⟩)
    exact this
/-- the plan's fields: its lists, offs and sets, parts, reach, order -/
def plF (l : Nat → Nat) (os pt rc sq : Nat) : List Value := [.ref (l 0), .ref (l 1), .ref (l 2), .ref (l 3), .ref (l 4), .ref (l 5), .ref (l 6), .ref (l 7), .int (nI os), .int (nI pt), .ref rc, .ref sq]
/-- a new part -/
theorem np_ok {l : Nat → Nat} {os rc sq : Nat} (h : RS rd pl W Y ts) (hP : Y.1 pl = some (oB 4 (plF l os p rc sq))) (h4 : 139 ≤ pl) (ht : TKO Y a t e nx) (hp : p < 2 ^ 31) (hE : W ≤ WE + 250) : CR rd pl Y [rd, pl] (W + 22) WE (c79 n rd (some (s + 1)) (some a) Y) (sPrt p t) (fun _ => ts) (fun Y1 p' v => ∃ b, v = some b ∧ Y.2.1 ≤ b ∧ b < Y1.2.1 ∧ Y1.1 b = some (oB 3 [.ref (s + 1), .null, .null, .int (-1), .null, .null]) ∧ Y1.1 pl = some (oB 4 (plF l os p' rc sq)) ∧ p' = p + 1 ∧ p < 400 ∧ FR Y Y1 [pl]) := by
  unfold c79 sPrt
  refine CR_y (rdr_p h.2.1) (CR_y rfl (CR_y (yI_of hP rfl) ?_))
  have h231 := h.1.2.1
  by_cases c : 400 ≤ p
  · rw [if_pos c, if_neg (by rw [show (400 : Int32) = nI 400 from rfl, nI_ltI hp (by omega)]; omega)]
    exact CR_g (rdr_o h.2.1) (cr_ref h.1 h.2.1 ht FR_R (by simp) h.1.2 (by have := h.2.2; have := rdr_len h.2.1; omega))
  · rw [if_neg c, if_pos (by rw [show (400 : Int32) = nI 400 from rfl, nI_ltI hp (by omega)]; omega)]
    unfold cb79_19
    refine CR_y (rdr_p h.2.1) (CR_y rfl (CR_y (yI_of hP rfl) (CR_y (yP_of hP h4 rfl rfl) ?_)))
    obtain ⟨Z, hZ⟩ : ∃ Z, Z = yu Y pl (some (oB 4 (plF l os (p + 1) rc sq))) := ⟨_, rfl⟩
    rw [show yu Y pl (some (oB 4 (zs (plF l os p rc sq) 9 (.int (nI p + 1))))) = Z by rw [hZ, nI_1]; rfl]
    have hplY := h.1.2.2 _ _ hP
    have hBZ : BY Z := by rw [hZ]; exact BY_u h.1 h4 hplY
    have hfZ : FR Y Z [pl] := by rw [hZ]; exact FR_u hP rfl
    have hZ2 : Z.2 = Y.2 := by rw [hZ]; rfl
    have hpl : Z.1 pl = some (oB 4 (plF l os (p + 1) rc sq)) := by rw [hZ]; exact yu_s
    have hne : pl ≠ Z.2.1 := by rw [hZ2]; omega
    obtain ⟨X, hX⟩ : ∃ X, X = yu (yN Z 3 6) Z.2.1 (some (oB 3 [.ref (s + 1), .null, .null, .int (-1), .null, .null])) := ⟨_, rfl⟩
    have e80 : c80 n Z.2.1 (some (s + 1)) (yN Z 3 6) = some ((), X) := by
      unfold c80
      have hN : (yN Z 3 6).1 Z.2.1 = some (oB 3 (zdf 3)) := ya_s
      have h139 : 139 ≤ Z.2.1 := by rw [hZ2]; omega
      refine bnd_eq (yP_of hN h139 rfl rfl) ?_
      refine bnd_eq (yP_of yu_s h139 rfl rfl) ?_
      rw [yu_yu]
      refine bnd_eq (yP_of yu_s h139 rfl rfl) ?_
      rw [yu_yu]
      refine bnd_eq (yP_of yu_s h139 rfl rfl) ?_
      rw [yu_yu]
      refine bnd_eq (yP_of yu_s h139 rfl rfl) ?_
      rw [yu_yu]
      refine bnd_eq (yP_of yu_s h139 rfl rfl) ?_
      rw [yu_yu, hX]
      rfl
    refine CR_y e80 ?_
    dsimp only
    have hfX : FR Y X [pl] := by
      rw [hX]
      exact FR_n (FR_T hfZ (FR_a (S := []) hBZ.2) (fun a h => by cases h) h.1.2) h.1.2 (by rw [hZ2]; exact Nat.le_refl _)
    have hBX : BY X := by rw [hX]; exact BY_u (BY_a hBZ) (by rw [hZ2]; omega) (by show Z.2.1 < Z.2.1 + 1; omega)
    have hrp : rd ≠ pl := fun c => by
      obtain ⟨⟨_, _, _, j, _⟩, _⟩ := h.2.1
      rw [c, hP] at j
      cases j
    refine CR_s (s := p + 1) ⟨hBX, RDR_k h.2.1 hfX (by simpa using hrp), ?_⟩ (FR_M hfX (by simp)) ⟨Z.2.1, rfl, by rw [hZ2]; exact Nat.le_refl _, by rw [hX]; show Z.2.1 < Z.2.1 + 1; omega, by rw [hX]; exact yu_s, ?_, rfl, by omega, hfX⟩
    · rw [hX]
      show 16 * (Z.2.2.1 + 1) + (Z.2.2.2 + 6) + 300 * ts.length ≤ W + 22
      rw [hZ2]
      have hw : 16 * Y.2.2.1 + Y.2.2.2 + 300 * ts.length ≤ W := h.2.2
      omega
    · rw [hX, yu_n hne, show (yN Z 3 6).1 pl = Z.1 pl from ya_n hne]
      exact hpl
/-- one thing: a number or a text -/
theorem on_ok (h : RS rd pl W Y ts) (hE : W ≤ WE + 250) : (∃ q, c84 n rd Y = some (some (q + 1), Y) ∧ q = (if (hd ts).1 = 3 then 3 else 4)) ∧ ∀ q, q = (if (hd ts).1 = 3 then 3 else 4) → CR rd pl Y [rd] (W - 300) WE (c71 n rd (some (q + 1)) Y) (sOne ts) (fun x => x.2) (fun Y1 x v => ∃ a, v = some a ∧ RTk Y1 a x.1 ∧ (x.1.1 = 3 ∨ x.1.1 = 4) ∧ x.2 = adv ts ∧ x.2.length + 1 = ts.length) := by
  refine ⟨⟨_, ?_, rfl⟩, fun q hq => ?_⟩
  · unfold c84
    obtain ⟨a, e, nx, k1, k2, k3, k4⟩ := rdr_t h.2.1
    refine bnd_eq k1 (bnd_eq rfl (bnd_eq k4 (bnd_eq (rEq_s (by omega) (by omega)) ?_)))
    by_cases c : (hd ts).1 = 3
    · rw [if_pos c, if_pos (decide_eq_true (by omega))]
    · rw [if_neg c, if_neg (by rw [decide_eq_false (by omega)]; decide)]
  · unfold sOne
    rw [← hq]
    have hq2 : 2 ≤ q := by rw [hq]; split <;> omega
    refine CR_r (tk_ok (n := n) h hq2 hE) FR_R (fun a h => Or.inl h) h.1.2 (Nat.le_refl _) ?_
    rintro Y1 ⟨t, ts'⟩ v hS hf ⟨a, e, nx, rfl, q2, q3, q4, q5, q6⟩
    refine ⟨a, rfl, ⟨e, nx, q2⟩, ?_, q5, q6⟩
    show t.1 = 3 ∨ t.1 = 4
    have q4 : t.1 = q := q4
    rw [q4, hq]
    split
    · exact Or.inl rfl
    · exact Or.inr rfl
end
end ZJK

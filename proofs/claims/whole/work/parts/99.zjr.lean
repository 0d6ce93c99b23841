/-! THE CLASS READS: serves -/
section ZJR
section
variable {n : Nat} {Y Y0 Y1 Y2 Z : zY} {a b s p m e tp r q rd pl W W2 WE lo x : Nat} {S S1 F F1 F2 : List Nat} {T : List Int32} {t : Tk} {ts : List Tk} {v u : Int32} {o o' : yO} {nx nx' vv nm sa : Value} {l : Nat → Nat} {os rc sq fl c1 L : Nat} {k : Nat × List (List Int32)} {sh : List (Int32 × Int32)} {spl : List Spl}
/-- the serve at x, with room for L shares -/
def SVX (Y : zY) (lo x : Nat) (nm sa : Value) (sh : List (Int32 × Int32)) (L : Nat) : Prop := ∃ a1 a2 : Nat, Y.1 x = some (oB 7 [nm, sa, .ref a1, .ref a2, .int (nI sh.length)]) ∧ Y.1 a1 = some (oA 0 (sh.map (fun z => Value.int z.1) ++ List.replicate (L - sh.length) (.int 0))) ∧ Y.1 a2 = some (oA 0 (sh.map (fun z => Value.int z.2) ++ List.replicate (L - sh.length) (.int 0))) ∧ sh.length ≤ L ∧ a1 ≠ a2 ∧ 139 ≤ x ∧ 139 ≤ a1 ∧ 139 ≤ a2 ∧ lo ≤ x ∧ lo ≤ a1 ∧ lo ≤ a2 ∧ (L = 1 ∨ L = 2 ∨ L = 8)
theorem svl {f : Int32 × Int32 → Value} (h : sh.length ≤ L) : (sh.map f ++ List.replicate (L - sh.length) (Value.int 0)).length = L := by
  rw [List.length_append, List.length_map, List.length_replicate]; omega
theorem mto_a {vs : List Value} (h : vs.length = L) (hL : L = 1 ∨ L = 2 ∨ L = 8) : mto (oA 0 vs) = false := by
  show (!(Nat.beq 0 0 && (Nat.beq vs.length 1 || Nat.beq vs.length 2 || Nat.beq vs.length 8))) = false
  rw [h]
  rcases hL with c | c | c <;> rw [c] <;> rfl
theorem SVX_k (hf : IMK Y Y1) (h : SVX Y lo x nm sa sh L) : SVX Y1 lo x nm sa sh L := by
  obtain ⟨a1, a2, h1, h2, h3, h4, h5, h6, h7, h8, h9, h10, h11, h12⟩ := h
  exact ⟨a1, a2, hf _ _ h1 rfl, hf _ _ h2 (mto_a (svl h4) h12), hf _ _ h3 (mto_a (svl h4) h12), h4, h5, h6, h7, h8, h9, h10, h11, h12⟩
theorem SVX_lo {lo' : Nat} (hl : lo' ≤ lo) (h : SVX Y lo x nm sa sh L) : SVX Y lo' x nm sa sh L := by
  obtain ⟨a1, a2, h1, h2, h3, h4, h5, h6, h7, h8, h9, h10, h11, h12⟩ := h
  exact ⟨a1, a2, h1, h2, h3, h4, h5, h6, h7, h8, by omega, by omega, by omega, h12⟩
/-- a split -/
def RSp (Y : zY) (x : Nat) (sp : Spl) : Prop := ∃ wt st L, SVX Y 0 x (.ref wt) (.ref st) sp.2.2 L ∧ RNm Y wt sp.1 ∧ RNm Y st sp.2.1
theorem RSp_k (hf : IMK Y Y1) {sp : Spl} (h : RSp Y x sp) : RSp Y1 x sp := by
  obtain ⟨wt, st, L, h1, h2, h3⟩ := h
  exact ⟨wt, st, L, SVX_k hf h1, RNm_k hf h2, RNm_k hf h3⟩
/-- what is served -/
def RSv (Y : zY) (spl : List Spl) (x : Nat) (s : Srv) : Prop := match s with
  | .inl v => SVX Y 0 x .null .null [(10000, v)] 1
  | .inr i => ∃ sp, spl[i]? = some sp ∧ RSp Y x sp
theorem RSv_k (hf : IMK Y Y1) {s : Srv} {more : List Spl} (h : RSv Y spl x s) : RSv Y1 (spl ++ more) x s := by
  cases s with
  | inl v => exact SVX_k hf h
  | inr i =>
    obtain ⟨sp, h1, h2⟩ := h
    refine ⟨sp, ?_, RSp_k hf h2⟩
    rw [List.getElem?_append_left]
    · exact h1
    · exact (List.getElem?_eq_some_iff.mp h1).1
/-- a list's cell -/
def LSX (Y : zY) (a : Nat) (xs : List Nat) : Prop := (∃ cap, Y.1 a = some (oL xs cap) ∧ cap ≤ 2 * xs.length + 10) ∧ 139 ≤ a
theorem LSX_k {xs : List Nat} (h : LSX Y a xs) (hf : FR Y Y1 S) (ha : a ∉ S) : LSX Y1 a xs := by
  obtain ⟨⟨cap, h1, h2⟩, h3⟩ := h
  exact ⟨⟨cap, FR_k hf h1 ha, h2⟩, h3⟩
theorem LSY_of {α : Type} {R : Nat → α → Prop} {ls : List α} {xs : List Nat} (h : LSX Y a xs) (hA : AL R xs ls) : LSY Y a R ls := by
  obtain ⟨⟨cap, h1, h2⟩, h3⟩ := h
  exact ⟨xs, cap, h1, h2, hA, h3⟩
theorem LSY_to {α : Type} {R : Nat → α → Prop} {ls : List α} (h : LSY Y a R ls) : ∃ xs, LSX Y a xs ∧ AL R xs ls := by
  obtain ⟨xs, cap, h1, h2, h3, h4⟩ := h
  exact ⟨xs, ⟨⟨cap, h1, h2⟩, h4⟩, h3⟩
theorem AL_T : ∀ {xs : List Nat}, AL (fun x y => x = y) xs xs
  | [] => trivial
  | _ :: _ => ⟨rfl, AL_T⟩
theorem AL_eq : ∀ {xs ys : List Nat}, AL (fun x y => x = y) xs ys → xs = ys
  | [], [], _ => rfl
  | _ :: _, _ :: _, h => by rw [h.1, AL_eq h.2]
  | [], _ :: _, h => h.elim
  | _ :: _, [], h => h.elim
theorem lsx_o {xs : List Nat} (h : LSX Y a xs) : yisO Y a 14 = true := lsy_o (LSY_of h AL_T)
theorem lsx_n {xs : List Nat} (h : LSX Y a xs) : c68 n a Y = some (nI xs.length, Y) := lsy_n (LSY_of h AL_T)
theorem lsx_g {xs : List Nat} {i y : Nat} (h : LSX Y a xs) (hi : xs[i]? = some y) (h31 : i < 2 ^ 31) : c74 n a (nI i) Y = some (some y, Y) := by
  obtain ⟨x, h1, h2⟩ := lsy_g (n := n) (LSY_of h AL_T) hi h31
  rw [h1, h2]
theorem lsx_a {xs : List Nat} {c : Nat} {fs : List Value} (hB : BY Y) (h : LSX Y a xs) (hx : Y.1 x = some (oB c fs)) (hc : zasg c 16 = true) (hl : xs.length ≤ 200) : ∃ Y1, c86 n a (some x) Y = some (1, Y1) ∧ BY Y1 ∧ FR Y Y1 [a] ∧ wY Y1 ≤ wY Y + 26 + 2 * xs.length ∧ LSX Y1 a (xs ++ [x]) := by
  obtain ⟨Y1, h1, h2, h3, h4, h5⟩ := lsy_a (n := n) (R' := fun x y => x = y) (y := x) hB (LSY_of h AL_T) hx hc hl (fun _ _ q => q) rfl
  obtain ⟨ys, g1, g2⟩ := LSY_to h5
  rw [AL_eq g2] at g1
  exact ⟨Y1, h1, h2, h3, h4, g1⟩
theorem LSX_rd {xs : List Nat} (h : LSX Y a xs) (hR : RDR Y rd pl ts) : a ≠ rd := fun c => by
  obtain ⟨⟨cap, h1, h2⟩, h3⟩ := h
  obtain ⟨⟨_, _, _, j, _⟩, _⟩ := hR
  rw [c, j] at h1
  cases h1
/-- a new serve -/
theorem sv_new {o1 o2 : Option Nat} {y3 : Int32} (hB : BY Y) (hy : y3 = nI L) (hL : L = 1 ∨ L = 2 ∨ L = 8) : ∃ Y1, c92 n Y.2.1 o1 o2 y3 (yN Y 7 5) = some ((), Y1) ∧ BY Y1 ∧ FR Y Y1 [] ∧ wY Y1 = wY Y + 53 + 2 * L ∧ SVX Y1 Y.2.1 Y.2.1 (va_rf o1) (va_rf o2) [] L ∧ Y.2.1 < Y1.2.1 := by
  have h231 := hB.2.1
  have hL8 : L ≤ 8 := by omega
  have h22 : ∀ {Z : zY}, c22 n 0 y3 Z = some (nI L, Z) := by
    intro Z
    unfold c22
    rw [hy, if_pos (by rw [show (0 : Int32) = nI 0 from rfl, nI_ltI (by omega) (by omega)]; omega)]
  obtain ⟨Ya, hYa⟩ : ∃ Ya, Ya = yu (yN Y 7 5) Y.2.1 (some (oB 7 [va_rf o1, va_rf o2, .null, .null, .int 0])) := ⟨_, rfl⟩
  obtain ⟨Yb, hYb⟩ : ∃ Yb, Yb = ya Ya (oA 0 (List.replicate L (.int 0))) L := ⟨_, rfl⟩
  obtain ⟨Yc, hYc⟩ : ∃ Yc, Yc = yu Yb Y.2.1 (some (oB 7 [va_rf o1, va_rf o2, .ref (Y.2.1 + 1), .null, .int 0])) := ⟨_, rfl⟩
  obtain ⟨Yd, hYd⟩ : ∃ Yd, Yd = ya Yc (oA 0 (List.replicate L (.int 0))) L := ⟨_, rfl⟩
  obtain ⟨Ye, hYe⟩ : ∃ Ye, Ye = yu Yd Y.2.1 (some (oB 7 [va_rf o1, va_rf o2, .ref (Y.2.1 + 1), .ref (Y.2.1 + 2), .int 0])) := ⟨_, rfl⟩
  have a2 : Ya.2 = (Y.2.1 + 1, Y.2.2.1 + 1, Y.2.2.2 + 5) := by rw [hYa]; rfl
  have b2 : Yb.2 = (Y.2.1 + 2, Y.2.2.1 + 2, Y.2.2.2 + 5 + L) := by rw [hYb]; show (Ya.2.1 + 1, Ya.2.2.1 + 1, Ya.2.2.2 + L) = _; rw [a2]
  have c2 : Yc.2 = (Y.2.1 + 2, Y.2.2.1 + 2, Y.2.2.2 + 5 + L) := by rw [hYc]; exact b2
  have d2 : Yd.2 = (Y.2.1 + 3, Y.2.2.1 + 3, Y.2.2.2 + 5 + L + L) := by rw [hYd]; show (Yc.2.1 + 1, Yc.2.2.1 + 1, Yc.2.2.2 + L) = _; rw [c2]
  have e2 : Ye.2 = (Y.2.1 + 3, Y.2.2.1 + 3, Y.2.2.2 + 5 + L + L) := by rw [hYe]; exact d2
  have a1 : Ya.1 Y.2.1 = some (oB 7 [va_rf o1, va_rf o2, .null, .null, .int 0]) := by rw [hYa]; exact yu_s
  have aa : Ya.2.1 = Y.2.1 + 1 := by rw [a2]
  have bb : Yb.1 (Y.2.1 + 1) = some (oA 0 (List.replicate L (.int 0))) := by rw [hYb, ← aa]; exact ya_s
  have b1 : Yb.1 Y.2.1 = some (oB 7 [va_rf o1, va_rf o2, .null, .null, .int 0]) := by rw [hYb, ya_n (by rw [aa]; omega)]; exact a1
  have c1 : Yc.1 Y.2.1 = some (oB 7 [va_rf o1, va_rf o2, .ref (Y.2.1 + 1), .null, .int 0]) := by rw [hYc]; exact yu_s
  have cc : Yc.1 (Y.2.1 + 1) = some (oA 0 (List.replicate L (.int 0))) := by rw [hYc, yu_n (by omega)]; exact bb
  have c0 : Yc.2.1 = Y.2.1 + 2 := by rw [c2]
  have dd : Yd.1 (Y.2.1 + 2) = some (oA 0 (List.replicate L (.int 0))) := by rw [hYd, ← c0]; exact ya_s
  have d1 : Yd.1 Y.2.1 = some (oB 7 [va_rf o1, va_rf o2, .ref (Y.2.1 + 1), .null, .int 0]) := by rw [hYd, ya_n (by rw [c0]; omega)]; exact c1
  have dc : Yd.1 (Y.2.1 + 1) = some (oA 0 (List.replicate L (.int 0))) := by rw [hYd, ya_n (by rw [c0]; omega)]; exact cc
  have hBa : BY Ya := by rw [hYa]; exact BY_u (BY_a hB) (by omega) (by show Y.2.1 < Y.2.1 + 1; omega)
  have hBb : BY Yb := by rw [hYb]; exact BY_a hBa
  have hBc : BY Yc := by rw [hYc]; exact BY_u hBb (by omega) (hBb.2.2 _ _ b1)
  have hBd : BY Yd := by rw [hYd]; exact BY_a hBc
  have hBe : BY Ye := by rw [hYe]; exact BY_u hBd (by omega) (hBd.2.2 _ _ d1)
  have hfa : FR Y Ya [] := by rw [hYa]; exact FR_n (FR_a hB.2) hB.2 (Nat.le_refl _)
  have hfb : FR Y Yb [] := FR_T hfa (by rw [hYb]; exact FR_a hBa.2) (fun a h => by cases h) hB.2 (S1 := [])
  have hfc : FR Y Yc [] := by rw [hYc]; exact FR_n hfb hB.2 (Nat.le_refl _)
  have hfd : FR Y Yd [] := FR_T hfc (by rw [hYd]; exact FR_a hBc.2) (fun a h => by cases h) hB.2 (S1 := [])
  have hfe : FR Y Ye [] := by rw [hYe]; exact FR_n hfd hB.2 (Nat.le_refl _)
  have hN : (yN Y 7 5).1 Y.2.1 = some (oB 7 (zdf 7)) := ya_s
  refine ⟨Ye, ?_, hBe, hfe, ?_, ⟨Y.2.1 + 1, Y.2.1 + 2, by rw [hYe]; exact yu_s, ?_, ?_, Nat.zero_le _, by omega, by omega, by omega, by omega, Nat.le_refl _, Nat.le_succ _, Nat.le_add_right _ _, hL⟩, by rw [e2]; show Y.2.1 < Y.2.1 + 3; omega⟩
  · unfold c92
    refine bnd_eq (yP_of hN (by omega) rfl rfl) ?_
    refine bnd_eq (yP_of yu_s (by omega) (by cases o1 <;> rfl) rfl) ?_
    rw [yu_yu]
    refine bnd_eq (yP_of yu_s (by omega) (by cases o2 <;> rfl) rfl) ?_
    rw [yu_yu, show yu (yN Y 7 5) Y.2.1 (some (oB 7 (zs (zs (zs (zdf 7) 4 (.int 0)) 0 (va_rf o1)) 1 (va_rf o2)))) = Ya by rw [hYa]; rfl]
    refine bnd_eq h22 ?_
    dsimp only
    refine bnd_eq (yA_of (by omega) (by omega)) ?_
    rw [show ya Ya (oA 0 (List.replicate L (zdef 0))) L = Yb by rw [hYb]; rfl, aa]
    refine bnd_eq (yP_of b1 (by omega) rfl rfl) ?_
    rw [show yu Yb Y.2.1 (some (oB 7 (zs [va_rf o1, va_rf o2, .null, .null, .int 0] 2 (.ref (Y.2.1 + 1))))) = Yc by rw [hYc]; rfl]
    refine bnd_eq h22 ?_
    dsimp only
    refine bnd_eq (yA_of (by omega) (by omega)) ?_
    rw [show ya Yc (oA 0 (List.replicate L (zdef 0))) L = Yd by rw [hYd]; rfl, c0]
    refine bnd_eq (yP_of d1 (by omega) rfl rfl) ?_
    rw [show yu Yd Y.2.1 (some (oB 7 (zs [va_rf o1, va_rf o2, .ref (Y.2.1 + 1), .null, .int 0] 3 (.ref (Y.2.1 + 2))))) = Ye by rw [hYe]; rfl]
  · show 16 * Ye.2.2.1 + Ye.2.2.2 = 16 * Y.2.2.1 + Y.2.2.2 + 53 + 2 * L
    rw [e2]
    show 16 * (Y.2.2.1 + 3) + (Y.2.2.2 + 5 + L + L) = _
    omega
  · rw [hYe, yu_n (by omega)]; exact dc
  · rw [hYe, yu_n (by omega)]; exact dd
theorem sv_len (h : SVX Y lo x nm sa sh L) : c97 n x Y = some (b2 (decide (L ≤ sh.length)), Y) := by
  obtain ⟨a1, a2, h1, h2, h3, h4, h5, h6, h7, h8, h9, h10, h11, h12⟩ := h
  unfold c97
  refine bnd_eq (yI_of h1 rfl) (bnd_eq (yR_of (r := some a1) h1 rfl) (bnd_eq rfl (bnd_eq (yL_of h2) ?_)))
  rw [svl h4]
  by_cases c : L ≤ sh.length
  · rw [if_neg (by rw [nI_ltI (by omega) (by omega)]; omega), decide_eq_true c]; rfl
  · rw [if_pos (by rw [nI_ltI (by omega) (by omega)]; omega), decide_eq_false c]; rfl
theorem sv_o (h : SVX Y lo x nm sa sh L) : yisO Y x 7 = true := by
  obtain ⟨a1, a2, h1, _⟩ := h
  exact yisO_of h1
theorem bel {i j : Nat} (hi : i < j) (hj : j < 2 ^ 31) : c13 n (nI i) (nI j) Y = some (1, Y) := by
  unfold c13
  rw [if_neg (nI_pos (by omega)), if_neg (by rw [nI_leI (by omega) (by omega)]; omega)]
/-- what changes cells of a serve alone -/
def SVC (Y Y1 : zY) : Prop := Y1.2 = Y.2 ∧ (∀ c o, Y.1 c = some o → mto o = true → Y1.1 c = some o) ∧ (∀ x t, RTk Y x t → RTk Y1 x t)
theorem sv_add {p1 v1 : Int32} (hB : RS rd pl W Y ts) (hf : FR Y0 Y S) (hD : DM Y0) (h : SVX Y Y0.2.1 x nm sa sh L) (hl : sh.length < L) : ∃ Y1, c102 n x p1 v1 Y = some ((), Y1) ∧ RS rd pl W Y1 ts ∧ FR Y0 Y1 S ∧ SVX Y1 Y0.2.1 x nm sa (sh ++ [(p1, v1)]) L ∧ SVC Y Y1 := by
  obtain ⟨a1, a2, h1, h2, h3, h4, h5, h6, h7, h8, h9, h10, h11, h12⟩ := h
  have hxa1 : x ≠ a1 := fun c => by rw [c, h2] at h1; cases h1
  have hxa2 : x ≠ a2 := fun c => by rw [c, h3] at h1; cases h1
  have hm7 : mto (oA 0 (sh.map (fun z => Value.int z.1) ++ List.replicate (L - sh.length) (.int 0))) = false := mto_a (svl h4) h12
  have hm8 : mto (oA 0 (sh.map (fun z => Value.int z.2) ++ List.replicate (L - sh.length) (.int 0))) = false := mto_a (svl h4) h12
  have hrep : List.replicate (L - sh.length) (Value.int 0) = .int 0 :: List.replicate (L - (sh.length + 1)) (.int 0) := by rw [show L - sh.length = (L - (sh.length + 1)) + 1 by omega]; rfl
  obtain ⟨Ya, hYa⟩ : ∃ Ya, Ya = yu Y a1 (some (oA 0 ((sh ++ [(p1, v1)]).map (fun z => Value.int z.1) ++ List.replicate (L - (sh.length + 1)) (.int 0)))) := ⟨_, rfl⟩
  obtain ⟨Yb, hYb⟩ : ∃ Yb, Yb = yu Ya a2 (some (oA 0 ((sh ++ [(p1, v1)]).map (fun z => Value.int z.2) ++ List.replicate (L - (sh.length + 1)) (.int 0)))) := ⟨_, rfl⟩
  obtain ⟨Yc, hYc⟩ : ∃ Yc, Yc = yu Yb x (some (oB 7 [nm, sa, .ref a1, .ref a2, .int (nI (sh.length + 1))])) := ⟨_, rfl⟩
  have ha1 : Ya.1 x = some (oB 7 [nm, sa, .ref a1, .ref a2, .int (nI sh.length)]) := by rw [hYa, yu_n hxa1]; exact h1
  have ha3 : Ya.1 a2 = some (oA 0 (sh.map (fun z => Value.int z.2) ++ List.replicate (L - sh.length) (.int 0))) := by rw [hYa, yu_n h5.symm]; exact h3
  have hb1 : Yb.1 x = some (oB 7 [nm, sa, .ref a1, .ref a2, .int (nI sh.length)]) := by rw [hYb, yu_n hxa2]; exact ha1
  have ins : ∀ (f : Int32 × Int32 → Value) (y : Value), f (p1, v1) = y → zs (sh.map f ++ .int 0 :: List.replicate (L - (sh.length + 1)) (.int 0)) sh.length y = (sh ++ [(p1, v1)]).map f ++ List.replicate (L - (sh.length + 1)) (.int 0) := by
    intro f y hy
    have := zs_mid (l := sh.map f) (x := Value.int 0) (y := y) (r := List.replicate (L - (sh.length + 1)) (.int 0))
    rw [List.length_map] at this
    rw [this, List.map_append, List.append_assoc, ← hy]
    rfl
  have get : ∀ (f : Int32 × Int32 → Value), zg (sh.map f ++ .int 0 :: List.replicate (L - (sh.length + 1)) (.int 0)) sh.length = some (.int 0) := by
    intro f
    have := zg_mid (l := sh.map f) (x := Value.int 0) (r := List.replicate (L - (sh.length + 1)) (.int 0))
    rw [List.length_map] at this
    exact this
  have hs1 := yS_of (ok := zsI) (v := .int p1) (y := .int p1) (j := sh.length) (u := .int 0) h2 h7 rfl (by omega) (by rw [hrep]; exact get _)
  have hs2 := yS_of (ok := zsI) (v := .int v1) (y := .int v1) (j := sh.length) (u := .int 0) ha3 h8 rfl (by omega) (by rw [hrep]; exact get _)
  rw [hrep, ins (fun z => Value.int z.1) (.int p1) rfl, ← hYa] at hs1
  rw [hrep, ins (fun z => Value.int z.2) (.int v1) rfl, ← hYb] at hs2
  have hr1 : a1 ≠ rd := fun c => by obtain ⟨_, ⟨⟨_, _, _, j, _⟩, _⟩, _⟩ := hB; rw [c, j] at h2; cases h2
  have hr2 : a2 ≠ rd := fun c => by obtain ⟨_, ⟨⟨_, _, _, j, _⟩, _⟩, _⟩ := hB; rw [c, j] at h3; cases h3
  have hrx : x ≠ rd := RS_ne hB h1 (by decide)
  refine ⟨Yc, ?_, ?_, ?_, ⟨a1, a2, ?_, ?_, ?_, ?_, h5, h6, h7, h8, h9, h10, h11, h12⟩, ?_, ?_, ?_⟩
  · unfold c102
    refine bnd_eq (yI_of h1 rfl) (bnd_eq (yR_of (r := some a1) h1 rfl) (bnd_eq rfl (bnd_eq (yL_of h2) ?_)))
    rw [svl h4]
    refine bnd_eq (bel hl (by omega)) ?_
    dsimp only
    rw [if_neg (by decide)]
    refine bnd_eq (yI_of h1 rfl) (bnd_eq (yR_of (r := some a2) h1 rfl) (bnd_eq rfl (bnd_eq (yL_of h3) ?_)))
    rw [svl h4]
    refine bnd_eq (bel hl (by omega)) ?_
    dsimp only
    rw [if_neg (by decide)]
    refine bnd_eq (yR_of (r := some a1) h1 rfl) (bnd_eq (yI_of h1 rfl) (bnd_eq rfl (bnd_eq hs1 ?_)))
    refine bnd_eq (yR_of (r := some a2) ha1 rfl) (bnd_eq (yI_of ha1 rfl) (bnd_eq rfl (bnd_eq hs2 ?_)))
    refine bnd_eq (yI_of hb1 rfl) (bnd_eq (yP_of hb1 h6 rfl rfl) ?_)
    rw [hYc, nI_1]
    rfl
  · rw [hYc, hYb, hYa]
    refine RS_w (RS_w (RS_w hB h2 rfl hr1 h7) (by rw [← hYa]; exact ha3) rfl hr2 h8) (by rw [← hYa, ← hYb]; exact hb1) rfl hrx h6
  · rw [hYc, hYb, hYa]
    exact FR_n (FR_n (FR_n hf hD h10) hD h11) hD h9
  · rw [hYc, List.length_append]; exact yu_s
  · rw [hYc, yu_n hxa1.symm, hYb, yu_n h5, hYa, List.length_append]; exact yu_s
  · rw [hYc, yu_n hxa2.symm, hYb, List.length_append]; exact yu_s
  · rw [List.length_append]; show sh.length + 1 ≤ L; omega
  · rw [hYc, hYb, hYa]; rfl
  · intro c o hc ho
    rw [hYc, yu_n, hYb, yu_n, hYa, yu_n]
    · exact hc
    · intro d; rw [d, h2] at hc; cases hc; rw [hm7] at ho; cases ho
    · intro d; rw [d, h3] at hc; cases hc; rw [hm8] at ho; cases ho
    · intro d; rw [d, h1] at hc; cases hc; cases ho
  · intro z t hz
    rw [hYc, hYb, hYa]
    exact RTk_w (by rw [← hYa, ← hYb]; exact hb1) rfl _ _ (RTk_w (by rw [← hYa]; exact ha3) rfl _ _ (RTk_w h2 rfl _ _ hz))
end
end ZJR

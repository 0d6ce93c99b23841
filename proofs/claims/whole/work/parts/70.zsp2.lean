/-! THE REFERENCE'S SPLITS -/
section ZSP2
/-- the shares of the split q -/
def SHc (X : zX) (b q : Nat) (sh : List (Int32 × Int32)) : Prop := cv X 46 (100 * b + q) = nI sh.length ∧ ∀ i x, sh[i]? = some x → cv X 47 (8 * (100 * b + q) + i) = x.1 ∧ cv X 48 (8 * (100 * b + q) + i) = x.2
def SPR (X : zX) (b j : Nat) (s : Spl) : Prop := SW X b (cv X 44 (100 * b + j)) s.1 ∧ SW X b (cv X 45 (100 * b + j)) s.2.1 ∧ SHc X b j s.2.2 ∧ 1 ≤ s.2.2.length ∧ s.2.2.length ≤ 8 ∧ ∀ c ∈ s.2.1, dTxt c = true
def SPS (X : zX) (b : Nat) (spl : List Spl) : Prop := cv X 42 b = nI spl.length ∧ spl.length ≤ 100 ∧ ∀ j s, spl[j]? = some s → SPR X b j s
/-- what writing the shares of q leaves as it was -/
def LpK (X X1 : zX) (b q : Nat) : Prop := X1.1 4 = X.1 4 ∧ LN X1 ∧ (∀ i, i ≠ 46 → i ≠ 47 → i ≠ 48 → X1.2.2 i = X.2.2 i) ∧ (∀ j, j ≠ 100 * b + q → cv X1 46 j = cv X 46 j) ∧ ∀ i j, i = 47 ∨ i = 48 → j < 8 * (100 * b + q) ∨ 8 * (100 * b + q) + 8 ≤ j → cv X1 i j = cv X i j
section
variable {n : Nat} {X X1 X2 : zX} {b f q : Nat} {T : List Int32} {fk : Int32} {ts : List Tk} {k : Nat × List (List Int32)} {sh : List (Int32 × Int32)}
theorem LpK_R (hL : LN X) : LpK X X b q := ⟨rfl, hL, fun _ _ _ _ => rfl, fun _ _ => rfl, fun _ _ _ _ => rfl⟩
theorem LpK_T (h1 : LpK X X1 b q) (h2 : LpK X1 X2 b q) : LpK X X2 b q := ⟨h2.1.trans h1.1, h2.2.1, fun i a c d => (h2.2.2.1 i a c d).trans (h1.2.2.1 i a c d), fun j a => (h2.2.2.2.1 j a).trans (h1.2.2.2.1 j a), fun i j a c => (h2.2.2.2.2 i j a c).trans (h1.2.2.2.2 i j a c)⟩
theorem LpK_w {wf : Nat} (hL : LN X) (hw : fr wf 0 X X1) (h4 : X1.1 4 = X.1 4) : LpK X X1 b q := by
  have e : X1.2.2 = X.2.2 := funext fun i => hw.2.2.1 i (by simp)
  exact ⟨h4, LN_of hL hw, fun _ _ _ _ => by rw [e], fun _ _ => cv_of (by rw [e]), fun _ _ _ _ => cv_of (by rw [e])⟩
theorem SHc_of (h : SHc X b q sh) (h8 : sh.length ≤ 8) (e : ∀ i j, i = 46 ∧ j = 100 * b + q ∨ (i = 47 ∨ i = 48) ∧ 8 * (100 * b + q) ≤ j ∧ j < 8 * (100 * b + q) + 8 → cv X1 i j = cv X i j) : SHc X1 b q sh := by
  refine ⟨by rw [e _ _ (Or.inl ⟨rfl, rfl⟩)]; exact h.1, fun i x hx => ?_⟩
  have hi := (List.getElem?_eq_some_iff.mp hx).1
  rw [e 47 _ (Or.inr ⟨Or.inl rfl, by omega, by omega⟩), e 48 _ (Or.inr ⟨Or.inr rfl, by omega, by omega⟩)]
  exact h.2 i x hx
theorem f507 {l1 l2 l3 l4 l5 l6 l7 l8 l9 : Int32} {e : Er} (h : RI X T fk (.inl e)) : gb230_507 n l1 l2 l3 l4 l5 l6 l7 l8 l9 X = some (l6, X) := by
  unfold gb230_507
  rw [ri_nextF h]
  rfl
theorem f476 {l1 l2 l3 l4 l5 l6 l7 l8 l9 : Int32} {e : Er} (h : RI X T fk (.inl e)) : gb230_476 n l1 l2 l3 l4 l5 l6 l7 l8 l9 X = some (l6, X) := by
  obtain ⟨v, ev⟩ := is_any (n := n) (c := 41) h
  unfold gb230_476
  rw [ev]
  dsimp only [Option.bind_some]
  rw [ri_needF h]
  dsimp only [Option.bind_some]
  rw [if_neg (ri_flt h), f507 h]
/-- behind the shares -/
def spFin (y : List (Int32 × Int32) × List Tk) : RR (List (Int32 × Int32) × List Tk) := if (hd y.2).1 = 8 ∧ sumS y.1 ≠ 10000 then .inl (sErr 4 (hd y.2)) else rb (sEat 8 y.2) fun ts => .inr (y.1, ts)
theorem e476 {l1 l2 l3 l4 l5 l6 l7 l9 : Int32} (hR : RI X T fk (.inr ts)) (hb1 : (hd ts).1 ≠ 1) (hn : 6002 ≤ n) : ∃ X1, gb230_476 n l1 l2 l3 l4 l5 l6 l7 (sumS sh) l9 X = some (l6, X1) ∧ PO (fun x : List (Int32 × Int32) × List Tk => x.2) X1 T fk (fun x => x = (sh, adv ts) ∧ g190 n X = some ((), X1)) (spFin (sh, ts)) := by
  obtain ⟨a1, a2, a3, a4, a5, a6, a7⟩ := ri_hd hR hb1
  unfold gb230_476
  rw [is_tok (s := 8) rfl (by decide) hR hb1]
  dsimp only [Option.bind_some]
  by_cases h8 : (hd ts).1 = 8
  · rw [show ((hd ts).1 == 8) = true by simpa using h8, need_t]
    dsimp only [Option.bind_some]
    rw [if_pos a1]
    unfold spFin
    dsimp only
    by_cases hs : sumS sh = 10000
    · rw [if_pos hs, if_neg (fun z => z.2 hs)]
      obtain ⟨X1, e1, e2⟩ := ri_next hR hn
      refine ⟨X1, by unfold gb230_507; rw [e1]; rfl, ?_⟩
      unfold sEat sTake
      rw [if_pos h8]
      exact PO_inr (tl := fun x : List (Int32 × Int32) × List Tk => x.2) (x := (sh, adv ts)) e2 ⟨rfl, e1⟩
    · rw [if_neg hs, if_pos ⟨h8, hs⟩]
      obtain ⟨X1, e1, e2⟩ := ri_bad (n := n) (k := 4) hR hb1
      rw [e1]
      dsimp only [Option.bind_some]
      exact ⟨X1, f507 e2, e2⟩
  · rw [show ((hd ts).1 == 8) = false by simpa using h8]
    obtain ⟨X1, e1, e2⟩ := ri_need (n := n) (b := false) hR hb1
    rw [if_neg (by decide)] at e2
    rw [e1]
    dsimp only [Option.bind_some]
    rw [if_neg (ri_flt e2), f507 e2]
    refine ⟨X1, rfl, ?_⟩
    unfold spFin
    dsimp only
    rw [if_neg (fun z => h8 z.1)]
    unfold sEat sTake
    rw [if_neg h8]
    exact e2
theorem lpF {fu : Nat} {l1 l2 l3 l4 l5 l6 l7 l8 l9 : Int32} {e : Er} (h : RI X T fk (.inl e)) (hf : 0 < fu) : gf230_301 n fu l1 l2 l3 l4 l5 l6 l7 l8 l9 X = some (l6, X) := by
  obtain ⟨fu, rfl⟩ : ∃ m, fu = m + 1 := ⟨fu - 1, by omega⟩
  show gb230_301 n (gf230_301 n fu) l1 l2 l3 l4 l5 l6 l7 l8 l9 X = _
  unfold gb230_301
  split
  · exact f476 h
  · rw [if_neg (ri_flt h)]
    exact f476 h
theorem f440 {fu : Nat} {l1 l2 l3 l4 l5 l6 l7 l8 l9 l10 l11 : Int32} {e : Er} (h : RI X T fk (.inl e)) (hf : 0 < fu) : gb230_440 n (gf230_301 n fu) l1 l2 l3 l4 l5 l6 l7 l8 l9 l10 l11 X = some (l6, X) := by
  unfold gb230_440 gb230_461 gb230_462 gb230_473
  rw [if_neg (ri_flt h), if_pos rfl, lpF h hf]
theorem f372 {fu : Nat} {l1 l2 l3 l4 l5 l6 l7 l8 l9 l10 s0 : Int32} {e : Er} (h : RI X T fk (.inl e)) (hf : 0 < fu) : gb230_372 n (gf230_301 n fu) l1 l2 l3 l4 l5 l6 l7 l8 l9 l10 s0 X = some (l6, X) := by
  unfold gb230_372
  rw [if_neg (ri_flt h), f440 h hf]
theorem f345 {fu : Nat} {l1 l2 l3 l4 l5 l6 l7 l8 l9 l10 : Int32} {e : Er} (h : RI X T fk (.inl e)) (hf : 0 < fu) (hn : 6002 ≤ n) : ∃ X1, gb230_345 n (gf230_301 n fu) l1 l2 l3 l4 l5 l6 l7 l8 l9 l10 X = some (l6, X1) ∧ RI X1 T fk (.inl e) := by
  obtain ⟨X1, e1, e2⟩ := ri_eat (n := n) (c := 58) (s := 11) rfl (by decide) h hn
  have e2 : RI X1 T fk (.inl e) := e2
  refine ⟨X1, ?_, e2⟩
  unfold gb230_345
  rw [ri_nextF h]
  dsimp only [Option.bind_some]
  rw [e1]
  dsimp only [Option.bind_some]
  rw [if_neg (ri_flt e2), f372 e2 hf]
theorem i100 (h4 : X.1 4 = nI b) : (100 : Int32) * X.1 4 + nI q = nI (100 * b + q) := by
  rw [h4, show (100 : Int32) = nI 100 from rfl, nI_mul, nI_add]
theorem i8 {a i : Nat} : (8 : Int32) * nI a + nI i = nI (8 * a + i) := by
  rw [show (8 : Int32) = nI 8 from rfl, nI_mul, nI_add]
theorem sumS_app {x : Int32 × Int32} : sumS (sh ++ [x]) = sumS sh + x.1 := by
  unfold sumS
  rw [List.foldl_append]
  rfl
theorem SHc_add {x : Int32 × Int32} (hL : LN X) (hb : b ≤ 1) (hq : q < 100) (h : SHc X b q sh) (h8 : sh.length < 8) : SHc (up (up (up X 47 (8 * (100 * b + q) + sh.length) x.1) 48 (8 * (100 * b + q) + sh.length) x.2) 46 (100 * b + q) (nI (sh.length + 1))) b q (sh ++ [x]) := by
  refine ⟨?_, fun i y hy => ?_⟩
  · rw [cv_eq (LN_up (LN_up hL)) (by decide) (by show _ < 200; omega), List.length_append]
    rfl
  · have hi := (List.getElem?_eq_some_iff.mp hy).1
    rw [List.length_append] at hi
    have hi : i < sh.length + 1 := hi
    by_cases hz : i = sh.length
    · subst hz
      rw [List.getElem?_append_right (Nat.le_refl _), Nat.sub_self] at hy
      cases hy
      refine ⟨?_, ?_⟩
      · rw [cv_ne (Or.inl (by decide)), cv_ne (Or.inl (by decide)), cv_eq hL (by decide) (by show _ < 1600; omega)]
      · rw [cv_ne (Or.inl (by decide)), cv_eq (LN_up hL) (by decide) (by show _ < 1600; omega)]
    · rw [List.getElem?_append_left (by omega)] at hy
      refine ⟨?_, ?_⟩
      · rw [cv_ne (Or.inl (by decide)), cv_ne (Or.inl (by decide)), cv_ne (by omega)]
        exact (h.2 i y hy).1
      · rw [cv_ne (Or.inl (by decide)), cv_ne (by omega), cv_ne (Or.inl (by decide))]
        exact (h.2 i y hy).2
theorem LpK_add {x : Int32 × Int32} {v : Int32} {i : Nat} (hL : LN X) (hi : i < 8) : LpK X (up (up (up X 47 (8 * (100 * b + q) + i) x.1) 48 (8 * (100 * b + q) + i) x.2) 46 (100 * b + q) v) b q := by
  refine ⟨rfl, LN_up (LN_up (LN_up hL)), fun i h1 h2 h3 => ?_, fun j hj => ?_, fun i j h1 h2 => ?_⟩
  · unfold up
    rw [xA_3, if_neg h1, xA_3, if_neg h3, xA_3, if_neg h2]
  · rw [cv_ne (by omega), cv_ne (by omega), cv_ne (by omega)]
  · rw [cv_ne (by omega), cv_ne (by omega), cv_ne (by omega)]
theorem LpK_kp {ns nf nl nr ni nv : Nat} (h : LpK X X1 b q) (hs : SKa b X X1) : KP X X1 b (cn ns nf nl nr ni nv q) := by
  refine ⟨hs, fun i j h1 h2 => ?_⟩
  by_cases q1 : i = 46
  · subst q1
    exact h.2.2.2.1 j (by have : j < 100 * b + q := h2; omega)
  · by_cases q2 : i = 47
    · subst q2
      exact h.2.2.2.2 _ j (Or.inl rfl) (Or.inl (by have : j < 800 * b + 8 * q := h2; omega))
    · by_cases q3 : i = 48
      · subst q3
        exact h.2.2.2.2 _ j (Or.inr rfl) (Or.inl (by have : j < 800 * b + 8 * q := h2; omega))
      · exact cv_of (h.2.2.1 i q1 q2 q3)
theorem LpK_sk (h : LpK X X1 b q) : SKa b X X1 := SKa_of (h.2.2.1 1 (by decide) (by decide) (by decide)) (h.2.2.1 2 (by decide) (by decide) (by decide)) (h.2.2.1 3 (by decide) (by decide) (by decide))
theorem KND_LpK (hK : KND X b f k) (h : LpK X X1 b q) : KND X1 b f k := KND_kp (nf := f + 1) (ns := 0) (nl := 0) (nr := 0) (ni := 0) (nv := 0) hK (LpK_kp h (LpK_sk h)) (by omega)
end
end ZSP2

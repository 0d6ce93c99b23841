/-! THE CLASS: steps, the tape's bytes -/
section ZJA
section
variable {n : Nat} {Y Y1 Y2 : zY} {a b c k : Nat} {fs : List Value} {v w : Value} {x : Int32} {o o' : Option yO} {T : List Int32} {tp : Nat}
theorem yu_s : (yu Y a o).1 a = o := by rw [yu_1, if_pos rfl]
theorem yu_n (h : b ≠ a) : (yu Y a o).1 b = Y.1 b := by rw [yu_1, if_neg h]
theorem yu_yu : yu (yu Y a o) a o' = yu Y a o' := by
  unfold yu
  refine Prod.ext (funext fun i => ?_) rfl
  dsimp only
  by_cases q : i = a
  · rw [if_pos q, if_pos q]
  · rw [if_neg q, if_neg q, if_neg q]
theorem yV_of (h : Y.1 a = some (oB c fs)) : yV Y a c k = zg fs k := by
  unfold yV
  rw [h]
  dsimp only
  rw [Nat.beq_refl]
theorem yI_of (h : Y.1 a = some (oB c fs)) (hk : zg fs k = some (.int x)) : yI Y a c k = some x := by
  unfold yI
  rw [yV_of h, hk]
  rfl
theorem yR_of {r : Option Nat} (h : Y.1 a = some (oB c fs)) (hk : zg fs k = some (va_rf r)) : yR Y a c k = some r := by
  unfold yR
  rw [yV_of h, hk]
  cases r <;> rfl
theorem yP_of (h : Y.1 a = some (oB c fs)) (ha : 139 ≤ a) (hf : zfit (zty c k) v = true) (hk : zg fs k = some w) : yP Y a c k v = some (yu Y a (some (oB c (zs fs k v)))) := by
  unfold yP
  rw [h]
  dsimp only
  have hb : (Nat.beq c c && Nat.ble zn0 a && zfit (zty c k) v) = true := by rw [Nat.beq_refl, hf, show Nat.ble zn0 a = true from Nat.ble_eq_true_of_le ha]; rfl
  rw [hb]
  dsimp only
  rw [hk]
theorem yisO_of (h : Y.1 a = some (oB c fs)) : yisO Y a c = true := by
  unfold yisO
  rw [h]
  exact Nat.beq_refl c
theorem rEq_s {p q : Nat} (hp : 1 ≤ p) (hq : 1 ≤ q) : rEq (some p) (some q) = some (decide (p = q)) := by
  show zreq (.ref p) (.ref q) = _
  unfold zreq
  dsimp only
  have : (Nat.ble 1 p && Nat.ble 1 q) = true := by rw [show Nat.ble 1 p = true from Nat.ble_eq_true_of_le hp, show Nat.ble 1 q = true from Nat.ble_eq_true_of_le hq]; rfl
  rw [this]
theorem if_t {α : Type} {x y r : α} {b : Bool} (h : b = true) (e : x = r) : (if b = true then x else y) = r := by rw [if_pos h]; exact e
/-- what costs room -/
def wY (Y : zY) : Nat := 16 * Y.2.2.1 + Y.2.2.2
/-- all that stood stays, but S; w more room -/
def FRY (Y Y1 : zY) (S : List Nat) (w : Nat) : Prop := Y.2.1 ≤ Y1.2.1 ∧ wY Y1 ≤ wY Y + w ∧ ∀ a o, Y.1 a = some o → a ∈ S ∨ Y1.1 a = some o
/-- no cell behind the last one -/
def DM (Y : zY) : Prop := 231 ≤ Y.2.1 ∧ ∀ a o, Y.1 a = some o → a < Y.2.1
theorem FRY_R : FRY Y Y [] 0 := ⟨Nat.le_refl _, by omega, fun _ _ h => Or.inr h⟩
theorem FRY_T {S : List Nat} {w w' : Nat} (h1 : FRY Y Y1 S w) (h2 : FRY Y1 Y2 S w') : FRY Y Y2 S (w + w') := ⟨Nat.le_trans h1.1 h2.1, by have := h1.2.1; have := h2.2.1; omega, fun a o h => by
  rcases h1.2.2 a o h with q | q
  · exact Or.inl q
  · exact h2.2.2 a o q⟩
theorem FRY_M {S S' : List Nat} {w w' : Nat} (h : FRY Y Y1 S w) (hs : ∀ a ∈ S, a ∈ S') (hw : w ≤ w') : FRY Y Y1 S' w' := ⟨h.1, by have := h.2.1; omega, fun a o q => (h.2.2 a o q).imp (hs a) id⟩
theorem FRY_u {ob : yO} (S : List Nat) (hS : a ∈ S) : FRY Y (yu Y a (some ob)) S 0 := ⟨Nat.le_refl _, Nat.le_refl _, fun b o h => by
  by_cases q : b = a
  · left; rw [q]; exact hS
  · right; rw [yu_n q]; exact h⟩
theorem FRY_a {ob : yO} {c : Nat} (hd : DM Y) : FRY Y (ya Y ob c) [] (16 + c) := ⟨by show Y.2.1 ≤ Y.2.1 + 1; omega, by show 16 * (Y.2.2.1 + 1) + (Y.2.2.2 + c) ≤ 16 * Y.2.2.1 + Y.2.2.2 + (16 + c); omega, fun b o h => by
  right
  show (if b = Y.2.1 then some ob else Y.1 b) = some o
  rw [if_neg (by have := hd.2 b o h; omega)]
  exact h⟩
theorem DM_u {ob : yO} (h : DM Y) (ha : a < Y.2.1) : DM (yu Y a (some ob)) := ⟨h.1, fun b o hb => by
  by_cases q : b = a
  · rw [q]; exact ha
  · rw [yu_n q] at hb; exact h.2 b o hb⟩
theorem DM_a {ob : yO} {c : Nat} (h : DM Y) : DM (ya Y ob c) := ⟨by show 231 ≤ Y.2.1 + 1; have := h.1; omega, fun b o hb => by
  show b < Y.2.1 + 1
  by_cases q : b = Y.2.1
  · omega
  · have hb : (if b = Y.2.1 then some ob else Y.1 b) = some o := hb
    rw [if_neg q] at hb
    have := h.2 b o hb
    omega⟩
theorem ya_s {ob : yO} {c : Nat} : (ya Y ob c).1 Y.2.1 = some ob := by show (if Y.2.1 = Y.2.1 then some ob else _) = _; rw [if_pos rfl]
theorem ya_n {ob : yO} {c : Nat} (h : b ≠ Y.2.1) : (ya Y ob c).1 b = Y.1 b := by show (if b = Y.2.1 then some ob else _) = _; rw [if_neg h]
/-! the tape -/
def TAP (Y : zY) (tp : Nat) (T : List Int32) : Prop := ∃ ba vs, Y.1 tp = some (oB 8 [.ref ba, .int (nI T.length)]) ∧ Y.1 ba = some (oA 1 vs) ∧ vs.length = 6000 ∧ T.length ≤ 6000 ∧ (∀ (i : Nat) (b : Int32), T[i]? = some b → vs[i]? = some (.int (nB b))) ∧ (∀ b ∈ T, byt b) ∧ 139 ≤ tp ∧ 139 ≤ ba
theorem TAP_F {S : List Nat} {w : Nat} (h : TAP Y tp T) (hf : FRY Y Y1 S w) (hS : ∀ a fs, Y.1 a = some (oB 8 fs) → a ∉ S) (hA : ∀ a t vs, Y.1 a = some (oA t vs) → a ∉ S) : TAP Y1 tp T := by
  obtain ⟨ba, vs, h1, h2, h3⟩ := h
  refine ⟨ba, vs, ?_, ?_, h3⟩
  · rcases hf.2.2 tp _ h1 with q | q
    · exact absurd q (hS tp _ h1)
    · exact q
  · rcases hf.2.2 ba _ h2 with q | q
    · exact absurd q (hA ba _ _ h2)
    · exact q
theorem TAP_F0 {w : Nat} (h : TAP Y tp T) (hf : FRY Y Y1 [] w) : TAP Y1 tp T := TAP_F h hf (fun _ _ _ q => by cases q) (fun _ _ _ _ q => by cases q)
theorem tap_len (h : TAP Y tp T) : yI Y tp 8 1 = some (nI T.length) := by
  obtain ⟨ba, vs, h1, _⟩ := h
  exact yI_of h1 rfl
theorem tap_o (h : TAP Y tp T) : yisO Y tp 8 = true := by
  obtain ⟨ba, vs, h1, _⟩ := h
  exact yisO_of h1
theorem nB_and {x : Int32} (h : byt x) : nB x &&& 255 = x := byt_and h
theorem byt_at {i : Nat} (h : TAP Y tp T) (hi : i < 100000) : c12 n tp (nI i) Y = some (tAt T i, Y) := by
  obtain ⟨ba, vs, h1, h2, h3, h4, h5, h6, _⟩ := h
  unfold c12 c13
  refine bnd_eq (yI_of h1 rfl) ?_
  rw [if_neg (nI_pos (by omega))]
  by_cases hl : i < T.length
  · rw [if_neg (nI_ge hl (by omega))]
    dsimp only [Option.bind_some]
    rw [if_neg (by decide)]
    refine bnd_eq (yR_of (r := some ba) h1 rfl) ?_
    dsimp only [Option.bind_some]
    have hL : yL Y ba = some (nI 6000) := by unfold yL; rw [h2]; dsimp only; rw [h3]
    refine bnd_eq hL ?_
    rw [if_neg (nI_ge (show i < 6000 by omega) (by omega))]
    refine bnd_eq (yR_of (r := some ba) h1 rfl) ?_
    dsimp only [Option.bind_some]
    have hT : T[i]? = some T[i] := List.getElem?_eq_getElem hl
    have hv := h5 i _ hT
    have hB : yaB Y ba (nI i) = some (nB T[i]) := by
      unfold yaB yal
      rw [h2]
      dsimp only
      have : ((Nat.beq 1 1 || Nat.beq 1 2) && !decide (nI i < 0)) = true := by rw [decide_eq_false (nI_pos (by omega))]; rfl
      rw [this]
      dsimp only
      rw [nI_clamp (by omega), zg_eq, hv]
      rfl
    refine bnd_eq hB ?_
    rw [nB_and (h6 _ (List.getElem_mem hl)), tAt_lt hl]
  · rw [if_pos (nI_le (by omega) (by omega))]
    dsimp only [Option.bind_some]
    rw [if_pos rfl]
    unfold tAt
    rw [zg_eq, List.getElem?_eq_none (by omega)]
    rfl
theorem isBlk {x : Int32} : c14 n x Y = some (b2 (dBlk x), Y) := by
  unfold c14 dBlk
  by_cases h1 : x = 9
  · rw [if_pos h1, h1]; rfl
  rw [if_neg h1, show (x == 9) = false by simpa using h1]
  by_cases h2 : x = 10
  · rw [if_pos h2, h2]; rfl
  rw [if_neg h2, show (x == 10) = false by simpa using h2]
  by_cases h3 : x = 13
  · rw [if_pos h3, h3]; rfl
  rw [if_neg h3, show (x == 13) = false by simpa using h3]
  by_cases h4 : x = 32
  · rw [if_pos h4, h4]; rfl
  rw [if_neg h4, show (x == 32) = false by simpa using h4]
  rfl
theorem isLet {x : Int32} : c16 n x Y = some (b2 (dLet x), Y) := by
  unfold c16 cb16_12 dLet dIn
  by_cases h1 : x < 97
  · rw [if_pos h1, decide_eq_true h1]
    by_cases h2 : x < 65
    · rw [if_pos h2, decide_eq_true h2]; rfl
    rw [if_neg h2, decide_eq_false h2]
    by_cases h3 : 90 < x
    · rw [if_pos h3, decide_eq_true h3]; rfl
    rw [if_neg h3, decide_eq_false h3]; rfl
  · rw [if_neg h1, decide_eq_false h1]
    by_cases h2 : x ≤ 122
    · rw [if_pos h2, decide_eq_false (Int32.not_lt.mpr h2)]; rfl
    · rw [if_neg h2, decide_eq_true (Int32.not_le.mp h2)]
      by_cases h4 : x < 65
      · rw [if_pos h4, decide_eq_true h4]; rfl
      rw [if_neg h4, decide_eq_false h4]
      by_cases h3 : 90 < x
      · rw [if_pos h3, decide_eq_true h3]; rfl
      rw [if_neg h3, decide_eq_false h3]; rfl
theorem isDig {x : Int32} : c19 n x Y = some (b2 (dDig x), Y) := by
  unfold c19 dDig dIn
  by_cases h1 : x < 48
  · rw [if_pos h1, decide_eq_true h1]; rfl
  rw [if_neg h1, decide_eq_false h1]
  by_cases h2 : 57 < x
  · rw [if_pos h2, decide_eq_true h2]; rfl
  rw [if_neg h2, decide_eq_false h2]; rfl
theorem isWrd {x : Int32} : c18 n x Y = some (b2 (dWrd x), Y) := by
  unfold c18 dWrd
  rw [isLet]
  dsimp only [Option.bind_some]
  rw [isDig]
  dsimp only [Option.bind_some]
  cases dLet x with
  | true => rw [if_neg (by decide)]; rfl
  | false =>
    rw [if_pos b2_f]
    cases dDig x with
    | true => rw [if_neg (by decide)]; rfl
    | false =>
      rw [if_pos b2_f]
      by_cases h : x = 95
      · rw [if_pos h, h]; rfl
      · rw [if_neg h, show (x == 95) = false by simpa using h]; rfl
theorem isTxt {x : Int32} : c32 n x Y = some (b2 (dTxt x), Y) := by
  unfold c32 dTxt dIn
  by_cases h1 : x < 32
  · rw [if_pos h1, decide_eq_true h1]; rfl
  rw [if_neg h1, decide_eq_false h1]
  by_cases h2 : 126 < x
  · rw [if_pos h2, decide_eq_true h2]; rfl
  rw [if_neg h2, decide_eq_false h2]
  by_cases h3 : x = 39
  · rw [if_pos h3, h3]; rfl
  · rw [if_neg h3, show (x == 39) = false by simpa using h3]; rfl
/-! a token -/
/-- the text that the class keeps of a token -/
def ttx (t : Tk) : List Int32 := if t.1 = 3 then dcI t.2.2.2 else t.2.2.1
theorem tok_ini {y0 : Option Nat} {y1 y2 y4 : Int32} {y3 : Option Nat} {v0 v1 v2 v3 v4 v5 : Value} (h : Y.1 a = some (oB 9 [v0, v1, v2, v3, v4, v5])) (ha : 139 ≤ a) : c15 n a y0 y1 y2 y3 y4 Y = some ((), yu Y a (some (oB 9 [va_rf y0, .int y1, .int y2, va_rf y3, .int y4, .null]))) := by
  unfold c15
  refine bnd_eq (yP_of h ha rfl rfl) ?_
  refine bnd_eq (yP_of yu_s ha (by cases y0 <;> rfl) rfl) ?_
  rw [yu_yu]
  refine bnd_eq (yP_of yu_s ha rfl rfl) ?_
  rw [yu_yu]
  refine bnd_eq (yP_of yu_s ha rfl rfl) ?_
  rw [yu_yu]
  refine bnd_eq (yP_of yu_s ha (by cases y3 <;> rfl) rfl) ?_
  rw [yu_yu]
  refine bnd_eq (yP_of yu_s ha rfl rfl) ?_
  rw [yu_yu]
  rfl
end
end ZJA

/-! THE PURE PART, fifth text: what the decompiled functions stand on -/
section ZHEM
theorem zbnd {α β : Type} {o : Option α} {f : α → Option β} {r : β} (h : o.bind f = some r) : ∃ x, o = some x ∧ f x = some r := by
  cases o with
  | none => cases h
  | some x => exact ⟨x, rfl, h⟩
def zgd {α : Type} (b : Bool) (x : Option α) : Option α := match b with
  | true => x
  | false => none
theorem zgd_some {α : Type} {b : Bool} {x : Option α} {r : α} (h : zgd b x = some r) : b = true ∧ x = some r := by
  cases b with
  | true => exact ⟨rfl, h⟩
  | false => cases h
abbrev eI (x : Int32) : zRs := .inl (some (.int x))
abbrev eJ (x : Int64) : zRs := .inl (some (.long x))
abbrev eA (x : Option Nat) : zRs := .inl (some (va_rf x))
abbrev eV (_ : Unit) : zRs := .inl none
def eIx (x : Int32 ⊕ Nat) : zRs := match x with
  | .inl x => eI x
  | .inr e => .inr e
def eAx (x : Option Nat ⊕ Nat) : zRs := match x with
  | .inl x => eA x
  | .inr e => .inr e
def eVx (x : Unit ⊕ Nat) : zRs := match x with
  | .inl x => eV x
  | .inr e => .inr e
/-- a callee that may throw: what is done with its answer, what with its exception -/
def zth {ρ α η : Type} (p : (ρ ⊕ Nat) × η) (k : ρ → η → Option α) (x : Nat → η → Option α) : Option α := match p.1 with
  | .inl r => k r p.2
  | .inr e => x e p.2
theorem zthG {ρ α η : Type} {r : ρ} {h : η} {k : ρ → η → Option α} {x : Nat → η → Option α} {q : Option α} (e : zth (.inl r, h) k x = q) : k r h = q := e
theorem zthH {ρ α η : Type} {r : Nat} {h : η} {k : ρ → η → Option α} {x : Nat → η → Option α} {q : Option α} (e : zth (.inr r, h) k x = q) : x r h = q := e
def thH (h : zH) : zH := (h.1, h.2.1 + 1, h.2.2 + 6)
theorem zsl_rf (r : Option Nat) (vs : List Value) : zsl (va_rf r :: vs) = some (va_rf r) :: zsl vs := by cases r <;> rfl
theorem zcat_le : ∀ st : List Value, zcat st ≤ 2 * st.length
  | [] => Nat.le_refl _
  | v :: st => by
    have h1 := zcat_le st
    have h2 : v.category ≤ 2 := by cases v <;> simp [Value.category]
    show v.category + zcat st ≤ 2 * (st.length + 1)
    omega
theorem zc4 {st : List Value} (h : st.length ≤ 4) : zcat st ≤ 8 := by have := zcat_le st; omega
theorem zc8 {st : List Value} {k : Nat} (h : zcat st ≤ k) (hk : k ≤ 8) : zcat st ≤ 8 := Nat.le_trans h hk
theorem zct_n : zcat [] ≤ 0 := Nat.le_refl _
theorem zct_c {v : Value} {st : List Value} {k j : Nat} (hv : v.category ≤ j) (h : zcat st ≤ k) : zcat (v :: st) ≤ k + j := by
  show v.category + zcat st ≤ k + j
  omega
theorem zct_i {x : Int32} {st : List Value} {k : Nat} (h : zcat st ≤ k) : zcat (.int x :: st) ≤ k + 1 := zct_c (Nat.le_refl 1) h
theorem zct_j {x : Int64} {st : List Value} {k : Nat} (h : zcat st ≤ k) : zcat (.long x :: st) ≤ k + 2 := zct_c (Nat.le_refl 2) h
theorem zct_r {x : Nat} {st : List Value} {k : Nat} (h : zcat st ≤ k) : zcat (.ref x :: st) ≤ k + 1 := zct_c (Nat.le_refl 1) h
theorem zct_0 {st : List Value} {k : Nat} (h : zcat st ≤ k) : zcat (.null :: st) ≤ k + 1 := zct_c (Nat.le_refl 1) h
theorem zct_u {st : List Value} {k : Nat} (h : zcat st ≤ k) : zcat (.retAddr 0 :: st) ≤ k + 1 := zct_c (Nat.le_refl 1) h
theorem zct_a {x : Option Nat} {st : List Value} {k : Nat} (h : zcat st ≤ k) : zcat (va_rf x :: st) ≤ k + 1 := by cases x; exact zct_0 h; exact zct_r h
section
variable {d m pc a1 a3 : Nat} {L : List (Option Value)} {Ls : List (Option Value)} {st vs rest : List Value} {h : zH} {Q : zRs → zH → Prop} {i : Instr}
theorem zC_of (ez : zsl vs = Ls) (eL : Ls ++ List.replicate (zmx m - Ls.length) none = L) (k : zW d m 0 L [] h Q) : zC d m vs h Q := by
  unfold zC zent
  rw [ez, eL]
  exact k
theorem zhc (ez : zsl vs = Ls) (hl : Nat.ble Ls.length (zmx a1) = true) (h4 : zcat rest ≤ 8) : (Nat.ble (zcat rest) 8 && Nat.ble (zsl vs).length (zmx a1)) = true := by
  rw [ez, hl, Nat.ble_eq_true_of_le h4]
  rfl
theorem zx_callE (hi : zisInv i = true) (hp : zprog m pc = some (i, a1, 0, a3)) (h3 : Nat.beq a3 1 = false) (htk : zTk (zar a1) st [] = some (vs, rest)) (hr : zrcv a3 vs h = true) (ez : zsl vs = Ls) (hl : Nat.ble Ls.length (zmx a1) = true) (h4 : zcat rest ≤ 8) (kk : zC d a1 vs h (zAft true (d + 1) m pc L rest Q)) : zW (d + 1) m pc L st h Q := zx_call hi hp h3 htk hr (zhc ez hl h4) kk
theorem zx_callF (hi : zisInv i = true) (hp : zprog m pc = some (i, a1, 2, a3)) (h3 : Nat.beq a3 1 = false) (htk : zTk (zar a1) st [] = some (vs, rest)) (hr : zrcv a3 vs h = true) (ez : zsl vs = Ls) (hl : Nat.ble Ls.length (zmx a1) = true) (h4 : zcat rest ≤ 8) (kk : zC d a1 vs h (zAft false (d + 1) m pc L rest Q)) : zW (d + 1) m pc L st h Q := zx_call2 hi hp h3 htk hr (zhc ez hl h4) kk
variable {thr : Bool}
theorem zaI {x : Int32} (k : zW d m (pc + 3) L (.int x :: rest) h Q) : zAft thr d m pc L rest Q (eI x) h := k
theorem zaJ {x : Int64} (k : zW d m (pc + 3) L (.long x :: rest) h Q) : zAft thr d m pc L rest Q (eJ x) h := k
theorem zaA {x : Option Nat} (k : zW d m (pc + 3) L (va_rf x :: rest) h Q) : zAft thr d m pc L rest Q (eA x) h := k
theorem zaV {x : Unit} (k : zW d m (pc + 3) L rest h Q) : zAft thr d m pc L rest Q (eV x) h := k
theorem zaX {e : Nat} (hh : zhas m = false) (he : exOk e = true) (k : Q (.inr e) h) : zAft true d m pc L rest Q (.inr e) h := by
  refine ⟨rfl, ?_⟩
  have : zhd m pc e = some none := by
    unfold zhd
    rw [hh]
    dsimp only
    rw [show (Nat.ble 18 e && Nat.ble e 20) = true from he]
  rw [this]
  exact k
theorem zaH {e hp : Nat} (hh : zhd m pc e = some (some hp)) (k : zW d m hp L [.retAddr 0] h Q) : zAft true d m pc L rest Q (.inr e) h := by
  refine ⟨rfl, ?_⟩
  rw [hh]
  exact k
theorem zx_bret {y : Int32} {ty : FieldType} {a2 : Nat} (hp : zprog m pc = some (.ireturn, a1, a2, a3)) (h3 : Nat.beq a3 1 = false) (ht : zrt m = some ty) (hy : zrtn ty y = true) (q : Q (eI y) h) : zW d m pc L [.int y] h Q := zx_ireturn hp h3 ht hy q
end
theorem zne {x y : Int32} (c : ¬ x = y) {z : Int} (hz : y.toInt = z) : x.toInt ≠ z := fun q => c (Int32.toInt_inj.mp (q.trans hz.symm))
theorem zsw_d {pc t : Nat} {dflt lo hi : Int} {offs : Array Int} {x : Int32} (hx : x.toInt < lo ∨ hi < x.toInt) (h0 : 0 ≤ (pc : Int) + dflt) (ht : ((pc : Int) + dflt).toNat = t) : zsw pc dflt lo hi offs x = some t := by
  unfold zsw
  rw [decide_eq_true hx]
  dsimp only
  rw [decide_eq_true h0, ht]
end ZHEM
section ZHEN
/-- a local that holds no number of two places -/
def zn2 (x : Option Value) : Bool := match x with
  | some v => Nat.beq v.category 1
  | none => true
theorem zn2_rf (r : Option Nat) : zn2 (some (va_rf r)) = true := by cases r <;> rfl
theorem zcl_X {L : List (Option Value)} {j : Nat} {x : Option Value} (h : zg L j = some x) (hx : zn2 x = true) : zcl L (j + 1) = false := by
  unfold zcl
  cases x with
  | none => simp [h]
  | some v =>
    cases v <;> first | (cases hx; done) | simp [h]
theorem zput_ok {L L' : List (Option Value)} {k : Nat} {v : Value} {y : Option Value} (h1 : zg L k = some y) (h2 : zcl L k = false) (e : zs L k (some v) = L') : zput L k v = some L' := by
  unfold zput
  rw [h1]
  dsimp only
  rw [h2, e]
theorem zput2_ok {L L' : List (Option Value)} {k : Nat} {v : Value} {y : Option Value} (h1 : zg L (k + 1) = some y) (h2 : zcl L k = false) (e : zs (zs L k (some v)) (k + 1) none = L') : zput2 L k v = some L' := by
  unfold zput2
  rw [h1]
  dsimp only
  rw [h2, e]
end ZHEN

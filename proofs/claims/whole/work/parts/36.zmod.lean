/-! THE REFERENCE'S MEMORY: its object stands at 159, its arrays at 160 .. 230 (written by a program of the verifier's) -/
section ZMOD
/-- its fields: the numbers by a function, the hash -/
def mF (s : Nat → Int32) (hh : Int64) : List Value := [.int (s 0), .ref 160, .int (s 2), .int (s 3), .int (s 4), .ref 161, .ref 162, .ref 163, .ref 164, .ref 165, .ref 166, .ref 167, .ref 168, .ref 169, .ref 170, .ref 171, .ref 172, .ref 173, .ref 174, .ref 175, .ref 176, .ref 177, .ref 178, .ref 179, .ref 180, .ref 181, .ref 182, .ref 183, .ref 184, .ref 185, .ref 186, .ref 187, .ref 188, .ref 189, .ref 190, .ref 191, .ref 192, .ref 193, .ref 194, .ref 195, .ref 196, .ref 197, .ref 198, .ref 199, .ref 200, .ref 201, .ref 202, .ref 203, .ref 204, .ref 205, .ref 206, .ref 207, .ref 208, .ref 209, .ref 210, .ref 211, .ref 212, .ref 213, .ref 214, .ref 215, .ref 216, .ref 217, .ref 218, .ref 219, .int (s 64), .int (s 65), .ref 220, .ref 221, .int (s 68), .int (s 69), .int (s 70), .int (s 71), .int (s 72), .int (s 73), .ref 222, .int (s 75), .int (s 76), .ref 223, .ref 224, .ref 225, .ref 226, .ref 227, .ref 228, .ref 229, .long hh, .int (s 85), .int (s 86), .int (s 87), .int (s 88), .int (s 89), .int (s 90), .ref 230]
def mtyL : List Nat := [1, 0, 0, 1, 0, 0, 0, 0, 0, 0, 0, 0, 0, 0, 0, 0, 0, 0, 0, 0, 0, 0, 0, 0, 0, 0, 0, 0, 0, 0, 0, 0, 0, 0, 0, 0, 0, 0, 0, 0, 0, 0, 0, 2, 0, 0, 0, 0, 0, 0, 0, 0, 2, 0, 0, 0, 0, 0, 0, 0, 2, 0, 0, 0, 0, 0, 0, 0, 2, 2, 0]
def mlnL : List Nat := [6000, 2, 3016, 48256, 2, 24, 24, 24, 24, 2, 48, 48, 48, 384, 48, 48, 48, 192, 192, 192, 192, 192, 192, 192, 192, 2, 16, 16, 2, 200, 200, 200, 200, 200, 200, 2, 80, 80, 80, 2, 480, 480, 2, 200, 200, 200, 200, 1600, 1600, 2, 800, 800, 800, 800, 800, 800, 800, 800, 2, 48, 8, 8, 24, 24, 24, 24, 24, 24, 400, 12, 24]
/-- the type and the length of the array at 160 + i -/
def mty (i : Nat) : Nat := (zg mtyL i).getD 0
def mln (i : Nat) : Nat := (zg mlnL i).getD 0
def us (s : Nat → Int32) (k : Nat) (v : Int32) : Nat → Int32 := fun i => match Nat.beq i k with
  | true => v
  | false => s i
def uA (A : Nat → List Int32) (k : Nat) (l : List Int32) : Nat → List Int32 := fun i => match Nat.beq i k with
  | true => l
  | false => A i
theorem us_self {s : Nat → Int32} {k : Nat} {v : Int32} : us s k v k = v := by unfold us; rw [Nat.beq_refl]
theorem us_ne {s : Nat → Int32} {k i : Nat} {v : Int32} (h : i ≠ k) : us s k v i = s i := by
  unfold us
  cases q : Nat.beq i k with
  | true => exact absurd (Nat.eq_of_beq_eq_true q) h
  | false => rfl
theorem uA_self {A : Nat → List Int32} {k : Nat} {l : List Int32} : uA A k l k = l := by unfold uA; rw [Nat.beq_refl]
theorem uA_ne {A : Nat → List Int32} {k i : Nat} {l : List Int32} (h : i ≠ k) : uA A k l i = A i := by
  unfold uA
  cases q : Nat.beq i k with
  | true => exact absurd (Nat.eq_of_beq_eq_true q) h
  | false => rfl
abbrev zI32 (l : List Int32) : List Value := l.map (fun x => Value.int x)
/-- the objects from 159 on -/
def mO (s : Nat → Int32) (hh : Int64) (A : Nat → List Int32) : List zO := .inr (11, mF s hh) :: (List.range 71).map (fun i => .inl (mty i, zI32 (A i)))
/-- the heap h0 with this memory -/
def mp (h0 : zH) (s : Nat → Int32) (hh : Int64) (A : Nat → List Int32) : zH := (h0.1.take 159 ++ (mO s hh A ++ h0.1.drop 231), h0.2)
theorem zg_appL {α : Type} {l r : List α} {k : Nat} (h : k < l.length) : zg (l ++ r) k = zg l k := by rw [zg_eq, zg_eq, List.getElem?_append_left h]
theorem zg_appR {α : Type} {l r : List α} {k : Nat} (h : l.length ≤ k) : zg (l ++ r) k = zg r (k - l.length) := by rw [zg_eq, zg_eq, List.getElem?_append_right h]
theorem zs_appL {α : Type} {x : α} : ∀ {l r : List α} {k : Nat}, k < l.length → zs (l ++ r) k x = zs l k x ++ r
  | [], r, k, h => absurd h (Nat.not_lt_zero k)
  | a :: l, r, 0, h => rfl
  | a :: l, r, k + 1, h => by
    show a :: zs (l ++ r) k x = a :: (zs l k x ++ r)
    rw [zs_appL (Nat.lt_of_succ_lt_succ h)]
theorem zs_appR {α : Type} {x : α} : ∀ {l r : List α} {k : Nat}, l.length ≤ k → zs (l ++ r) k x = l ++ zs r (k - l.length) x
  | [], r, k, h => rfl
  | a :: l, r, 0, h => absurd h (by rw [List.length_cons]; omega)
  | a :: l, r, k + 1, h => by
    show a :: zs (l ++ r) k x = a :: (l ++ zs r (k + 1 - (a :: l).length) x)
    rw [zs_appR (by rw [List.length_cons] at h; omega), show k + 1 - (a :: l).length = k - l.length by rw [List.length_cons]; omega]
theorem mO_len {s : Nat → Int32} {hh : Int64} {A : Nat → List Int32} : (mO s hh A).length = 72 := by unfold mO; rw [List.length_cons, List.length_map, List.length_range]
section
variable {h0 : zH} {s : Nat → Int32} {hh : Int64} {A : Nat → List Int32}
theorem mp_len (hl : 231 ≤ h0.1.length) : (mp h0 s hh A).1.length = h0.1.length := by
  show (h0.1.take 159 ++ (mO s hh A ++ h0.1.drop 231)).length = _
  rw [List.length_append, List.length_append, mO_len, List.length_take, List.length_drop]
  omega
theorem mp_at (hl : 231 ≤ h0.1.length) {k : Nat} (h1 : 159 ≤ k) (h2 : k ≤ 230) : zg (mp h0 s hh A).1 k = zg (mO s hh A) (k - 159) := by
  show zg (h0.1.take 159 ++ (mO s hh A ++ h0.1.drop 231)) k = _
  have e : (h0.1.take 159).length = 159 := by rw [List.length_take]; omega
  rw [zg_appR (by rw [e]; exact h1), e, zg_appL (by rw [mO_len]; omega)]
theorem mp_obj (hl : 231 ≤ h0.1.length) : zg (mp h0 s hh A).1 159 = some (.inr (11, mF s hh)) := by rw [mp_at hl (by omega) (by omega)]; rfl
theorem mp_arr (hl : 231 ≤ h0.1.length) {i : Nat} (hi : i < 71) : zg (mp h0 s hh A).1 (160 + i) = some (.inl (mty i, zI32 (A i))) := by
  rw [mp_at hl (by omega) (by omega), show 160 + i - 159 = i + 1 by omega]
  show zg ((List.range 71).map (fun i => Sum.inl (mty i, zI32 (A i)))) i = _
  rw [zg_eq, List.getElem?_map, List.getElem?_range hi]
  rfl
theorem mp_oth (hl : 231 ≤ h0.1.length) {k : Nat} (hk : k < 159 ∨ 231 ≤ k) : zg (mp h0 s hh A).1 k = zg h0.1 k := by
  show zg (h0.1.take 159 ++ (mO s hh A ++ h0.1.drop 231)) k = _
  have e : (h0.1.take 159).length = 159 := by rw [List.length_take]; omega
  rcases hk with hk | hk
  · rw [zg_appL (by rw [e]; exact hk), zg_eq, zg_eq, List.getElem?_take, if_pos hk]
  · rw [zg_appR (by rw [e]; omega), e, zg_appR (by rw [mO_len]; omega), mO_len, zg_eq, zg_eq, List.getElem?_drop, show 231 + (k - 159 - 72) = k by omega]
theorem mp_set {k : Nat} {x : zO} (hl : 231 ≤ h0.1.length) (h1 : 159 ≤ k) (h2 : k ≤ 230) : zs (mp h0 s hh A).1 k x = h0.1.take 159 ++ (zs (mO s hh A) (k - 159) x ++ h0.1.drop 231) := by
  show zs (h0.1.take 159 ++ (mO s hh A ++ h0.1.drop 231)) k x = _
  have e : (h0.1.take 159).length = 159 := by rw [List.length_take]; omega
  rw [zs_appR (by rw [e]; exact h1), e, zs_appL (by rw [mO_len]; omega)]
theorem mp_setF (hl : 231 ≤ h0.1.length) {fs : List Value} {s' : Nat → Int32} {hh' : Int64} (hf : fs = mF s' hh') : (zs (mp h0 s hh A).1 159 (.inr (11, fs)), (mp h0 s hh A).2) = mp h0 s' hh' A := by
  rw [mp_set hl (by omega) (by omega), hf]
  rfl
theorem zs_map {f g : Nat → zO} {i : Nat} {x : zO} : ∀ (n b : Nat), i < n → (∀ j, j ≠ b + i → f j = g j) → g (b + i) = x → zs ((List.range' b n).map f) i x = (List.range' b n).map g
  | 0, b, h, _, _ => absurd h (Nat.not_lt_zero i)
  | n + 1, b, h, hj, hx => by
    rw [List.range'_succ, List.map_cons, List.map_cons]
    cases i with
    | zero =>
      show x :: _ = _
      rw [← hx, Nat.add_zero]
      congr 1
      apply List.map_congr_left
      intro j hm
      have := List.mem_range'_1.mp hm
      exact hj j (by omega)
    | succ i =>
      show f b :: zs _ i x = _
      rw [hj b (by omega), zs_map (f := f) (g := g) n (b + 1) (by omega) (fun j hne => hj j (by omega)) (by rw [← hx]; congr 1; omega)]
theorem mp_setA (hl : 231 ≤ h0.1.length) {i : Nat} (hi : i < 71) {l : List Int32} {vs : List Value} (hv : vs = zI32 l) {t : Nat} (ht : t = mty i) : (zs (mp h0 s hh A).1 (160 + i) (.inl (t, vs)), (mp h0 s hh A).2) = mp h0 s hh (uA A i l) := by
  rw [mp_set hl (by omega) (by omega), show 160 + i - 159 = i + 1 by omega]
  have e : zs (mO s hh A) (i + 1) (.inl (t, vs)) = mO s hh (uA A i l) := by
    show Sum.inr (11, mF s hh) :: zs ((List.range 71).map (fun i => Sum.inl (mty i, zI32 (A i)))) i (.inl (t, vs)) = _
    unfold mO
    congr 1
    rw [List.range_eq_range']
    refine zs_map 71 0 hi (fun j hne => ?_) ?_
    · rw [uA_ne (by omega)]
    · rw [Nat.zero_add, uA_self, hv, ht]
  rw [e]
  rfl
theorem zg_I32 {l : List Int32} {k : Nat} {v : Int32} (h : zg l k = some v) : zg (zI32 l) k = some (.int v) := by
  rw [zg_eq] at h ⊢
  rw [List.getElem?_map, h]
  rfl
theorem zs_I32 {l : List Int32} : ∀ {k : Nat} {v : Int32}, zs (zI32 l) k (.int v) = zI32 (zs l k v) := by
  induction l with
  | nil => intro k v; rfl
  | cons a l ih =>
    intro k v
    cases k with
    | zero => rfl
    | succ k =>
      show Value.int a :: zs (zI32 l) k (.int v) = _
      rw [ih]
      rfl
end
/-! rules over this memory: L, st as before; the heap is mp h0 s hh A -/
section
variable {d m pc x k a1 a2 a3 : Nat} {L : List (Option Value)} {st : List Value} {h0 : zH} {s : Nat → Int32} {hh : Int64} {A : Nat → List Int32} {Q : zRs → zH → Prop} {v : Value} {j : Int32}
theorem zm_get (hl : 231 ≤ h0.1.length) (hp : zprog m pc = some (.getfield x, 11, k, a3)) (h3 : Nat.beq a3 1 = false) (hv : zg (mF s hh) k = some v) (kk : zW d m (pc + 3) L (v :: st) (mp h0 s hh A) Q) : zW d m pc L (.ref 159 :: st) (mp h0 s hh A) Q := zx_getf hp h3 (mp_obj hl) hv kk
theorem zm_put {y : Value} {s' : Nat → Int32} {hh' : Int64} (hl : 231 ≤ h0.1.length) (hp : zprog m pc = some (.putfield x, 11, k, a3)) (h3 : Nat.beq a3 1 = false) (hf : zfit (zty 11 k) v = true) (hv : zg (mF s hh) k = some y) (hs : zs (mF s hh) k v = mF s' hh') (kk : zW d m (pc + 3) L st (mp h0 s' hh' A) Q) : zW d m pc L (v :: .ref 159 :: st) (mp h0 s hh A) Q :=
  zx_putf hp h3 (mp_obj hl) rfl hf hv (by rw [mp_setF hl hs]; exact kk)
theorem zm_iaload {i : Nat} {y : Int32} (hl : 231 ≤ h0.1.length) (hp : zprog m pc = some (.iaload, a1, a2, a3)) (h3 : Nat.beq a3 1 = false) (hi : i < 71) (ht : mty i = 0) (hj : ¬ j < 0) (hv : zg (A i) j.toNatClampNeg = some y) (kk : zW d m (pc + 1) L (.int y :: st) (mp h0 s hh A) Q) : zW d m pc L (.int j :: .ref (160 + i) :: st) (mp h0 s hh A) Q := zx_iaload hp h3 (by rw [mp_arr hl hi, ht]) hj (zg_I32 hv) kk
theorem zm_baload {i : Nat} {y : Int32} (hl : 231 ≤ h0.1.length) (hp : zprog m pc = some (.baload, a1, a2, a3)) (h3 : Nat.beq a3 1 = false) (hi : i < 71) (ht : (Nat.beq (mty i) 1 || Nat.beq (mty i) 2) = true) (hj : ¬ j < 0) (hv : zg (A i) j.toNatClampNeg = some y) (kk : zW d m (pc + 1) L (.int y :: st) (mp h0 s hh A) Q) : zW d m pc L (.int j :: .ref (160 + i) :: st) (mp h0 s hh A) Q := zx_baload hp h3 ht (mp_arr hl hi) hj (zg_I32 hv) kk
theorem zm_iastore {i : Nat} {y z : Int32} (hl : 231 ≤ h0.1.length) (hp : zprog m pc = some (.iastore, a1, a2, a3)) (h3 : Nat.beq a3 1 = false) (hi : i < 71) (ht : mty i = 0) (hj : ¬ j < 0) (hv : zg (A i) j.toNatClampNeg = some z) (kk : zW d m (pc + 1) L st (mp h0 s hh (uA A i (zs (A i) j.toNatClampNeg y))) Q) : zW d m pc L (.int y :: .int j :: .ref (160 + i) :: st) (mp h0 s hh A) Q :=
  zx_iastore hp h3 (by rw [mp_arr hl hi, ht]) (Nat.ble_eq_true_of_le (by show 139 ≤ _; omega)) hj (zg_I32 hv) (by rw [zs_I32, mp_setA hl hi rfl ht.symm]; exact kk)
theorem zm_bastore {i : Nat} {y y' z : Int32} (hl : 231 ≤ h0.1.length) (hp : zprog m pc = some (.bastore, a1, a2, a3)) (h3 : Nat.beq a3 1 = false) (hi : i < 71) (ht : mty i = 1) (hy : narrow .byte (.int y) = .int y') (hj : ¬ j < 0) (hv : zg (A i) j.toNatClampNeg = some z) (kk : zW d m (pc + 1) L st (mp h0 s hh (uA A i (zs (A i) j.toNatClampNeg y'))) Q) : zW d m pc L (.int y :: .int j :: .ref (160 + i) :: st) (mp h0 s hh A) Q :=
  zx_bastore hp h3 (by rw [mp_arr hl hi, ht]) (Nat.ble_eq_true_of_le (by show 139 ≤ _; omega)) hj (zg_I32 hv) (by rw [hy, zs_I32, mp_setA hl hi rfl ht.symm]; exact kk)
theorem zm_zastore {i : Nat} {y y' z : Int32} (hl : 231 ≤ h0.1.length) (hp : zprog m pc = some (.bastore, a1, a2, a3)) (h3 : Nat.beq a3 1 = false) (hi : i < 71) (ht : mty i = 2) (hy : narrow .boolean (.int y) = .int y') (hj : ¬ j < 0) (hv : zg (A i) j.toNatClampNeg = some z) (kk : zW d m (pc + 1) L st (mp h0 s hh (uA A i (zs (A i) j.toNatClampNeg y'))) Q) : zW d m pc L (.int y :: .int j :: .ref (160 + i) :: st) (mp h0 s hh A) Q :=
  zx_zastore hp h3 (by rw [mp_arr hl hi, ht]) (Nat.ble_eq_true_of_le (by show 139 ≤ _; omega)) hj (zg_I32 hv) (by rw [hy, zs_I32, mp_setA hl hi rfl ht.symm]; exact kk)
theorem zm_rcv {vs : List Value} (hl : 231 ≤ h0.1.length) : zrcv 14 (.ref 159 :: vs) (mp h0 s hh A) = true := zrcv_obj (n := 11) (mp_obj hl)
end

end ZMOD

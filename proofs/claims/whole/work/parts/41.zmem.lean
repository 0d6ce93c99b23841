/-! THE REFERENCE'S MEMORY AS A STATE (partly written by a program of the verifier's) -/
section ZMEM
/-- the reference's memory: its numbers, its hash, its arrays -/
abbrev zX : Type := (Nat → Int32) × Int64 × (Nat → List Int32)
def mq (h0 : zH) (X : zX) : zH := mp h0 X.1 X.2.1 X.2.2
def xF (X : zX) (k : Nat) (v : Int32) : zX := (us X.1 k v, X.2)
def xH (X : zX) (v : Int64) : zX := (X.1, v, X.2.2)
def xA (X : zX) (i : Nat) (l : List Int32) : zX := (X.1, X.2.1, uA X.2.2 i l)
def rd (l : List Int32) (j : Int32) : Option Int32 := match decide (j < 0) with
  | true => none
  | false => zg l j.toNatClampNeg
def wr (X : zX) (i : Nat) (j v : Int32) : Option zX := match rd (X.2.2 i) j with
  | some _ => some (xA X i (zs (X.2.2 i) j.toNatClampNeg v))
  | none => none
def zlet {α β : Type} (a : α) (f : α → β) : β := f a
theorem zlet_ex {α β : Type} {a : α} {f : α → β} {r : β} (h : zlet a f = r) : ∃ x, x = a ∧ f x = r := ⟨a, rfl, h⟩
theorem bnd_eq {α β : Type} {o : Option α} {f : α → Option β} {x : α} {r : Option β} (h : o = some x) (k : f x = r) : o.bind f = r := by rw [h]; exact k
theorem zgd_eq {α : Type} {b : Bool} {x r : Option α} (h : b = true) (k : x = r) : zgd b x = r := by rw [h]; exact k
/-- the objects that stand under every heap here -/
def Fx (h0 : zH) : Prop := 231 ≤ h0.1.length ∧ ∀ a, a < 138 → zg h0.1 (a + 1) = zg zroL a
/-- the bytes of the string that stands at a, among the fixed objects -/
def vI (v : Value) : Int32 := match v with
  | .int x => x
  | _ => 0
def vOk (v : Value) : Bool := match v with
  | .int x => decide (0 ≤ x) && decide (x < 128)
  | _ => false
def cs (a : Nat) : List Int32 := match zg zroL a with
  | some (.inl (_, vs)) => vs.map vI
  | _ => []
def kS (a : Nat) : Bool := Nat.ble 1 a && Nat.ble a 137 && match zg zroL (a - 1), zg zroL a with
  | some (.inr (c, [.ref b, .int z])), some (.inl (t, vs)) => Nat.beq c 12 && Nat.beq b (a + 1) && z == 0 && Nat.beq t 1 && vs.all vOk && Nat.ble vs.length 1000
  | _, _ => false
def yOk (q : Nat) : Bool := Nat.ble q 70 && Nat.beq (mty q) 0
theorem yOk_lt {q : Nat} (h : yOk q = true) : q < 71 := by
  unfold yOk at h
  simp only [Bool.and_eq_true] at h
  exact Nat.lt_succ_of_le (Nat.le_of_ble_eq_true h.1)
theorem yOk_ty {q : Nat} (h : yOk q = true) : mty q = 0 := by
  unfold yOk at h
  simp only [Bool.and_eq_true] at h
  exact Nat.eq_of_beq_eq_true h.2
/-- half of a row of two banks -/
def mHL : List Nat := [0, 1, 1500, 24000, 1, 12, 12, 12, 12, 1, 24, 24, 24, 192, 24, 24, 24, 96, 96, 96, 96, 96, 96, 96, 96, 1, 8, 8, 1, 100, 100, 100, 100, 100, 100, 1, 40, 40, 40, 1, 240, 240, 1, 100, 100, 100, 100, 800, 800, 1, 400, 400, 400, 400, 400, 400, 400, 400, 1, 24, 0, 0, 0, 0, 0, 0, 0, 0, 0, 0, 0]
def mH (i : Nat) : Nat := (zg mHL i).getD 0
/-- the place j of row i is in bank b (or behind both) -/
def bkO (b : Int32) (i : Nat) (j : Int32) : Bool := Nat.beq (j.toNatClampNeg / mH i) b.toNatClampNeg || Nat.ble (2 * mH i) j.toNatClampNeg
def ptO (s z : Int32) : Bool := !decide (s < 0) && Nat.ble s.toNatClampNeg 2999 && decide (z ≤ 16)
section
variable {h0 : zH} {X X1 : zX} {k i : Nat} {v y : Int32} {j : Int32}
theorem rd_some {l : List Int32} (h : rd l j = some v) : ¬ j < 0 ∧ zg l j.toNatClampNeg = some v := by
  unfold rd at h
  split at h
  · cases h
  · rename_i q; exact ⟨of_decide_eq_false q, h⟩
theorem wr_some (h : wr X i j v = some X1) : ∃ y, rd (X.2.2 i) j = some y ∧ X1 = xA X i (zs (X.2.2 i) j.toNatClampNeg v) := by
  unfold wr at h
  split at h
  · rename_i y q; cases h; exact ⟨y, q, rfl⟩
  · cases h
theorem mg_V {w : Value} (hl : Fx h0) (e : zg (mF X.1 X.2.1) k = some w) : gV (mq h0 X) 159 11 k = some w := by
  unfold gV mq
  rw [mp_obj hl.1]
  exact e
theorem mg_I (hl : Fx h0) (e : zg (mF X.1 X.2.1) k = some (.int v)) : gI (mq h0 X) 159 11 k = some v := by
  unfold gI
  rw [mg_V hl e]
theorem mg_J {v : Int64} (hl : Fx h0) (e : zg (mF X.1 X.2.1) k = some (.long v)) : gJ (mq h0 X) 159 11 k = some v := by
  unfold gJ
  rw [mg_V hl e]
theorem mg_R {a : Nat} (hl : Fx h0) (e : zg (mF X.1 X.2.1) k = some (.ref a)) : gR (mq h0 X) 159 11 k = some (some a) := by
  unfold gR
  rw [mg_V hl e]
theorem mp_V {w y : Value} (hl : Fx h0) (hf : zfit (zty 11 k) w = true) (hv : zg (mF X.1 X.2.1) k = some y) (hs : zs (mF X.1 X.2.1) k w = mF X1.1 X1.2.1) (hA : X1.2.2 = X.2.2) : pF (mq h0 X) 159 11 k w = some (mq h0 X1) := by
  unfold pF mq
  rw [mp_obj hl.1]
  dsimp only
  rw [show (Nat.beq 11 11 && Nat.ble zn0 159 && zfit (zty 11 k) w) = true by rw [hf]; rfl, hv]
  dsimp only
  rw [mp_setF hl.1 hs, hA]
theorem m_aL (hl : Fx h0) {ok : Nat → Bool} (hi : i < 71) (ht : ok (mty i) = true) (e : rd (X.2.2 i) j = some y) : aL ok (mq h0 X) (160 + i) j = some (.int y) := by
  obtain ⟨e1, e2⟩ := rd_some e
  unfold aL mq
  rw [mp_arr hl.1 hi]
  dsimp only
  rw [ht, decide_eq_false e1]
  exact zg_I32 e2
theorem m_aI (hl : Fx h0) (hi : i < 71) (ht : mty i = 0) (e : rd (X.2.2 i) j = some y) : aI (mq h0 X) (160 + i) j = some y := by
  unfold aI
  rw [m_aL hl hi (by rw [ht]; rfl) e]
  rfl
theorem m_aB (hl : Fx h0) (hi : i < 71) (ht : (Nat.beq (mty i) 1 || Nat.beq (mty i) 2) = true) (e : rd (X.2.2 i) j = some y) : aB (mq h0 X) (160 + i) j = some y := by
  unfold aB
  rw [m_aL hl hi ht e]
  rfl
theorem m_s (hl : Fx h0) {ok : Nat → Value → Option Value} {w : Value} (hi : i < 71) (ht : ok (mty i) w = some (.int v)) (e : wr X i j v = some X1) : aS ok (mq h0 X) (160 + i) j w = some (mq h0 X1) := by
  obtain ⟨y, e1, e2⟩ := wr_some e
  obtain ⟨e3, e4⟩ := rd_some e1
  unfold aS zast mq
  dsimp only
  rw [mp_arr hl.1 hi]
  dsimp only
  rw [ht]
  dsimp only
  rw [decide_eq_false e3, show Nat.ble zn0 (160 + i) = true from Nat.ble_eq_true_of_le (by show 139 ≤ _; omega), zg_I32 e4, zs_I32]
  dsimp only [Bool.not_false, Bool.and_true]
  rw [mp_setA hl.1 hi rfl rfl, e2]
  rfl
theorem m_sI (hl : Fx h0) (hi : i < 71) (ht : mty i = 0) (e : wr X i j v = some X1) : aS zsI (mq h0 X) (160 + i) j (.int v) = some (mq h0 X1) := m_s hl hi (by rw [ht]; rfl) e
theorem m_sB (hl : Fx h0) (hi : i < 71) (ht : mty i = 1) (e : wr X i j v.toInt8.toInt32 = some X1) : aS zsB (mq h0 X) (160 + i) j (.int v) = some (mq h0 X1) := m_s hl hi (by rw [ht]; rfl) e
theorem m_sZ (hl : Fx h0) (hi : i < 71) (ht : mty i = 2) (e : wr X i j (v &&& 1) = some X1) : aS zsB (mq h0 X) (160 + i) j (.int v) = some (mq h0 X1) := m_s hl hi (by rw [ht]; rfl) e
theorem m_isO (hl : Fx h0) : isO (mq h0 X) 159 11 = true := by
  unfold isO mq
  rw [mp_obj hl.1]
  rfl
/-- a string: its object and its bytes -/
def STR (h : zH) (a : Nat) (bs : List Int32) : Prop := ∃ v, zg h.1 a = some (.inr (12, [.ref v, .int 0])) ∧ zg h.1 v = some (.inl (1, zI32 bs)) ∧ bs.length < 100000
theorem zI32_vI : ∀ {vs : List Value}, vs.all vOk = true → zI32 (vs.map vI) = vs
  | [], _ => rfl
  | v :: vs, h => by
    rw [List.all_cons, Bool.and_eq_true] at h
    show Value.int (vI v) :: zI32 (vs.map vI) = v :: vs
    rw [zI32_vI h.2]
    cases v with
    | int x => rfl
    | _ => exact absurd h.1 (by simp [vOk])
theorem cs_vOk {b : Int32} : ∀ {vs : List Value}, vs.all vOk = true → b ∈ vs.map vI → 0 ≤ b ∧ b < 128
  | [], _, h => by cases h
  | v :: vs, h, hm => by
    rw [List.all_cons, Bool.and_eq_true] at h
    rw [List.map_cons] at hm
    rcases List.mem_cons.mp hm with q | q
    · cases v with
      | int x =>
        have := h.1
        unfold vOk at this
        rw [Bool.and_eq_true] at this
        rw [q]
        exact ⟨of_decide_eq_true this.1, of_decide_eq_true this.2⟩
      | _ => exact absurd h.1 (by simp [vOk])
    · exact cs_vOk h.2 q
theorem kS_spec {a : Nat} (h : kS a = true) : 1 ≤ a ∧ a ≤ 137 ∧ ∃ vs, zg zroL (a - 1) = some (.inr (12, [.ref (a + 1), .int 0])) ∧ zg zroL a = some (.inl (1, vs)) ∧ vs.all vOk = true ∧ vs.length ≤ 1000 := by
  unfold kS at h
  rw [Bool.and_eq_true, Bool.and_eq_true] at h
  refine ⟨Nat.le_of_ble_eq_true h.1.1, Nat.le_of_ble_eq_true h.1.2, ?_⟩
  have h2 := h.2
  split at h2
  · rename_i c b z t vs e1 e2
    simp only [Bool.and_eq_true] at h2
    obtain ⟨⟨⟨⟨⟨k1, k2⟩, k3⟩, k4⟩, k5⟩, k6⟩ := h2
    rw [Nat.eq_of_beq_eq_true k1, Nat.eq_of_beq_eq_true k2, eq_of_beq k3] at e1
    rw [Nat.eq_of_beq_eq_true k4] at e2
    exact ⟨vs, e1, e2, k5, Nat.le_of_ble_eq_true k6⟩
  · cases h2
theorem m_str {a : Nat} (hl : Fx h0) (h : kS a = true) : STR (mq h0 X) a (cs a) := by
  obtain ⟨h1, h2, vs, e1, e2, e3, e4⟩ := kS_spec h
  have ec : cs a = vs.map vI := by unfold cs; rw [e2]
  refine ⟨a + 1, ?_, ?_, ?_⟩
  · unfold mq
    rw [mp_oth hl.1 (Or.inl (by omega)), show a = (a - 1) + 1 by omega, hl.2 (a - 1) (by omega), e1]
    rw [show a - 1 + 1 + 1 = a + 1 by omega]
  · unfold mq
    rw [mp_oth hl.1 (Or.inl (by omega)), hl.2 a (by omega), e2, ec, zI32_vI e3]
  · rw [ec, List.length_map]
    omega
theorem m_isS {a : Nat} (hl : Fx h0) (h : kS a = true) : isO (mq h0 X) a 12 = true := by
  obtain ⟨v, e, _⟩ := m_str (X := X) hl h
  unfold isO
  rw [e]
  rfl
end
theorem xF_1 {X : zX} {k j : Nat} {v : Int32} : (xF X k v).1 j = if j = k then v else X.1 j := by
  show us X.1 k v j = _
  split
  · rename_i h; rw [h, us_self]
  · rename_i h; rw [us_ne h]
theorem xF_2 {X : zX} {k : Nat} {v : Int32} : (xF X k v).2 = X.2 := rfl
theorem xH_1 {X : zX} {v : Int64} : (xH X v).1 = X.1 := rfl
theorem xH_2 {X : zX} {v : Int64} : (xH X v).2.1 = v := rfl
theorem xH_3 {X : zX} {v : Int64} : (xH X v).2.2 = X.2.2 := rfl
theorem xA_1 {X : zX} {i : Nat} {l : List Int32} : (xA X i l).1 = X.1 := rfl
theorem xA_2 {X : zX} {i : Nat} {l : List Int32} : (xA X i l).2.1 = X.2.1 := rfl
theorem xA_3 {X : zX} {i j : Nat} {l : List Int32} : (xA X i l).2.2 j = if j = i then l else X.2.2 j := by
  show uA X.2.2 i l j = _
  split
  · rename_i h; rw [h, uA_self]
  · rename_i h; rw [uA_ne h]
theorem zs_set {α : Type} : ∀ (l : List α) (n : Nat) (x : α), zs l n x = l.set n x
  | [], _, _ => rfl
  | a :: l, 0, x => rfl
  | a :: l, n + 1, x => by
    show a :: zs l n x = a :: l.set n x
    rw [zs_set l n x]
theorem zg_zs_ne {α : Type} {l : List α} {n m : Nat} {x : α} (h : n ≠ m) : zg (zs l n x) m = zg l m := by
  rw [zg_eq, zg_eq, zs_set, List.getElem?_set_ne h]
theorem zg_zs_eq {α : Type} {l : List α} {n : Nat} {x : α} (h : n < l.length) : zg (zs l n x) n = some x := by
  rw [zg_eq, zs_set, List.getElem?_set_self h]

section
variable {h0 : zH} {X X1 : zX} {v : Int32}
theorem mgI_0 (hl : Fx h0) : gI (mq h0 X) 159 11 0 = some (X.1 0) := mg_I hl rfl
theorem mpI_0 (hl : Fx h0) (e : X1 = xF X 0 v) : pF (mq h0 X) 159 11 0 (.int v) = some (mq h0 X1) := by cases e; exact mp_V hl rfl rfl rfl rfl
theorem mgR_1 (hl : Fx h0) : gR (mq h0 X) 159 11 1 = some (some 160) := mg_R hl rfl
theorem mgI_2 (hl : Fx h0) : gI (mq h0 X) 159 11 2 = some (X.1 2) := mg_I hl rfl
theorem mpI_2 (hl : Fx h0) (e : X1 = xF X 2 v) : pF (mq h0 X) 159 11 2 (.int v) = some (mq h0 X1) := by cases e; exact mp_V hl rfl rfl rfl rfl
theorem mgI_3 (hl : Fx h0) : gI (mq h0 X) 159 11 3 = some (X.1 3) := mg_I hl rfl
theorem mpI_3 (hl : Fx h0) (e : X1 = xF X 3 v) : pF (mq h0 X) 159 11 3 (.int v) = some (mq h0 X1) := by cases e; exact mp_V hl rfl rfl rfl rfl
theorem mgI_4 (hl : Fx h0) : gI (mq h0 X) 159 11 4 = some (X.1 4) := mg_I hl rfl
theorem mpI_4 (hl : Fx h0) (e : X1 = xF X 4 v) : pF (mq h0 X) 159 11 4 (.int v) = some (mq h0 X1) := by cases e; exact mp_V hl rfl rfl rfl rfl
theorem mgR_5 (hl : Fx h0) : gR (mq h0 X) 159 11 5 = some (some 161) := mg_R hl rfl
theorem mgR_6 (hl : Fx h0) : gR (mq h0 X) 159 11 6 = some (some 162) := mg_R hl rfl
theorem mgR_7 (hl : Fx h0) : gR (mq h0 X) 159 11 7 = some (some 163) := mg_R hl rfl
theorem mgR_8 (hl : Fx h0) : gR (mq h0 X) 159 11 8 = some (some 164) := mg_R hl rfl
theorem mgR_9 (hl : Fx h0) : gR (mq h0 X) 159 11 9 = some (some 165) := mg_R hl rfl
theorem mgR_10 (hl : Fx h0) : gR (mq h0 X) 159 11 10 = some (some 166) := mg_R hl rfl
theorem mgR_11 (hl : Fx h0) : gR (mq h0 X) 159 11 11 = some (some 167) := mg_R hl rfl
theorem mgR_12 (hl : Fx h0) : gR (mq h0 X) 159 11 12 = some (some 168) := mg_R hl rfl
theorem mgR_13 (hl : Fx h0) : gR (mq h0 X) 159 11 13 = some (some 169) := mg_R hl rfl
theorem mgR_14 (hl : Fx h0) : gR (mq h0 X) 159 11 14 = some (some 170) := mg_R hl rfl
theorem mgR_15 (hl : Fx h0) : gR (mq h0 X) 159 11 15 = some (some 171) := mg_R hl rfl
theorem mgR_16 (hl : Fx h0) : gR (mq h0 X) 159 11 16 = some (some 172) := mg_R hl rfl
theorem mgR_17 (hl : Fx h0) : gR (mq h0 X) 159 11 17 = some (some 173) := mg_R hl rfl
theorem mgR_18 (hl : Fx h0) : gR (mq h0 X) 159 11 18 = some (some 174) := mg_R hl rfl
theorem mgR_19 (hl : Fx h0) : gR (mq h0 X) 159 11 19 = some (some 175) := mg_R hl rfl
theorem mgR_20 (hl : Fx h0) : gR (mq h0 X) 159 11 20 = some (some 176) := mg_R hl rfl
theorem mgR_21 (hl : Fx h0) : gR (mq h0 X) 159 11 21 = some (some 177) := mg_R hl rfl
theorem mgR_22 (hl : Fx h0) : gR (mq h0 X) 159 11 22 = some (some 178) := mg_R hl rfl
theorem mgR_23 (hl : Fx h0) : gR (mq h0 X) 159 11 23 = some (some 179) := mg_R hl rfl
theorem mgR_24 (hl : Fx h0) : gR (mq h0 X) 159 11 24 = some (some 180) := mg_R hl rfl
theorem mgR_25 (hl : Fx h0) : gR (mq h0 X) 159 11 25 = some (some 181) := mg_R hl rfl
theorem mgR_26 (hl : Fx h0) : gR (mq h0 X) 159 11 26 = some (some 182) := mg_R hl rfl
theorem mgR_27 (hl : Fx h0) : gR (mq h0 X) 159 11 27 = some (some 183) := mg_R hl rfl
theorem mgR_28 (hl : Fx h0) : gR (mq h0 X) 159 11 28 = some (some 184) := mg_R hl rfl
theorem mgR_29 (hl : Fx h0) : gR (mq h0 X) 159 11 29 = some (some 185) := mg_R hl rfl
theorem mgR_30 (hl : Fx h0) : gR (mq h0 X) 159 11 30 = some (some 186) := mg_R hl rfl
theorem mgR_31 (hl : Fx h0) : gR (mq h0 X) 159 11 31 = some (some 187) := mg_R hl rfl
theorem mgR_32 (hl : Fx h0) : gR (mq h0 X) 159 11 32 = some (some 188) := mg_R hl rfl
theorem mgR_33 (hl : Fx h0) : gR (mq h0 X) 159 11 33 = some (some 189) := mg_R hl rfl
theorem mgR_34 (hl : Fx h0) : gR (mq h0 X) 159 11 34 = some (some 190) := mg_R hl rfl
theorem mgR_35 (hl : Fx h0) : gR (mq h0 X) 159 11 35 = some (some 191) := mg_R hl rfl
theorem mgR_36 (hl : Fx h0) : gR (mq h0 X) 159 11 36 = some (some 192) := mg_R hl rfl
theorem mgR_37 (hl : Fx h0) : gR (mq h0 X) 159 11 37 = some (some 193) := mg_R hl rfl
theorem mgR_38 (hl : Fx h0) : gR (mq h0 X) 159 11 38 = some (some 194) := mg_R hl rfl
theorem mgR_39 (hl : Fx h0) : gR (mq h0 X) 159 11 39 = some (some 195) := mg_R hl rfl
theorem mgR_40 (hl : Fx h0) : gR (mq h0 X) 159 11 40 = some (some 196) := mg_R hl rfl
theorem mgR_41 (hl : Fx h0) : gR (mq h0 X) 159 11 41 = some (some 197) := mg_R hl rfl
theorem mgR_42 (hl : Fx h0) : gR (mq h0 X) 159 11 42 = some (some 198) := mg_R hl rfl
theorem mgR_43 (hl : Fx h0) : gR (mq h0 X) 159 11 43 = some (some 199) := mg_R hl rfl
theorem mgR_44 (hl : Fx h0) : gR (mq h0 X) 159 11 44 = some (some 200) := mg_R hl rfl
theorem mgR_45 (hl : Fx h0) : gR (mq h0 X) 159 11 45 = some (some 201) := mg_R hl rfl
theorem mgR_46 (hl : Fx h0) : gR (mq h0 X) 159 11 46 = some (some 202) := mg_R hl rfl
theorem mgR_47 (hl : Fx h0) : gR (mq h0 X) 159 11 47 = some (some 203) := mg_R hl rfl
theorem mgR_48 (hl : Fx h0) : gR (mq h0 X) 159 11 48 = some (some 204) := mg_R hl rfl
theorem mgR_49 (hl : Fx h0) : gR (mq h0 X) 159 11 49 = some (some 205) := mg_R hl rfl
theorem mgR_50 (hl : Fx h0) : gR (mq h0 X) 159 11 50 = some (some 206) := mg_R hl rfl
theorem mgR_51 (hl : Fx h0) : gR (mq h0 X) 159 11 51 = some (some 207) := mg_R hl rfl
theorem mgR_52 (hl : Fx h0) : gR (mq h0 X) 159 11 52 = some (some 208) := mg_R hl rfl
theorem mgR_53 (hl : Fx h0) : gR (mq h0 X) 159 11 53 = some (some 209) := mg_R hl rfl
theorem mgR_54 (hl : Fx h0) : gR (mq h0 X) 159 11 54 = some (some 210) := mg_R hl rfl
theorem mgR_55 (hl : Fx h0) : gR (mq h0 X) 159 11 55 = some (some 211) := mg_R hl rfl
theorem mgR_56 (hl : Fx h0) : gR (mq h0 X) 159 11 56 = some (some 212) := mg_R hl rfl
theorem mgR_57 (hl : Fx h0) : gR (mq h0 X) 159 11 57 = some (some 213) := mg_R hl rfl
theorem mgR_58 (hl : Fx h0) : gR (mq h0 X) 159 11 58 = some (some 214) := mg_R hl rfl
theorem mgR_59 (hl : Fx h0) : gR (mq h0 X) 159 11 59 = some (some 215) := mg_R hl rfl
theorem mgR_60 (hl : Fx h0) : gR (mq h0 X) 159 11 60 = some (some 216) := mg_R hl rfl
theorem mgR_61 (hl : Fx h0) : gR (mq h0 X) 159 11 61 = some (some 217) := mg_R hl rfl
theorem mgR_62 (hl : Fx h0) : gR (mq h0 X) 159 11 62 = some (some 218) := mg_R hl rfl
theorem mgR_63 (hl : Fx h0) : gR (mq h0 X) 159 11 63 = some (some 219) := mg_R hl rfl
theorem mgI_64 (hl : Fx h0) : gI (mq h0 X) 159 11 64 = some (X.1 64) := mg_I hl rfl
theorem mpI_64 (hl : Fx h0) (e : X1 = xF X 64 v) : pF (mq h0 X) 159 11 64 (.int v) = some (mq h0 X1) := by cases e; exact mp_V hl rfl rfl rfl rfl
theorem mgI_65 (hl : Fx h0) : gI (mq h0 X) 159 11 65 = some (X.1 65) := mg_I hl rfl
theorem mpI_65 (hl : Fx h0) (e : X1 = xF X 65 v) : pF (mq h0 X) 159 11 65 (.int v) = some (mq h0 X1) := by cases e; exact mp_V hl rfl rfl rfl rfl
theorem mgR_66 (hl : Fx h0) : gR (mq h0 X) 159 11 66 = some (some 220) := mg_R hl rfl
theorem mgR_67 (hl : Fx h0) : gR (mq h0 X) 159 11 67 = some (some 221) := mg_R hl rfl
theorem mgI_68 (hl : Fx h0) : gI (mq h0 X) 159 11 68 = some (X.1 68) := mg_I hl rfl
theorem mpI_68 (hl : Fx h0) (e : X1 = xF X 68 v) : pF (mq h0 X) 159 11 68 (.int v) = some (mq h0 X1) := by cases e; exact mp_V hl rfl rfl rfl rfl
theorem mgI_69 (hl : Fx h0) : gI (mq h0 X) 159 11 69 = some (X.1 69) := mg_I hl rfl
theorem mpI_69 (hl : Fx h0) (e : X1 = xF X 69 v) : pF (mq h0 X) 159 11 69 (.int v) = some (mq h0 X1) := by cases e; exact mp_V hl rfl rfl rfl rfl
theorem mgI_70 (hl : Fx h0) : gI (mq h0 X) 159 11 70 = some (X.1 70) := mg_I hl rfl
theorem mpI_70 (hl : Fx h0) (e : X1 = xF X 70 v) : pF (mq h0 X) 159 11 70 (.int v) = some (mq h0 X1) := by cases e; exact mp_V hl rfl rfl rfl rfl
theorem mgI_71 (hl : Fx h0) : gI (mq h0 X) 159 11 71 = some (X.1 71) := mg_I hl rfl
theorem mpI_71 (hl : Fx h0) (e : X1 = xF X 71 v) : pF (mq h0 X) 159 11 71 (.int v) = some (mq h0 X1) := by cases e; exact mp_V hl rfl rfl rfl rfl
theorem mgI_72 (hl : Fx h0) : gI (mq h0 X) 159 11 72 = some (X.1 72) := mg_I hl rfl
theorem mpI_72 (hl : Fx h0) (e : X1 = xF X 72 v) : pF (mq h0 X) 159 11 72 (.int v) = some (mq h0 X1) := by cases e; exact mp_V hl rfl rfl rfl rfl
theorem mgI_73 (hl : Fx h0) : gI (mq h0 X) 159 11 73 = some (X.1 73) := mg_I hl rfl
theorem mpI_73 (hl : Fx h0) (e : X1 = xF X 73 v) : pF (mq h0 X) 159 11 73 (.int v) = some (mq h0 X1) := by cases e; exact mp_V hl rfl rfl rfl rfl
theorem mgR_74 (hl : Fx h0) : gR (mq h0 X) 159 11 74 = some (some 222) := mg_R hl rfl
theorem mgI_75 (hl : Fx h0) : gI (mq h0 X) 159 11 75 = some (X.1 75) := mg_I hl rfl
theorem mpI_75 (hl : Fx h0) (e : X1 = xF X 75 v) : pF (mq h0 X) 159 11 75 (.int v) = some (mq h0 X1) := by cases e; exact mp_V hl rfl rfl rfl rfl
theorem mgI_76 (hl : Fx h0) : gI (mq h0 X) 159 11 76 = some (X.1 76) := mg_I hl rfl
theorem mpI_76 (hl : Fx h0) (e : X1 = xF X 76 v) : pF (mq h0 X) 159 11 76 (.int v) = some (mq h0 X1) := by cases e; exact mp_V hl rfl rfl rfl rfl
theorem mgR_77 (hl : Fx h0) : gR (mq h0 X) 159 11 77 = some (some 223) := mg_R hl rfl
theorem mgR_78 (hl : Fx h0) : gR (mq h0 X) 159 11 78 = some (some 224) := mg_R hl rfl
theorem mgR_79 (hl : Fx h0) : gR (mq h0 X) 159 11 79 = some (some 225) := mg_R hl rfl
theorem mgR_80 (hl : Fx h0) : gR (mq h0 X) 159 11 80 = some (some 226) := mg_R hl rfl
theorem mgR_81 (hl : Fx h0) : gR (mq h0 X) 159 11 81 = some (some 227) := mg_R hl rfl
theorem mgR_82 (hl : Fx h0) : gR (mq h0 X) 159 11 82 = some (some 228) := mg_R hl rfl
theorem mgR_83 (hl : Fx h0) : gR (mq h0 X) 159 11 83 = some (some 229) := mg_R hl rfl
theorem mgJ_84 (hl : Fx h0) : gJ (mq h0 X) 159 11 84 = some X.2.1 := mg_J hl rfl
theorem mpJ_84 {v : Int64} (hl : Fx h0) (e : X1 = xH X v) : pF (mq h0 X) 159 11 84 (.long v) = some (mq h0 X1) := by cases e; exact mp_V hl rfl rfl rfl rfl
theorem mgI_85 (hl : Fx h0) : gI (mq h0 X) 159 11 85 = some (X.1 85) := mg_I hl rfl
theorem mpI_85 (hz : zfit .boolean (.int v) = true) (hl : Fx h0) (e : X1 = xF X 85 v) : pF (mq h0 X) 159 11 85 (.int v) = some (mq h0 X1) := by cases e; exact mp_V hl hz rfl rfl rfl
theorem mgI_86 (hl : Fx h0) : gI (mq h0 X) 159 11 86 = some (X.1 86) := mg_I hl rfl
theorem mpI_86 (hl : Fx h0) (e : X1 = xF X 86 v) : pF (mq h0 X) 159 11 86 (.int v) = some (mq h0 X1) := by cases e; exact mp_V hl rfl rfl rfl rfl
theorem mgI_87 (hl : Fx h0) : gI (mq h0 X) 159 11 87 = some (X.1 87) := mg_I hl rfl
theorem mpI_87 (hl : Fx h0) (e : X1 = xF X 87 v) : pF (mq h0 X) 159 11 87 (.int v) = some (mq h0 X1) := by cases e; exact mp_V hl rfl rfl rfl rfl
theorem mgI_88 (hl : Fx h0) : gI (mq h0 X) 159 11 88 = some (X.1 88) := mg_I hl rfl
theorem mpI_88 (hl : Fx h0) (e : X1 = xF X 88 v) : pF (mq h0 X) 159 11 88 (.int v) = some (mq h0 X1) := by cases e; exact mp_V hl rfl rfl rfl rfl
theorem mgI_89 (hl : Fx h0) : gI (mq h0 X) 159 11 89 = some (X.1 89) := mg_I hl rfl
theorem mpI_89 (hl : Fx h0) (e : X1 = xF X 89 v) : pF (mq h0 X) 159 11 89 (.int v) = some (mq h0 X1) := by cases e; exact mp_V hl rfl rfl rfl rfl
theorem mgI_90 (hl : Fx h0) : gI (mq h0 X) 159 11 90 = some (X.1 90) := mg_I hl rfl
theorem mpI_90 (hl : Fx h0) (e : X1 = xF X 90 v) : pF (mq h0 X) 159 11 90 (.int v) = some (mq h0 X1) := by cases e; exact mp_V hl rfl rfl rfl rfl
theorem mgR_91 (hl : Fx h0) : gR (mq h0 X) 159 11 91 = some (some 230) := mg_R hl rfl
end
end ZMEM

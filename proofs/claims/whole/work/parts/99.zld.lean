/-! THE CALLS OF THE REFERENCE: feed, know -/
section ZLD2
theorem and255 (x : Int32) : x &&& 255 = nI (x.toBitVec.toNat % 256) := by
  apply Int32.toBitVec_inj.mp
  rw [Int32.toBitVec_and]
  apply BitVec.eq_of_toNat_eq
  rw [BitVec.toNat_and]
  show x.toBitVec.toNat &&& 255 = (BitVec.ofNat 32 (x.toBitVec.toNat % 256)).toNat
  rw [BitVec.toNat_ofNat, Nat.mod_eq_of_lt (show x.toBitVec.toNat % 256 < 2 ^ 32 by omega)]
  exact Nat.and_two_pow_sub_one_eq_mod _ 8
theorem byt_255 (x : Int32) : byt (x &&& 255) := ⟨x.toBitVec.toNat % 256, by omega, and255 x⟩
theorem nB_255 (x : Int32) : nB (x &&& 255) = nB x := by
  show (x &&& 255).toInt8.toInt32 = x.toInt8.toInt32
  have : (x &&& 255).toInt8 = x.toInt8 := by
    rw [Int32.toInt8_and, show (255 : Int32).toInt8 = -1 by decide]
    simp
  rw [this]
/-- what is fed -/
def pck (a b c d e : Int32) (i : Nat) : Int32 := if i < 4 then a else if i < 8 then b else if i < 12 then c else if i < 16 then d else e
def bAt (a b c d e : Int32) (i : Nat) : Int32 := (pck a b c d e i >>> (nI (24 - 8 * (i % 4)) &&& 31)) &&& 255
def fed (a b c d e : Int32) : List Int32 := (List.range 20).map (bAt a b c d e)
theorem fed_l {a b c d e : Int32} : (fed a b c d e).length = 20 := by unfold fed; rw [List.length_map, List.length_range]
theorem fed_g {a b c d e : Int32} {i : Nat} (h : i < 20) : (fed a b c d e)[i]? = some (bAt a b c d e i) := by
  unfold fed
  rw [List.getElem?_map, List.getElem?_range h]
  rfl
theorem fed_s {a b c d e : Int32} {i : Nat} (h : i < 20) : (fed a b c d e).take (i + 1) = (fed a b c d e).take i ++ [bAt a b c d e i] := by
  rw [List.take_add_one, fed_g h]
  rfl
theorem fed_b {a b c d e : Int32} : ∀ x ∈ fed a b c d e, byt x := by
  intro x hx
  unfold fed at hx
  obtain ⟨i, _, rfl⟩ := List.mem_map.mp hx
  exact byt_255 _
def sFeed (a b c d e : Int32) (S : St) : Out := if 5980 < S.1.length then (1, 0, S) else (0, nI (S.1.length + 20), (S.1 ++ fed a b c d e, S.2))
section
variable {n : Nat} {X X1 X2 : zX} {S : St} {v y a b c d e f : Int32} {T : List Int32} {L : Ldd} {K : KL} {fk0 : Int32} {r : RR (List Tk)}
theorem TP_snoc {x : Int32} (h : TP X T) (hl : T.length < 6000) (hx : byt x) : TP (xF (xA X 0 (zs (X.2.2 0) T.length (nB x))) 2 (nI (T.length + 1))) (T ++ [x]) := by
  obtain ⟨t1, t2, t3, t4, t5⟩ := h
  refine ⟨?_, ?_, ?_, fun i b hb => ?_, fun b hb => ?_⟩
  · rw [xF_1, if_pos rfl, List.length_append]; rfl
  · rw [List.length_append]; show T.length + 1 ≤ 6000; omega
  · show ((xA X 0 (zs (X.2.2 0) T.length (nB x))).2.2 0).length = 6000
    rw [xA_3, if_pos rfl, zs_length]; exact t3
  · show zg ((xA X 0 (zs (X.2.2 0) T.length (nB x))).2.2 0) i = some (nB b)
    rw [xA_3, if_pos rfl]
    rw [zg_eq] at hb
    rcases get_app hb with hb | ⟨hi, rfl⟩
    · rw [zg_zs_ne (by have := lt_of_get hb; omega)]
      exact t4 i b (by rw [zg_eq]; exact hb)
    · rw [hi, zg_zs_eq (by omega)]
  · rcases List.mem_append.mp hb with hb | hb
    · exact t5 b hb
    · rw [List.mem_singleton.mp hb]; exact hx
theorem fd_p {q : Int32 → Int32 → Int32 → Int32 → Int32 → Int32 → zX → Option (Int32 × zX)} {i : Nat} (hi : i < 20) : gb184_30 n q a b c d e (nI i) X = gb184_83 n q a b c d e (nI i) (pck a b c d e i) X := by
  unfold gb184_30 pck
  rw [if_neg (show ¬ (20 : Int32) ≤ nI i from (nI_ge hi (by omega) : ¬ nI 20 ≤ nI i))]
  by_cases h4 : i < 4
  · rw [if_neg (show ¬ (4 : Int32) ≤ nI i from (nI_ge h4 (by omega) : ¬ nI 4 ≤ nI i)), if_pos h4]
  · rw [if_pos (show (4 : Int32) ≤ nI i from (nI_le (by omega) (by omega) : nI 4 ≤ nI i)), if_neg h4]
    by_cases h8 : i < 8
    · rw [if_neg (show ¬ (8 : Int32) ≤ nI i from (nI_ge h8 (by omega) : ¬ nI 8 ≤ nI i)), if_pos h8]
    · rw [if_pos (show (8 : Int32) ≤ nI i from (nI_le (by omega) (by omega) : nI 8 ≤ nI i)), if_neg h8]
      by_cases h12 : i < 12
      · rw [if_neg (show ¬ (12 : Int32) ≤ nI i from (nI_ge h12 (by omega) : ¬ nI 12 ≤ nI i)), if_pos h12]
      · rw [if_pos (show (12 : Int32) ≤ nI i from (nI_le (by omega) (by omega) : nI 12 ≤ nI i)), if_neg h12]
        by_cases h16 : i < 16
        · rw [if_neg (show ¬ (16 : Int32) ≤ nI i from (nI_ge h16 (by omega) : ¬ nI 16 ≤ nI i)), if_pos h16]
        · rw [if_pos (show (16 : Int32) ≤ nI i from (nI_le (by omega) (by omega) : nI 16 ≤ nI i)), if_neg h16]
theorem fd_l (hl : T.length + 20 ≤ 6000) : ∀ (fu i : Nat) {X : zX}, i ≤ 20 → 20 - i < fu → TP X (T ++ (fed a b c d e).take i) → ∃ X1, gf184_30 n fu a b c d e (nI i) X = some (nI (T.length + 20), X1) ∧ TP X1 (T ++ fed a b c d e) ∧ (∀ k, k ≠ 2 → X1.1 k = X.1 k) ∧ (∀ r, r ≠ 0 → X1.2.2 r = X.2.2 r) ∧ (X1.2.2 0).length = (X.2.2 0).length
  | 0, i, X, _, hf, _ => by omega
  | fu + 1, i, X, hi, hf, hT => by
    have hti : (T ++ (fed a b c d e).take i).length = T.length + i := by
      rw [List.length_append, List.length_take, fed_l]; omega
    show ∃ X1, gb184_30 n (gf184_30 n fu) a b c d e (nI i) X = _ ∧ _
    by_cases hz : i = 20
    · subst hz
      refine ⟨X, ?_, ?_, fun _ _ => rfl, fun _ _ => rfl, rfl⟩
      · unfold gb184_30
        rw [if_pos (show (20 : Int32) ≤ nI 20 by decide), hT.1, hti]
      · rw [List.take_of_length_le (by rw [fed_l]; omega)] at hT
        exact hT
    · have hlt : i < 20 := by omega
      rw [fd_p hlt]
      unfold gb184_83
      have hsh : ((24 : Int32) - (8 * (nI i - nI i / 4 * 4))) = nI (24 - 8 * (i % 4)) := by
        rw [show (4 : Int32) = nI 4 from rfl, nI_md (by omega) (by omega), show (8 : Int32) = nI 8 from rfl, nI_mul, show (24 : Int32) = nI 24 from rfl, nI_sub_le (by omega)]
      rw [hsh, hT.1, hti, wr_nI (by omega) (by rw [hT.2.2.1]; omega)]
      dsimp only [Option.bind_some]
      unfold zlet
      have hv : ((pck a b c d e i >>> (nI (24 - 8 * (i % 4)) &&& 31)).toInt8.toInt32).toInt8.toInt32 = nB (bAt a b c d e i) := by
        show (nB (pck a b c d e i >>> (nI (24 - 8 * (i % 4)) &&& 31))).toInt8.toInt32 = _
        rw [nB_nB]
        exact (nB_255 _).symm
      rw [hv]
      have hf2 : (xA X 0 (zs (X.2.2 0) (T.length + i) (nB (bAt a b c d e i)))).1 2 + 1 = nI (T.length + i + 1) := by
        rw [xA_1, hT.1, hti, nI_1]
      rw [hf2, nI_1]
      have hTn := TP_snoc (x := bAt a b c d e i) hT (by omega) (byt_255 _)
      rw [hti, List.append_assoc, ← fed_s hlt] at hTn
      obtain ⟨X1, e1, e2, e3, e4, e5⟩ := fd_l hl fu (i + 1) (by omega) (by omega) hTn
      refine ⟨X1, e1, e2, fun k hk => ?_, fun r hr => ?_, ?_⟩
      · rw [e3 k hk, xF_1, if_neg hk]; rfl
      · rw [e4 r hr]
        show (xA X 0 _).2.2 r = _
        rw [xA_3, if_neg hr]
      · rw [e5]
        show ((xA X 0 _).2.2 0).length = _
        rw [xA_3, if_pos rfl, zs_length]
theorem fd_r (h : RSt X S) (hn : 6002 ≤ n) : RGv (g184 n a b c d e X) (sFeed a b c d e S) := by
  obtain ⟨bb, q1, q2, q3, q4, q5, _⟩ := id h
  have h6 := q5.2.1
  unfold g184 gb184_19 sFeed
  have e20 : X.1 2 + 20 = nI (S.1.length + 20) := by rw [q5.1, show (20 : Int32) = nI 20 from rfl, nI_add]
  rw [e20]
  by_cases hc : 5980 < S.1.length
  · rw [if_pos (show (6000 : Int32) < nI (S.1.length + 20) from (nI_lt (by omega) (by omega) : nI 6000 < nI (S.1.length + 20))), if_pos hc, show g185 n 0 X = some (b2 false, xF X 0 1) from goes_ok (t := false)]
    exact ⟨xF X 0 1, rfl, by rw [xF_1, if_pos rfl], RSt_0 h⟩
  · rw [if_neg (show ¬ (6000 : Int32) < nI (S.1.length + 20) from (nI_nlt (by omega) (by omega) : ¬ nI 6000 < nI (S.1.length + 20))), if_neg hc, show g185 n 1 X = some (b2 true, xF X 0 0) from goes_ok (t := true)]
    dsimp only [Option.bind_some]
    rw [if_neg (by decide)]
    obtain ⟨X1, e1, e2, e3, e4, e5⟩ := fd_l (n := n) (a := a) (b := b) (c := c) (d := d) (e := e) (T := S.1) (by omega) n 0 (X := xF X 0 0) (by omega) (by omega) (by
      rw [List.take_zero, List.append_nil]
      exact TP_of q5 (by rw [xF_1, if_neg (by decide)]) rfl)
    refine ⟨X1, e1, by rw [e3 0 (by decide), xF_1, if_pos rfl], RSt_2 (S := S) h e2 (fun k h0 h2 => by rw [e3 k h2, xF_1, if_neg h0]) (fun i hi => by rw [e4 i hi]; rfl) (by rw [e5]; rfl)⟩
/-! know -/
def sKnT (T : List Int32) : RR (Tk × Tk) := rb (sTake 2 (tks T)) fun w => rb (sEat 12 w.2) fun ts => rb (sOne ts) fun o => rb (sTake 0 o.2) fun _ => .inr (w.1, o.1)
def kset (K : KL) (w : List Int32) (t : Thg) : KL := match knf K w with
  | some k => K.set k (w, t)
  | none => K ++ [(w, t)]
def sKnow (S : St) : Out := match sKnT S.1 with
  | .inl _ => (1, 0, ([], S.2))
  | .inr x => if knf S.2.2.1 x.1.2.2.1 = none ∧ 8 ≤ S.2.2.1.length then (2, 0, ([], S.2)) else (0, 1, ([], S.2.1, kset S.2.2.1 x.1.2.2.1 (thg x.2), S.2.2.2))
theorem nd_any {cc : List Tk → Bool} (h : RI X T fk0 r) (hv : ∀ ts, r = .inr ts → (hd ts).1 ≠ 1 → v = b2 (cc ts)) (hc : ∀ ts, r = .inr ts → (hd ts).1 = 1 → cc ts = false) : ∃ X1, g200 n v X = some ((), X1) ∧ RI X1 T fk0 (rb r fun ts => if cc ts = true then .inr ts else .inl (sErr 2 (hd ts))) := by
  cases r with
  | inl er => exact ⟨X, ri_needF h, h⟩
  | inr ts =>
    by_cases hb : (hd ts).1 = 1
    · have h' := ri_of_brk h hb (k := 2)
      refine ⟨X, ri_needF h', ?_⟩
      rw [rb_inr, hc ts rfl hb, if_neg (by decide)]
      exact h'
    · rw [hv ts rfl hb]
      exact ri_need h hb
/-- the parsing leaves the rest as it was -/
def NFX (X X1 : zX) : Prop := X1.2.2 = X.2.2 ∧ ∀ k, (k = 2 ∨ k = 3 ∨ k = 4 ∨ k = 65 ∨ (85 ≤ k ∧ k ≤ 90)) → X1.1 k = X.1 k
theorem NFX_T (h1 : NFX X X1) (h2 : NFX X1 X2) : NFX X X2 := ⟨h2.1.trans h1.1, fun k hk => (h2.2 k hk).trans (h1.2 k hk)⟩
theorem NFX_w {wf : Nat} (hw : fr wf 0 X X1) (hb : ∀ k : Fin 91, (k.1 = 2 ∨ k.1 = 3 ∨ k.1 = 4 ∨ k.1 = 65 ∨ (85 ≤ k.1 ∧ k.1 ≤ 90)) → wf.testBit k.1 = false) : NFX X X1 := ⟨funext fun i => hw.2.2.1 i (by simp), fun k hk => hw.1 k (hb ⟨k, by omega⟩ hk)⟩
theorem NFX_F {k : Nat} (hk : ¬ (k = 2 ∨ k = 3 ∨ k = 4 ∨ k = 65 ∨ (85 ≤ k ∧ k ≤ 90))) : NFX X (xF X k v) := ⟨rfl, fun j hj => by rw [xF_1, if_neg (fun q => hk (by rw [← q]; exact hj))]⟩
theorem NFX_190 (e : g190 n X = some ((), X1)) : NFX X X1 := NFX_w (w190 e) (by decide +kernel)
theorem NFX_200 (e : g200 n v X = some ((), X1)) : NFX X X1 := NFX_w (w200 e) (by decide +kernel)
theorem NFX_208 (e : g208 n v X = some ((), X1)) : NFX X X1 := NFX_w (w208 e) (by decide +kernel)
theorem NFX_TP (h : NFX X X1) (hT : TP X T) : TP X1 T := TP_of hT (h.2 2 (by omega)) (by rw [h.1])
/-- which one, from i on -/
def ixN (o : Option Nat) (i k : Nat) : Nat := match o with
  | some j => i + j
  | none => k
/-- the known thing that the tape names -/
theorem kn_l {l1 l4 l5 l6 l7 : Int32} {f0 m : Nat} (hK : KNX X K) (hT : TP X T) (hf : f0 + m ≤ T.length) (hn : 6002 ≤ n) : ∀ (fu i : Nat), i ≤ K.length → K.length - i < fu → gf243_156 n fu l1 (nI f0) (nI m) l4 l5 l6 l7 (nI i) X = gb243_186 n l1 (nI f0) (nI m) l4 l5 l6 l7 (nI (ixN ((K.drop i).findIdx? (fun x => x.1 == cut T f0 (f0 + m))) i K.length)) X
  | 0, i, _, hfu => by omega
  | fu + 1, i, hi, hfu => by
    have h8 := hK.2.1
    show gb243_156 n (gf243_156 n fu) l1 (nI f0) (nI m) l4 l5 l6 l7 (nI i) X = _
    unfold gb243_156
    rw [hK.1]
    by_cases hz : K.length ≤ i
    · rw [if_pos (nI_le hz (by omega)), List.drop_eq_nil_of_le hz, show i = K.length by omega]
      rfl
    · have hlt : i < K.length := by omega
      rw [if_neg (nI_ge hlt (by omega))]
      obtain ⟨x, hx⟩ : ∃ x, K[i]? = some x := ⟨_, List.getElem?_eq_getElem hlt⟩
      rw [show (3000 : Int32) = nI 3000 from rfl, nI_add, isS_ok (hK.2.2 i x hx).1 (by omega) hT hf hn]
      dsimp only [Option.bind_some]
      rw [drop_get hx, List.findIdx?_cons]
      by_cases c : x.1 = cut T f0 (f0 + m)
      · rw [decide_eq_true c, if_neg (by decide), if_pos (by simpa using c)]
        rfl
      · rw [decide_eq_false c, if_pos b2_f, if_neg (by simpa using c), nI_1, kn_l hK hT hf hn fu (i + 1) (by omega) (by omega)]
        congr 2
        cases (K.drop (i + 1)).findIdx? (fun x => x.1 == cut T f0 (f0 + m)) with
        | none => rfl
        | some j => show i + 1 + j = i + (j + 1); omega
end
end ZLD2

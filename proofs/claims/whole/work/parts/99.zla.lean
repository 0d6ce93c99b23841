/-! THE CALLS OF THE REFERENCE: the state, simple calls -/
section ZLA
/-- tape, what is loaded, what is known, the fault's kind, the reasons -/
abbrev St : Type := List Int32 × Ldd × KL × Int32 × Option Why
/-- thrown, answer, state -/
abbrev Out : Type := Int32 × Int32 × St
def RWH (X : zX) (o : Option Why) : Prop := match o with
  | none => X.1 85 = 0
  | some y => X.1 85 = 1 ∧ WHY X y
/-- the reference is in the state S -/
def RSt (X : zX) (S : St) : Prop := ∃ b, b ≤ 1 ∧ LN X ∧ X.1 3 = nI b ∧ X.1 4 = 1 - nI b ∧ TP X S.1 ∧ LDX X b S.2.1 ∧ LOK S.2.1 ∧ KNX X S.2.2.1 ∧ (∃ l, INS X l) ∧ X.1 64 = S.2.2.2.1 ∧ RWH X S.2.2.2.2
/-- what a call of the reference gives -/
def RGv (o : Option (Int32 × zX)) (q : Out) : Prop := ∃ X1, o = some (q.2.1, X1) ∧ X1.1 0 = q.1 ∧ RSt X1 q.2.2
section
variable {n : Nat} {X X1 X2 : zX} {S : St} {b : Nat} {v y a c d e f : Int32} {T : List Int32} {L : Ldd} {K : KL}
theorem RWH_of {o : Option Why} (h : RWH X o) (hw : ∀ k, 85 ≤ k → k ≤ 90 → X1.1 k = X.1 k) : RWH X1 o := by
  cases o with
  | none => exact (hw 85 (by omega) (by omega)).trans h
  | some y =>
    obtain ⟨h1, w1, w2, w3, w4, w5⟩ := h
    exact ⟨(hw 85 (by omega) (by omega)).trans h1, (hw 86 (by omega) (by omega)).trans w1, (hw 87 (by omega) (by omega)).trans w2, (hw 88 (by omega) (by omega)).trans w3, (hw 89 (by omega) (by omega)).trans w4, (hw 90 (by omega) (by omega)).trans w5⟩
theorem RSt_f (h : RSt X S) (hL : LN X1) (hf : ∀ k, k = 2 ∨ k = 3 ∨ k = 4 ∨ k = 64 ∨ k = 65 → X1.1 k = X.1 k) (hw : ∀ k, 85 ≤ k → k ≤ 90 → X1.1 k = X.1 k) (hr : ∀ i, i < 62 → X1.2.2 i = X.2.2 i) (hI : ∃ l, INS X1 l) : RSt X1 S := by
  obtain ⟨b, h1, h2, h3, h4, h5, h6, h7, h8, h10, h11, h12⟩ := h
  exact ⟨b, h1, hL, (hf 3 (by omega)).trans h3, (hf 4 (by omega)).trans h4, TP_of h5 (hf 2 (by omega)) (hr 0 (by omega)), LDX_same h6 hL (fun i q1 q2 => hr i (by omega)), h7, KNX_of h8 (hf 65 (by omega)) (fun i hi => hr i (by omega)), hI, (hf 64 (by omega)).trans h11, RWH_of h12 hw⟩
theorem RSt_0 (h : RSt X S) : RSt (xF X 0 v) S := by
  have hx : ∀ k, k ≠ 0 → (xF X 0 v).1 k = X.1 k := fun k hk => by rw [xF_1, if_neg hk]
  obtain ⟨b, h1, h2, h3, h4, h5, h6, h7, h8, ⟨l, h10⟩, h11, h12⟩ := id h
  exact RSt_f h h2 (fun k hk => hx k (by omega)) (fun k h1 h2 => hx k (by omega)) (fun i hi => rfl) ⟨l, INS_of h10 rfl⟩
theorem in_ok {lo hi : Int32} : g187 n y lo hi X = some (b2 (decide (lo ≤ y ∧ y ≤ hi)), X) := by
  unfold g187
  by_cases h1 : y < lo
  · rw [if_pos h1, decide_eq_false (fun q => absurd q.1 (Int32.not_le.mpr h1))]; rfl
  · rw [if_neg h1]
    by_cases h2 : hi < y
    · rw [if_pos h2, decide_eq_false (fun q => absurd q.2 (Int32.not_le.mpr h2))]; rfl
    · rw [if_neg h2, decide_eq_true ⟨Int32.not_lt.mp h1, Int32.not_lt.mp h2⟩]; rfl
theorem goes_ok {t : Bool} : g185 n (b2 t) X = some (b2 t, xF X 0 (if t = true then 0 else 1)) := by
  unfold g185 gb185_10
  cases t with
  | true => rw [if_neg (by decide)]; rfl
  | false => rw [if_pos b2_f]; rfl
/-- in bounds, as a number -/
def inB (y : Int32) (m : Nat) : Bool := decide (0 ≤ y ∧ y < nI m)
theorem inB_lt {m : Nat} (hm : m < 2 ^ 31) (h : inB y m = true) : ∃ k, k < m ∧ y = nI k := by
  unfold inB at h
  obtain ⟨h1, h2⟩ := of_decide_eq_true h
  rw [Int32.le_iff_toInt_le] at h1
  rw [Int32.lt_iff_toInt_lt, nI_toInt hm] at h2
  have h1 : 0 ≤ y.toInt := h1
  exact ⟨y.toInt.toNat, by omega, nI_ij (by omega) (by omega)⟩
theorem inB_of {m k : Nat} (hm : m < 2 ^ 31) (h : k < m) : inB (nI k) m = true := by
  unfold inB
  refine decide_eq_true ⟨?_, nI_lt h (by omega)⟩
  rw [show (0 : Int32) = nI 0 from rfl]
  exact nI_le (by omega) (by omega)
theorem inB_d {m : Nat} (hm : m < 2 ^ 31) : decide ((0 : Int32) ≤ y ∧ y ≤ nI m - 1) = inB y m := by
  unfold inB
  congr 1
  apply propext
  have e : (nI m - 1).toInt = (m : Int) - 1 := by
    rw [Int32.toInt_sub, nI_toInt hm, show (1 : Int32).toInt = 1 from rfl, Int.bmod_eq_of_le (by omega) (by omega)]
  rw [Int32.le_iff_toInt_le (x := y), e, Int32.lt_iff_toInt_lt, nI_toInt hm]
  constructor
  · intro ⟨h1, h2⟩; exact ⟨h1, by omega⟩
  · intro ⟨h1, h2⟩; exact ⟨h1, by omega⟩
theorem inB_c {m : Nat} (hm : m < 2 ^ 31) {v : Int32} (hv : v = nI m - 1) : decide ((0 : Int32) ≤ y ∧ y ≤ v) = inB y m := by rw [hv]; exact inB_d hm
theorem inB_m {m : Nat} (hm : m < 2 ^ 31) (h : inB y m = false) : ∀ k, k < m → y ≠ nI k := fun k hk e => by
  rw [e, inB_of hm hk] at h; cases h
/-! end -/
def sEnd (y : Int32) (S : St) : Out := if inB y (S.1.length + 1) = true then (0, 0, (S.1.take y.toInt.toNat, S.2)) else (1, 0, S)
theorem TP_take {k : Nat} (h : TP X T) (hk : k ≤ T.length) (h1 : X1.1 2 = nI k) (h2 : X1.2.2 0 = X.2.2 0) : TP X1 (T.take k) := by
  obtain ⟨t1, t2, t3, t4, t5⟩ := h
  have hl : (T.take k).length = k := by rw [List.length_take]; omega
  refine ⟨by rw [hl]; exact h1, by omega, by rw [h2]; exact t3, fun i b hb => ?_, fun b hb => t5 b (List.mem_of_mem_take hb)⟩
  rw [h2]
  refine t4 i b ?_
  rw [zg_eq] at hb ⊢
  have hi := lt_of_get hb
  rw [List.getElem?_take_of_lt (by omega)] at hb
  exact hb
theorem RSt_2 {T' : List Int32} (h : RSt X S) (hT : TP X1 T') (h1 : ∀ k, k ≠ 0 → k ≠ 2 → X1.1 k = X.1 k) (h2 : ∀ i, i ≠ 0 → X1.2.2 i = X.2.2 i) (h3 : (X1.2.2 0).length = (X.2.2 0).length) : RSt X1 (T', S.2) := by
  obtain ⟨b, q1, q2, q3, q4, q5, q6, q7, q8, ⟨l, q10⟩, q11, q12⟩ := h
  have hL : LN X1 := fun i hi => by
    by_cases c : i = 0
    · rw [c, h3]; exact q2 0 (by omega)
    · rw [h2 i c]; exact q2 i hi
  exact ⟨b, q1, hL, (h1 3 (by omega) (by omega)).trans q3, (h1 4 (by omega) (by omega)).trans q4, hT, LDX_same q6 hL (fun i a c => h2 i (by omega)), q7, KNX_of q8 (h1 65 (by omega) (by omega)) (fun i hi => h2 i (by omega)), ⟨l, INS_of q10 (h2 69 (by omega))⟩, (h1 64 (by omega) (by omega)).trans q11, RWH_of q12 (fun k a c => h1 k (by omega) (by omega))⟩
theorem end_r (h : RSt X S) : ∃ X1, g186 n y X = some ((), X1) ∧ X1.1 0 = (sEnd y S).1 ∧ RSt X1 (sEnd y S).2.2 := by
  obtain ⟨b, q1, q2, q3, q4, q5, _⟩ := id h
  have h6 := q5.2.1
  have hd : decide ((0 : Int32) ≤ y ∧ y ≤ X.1 2) = inB y (S.1.length + 1) := by
    refine inB_c (by omega) ?_
    rw [q5.1, show (1 : Int32) = nI 1 from rfl, nI_sub_le (by omega)]
    rfl
  have e : g186 n y X = (if b2 (inB y (S.1.length + 1)) = 0 then
      gb186_25 n y ((xF X 0 (if inB y (S.1.length + 1) = true then 0 else 1)).1 2) (xF X 0 (if inB y (S.1.length + 1) = true then 0 else 1))
    else
      gb186_25 n y y (xF X 0 (if inB y (S.1.length + 1) = true then 0 else 1))) := by
    unfold g186
    rw [in_ok]
    dsimp only [Option.bind_some]
    rw [hd, goes_ok]
    rfl
  rw [e]
  unfold sEnd gb186_25
  cases hb : inB y (S.1.length + 1) with
  | false =>
    rw [if_pos b2_f, if_neg (by decide), if_neg (by decide)]
    refine ⟨_, rfl, ?_, ?_⟩
    · show (xF (xF X 0 1) 2 _).1 0 = 1
      rw [xF_1, if_neg (by decide), xF_1, if_pos rfl]
    · refine RSt_2 (S := S) h (T' := S.1) (TP_of q5 ?_ rfl) (fun k h0 h2 => ?_) (fun _ _ => rfl) rfl
      · rw [xF_1, if_pos rfl, xF_1, if_neg (by decide)]
      · rw [xF_1, if_neg h2, xF_1, if_neg h0]
  | true =>
    obtain ⟨k, hk, rfl⟩ := inB_lt (by omega) hb
    rw [if_neg (by decide), if_pos rfl, if_pos rfl]
    refine ⟨_, rfl, ?_, ?_⟩
    · show (xF (xF X 0 0) 2 _).1 0 = 0
      rw [xF_1, if_neg (by decide), xF_1, if_pos rfl]
    · have hk2 : (nI k).toInt.toNat = k := by rw [nI_toInt (by omega)]; omega
      show RSt _ (S.1.take (nI k).toInt.toNat, S.2)
      rw [hk2]
      refine RSt_2 (S := S) h (TP_take q5 (by omega) ?_ rfl) (fun k h0 h2 => ?_) (fun _ _ => rfl) rfl
      · rw [xF_1, if_pos rfl]
      · rw [xF_1, if_neg h2, xF_1, if_neg h0]
/-! fault, forget -/
theorem flt_r (h : RSt X S) : RGv (g241 n X) (0, S.2.2.2.1, S) := by
  refine ⟨xF X 0 0, ?_, by rw [xF_1, if_pos rfl], RSt_0 h⟩
  obtain ⟨b, q1, q2, q3, q4, q5, q6, q7, q8, q10, q11, q12⟩ := h
  show some ((xF X 0 0).1 64, xF X 0 0) = _
  rw [xF_1, if_neg (by decide), q11]
def sForget (S : St) : Out := (0, nI S.2.2.1.length, (S.1, S.2.1, [], S.2.2.2))
theorem fgt_r (h : RSt X S) : RGv (g244 n X) (sForget S) := by
  obtain ⟨b, q1, q2, q3, q4, q5, q6, q7, q8, ⟨l, q10⟩, q11, q12⟩ := id h
  refine ⟨xF (xF X 0 0) 65 0, ?_, by rw [xF_1, if_neg (by decide), xF_1, if_pos rfl]; rfl, ?_⟩
  · show some ((xF X 0 0).1 65, xF (xF X 0 0) 65 0) = _
    rw [xF_1, if_neg (by decide), q8.1]
    rfl
  · have hx : ∀ k, k ≠ 0 → k ≠ 65 → (xF (xF X 0 0) 65 0).1 k = X.1 k := fun k a c => by rw [xF_1, if_neg c, xF_1, if_neg a]
    exact ⟨b, q1, q2, (hx 3 (by omega) (by omega)).trans q3, (hx 4 (by omega) (by omega)).trans q4, TP_of q5 (hx 2 (by omega) (by omega)) rfl, LDX_same q6 q2 (fun _ _ _ => rfl), q7, ⟨by rw [xF_1, if_pos rfl]; rfl, by show 0 ≤ 8; omega, fun k x hx => (by cases hx)⟩, ⟨l, INS_of q10 rfl⟩, (hx 64 (by omega) (by omega)).trans q11, RWH_of q12 (fun k a c => hx k (by omega) (by omega))⟩
/-! why -/
def whyA (o : Option Why) (k : Nat) : Int32 := match o with
  | none => -1
  | some y => if k = 0 then y.1 else if k = 1 then y.2.1 else if k = 2 then y.2.2.1 else if k = 3 then y.2.2.2.1 else y.2.2.2.2
def sWhy (y : Int32) (S : St) : Out := if inB y 5 = true then (0, whyA S.2.2.2.2 y.toInt.toNat, S) else (1, 0, S)
theorem pre_r {m : Nat} {α : Type} {F : Int32 × zX → Option α} {hi : Int32} (hm : m < 2 ^ 31) (hv : hi = nI m - 1) : ((g187 n y 0 hi X).bind fun p1 => (g185 n p1.1 p1.2).bind F) = F (b2 (inB y m), xF X 0 (if inB y m = true then 0 else 1)) := by
  rw [in_ok]
  dsimp only [Option.bind_some]
  rw [inB_c hm hv, goes_ok]
  rfl
theorem why_r (h : RSt X S) : RGv (g266 n y X) (sWhy y S) := by
  obtain ⟨b, q1, q2, q3, q4, q5, q6, q7, q8, q10, q11, q12⟩ := id h
  unfold g266
  rw [pre_r (m := 5) (hi := 4) (by omega) rfl]
  unfold sWhy
  cases hb : inB y 5 with
  | false => exact ⟨xF X 0 1, rfl, by rw [xF_1, if_pos rfl]; rfl, RSt_0 h⟩
  | true =>
    obtain ⟨k, hk, rfl⟩ := inB_lt (by omega) hb
    have hk2 : (nI k).toInt.toNat = k := by rw [nI_toInt (by omega)]; omega
    rw [if_pos rfl, if_pos rfl, hk2]
    refine ⟨xF X 0 0, ?_, by rw [xF_1, if_pos rfl], RSt_0 h⟩
    have hx : ∀ k, k ≠ 0 → (xF X 0 0).1 k = X.1 k := fun k hk => by rw [xF_1, if_neg hk]
    dsimp only
    rw [if_neg (by decide), hx 85 (by omega), hx 86 (by omega), hx 87 (by omega), hx 88 (by omega), hx 89 (by omega), hx 90 (by omega)]
    cases hS : S.2.2.2.2 with
    | none =>
      rw [hS] at q12
      have q12 : X.1 85 = 0 := q12
      rw [if_pos q12]
      rfl
    | some w =>
      rw [hS] at q12
      obtain ⟨h85, w1, w2, w3, w4, w5⟩ := q12
      rw [h85, if_neg (by decide), w1, w2, w3, w4, w5]
      unfold whyA
      dsimp only
      have : k = 0 ∨ k = 1 ∨ k = 2 ∨ k = 3 ∨ k = 4 := by omega
      rcases this with rfl | rfl | rfl | rfl | rfl <;> rfl
/-! order -/
def sOrder (y : Int32) (S : St) : Out := if inB y S.2.1.1.2.1.length = true then (0, nI (S.2.1.2.2.getD y.toInt.toNat 0), S) else (1, 0, S)
theorem nfl (h : RSt X S) : ∃ b, b ≤ 1 ∧ X.1 3 = nI b ∧ LN X ∧ rd (X.2.2 9) (X.1 3) = some (nI S.2.1.1.2.1.length) ∧ S.2.1.1.2.1.length ≤ 24 ∧ LDX X b S.2.1 := by
  obtain ⟨b, q1, q2, q3, q4, q5, q6, q7, q8, q10, q11, q12⟩ := h
  obtain ⟨⟨D, nv, cb, h3, h0⟩, _⟩ := id q6
  have h9 : cv X 9 b = nI S.2.1.1.2.1.length := h3.2.1.1
  exact ⟨b, q1, q3, q2, by rw [q3, rd_cv q2 (by decide) (by show _ < 2; omega) (by omega), h9], h3.2.1.2.1, q6⟩
theorem isf_r (h : RSt X S) : g248 n y X = some (b2 (inB y S.2.1.1.2.1.length), X) := by
  obtain ⟨b, n1, n2, n3, n4, n5, n6⟩ := nfl h
  unfold g248
  rw [n4]
  dsimp only [Option.bind_some]
  rw [in_ok]
  dsimp only [Option.bind_some]
  rw [inB_d (by omega)]
  cases inB y S.2.1.1.2.1.length <;> rfl
theorem ord_r (h : RSt X S) : RGv (g269 n y X) (sOrder y S) := by
  obtain ⟨b, n1, n2, n3, n4, n5, n6⟩ := nfl h
  unfold g269
  rw [isf_r h]
  dsimp only [Option.bind_some]
  rw [goes_ok]
  dsimp only [Option.bind_some]
  unfold sOrder
  cases hb : inB y S.2.1.1.2.1.length with
  | false =>
    rw [if_pos b2_f, if_neg (by decide), if_neg (by decide)]
    exact ⟨xF X 0 1, rfl, by rw [xF_1, if_pos rfl], RSt_0 h⟩
  | true =>
    obtain ⟨k, hk, rfl⟩ := inB_lt (by omega) hb
    have hk2 : (nI k).toInt.toNat = k := by rw [nI_toInt (by omega)]; omega
    rw [if_neg (by decide), if_pos rfl, if_pos rfl, hk2]
    refine ⟨xF X 0 0, ?_, by rw [xF_1, if_pos rfl], RSt_0 h⟩
    obtain ⟨_, _, _, _, hl, hq⟩ := n6
    have hg : S.2.1.2.2[k]? = some (S.2.1.2.2.getD k 0) := getD_get (by omega)
    have h59 := (hq k _ hg).2
    rw [show (xF X 0 0).1 3 = X.1 3 by rw [xF_1, if_neg (by decide)], j3 (a := 24) (k := 24) n2 rfl]
    rw [show rd ((xF X 0 0).2.2 59) (nI (24 * b + k)) = some (cv X 59 (24 * b + k)) from rd_cv n3 (by decide) (by show _ < 48; omega) (by omega), h59]
    rfl
/-! needs -/
def sNds (y : Int32) (S : St) : Out := if inB y S.2.1.1.2.1.length = true then (0, bitsI (rchB S.2.1.2.1 y.toInt.toNat) 24, S) else (1, 0, S)
theorem nds_r (h : RSt X S) (hn : 6002 ≤ n) : RGv (g268 n y X) (sNds y S) := by
  obtain ⟨b, n1, n2, n3, n4, n5, n6⟩ := nfl h
  unfold g268
  rw [isf_r h]
  dsimp only [Option.bind_some]
  rw [goes_ok]
  dsimp only [Option.bind_some]
  unfold sNds
  cases hb : inB y S.2.1.1.2.1.length with
  | false =>
    rw [if_pos b2_f, if_neg (by decide), if_neg (by decide)]
    exact ⟨xF X 0 1, rfl, by rw [xF_1, if_pos rfl], RSt_0 h⟩
  | true =>
    obtain ⟨k, hk, rfl⟩ := inB_lt (by omega) hb
    have hk2 : (nI k).toInt.toNat = k := by rw [nI_toInt (by omega)]; omega
    rw [if_neg (by decide), if_pos rfl, if_pos rfl, hk2]
    have h0 := RSt_0 (v := 0) h
    obtain ⟨b', _, m2, m3, m4, m5, m6⟩ := nfl h0
    obtain ⟨_, hNR, _, hNl, _⟩ := m6
    obtain ⟨X1, e1, e2, e3⟩ := fr_ok (n := n) hNR hn
    rw [m2, e1]
    dsimp only [Option.bind_some]
    have hb2 := hNR.2.2.2.1
    refine ⟨X1, ?_, ?_, ?_⟩
    · rw [rd_cv e2.1 (by decide) (by show _ < 24; omega) (by omega), e3 k (by omega)]
      rfl
    · rw [e2.2.1, xF_1, if_pos rfl]
    · obtain ⟨b, q1, q2, q3, q4, q5, q6, q7, q8, ⟨l, q10⟩, q11, q12⟩ := id h0
      exact RSt_f h0 e2.1 (fun k _ => by rw [e2.2.1]) (fun k _ _ => by rw [e2.2.1]) (fun i hi => e2.2.2 i (by omega)) ⟨l, INS_of q10 (e2.2.2 69 (by omega))⟩
end
end ZLA

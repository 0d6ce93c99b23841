/-! THE REFERENCE: serve, ruleOf, itemOf -/
section ZSV
/-- numbers that are known are of nine digits -/
def KB (K : KL) : Prop := ∀ x ∈ K, x.2.1 = false → x.2.2.1.toInt.natAbs ≤ 999999999
/-- a state in which flags are worked out -/
def EVX (X : zX) (b : Nat) (P : Pln) (K : KL) (l : List Bool) : Prop := b ≤ 1 ∧ X.1 3 = nI b ∧ (∃ D nv cb, RP (xF X 4 (nI b)) b P D nv cb ∧ nv ≤ 240) ∧ PDp P ∧ KNX X K ∧ KB K ∧ INS X l ∧ ∀ j, j < P.1.length → l.getD j false = (ins K P).getD j false
def OW (X X1 : zX) : Prop := LN X1 ∧ (∀ k, k < 86 → X1.1 k = X.1 k) ∧ ∀ i, i ≠ 68 → X1.2.2 i = X.2.2 i
section
variable {n : Nat} {X X1 X2 : zX} {b nv nq f : Nat} {K : KL} {P : Pln} {l : List Bool}
theorem OW_R (h : LN X) : OW X X := ⟨h, fun _ _ => rfl, fun _ _ => rfl⟩
theorem OW_T (h1 : OW X X1) (h2 : OW X1 X2) : OW X X2 := ⟨h2.1, fun k hk => (h2.2.1 k hk).trans (h1.2.1 k hk), fun i hi => (h2.2.2 i hi).trans (h1.2.2 i hi)⟩
theorem OW_68 (h : O68 X X1) : OW X X1 := ⟨h.1, fun k _ => by rw [h.2.1], h.2.2⟩
theorem OW_F {k : Nat} {v : Int32} (hL : LN X) (hk : 86 ≤ k) : OW X (xF X k v) := ⟨hL, fun q hq => by rw [xF_1, if_neg (by omega)], fun _ _ => rfl⟩
theorem EVX_L (h : EVX X b P K l) : LN X := by
  obtain ⟨_, _, ⟨D, nv, cb, h, _⟩, _⟩ := h
  exact (RP_b h).1
theorem EVX_O (h : EVX X b P K l) (ho : OW X X1) : EVX X1 b P K l := by
  obtain ⟨h1, h2, ⟨D, nv, cb, h3, h0⟩, h4, h5, h6, h7, h8⟩ := h
  exact ⟨h1, (ho.2.1 3 (by omega)).trans h2, ⟨D, nv, cb, RP_same h3 (fun i q1 q2 _ _ => ho.2.2 i (by omega)) ho.1 (by rw [xF_1, if_pos rfl, xF_1, if_pos rfl]), h0⟩, h4, KNX_of h5 (ho.2.1 65 (by omega)) (fun i hi => ho.2.2 i (by omega)), h6, INS_of h7 (ho.2.2 69 (by decide)), h8⟩
/-- ruleOf -/
def rulB (E : Env) (f : Nat) (a : Int32) (R : Rul) : Bool := R.1 == f && R.2.1 == a && R.2.2.1 E
theorem rul_l {a : Int32} (hE : EVX X b P K l) (hf : f < 24) (hn : 6002 ≤ n) : ∀ (fu r : Nat) {Y : zX}, r ≤ P.2.2.2.1.length → P.2.2.2.1.length - r < fu → O68 X Y → ∃ X1, gf261_2 n fu (nI f) a (nI r) Y = some (match (P.2.2.2.1.drop r).findIdx? (rulB (K, ins K P) f a) with | some j => nI (r + j) | none => -1, X1) ∧ O68 X X1
  | 0, r, Y, _, h, _ => by omega
  | fu + 1, r, Y, hr, hfu, hO => by
    have hEY := EVX_O hE (OW_68 hO)
    obtain ⟨h1, h2, ⟨D, nv, cb, h3, h0⟩, h4, h5, h6, h7, h8⟩ := hEY
    have hL := hO.1
    have h100 := h3.2.2.2.1.2.1
    have h28 : cv Y 28 b = nI P.2.2.2.1.length := h3.2.2.2.1.1
    show ∃ X1, gb261_2 n (gf261_2 n fu) (nI f) a (nI r) Y = _ ∧ _
    unfold gb261_2 gb261_78
    rw [show rd (Y.2.2 28) (Y.1 3) = some (nI P.2.2.2.1.length) by rw [h2, rd_cv hL (by decide) (by show _ < 2; omega) (by omega), h28]]
    dsimp only [Option.bind_some]
    by_cases hz : r = P.2.2.2.1.length
    · rw [if_pos (by rw [hz]; exact Int32.le_refl _), List.drop_eq_nil_of_le (by omega)]
      exact ⟨Y, rfl, hO⟩
    · have hlt : r < P.2.2.2.1.length := by omega
      obtain ⟨R, hR⟩ : ∃ x, P.2.2.2.1[r]? = some x := ⟨_, List.getElem?_eq_getElem hlt⟩
      obtain ⟨r1, r2, r3, ⟨c, fr, to, r4, r5, r6, r7⟩, r8⟩ := h3.2.2.2.1.2.2 r R hR
      have r1 : cv Y 29 (100 * b + r) = nI R.1 := r1
      have r3 : cv Y 30 (100 * b + r) = R.2.1 := r3
      have r4 : cv Y 31 (100 * b + r) = nI c := r4
      have r5 : cv Y 32 (100 * b + r) = nI fr := r5
      have r6 : cv Y 33 (100 * b + r) = nI to := r6
      have hnext : ∀ {Z : zX}, O68 X Z → rulB (K, ins K P) f a R = false → ∃ X1, gf261_2 n fu (nI f) a (nI r + 1) Z = some (match (P.2.2.2.1.drop r).findIdx? (rulB (K, ins K P) f a) with | some j => nI (r + j) | none => -1, X1) ∧ O68 X X1 := by
        intro Z hZ hB
        rw [nI_1, drop_get hR, List.findIdx?_cons, hB, if_neg (by decide)]
        obtain ⟨X1, e1, e2⟩ := rul_l (a := a) hE hf hn fu (r + 1) (Y := Z) (by omega) (by omega) hZ
        refine ⟨X1, ?_, e2⟩
        rw [e1]
        cases List.findIdx? (rulB (K, ins K P) f a) (P.2.2.2.1.drop (r + 1)) with
        | none => rfl
        | some j => show some (nI (r + 1 + j), X1) = some (nI (r + (j + 1)), X1); rw [show r + 1 + j = r + (j + 1) by omega]
      rw [if_neg (nI_ge hlt (by omega)), j3 (a := 100) (k := 100) h2 rfl, rd_cv hL (by decide) (by show _ < 200; omega) (by omega), r1]
      dsimp only [Option.bind_some]
      by_cases hff : R.1 = f
      · rw [if_pos (by rw [hff]), rd_cv hL (by decide) (by show _ < 200; omega) (by omega), r3]
        dsimp only [Option.bind_some]
        by_cases hla : R.2.1 = a
        · obtain ⟨X1, e1, e2⟩ := isT_ok (n := n) (E := (K, l)) h1 h3.1.2.1 h2 h5 h7 rfl r7 hn
          have hdep : R.2.2.1 (K, l) = R.2.2.1 (K, ins K P) := h4.2 R (List.mem_of_getElem? hR) K l (ins K P) h8
          rw [hdep] at e1
          rw [if_pos hla, rd_cv hL (by decide) (by show _ < 200; omega) (by omega), r4]
          dsimp only [Option.bind_some]
          rw [rd_cv hL (by decide) (by show _ < 200; omega) (by omega), r5]
          dsimp only [Option.bind_some]
          rw [rd_cv hL (by decide) (by show _ < 200; omega) (by omega), r6]
          dsimp only [Option.bind_some]
          rw [e1]
          dsimp only [Option.bind_some]
          cases hv : R.2.2.1 (K, ins K P) with
          | false =>
            rw [if_pos b2_f]
            exact hnext (O68_T hO e2) (by unfold rulB; rw [hv, Bool.and_false])
          | true =>
            rw [if_neg (by decide), drop_get hR, List.findIdx?_cons, if_pos (by unfold rulB; rw [hv, hff, hla]; simp)]
            exact ⟨X1, rfl, O68_T hO e2⟩
        · rw [if_neg hla]
          exact hnext hO (by unfold rulB; rw [show (R.2.1 == a) = false by simpa using hla, Bool.and_false]; rfl)
      · rw [if_neg (by rw [nI_eq (by omega) (by omega)]; exact hff)]
        exact hnext hO (by unfold rulB; rw [show (R.1 == f) = false by simpa using hff]; rfl)
theorem rul_ok {a : Int32} (hE : EVX X b P K l) (hf : f < 24) (hn : 6002 ≤ n) : ∃ X1, g261 n (nI f) a X = some (match rulO P (K, ins K P) f a with | some j => nI j | none => -1, X1) ∧ O68 X X1 := by
  obtain ⟨D, nv, cb, h3, h0⟩ := hE.2.2.1
  have h100 := h3.2.2.2.1.2.1
  obtain ⟨X1, e1, e2⟩ := rul_l (n := n) (a := a) hE hf hn n 0 (Y := X) (by omega) (by omega) (O68_R (EVX_L hE))
  refine ⟨X1, ?_, e2⟩
  unfold g261
  rw [show (0 : Int32) = nI 0 from rfl, e1, List.drop_zero]
  have : P.2.2.2.1.findIdx? (rulB (K, ins K P) f a) = rulO P (K, ins K P) f a := rfl
  rw [this]
  cases rulO P (K, ins K P) f a with
  | none => rfl
  | some j => show some (nI (0 + j), X1) = _; rw [Nat.zero_add]
theorem rulO_lt {E : Env} {a : Int32} {j : Nat} (h : rulO P E f a = some j) : j < P.2.2.2.1.length := (List.findIdx?_eq_some_iff_getElem.mp h).1
/-- itemOf -/
def itmB (f a : Nat) (st : Bool) (I : Itm) : Bool := I.2.1 == f && I.1 == a && I.2.2.isSome == st
theorem itm_l {a : Nat} {st : Bool} (hE : EVX X b P K l) (hf : f < 24) (ha : a < 1000) (hwf : ∀ I ∈ P.2.2.2.2.1, I.1 < 1000) : ∀ (fu i : Nat), i ≤ P.2.2.2.2.1.length → P.2.2.2.2.1.length - i < fu → gf259_9 n fu (nI f) (nI a) (b2 st) (nI (40 * b + i)) X = some (match (P.2.2.2.2.1.drop i).findIdx? (itmB f a st) with | some j => nI (40 * b + (i + j)) | none => -1, X)
  | 0, i, _, h => by omega
  | fu + 1, i, hi, hfu => by
    have hL := EVX_L hE
    obtain ⟨h1, h2, ⟨D, nv, cb, h3, h0⟩, _⟩ := id hE
    have h40 := h3.2.2.2.2.1.2.1
    have h35 : cv X 35 b = nI P.2.2.2.2.1.length := h3.2.2.2.2.1.1
    show gb259_9 n (gf259_9 n fu) (nI f) (nI a) (b2 st) (nI (40 * b + i)) X = _
    unfold gb259_9 gb259_69 gb259_76
    rw [show rd (X.2.2 35) (X.1 3) = some (nI P.2.2.2.2.1.length) by rw [h2, rd_cv hL (by decide) (by show _ < 2; omega) (by omega), h35]]
    dsimp only [Option.bind_some]
    rw [j3 (a := 40) (k := 40) h2 rfl]
    by_cases hz : i = P.2.2.2.2.1.length
    · rw [if_pos (by rw [hz]; exact Int32.le_refl _), List.drop_eq_nil_of_le (by omega)]
      rfl
    · have hlt : i < P.2.2.2.2.1.length := by omega
      obtain ⟨I, hI⟩ : ∃ x, P.2.2.2.2.1[i]? = some x := ⟨_, List.getElem?_eq_getElem hlt⟩
      obtain ⟨i1, i2, i3, i4⟩ := h3.2.2.2.2.1.2.2 i I hI
      have i1 : cv X 36 (40 * b + i) = nI I.1 := i1
      have i2 : cv X 37 (40 * b + i) = nI I.2.1 := i2
      have hIa := hwf I (List.mem_of_getElem? hI)
      have hnext : itmB f a st I = false → gf259_9 n fu (nI f) (nI a) (b2 st) (nI (40 * b + i) + 1) X = some (match (P.2.2.2.2.1.drop i).findIdx? (itmB f a st) with | some j => nI (40 * b + (i + j)) | none => -1, X) := by
        intro hB
        rw [nI_1, drop_get hI, List.findIdx?_cons, hB, if_neg (by decide), show 40 * b + i + 1 = 40 * b + (i + 1) by omega, itm_l hE hf ha hwf fu (i + 1) (by omega) (by omega)]
        cases List.findIdx? (itmB f a st) (P.2.2.2.2.1.drop (i + 1)) with
        | none => rfl
        | some j => show some (nI (40 * b + (i + 1 + j)), X) = some (nI (40 * b + (i + (j + 1))), X); rw [show i + 1 + j = i + (j + 1) by omega]
      rw [if_neg (nI_ge (show 40 * b + i < 40 * b + P.2.2.2.2.1.length by omega) (by omega)), rd_cv hL (by decide) (by show _ < 80; omega) (by omega), i2]
      dsimp only [Option.bind_some]
      by_cases hff : I.2.1 = f
      · rw [if_pos (by rw [hff]), rd_cv hL (by decide) (by show _ < 80; omega) (by omega), i1]
        dsimp only [Option.bind_some]
        by_cases hla : I.1 = a
        · rw [if_pos (by rw [hla]), rd_cv hL (by decide) (by show _ < 80; omega) (by omega)]
          dsimp only [Option.bind_some]
          have hs : ∀ t : Bool, I.2.2.isSome = t → (if b2 t = b2 st then some (nI (40 * b + i), X) else gf259_9 n fu (nI f) (nI a) (b2 st) (nI (40 * b + i) + 1) X) = some (match (P.2.2.2.2.1.drop i).findIdx? (itmB f a st) with | some j => nI (40 * b + (i + j)) | none => -1, X) := by
            intro t ht
            by_cases q : t = st
            · rw [if_pos (by rw [q]), drop_get hI, List.findIdx?_cons, if_pos (by unfold itmB; rw [ht, hff, hla, q]; simp)]
              rfl
            · rw [if_neg (fun e => q (b2_eq.mp e))]
              exact hnext (by unfold itmB; rw [ht, show (t == st) = false by simpa using q, Bool.and_false])
          cases hsv : I.2.2 with
          | none =>
            rw [hsv] at i4
            have i4 : cv X 38 (40 * b + i) = -1 := i4
            rw [i4, if_pos rfl]
            exact hs false (by rw [hsv]; rfl)
          | some s =>
            rw [hsv] at i4
            obtain ⟨q, q1, q2, _⟩ := i4
            have q2 : cv X 38 (40 * b + i) = nI q := q2
            rw [q2, if_neg (nI_m1 (by omega))]
            exact hs true (by rw [hsv]; rfl)
        · rw [if_neg (by rw [nI_eq (by omega) (by omega)]; exact hla)]
          exact hnext (by unfold itmB; rw [show (I.1 == a) = false by simpa using hla, Bool.and_false]; rfl)
      · rw [if_neg (by rw [nI_eq (by omega) (by omega)]; exact hff)]
        exact hnext (by unfold itmB; rw [show (I.2.1 == f) = false by simpa using hff]; rfl)
theorem itm_ok2 {a : Nat} {st : Bool} (hE : EVX X b P K l) (hf : f < 24) (ha : a < 1000) (hwf : ∀ I ∈ P.2.2.2.2.1, I.1 < 1000) (hn : 6002 ≤ n) : g259 n (nI f) (nI a) (b2 st) X = some (match itmO P f a st with | some j => nI (40 * b + j) | none => -1, X) := by
  obtain ⟨D, nv, cb, h3, h0⟩ := hE.2.2.1
  have h40 := h3.2.2.2.2.1.2.1
  have h := itm_l (n := n) (st := st) hE hf ha hwf n 0 (by omega) (by omega)
  unfold g259
  rw [hE.2.1, show (40 : Int32) = nI 40 from rfl, nI_mul, show 40 * b = 40 * b + 0 from rfl, h, List.drop_zero]
  have : P.2.2.2.2.1.findIdx? (itmB f a st) = itmO P f a st := rfl
  rw [this]
  cases itmO P f a st with
  | none => rfl
  | some j => show some (nI (40 * b + (0 + j)), X) = some (nI (40 * b + 0 + j), X); rw [Nat.zero_add]; rfl
theorem itmO_lt {a j : Nat} {st : Bool} (h : itmO P f a st = some j) : ∃ I, P.2.2.2.2.1[j]? = some I ∧ I.2.2.isSome = st := by
  obtain ⟨h1, h2, _⟩ := List.findIdx?_eq_some_iff_getElem.mp h
  refine ⟨_, List.getElem?_eq_getElem h1, ?_⟩
  simp only [Bool.and_eq_true] at h2
  simpa using h2.2
/-! serve -/
theorem at_l {l1 l2 l3 l4 : Int32} {j : Nat} {sh : List (Int32 × Int32)} (hL : LN X) (hb : b ≤ 1) (hj : j < 100) (hs : SHc X b j sh) (h1 : 1 ≤ sh.length) (h8 : sh.length ≤ 8) : ∀ (fu i : Nat) (s : Int32), i ≤ sh.length → sh.length - i < fu → gf262_109 n fu l1 l2 l3 l4 (nI (8 * (100 * b + j) + (sh.length - 1))) s (nI (8 * (100 * b + j) + i)) X = some (atV (X.1 89) (lstV sh) s (sh.drop i), X)
  | 0, i, s, _, h => by omega
  | fu + 1, i, s, hi, hf => by
    show gb262_109 n (gf262_109 n fu) l1 l2 l3 l4 _ s _ X = _
    unfold gb262_109
    by_cases hz : i = sh.length
    · obtain ⟨y, hy⟩ : ∃ y, sh[sh.length - 1]? = some y := ⟨_, List.getElem?_eq_getElem (by omega)⟩
      have hls : lstV sh = y.2 := by unfold lstV; rw [List.getLast?_eq_getElem?, hy]; rfl
      rw [if_pos (nI_lt (by omega) (by omega)), rd_cv hL (by decide) (by show _ < 1600; omega) (by omega), (hs.2 _ y hy).2, List.drop_eq_nil_of_le (by omega)]
      dsimp only [Option.bind_some]
      show some (y.2, X) = some (lstV sh, X)
      rw [hls]
    · have hlt : i < sh.length := by omega
      obtain ⟨y, hy⟩ : ∃ y, sh[i]? = some y := ⟨_, List.getElem?_eq_getElem hlt⟩
      rw [if_neg (nI_nlt (by omega) (by omega)), rd_cv hL (by decide) (by show _ < 1600; omega) (by omega), (hs.2 i y hy).1, drop_get hy]
      dsimp only [Option.bind_some]
      show _ = some (if s + y.1 ≤ X.1 89 then atV (X.1 89) (lstV sh) (s + y.1) (sh.drop (i + 1)) else y.2, X)
      by_cases hle : s + y.1 ≤ X.1 89
      · rw [if_pos hle, if_pos hle, nI_1]
        exact at_l hL hb hj hs h1 h8 fu (i + 1) (s + y.1) (by omega) (by omega)
      · rw [if_neg hle, if_neg hle, rd_cv hL (by decide) (by show _ < 1600; omega) (by omega), (hs.2 i y hy).2]
        rfl
theorem SW_sl {v : Int32} {w : List Int32} (h : SW X b v w) (hb : b ≤ 1) : ∃ s, v = nI s ∧ s < 3016 ∧ SLT X s w := by
  obtain ⟨s, s1, ⟨c, _, c2, c3, c4⟩, s3⟩ := h
  exact ⟨s, s1, by omega, s3⟩
theorem srv_v {v : Int32} {s : Srv} (hE : EVX X b P K l) (hs : SVR X b P.2.2.2.2.2.1.length 240 v s) (h89 : X.1 89 = -1) (hn : 6002 ≤ n) : ∃ X1, g262 n v X = some ((srvV K P.2.2.2.2.2.1 s).1, X1) ∧ X1.1 89 = (srvV K P.2.2.2.2.2.1 s).2 ∧ (∀ k, k ≠ 89 → X1.1 k = X.1 k) ∧ X1.2.2 = X.2.2 := by
  have hL := EVX_L hE
  obtain ⟨h1, h2, ⟨D, nv, cb, h3, h0⟩, h4, h5, h6, _⟩ := id hE
  obtain ⟨q, q1, rfl, q3⟩ := hs
  have e40 : rd (X.2.2 40) (nI (240 * b + q)) = some (cv X 40 (240 * b + q)) := rd_cv hL (by decide) (by show _ < 480; omega) (by omega)
  unfold g262
  rw [j3 (a := 240) (k := 240) h2 rfl, e40]
  dsimp only [Option.bind_some]
  cases s with
  | inl a =>
    rw [q3.1, if_pos rfl, rd_cv hL (by decide) (by show _ < 480; omega) (by omega), q3.2]
    exact ⟨X, rfl, h89, fun _ _ => rfl, rfl⟩
  | inr j =>
    obtain ⟨j1, j2⟩ := q3
    obtain ⟨s1, s2, s3⟩ := h3.2.2.2.2.2.2.1
    obtain ⟨S, hS⟩ : ∃ S, P.2.2.2.2.2.1[j]? = some S := ⟨_, List.getElem?_eq_getElem j1⟩
    obtain ⟨p1, p2, p3, p4, p5, p6⟩ := s3 j S hS
    have hSd : P.2.2.2.2.2.1.getD j ([], [], []) = S := by rw [List.getD_eq_getElem?_getD, hS]; rfl
    obtain ⟨t, t1, t2, t3⟩ := SW_sl (X := X) (b := b) p1 h1
    obtain ⟨u, u1, u2, u3⟩ := SW_sl (X := X) (b := b) p2 h1
    have t1 : cv X 44 (100 * b + j) = nI t := t1
    have u1 : cv X 45 (100 * b + j) = nI u := u1
    have p3 : SHc X b j S.2.2 := p3
    have hsub : nI (8 * (100 * b + j)) + nI S.2.2.length - 1 = nI (8 * (100 * b + j) + (S.2.2.length - 1)) := by
      rw [nI_add, show (1 : Int32) = nI 1 from rfl, nI_sub_le (by omega)]
      congr 1
      omega
    obtain ⟨y, hy⟩ : ∃ y, S.2.2[S.2.2.length - 1]? = some y := ⟨_, List.getElem?_eq_getElem (by omega)⟩
    have hls : lstV S.2.2 = y.2 := by unfold lstV; rw [List.getLast?_eq_getElem?, hy]; rfl
    show ∃ X1 : zX, _ = some ((match kn K (P.2.2.2.2.2.1.getD j ([], [], [])).1 with
      | none => (lstV (P.2.2.2.2.2.1.getD j ([], [], [])).2.2, -1)
      | some t => (atV (plc (P.2.2.2.2.2.1.getD j ([], [], [])).2.1 t) (lstV (P.2.2.2.2.2.1.getD j ([], [], [])).2.2) 0 (P.2.2.2.2.2.1.getD j ([], [], [])).2.2, plc (P.2.2.2.2.2.1.getD j ([], [], [])).2.1 t) : Int32 × Int32).1, X1) ∧ X1.1 89 = (match kn K (P.2.2.2.2.2.1.getD j ([], [], [])).1 with
      | none => (lstV (P.2.2.2.2.2.1.getD j ([], [], [])).2.2, -1)
      | some t => (atV (plc (P.2.2.2.2.2.1.getD j ([], [], [])).2.1 t) (lstV (P.2.2.2.2.2.1.getD j ([], [], [])).2.2) 0 (P.2.2.2.2.2.1.getD j ([], [], [])).2.2, plc (P.2.2.2.2.2.1.getD j ([], [], [])).2.1 t) : Int32 × Int32).2 ∧ (∀ k, k ≠ 89 → X1.1 k = X.1 k) ∧ X1.2.2 = X.2.2
    rw [hSd, j2, if_neg (nI_m1 (by omega)), j3 (a := 100) (k := 100) h2 rfl, rd_cv hL (by decide) (by show _ < 200; omega) (by omega), t1]
    dsimp only [Option.bind_some]
    rw [kof_ok h5 t3 t2 hn]
    dsimp only [Option.bind_some]
    rw [rd_cv hL (by decide) (by show _ < 200; omega) (by omega), p3.1]
    dsimp only [Option.bind_some]
    rw [show (8 : Int32) = nI 8 from rfl, nI_mul, hsub]
    cases hf : knf K S.1 with
    | none =>
      rw [knf_no hf]
      dsimp only
      rw [if_pos rfl, rd_cv hL (by decide) (by show _ < 1600; omega) (by omega), (p3.2 _ y hy).2, hls]
      exact ⟨X, rfl, h89, fun _ _ => rfl, rfl⟩
    | some k =>
      obtain ⟨x, hx, hxw, hkn⟩ := knf_lt hf
      have hk8 : k < 8 := by have := lt_of_get hx; have := h5.2.1; omega
      rw [hkn]
      dsimp only
      rw [if_neg (nI_m1 (by omega)), rd_cv hL (by decide) (by show _ < 200; omega) (by omega), u1]
      dsimp only [Option.bind_some]
      obtain ⟨hh, e⟩ := plc_ok (n := n) hL u3 u2 p6 h5 hx (h6 x (List.mem_of_getElem? hx)) hn
      rw [e]
      dsimp only [Option.bind_some, zlet]
      have e89 : (xF (xH X hh) 89 (plc S.2.1 x.2)).1 89 = plc S.2.1 x.2 := by rw [xF_1, if_pos rfl]
      have h := at_l (n := n) (X := xF (xH X hh) 89 (plc S.2.1 x.2)) (l1 := nI q) (l2 := nI (240 * b + q)) (l3 := nI (100 * b + j)) (l4 := nI k) (j := j) (sh := S.2.2) hL h1 (by omega) p3 p4 p5 n 0 0 (by omega) (by omega)
      rw [e89, List.drop_zero] at h
      refine ⟨xF (xH X hh) 89 (plc S.2.1 x.2), h, e89, fun k hk => by rw [xF_1, if_neg hk]; rfl, rfl⟩
end
end ZSV

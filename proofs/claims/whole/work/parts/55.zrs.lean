/-! THE REFERENCE'S SLOTS AND NAMES -/
section ZRS
/-- the rows have their lengths -/
def LN (X : zX) : Prop := ∀ i, i < 71 → (X.2.2 i).length = mln i
/-- slot s holds w -/
def SLT (X : zX) (s : Nat) (w : List Int32) : Prop := w.length ≤ 16 ∧ zg (X.2.2 2) s = some (nI w.length) ∧ (∀ k, k < w.length → zg (X.2.2 3) (16 * s + k) = some (nB (w.getD k 0))) ∧ ∀ c ∈ w, byt c
/-- the names at base of row i -/
def NMS (X : zX) (i base : Nat) (names : List (List Int32)) : Prop := ∀ k w, names[k]? = some w → ∃ s, zg (X.2.2 i) (base + k) = some (nI s) ∧ s < 3016 ∧ SLT X s w
section
variable {n : Nat} {X : zX} {T : List Int32} {fk : Int32} {ts : List Tk} {r : RR (List Tk)}
theorem RI_of {X1 : zX} (h : RI X T fk r) (h1 : X1.1 = X.1) (h2 : X1.2.2 0 = X.2.2 0) : RI X1 T fk r := by
  obtain ⟨hT, h70, hm⟩ := h
  refine ⟨TP_of hT (by rw [h1]) h2, by rw [h1]; exact h70, ?_⟩
  cases r with
  | inl e => show X1.1 73 = _ ∧ X1.1 64 = _ ∧ _; rw [h1]; exact hm
  | inr ts =>
    obtain ⟨p, hp, e, hK⟩ := hm
    refine ⟨p, hp, e, ?_⟩
    unfold TOKs
    rw [h1]
    exact hK
theorem LN_of {X1 : zX} {wf wa : Nat} (h : LN X) (hw : fr wf wa X X1) : LN X1 := fun i hi => (hw.2.2.2 i).trans (h i hi)
theorem nI_mul (a b : Nat) : nI a * nI b = nI (a * b) := (Int32.ofNat_mul a b).symm
theorem nB_nB (b : Int32) : (nB b).toInt8.toInt32 = nB b := by
  show b.toInt8.toInt32.toInt8.toInt32 = b.toInt8.toInt32
  simp
theorem nB_eq {a b : Int32} (ha : byt a) (hb : byt b) (h : nB a = nB b) : a = b := by rw [← byt_and ha, ← byt_and hb, h]
theorem zg_get {l : List Int32} {k : Nat} (h : k < l.length) : zg l k = some (l.getD k 0) := by
  rw [zg_eq, List.getElem?_eq_getElem h, List.getD_eq_getElem?_getD, List.getElem?_eq_getElem h]
  rfl
theorem tape_at (hT : TP X T) {i : Nat} (h : i < T.length) : zg (X.2.2 0) i = some (nB (tAt T i)) := hT.2.2.2.1 i _ (by rw [tAt_lt h, zg_eq, List.getElem?_eq_getElem h])
theorem tAt_byt (hT : TP X T) {i : Nat} (h : i < T.length) : byt (tAt T i) := by
  rw [tAt_lt h]
  exact hT.2.2.2.2 _ (List.getElem_mem h)
theorem cut_byt (hT : TP X T) {a e : Nat} : ∀ c ∈ cut T a e, byt c := by
  intro c hc
  unfold cut at hc
  exact hT.2.2.2.2 c (List.mem_of_mem_drop (List.mem_of_mem_take hc))
theorem bk_of {b i j : Nat} (hj : j < 2 ^ 31) (h : j / mH i = b ∨ 2 * mH i ≤ j) (hb : b < 2 ^ 31) : bkO (nI b) i (nI j) = true := by
  unfold bkO
  rw [nI_clamp hj, nI_clamp hb]
  rcases h with h | h
  · rw [h, Nat.beq_refl]; rfl
  · rw [Nat.ble_eq_true_of_le h, Bool.or_true]
theorem put_l {b s f m : Nat} (hs : s < 3016) (hbs : s / 1500 = b ∨ 3000 ≤ s) (hb1 : b ≤ 1) (hm : m ≤ 16) (hf : f + m ≤ T.length) : ∀ (k c : Nat) {X : zX}, X.1 4 = nI b → TP X T → LN X → c ≤ m → m - c < k → (∀ j, j < c → zg (X.2.2 3) (16 * s + j) = some (nB (tAt T (f + j)))) → ∃ X1, gf207_10 n k (nI s) (nI f) (nI m) (nI c) X = some ((), X1) ∧ (∀ j, j < m → zg (X1.2.2 3) (16 * s + j) = some (nB (tAt T (f + j)))) ∧ (∀ j, j < 16 * s ∨ 16 * s + 16 ≤ j → zg (X1.2.2 3) j = zg (X.2.2 3) j) ∧ X1.2.2 2 = X.2.2 2
  | 0, c, X, _, _, _, _, h, _ => by omega
  | k + 1, c, X, h4, hT, hL, hc, hk, hj => by
    have h6 := hT.2.1
    show ∃ X1, gb207_10 n (gf207_10 n k) (nI s) (nI f) (nI m) (nI c) X = some ((), X1) ∧ _
    unfold gb207_10
    by_cases hz : c = m
    · subst hz
      rw [if_pos (Int32.le_refl _)]
      exact ⟨X, rfl, hj, fun _ _ => rfl, rfl⟩
    · have hcm : c < m := by omega
      have h3 : (X.2.2 3).length = 48256 := hL 3 (by decide)
      rw [if_neg (nI_ge hcm (by omega)), nI_add, rd_nI (by omega), tape_at hT (by omega)]
      dsimp only [Option.bind_some]
      rw [show (16 : Int32) = nI 16 from rfl, nI_mul, nI_add, h4, bk_of (by omega) (by rw [show mH 3 = 24000 from rfl]; rcases hbs with q | q; left; omega; right; omega) (by omega)]
      show ∃ X1, ((wr X 3 (nI (16 * s + c)) _).bind _) = _ ∧ _
      rw [wr_nI (by omega) (by rw [h3]; omega), nB_nB]
      dsimp only [Option.bind_some]
      rw [nI_1]
      obtain ⟨X1, e1, e2, e3, e4⟩ := put_l hs hbs hb1 hm hf k (c + 1) (X := xA X 3 (zs (X.2.2 3) (16 * s + c) (nB (tAt T (f + c))))) h4 (TP_of hT rfl rfl) (fun i hi => by rw [xA_3]; split; rename_i q; rw [q, zs_length]; exact hL 3 (by decide); exact hL i hi) (by omega) (by omega) (by
        intro j hj'
        rw [xA_3, if_pos rfl]
        by_cases q : j = c
        · rw [q, zg_zs_eq (by rw [h3]; omega)]
        · rw [zg_zs_ne (by omega)]
          exact hj j (by omega))
      refine ⟨X1, e1, e2, fun j hj' => ?_, e4⟩
      rw [e3 j hj', xA_3, if_pos rfl, zg_zs_ne (by omega)]
theorem put_ok {b s f m : Nat} (hs : s < 3016) (hbs : s / 1500 = b ∨ 3000 ≤ s) (hb1 : b ≤ 1) (hm : m ≤ 16) (hf : f + m ≤ T.length) (h4 : X.1 4 = nI b) (hT : TP X T) (hL : LN X) (hn : 6002 ≤ n) : ∃ X1, g207 n (nI s) (nI f) (nI m) X = some ((), X1) ∧ SLT X1 s (cut T f (f + m)) ∧ ∀ s' w, s' ≠ s → SLT X s' w → SLT X1 s' w := by
  have h6 := hT.2.1
  have h2 : (X.2.2 2).length = 3016 := hL 2 (by decide)
  unfold g207
  rw [h4, bk_of (by omega) (by rw [show mH 2 = 1500 from rfl]; rcases hbs with q | q; left; omega; right; omega) (by omega)]
  show ∃ X1, ((wr X 2 (nI s) _).bind _) = _ ∧ _
  rw [wr_nI (by omega) (by omega)]
  dsimp only [Option.bind_some]
  obtain ⟨X1, e1, e2, e3, e4⟩ := put_l (n := n) hs hbs hb1 hm hf n 0 (X := xA X 2 (zs (X.2.2 2) s (nI m))) h4 (TP_of hT rfl rfl) (fun i hi => by rw [xA_3]; split; rename_i q; rw [q, zs_length]; exact hL 2 (by decide); exact hL i hi) (by omega) (by omega) (by intro j hj; omega)
  have hl : (cut T f (f + m)).length = m := by rw [cut_len hf]; omega
  refine ⟨X1, e1, ⟨by omega, ?_, ?_, cut_byt hT⟩, ?_⟩
  · rw [e4, xA_3, if_pos rfl, hl, zg_zs_eq (by omega)]
  · intro k hk
    rw [hl] at hk
    rw [e2 k hk, cut_get hf hk]
  · intro s' w hne ⟨w1, w2, w3, w4⟩
    refine ⟨w1, ?_, ?_, w4⟩
    · rw [e4, xA_3, if_pos rfl, zg_zs_ne (fun q => hne q.symm)]
      exact w2
    · intro k hk
      rw [e3 (16 * s' + k) (by omega)]
      exact w3 k hk
/-- is the slot's word that of the tape? -/
theorem isS_l {s f m : Nat} {w : List Int32} (hS : SLT X s w) (hs : s < 3016) (hT : TP X T) (hm : w.length = m) (hf : f + m ≤ T.length) : ∀ (k c : Nat), c ≤ m → m - c < k → gf205_20 n k (nI s) (nI f) (nI m) 1 (nI c) X = some (b2 (decide (w.drop c = (cut T f (f + m)).drop c)), X)
  | 0, c, _, h => by omega
  | k + 1, c, hc, hk => by
    have h6 := hT.2.1
    obtain ⟨w1, w2, w3, w4⟩ := hS
    show gb205_20 n (gf205_20 n k) (nI s) (nI f) (nI m) 1 (nI c) X = _
    unfold gb205_20
    by_cases hz : c = m
    · subst hz
      have hl : (cut T f (f + c)).length = c := by rw [cut_len hf]; omega
      rw [if_pos (Int32.le_refl _), decide_eq_true (by rw [List.drop_eq_nil_of_le (by omega), List.drop_eq_nil_of_le (by omega)])]
      rfl
    · have hcm : c < m := by omega
      rw [if_neg (nI_ge hcm (by omega)), if_neg (by decide), show (16 : Int32) = nI 16 from rfl, nI_mul, nI_add, rd_nI (by omega), w3 c (by omega)]
      dsimp only [Option.bind_some]
      rw [nI_add, rd_nI (by omega), tape_at hT (by omega)]
      dsimp only [Option.bind_some]
      have hbw : byt (w.getD c 0) := by
        rw [List.getD_eq_getElem?_getD, List.getElem?_eq_getElem (by omega)]
        exact w4 _ (List.getElem_mem _)
      have hbt := tAt_byt hT (i := f + c) (by omega)
      have hl : (cut T f (f + m)).length = m := by rw [cut_len hf]; omega
      have hcw : c < w.length := by omega
      have hcv : c < (cut T f (f + m)).length := by omega
      have ew : w.getD c 0 = w[c] := by rw [List.getD_eq_getElem?_getD, List.getElem?_eq_getElem hcw]; rfl
      have ev : tAt T (f + c) = (cut T f (f + m))[c] := by rw [← cut_get hf hcm, List.getD_eq_getElem?_getD, List.getElem?_eq_getElem hcv]; rfl
      rw [List.drop_eq_getElem_cons hcw, List.drop_eq_getElem_cons hcv, ← ew, ← ev]
      unfold gb205_60
      by_cases he : w.getD c 0 = tAt T (f + c)
      · rw [if_pos (by rw [he]), nI_1, isS_l ⟨w1, w2, w3, w4⟩ hs hT hm hf k (c + 1) (by omega) (by omega), he]
        congr 3
        apply decide_eq_decide.mpr
        constructor
        · intro h; rw [h]
        · intro h; exact (List.cons.inj h).2
      · rw [if_neg (fun q => he (nB_eq hbw hbt q)), decide_eq_false (fun h => he (List.cons.inj h).1)]
        cases k with
        | zero => omega
        | succ k =>
          show gb205_20 n (gf205_20 n k) (nI s) (nI f) (nI m) 0 (nI c + 1) X = _
          unfold gb205_20
          rw [if_pos rfl]
          split <;> rfl
theorem isS_ok {s f m : Nat} {w : List Int32} (hS : SLT X s w) (hs : s < 3016) (hT : TP X T) (hf : f + m ≤ T.length) (hn : 6002 ≤ n) : g205 n (nI s) (nI f) (nI m) X = some (b2 (decide (w = cut T f (f + m))), X) := by
  have h6 := hT.2.1
  have hS' := hS
  obtain ⟨w1, w2, w3, w4⟩ := hS
  have hl : (cut T f (f + m)).length = m := by rw [cut_len hf]; omega
  unfold g205
  rw [rd_nI (by omega), w2]
  dsimp only [Option.bind_some]
  unfold gb205_15
  by_cases hm : w.length = m
  · rw [if_pos (by rw [hm]), show (0 : Int32) = nI 0 from rfl, isS_l hS' hs hT hm hf n 0 (by omega) (by omega)]
    rw [List.drop_zero, List.drop_zero]
  · rw [if_neg (by rw [nI_eq (by omega) (by omega)]; exact hm), decide_eq_false (by intro h; rw [h] at hm; exact hm hl)]
    cases n with
    | zero => omega
    | succ n =>
      show gb205_20 _ (gf205_20 _ n) (nI s) (nI f) (nI m) 0 0 X = _
      unfold gb205_20
      rw [if_pos rfl]
      split <;> rfl
theorem fnd_l {i base f m : Nat} {names : List (List Int32)} (hN : NMS X i base names) (hi : yOk i = true) (hb : base + names.length ≤ 100000) (hT : TP X T) (hf : f + m ≤ T.length) (hn : 6002 ≤ n) : ∀ (k c : Nat), c ≤ names.length → names.length - c < k → gf204_3 n k i (nI base) (nI names.length) (nI f) (nI m) (nI c) X = some (match (names.drop c).findIdx? (fun x => x == cut T f (f + m)) with | some j => nI (c + j) | none => -1, X)
  | 0, c, _, h => by omega
  | k + 1, c, hc, hk => by
    show gb204_3 n (gf204_3 n k) i (nI base) (nI names.length) (nI f) (nI m) (nI c) X = _
    unfold gb204_3
    by_cases hz : c = names.length
    · rw [hz, if_pos (Int32.le_refl _), List.drop_length]
      rfl
    · have hcl : c < names.length := by omega
      obtain ⟨s, s1, s2, s3⟩ := hN c names[c] (List.getElem?_eq_getElem hcl)
      rw [if_neg (nI_ge hcl (by omega))]
      refine zgd_eq hi ?_
      rw [nI_add, rd_nI (by omega), s1]
      dsimp only [Option.bind_some]
      rw [isS_ok s3 s2 hT hf hn]
      dsimp only [Option.bind_some]
      rw [List.drop_eq_getElem_cons hcl, List.findIdx?_cons]
      by_cases he : names[c] = cut T f (f + m)
      · rw [decide_eq_true he, if_neg (by decide), if_pos (by simpa using he)]
        rfl
      · rw [decide_eq_false he, if_pos b2_f, if_neg (by simpa using he), nI_1, fnd_l hN hi hb hT hf hn k (c + 1) (by omega) (by omega)]
        congr 2
        cases (names.drop (c + 1)).findIdx? (fun x => x == cut T f (f + m)) with
        | none => rfl
        | some j => show nI (c + 1 + j) = nI (c + (j + 1)); congr 1; omega
theorem fnd_ok {i base f m : Nat} {names : List (List Int32)} (hN : NMS X i base names) (hi : yOk i = true) (hb : base + names.length ≤ 100000) (hnl : names.length ≤ 6000) (hT : TP X T) (hf : f + m ≤ T.length) (hn : 6002 ≤ n) : g204 n i (nI base) (nI names.length) (nI f) (nI m) X = some (match fnd names (cut T f (f + m)) with | some j => nI j | none => -1, X) := by
  unfold g204
  rw [show (0 : Int32) = nI 0 from rfl, fnd_l hN hi hb hT hf hn n 0 (by omega) (by omega), List.drop_zero]
  unfold fnd
  simp only [Nat.zero_add]
end
end ZRS

/-! THE CALLS OF THE REFERENCE: know -/
section ZLE
section
variable {n : Nat} {X X1 X2 : zX} {S : St} {v y l1 l4 l5 l6 l7 : Int32} {T w : List Int32} {L : Ldd} {K : KL} {b j f0 m : Nat} {z : List Int32 × Thg} {x : List Int32 × Thg}
theorem fb_bk (hb : b ≤ 1) (h4 : X.1 4 = nI (1 - b)) (hv : fb X X1) : BKs X X1 b ∧ SKa b X X1 := by
  have hb5 : (X.1 4).toNatClampNeg = 1 - b := by
    rw [h4]
    rcases (show b = 0 ∨ b = 1 by omega) with e | e <;> rw [e] <;> rfl
  have hin : ∀ i j, mH i * b ≤ j → j < mH i * b + mH i → zg (X1.2.2 i) j = zg (X.2.2 i) j := fun i j h1 h2 => by
    have hm : 0 < mH i := by omega
    have hd : j / mH i = b := by
      rw [Nat.div_eq_iff hm]
      rw [Nat.mul_comm] at h1 h2
      omega
    refine hv.2 i j (by rw [hd, hb5]; omega) ?_
    rcases (show b = 0 ∨ b = 1 by omega) with e | e <;> rw [e] at h2 <;> omega
  have hcv : ∀ i j, mH i * b ≤ j → j < mH i * b + mH i → cv X1 i j = cv X i j := fun i j h1 h2 => by
    unfold cv ce
    rw [hin i j h1 h2]
  refine ⟨fun i j _ h1 h2 => hcv i j h1 h2, fun s w ⟨c, c1, c2, c3, c4⟩ ⟨w1, w2, w3, w4⟩ => ⟨⟨c, ?_, c2, c3, c4⟩, w1, ?_, fun k hk => ?_, w4⟩⟩
  · rw [hcv 1 b (by show 1 * b ≤ b; omega) (by show b < 1 * b + 1; omega)]; exact c1
  · rw [hin 2 s (by show 1500 * b ≤ s; omega) (by show s < 1500 * b + 1500; omega)]; exact w2
  · rw [hin 3 (16 * s + k) (by show 24000 * b ≤ _; omega) (by show _ < 24000 * b + 24000; omega)]; exact w3 k hk
theorem fb_up {i q : Nat} (hi : mH i = 0) : fb X (up X i q v) := ⟨rfl, fun r j h1 h2 => by
  have : r ≠ i := fun e => by rw [e, hi] at h2; omega
  rw [up_row this]⟩
def kpn (K : KL) (j : Nat) (z : List Int32 × Thg) : KL := if j = K.length then K ++ [z] else K.set j z
theorem kpn_g {k : Nat} (hj : j ≤ K.length) (h : (kpn K j z)[k]? = some x) : (k = j ∧ x = z) ∨ (k ≠ j ∧ K[k]? = some x) := by
  unfold kpn at h
  by_cases c : j = K.length
  · rw [if_pos c] at h
    rcases get_app h with h | ⟨h1, h2⟩
    · exact Or.inr ⟨by have := lt_of_get h; omega, h⟩
    · exact Or.inl ⟨by omega, h2⟩
  · rw [if_neg c, List.getElem?_set] at h
    by_cases d : j = k
    · rw [if_pos d, if_pos (by omega)] at h
      cases h
      exact Or.inl ⟨d.symm, rfl⟩
    · rw [if_neg d] at h
      exact Or.inr ⟨fun e => d e.symm, h⟩
theorem kpn_l : (kpn K j z).length = if j = K.length then K.length + 1 else K.length := by
  unfold kpn
  by_cases c : j = K.length
  · rw [if_pos c, if_pos c, List.length_append]; rfl
  · rw [if_neg c, if_neg c, List.length_set]
/-- what a text's bytes are, where it is one -/
def TXT (T : List Int32) (t : Thg) (l5 l6 l7 : Int32) : Prop := (t.1 = false → l5 = t.2.1) ∧ (t.1 = true → ∃ g0 m2, l6 = nI g0 ∧ l7 = nI m2 ∧ m2 ≤ 16 ∧ g0 + m2 ≤ T.length ∧ t.2.2 = cut T g0 (g0 + m2) ∧ ∀ c ∈ t.2.2, dTxt c = true)
theorem kst {t : Thg} (hL : LN X) (hT : TP X T) (hK : KNX X K) (hb : b ≤ 1) (h4 : X.1 4 = nI b) (hj : j ≤ K.length) (hj8 : j < 8) (hm : m ≤ 16) (hf : f0 + m ≤ T.length) (h4t : l4 = b2 t.1) (ht : TXT T t l5 l6 l7) (hn : 6002 ≤ n) : ∃ X1, gb243_186 n l1 (nI f0) (nI m) l4 l5 l6 l7 (nI j) X = some (1, X1) ∧ X1.1 0 = 0 ∧ X1.1 2 = 0 ∧ KNX X1 (kpn K j (cut T f0 (f0 + m), t)) ∧ LN X1 ∧ (∀ k, k ≠ 0 → k ≠ 2 → k ≠ 65 → X1.1 k = X.1 k) ∧ (∀ r, r ≠ 2 → r ≠ 3 → r ≠ 60 → r ≠ 61 → X1.2.2 r = X.2.2 r) ∧ fb X X1 := by
  have h6 := hT.2.1
  have h8 := hK.2.1
  obtain ⟨Xa, hXa⟩ : ∃ Xa, Xa = xF (xF X 0 0) 65 (nI (if j = K.length then K.length + 1 else K.length)) := ⟨_, rfl⟩
  have a1 : ∀ k, k ≠ 0 → k ≠ 65 → Xa.1 k = X.1 k := fun k p q => by rw [hXa, xF_1, if_neg q, xF_1, if_neg p]
  have a2 : Xa.2.2 = X.2.2 := by rw [hXa]; rfl
  have hLa : LN Xa := fun i hi => by rw [a2]; exact hL i hi
  have hTa : TP Xa T := TP_of hT (a1 2 (by omega) (by omega)) (by rw [a2])
  have hfa : fb X Xa := by
    rw [hXa]
    exact fb_F (fb_F fb_R (by decide) rfl) (by decide) rfl
  obtain ⟨X1, e1, e2, e3⟩ := put_ok (n := n) (s := 3000 + j) (f := f0) (m := m) (b := b) (by omega) (Or.inr (by omega)) hb hm hf ((a1 4 (by omega) (by omega)).trans h4) hTa hLa hn
  have w1 := w207 e1
  have f1 : ∀ k, X1.1 k = Xa.1 k := fun k => w1.1 k (by simp)
  have r1 : ∀ r, r ≠ 2 → r ≠ 3 → X1.2.2 r = Xa.2.2 r := fun r p q => w1.2.2.1 r (by
    have : ∀ q : Nat, q ≠ 2 → q ≠ 3 → Nat.testBit 12 q = false := fun q h2 h3 => by
      rw [show (12 : Nat) = 2 ^ 2 + 2 ^ 3 from rfl]
      by_cases c : q < 4
      · have : q = 0 ∨ q = 1 := by omega
        rcases this with rfl | rfl <;> decide
      · exact Nat.testBit_lt_two_pow (Nat.lt_of_lt_of_le (show 2 ^ 2 + 2 ^ 3 < 2 ^ 4 by decide) (Nat.pow_le_pow_right (by omega) (by omega)))
    exact this r p q)
  have hL1 : LN X1 := fun i hi => by rw [w1.2.2.2 i]; exact hLa i hi
  have hb1 : fb X X1 := fb_T hfa (v207 e1)
  obtain ⟨X2, hX2⟩ : ∃ X2, X2 = up (up X1 60 j (l4 &&& 1)) 61 j l5 := ⟨_, rfl⟩
  have hL2 : LN X2 := by rw [hX2]; exact LN_up (LN_up hL1)
  have r2 : ∀ r, r ≠ 60 → r ≠ 61 → X2.2.2 r = X1.2.2 r := fun r p q => by rw [hX2, up_row q, up_row p]
  have hb2 : fb X X2 := by rw [hX2]; exact fb_T (fb_T hb1 (fb_up rfl)) (fb_up rfl)
  have f2 : ∀ k, X2.1 k = X1.1 k := fun k => by rw [hX2]; rfl
  have hgo : ∀ {R : Option (Int32 × zX)}, (if l4 = 0 then gb243_285 n l1 (nI f0) (nI m) l4 l5 l6 l7 (nI j) X2 else (g207 n (3008 + nI j) l6 l7 X2).bind fun p12 => gb243_285 n l1 (nI f0) (nI m) l4 l5 l6 l7 (nI j) p12.2) = R → gb243_186 n l1 (nI f0) (nI m) l4 l5 l6 l7 (nI j) X = R := by
    intro R hR
    have h233 : ∀ s0, s0 = nI (if j = K.length then K.length + 1 else K.length) → gb243_233 n l1 (nI f0) (nI m) l4 l5 l6 l7 (nI j) s0 (xF X 0 0) = R := by
      intro s0 hs
      unfold gb243_233 zlet
      dsimp only
      rw [hs, ← hXa, show (3000 : Int32) = nI 3000 from rfl, nI_add, e1]
      dsimp only [Option.bind_some]
      refine wst0 hL1 (by decide) (by show j < 8; omega) (by omega) rfl ?_
      refine wst0 (LN_up hL1) (by decide) (by show j < 8; omega) (by omega) rfl ?_
      rw [← hX2]
      exact hR
    unfold gb243_186 zlet
    dsimp only
    have hx65 : (xF X 0 0).1 65 = nI K.length := by rw [xF_1, if_neg (by decide)]; exact hK.1
    rw [if_neg (show ¬ nI j = (8 : Int32) from fun q => absurd (nI_jj (i := j) (j := 8) (by omega) (by omega) q) (by omega)), hx65]
    by_cases c : j = K.length
    · rw [if_pos (by rw [c])]
      exact h233 _ (by rw [if_pos c, nI_1])
    · rw [if_neg (fun q => c (nI_jj (by omega) (by omega) q))]
      exact h233 _ (by rw [if_neg c])
  have hfin : ∀ (X3 : zX), SLT X3 (3000 + j) (cut T f0 (f0 + m)) → (∀ s w, s ≠ 3000 + j → s ≠ 3008 + j → SLT X s w → SLT X3 s w) → (t.1 = true → SLT X3 (3008 + j) t.2.2) → (∀ r, r ≠ 2 → r ≠ 3 → X3.2.2 r = X2.2.2 r) → (∀ k, X3.1 k = X2.1 k) → LN X3 → fb X X3 → ∃ X1', some ((1 : Int32), xF X3 2 0) = some (1, X1') ∧ X1'.1 0 = 0 ∧ X1'.1 2 = 0 ∧ KNX X1' (kpn K j (cut T f0 (f0 + m), t)) ∧ LN X1' ∧ (∀ k, k ≠ 0 → k ≠ 2 → k ≠ 65 → X1'.1 k = X.1 k) ∧ (∀ r, r ≠ 2 → r ≠ 3 → r ≠ 60 → r ≠ 61 → X1'.2.2 r = X.2.2 r) ∧ fb X X1' := by
    intro X3 s1 s2 s3 s4 s5 s6 s7
    have g5 : ∀ k, X3.1 k = Xa.1 k := fun k => by rw [s5, f2, f1]
    have c60 : ∀ q, cv X3 60 q = cv X2 60 q := fun q => cv_of (s4 60 (by decide) (by decide))
    have c61 : ∀ q, cv X3 61 q = cv X2 61 q := fun q => cv_of (s4 61 (by decide) (by decide))
    refine ⟨xF X3 2 0, rfl, ?_, by rw [xF_1, if_pos rfl], ⟨?_, ?_, fun k y hy => ?_⟩, s6, fun k p q r => ?_, fun r p q p' q' => ?_, fb_F s7 (by decide) rfl⟩
    · rw [xF_1, if_neg (by decide), g5, hXa, xF_1, if_neg (by decide), xF_1, if_pos rfl]
    · rw [xF_1, if_neg (by decide), g5, hXa, xF_1, if_pos rfl, kpn_l]
    · rw [kpn_l]; split <;> omega
    · rcases kpn_g hj hy with ⟨rfl, rfl⟩ | ⟨hk, hy⟩
      · refine ⟨SLT_of s1 rfl rfl, ?_, fun q => ?_, fun q => ⟨SLT_of (s3 q) rfl rfl, ?_⟩⟩
        · show cv X3 60 k = _
          rw [c60, hX2, cv_ne (Or.inl (by decide)), cv_eq hL1 (by decide) (by show k < 8; omega), h4t, b2_and]
        · show cv X3 61 k = _
          rw [c61, hX2, cv_eq (LN_up hL1) (by decide) (by show k < 8; omega)]
          exact ht.1 q
        · obtain ⟨_, _, _, _, _, _, _, h⟩ := ht.2 q
          exact h
      · obtain ⟨y1, y2, y3, y4⟩ := hK.2.2 k y hy
        have hk8 : k < 8 := by have := lt_of_get hy; omega
        refine ⟨SLT_of (s2 _ _ (by omega) (by omega) y1) rfl rfl, ?_, fun q => ?_, fun q => ⟨SLT_of (s2 _ _ (by omega) (by omega) (y4 q).1) rfl rfl, (y4 q).2⟩⟩
        · show cv X3 60 k = _
          rw [c60, hX2, cv_ne (Or.inl (by decide)), cv_ne (Or.inr hk), cv_of (show X1.2.2 60 = X.2.2 60 by rw [r1 60 (by decide) (by decide), a2])]
          exact y2
        · show cv X3 61 k = _
          rw [c61, hX2, cv_ne (Or.inr hk), cv_ne (Or.inl (by decide)), cv_of (show X1.2.2 61 = X.2.2 61 by rw [r1 61 (by decide) (by decide), a2])]
          exact y3 q
    · rw [xF_1, if_neg q, g5, a1 k p r]
    · show X3.2.2 r = _
      rw [s4 r p q, r2 r p' q', r1 r p q, a2]
  have hSx : ∀ s w, s ≠ 3000 + j → SLT X s w → SLT X2 s w := fun s w hs hw => SLT_of (e3 s w hs (SLT_of hw (by rw [a2]) (by rw [a2]))) (r2 2 (by decide) (by decide)) (r2 3 (by decide) (by decide))
  have hS0 : SLT X2 (3000 + j) (cut T f0 (f0 + m)) := SLT_of e2 (r2 2 (by decide) (by decide)) (r2 3 (by decide) (by decide))
  cases htt : t.1 with
  | false =>
    obtain ⟨X', g1, g2⟩ := hfin X2 hS0 (fun s w p _ hw => hSx s w p hw) (fun q => by rw [htt] at q; cases q) (fun _ _ _ => rfl) (fun _ => rfl) hL2 hb2
    refine ⟨X', hgo ?_, g2⟩
    rw [h4t, htt, if_pos b2_f]
    exact g1
  | true =>
    obtain ⟨g0, m2, t1, t2, t3, t4, t5, t6⟩ := ht.2 htt
    obtain ⟨X3, p1, p2, p3⟩ := put_ok (n := n) (X := X2) (s := 3008 + j) (f := g0) (m := m2) (b := b) (by omega) (Or.inr (by omega)) hb t3 t4 (by rw [f2, f1, a1 4 (by omega) (by omega)]; exact h4) (TP_of hTa (by rw [f2, f1]) (by rw [r2 0 (by decide) (by decide), r1 0 (by decide) (by decide)])) hL2 hn
    have w3 := w207 p1
    have r3 : ∀ r, r ≠ 2 → r ≠ 3 → X3.2.2 r = X2.2.2 r := fun r p q => w3.2.2.1 r (by
      by_cases c : r < 4
      · have : r = 0 ∨ r = 1 := by omega
        rcases this with rfl | rfl <;> decide
      · exact Nat.testBit_lt_two_pow (Nat.lt_of_lt_of_le (show 12 < 2 ^ 4 by decide) (Nat.pow_le_pow_right (by omega) (by omega))))
    obtain ⟨X', g1, g2⟩ := hfin X3 (p3 _ _ (by omega) hS0) (fun s w p q hw => p3 s w q (hSx s w p hw)) (fun _ => by rw [t5]; exact p2) r3 (fun k => w3.1 k (by simp)) (fun i hi => by rw [w3.2.2.2 i]; exact hL2 i hi) (fb_T hb2 (v207 p1))
    refine ⟨X', hgo ?_, g2⟩
    rw [h4t, htt, if_neg (by decide), t1, t2, show (3008 : Int32) = nI 3008 from rfl, nI_add, p1]
    exact g1
end
end ZLE

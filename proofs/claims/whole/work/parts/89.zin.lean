/-! THE REFERENCE'S START; WHAT IS ALIKE -/
section ZIN
def z0 (b : Nat) : List Nat → zX → zX
  | [], X => X
  | a :: l, X => z0 b l (up X a b 0)
section
variable {n : Nat} {X X1 X2 : zX} {b nv cb : Nat} {T : List Int32} {fk : Int32} {ts : List Tk} {r : RR (List Tk)} {P : Pln} {D : List Pd}
theorem z0_LN : ∀ (l : List Nat) {X : zX}, LN X → LN (z0 b l X)
  | [], _, h => h
  | a :: l, X, h => z0_LN l (LN_up h)
theorem z0_1 : ∀ (l : List Nat) {X : zX}, (z0 b l X).1 = X.1
  | [], _ => rfl
  | a :: l, X => by
    show (z0 b l (up X a b 0)).1 = _
    rw [z0_1 l]
    rfl
theorem z0_row {i : Nat} : ∀ (l : List Nat) {X : zX}, i ∉ l → (z0 b l X).2.2 i = X.2.2 i
  | [], _, _ => rfl
  | a :: l, X, h => by
    show (z0 b l (up X a b 0)).2.2 i = _
    rw [z0_row l (fun q => h (List.mem_cons_of_mem _ q)), up_row (fun q => h (by rw [q]; exact List.mem_cons_self))]
theorem z0_cv {i : Nat} : ∀ (l : List Nat) {X : zX}, LN X → (∀ a ∈ l, a < 71 ∧ b < mln a) → (i ∈ l ∨ cv X i b = 0) → cv (z0 b l X) i b = 0
  | [], X, _, _, h => by
    rcases h with h | h
    · cases h
    · exact h
  | a :: l, X, hL, hl, h => by
    show cv (z0 b l (up X a b 0)) i b = 0
    have ha := hl a List.mem_cons_self
    refine z0_cv l (LN_up hL) (fun q hq => hl q (List.mem_cons_of_mem _ hq)) ?_
    by_cases hi : i = a
    · right
      rw [hi, cv_eq hL ha.1 ha.2]
    · rcases h with h | h
      · left
        rcases List.mem_cons.mp h with h | h
        · exact absurd h hi
        · exact h
      · right
        rw [cv_ne (Or.inl hi)]
        exact h
theorem tks_P (h : T.length ≤ 6000) : tksP T 0 = tks T := by
  unfold tksP tks
  exact tksF_fuel _ _ 0 (by omega) (by omega) (by omega)
theorem init_ok (hL : LN X) (h4 : X.1 4 = nI b) (hb : b ≤ 1) (hT : TP X T) (hn : 6002 ≤ n) : ∃ X1, g189 n X = gf189_119 n n X1 ∧ RT X1 b pl0 ∧ RI X1 T 0 (.inr (tks T)) := by
  have hrows : ∀ a ∈ [1, 4, 9, 25, 28, 35, 39, 42, 49, 58], a < 71 ∧ b < mln a := by
    have : ∀ a ∈ [1, 4, 9, 25, 28, 35, 39, 42, 49, 58], a < 71 ∧ 2 ≤ mln a := by decide
    intro a ha
    have := this a ha
    exact ⟨this.1, by omega⟩
  obtain ⟨X38, hX38⟩ : ∃ X38, X38 = z0 b [1, 4, 9, 25, 28, 35, 39, 42, 49, 58] X := ⟨_, rfl⟩
  have L38 : LN X38 := by rw [hX38]; exact z0_LN _ hL
  have f38 : X38.1 = X.1 := by rw [hX38]; exact z0_1 _
  have c38 : ∀ i, i ∈ [1, 4, 9, 25, 28, 35, 39, 42, 49, 58] → cv X38 i b = 0 := fun i hi => by rw [hX38]; exact z0_cv _ hL hrows (Or.inl hi)
  have T38 : TP X38 T := TP_of hT (by rw [f38]) (by rw [hX38]; exact z0_row _ (by decide))
  obtain ⟨X45, hX45⟩ : ∃ X45, X45 = xF (xF (xF X38 68 0) 73 (-1)) 64 0 := ⟨_, rfl⟩
  have T45 : TP X45 T := by rw [hX45]; exact TP_xF (TP_xF (TP_xF T38 (by decide)) (by decide)) (by decide)
  have a45 : X45.2.2 = X38.2.2 := by rw [hX45]; rfl
  have f45 : ∀ k, k ≠ 68 → k ≠ 73 → k ≠ 64 → X45.1 k = X38.1 k := fun k h1 h2 h3 => by rw [hX45, xF_1, if_neg (by omega), xF_1, if_neg (by omega), xF_1, if_neg (by omega)]
  obtain ⟨X1, e1, e2⟩ := next_ok (n := n) (fk := 0) (p := 0) T45 (by rw [hX45, xF_1, if_neg (by decide), xF_1, if_pos rfl]) (by rw [hX45, xF_1, if_pos rfl]) (by rw [hX45, xF_1, if_neg (by decide), xF_1, if_neg (by decide), xF_1, if_pos rfl]; rfl) (by omega) hn
  have hw := w190 e1
  have a1 : X1.2.2 = X38.2.2 := (nx_arr e1).trans a45
  have T1 : TP X1 T := TP_of T45 (hw.1 2 rfl) (by rw [nx_arr e1])
  have h41 : X1.1 4 = nI b := by rw [hw.1 4 rfl, f45 4 (by omega) (by omega) (by omega), f38]; exact h4
  have L1 : LN X1 := fun i hi => by rw [a1]; exact L38 i hi
  have c1 : ∀ i, i ∈ [1, 4, 9, 25, 28, 35, 39, 42, 49, 58] → cv X1 i b = 0 := fun i hi => by rw [cv_of (show X1.2.2 i = X38.2.2 i by rw [a1])]; exact c38 i hi
  refine ⟨X1, ?_, ⟨[], 0, ?_, by show 0 ≤ 0; omega⟩, T1, TOKs_70 (by omega) hT.2.1 e2, ?_⟩
  · unfold g189
    refine wst1 hL h4 hb (by decide) rfl rfl h4 ?_
    refine wst1 (LN_up hL) h4 hb (by decide) rfl rfl h4 ?_
    refine wst1 (LN_up (LN_up hL)) h4 hb (by decide) rfl rfl h4 ?_
    refine wst1 (LN_up (LN_up (LN_up hL))) h4 hb (by decide) rfl rfl h4 ?_
    refine wst1 (LN_up (LN_up (LN_up (LN_up hL)))) h4 hb (by decide) rfl rfl h4 ?_
    refine wst1 (LN_up (LN_up (LN_up (LN_up (LN_up hL))))) h4 hb (by decide) rfl rfl h4 ?_
    refine wst1 (LN_up (LN_up (LN_up (LN_up (LN_up (LN_up hL)))))) h4 hb (by decide) rfl rfl h4 ?_
    refine wst1 (LN_up (LN_up (LN_up (LN_up (LN_up (LN_up (LN_up hL))))))) h4 hb (by decide) rfl rfl h4 ?_
    refine wst1 (LN_up (LN_up (LN_up (LN_up (LN_up (LN_up (LN_up (LN_up hL)))))))) h4 hb (by decide) rfl rfl h4 ?_
    refine wst1 (LN_up (LN_up (LN_up (LN_up (LN_up (LN_up (LN_up (LN_up (LN_up hL))))))))) h4 hb (by decide) rfl rfl h4 ?_
    show ((g190 n (xF (xF (xF (z0 b [1, 4, 9, 25, 28, 35, 39, 42, 49, 58] X) 68 0) 73 (-1)) 64 0)).bind fun p47 => gf189_119 n n p47.2) = _
    rw [← hX38, ← hX45, e1]
    rfl
  · refine ⟨⟨c1 4 (by decide), by show 0 ≤ 12; omega, fun k s hs => (by cases hs)⟩, ⟨c1 9 (by decide), by show 0 ≤ 24; omega, fun k s hs => (by cases hs)⟩, ⟨c1 25 (by decide), by show 0 ≤ 8; omega, fun k s hs => (by cases hs)⟩, ⟨c1 28 (by decide), by show 0 ≤ 100; omega, fun k s hs => (by cases hs)⟩, ⟨c1 35 (by decide), by show 0 ≤ 40; omega, fun k s hs => (by cases hs)⟩, c1 39 (by decide), ⟨c1 42 (by decide), by show 0 ≤ 100; omega, fun k s hs => (by cases hs)⟩, ?_⟩
    exact ⟨⟨L1, h41, hb⟩, ⟨c1 49 (by decide), by show 0 ≤ 400; omega⟩, ⟨c1 58 (by decide), by show 0 + 0 + 0 ≤ 0; omega⟩, ⟨by show 0 + 2 * 0 ≤ 640; omega, 0, c1 1 (by decide), by omega⟩, trivial, fun i x hx => (by cases hx), fun _ => False, fun i x hx => (by cases hx), fun u hu => hu.elim, fun x hx => (by cases hx), List.nodup_nil, List.nodup_nil, fun x hx => (by cases hx), fun q hq => (by cases hq), fun q hq => (by cases hq)⟩
  · exact ⟨0, by omega, (tks_P hT.2.1).symm, e2⟩
/-- what the plan's rows say stays -/
theorem RP_same (h : RP X b P D nv cb) (e : ∀ i, 1 ≤ i → i ≤ 58 → i ≠ 19 → i ≠ 24 → X1.2.2 i = X.2.2 i) (hL : LN X1) (h4 : X1.1 4 = X.1 4) : RP X1 b P D nv cb := by
  obtain ⟨c1, c2, c3, c4, ⟨c, c5, c6⟩, c7, c8, _⟩ := RP_b h
  have ec : ∀ i j, 1 ≤ i → i ≤ 58 → i ≠ 19 → i ≠ 24 → cv X1 i j = cv X i j := fun i j h1 h2 h3 h4 => cv_of (e i h1 h2 h3 h4)
  have hs : SKa b X X1 := SKa_of (e 1 (by omega) (by omega) (by omega) (by omega)) (e 2 (by omega) (by omega) (by omega) (by omega)) (e 3 (by omega) (by omega) (by omega) (by omega))
  have hI : ∀ fm D0, Inv X b P.1.length fm cb [] D0 P.2.2.2.2.2.2 [] [] [] → Inv X1 b P.1.length fm cb [] (D0 ++ []) P.2.2.2.2.2.2 [] [] [] := fun fm D0 hI => by
    rw [List.append_nil]
    exact Inv_tr hI hL h4 (fun i h1 h2 => e i (by omega) (by omega) (by omega) (by omega)) hs ⟨c, by rw [ec 1 _ (by omega) (by omega) (by omega) (by omega)]; exact c5, c6⟩ c8 (Nat.le_refl _)
  have hX : ∀ {fr to c φ}, EX X b P.1.length cb P.2.2.2.2.2.2 D fr to c φ → EX X1 b P.1.length cb P.2.2.2.2.2.2 D fr to c φ := fun hx => by
    have := EX_g hx hI
    rw [List.append_nil] at this
    exact this
  have hV : ∀ {v s nq}, SVR X b nq nv v s → SVR X1 b nq nv v s := by
    intro v s nq ⟨q, q1, q2, q3⟩
    refine ⟨q, q1, q2, ?_⟩
    cases s with
    | inl a => exact ⟨by rw [ec 40 _ (by omega) (by omega) (by omega) (by omega)]; exact q3.1, by rw [ec 41 _ (by omega) (by omega) (by omega) (by omega)]; exact q3.2⟩
    | inr j => exact ⟨q3.1, by rw [ec 40 _ (by omega) (by omega) (by omega) (by omega)]; exact q3.2⟩
  obtain ⟨g1, g2, g3, g4, g5, g6, g7, g8⟩ := h
  have hI8 := hI _ _ g8
  rw [List.append_nil] at hI8
  refine ⟨⟨by rw [ec 4 _ (by omega) (by omega) (by omega) (by omega)]; exact g1.1, g1.2.1, fun k s hs' => ?_⟩, ⟨by rw [ec 9 _ (by omega) (by omega) (by omega) (by omega)]; exact g2.1, g2.2.1, fun k s hs' => ?_⟩, ⟨by rw [ec 25 _ (by omega) (by omega) (by omega) (by omega)]; exact g3.1, g3.2.1, fun k s hs' => ?_⟩, ⟨by rw [ec 28 _ (by omega) (by omega) (by omega) (by omega)]; exact g4.1, g4.2.1, fun k s hs' => ?_⟩, ⟨by rw [ec 35 _ (by omega) (by omega) (by omega) (by omega)]; exact g5.1, g5.2.1, fun k s hs' => ?_⟩, by rw [ec 39 _ (by omega) (by omega) (by omega) (by omega)]; exact g6, ⟨by rw [ec 42 _ (by omega) (by omega) (by omega) (by omega)]; exact g7.1, g7.2.1, fun k s hs' => ?_⟩, hI8⟩
  · obtain ⟨h1, c, fr, to, h2, h3, h4, h5⟩ := g1.2.2 k s hs'
    exact ⟨by rw [ec 5 _ (by omega) (by omega) (by omega) (by omega)]; exact SW_kp h1 hs, c, fr, to, by rw [ec 6 _ (by omega) (by omega) (by omega) (by omega)]; exact h2, by rw [ec 7 _ (by omega) (by omega) (by omega) (by omega)]; exact h3, by rw [ec 8 _ (by omega) (by omega) (by omega) (by omega)]; exact h4, hX h5⟩
  · obtain ⟨h1, ⟨k1, k2, k3, k4, k5⟩, ⟨n1, n2, n3⟩, h4, h5⟩ := g2.2.2 k s hs'
    refine ⟨by rw [ec 10 _ (by omega) (by omega) (by omega) (by omega)]; exact SW_kp h1 hs, ⟨by rw [ec 11 _ (by omega) (by omega) (by omega) (by omega)]; exact k1, k2, by rw [ec 12 _ (by omega) (by omega) (by omega) (by omega)]; exact k3, k4, NML_kp k5 hs (fun q _ => ec 13 _ (by omega) (by omega) (by omega) (by omega))⟩, ⟨by rw [ec 16 _ (by omega) (by omega) (by omega) (by omega)]; exact n1, n2, fun j y hj => ?_⟩, ?_, by rw [ec 15 _ (by omega) (by omega) (by omega) (by omega)]; exact h5⟩
    · obtain ⟨r1, r2, r3, r4, r5, r6, r7⟩ := n3 j y hj
      exact ⟨r1, r2, r3, by rw [ec 17 _ (by omega) (by omega) (by omega) (by omega)]; exact SW_kp r4 hs, by rw [ec 18 _ (by omega) (by omega) (by omega) (by omega)]; exact r5, by rw [ec 23 _ (by omega) (by omega) (by omega) (by omega)]; exact r6, NDV_g r7 hs (fun q q1 q2 => ec q _ (by omega) (by omega) (by omega) (by omega))⟩
    · rw [ec 14 _ (by omega) (by omega) (by omega) (by omega)]
      exact hV h4
  · obtain ⟨h1, h2, h3⟩ := g3.2.2 k s hs'
    exact ⟨by rw [ec 26 _ (by omega) (by omega) (by omega) (by omega)]; exact SW_kp h1 hs, by rw [ec 27 _ (by omega) (by omega) (by omega) (by omega)]; exact h2, h3⟩
  · obtain ⟨h1, h2, h3, ⟨c, fr, to, h4, h5, h6, h7⟩, h8⟩ := g4.2.2 k s hs'
    refine ⟨by rw [ec 29 _ (by omega) (by omega) (by omega) (by omega)]; exact h1, h2, by rw [ec 30 _ (by omega) (by omega) (by omega) (by omega)]; exact h3, ⟨c, fr, to, by rw [ec 31 _ (by omega) (by omega) (by omega) (by omega)]; exact h4, by rw [ec 32 _ (by omega) (by omega) (by omega) (by omega)]; exact h5, by rw [ec 33 _ (by omega) (by omega) (by omega) (by omega)]; exact h6, hX h7⟩, ?_⟩
    rw [ec 34 _ (by omega) (by omega) (by omega) (by omega)]
    exact hV h8
  · obtain ⟨a, f, s⟩ := s
    obtain ⟨h1, h2, h3, h4⟩ := g5.2.2 k _ hs'
    refine ⟨by rw [ec 36 _ (by omega) (by omega) (by omega) (by omega)]; exact h1, by rw [ec 37 _ (by omega) (by omega) (by omega) (by omega)]; exact h2, h3, ?_⟩
    cases s with
    | none => show cv X1 38 _ = _; rw [ec 38 _ (by omega) (by omega) (by omega) (by omega)]; exact h4
    | some s => show SVR X1 b _ nv (cv X1 38 _) s; rw [ec 38 _ (by omega) (by omega) (by omega) (by omega)]; exact hV h4
  · obtain ⟨h1, h2, ⟨h3, h4⟩, h5, h6⟩ := g7.2.2 k s hs'
    exact ⟨by rw [ec 44 _ (by omega) (by omega) (by omega) (by omega)]; exact SW_kp h1 hs, by rw [ec 45 _ (by omega) (by omega) (by omega) (by omega)]; exact SW_kp h2 hs, ⟨by rw [ec 46 _ (by omega) (by omega) (by omega) (by omega)]; exact h3, fun i x hx => ⟨by rw [ec 47 _ (by omega) (by omega) (by omega) (by omega)]; exact (h4 i x hx).1, by rw [ec 48 _ (by omega) (by omega) (by omega) (by omega)]; exact (h4 i x hx).2⟩⟩, h5, h6⟩
/-! two slots -/
theorem alk_l {s t : Nat} {w u : List Int32} (hS : SLT X s w) (hs : s < 3016) (hU : SLT X t u) (ht : t < 3016) (hl : w.length = u.length) : ∀ (k c : Nat), c ≤ w.length → w.length - c < k → gf238_24 n k (nI s) (nI t) 1 (nI c) X = some (b2 (decide (w.drop c = u.drop c)), X)
  | 0, c, _, h => by omega
  | k + 1, c, hc, hk => by
    obtain ⟨w1, w2, w3, w4⟩ := hS
    obtain ⟨u1, u2, u3, u4⟩ := hU
    show gb238_24 n (gf238_24 n k) (nI s) (nI t) 1 (nI c) X = _
    unfold gb238_24
    rw [rd_nI (by omega), w2]
    dsimp only [Option.bind_some]
    by_cases hz : c = w.length
    · rw [if_pos (by rw [hz]; exact Int32.le_refl _), decide_eq_true (by rw [List.drop_eq_nil_of_le (by omega), List.drop_eq_nil_of_le (by omega)])]
      rfl
    · have hcm : c < w.length := by omega
      have hcu : c < u.length := by omega
      rw [if_neg (nI_ge hcm (by omega)), if_neg (by decide), show (16 : Int32) = nI 16 from rfl, nI_mul, nI_add, rd_nI (by omega), w3 c (by omega)]
      dsimp only [Option.bind_some]
      rw [nI_mul, nI_add, rd_nI (by omega), u3 c (by omega)]
      dsimp only [Option.bind_some]
      have hbw : byt (w.getD c 0) := by
        rw [List.getD_eq_getElem?_getD, List.getElem?_eq_getElem (by omega)]
        exact w4 _ (List.getElem_mem _)
      have hbu : byt (u.getD c 0) := by
        rw [List.getD_eq_getElem?_getD, List.getElem?_eq_getElem (by omega)]
        exact u4 _ (List.getElem_mem _)
      have ew : w.getD c 0 = w[c] := by rw [List.getD_eq_getElem?_getD, List.getElem?_eq_getElem hcm]; rfl
      have eu : u.getD c 0 = u[c] := by rw [List.getD_eq_getElem?_getD, List.getElem?_eq_getElem hcu]; rfl
      rw [List.drop_eq_getElem_cons hcm, List.drop_eq_getElem_cons hcu, ← ew, ← eu]
      unfold gb238_71
      by_cases he : w.getD c 0 = u.getD c 0
      · rw [if_pos (by rw [he]), nI_1, alk_l ⟨w1, w2, w3, w4⟩ hs ⟨u1, u2, u3, u4⟩ ht hl k (c + 1) (by omega) (by omega), he]
        congr 3
        apply decide_eq_decide.mpr
        constructor
        · intro h; rw [h]
        · intro h; exact (List.cons.inj h).2
      · rw [if_neg (fun q => he (nB_eq hbw hbu q)), decide_eq_false (fun h => he (List.cons.inj h).1)]
        cases k with
        | zero => omega
        | succ k =>
          show gb238_24 n (gf238_24 n k) (nI s) (nI t) 0 (nI c + 1) X = _
          unfold gb238_24
          rw [rd_nI (by omega), w2]
          dsimp only [Option.bind_some]
          rw [if_pos rfl]
          split <;> rfl
theorem alk_ok {s t : Nat} {w u : List Int32} (hS : SLT X s w) (hs : s < 3016) (hU : SLT X t u) (ht : t < 3016) (hn : 6002 ≤ n) : g238 n (nI s) (nI t) X = some (b2 (decide (w = u)), X) := by
  have h1 := hS.1
  have h2 := hU.1
  unfold g238 gb238_20
  rw [rd_nI (by omega), hS.2.1]
  dsimp only [Option.bind_some]
  rw [rd_nI (by omega), hU.2.1]
  dsimp only [Option.bind_some]
  by_cases hl : w.length = u.length
  · rw [if_pos (by rw [hl]), show (0 : Int32) = nI 0 from rfl, alk_l hS hs hU ht hl n 0 (by omega) (by omega), List.drop_zero, List.drop_zero]
  · rw [if_neg (by rw [nI_eq (by omega) (by omega)]; exact hl), decide_eq_false (fun h => hl (by rw [h]))]
    cases n with
    | zero => omega
    | succ n =>
      show gb238_24 _ (gf238_24 _ n) (nI s) (nI t) 0 0 X = _
      unfold gb238_24
      rw [rd_nI (by omega), hS.2.1]
      dsimp only [Option.bind_some]
      rw [if_pos rfl]
      split <;> rfl
/-- names by slots -/
theorem alk_SW {v u : Int32} {w w' : List Int32} (h1 : SW X b v w) (h2 : SW X b u w') (hb : b ≤ 1) (hn : 6002 ≤ n) : g238 n v u X = some (b2 (decide (w = w')), X) := by
  obtain ⟨s, rfl, s2, s3⟩ := h1
  obtain ⟨t, rfl, t2, t3⟩ := h2
  obtain ⟨c, _, k2, k3, k4⟩ := s2
  obtain ⟨c', _, j2, j3, j4⟩ := t2
  exact alk_ok s3 (by omega) t3 (by omega) hn
end
end ZIN

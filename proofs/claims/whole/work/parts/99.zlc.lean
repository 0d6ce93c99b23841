/-! THE CALLS OF THE REFERENCE: name, find, feed, load -/
section ZLC
section
variable {n : Nat} {X X1 X2 : zX} {S : St} {b : Nat} {v y y1 y2 y3 a c d e f : Int32} {T : List Int32} {L : Ldd} {K : KL} {P : Pln}
/-! name -/
def nmK (P : Pln) (k : Nat) : List (List Int32) := if k = 0 then P.1.map (·.1) else if k = 1 then P.2.1.map (·.1) else P.2.2.1.map (·.1)
def nmW (w : List Int32) (y : Int32) (S : St) : Out := if y = -1 then (0, nI w.length, S) else if inB y w.length = true then (0, w.getD y.toInt.toNat 0, S) else (1, 0, S)
def sName (y1 y2 y3 : Int32) (S : St) : Out := if inB y1 3 = true then (if inB y2 (nmK S.2.1.1 y1.toInt.toNat).length = true then nmW ((nmK S.2.1.1 y1.toInt.toNat).getD y2.toInt.toNat []) y3 S else (1, 0, S)) else (1, 0, S)
theorem nm_128 {w : List Int32} {s : Nat} {l4 : Int32} (h : RSt X S) (h0 : X.1 0 = 0) (hs : s < 3016) (hS : SLT X s w) : RGv (gb246_128 n y1 y2 y3 l4 (nI s) X) (nmW w y3 S) := by
  obtain ⟨b, q1, q2, _⟩ := id h
  obtain ⟨w1, w2, w3, w4⟩ := id hS
  have hr2 : rd (X.2.2 2) (nI s) = some (nI w.length) := (rd_nI (by omega)).trans w2
  unfold gb246_128 nmW
  by_cases c1 : y3 = -1
  · rw [if_pos c1, if_pos c1, hr2]
    exact ⟨X, rfl, h0, h⟩
  · rw [if_neg c1, if_neg c1, hr2]
    dsimp only [Option.bind_some]
    rw [pre_r (m := w.length) (by omega) rfl]
    cases hb : inB y3 w.length with
    | false => exact ⟨xF X 0 1, rfl, by rw [xF_1, if_pos rfl]; rfl, RSt_0 h⟩
    | true =>
      obtain ⟨k, hk, rfl⟩ := inB_lt (by omega) hb
      have hk2 : (nI k).toInt.toNat = k := by rw [nI_toInt (by omega)]; omega
      rw [if_pos rfl, if_pos rfl, hk2]
      refine ⟨xF X 0 0, ?_, by rw [xF_1, if_pos rfl], RSt_0 h⟩
      dsimp only
      rw [if_neg (by decide), show (16 : Int32) = nI 16 from rfl, nI_mul, nI_add]
      rw [show rd ((xF X 0 0).2.2 3) (nI (16 * s + k)) = some (nB (w.getD k 0)) from (rd_nI (by omega)).trans (w3 k hk)]
      dsimp only [Option.bind_some]
      rw [byt_and]
      refine w4 _ ?_
      rw [List.getD_eq_getElem?_getD, List.getElem?_eq_getElem hk]
      exact List.getElem_mem _
theorem nm_51 {ns : List (List Int32)} {i m : Nat} (h : RSt X S) (hb1 : b ≤ 1) (h3 : X.1 3 = nI b) (hi : i < 71) (hm : mln i = 2 * m) (hlen : ns.length ≤ m) (hm24 : m ≤ 24) (hN : NML X b i (m * b) ns) (hG : ∀ {R : Option (Int32 × zX)} {k : Nat}, (rd (X.2.2 i) (nI (m * b + k))).bind (fun x8 => gb246_128 n y1 (nI k) y3 (nI ns.length) x8 (xF X 0 0)) = R → y2 = nI k → (if y1 = 0 then
      (rd ((xF X 0 0).2.2 5) ((12 * ((xF X 0 0).1 3)) + y2)).bind fun x8 =>
      gb246_128 n y1 y2 y3 (nI ns.length) x8 (xF X 0 0)
    else
      if y1 = 1 then
        (rd ((xF X 0 0).2.2 10) ((24 * ((xF X 0 0).1 3)) + y2)).bind fun x12 =>
        gb246_128 n y1 y2 y3 (nI ns.length) x12 (xF X 0 0)
      else
        (rd ((xF X 0 0).2.2 26) ((8 * ((xF X 0 0).1 3)) + y2)).bind fun x15 =>
        gb246_128 n y1 y2 y3 (nI ns.length) x15 (xF X 0 0)) = R) : RGv (gb246_51 n y1 y2 y3 (nI ns.length) X) (if inB y2 ns.length = true then nmW (ns.getD y2.toInt.toNat []) y3 S else (1, 0, S)) := by
  obtain ⟨b', q1, q2, _⟩ := id h
  unfold gb246_51
  rw [pre_r (m := ns.length) (by omega) rfl]
  cases hb : inB y2 ns.length with
  | false => exact ⟨xF X 0 1, rfl, by rw [xF_1, if_pos rfl]; rfl, RSt_0 h⟩
  | true =>
    obtain ⟨k, hk, hy⟩ := inB_lt (by omega) hb
    have hk2 : y2.toInt.toNat = k := by rw [hy, nI_toInt (by omega)]; omega
    rw [if_pos rfl, if_pos rfl, hk2]
    dsimp only
    rw [if_neg (by decide)]
    have hg : ns[k]? = some (ns.getD k []) := getD_get hk
    obtain ⟨s, s1, ⟨cc, c1, c2, c3, c4⟩, s3⟩ := hN k _ hg
    have hrd : rd (X.2.2 i) (nI (m * b + k)) = some (nI s) := by
      rw [rd_cv q2 hi (by rw [hm]; rcases (show b = 0 ∨ b = 1 by omega) with e | e <;> rw [e] <;> omega) (by rcases (show b = 0 ∨ b = 1 by omega) with e | e <;> rw [e] <;> omega), s1]
    have := nm_128 (n := n) (y1 := y1) (y2 := nI k) (y3 := y3) (l4 := nI ns.length) (RSt_0 (v := 0) h) (by rw [xF_1, if_pos rfl]) (show s < 3016 by omega) (SLT_of s3 rfl rfl)
    obtain ⟨Xr, r1, r2⟩ := this
    exact ⟨Xr, hG (bnd_eq hrd r1) hy, r2⟩
theorem nam_r (h : RSt X S) : RGv (g246 n y1 y2 y3 X) (sName y1 y2 y3 S) := by
  obtain ⟨b, q1, q2, q3, q4, q5, q6, _⟩ := id h
  obtain ⟨⟨D, nv, cb, h3, h0⟩, _⟩ := id q6
  have nS : NML X b 5 (12 * b) (S.2.1.1.1.map (fun x => x.1)) := RP_nmS (X := xF X 4 (nI b)) h3
  have nF : NML X b 10 (24 * b) (S.2.1.1.2.1.map (fun x => x.1)) := RP_nmF (X := xF X 4 (nI b)) h3
  have nL : NML X b 26 (8 * b) (S.2.1.1.2.2.1.map (fun x => x.1)) := RP_nmL (X := xF X 4 (nI b)) h3
  have hx : (xF X 0 0).1 3 = nI b := by rw [xF_1, if_neg (by decide)]; exact q3
  have hcnt : ∀ i m, i < 71 → mln i = 2 → cv X i b = nI m → rd (X.2.2 i) (X.1 3) = some (nI m) := by
    intro i m hi hm hc
    rw [q3, rd_cv q2 hi (by rw [hm]; omega) (by omega), hc]
  unfold g246 sName
  by_cases c0 : y1 = 0
  · subst c0
    rw [if_pos rfl, hcnt 4 _ (by decide) rfl h3.1.1, if_pos (show inB 0 3 = true by decide)]
    dsimp only [Option.bind_some]
    have := nm_51 (n := n) (y1 := 0) (y2 := y2) (y3 := y3)  (i := 5) (m := 12) h q1 q3 (by decide) rfl (by rw [List.length_map]; exact h3.1.2.1) (by omega) nS (fun {R k} hR hy => by
      rw [if_pos rfl, hy, j3 (a := 12) (k := 12) hx rfl]; exact hR)
    rw [List.length_map] at this
    show RGv _ (if inB y2 (nmK S.2.1.1 0).length = true then nmW ((nmK S.2.1.1 0).getD y2.toInt.toNat []) y3 S else (1, 0, S))
    rw [show nmK S.2.1.1 0 = S.2.1.1.1.map (fun x => x.1) from rfl, List.length_map]
    exact this
  rw [if_neg c0]
  by_cases c1 : y1 = 1
  · subst c1
    rw [if_pos rfl, hcnt 9 _ (by decide) rfl h3.2.1.1, if_pos (show inB 1 3 = true by decide)]
    dsimp only [Option.bind_some]
    have := nm_51 (n := n) (y1 := 1) (y2 := y2) (y3 := y3)  (i := 10) (m := 24) h q1 q3 (by decide) rfl (by rw [List.length_map]; exact h3.2.1.2.1) (by omega) nF (fun {R k} hR hy => by
      rw [if_neg (by decide), if_pos rfl, hy, j3 (a := 24) (k := 24) hx rfl]; exact hR)
    rw [List.length_map] at this
    show RGv _ (if inB y2 (nmK S.2.1.1 1).length = true then nmW ((nmK S.2.1.1 1).getD y2.toInt.toNat []) y3 S else (1, 0, S))
    rw [show nmK S.2.1.1 1 = S.2.1.1.2.1.map (fun x => x.1) from rfl, List.length_map]
    exact this
  rw [if_neg c1]
  by_cases c2 : y1 = 2
  · subst c2
    rw [if_pos rfl, hcnt 25 _ (by decide) rfl h3.2.2.1.1, if_pos (show inB 2 3 = true by decide)]
    dsimp only [Option.bind_some]
    have := nm_51 (n := n) (y1 := 2) (y2 := y2) (y3 := y3)  (i := 26) (m := 8) h q1 q3 (by decide) rfl (by rw [List.length_map]; exact h3.2.2.1.2.1) (by omega) nL (fun {R k} hR hy => by
      rw [if_neg (by decide), if_neg (by decide), hy, j3 (a := 8) (k := 8) hx rfl]; exact hR)
    rw [List.length_map] at this
    show RGv _ (if inB y2 (nmK S.2.1.1 2).length = true then nmW ((nmK S.2.1.1 2).getD y2.toInt.toNat []) y3 S else (1, 0, S))
    rw [show nmK S.2.1.1 2 = S.2.1.1.2.2.1.map (fun x => x.1) from rfl, List.length_map]
    exact this
  rw [if_neg c2]
  have hno : inB y1 3 = false := by
    cases hb : inB y1 3 with
    | false => rfl
    | true =>
      obtain ⟨k, hk, rfl⟩ := inB_lt (by omega) hb
      have : k = 0 ∨ k = 1 ∨ k = 2 := by omega
      rcases this with rfl | rfl | rfl
      · exact absurd rfl c0
      · exact absurd rfl c1
      · exact absurd rfl c2
  rw [hno, if_neg (by decide)]
  unfold gb246_51
  rw [pre_r (m := 0) (hi := 0 - 1) (by omega) rfl]
  have : inB y2 0 = false := by
    cases hb : inB y2 0 with
    | false => rfl
    | true => obtain ⟨k, hk, _⟩ := inB_lt (by omega) hb; omega
  rw [this]
  exact ⟨xF X 0 1, rfl, by rw [xF_1, if_pos rfl], RSt_0 h⟩
/-! find -/
theorem g205_x {l1 l2 l3 : Int32} : ∀ (k : Nat) (l4 l5 : Int32), gf205_20 n k l1 l2 l3 l4 l5 (xF X 2 v) = (gf205_20 n k l1 l2 l3 l4 l5 X).map (fun p => (p.1, xF p.2 2 v))
  | 0, l4, l5 => rfl
  | k + 1, l4, l5 => by
    show gb205_20 n (gf205_20 n k) l1 l2 l3 l4 l5 (xF X 2 v) = (gb205_20 n (gf205_20 n k) l1 l2 l3 l4 l5 X).map _
    unfold gb205_20
    by_cases h1 : l3 ≤ l5
    · rw [if_pos h1, if_pos h1]
      cases zrtn .boolean l4 <;> rfl
    · rw [if_neg h1, if_neg h1]
      by_cases h2 : l4 = 0
      · rw [if_pos h2, if_pos h2]
        cases zrtn .boolean l4 <;> rfl
      · rw [if_neg h2, if_neg h2]
        rw [show (xF X 2 v).2.2 = X.2.2 from rfl]
        cases rd (X.2.2 3) (16 * l1 + l5) with
        | none => rfl
        | some x6 =>
          dsimp only [Option.bind_some]
          cases rd (X.2.2 0) (l2 + l5) with
          | none => rfl
          | some x9 =>
            dsimp only [Option.bind_some]
            unfold gb205_60
            by_cases h3 : x6 = x9
            · rw [if_pos h3, if_pos h3]; exact g205_x k _ _
            · rw [if_neg h3, if_neg h3]; exact g205_x k _ _
theorem isS_x {l1 l2 l3 : Int32} : g205 n l1 l2 l3 (xF X 2 v) = (g205 n l1 l2 l3 X).map (fun p => (p.1, xF p.2 2 v)) := by
  unfold g205 gb205_15
  rw [show (xF X 2 v).2.2 = X.2.2 from rfl]
  cases rd (X.2.2 2) l1 with
  | none => rfl
  | some x2 =>
    dsimp only [Option.bind_some]
    by_cases h3 : x2 = l3
    · rw [if_pos h3, if_pos h3]; exact g205_x n _ _
    · rw [if_neg h3, if_neg h3]; exact g205_x n _ _
theorem g204_x {l1 : Nat} {l2 l3 l4 l5 : Int32} : ∀ (k : Nat) (l6 : Int32) {X : zX}, gf204_3 n k l1 l2 l3 l4 l5 l6 (xF X 2 v) = (gf204_3 n k l1 l2 l3 l4 l5 l6 X).map (fun p => (p.1, xF p.2 2 v))
  | 0, l6, X => rfl
  | k + 1, l6, X => by
    show gb204_3 n (gf204_3 n k) l1 l2 l3 l4 l5 l6 (xF X 2 v) = (gb204_3 n (gf204_3 n k) l1 l2 l3 l4 l5 l6 X).map _
    unfold gb204_3
    by_cases h1 : l3 ≤ l6
    · rw [if_pos h1, if_pos h1]; rfl
    · rw [if_neg h1, if_neg h1, show (xF X 2 v).2.2 = X.2.2 from rfl]
      cases yOk l1 with
      | false => rfl
      | true =>
        show ((rd (X.2.2 l1) (l2 + l6)).bind _) = ((rd (X.2.2 l1) (l2 + l6)).bind _).map _
        cases rd (X.2.2 l1) (l2 + l6) with
        | none => rfl
        | some x2 =>
          dsimp only [Option.bind_some]
          rw [isS_x]
          cases g205 n x2 l4 l5 X with
          | none => rfl
          | some p5 =>
            show (if p5.1 = 0 then _ else _) = Option.map _ (if p5.1 = 0 then _ else _)
            by_cases h3 : p5.1 = 0
            · rw [if_pos h3, if_pos h3]; exact g204_x k _
            · rw [if_neg h3, if_neg h3]; rfl
def sFind (y : Int32) (S : St) : Out := if inB y 3 = true then (0, ixI (fnd (nmK S.2.1.1 y.toInt.toNat) S.1), ([], S.2)) else (1, 0, S)
theorem TP_0 (h : TP X T) (h1 : X1.1 2 = 0) (h2 : X1.2.2 0 = X.2.2 0) : TP X1 [] := TP_take (k := 0) h (by omega) h1 h2
theorem cut_all : cut T 0 (0 + T.length) = T := by
  unfold cut
  rw [List.drop_zero, Nat.zero_add, Nat.sub_zero, List.take_length]
theorem NMS_L {i base : Nat} {names : List (List Int32)} (hL : LN X) (hi : i < 71) (hb : b ≤ 1) (hl : base + names.length ≤ mln i) (h : NML X b i base names) : NMS X i base names := by
  intro k w hk
  have hlt := lt_of_get hk
  obtain ⟨s, s1, ⟨cc, c1, c2, c3, c4⟩, s3⟩ := h k w hk
  refine ⟨s, ?_, by omega, s3⟩
  rw [← s1]
  exact ce_cv hL hi (by omega)
theorem fnd_r (h : RSt X S) (hn : 6002 ≤ n) : RGv (g245 n y X) (sFind y S) := by
  obtain ⟨b, q1, q2, q3, q4, q5, q6, _⟩ := id h
  obtain ⟨⟨D, nv, cb, h3, h0⟩, _⟩ := id q6
  have nS : NML X b 5 (12 * b) (S.2.1.1.1.map (fun x => x.1)) := RP_nmS (X := xF X 4 (nI b)) h3
  have nF : NML X b 10 (24 * b) (S.2.1.1.2.1.map (fun x => x.1)) := RP_nmF (X := xF X 4 (nI b)) h3
  have nL : NML X b 26 (8 * b) (S.2.1.1.2.2.1.map (fun x => x.1)) := RP_nmL (X := xF X 4 (nI b)) h3
  unfold g245
  rw [pre_r (m := 3) (hi := 2) (by omega) rfl]
  unfold sFind
  cases hb : inB y 3 with
  | false => exact ⟨xF X 0 1, rfl, by rw [xF_1, if_pos rfl]; rfl, RSt_0 h⟩
  | true =>
    obtain ⟨k, hk, rfl⟩ := inB_lt (by omega) hb
    have hk2 : (nI k).toInt.toNat = k := by rw [nI_toInt (by omega)]; omega
    rw [if_pos rfl, if_pos rfl, hk2]
    dsimp only
    rw [if_neg (by decide)]
    have hx2 : (xF X 0 0).1 2 = nI S.1.length := by rw [xF_1, if_neg (by decide)]; exact q5.1
    have hx3 : (xF (xF X 0 0) 2 0).1 3 = nI b := by rw [xF_1, if_neg (by decide), xF_1, if_neg (by decide)]; exact q3
    have hRS : RSt (xF (xF X 0 0) 2 0) ([], S.2) := RSt_2 (S := S) h (TP_0 q5 (by rw [xF_1, if_pos rfl]) rfl) (fun k a c => by rw [xF_1, if_neg c, xF_1, if_neg a]) (fun _ _ => rfl) rfl
    have key : ∀ (i r m : Nat) (ns : List (List Int32)), i < 71 → yOk i = true → mln i = 2 * m → r < 71 → mln r = 2 → ns.length ≤ m → m ≤ 24 → cv X r b = nI ns.length → NML X b i (m * b) ns → ∀ am : Int32, am = nI m → ((rd ((xF (xF X 0 0) 2 0).2.2 r) ((xF (xF X 0 0) 2 0).1 3)).bind fun x => (g204 n i (am * ((xF (xF X 0 0) 2 0).1 3)) x 0 ((xF X 0 0).1 2) (xF (xF X 0 0) 2 0)).bind fun p => some (p.1, p.2)) = some (ixI (fnd ns S.1), xF (xF X 0 0) 2 0) := by
      intro i r m ns hi hy hm hr hmr hl h24 hc hN am ham
      rw [hx3, hx2, show rd ((xF (xF X 0 0) 2 0).2.2 r) (nI b) = some (cv X r b) from rd_cv q2 hr (by rw [hmr]; omega) (by omega), hc]
      dsimp only [Option.bind_some]
      have hbase : am * nI b = nI (m * b) := by rw [ham, nI_mul]
      rw [hbase]
      have hfo := fnd_ok (n := n) (X := xF X 0 0) (T := S.1) (i := i) (base := m * b) (f := 0) (m := S.1.length) (names := ns) (NMS_L (X := xF X 0 0) (b := b) q2 hi q1 (by rw [hm]; rcases (show b = 0 ∨ b = 1 by omega) with e | e <;> rw [e] <;> omega) hN) hy (by rcases (show b = 0 ∨ b = 1 by omega) with e | e <;> rw [e] <;> omega) (by omega) (TP_of q5 (by rw [xF_1, if_neg (by decide)]) rfl) (by omega) hn
      rw [cut_all] at hfo
      have hgx : g204 n i (nI (m * b)) (nI ns.length) 0 (nI S.1.length) (xF (xF X 0 0) 2 0) = (g204 n i (nI (m * b)) (nI ns.length) 0 (nI S.1.length) (xF X 0 0)).map (fun p => (p.1, xF p.2 2 0)) := by
        unfold g204
        exact g204_x n _
      have hfo2 : g204 n i (nI (m * b)) (nI ns.length) 0 (nI S.1.length) (xF X 0 0) = _ := hfo
      rw [hgx, hfo2]
      cases fnd ns S.1 <;> rfl
    refine ⟨xF (xF X 0 0) 2 0, ?_, by rw [xF_1, if_neg (by decide), xF_1, if_pos rfl], hRS⟩
    unfold zlet nmK
    dsimp only
    have : k = 0 ∨ k = 1 ∨ k = 2 := by omega
    rcases this with rfl | rfl | rfl
    · rw [if_pos (by decide), if_pos rfl]
      exact key 5 4 12 _ (by decide) rfl rfl (by decide) rfl (by rw [List.length_map]; exact h3.1.2.1) (by omega) (by rw [List.length_map]; exact h3.1.1) nS 12 rfl
    · rw [if_neg (by decide), if_pos (by decide), if_neg (by decide), if_pos rfl]
      exact key 10 9 24 _ (by decide) rfl rfl (by decide) rfl (by rw [List.length_map]; exact h3.2.1.2.1) (by omega) (by rw [List.length_map]; exact h3.2.1.1) nF 24 rfl
    · rw [if_neg (by decide), if_neg (by decide), if_neg (by decide), if_neg (by decide)]
      exact key 26 25 8 _ (by decide) rfl rfl (by decide) rfl (by rw [List.length_map]; exact h3.2.2.1.2.1) (by omega) (by rw [List.length_map]; exact h3.2.2.1.1) nL 8 rfl
/-! load -/
def sLd (S : St) : Out := match sLoad S.1 with
  | .inl e => (0, -1 - nI e.2, ([], S.2.1, S.2.2.1, e.1, S.2.2.2.2))
  | .inr L => (0, nI L.1.2.1.length, ([], L, S.2.2.1, 0, none))
theorem g188_a {a : Int32} (h : g188 n X = some (a, X1)) : ∃ Xm, g189 n (xF X 0 0) = some ((), Xm) ∧ X1.2.2 = Xm.2.2 ∧ ∀ k, k ≠ 2 → k ≠ 3 → k ≠ 4 → k ≠ 85 → X1.1 k = Xm.1 k := by
  unfold g188 zlet at h
  dsimp only at h
  cases hg : g189 n (xF X 0 0) with
  | none => rw [hg] at h; cases h
  | some p =>
    rw [hg] at h
    obtain ⟨u, Xm⟩ := p
    dsimp only [Option.bind_some] at h
    refine ⟨Xm, rfl, ?_⟩
    by_cases c : (xF Xm 2 0).1 73 = -1
    · rw [if_pos c] at h
      cases hr : rd ((xF (xF (xF (xF Xm 2 0) 3 ((xF Xm 2 0).1 4)) 4 (1 - (xF (xF Xm 2 0) 3 ((xF Xm 2 0).1 4)).1 4)) 85 0).2.2 9) ((xF (xF (xF (xF Xm 2 0) 3 ((xF Xm 2 0).1 4)) 4 (1 - (xF (xF Xm 2 0) 3 ((xF Xm 2 0).1 4)).1 4)) 85 0).1 3) with
      | none => rw [hr] at h; cases h
      | some x =>
        rw [hr] at h
        have h2 := (Prod.mk.inj (Option.some.inj h)).2
        subst h2
        exact ⟨rfl, fun k h2 h3 h4 h5 => by rw [xF_1, if_neg h5, xF_1, if_neg h4, xF_1, if_neg h3, xF_1, if_neg h2]⟩
    · rw [if_neg c] at h
      have hX := (Prod.mk.inj (Option.some.inj h)).2
      subst hX
      exact ⟨rfl, fun k h2 _ _ _ => by rw [xF_1, if_neg h2]⟩
theorem KNX_fk {X1 : zX} (h : KNX X K) (hk : fk X X1) : KNX X1 K := by
  obtain ⟨f1, f2, f3, f4, f5⟩ := hk
  obtain ⟨k1, k2, k3⟩ := h
  have hs : ∀ s w, 3000 ≤ s → SLT X s w → SLT X1 s w := fun s w hs ⟨w1, w2, w3, w4⟩ => ⟨w1, (f4 s hs).trans w2, fun k hk => (f5 _ (by omega)).trans (w3 k hk), w4⟩
  refine ⟨f1.trans k1, k2, fun k x hx => ?_⟩
  obtain ⟨g1, g2, g3, g4⟩ := k3 k x hx
  exact ⟨hs _ _ (by omega) g1, by rw [cv_of f2]; exact g2, fun q => by rw [cv_of f3]; exact g3 q, fun q => ⟨hs _ _ (by omega) (g4 q).1, (g4 q).2⟩⟩
theorem ld_r (h : RSt X S) (hn : 6002 ≤ n) : RGv (g188 n X) (sLd S) := by
  obtain ⟨b, q1, q2, q3, q4, q5, q6, q7, q8, ⟨l, q10⟩, q11, q12⟩ := id h
  have hb4 : X.1 4 = nI (1 - b) := by
    rw [q4]
    rcases (show b = 0 ∨ b = 1 by omega) with e | e <;> rw [e] <;> rfl
  have hlo := load_ok (n := n) (b := 1 - b) q2 hb4 (by omega) q5 hn
  have hkeep : ∀ {a : Int32} {X1 : zX}, g188 n X = some (a, X1) → LN X1 ∧ fk X X1 ∧ BKs X X1 b ∧ SKa b X X1 ∧ X1.2.2 69 = X.2.2 69 ∧ (∀ k, 86 ≤ k → k ≤ 90 → X1.1 k = X.1 k) ∧ (X1.2.2 0).length = (X.2.2 0).length ∧ X1.2.2 0 = X.2.2 0 := by
    intro a X1 hg
    obtain ⟨Xm, m1, m2, m3⟩ := g188_a hg
    have hw := w189 m1
    have hv := v189 m1
    have hu := u189 m1
    have hz : ∀ i j, j / mH i ≠ (X.1 4).toNatClampNeg → j < 2 * mH i → zg (X1.2.2 i) j = zg (X.2.2 i) j := fun i j h1 h2 => by
      rw [m2]
      exact hv.2 i j (by rw [show (xF X 0 0).1 4 = X.1 4 by rw [xF_1, if_neg (by decide)]]; exact h1) h2
    have hb5 : (X.1 4).toNatClampNeg = 1 - b := by
      rw [hb4]
      rcases (show b = 0 ∨ b = 1 by omega) with e | e <;> rw [e] <;> rfl
    have hin : ∀ i j, mH i * b ≤ j → j < mH i * b + mH i → zg (X1.2.2 i) j = zg (X.2.2 i) j := fun i j h1 h2 => by
      have hm : 0 < mH i := by omega
      have hd : j / mH i = b := by
        rw [Nat.div_eq_iff hm]
        rw [Nat.mul_comm] at h1 h2
        omega
      refine hz i j (by rw [hd, hb5]; omega) ?_
      rcases (show b = 0 ∨ b = 1 by omega) with e | e <;> rw [e] at h2 <;> omega
    have hcv : ∀ i j, mH i * b ≤ j → j < mH i * b + mH i → cv X1 i j = cv X i j := fun i j h1 h2 => by
      unfold cv ce
      rw [hin i j h1 h2]
    refine ⟨fun i hi => ?_, ⟨?_, ?_, ?_, fun j hj => ?_, fun j hj => ?_⟩, fun i j _ h1 h2 => hcv i j h1 h2, fun s w ⟨c, c1, c2, c3, c4⟩ ⟨w1, w2, w3, w4⟩ => ⟨⟨c, ?_, c2, c3, c4⟩, w1, ?_, fun k hk => ?_, w4⟩, ?_, fun k h1 h2 => ?_, ?_, ?_⟩
    · rw [m2, hw.2.2.2 i]; exact q2 i hi
    · rw [m3 65 (by omega) (by omega) (by omega) (by omega), hu.1, xF_1, if_neg (by decide)]
    · rw [m2, hu.2.1]; rfl
    · rw [m2, hu.2.2.1]; rfl
    · rw [m2, hu.2.2.2.1 j hj]; rfl
    · rw [m2, hu.2.2.2.2 j hj]; rfl
    · rw [hcv 1 b (by show 1 * b ≤ b; omega) (by show b < 1 * b + 1; omega)]; exact c1
    · rw [hin 2 s (by show 1500 * b ≤ s; omega) (by show s < 1500 * b + 1500; omega)]; exact w2
    · rw [hin 3 (16 * s + k) (by show 24000 * b ≤ _; omega) (by show _ < 24000 * b + 24000; omega)]; exact w3 k hk
    · rw [m2, hw.2.2.1 69 rfl]; rfl
    · rw [m3 k (by omega) (by omega) (by omega) (by omega)]
      have : k = 86 ∨ k = 87 ∨ k = 88 ∨ k = 89 ∨ k = 90 := by omega
      rcases this with rfl | rfl | rfl | rfl | rfl
      · rw [hw.1 86 rfl, xF_1, if_neg (by decide)]
      · rw [hw.1 87 rfl, xF_1, if_neg (by decide)]
      · rw [hw.1 88 rfl, xF_1, if_neg (by decide)]
      · rw [hw.1 89 rfl, xF_1, if_neg (by decide)]
      · rw [hw.1 90 rfl, xF_1, if_neg (by decide)]
    · rw [m2, hw.2.2.2 0]; rfl
    · rw [m2, hw.2.2.1 0 rfl]; rfl
  unfold sLd
  cases hs : sLoad S.1 with
  | inl e =>
    rw [hs] at hlo
    obtain ⟨X1, e1, e2, e3, e4, e5, e6, e7⟩ := hlo
    obtain ⟨k1, k2, k3, k4, k5, k6, k7, k8⟩ := hkeep e1
    refine ⟨X1, e1, e7, b, q1, k1, e3.trans q3, by rw [e4, ← hb4]; exact q4, TP_0 q5 e5 k8, LDX_bank q6 k1 k3 k4, q7, KNX_fk q8 k2, ⟨l, INS_of q10 k5⟩, e2, RWH_of q12 (fun k h1 h2 => ?_)⟩
    by_cases c : k = 85
    · rw [c]; exact e6
    · exact k6 k (by omega) h2
  | inr L =>
    rw [hs] at hlo
    obtain ⟨X1, e1, e2, e3, e4, e5, e6, e7, e8⟩ := hlo
    obtain ⟨k1, k2, k3, k4, k5, k6, k7, k8⟩ := hkeep e1
    exact ⟨X1, e1, e7, 1 - b, by omega, k1, e3, e4, TP_0 q5 e5 k8, e8, sLoad_ok hs, KNX_fk q8 k2, ⟨l, INS_of q10 k5⟩, e2, e6⟩
end
end ZLC

/-! THE REFERENCE'S EXPRESSION: parts that are neither not nor in brackets -/
section ZRL
/-- the segments' names, as an expression sees them -/
def CX (X : zX) (b : Nat) (segs : List (List Int32)) : Prop := cv X 4 b = nI segs.length ∧ segs.length ≤ 12 ∧ ∀ (k : Nat) (w : List Int32), segs[k]? = some w → ∃ s, cv X 5 (12 * b + k) = nI s ∧ sl X b s ∧ SLT X s w
section
variable {n : Nat} {X X1 : zX} {b m p q fm cb : Nat} {S : List Fr} {D P L : List Pd} {Q : List Nat} {φ : Den} {U0 : List Nat} {T : List Int32} {fk : Int32} {ts : List Tk} {segs : List (List Int32)}
theorem nx_arr (e : g190 n X = some ((), X1)) : X1.2.2 = X.2.2 := funext fun i => (w190 e).2.2.1 i (by simp)
theorem CX_of (h : CX X b segs) (h4 : X1.2.2 4 = X.2.2 4) (h5 : X1.2.2 5 = X.2.2 5) (hs : SKa b X X1) : CX X1 b segs := by
  refine ⟨by rw [cv_of h4]; exact h.1, h.2.1, fun k w hk => ?_⟩
  obtain ⟨s, s1, s2, s3⟩ := h.2.2 k w hk
  exact ⟨s, by rw [cv_of h5]; exact s1, (hs s w s2 s3).1, (hs s w s2 s3).2⟩
theorem CX_NMS (h : CX X b segs) (hL : LN X) (hb : b ≤ 1) : NMS X 5 (12 * b) segs := by
  intro k w hk
  obtain ⟨s, s1, s2, s3⟩ := h.2.2 k w hk
  have hkl := (List.getElem?_eq_some_iff.mp hk).1
  have h12 := h.2.1
  refine ⟨s, ?_, ?_, s3⟩
  · have := ce_cv (X := X) (i := 5) (j := 12 * b + k) hL (by decide) (by show 12 * b + k < 24; omega)
    rw [s1] at this
    exact this
  · obtain ⟨c, _, k2, k3, k4⟩ := s2
    omega
theorem Inv_nx (h : Inv X b m fm cb S D p P L Q) (e : g190 n X = some ((), X1)) : Inv X1 b m fm cb S D p P L Q := Inv_tok h (nx_arr e) ((w190 e).1 4 rfl)
theorem HT_of {X1 : zX} (h : HT X S) (h5 : X1.1 75 = X.1 75) (h6 : X1.1 76 = X.1 76) : HT X1 S := ⟨by rw [h5]; exact h.1, by rw [h6]; exact h.2.1, h.2.2⟩
theorem HT_nx (h : HT X S) (e : g190 n X = some ((), X1)) : HT X1 S := HT_of h ((w190 e).1 75 rfl) ((w190 e).1 76 rfl)
theorem SKa_nx (e : g190 n X = some ((), X1)) : SKa b X X1 := SKa_of (by rw [nx_arr e]) (by rw [nx_arr e]) (by rw [nx_arr e])
/-- complete and give -/
theorem fin_ok {V : Nat → Prop} {l1 : Int32} (hI : Inv X b m fm cb S D p [] [] [q]) (h56 : pv X b 56 q = -1) (h73 : X.1 73 = -1) (hU : ∀ U : Nat → Prop, (∀ u, U u → u < p) → PMn X b m D (fun u => U u ∨ V u ∨ u ∈ (([] : List Pd) ++ ([] : List Pd)).map (fun x : Pd => x.1)) q φ) (hV : ∀ u, V u → u < p ∧ (∀ x ∈ kids S, x.1 ≠ u) ∧ u ≠ q ∧ u ∉ [] ++ opn S) (hH : HT X S) (hB : okB S) (hw : wnt S) (hn : 6002 ≤ n) : ∃ X1, gb212_206 n l1 (nI q) X = some (0, X1) ∧ Inv X1 b m fm cb (agv S (D ++ [(q, φ)]) U0 (q, φ)).1 (agv S (D ++ [(q, φ)]) U0 (q, φ)).2.1 p [] [] [] ∧ HT X1 (agv S (D ++ [(q, φ)]) U0 (q, φ)).1 ∧ SKa b X X1 ∧ (∀ k, k ≠ 75 → k ≠ 76 → X1.1 k = X.1 k) ∧ X1.2.2 0 = X.2.2 0 ∧ X1.2.2 4 = X.2.2 4 ∧ X1.2.2 5 = X.2.2 5 := by
  have hI0 := hI
  obtain ⟨⟨a1, a2, a3⟩, ⟨b1, b2'⟩, ⟨c1, c2⟩, _⟩ := hI
  have hc := Inv_cmp hI0 h56 hU hV
  have c2' : fm + D.length < 400 := by
    have : ([q] ++ opn S).length = (opn S).length + 1 := rfl
    omega
  obtain ⟨X1, e1, e2, e3⟩ := give_ok (n := n) n S (D ++ [(q, φ)]) (q, φ) U0 (l1 := nI q) hc (HT_of hH rfl rfl) hB hw (by have := hH.2.2; omega)
  have hg : g222 n (nI q) (cP X b (fm + D.length) q) = some ((), X1) := e1
  have hw2 := w222 hg
  refine ⟨X1, ?_, e2, e3, SKa_tr (cP_SK (c := fm + D.length) (q := q)) (SKa_of (hw2.2.2.1 1 rfl) (hw2.2.2.1 2 rfl) (hw2.2.2.1 3 rfl)), fun k h1 h2 => ?_, ?_, ?_, ?_⟩
  · unfold gb212_206
    rw [if_pos h73, compl a1 a2 a3 c1 c2']
    dsimp only [Option.bind_some]
    rw [show up (up X 57 (400 * b + (fm + D.length)) (nI q)) 58 b (nI (fm + D.length + 1)) = cP X b (fm + D.length) q from rfl, hg]
    rfl
  · refine (hw2.1 k ?_).trans rfl
    rw [Nat.testBit_eq_decide_div_mod_eq]
    by_cases hk : k < 75
    · have : (113336795588871485128704 : Nat) / 2 ^ k % 2 = 0 := by
        have : (113336795588871485128704 : Nat) = 2 ^ k * (3 * 2 ^ (75 - k)) := by
          rw [Nat.mul_left_comm, ← Nat.pow_add, show k + (75 - k) = 75 by omega]
        rw [this, Nat.mul_div_cancel_left _ (Nat.pow_pos (by decide)), show 75 - k = (74 - k) + 1 by omega, Nat.pow_succ]
        omega
      simp [this]
    · have : (113336795588871485128704 : Nat) / 2 ^ k = 0 := Nat.div_eq_of_lt (Nat.lt_of_lt_of_le (by decide : 113336795588871485128704 < 2 ^ 77) (Nat.pow_le_pow_right (by decide) (by omega)))
      simp [this]
  · rw [hw2.2.2.1 0 rfl]; rfl
  · rw [hw2.2.2.1 4 rfl]; rfl
  · rw [hw2.2.2.1 5 rfl]; rfl
/-- token fields are as they were: the reader too -/
theorem RI_k {r : RR (List Tk)} (h : RI X T fk r) (hk : ∀ k, k ≠ 75 → k ≠ 76 → X1.1 k = X.1 k) (h0 : X1.2.2 0 = X.2.2 0) : RI X1 T fk r := by
  obtain ⟨hT, ⟨q, hq, h70⟩, hm⟩ := h
  refine ⟨TP_of hT (hk 2 (by decide) (by decide)) h0, ⟨q, hq, by rw [hk 70 (by decide) (by decide)]; exact h70⟩, ?_⟩
  cases r with
  | inl e => show X1.1 73 = _ ∧ X1.1 64 = _ ∧ _; rw [hk 73 (by decide) (by decide), hk 64 (by decide) (by decide)]; exact hm
  | inr ts =>
    obtain ⟨p, hp, e, hK⟩ := hm
    refine ⟨p, hp, e, ?_⟩
    unfold TOKs
    rw [hk 73 (by decide) (by decide), hk 64 (by decide) (by decide), hk 70 (by decide) (by decide), hk 68 (by decide) (by decide), hk 69 (by decide) (by decide), hk 72 (by decide) (by decide), hk 71 (by decide) (by decide)]
    exact hK
theorem RI_nP {k : Int32} (h : RI X T fk (.inr ts)) : RI (nP X b p k) T fk (.inr ts) := RI_of h rfl rfl
/-- newPart, with its fault -/
theorem new_flt {k : Int32} (hI : Inv X b m fm cb S D p P L Q) (h : RI X T fk (.inr ts)) (hb : (hd ts).1 ≠ 1) (hp : ¬ p < 400) : ∃ X1, g215 n k X = some (0, X1) ∧ RI X1 T fk (.inl (sErr 5 (hd ts))) := by
  obtain ⟨⟨a1, a2, a3⟩, ⟨b1, b2'⟩, _⟩ := hI
  have hp4 : p = 400 := by omega
  obtain ⟨X1, e1, e2⟩ := ri_bad (n := n) (k := 5) h hb
  rw [newP_full a1 a2 a3 (ri_hd h hb).1 (by rw [b1, hp4]), e1]
  dsimp only [Option.bind_some]
  refine ⟨X1, ?_, e2⟩
  unfold gb215_28
  rw [if_neg (ri_flt e2)]
/-- a cell of a part in hand -/
theorem Inv_ow {i : Nat} {v : Int32} (hi : 50 ≤ i ∧ i ≤ 55) (h : Inv X b m fm cb S D p P L (q :: Q)) : Inv (up X i (400 * b + q) v) b m fm cb S D p P L (q :: Q) := by
  have hqD := opn_D h (q := q) (by simp)
  obtain ⟨⟨a1, a2, a3⟩, ⟨b1, b2'⟩, ⟨c1, c2⟩, ⟨d1, c, d2, d3⟩, f, g, U, u1, u2, u3, u4, u5, u6, u7, u8⟩ := h
  have hqo : ∀ q' ∈ opn S, q' ≠ q := by
    intro q' hq' e
    rw [List.nodup_append] at u5
    have := u5.2.1
    rw [List.cons_append, List.nodup_cons] at this
    exact this.1 (by rw [← e]; exact List.mem_append_right _ hq')
  have hUq : ∀ u, U u → u ≠ q := fun u hu e => (u7 q (by simp)).2 (by rw [← e]; exact hu)
  have hp : ∀ j x, j ≠ i ∨ x ≠ q → pv (up X i (400 * b + q) v) b j x = pv X b j x := fun j x hx => cv_ne (by omega)
  have hs : SKa b X (up X i (400 * b + q) v) := SKa_up (by omega) (by omega) (by omega)
  refine ⟨⟨LN_up a1, a2, a3⟩, ⟨by rw [cv_ne (by omega)]; exact b1, b2'⟩, ⟨by rw [cv_ne (by omega)]; exact c1, c2⟩, ⟨d1, c, by rw [cv_ne (by omega)]; exact d2, d3⟩, FRS_of f (fun t i _ _ _ => cv_ne (by omega)) (fun q' hq' => ⟨hp 50 q' (Or.inr (hqo q' hq')), hp 55 q' (Or.inr (hqo q' hq'))⟩) (fun x _ => hp 56 _ (by omega)), fun i x hx => by rw [cv_ne (by omega)]; exact g i x hx, U, fun i x hx => PMn_of (u1 i x hx) (fun i' _ _ => hp i' _ (Or.inr (hqD x (List.mem_of_getElem? hx)))) (fun u hu => ⟨hp 56 u (by omega), fun i _ h2 => hp i u (Or.inr (hUq u hu))⟩) hs (fun _ q => q) (fun _ q => q), u2, u3, u4, u5, fun x hx => by rw [hp 56 _ (by omega)]; exact u6 x hx, u7, fun q' hq' => by rw [hp 56 _ (by omega)]; exact u8 q' hq'⟩
/-- what a leaf leaves -/
def LfP (X X1 : zX) (b m fm cb : Nat) (S : List Fr) (D : List Pd) (p : Nat) (U0 : List Nat) (T : List Int32) (fk : Int32) (segs : List (List Int32)) (r : RR (Den × List Tk × Nat)) : Prop := match r with
  | .inl e => RI X1 T fk (.inl e)
  | .inr x => RI X1 T fk (.inr x.2.1) ∧ ((hd x.2.1).1 ≠ 1 → Inv X1 b m fm cb (agv S (D ++ [(p, x.1)]) U0 (p, x.1)).1 (agv S (D ++ [(p, x.1)]) U0 (p, x.1)).2.1 x.2.2 [] [] [] ∧ HT X1 (agv S (D ++ [(p, x.1)]) U0 (p, x.1)).1 ∧ SKa b X X1 ∧ CX X1 b segs)
theorem g206f_flt {l1 l2 : Int32} {e : Er} (h : RI X T fk (.inl e)) : gb212_206 n l1 l2 X = some (0, X) := by
  unfold gb212_206
  rw [if_neg (ri_flt h)]
theorem ri_flt' (h : RI X T fk (.inr ts)) (hb : (hd ts).1 = 1) : X.1 73 ≠ -1 := ri_flt (ri_brk h hb).1
/-- true, false -/
theorem leaf_tf {s : Nat} {v : Int32} (hI : Inv X b m fm cb S D p [] [] []) (hH : HT X S) (hB : okB S) (hw : wnt S) (hR : RI X T fk (.inr ts)) (hC : CX X b segs) (hs : (hd ts).1 = s) (hs2 : s = 33 ∧ v = 0 ∨ s = 34 ∧ v = 1) (hn : 6002 ≤ n) : ∃ X1, ((g215 n v X).bind fun p19 => (g190 n p19.2).bind fun p21 => if v = 2 then (if (p21.2.1 73) = (-1) then (rd (p21.2.2.2 4) (p21.2.1 4)).bind fun x27 => (g216 n 5 (12 * (p21.2.1 4)) x27 p21.2).bind fun p29 => gb212_138 n v p19.1 p29.1 p29.2 else gb212_138 n v p19.1 0 p21.2) else gb212_206 n v p19.1 p21.2) = some (0, X1) ∧ LfP X X1 b m fm cb S D p U0 T fk segs (sLeaf segs ts p) := by
  have hbr : (hd ts).1 ≠ 1 := by rcases hs2 with z | z <;> omega
  have hv2 : v ≠ 2 := by rcases hs2 with z | z <;> (rw [z.2]; decide)
  have hsl : sLeaf segs ts p = rb (sPrt p (hd ts)) fun p => .inr (fun _ => s == 33, adv ts, p) := by
    unfold sLeaf
    dsimp only
    rw [if_pos (by rw [hs]; rcases hs2 with z | z <;> omega), hs]
  rw [hsl]
  unfold sPrt
  by_cases hp : p < 400
  · rw [if_neg (by omega), rb_inr]
    have hI0 := hI
    obtain ⟨⟨a1, a2, a3⟩, ⟨b1, b2'⟩, _⟩ := hI
    rw [newP a1 a2 a3 (ri_hd hR hbr).1 b1 hp]
    dsimp only [Option.bind_some]
    obtain ⟨X2, e1, e2⟩ := ri_next (RI_nP (b := b) (p := p) (k := v) hR) hn
    rw [e1]
    dsimp only [Option.bind_some]
    rw [if_neg hv2]
    have hI2 := Inv_nx (Inv_new (k := v) hI0 hp) e1
    have own := nP_own (k := v) a1 a3 hp
    by_cases hb2 : (hd (adv ts)).1 = 1
    · refine ⟨X2, ?_, e2, fun z => absurd hb2 z⟩
      unfold gb212_206
      rw [if_neg (ri_flt' e2 hb2)]
    · have h50 : pv X2 b 50 p = v := by
        unfold pv
        rw [cv_of (X := nP X b p v) (X1 := X2) (by rw [nx_arr e1])]
        exact own.1
      obtain ⟨X3, f1, f2, f3, f4, f5, f6, f7, f8⟩ := fin_ok (n := n) (U0 := U0) (l1 := v) (φ := fun _ => s == 33) (V := fun _ => False) hI2 (by unfold pv; rw [cv_of (X := nP X b p v) (X1 := X2) (by rw [nx_arr e1])]; exact own.2.2.2.2.2.2.1) (ri_hd e2 hb2).1 (fun U' _ => by
        rcases hs2 with z | z
        · exact Or.inl ⟨by rw [h50, z.2], by rw [z.1]; rfl⟩
        · exact Or.inr (Or.inl ⟨by rw [h50, z.2], by rw [z.1]; rfl⟩)) (fun u hu => hu.elim) (HT_nx (X := nP X b p v) (HT_of hH rfl rfl) e1) hB hw hn
      have hsk : SKa b X X3 := SKa_tr nP_SK (SKa_tr (SKa_nx e1) f4)
      refine ⟨X3, f1, RI_k e2 f5 f6, fun _ => ⟨f2, f3, hsk, CX_of hC ?_ ?_ hsk⟩⟩
      · rw [f7, nx_arr e1]; rfl
      · rw [f8, nx_arr e1]; rfl
  · rw [if_pos (by omega), rb_inl]
    obtain ⟨X1, e1, e2⟩ := new_flt (n := n) (k := v) hI hR hbr hp
    rw [e1]
    dsimp only [Option.bind_some]
    rw [ri_nextF e2]
    dsimp only [Option.bind_some]
    rw [if_neg hv2]
    exact ⟨X1, g206f_flt e2, e2⟩
/-- in -/
theorem leaf_in (hI : Inv X b m fm cb S D p [] [] []) (hH : HT X S) (hB : okB S) (hw : wnt S) (hR : RI X T fk (.inr ts)) (hC : CX X b segs) (hm : m = segs.length) (hs : (hd ts).1 = 29) (hn : 6002 ≤ n) : ∃ X1, ((g215 n 2 X).bind fun p19 => (g190 n p19.2).bind fun p21 => if (2 : Int32) = 2 then (if (p21.2.1 73) = (-1) then (rd (p21.2.2.2 4) (p21.2.1 4)).bind fun x27 => (g216 n 5 (12 * (p21.2.1 4)) x27 p21.2).bind fun p29 => gb212_138 n 2 p19.1 p29.1 p29.2 else gb212_138 n 2 p19.1 0 p21.2) else gb212_206 n 2 p19.1 p21.2) = some (0, X1) ∧ LfP X X1 b m fm cb S D p U0 T fk segs (sLeaf segs ts p) := by
  have hbr : (hd ts).1 ≠ 1 := by omega
  have hsl : sLeaf segs ts p = rb (sPrt p (hd ts)) fun p => rb (sKnw segs (adv ts)) fun i => .inr (fun E => E.2.getD i.1 false, i.2, p) := by
    unfold sLeaf
    dsimp only
    rw [if_neg (by omega), if_pos hs]
  rw [hsl]
  -- what is written where a fault stands
  have hfl : ∀ {X2 : zX} {e : Er} {l2 s0 : Int32}, LN X2 → X2.1 4 = nI b → b ≤ 1 → RI X2 T fk (.inl e) → ∃ X1, gb212_138 n 2 l2 s0 X2 = some (0, X1) ∧ RI X1 T fk (.inl e) := by
    intro X2 e l2 s0 hL h4 hb hr
    unfold gb212_138 gb212_164
    rw [if_neg (ri_flt hr)]
    refine ⟨up X2 51 (400 * b + 0) s0, ?_, RI_up hr (by decide)⟩
    refine wst 400 0 hL h4 hb (by decide) rfl (by decide) (by decide) rfl (by decide) (i400 (q := 0) h4) ?_
    exact g206f_flt (RI_up hr (by decide))
  unfold sPrt
  by_cases hp : p < 400
  · rw [if_neg (by omega), rb_inr]
    have hI0 := hI
    obtain ⟨⟨a1, a2, a3⟩, ⟨b1, b2'⟩, _⟩ := hI
    rw [newP a1 a2 a3 (ri_hd hR hbr).1 b1 hp]
    dsimp only [Option.bind_some]
    obtain ⟨X2, e1, e2⟩ := ri_next (RI_nP (b := b) (p := p) (k := 2) hR) hn
    rw [e1]
    dsimp only [Option.bind_some]
    rw [if_pos rfl]
    have hI2 := Inv_nx (Inv_new (k := 2) hI0 hp) e1
    have own := nP_own (k := (2 : Int32)) a1 a3 hp
    have hL2 := hI2.1.1
    have h42 := hI2.1.2.1
    have hsk2 : SKa b X X2 := SKa_tr nP_SK (SKa_nx e1)
    have hC2 : CX X2 b segs := CX_of hC (by rw [nx_arr e1]; rfl) (by rw [nx_arr e1]; rfl) hsk2
    by_cases hb2 : (hd (adv ts)).1 = 1
    · rw [if_neg (ri_flt' e2 hb2)]
      have he : sKnw segs (adv ts) = .inl (sErr 2 (hd (adv ts))) := by
        unfold sKnw sTake
        rw [if_neg (by omega)]
        rfl
      rw [he, rb_inl]
      exact hfl hL2 h42 a3 (ri_of_brk e2 hb2)
    · rw [if_pos (ri_hd e2 hb2).1]
      obtain ⟨v, X3, k1, k2⟩ := knw_ok (n := n) (i := 5) (base := 12 * b) (names := segs) e2 (by decide) (by have := hC.2.1; omega) (fun _ _ => CX_NMS hC2 hL2 a3) hn
      rw [show rb (.inr (adv ts)) (sKnw segs) = sKnw segs (adv ts) from rfl] at k2
      have hg : ((rd (X2.2.2 4) (X2.1 4)).bind fun x27 => (g216 n 5 (12 * X2.1 4) x27 X2).bind fun p29 => gb212_138 n 2 (nI p) p29.1 p29.2) = gb212_138 n 2 (nI p) v X3 := by
        refine rst (j := b) hL2 (by decide) (by show b < 2; omega) (by omega) h42 ?_
        rw [hC2.1, h42, show (12 : Int32) = nI 12 from rfl, nI_mul, k1]
        rfl
      rw [hg]
      have hw3 := w216 k1
      have ha3 : X3.2.2 = X2.2.2 := funext fun i => hw3.2.2.1 i (by simp)
      have hI3 := Inv_tok hI2 ha3 (hw3.1 4 rfl)
      cases hk : sKnw segs (adv ts) with
      | inl e =>
        rw [hk] at k2
        rw [rb_inl]
        exact hfl hI3.1.1 hI3.1.2.1 a3 k2
      | inr z =>
        rw [hk] at k2
        rw [rb_inr]
        obtain ⟨k3, rfl⟩ := k2
        have hzm : z.1 < m := by
          unfold sKnw at hk
          obtain ⟨y, _, hk⟩ := rb_ok hk
          split at hk
          · cases hk
          · rename_i i hf
            cases hk
            unfold fnd at hf
            rw [hm]
            exact (List.findIdx?_eq_some_iff_getElem.mp hf).1
        unfold gb212_138
        by_cases hb3 : (hd z.2).1 = 1
        · obtain ⟨X4, q1, q2⟩ := hfl (l2 := nI p) (s0 := nI z.1) hI3.1.1 hI3.1.2.1 a3 (ri_brk k3 hb3).1
          unfold gb212_138 at q1
          rw [if_neg (ri_flt' k3 hb3)] at q1 ⊢
          unfold gb212_164 at q1
          refine ⟨up X3 51 (400 * b + 0) (nI z.1), ?_, RI_up k3 (by decide), fun w => absurd hb3 w⟩
          unfold gb212_164
          refine wst 400 0 hI3.1.1 hI3.1.2.1 a3 (by decide) rfl (by decide) (by decide) rfl (by decide) (i400 (q := 0) hI3.1.2.1) ?_
          exact g206f_flt (RI_up (ri_brk k3 hb3).1 (by decide))
        · rw [if_pos (ri_hd k3 hb3).1]
          unfold gb212_164
          have hI4 := Inv_ow (i := 51) (v := nI z.1) (by omega) hI3
          have h50 : pv (up X3 51 (400 * b + p) (nI z.1)) b 50 p = 2 := by
            unfold pv
            rw [cv_ne (by omega), cv_of (X := X2) (X1 := X3) (by rw [ha3]), cv_of (X := nP X b p 2) (X1 := X2) (by rw [nx_arr e1])]
            exact own.1
          have h51 : pv (up X3 51 (400 * b + p) (nI z.1)) b 51 p = nI z.1 := cv_eq hI3.1.1 (by decide) (by show 400 * b + p < 800; omega)
          have hH3 : HT (up X3 51 (400 * b + p) (nI z.1)) S := HT_of (X := X2) (HT_nx (X := nP X b p 2) (HT_of hH rfl rfl) e1) (hw3.1 75 rfl) (hw3.1 76 rfl)
          obtain ⟨X5, f1, f2, f3, f4, f5, f6, f7, f8⟩ := fin_ok (n := n) (U0 := U0) (l1 := 2) (φ := fun E => E.2.getD z.1 false) (V := fun _ => False) hI4 (by unfold pv; rw [cv_ne (by omega), cv_of (X := X2) (X1 := X3) (by rw [ha3]), cv_of (X := nP X b p 2) (X1 := X2) (by rw [nx_arr e1])]; exact own.2.2.2.2.2.2.1) (show X3.1 73 = -1 from (ri_hd k3 hb3).1) (fun U' _ => Or.inr (Or.inr (Or.inl ⟨h50, z.1, hzm, h51, rfl⟩))) (fun u hu => hu.elim) hH3 hB hw hn
          have hsk : SKa b X X5 := SKa_tr hsk2 (SKa_tr (SKa_of (by rw [ha3]) (by rw [ha3]) (by rw [ha3])) (SKa_tr (SKa_up (i := 51) (j := 400 * b + p) (v := nI z.1) (by decide) (by decide) (by decide)) f4))
          refine ⟨X5, ?_, RI_k (RI_up k3 (by decide)) f5 f6, fun _ => ⟨f2, f3, hsk, CX_of hC ?_ ?_ hsk⟩⟩
          · exact wst 400 p hI3.1.1 hI3.1.2.1 a3 (by decide) rfl (by decide) hp rfl (by decide) (i400 hI3.1.2.1) f1
          · rw [f7]
            show X3.2.2 4 = _
            rw [ha3, nx_arr e1]
            rfl
          · rw [f8]
            show X3.2.2 5 = _
            rw [ha3, nx_arr e1]
            rfl
  · rw [if_pos (by omega), rb_inl]
    obtain ⟨X1, e1, e2⟩ := new_flt (n := n) (k := 2) hI hR hbr hp
    rw [e1]
    dsimp only [Option.bind_some]
    rw [ri_nextF e2]
    dsimp only [Option.bind_some]
    rw [if_pos rfl, if_neg (ri_flt e2)]
    have hw := w215 e1
    exact hfl (LN_of hI.1.1 hw) (by rw [hw.1 4 rfl]; exact hI.1.2.1) hI.1.2.2 e2
end
end ZRL

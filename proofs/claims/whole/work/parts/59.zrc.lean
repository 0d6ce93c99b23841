/-! THE REFERENCE'S PARTS: what its small steps do -/
section ZRC
/-- the number in a cell -/
def cv (X : zX) (i j : Nat) : Int32 := (ce X i j).getD 0
/-- a cell of a part, in bank b -/
def pv (X : zX) (b i p : Nat) : Int32 := cv X i (400 * b + p)
section
variable {n : Nat} {X X1 : zX} {i j b : Nat} {v : Int32}
theorem ce_cv (hL : LN X) (hi : i < 71) (hj : j < mln i) : ce X i j = some (cv X i j) := by
  unfold cv ce
  rw [zg_eq, List.getElem?_eq_getElem (by rw [hL i hi]; exact hj)]
  rfl
theorem rd_cv (hL : LN X) (hi : i < 71) (hj : j < mln i) (h31 : j < 2 ^ 31) : rd (X.2.2 i) (nI j) = some (cv X i j) := by rw [rd_ce h31, ce_cv hL hi hj]
theorem cv_up {i' j' : Nat} (hL : LN X) (hi : i < 71) (hj : j < mln i) : cv (up X i j v) i' j' = if i' = i ∧ j' = j then v else cv X i' j' := by
  unfold cv
  rw [ce_up hL hi hj]
  by_cases q : i' = i ∧ j' = j
  · rw [if_pos q, if_pos q]; rfl
  · rw [if_neg q, if_neg q]
theorem cv_ne {i' j' : Nat} (h : i' ≠ i ∨ j' ≠ j) : cv (up X i j v) i' j' = cv X i' j' := by
  unfold cv ce up
  rw [xA_3]
  by_cases q : i' = i
  · rw [if_pos q]
    rcases h with h | h
    · exact absurd q h
    · rw [zg_zs_ne (fun z => h z.symm), q]
  · rw [if_neg q]
theorem cv_eq (hL : LN X) (hi : i < 71) (hj : j < mln i) : cv (up X i j v) i j = v := by rw [cv_up hL hi hj, if_pos ⟨rfl, rfl⟩]
theorem cv_xF {k : Nat} {i' j' : Nat} : cv (xF X k v) i' j' = cv X i' j' := rfl
theorem LN_xF {k : Nat} (h : LN X) : LN (xF X k v) := h
theorem cv_of (h : X1.2.2 i = X.2.2 i) : cv X1 i j = cv X i j := by unfold cv ce; rw [h]
theorem i400 {q : Nat} (h4 : X.1 4 = nI b) : (400 : Int32) * X.1 4 + nI q = nI (400 * b + q) := by
  rw [h4, show (400 : Int32) = nI 400 from rfl, nI_mul, nI_add]
/-- a write into bank b -/
theorem wrb_ok {α : Type} {F : zX → Option α} {k : Nat} (hL : LN X) (h4 : X.1 4 = nI b) (hb : b ≤ 1) (hi : i < 71) (hH : mH i = k) (hk : 0 < k) (hq : j < k) (hm : mln i = 2 * k) (hk2 : k ≤ 24000) : (zgd (bkO (X.1 4) i (nI (k * b + j))) ((wr X i (nI (k * b + j)) v).bind F)) = F (up X i (k * b + j) v) := by
  have hlt : k * b + j < 2 * k := by
    rcases Nat.lt_or_ge b 1 with q | q
    · obtain rfl : b = 0 := by omega
      omega
    · obtain rfl : b = 1 := by omega
      omega
  rw [h4, bk_of (by omega) (by rw [hH]; left; rw [Nat.mul_add_div hk, Nat.div_eq_of_lt hq]; omega) (by omega)]
  show (wr X i (nI (k * b + j)) v).bind F = _
  rw [wr_up hL hi (by rw [hm]; exact hlt) (by omega)]
  rfl
theorem wst {α : Type} {F : zX → Option α} {R : Option α} {J : Int32} (k j : Nat) (hL : LN X) (h4 : X.1 4 = nI b) (hb : b ≤ 1) (hi : i < 71) (hH : mH i = k) (hk : 0 < k) (hq : j < k) (hm : mln i = 2 * k) (hk2 : k ≤ 24000) (hJ : J = nI (k * b + j)) (nx : F (up X i (k * b + j) v) = R) : (zgd (bkO (X.1 4) i J) ((wr X i J v).bind F)) = R := by
  rw [hJ, wrb_ok hL h4 hb hi hH hk hq hm hk2]
  exact nx
theorem wst1 {α : Type} {F : zX → Option α} {R : Option α} {J : Int32} (hL : LN X) (h4 : X.1 4 = nI b) (hb : b ≤ 1) (hi : i < 71) (hH : mH i = 1) (hm : mln i = 2) (hJ : J = nI b) (nx : F (up X i b v) = R) : (zgd (bkO (X.1 4) i J) ((wr X i J v).bind F)) = R := by
  refine wst 1 0 hL h4 hb hi hH (by decide) (by decide) hm (by decide) (by rw [hJ]; congr 1; omega) ?_
  rw [show 1 * b + 0 = b by omega]
  exact nx
theorem rst {α : Type} {F : Int32 → Option α} {R : Option α} {J : Int32} (hL : LN X) (hi : i < 71) (hj : j < mln i) (h31 : j < 2 ^ 31) (hJ : J = nI j) (nx : F (cv X i j) = R) : ((rd (X.2.2 i) J).bind F) = R := by
  rw [hJ, rd_cv hL hi hj h31]
  exact nx
variable {q c l : Nat}
theorem join0 (hL : LN X) (h4 : X.1 4 = nI b) (hb : b ≤ 1) (hq : q < 400) : g220 n (nI q) (-1) (nI c) X = some ((), up X 55 (400 * b + q) (nI c)) := by
  unfold g220
  rw [if_pos rfl, i400 h4]
  exact wrb_ok hL h4 hb (by decide) rfl (by decide) hq rfl (by decide)
theorem join1 (hL : LN X) (h4 : X.1 4 = nI b) (hb : b ≤ 1) (hl : l < 400) : g220 n (nI q) (nI l) (nI c) X = some ((), up X 56 (400 * b + l) (nI c)) := by
  unfold g220
  rw [if_neg (nI_m1 (by omega)), i400 h4]
  exact wrb_ok hL h4 hb (by decide) rfl (by decide) hl rfl (by decide)
theorem compl (hL : LN X) (h4 : X.1 4 = nI b) (hb : b ≤ 1) (hc : cv X 58 b = nI c) (hc2 : c < 400) : g221 n (nI q) X = some ((), up (up X 57 (400 * b + c) (nI q)) 58 b (nI (c + 1))) := by
  unfold g221
  refine rst (j := b) hL (by decide) (by rw [show mln 58 = 2 from rfl]; omega) (by omega) h4 ?_
  rw [hc]
  refine wst 400 c hL h4 hb (by decide) rfl (by decide) hc2 rfl (by decide) (i400 h4) ?_
  refine rst (j := b) (LN_up hL) (by decide) (by rw [show mln 58 = 2 from rfl]; omega) (by omega) h4 ?_
  rw [cv_ne (Or.inl (by decide)), hc, nI_1]
  exact wst1 (LN_up hL) h4 hb (by decide) rfl rfl h4 rfl
/-- the cells of a new part -/
def nP (X : zX) (b p : Nat) (k : Int32) : zX := up (up (up (up (up (up (up (up X 49 b (nI (p + 1))) 50 (400 * b + p) k) 51 (400 * b + p) (-1)) 52 (400 * b + p) 0) 53 (400 * b + p) 0) 54 (400 * b + p) (-1)) 55 (400 * b + p) (-1)) 56 (400 * b + p) (-1)
theorem LN_nP {p : Nat} {k : Int32} (hL : LN X) : LN (nP X b p k) := LN_up (LN_up (LN_up (LN_up (LN_up (LN_up (LN_up (LN_up hL)))))))
theorem newP {p : Nat} {k : Int32} (hL : LN X) (h4 : X.1 4 = nI b) (hb : b ≤ 1) (h73 : X.1 73 = -1) (hp : cv X 49 b = nI p) (hp2 : p < 400) : g215 n k X = some (nI p, nP X b p k) := by
  have hm : b < mln 49 := by rw [show mln 49 = 2 from rfl]; omega
  unfold g215
  rw [if_pos h73]
  refine rst (j := b) hL (by decide) hm (by omega) h4 ?_
  rw [hp, if_neg (by rw [show (400 : Int32) = nI 400 from rfl, nI_eq (by omega) (by omega)]; omega)]
  unfold gb215_28
  rw [if_pos h73]
  refine rst (j := b) hL (by decide) hm (by omega) h4 ?_
  refine rst (j := b) hL (by decide) hm (by omega) h4 ?_
  rw [hp, nI_1]
  refine wst1 hL h4 hb (by decide) rfl rfl h4 ?_
  refine wst 400 p (LN_up hL) h4 hb (by decide) rfl (by decide) hp2 rfl (by decide) (i400 h4) ?_
  refine wst 400 p (LN_up (LN_up hL)) h4 hb (by decide) rfl (by decide) hp2 rfl (by decide) (i400 h4) ?_
  refine wst 400 p (LN_up (LN_up (LN_up hL))) h4 hb (by decide) rfl (by decide) hp2 rfl (by decide) (i400 h4) ?_
  refine wst 400 p (LN_up (LN_up (LN_up (LN_up hL)))) h4 hb (by decide) rfl (by decide) hp2 rfl (by decide) (i400 h4) ?_
  refine wst 400 p (LN_up (LN_up (LN_up (LN_up (LN_up hL))))) h4 hb (by decide) rfl (by decide) hp2 rfl (by decide) (i400 h4) ?_
  refine wst 400 p (LN_up (LN_up (LN_up (LN_up (LN_up (LN_up hL)))))) h4 hb (by decide) rfl (by decide) hp2 rfl (by decide) (i400 h4) ?_
  refine wst 400 p (LN_up (LN_up (LN_up (LN_up (LN_up (LN_up (LN_up hL))))))) h4 hb (by decide) rfl (by decide) hp2 rfl (by decide) (i400 h4) ?_
  have e : (400 : Int32) * X.1 4 + nI p - 400 * X.1 4 = nI p := by
    rw [i400 h4, h4, show (400 : Int32) = nI 400 from rfl, nI_mul, pk_sub (by omega)]
    congr 1
    omega
  show some ((400 : Int32) * X.1 4 + nI p - 400 * X.1 4, _) = _
  rw [e]
  rfl
theorem newP_full {k : Int32} (hL : LN X) (h4 : X.1 4 = nI b) (hb : b ≤ 1) (h73 : X.1 73 = -1) (hp : cv X 49 b = nI 400) : g215 n k X = ((g195 n 5 X).bind fun p6 => gb215_28 n k p6.2) := by
  have hm : b < mln 49 := by rw [show mln 49 = 2 from rfl]; omega
  unfold g215
  rw [if_pos h73]
  refine rst (j := b) hL (by decide) hm (by omega) h4 ?_
  rw [hp, if_pos (show nI 400 = 400 from rfl)]
theorem newP_flt {k : Int32} (h73 : X.1 73 ≠ -1) : g215 n k X = some (0, X) := by
  unfold g215 gb215_28
  rw [if_neg h73, if_neg h73]
/-- the cells of a new place of the pile -/
def nL (X : zX) (t : Nat) (q : Int32) : zX := xF (up (up (up (up (up X 63 t q) 64 t (-1)) 65 t (-1)) 66 t (-1)) 67 t (-1)) 75 (nI (t + 1))
theorem pile_ok {t : Nat} {q : Int32} (hL : LN X) (h75 : X.1 75 = nI t) (ht : t < 24) : g211 n q X = some ((), nL X t q) := by
  have hw : ∀ (X : zX) (i : Nat) (v : Int32) {F : zX → Option (Unit × zX)} {R : Option (Unit × zX)}, LN X → X.1 75 = nI t → i < 71 → mln i = 24 → F (up X i t v) = R → ((wr X i (X.1 75) v).bind F) = R := by
    intro X i v F R hL h75 hi hm nx
    rw [h75, wr_up hL hi (by rw [hm]; exact ht) (by omega)]
    exact nx
  unfold g211
  refine hw X 63 q hL h75 (by decide) rfl ?_
  refine hw _ 64 _ (LN_up hL) h75 (by decide) rfl ?_
  refine hw _ 65 _ (LN_up (LN_up hL)) h75 (by decide) rfl ?_
  refine hw _ 66 _ (LN_up (LN_up (LN_up hL))) h75 (by decide) rfl ?_
  refine hw _ 67 _ (LN_up (LN_up (LN_up (LN_up hL)))) h75 (by decide) rfl ?_
  unfold zlet nL
  show some ((), xF _ 75 (X.1 75 + 1)) = _
  rw [h75, nI_1]
theorem wst0 {α : Type} {F : zX → Option α} {R : Option α} {J : Int32} (hL : LN X) (hi : i < 71) (hj : j < mln i) (h31 : j < 2 ^ 31) (hJ : J = nI j) (nx : F (up X i j v) = R) : ((wr X i J v).bind F) = R := by
  rw [hJ, wr_up hL hi hj h31]
  exact nx
end
end ZRC

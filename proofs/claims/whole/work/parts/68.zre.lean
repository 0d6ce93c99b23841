/-! THE REFERENCE'S EXPRESSION: the whole of it -/
section ZRE
section
variable {n : Nat} {X X1 : zX} {b m p q fm cb c s0 : Nat} {S : List Fr} {D P L : List Pd} {Q : List Nat} {φ : Den} {U0 : List Nat} {T : List Int32} {fk : Int32} {ts : List Tk} {segs : List (List Int32)} {w : List Int32}
/-- at the top stands a place that has a part -/
def hasO (S : List Fr) : Prop := ∃ (o a : Option (Nat × List Pd)) (y : Option Pd) (S1 : List Fr), S = .inr (o, a, y) :: S1 ∧ (a ≠ none ∨ y ≠ none) ∧ wnt S1
theorem agv_sh : ∀ (S : List Fr) (D : List Pd) (U : List Nat) (x : Pd), okB S → wnt S → hasO (agv S D U x).1 ∧ okB (agv S D U x).1
  | [], D, U, x, hB, _ => by
    obtain ⟨S0, f, e⟩ := hB
    simp at e
  | .inl q :: S, D, U, x, hB, hw => agv_sh S _ _ _ (okB_not hB).1 (fun f hf => hw f (List.mem_cons_of_mem _ hf))
  | .inr (o, some (p, l), y) :: S, D, U, x, hB, hw => by
    refine ⟨⟨o, some (p, l ++ [x]), none, S, rfl, Or.inl (by simp), fun f hf => hw f (List.mem_cons_of_mem _ hf)⟩, ?_⟩
    obtain ⟨S0, f, e⟩ := hB
    cases S0 with
    | nil => exact ⟨[], (o, some (p, l ++ [x]), none), by show _ :: S = _; rw [(List.cons.inj e).2]; rfl⟩
    | cons a S0 => exact ⟨.inr (o, some (p, l ++ [x]), none) :: S0, f, by show _ :: S = _; rw [(List.cons.inj e).2]; rfl⟩
  | .inr (o, none, y) :: S, D, U, x, hB, hw => by
    refine ⟨⟨o, none, some x, S, rfl, Or.inr (by simp), fun f hf => hw f (List.mem_cons_of_mem _ hf)⟩, ?_⟩
    obtain ⟨S0, f, e⟩ := hB
    cases S0 with
    | nil => exact ⟨[], (o, none, some x), by show _ :: S = _; rw [(List.cons.inj e).2]; rfl⟩
    | cons a S0 => exact ⟨.inr (o, none, some x) :: S0, f, by show _ :: S = _; rw [(List.cons.inj e).2]; rfl⟩
theorem okB_sw {f : Fr} {g : Nf} (h : okB (f :: S)) (hf : ∀ q, f ≠ .inl q) : okB (.inr g :: S) := by
  obtain ⟨S0, f', e⟩ := h
  cases S0 with
  | nil => exact ⟨[], g, by rw [(List.cons.inj e).2]; rfl⟩
  | cons a S0 => exact ⟨.inr g :: S0, f', by rw [(List.cons.inj e).2]; rfl⟩
theorem okB_push {f : Fr} (h : okB S) : okB (f :: S) := by
  obtain ⟨S0, f', e⟩ := h
  exact ⟨f :: S0, f', by rw [e]; rfl⟩
/-- what the loop leaves -/
def LpP (X X1 : zX) (b m fm cb : Nat) (T : List Int32) (fk : Int32) (segs : List (List Int32)) (v : Int32) (r : RR (Pd × List Pd × List Nat × Nat × List Tk)) : Prop := match r with
  | .inl e => RI X1 T fk (.inl e)
  | .inr x => v = nI x.1.1 ∧ RI X1 T fk (.inr x.2.2.2.2) ∧ Inv X1 b m fm cb [] x.2.1 x.2.2.2.1 [x.1] [] [] ∧ SKa b X X1 ∧ CX X1 b segs
theorem LpP_tr {X0 : zX} {v : Int32} {r : RR (Pd × List Pd × List Nat × Nat × List Tk)} (h : LpP X X1 b m fm cb T fk segs v r) (hs : SKa b X0 X) : LpP X0 X1 b m fm cb T fk segs v r := by
  cases r with
  | inl e => exact h
  | inr x => exact ⟨h.1, h.2.1, h.2.2.1, SKa_tr hs h.2.2.2.1, h.2.2.2.2⟩
theorem lp_flt {k : Nat} {l1 : Int32} {e : Er} (h : RI X T fk (.inl e)) (hk : 0 < k) : gf210_17 n k l1 X = some (-1, X) := by
  obtain ⟨k, rfl⟩ : ∃ j, k = j + 1 := ⟨k - 1, by omega⟩
  show gb210_17 n (gf210_17 n k) l1 X = _
  unfold gb210_17
  rw [if_neg (ri_flt h)]
theorem RI_75 {k : Nat} {v : Int32} {r : RR (List Tk)} (h : RI X T fk r) (hk : k = 75 ∨ k = 76) : RI (xF X k v) T fk r := RI_k h (fun j h1 h2 => by rw [xF_1, if_neg (by omega)]) rfl
theorem RI_nL {t : Nat} {v : Int32} {r : RR (List Tk)} (h : RI X T fk r) : RI (nL X t v) T fk r := by
  unfold nL
  exact RI_75 (RI_up (RI_up (RI_up (RI_up (RI_up h (by decide)) (by decide)) (by decide)) (by decide)) (by decide)) (Or.inl rfl)
/-- open: deeper by one, or a fault -/
theorem open_ok (hH : HT X S) (hS1 : 1 ≤ S.length) (hR : RI X T fk (.inr ts)) (hb : (hd ts).1 ≠ 1) : (S.length < 21 → g214 n X = some ((), xF X 76 (nI S.length))) ∧ (21 ≤ S.length → ∃ X1, g214 n X = some ((), X1) ∧ RI X1 T fk (.inl (sErr 5 (hd ts)))) := by
  obtain ⟨h1, h2, h3⟩ := hH
  have h73 := (ri_hd hR hb).1
  constructor
  · intro hS
    unfold g214 gb214_22 zlet
    rw [if_pos h73, h2, if_neg (by rw [show (20 : Int32) = nI 20 from rfl, nI_eq (by omega) (by omega)]; omega)]
    show some ((), xF X 76 (nI (S.length - 1) + 1)) = _
    rw [nI_1, show S.length - 1 + 1 = S.length by omega]
  · intro hS
    have h21 : S.length = 21 := by omega
    unfold g214 gb214_22 zlet
    rw [if_pos h73, h2, h21, if_pos (by decide)]
    obtain ⟨X1, e1, e2⟩ := ri_bad (n := n) (k := 5) hR hb
    rw [e1]
    exact ⟨_, rfl, RI_75 e2 (Or.inr rfl)⟩
theorem bit75 {k : Nat} (h1 : k ≠ 75) (h2 : k ≠ 76) : Nat.testBit 113336795588871485128704 k = false := by
  rw [Nat.testBit_eq_decide_div_mod_eq]
  by_cases hk : k < 75
  · have : (113336795588871485128704 : Nat) / 2 ^ k % 2 = 0 := by
      have : (113336795588871485128704 : Nat) = 2 ^ k * (3 * 2 ^ (75 - k)) := by
        rw [Nat.mul_left_comm, ← Nat.pow_add, show k + (75 - k) = 75 by omega]
      rw [this, Nat.mul_div_cancel_left _ (Nat.pow_pos (by decide)), show 75 - k = (74 - k) + 1 by omega, Nat.pow_succ]
      omega
    simp [this]
  · have : (113336795588871485128704 : Nat) / 2 ^ k = 0 := Nat.div_eq_of_lt (Nat.lt_of_lt_of_le (by decide : 113336795588871485128704 < 2 ^ 77) (Nat.pow_le_pow_right (by decide) (by omega)))
    simp [this]
theorem okB_ln (h : okB S) : 1 ≤ S.length := by
  obtain ⟨S0, f, e⟩ := h
  rw [e, List.length_append]
  show 1 ≤ S0.length + 1
  omega
theorem loop_ok (hm : m = segs.length) (hn : 6002 ≤ n) : ∀ (k : Nat) (w : Bool) (S : List Fr) (D : List Pd) (U : List Nat) (p : Nat) (ts : List Tk) {X : zX}, Inv X b m fm cb S D p [] [] [] → HT X S → okB S → RI X T fk (.inr ts) → CX X b segs → gdT ts → ts.length ≤ 6001 → (w = true → wnt S) → (w = false → hasO S) → ts.length < k → ∃ v X1, gf210_17 n k (b2 w) X = some (v, X1) ∧ LpP X X1 b m fm cb T fk segs v (aRun segs k w S D U p ts)
  | 0, w, S, D, U, p, ts, X, _, _, _, _, _, _, _, _, _, h => by omega
  | k + 1, w, S, D, U, p, ts, X, hI, hH, hB, hR, hC, hg, hl, hwt, hwf, hk => by
    have hS1 := okB_ln hB
    obtain ⟨g1, g2, g3, g4⟩ := gd_adv hg
    show ∃ v X1, gb210_17 n (gf210_17 n k) (b2 w) X = some (v, X1) ∧ _
    by_cases hbr : (hd ts).1 = 1
    · have h' := ri_of_brk hR hbr (k := 2)
      refine ⟨-1, X, ?_, ?_⟩
      · unfold gb210_17
        rw [if_neg (ri_flt h')]
      · have : aRun segs (k + 1) w S D U p ts = .inl (sErr 2 (hd ts)) := by
          cases w <;> (conv => lhs; unfold aRun) <;> rw [if_pos hbr]
        rw [this]
        exact h'
    have h73 := (ri_hd hR hbr).1
    have hI0 := hI
    obtain ⟨⟨a1, a2, a3⟩, ⟨b1, b2'⟩, _⟩ := hI
    have hk0 : 0 < k := by
      rcases Nat.eq_zero_or_pos k with z | z
      · have : 1 ≤ ts.length := by
          obtain ⟨i, l, e, _, _⟩ := hg
          rw [e, List.length_append]
          show 1 ≤ i.length + 1
          omega
        omega
      · exact z
    unfold gb210_17
    rw [if_pos h73]
    cases w with
    | true =>
      have hw := hwt rfl
      rw [if_neg (by decide)]
      -- from readPart to the loop
      have hrd : ∀ {v : Bool} {X2 : zX}, g212 n X = some (b2 v, X2) → ((g212 n X).bind fun p52 => gb210_212 n (gf210_17 n k) p52.1 (X.1 75 - 1) p52.2) = gf210_17 n k (b2 v) X2 := by
        intro v X2 h2
        rw [h2]
        rfl
      have hflt : ∀ {v : Bool} {X2 : zX} {e : Er}, g212 n X = some (b2 v, X2) → RI X2 T fk (.inl e) → ∃ v X1, ((g212 n X).bind fun p52 => gb210_212 n (gf210_17 n k) p52.1 (X.1 75 - 1) p52.2) = some (v, X1) ∧ LpP X X1 b m fm cb T fk segs v (.inl e) := by
        intro v X2 e h2 h3
        rw [hrd h2]
        exact ⟨-1, X2, lp_flt h3 hk0, h3⟩
      by_cases h30 : (hd ts).1 = 30
      · -- not
        have hal := g2 (by omega)
        have hun : aRun segs (k + 1) true S D U p ts = if 21 ≤ S.length then .inl (sErr 5 (hd ts)) else rb (sPrt p (hd ts)) fun p' => aRun segs k true (.inl p :: S) D U p' (adv ts) := by
          conv => lhs; unfold aRun
          rw [if_neg hbr, if_pos h30]
        rw [hun]
        obtain ⟨op1, op2⟩ := open_ok (n := n) hH hS1 hR hbr
        have hg12 : ∀ {R : Option (Int32 × zX)}, ((g214 n X).bind fun p36 => (g215 n 12 p36.2).bind fun p38 => if (p38.2.1 73) = (-1) then (g211 n p38.1 p38.2).bind fun p41 => gb212_34 n p38.1 p41.2 else gb212_34 n p38.1 p38.2) = R → g212 n X = R := by
          intro R hR'
          unfold g212
          rw [isw_tok wk_61 hR hbr hn, show ((hd ts).1 == 30) = true by simpa using h30]
          dsimp only [Option.bind_some]
          rw [if_neg (by decide)]
          exact hR'
        have h34 : ∀ {X2 : zX} {e : Er} {l : Int32}, RI X2 T fk (.inl e) → gb212_34 n l X2 = some (1, X2) := by
          intro X2 e l h2
          unfold gb212_34
          rw [ri_nextF h2]
          rfl
        by_cases h21 : 21 ≤ S.length
        · rw [if_pos h21]
          obtain ⟨X2, e1, e2⟩ := op2 h21
          refine hflt (v := true) (X2 := X2) (hg12 ?_) e2
          rw [e1]
          dsimp only [Option.bind_some]
          rw [newP_flt (ri_flt e2)]
          dsimp only [Option.bind_some]
          rw [if_neg (ri_flt e2), h34 e2]
          rfl
        · rw [if_neg h21]
          have e1 := op1 (by omega)
          have hI1 : Inv (xF X 76 (nI S.length)) b m fm cb S D p [] [] [] := Inv_tok hI0 rfl rfl
          have hR1 : RI (xF X 76 (nI S.length)) T fk (.inr ts) := RI_75 hR (Or.inr rfl)
          unfold sPrt
          by_cases hp : p < 400
          · rw [if_neg (by omega), rb_inr]
            have own := nP_own (X := xF X 76 (nI S.length)) (k := (12 : Int32)) a1 a3 hp
            have hI2 := Inv_not (Inv_new (k := 12) hI1 hp) own.1 own.2.2.2.2.2.2.1 (by omega)
            have h75 : (nP (xF X 76 (nI S.length)) b p 12).1 75 = nI S.length := by
              show (xF X 76 (nI S.length)).1 75 = _
              rw [xF_1, if_neg (by decide)]
              exact hH.1
            have hpl := pile_ok (n := n) (X := nP (xF X 76 (nI S.length)) b p 12) (q := nI p) (LN_nP a1) h75 (by omega)
            obtain ⟨X3, f1, f2⟩ := ri_next (RI_nL (t := S.length) (v := nI p) (RI_nP (b := b) (p := p) (k := 12) hR1)) hn
            have hH3 : HT X3 (.inl p :: S) := HT_nx (X := nL (nP (xF X 76 (nI S.length)) b p 12) S.length (nI p)) ⟨by show (xF _ 75 (nI (S.length + 1))).1 75 = _; rw [xF_1, if_pos rfl]; rfl, by show (xF _ 75 (nI (S.length + 1))).1 76 = _; rw [xF_1, if_neg (by decide)]; show (xF X 76 (nI S.length)).1 76 = _; rw [xF_1, if_pos rfl, List.length_cons, Nat.add_sub_cancel], by rw [List.length_cons]; omega⟩ f1
            have hsk : SKa b X X3 := SKa_tr (SKa_of (X1 := xF X 76 (nI S.length)) rfl rfl rfl) (SKa_tr (nP_SK (p := p) (k := 12)) (SKa_tr nL_SK (SKa_nx f1)))
            have hC3 : CX X3 b segs := CX_of hC (by rw [nx_arr f1]; rfl) (by rw [nx_arr f1]; rfl) hsk
            obtain ⟨v, X1, z1, z2⟩ := loop_ok hm hn k true (.inl p :: S) D U (p + 1) (adv ts) (Inv_nx hI2 f1) hH3 (okB_push hB) f2 hC3 g1 (by omega) (fun _ f hf => hw f (by rcases List.mem_cons.mp hf with e | e; cases e; exact e)) (fun z => by cases z) (by omega)
            refine ⟨v, X1, ?_, LpP_tr z2 hsk⟩
            rw [hrd (v := true) (X2 := X3) (hg12 ?_)]
            · exact z1
            · rw [e1]
              dsimp only [Option.bind_some]
              rw [newP (X := xF X 76 (nI S.length)) a1 a2 a3 h73 b1 hp]
              dsimp only [Option.bind_some]
              rw [if_pos (show (nP (xF X 76 (nI S.length)) b p 12).1 73 = -1 from h73), hpl]
              dsimp only [Option.bind_some]
              unfold gb212_34
              rw [f1]
              rfl
          · rw [if_pos (by omega), rb_inl]
            obtain ⟨X2, q1, q2⟩ := new_flt (n := n) (k := 12) hI1 hR1 hbr hp
            refine hflt (v := true) (X2 := X2) (hg12 ?_) q2
            rw [e1]
            dsimp only [Option.bind_some]
            rw [q1]
            dsimp only [Option.bind_some]
            rw [if_neg (ri_flt q2), h34 q2]
            rfl
      by_cases h7 : (hd ts).1 = 7
      · -- an open bracket
        have hal := g2 (by omega)
        have hun : aRun segs (k + 1) true S D U p ts = if 21 ≤ S.length then .inl (sErr 5 (hd ts)) else aRun segs k true (.inr (none, none, none) :: S) D U p (adv ts) := by
          conv => lhs; unfold aRun
          rw [if_neg hbr, if_neg h30, if_pos h7]
        rw [hun]
        obtain ⟨op1, op2⟩ := open_ok (n := n) hH hS1 hR hbr
        have hg12 : ∀ {R : Option (Int32 × zX)}, ((g214 n X).bind fun p31 => if (p31.2.1 73) = (-1) then (g211 n (-1) p31.2).bind fun p34 => gb212_66 n p34.2 else gb212_66 n p31.2) = R → g212 n X = R := by
          intro R hR'
          unfold g212
          rw [isw_tok wk_61 hR hbr hn, show ((hd ts).1 == 30) = false by simpa using h30]
          dsimp only [Option.bind_some]
          rw [if_pos b2_f, is_tok (c := 40) (s := 7) rfl (by decide) hR hbr, show ((hd ts).1 == 7) = true by simpa using h7]
          dsimp only [Option.bind_some]
          rw [if_neg (by decide)]
          exact hR'
        by_cases h21 : 21 ≤ S.length
        · rw [if_pos h21]
          obtain ⟨X2, e1, e2⟩ := op2 h21
          refine hflt (v := true) (X2 := X2) (hg12 ?_) e2
          rw [e1]
          dsimp only [Option.bind_some]
          rw [if_neg (ri_flt e2)]
          unfold gb212_66
          rw [ri_nextF e2]
          rfl
        · rw [if_neg h21]
          have e1 := op1 (by omega)
          have hI1 : Inv (xF X 76 (nI S.length)) b m fm cb S D p [] [] [] := Inv_tok hI0 rfl rfl
          have hR1 : RI (xF X 76 (nI S.length)) T fk (.inr ts) := RI_75 hR (Or.inr rfl)
          have hI2 := Inv_par hI1 (by omega)
          have h75 : (xF X 76 (nI S.length)).1 75 = nI S.length := by
            rw [xF_1, if_neg (by decide)]
            exact hH.1
          have hpl := pile_ok (n := n) (X := xF X 76 (nI S.length)) (q := -1) a1 h75 (by omega)
          obtain ⟨X3, f1, f2⟩ := ri_next (RI_nL (t := S.length) (v := -1) hR1) hn
          have hH3 : HT X3 (.inr (none, none, none) :: S) := HT_nx (X := nL (xF X 76 (nI S.length)) S.length (-1)) ⟨by show (xF _ 75 (nI (S.length + 1))).1 75 = _; rw [xF_1, if_pos rfl]; rfl, by show (xF _ 75 (nI (S.length + 1))).1 76 = _; rw [xF_1, if_neg (by decide)]; show (xF X 76 (nI S.length)).1 76 = _; rw [xF_1, if_pos rfl, List.length_cons, Nat.add_sub_cancel], by rw [List.length_cons]; omega⟩ f1
          have hsk : SKa b X X3 := SKa_tr (SKa_of (X1 := xF X 76 (nI S.length)) rfl rfl rfl) (SKa_tr nL_SK (SKa_nx f1))
          have hC3 : CX X3 b segs := CX_of hC (by rw [nx_arr f1]; rfl) (by rw [nx_arr f1]; rfl) hsk
          obtain ⟨v, X1, z1, z2⟩ := loop_ok hm hn k true (.inr (none, none, none) :: S) D U p (adv ts) (Inv_nx hI2 f1) hH3 (okB_push hB) f2 hC3 g1 (by omega) (fun _ f hf => by rcases List.mem_cons.mp hf with e | e; (cases e; exact fun _ => rfl); exact hw f e) (fun z => by cases z) (by omega)
          refine ⟨v, X1, ?_, LpP_tr z2 hsk⟩
          rw [hrd (v := true) (X2 := X3) (hg12 ?_)]
          · exact z1
          · rw [e1]
            dsimp only [Option.bind_some]
            rw [if_pos (show (xF X 76 (nI S.length)).1 73 = -1 from h73), hpl]
            dsimp only [Option.bind_some]
            unfold gb212_66
            rw [f1]
            rfl
      · -- a leaf
        have hun : aRun segs (k + 1) true S D U p ts = rb (sLeaf segs ts p) fun x => aRun segs k false (agv S (D ++ [(p, x.1)]) U (p, x.1)).1 (agv S (D ++ [(p, x.1)]) U (p, x.1)).2.1 (agv S (D ++ [(p, x.1)]) U (p, x.1)).2.2 x.2.2 x.2.1 := by
          conv => lhs; unfold aRun
          rw [if_neg hbr, if_neg h30, if_neg h7]
        rw [hun]
        have hleaf : ∃ X2, g212 n X = some (0, X2) ∧ LfP X X2 b m fm cb S D p U T fk segs (sLeaf segs ts p) := by
          unfold g212
          rw [isw_tok wk_61 hR hbr hn, show ((hd ts).1 == 30) = false by simpa using h30]
          dsimp only [Option.bind_some]
          rw [if_pos b2_f, is_tok (c := 40) (s := 7) rfl (by decide) hR hbr, show ((hd ts).1 == 7) = false by simpa using h7]
          dsimp only [Option.bind_some]
          rw [if_pos b2_f, amg_tok wk_63 hR hbr hn]
          dsimp only [Option.bind_some]
          by_cases h33 : (hd ts).1 = 33
          · rw [show ([33, 34, 29] : List Nat).findIdx? (fun s => s == (hd ts).1) = some 0 by rw [h33]; rfl]
            show ∃ X2, (if nI 0 = -1 then _ else _) = _ ∧ _
            rw [if_neg (by decide)]
            exact leaf_tf (n := n) (v := 0) hI0 hH hB hw hR hC h33 (Or.inl ⟨rfl, rfl⟩) hn
          by_cases h34 : (hd ts).1 = 34
          · rw [show ([33, 34, 29] : List Nat).findIdx? (fun s => s == (hd ts).1) = some 1 by rw [h34]; rfl]
            show ∃ X2, (if nI 1 = -1 then _ else _) = _ ∧ _
            rw [if_neg (by decide)]
            exact leaf_tf (n := n) (v := 1) hI0 hH hB hw hR hC h34 (Or.inr ⟨rfl, rfl⟩) hn
          by_cases h29 : (hd ts).1 = 29
          · rw [show ([33, 34, 29] : List Nat).findIdx? (fun s => s == (hd ts).1) = some 2 by rw [h29]; rfl]
            show ∃ X2, (if nI 2 = -1 then _ else _) = _ ∧ _
            rw [if_neg (by decide)]
            exact leaf_in (n := n) hI0 hH hB hw hR hC hm h29 hn
          · rw [fidx_no (by
              intro s hs'
              simp only [List.mem_cons, List.not_mem_nil, or_false] at hs'
              omega)]
            show ∃ X2, (if (-1 : Int32) = -1 then _ else _) = _ ∧ _
            rw [if_pos rfl]
            refine leaf_ts (n := n) hI0 hH hB hw hR hC hbr ?_ hg hl hn
            unfold sLeaf
            dsimp only
            rw [if_neg (by omega), if_neg h29]
        obtain ⟨X2, e1, e2⟩ := hleaf
        cases hr : sLeaf segs ts p with
        | inl e =>
          rw [hr] at e2
          rw [rb_inl]
          exact hflt (v := false) e1 e2
        | inr x =>
          rw [hr] at e2
          rw [rb_inr]
          obtain ⟨e2, e3⟩ := e2
          have hless := leaf_less hg b2' hr
          rw [hrd (v := false) e1]
          by_cases hb2 : (hd x.2.1).1 = 1
          · refine ⟨-1, X2, lp_flt (ri_brk e2 hb2).1 hk0, ?_⟩
            have : aRun segs k false (agv S (D ++ [(p, x.1)]) U (p, x.1)).1 (agv S (D ++ [(p, x.1)]) U (p, x.1)).2.1 (agv S (D ++ [(p, x.1)]) U (p, x.1)).2.2 x.2.2 x.2.1 = .inl (sErr 2 (hd x.2.1)) := by
              obtain ⟨k', rfl⟩ : ∃ j, k = j + 1 := ⟨k - 1, by omega⟩
              conv => lhs; unfold aRun
              rw [if_pos hb2]
            rw [this]
            exact ri_of_brk e2 hb2
          · obtain ⟨e4, e5, e6, e7⟩ := e3 hb2
            have hsh := agv_sh S (D ++ [(p, x.1)]) U (p, x.1) hB hw
            obtain ⟨v, X1, z1, z2⟩ := loop_ok hm hn k false _ _ (agv S (D ++ [(p, x.1)]) U (p, x.1)).2.2 x.2.2 x.2.1 e4 e5 hsh.2 e2 e7 hless.1.1 (by have := hless.1.2; omega) (fun z => by cases z) (fun _ => hsh.1) (by have := hless.1.2; omega)
            exact ⟨v, X1, z1, LpP_tr z2 e6⟩
    | false =>
      obtain ⟨o, a, y, S1, rfl, hop, hw1⟩ := hwf rfl
      have hi := i75 hH
      have ht := HT_lt hH
      obtain ⟨⟨f63, fo, fa⟩, fS⟩ := hI0.2.2.2.2.1
      rw [if_pos b2_f, isw_tok wk_57 hR hbr hn]
      dsimp only [Option.bind_some]
      -- behind and, or
      have hnx : ∀ {X2 : zX} {S2 : List Fr} {D2 : List Pd} {U2 : List Nat} {p2 : Nat}, RI X2 T fk (.inr ts) → Inv X2 b m fm cb S2 D2 p2 [] [] [] → HT X2 S2 → okB S2 → wnt S2 → SKa b X X2 → CX X2 b segs → 2 ≤ (hd ts).1 → ∃ v X1, ((g190 n X2).bind fun p1 => gf210_17 n k 1 p1.2) = some (v, X1) ∧ LpP X X1 b m fm cb T fk segs v (aRun segs k true S2 D2 U2 p2 (adv ts)) := by
        intro X2 S2 D2 U2 p2 z1 z2 z3 z4 z5 z6 z7 z8
        have hal := g2 z8
        obtain ⟨X3, f1, f2⟩ := ri_next z1 hn
        have hsk : SKa b X2 X3 := SKa_nx f1
        obtain ⟨v, X1, y1, y2⟩ := loop_ok hm hn k true S2 D2 U2 p2 (adv ts) (Inv_nx z2 f1) (HT_nx z3 f1) z4 f2 (CX_of z7 (by rw [nx_arr f1]) (by rw [nx_arr f1]) hsk) g1 (by omega) (fun _ => z5) (fun z => by cases z) (by omega)
        refine ⟨v, X1, ?_, LpP_tr y2 (SKa_tr z6 hsk)⟩
        rw [f1]
        exact y1
      have hnf : ∀ {X2 : zX} {e : Er}, RI X2 T fk (.inl e) → ∃ v X1, ((g190 n X2).bind fun p1 => gf210_17 n k 1 p1.2) = some (v, X1) ∧ LpP X X1 b m fm cb T fk segs v (.inl e) := by
        intro X2 e h2
        rw [ri_nextF h2]
        exact ⟨-1, X2, lp_flt h2 hk0, h2⟩
      by_cases h32 : (hd ts).1 = 32
      · rw [show ((hd ts).1 == 32) = true by simpa using h32, if_neg (by decide)]
        cases a with
        | some z =>
          obtain ⟨q, l⟩ := z
          rw [aRun_and h32]
          have hq4 : q < 400 := opn_lt hI0 (by simp [opn])
          have hx := hnx (U2 := U) hR hI0 hH hB (fun f hf => by rcases List.mem_cons.mp hf with e | e; (cases e; exact fun z => by cases z); exact hw1 f e) SKa_refl hC (by omega)
          obtain ⟨v, X1, y1, y2⟩ := hx
          refine ⟨v, X1, ?_, y2⟩
          refine rst (j := S1.length) a1 (by decide) ht (by omega) hi ?_
          rw [fa.2.1, if_neg (nI_m1 (by omega))]
          exact y1
        | none =>
          obtain ⟨f66, fy⟩ := fa
          cases y with
          | none => rcases hop with z | z <;> exact absurd rfl z
          | some x =>
            have hun : aRun segs (k + 1) false (.inr (o, none, some x) :: S1) D U p ts = rb (sPrt p (hd ts)) fun p' => aRun segs k true (.inr (o, some (p, [x]), none) :: S1) D U p' (adv ts) := by
              conv => lhs; unfold aRun
              rw [if_neg hbr, if_pos h32]
              rfl
            rw [hun]
            have hgo : ∀ {R : Option (Int32 × zX)}, ((g223 n 0 X).bind fun p50 => gb210_69 n (gf210_17 n k) 0 (X.1 75 - 1) p50.2) = R → ((rd (X.2.2 66) (X.1 75 - 1)).bind fun x47 => if x47 = (-1) then (g223 n 0 X).bind fun p50 => gb210_69 n (gf210_17 n k) (b2 false) (X.1 75 - 1) p50.2 else gb210_69 n (gf210_17 n k) (b2 false) (X.1 75 - 1) X) = R := by
              intro R hR'
              refine rst (j := S1.length) a1 (by decide) ht (by omega) hi ?_
              rw [f66, if_pos rfl]
              exact hR'
            unfold sPrt
            by_cases hp : p < 400
            · rw [if_neg (by omega), rb_inr]
              obtain ⟨X2, e1, e2, e3⟩ := begAnd_ok (n := n) hI0 hH h73 hp
              have hw2 := w223 e1
              obtain ⟨v, X1, y1, y2⟩ := hnx (U2 := U) (RI_of hR e3 (hw2.2.2.1 0 rfl)) e2 (HT_of (S := .inr (o, some (p, [x]), none) :: S1) hH (by rw [e3]) (by rw [e3])) (okB_sw hB (fun q z => by cases z)) (fun f hf => by rcases List.mem_cons.mp hf with e | e; (cases e; exact fun z => by cases z); exact hw1 f e) (SKa_of (hw2.2.2.1 1 rfl) (hw2.2.2.1 2 rfl) (hw2.2.2.1 3 rfl)) (CX_of hC (hw2.2.2.1 4 rfl) (hw2.2.2.1 5 rfl) (SKa_of (hw2.2.2.1 1 rfl) (hw2.2.2.1 2 rfl) (hw2.2.2.1 3 rfl))) (by omega)
              refine ⟨v, X1, hgo ?_, y2⟩
              rw [e1]
              exact y1
            · rw [if_pos (by omega), rb_inl]
              obtain ⟨X2, q1, q2⟩ := new_flt (n := n) (k := 14) hI0 hR hbr hp
              obtain ⟨v, X1, y1, y2⟩ := hnf q2
              refine ⟨v, X1, hgo ?_, y2⟩
              unfold g223 gb223_19
              rw [if_pos rfl, q1]
              dsimp only [Option.bind_some]
              rw [if_neg (ri_flt q2)]
              exact y1
      rw [show ((hd ts).1 == 32) = false by simpa using h32, if_pos b2_f, isw_tok wk_59 hR hbr hn]
      dsimp only [Option.bind_some]
      by_cases h31 : (hd ts).1 = 31
      · rw [show ((hd ts).1 == 31) = true by simpa using h31, if_neg (by decide)]
        cases o with
        | none =>
          have hun : aRun segs (k + 1) false (.inr (none, a, y) :: S1) D U p ts = rb (sPrt p (hd ts)) fun p' => aRun segs k true (.inr (some (p, [(eAnd (none, a, y) D U).1]), none, none) :: S1) (eAnd (none, a, y) D U).2.1 (eAnd (none, a, y) D U).2.2 p' (adv ts) := by
            conv => lhs; unfold aRun
            rw [if_neg hbr, if_neg h32, if_pos h31]
            rfl
          rw [hun]
          have hgo : ∀ {R : Option (Int32 × zX)} {F : Int32 → Option (Int32 × zX)}, ((g223 n 1 X).bind fun p31 => gb210_135 n (gf210_17 n k) 0 (X.1 75 - 1) p31.2) = R → ((rd (X.2.2 64) (X.1 75 - 1)).bind fun x28 => if x28 = (-1) then (g223 n 1 X).bind fun p31 => gb210_135 n (gf210_17 n k) (b2 false) (X.1 75 - 1) p31.2 else F x28) = R := by
            intro R F hR'
            refine rst (j := S1.length) a1 (by decide) ht (by omega) hi ?_
            rw [show cv X 64 S1.length = -1 from fo, if_pos rfl]
            exact hR'
          unfold sPrt
          by_cases hp : p < 400
          · rw [if_neg (by omega), rb_inr]
            obtain ⟨X2, e1, e2, e3⟩ := begOr_ok (n := n) (U0 := U) hI0 hH hop h73 hp
            have hw2 := w223 e1
            obtain ⟨v, X1, y1, y2⟩ := hnx (U2 := (eAnd (none, a, y) D U).2.2) (RI_of hR e3 (hw2.2.2.1 0 rfl)) e2 (HT_of (S := .inr (some (p, [(eAnd (none, a, y) D U).1]), none, none) :: S1) hH (by rw [e3]) (by rw [e3])) (okB_sw hB (fun q z => by cases z)) (fun f hf => by rcases List.mem_cons.mp hf with e | e; (cases e; exact fun _ => rfl); exact hw1 f e) (SKa_of (hw2.2.2.1 1 rfl) (hw2.2.2.1 2 rfl) (hw2.2.2.1 3 rfl)) (CX_of hC (hw2.2.2.1 4 rfl) (hw2.2.2.1 5 rfl) (SKa_of (hw2.2.2.1 1 rfl) (hw2.2.2.1 2 rfl) (hw2.2.2.1 3 rfl))) (by omega)
            refine ⟨v, X1, hgo ?_, y2⟩
            rw [e1]
            exact y1
          · rw [if_pos (by omega), rb_inl]
            obtain ⟨X2, q1, q2⟩ := new_flt (n := n) (k := 13) hI0 hR hbr hp
            obtain ⟨v, X1, y1, y2⟩ := hnf q2
            refine ⟨v, X1, hgo ?_, y2⟩
            unfold g223 gb223_19
            rw [if_neg (by decide), q1]
            dsimp only [Option.bind_some]
            rw [if_neg (ri_flt q2)]
            exact y1
        | some z =>
          obtain ⟨q, l⟩ := z
          rw [aRun_or h31]
          have hq4 : q < 400 := opn_lt hI0 (by simp [opn])
          obtain ⟨X2, e1, e2, e3, k0, k1, k2, k3, k4, k5⟩ := conOr_ok (n := n) (U0 := U) hI0 hH hop
          have hsk : SKa b X X2 := SKa_of k1 k2 k3
          obtain ⟨v, X1, y1, y2⟩ := hnx (U2 := (eAnd (some (q, l), a, y) D U).2.2) (RI_of hR e3 k0) e2 (HT_of (S := .inr (some (q, l ++ [(eAnd (some (q, l), a, y) D U).1]), none, none) :: S1) hH (by rw [e3]) (by rw [e3])) (okB_sw hB (fun q z => by cases z)) (fun f hf => by rcases List.mem_cons.mp hf with e | e; (cases e; exact fun _ => rfl); exact hw1 f e) hsk (CX_of hC k4 k5 hsk) (by omega)
          refine ⟨v, X1, ?_, y2⟩
          refine rst (j := S1.length) a1 (by decide) ht (by omega) hi ?_
          rw [fo.1, if_neg (nI_m1 (by omega)), hi]
          exact e1 y1
      rw [show ((hd ts).1 == 31) = false by simpa using h31, if_pos b2_f]
      obtain ⟨X2, e1, e2, e3⟩ := endOr_ok (n := n) (U0 := U) hI0 hH hop
      have hw2 := w225 e1
      have hsk2 : SKa b X X2 := SKa_of (hw2.2.2.1 1 rfl) (hw2.2.2.1 2 rfl) (hw2.2.2.1 3 rfl)
      have hC2 : CX X2 b segs := CX_of hC (hw2.2.2.1 4 rfl) (hw2.2.2.1 5 rfl) hsk2
      have hR2 : RI X2 T fk (.inr ts) := RI_of hR e3 (hw2.2.2.1 0 rfl)
      by_cases hS0 : S1 = []
      · subst hS0
        have hun : aRun segs (k + 1) false [.inr (o, a, y)] D U p ts = .inr ((eOr (o, a, y) D U).1, (eOr (o, a, y) D U).2.1, (eOr (o, a, y) D U).2.2, p, ts) := by
          conv => lhs; unfold aRun
          rw [if_neg hbr, if_neg h32, if_neg h31, if_neg (by show ¬ 2 ≤ 1; omega)]
          rfl
        rw [hun, if_pos (by rw [hH.1]; show nI 1 ≤ 1; decide), e1]
        exact ⟨_, X2, rfl, rfl, hR2, e2, hsk2, hC2⟩
      · have hS2 : 1 ≤ S1.length := by
          rcases Nat.eq_zero_or_pos S1.length with z | z
          · exact absurd (List.eq_nil_of_length_eq_zero z) hS0
          · exact z
        have hun : aRun segs (k + 1) false (.inr (o, a, y) :: S1) D U p ts = if (hd ts).1 = 8 then aRun segs k false (agv S1 (eOr (o, a, y) D U).2.1 (eOr (o, a, y) D U).2.2 (eOr (o, a, y) D U).1).1 (agv S1 (eOr (o, a, y) D U).2.1 (eOr (o, a, y) D U).2.2 (eOr (o, a, y) D U).1).2.1 (agv S1 (eOr (o, a, y) D U).2.1 (eOr (o, a, y) D U).2.2 (eOr (o, a, y) D U).1).2.2 p (adv ts) else .inl (sErr 2 (hd ts)) := by
          conv => lhs; unfold aRun
          rw [if_neg hbr, if_neg h32, if_neg h31, if_pos (by rw [List.length_cons]; omega)]
          rfl
        rw [hun, if_neg (by rw [hH.1, show (1 : Int32) = nI 1 from rfl, List.length_cons, nI_leI (by omega) (by omega)]; omega), is_tok (c := 41) (s := 8) rfl (by decide) hR hbr]
        dsimp only [Option.bind_some]
        by_cases h8 : (hd ts).1 = 8
        · rw [show ((hd ts).1 == 8) = true by simpa using h8, need_t, if_pos h8]
          dsimp only [Option.bind_some]
          rw [if_pos h73, e1]
          dsimp only [Option.bind_some]
          unfold zlet
          dsimp only
          have hal := g2 (by omega)
          have e75 : X2.1 75 - 1 = nI S1.length := by rw [e3]; exact hi
          have e76 : (xF X2 75 (nI S1.length)).1 76 - 1 = nI (S1.length - 1) := by
            rw [xF_1, if_neg (by decide), e3, hH.2.1, List.length_cons, Nat.add_sub_cancel]
            obtain ⟨s, hs⟩ : ∃ s, S1.length = s + 1 := ⟨S1.length - 1, by omega⟩
            rw [hs, nI_pred, Nat.add_sub_cancel]
          rw [e75, e76]
          have hI3 : Inv (xF (xF X2 75 (nI S1.length)) 76 (nI (S1.length - 1))) b m fm cb S1 (eOr (o, a, y) D U).2.1 p [(eOr (o, a, y) D U).1] [] [] := Inv_tok e2 rfl rfl
          have hH3 : HT (xF (xF X2 75 (nI S1.length)) 76 (nI (S1.length - 1))) S1 := ⟨by simp [xF_1], by simp [xF_1], by have := hH.2.2; rw [List.length_cons] at this; omega⟩
          have hR3 : RI (xF (xF X2 75 (nI S1.length)) 76 (nI (S1.length - 1))) T fk (.inr ts) := RI_75 (RI_75 hR2 (Or.inl rfl)) (Or.inr rfl)
          have hB1 := okB_tl hB hS0
          obtain ⟨X4, q1, q2, q3⟩ := give_ok (n := n) n S1 (eOr (o, a, y) D U).2.1 (eOr (o, a, y) D U).1 (eOr (o, a, y) D U).2.2 (l1 := nI (eOr (o, a, y) D U).1.1) hI3 hH3 hB1 hw1 (by have := hH3.2.2; omega)
          have hg4 : g222 n (nI (eOr (o, a, y) D U).1.1) (xF (xF X2 75 (nI S1.length)) 76 (nI (S1.length - 1))) = some ((), X4) := q1
          rw [hg4]
          dsimp only [Option.bind_some]
          have hw4 := w222 hg4
          have hsk4 : SKa b X2 X4 := SKa_of (hw4.2.2.1 1 rfl) (hw4.2.2.1 2 rfl) (hw4.2.2.1 3 rfl)
          have hR4 : RI X4 T fk (.inr ts) := by
            refine RI_k hR3 (fun j h1 h2 => hw4.1 j ?_) (hw4.2.2.1 0 rfl)
            exact bit75 h1 h2
          have hC4 : CX X4 b segs := CX_of hC2 (hw4.2.2.1 4 rfl) (hw4.2.2.1 5 rfl) hsk4
          obtain ⟨X5, r1, r2⟩ := ri_next hR4 hn
          rw [r1]
          dsimp only [Option.bind_some]
          have hsk5 : SKa b X4 X5 := SKa_nx r1
          have hsh := agv_sh S1 (eOr (o, a, y) D U).2.1 (eOr (o, a, y) D U).2.2 (eOr (o, a, y) D U).1 hB1 hw1
          obtain ⟨v, X1, y1, y2⟩ := loop_ok hm hn k false _ _ (agv S1 (eOr (o, a, y) D U).2.1 (eOr (o, a, y) D U).2.2 (eOr (o, a, y) D U).1).2.2 p (adv ts) (Inv_nx q2 r1) (HT_nx q3 r1) hsh.2 r2 (CX_of hC4 (by rw [nx_arr r1]) (by rw [nx_arr r1]) hsk5) g1 (by omega) (fun z => by cases z) (fun _ => hsh.1) (by omega)
          exact ⟨v, X1, y1, LpP_tr y2 (SKa_tr hsk2 (SKa_tr hsk4 hsk5))⟩
        · rw [show ((hd ts).1 == 8) = false by simpa using h8, if_neg h8]
          obtain ⟨X3, q1, q2⟩ := ri_need (n := n) (b := false) hR hbr
          rw [if_neg (by decide)] at q2
          rw [q1]
          dsimp only [Option.bind_some]
          rw [if_neg (ri_flt q2)]
          exact ⟨-1, X3, lp_flt q2 hk0, q2⟩
theorem aRun_brk {ts : List Tk} {p : Nat} (hg : gdT ts) (hp : p ≤ 400) {x : Den × List Tk × Nat} (hx : sExp segs ts p = .inr x) (hb : (hd x.2.1).1 = 1) {f : Nat} (hf : ts.length < f) : aRun segs f true [.inr (none, none, none)] [] [] p ts = .inl (sErr 2 (hd x.2.1)) := by
  have h := (Q_all (segs := segs) 64).2.2 0 [] [] [] ts p rfl (by omega) (by omega) hg hp
  obtain ⟨m1, m2, m3, m32, m31, ff, D', U', j, m4, m6, m5⟩ := h.2 x hx
  have hl := m1.2
  obtain ⟨i, l, e, _, _⟩ := m1.1
  have hl1 : 1 ≤ x.2.1.length := by rw [e, List.length_append]; show 1 ≤ i.length + 1; omega
  obtain ⟨f', rfl⟩ : ∃ f', f = (f' + 1) + j := ⟨f - j - 1, by omega⟩
  rw [m5]
  conv => lhs; unfold aRun
  rw [if_pos hb]
/-- what readExpression leaves -/
def ExP (X X1 : zX) (b m fm cb : Nat) (T : List Int32) (fk : Int32) (segs : List (List Int32)) (v : Int32) (r : RR (Den × List Tk × Nat)) : Prop := match r with
  | .inl e => RI X1 T fk (.inl e)
  | .inr x => if (hd x.2.1).1 = 1 then RI X1 T fk (.inl (1, (hd x.2.1).2.1)) else RI X1 T fk (.inr x.2.1) ∧ ∃ c D, v = nI c ∧ Inv X1 b m fm cb [] D x.2.2 [(c, x.1)] [] [] ∧ SKa b X X1 ∧ CX X1 b segs
theorem exp_ok (hL : LN X) (h4 : X.1 4 = nI b) (hb : b ≤ 1) (hp : cv X 49 b = nI p) (hp4 : p ≤ 400) (hf : cv X 58 b = nI fm) (hfp : fm ≤ p) (hcb : cb ≤ 640) (hc : cv X 1 b = nI c) (hc2 : c ≤ cb + 2 * p) (hm : m = segs.length) (hR : RI X T fk (.inr ts)) (hC : CX X b segs) (hg : gdT ts) (hl : ts.length ≤ 6001) (hn : 6002 ≤ n) : ∃ v X1, g210 n X = some (v, X1) ∧ ExP X X1 b m fm cb T fk segs v (sExp segs ts p) := by
  obtain ⟨X2, hX2⟩ : ∃ X2, X2 = xF (xF X 75 0) 76 0 := ⟨_, rfl⟩
  have hL2 : LN X2 := by rw [hX2]; exact hL
  have hR2 : RI X2 T fk (.inr ts) := by rw [hX2]; exact RI_75 (RI_75 hR (Or.inl rfl)) (Or.inr rfl)
  have h75 : X2.1 75 = nI 0 := by rw [hX2, xF_1, if_neg (by decide), xF_1, if_pos rfl]; rfl
  have h76 : X2.1 76 = nI 0 := by rw [hX2, xF_1, if_pos rfl]; rfl
  have hI2 : Inv X2 b m fm cb [] [] p [] [] [] := by
    rw [hX2]
    refine ⟨⟨hL, h4, hb⟩, ⟨hp, hp4⟩, ⟨hf, by show fm + 0 + 0 ≤ p; omega⟩, ⟨hcb, c, hc, hc2⟩, trivial, fun i x hx => by simp at hx, fun _ => False, fun i x hx => by simp at hx, fun u hu => hu.elim, fun x hx => by simp [kids] at hx, by simp [kids], by simp [opn], fun x hx => (by cases hx), fun q hq => (by simp [opn] at hq), fun q hq => (by simp [opn] at hq)⟩
  have hI3 := Inv_par hI2 (by show 0 < 24; omega)
  have hpl := pile_ok (n := n) (X := X2) (q := -1) (t := 0) hL2 h75 (by omega)
  have hH3 : HT (nL X2 0 (-1)) [.inr (none, none, none)] := ⟨by show (xF _ 75 (nI (0 + 1))).1 75 = _; rw [xF_1, if_pos rfl]; rfl, by show (xF _ 75 (nI (0 + 1))).1 76 = _; rw [xF_1, if_neg (by decide)]; exact h76, by show 1 ≤ 21; omega⟩
  have hsk3 : SKa b X (nL X2 0 (-1)) := SKa_tr (SKa_of (X1 := X2) (by rw [hX2]; rfl) (by rw [hX2]; rfl) (by rw [hX2]; rfl)) nL_SK
  have hC3 : CX (nL X2 0 (-1)) b segs := CX_of hC (by rw [hX2]; rfl) (by rw [hX2]; rfl) hsk3
  obtain ⟨v, X1, z1, z2⟩ := loop_ok (fm := fm) (cb := cb) hm hn n true [.inr (none, none, none)] [] [] p ts hI3 hH3 ⟨[], _, rfl⟩ (RI_nL hR2) hC3 hg hl (fun _ f hf => by rw [List.mem_singleton] at hf; cases hf; exact fun _ => rfl) (fun z => by cases z) (by omega)
  refine ⟨v, X1, ?_, ?_⟩
  · unfold g210 zlet
    dsimp only
    rw [← hX2, hpl]
    exact z1
  · obtain ⟨q1, q2⟩ := aRun_exp (segs := segs) hg hp4
    cases hs : sExp segs ts p with
    | inl e =>
      rw [q1 e hs n (by omega)] at z2
      exact z2
    | inr x =>
      show if (hd x.2.1).1 = 1 then _ else _
      by_cases hb2 : (hd x.2.1).1 = 1
      · rw [if_pos hb2]
        rw [aRun_brk hg hp4 hs hb2 (by omega)] at z2
        have z2 : RI X1 T fk (.inl (sErr 2 (hd x.2.1))) := z2
        unfold sErr at z2
        rw [if_pos hb2] at z2
        exact z2
      · rw [if_neg hb2]
        obtain ⟨_, _, _, q3⟩ := q2 x hs
        obtain ⟨cc, D, U, q4⟩ := q3 n (by omega) hb2
        rw [q4] at z2
        obtain ⟨w1, w2, w3, w4, w5⟩ := z2
        exact ⟨w2, cc, D, w1, w3, SKa_tr hsk3 w4, w5⟩
/-- where a fault stands already -/
theorem exp_flt {e : Er} (hL : LN X) (hR : RI X T fk (.inl e)) (hn : 6002 ≤ n) : ∃ X1, g210 n X = some (-1, X1) ∧ RI X1 T fk (.inl e) := by
  have h75 : (xF (xF X 75 0) 76 0).1 75 = nI 0 := by rw [xF_1, if_neg (by decide), xF_1, if_pos rfl]; rfl
  have hpl := pile_ok (n := n) (X := xF (xF X 75 0) 76 0) (q := -1) (t := 0) hL h75 (by omega)
  have hR3 : RI (nL (xF (xF X 75 0) 76 0) 0 (-1)) T fk (.inl e) := RI_nL (RI_75 (RI_75 hR (Or.inl rfl)) (Or.inr rfl))
  refine ⟨nL (xF (xF X 75 0) 76 0) 0 (-1), ?_, hR3⟩
  unfold g210 zlet
  dsimp only
  rw [hpl]
  exact lp_flt hR3 (by omega)
end
end ZRE

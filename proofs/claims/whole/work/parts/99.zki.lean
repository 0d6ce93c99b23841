/-! THE CLASS READS: needs are settled -/
section ZKI
section
variable {n : Nat} {Y Y0 Y1 Y2 Y' : zY} {a b s p m e r q rd pl W W2 WE lo hi x c i j k : Nat} {S S1 : List Nat} {t : Tk} {ts ts0 : List Tk} {l : Nat → Nat} {rc sq fl : Nat} {xs xs' : Nat → List Nat} {P P' : Pln} {bd : Nat → Nat} {vq vq' : List Value} {g : Flg} {N : List (List (Nat × Int32))} {ns : List (Nat × Int32)} {A : Nat → Nat} {kd st fr er : Nat} {off : Int32} {X : Nat → List Nat} {v4 v5 : List Value}
theorem mto_24 (h : vq.length = 4 ∨ vq.length = 24) : mto (oA 0 vq) = true := by
  show (!(Nat.beq 0 0 && (Nat.beq vq.length 1 || Nat.beq vq.length 2 || Nat.beq vq.length 8))) = true
  rcases h with h | h <;> rw [h] <;> rfl
theorem FLX_q (h : FLX Y fl A kd st off fr er X v4 v5) (hq : Y.1 q = some (oA 0 vq)) : FLX (yu Y q (some (oA 0 vq'))) fl A kd st off fr er X (if A 4 = q then vq' else v4) (if A 5 = q then vq' else v5) := by
  obtain ⟨g1, g2, g3, g4, g5, g6, g7, g8, g9, g10⟩ := h
  refine ⟨?_, g2, fun j a b => ?_, g4, g5, g6, ?_, ?_, g9, g10⟩
  · rw [yu_n]
    · exact g1
    · intro e; rw [e, hq] at g1; cases g1
  · obtain ⟨⟨cap, x1, x2⟩, x3⟩ := g3 j a b
    refine ⟨⟨cap, ?_, x2⟩, x3⟩
    rw [yu_n]
    · exact x1
    · intro e; rw [e, hq] at x1; cases x1
  · by_cases c : A 4 = q
    · rw [if_pos c, c]; exact yu_s
    · rw [if_neg c, yu_n c]; exact g7
  · by_cases c : A 5 = q
    · rw [if_pos c, c]; exact yu_s
    · rw [if_neg c, yu_n c]; exact g8
theorem len_q {v : List Value} (h : Y.1 a = some (oA 0 v)) (hq : Y.1 q = some (oA 0 vq)) (hl : vq'.length = vq.length) : (if a = q then vq' else v).length = v.length := by
  by_cases c : a = q
  · rw [if_pos c, hl]
    rw [c, hq] at h
    have : vq = v := congrArg (fun o : Option yO => match o with | some (.inr (.inl (_, x))) => x | _ => vq) h
    rw [this]
  · rw [if_neg c]
/-- an array of numbers is written -/
theorem PLN_v (h : PLN Y pl l rc sq bd P xs) (hq : Y.1 q = some (oA 0 vq)) (hl : vq.length = 4 ∨ vq.length = 24) (hl' : vq'.length = vq.length) : PLN (yu Y q (some (oA 0 vq'))) pl l rc sq bd P xs := by
  have hf : FR Y (yu Y q (some (oA 0 vq'))) [q] := FR_u hq (mto_24 hl)
  obtain ⟨g1, g2, g3, g4, ⟨vr, g5, g5'⟩, ⟨vs, g6, g6'⟩, g7⟩ := h
  refine ⟨PLK_k g1 hf ?_ ?_, ⟨g2.1, ?_⟩, ⟨g3.1, ?_⟩, g4, ⟨if rc = q then vq' else vr, ?_, ?_⟩, ⟨if sq = q then vq' else vs, ?_, ?_⟩, g7⟩
  · intro e
    have := g1.1.1
    rw [List.mem_singleton.mp e, hq] at this; cases this
  · intro j hj e
    obtain ⟨⟨cap, x1, _⟩, _⟩ := g1.2.1.1 j hj
    rw [List.mem_singleton.mp e, hq] at x1; cases x1
  · intro i fl g q1 q2
    obtain ⟨A, kd, st, fr, er, X, v4, v5, h1, h2, h3, h4, h5, h6⟩ := g2.2 i fl g q1 q2
    refine ⟨A, kd, st, fr, er, X, _, _, FLX_q h1 hq, ?_, ?_, ?_, h5, h6⟩
    · rw [len_q h1.2.2.2.2.2.2.1 hq hl']; exact h2
    · rw [len_q h1.2.2.2.2.2.2.2.1 hq hl']; exact h3
    · have := FLm_k (more := []) h4 hf.2.2
      rw [List.append_nil] at this
      exact this
  · intro i ly y q1 q2
    obtain ⟨fr, er, ob, sa, ws, h1, h2, h3⟩ := g3.2 i ly y q1 q2
    refine ⟨fr, er, ob, sa, ws, LYX_k h1 hf ?_ ?_, ?_, h3⟩
    · intro e
      have := h1.1
      rw [List.mem_singleton.mp e, hq] at this; cases this
    · intro e
      have := h1.2.1
      rw [List.mem_singleton.mp e, hq] at this; cases this
    · have := LYm_k (more := []) (its := []) h2 hf.2.2 (fun I hI => by cases hI)
      rw [List.append_nil, List.append_nil] at this
      exact this
  · by_cases c : rc = q
    · rw [if_pos c, c]; exact yu_s
    · rw [if_neg c, yu_n c]; exact g5
  · rw [len_q g5 hq hl']; exact g5'
  · by_cases c : sq = q
    · rw [if_pos c, c]; exact yu_s
    · rw [if_neg c, yu_n c]; exact g6
  · rw [len_q g6 hq hl']; exact g6'
/-- a flag's needs as they were settled -/
def NDC (Y : zY) (fl : Nat) (ns : List (Nat × Int32)) : Prop := ∃ A kd st off fr er X v4 v5, FLX Y fl A kd st off fr er X v4 v5 ∧ v4.length = 4 ∧ v5.length = 4 ∧ ∀ (k : Nat) (x : Nat × Int32), ns[k]? = some x → v4[k]? = some (Value.int (nI x.1)) ∧ v5[k]? = some (Value.int x.2)
theorem FLX_A {A' : Nat → Nat} {kd' st' fr' er' : Nat} {off' : Int32} {X' : Nat → List Nat} {v4' v5' : List Value} (h : FLX Y fl A kd st off fr er X v4 v5) (h' : FLX Y fl A' kd' st' off' fr' er' X' v4' v5') : A 4 = A' 4 ∧ A 5 = A' 5 := by
  have h1 := h.1
  rw [h'.1] at h1
  have e : ∀ (j : Nat) (a b : Nat), zg [Value.ref kd', .ref (A' 1), .ref (A' 2), .ref (A' 3), .ref (A' 4), .ref (A' 5), .ref st', .int off', .int (nI fr'), .int (nI er')] j = some (.ref a) → zg [Value.ref kd, .ref (A 1), .ref (A 2), .ref (A 3), .ref (A 4), .ref (A 5), .ref st, .int off, .int (nI fr), .int (nI er)] j = some (.ref b) → b = a := by
    intro j a b h1' h2'
    have := congrArg (fun o : Option yO => match o with | some (.inl (_, x)) => zg x j | _ => none) h1
    dsimp only at this
    have this : zg [Value.ref kd', .ref (A' 1), .ref (A' 2), .ref (A' 3), .ref (A' 4), .ref (A' 5), .ref st', .int off', .int (nI fr'), .int (nI er')] j = zg [Value.ref kd, .ref (A 1), .ref (A 2), .ref (A 3), .ref (A 4), .ref (A 5), .ref st, .int off, .int (nI fr), .int (nI er)] j := this
    rw [h1', h2'] at this
    cases this
    rfl
  exact ⟨e 4 _ _ rfl rfl, e 5 _ _ rfl rfl⟩
theorem NDC_q (h : NDC Y fl ns) (hq : Y.1 q = some (oA 0 vq)) (hn : ∀ A kd st off fr er X v4 v5, FLX Y fl A kd st off fr er X v4 v5 → A 4 ≠ q ∧ A 5 ≠ q) : NDC (yu Y q (some (oA 0 vq'))) fl ns := by
  obtain ⟨A, kd, st, off, fr, er, X, v4, v5, h1, h2, h3, h4⟩ := h
  obtain ⟨n1, n2⟩ := hn _ _ _ _ _ _ _ _ _ h1
  have := FLX_q (vq' := vq') h1 hq
  rw [if_neg n1, if_neg n2] at this
  exact ⟨A, kd, st, off, fr, er, X, v4, v5, this, h2, h3, h4⟩
def STL (Y : zY) (pl : Nat) (l : Nat → Nat) (rc sq : Nat) (bd : Nat → Nat) (P : Pln) (xs : Nat → List Nat) (N : List (List (Nat × Int32))) : Prop := PLN Y pl l rc sq bd P xs ∧ ∀ (j fl : Nat) (ns : List (Nat × Int32)), (xs 4)[j]? = some fl → N[j]? = some ns → NDC Y fl ns
theorem bd_m (h : PLN Y pl l rc sq bd P xs) : ∀ (d i : Nat), i + d ≤ P.2.1.length → bd i ≤ bd (i + d)
  | 0, i, _ => Nat.le_refl _
  | d + 1, i, hd => Nat.le_trans (bd_m h d i (by omega)) (h.2.2.2.2.2.2.2.2.2.2.2.1 (i + d) (by omega))
theorem STL_24 (h : STL Y pl l rc sq bd P xs N) (hq : Y.1 q = some (oA 0 vq)) (hl : vq.length = 24) (hl' : vq'.length = 24) : STL (yu Y q (some (oA 0 vq'))) pl l rc sq bd P xs N := by
  refine ⟨PLN_v h.1 hq (Or.inr hl) (by omega), fun j fl ns h1 h2 => ?_⟩
  obtain ⟨A, kd, st, off, fr, er, X, v4, v5, k1, k2, k3, k4⟩ := h.2 j fl ns h1 h2
  have ne : ∀ a v, Y.1 a = some (oA 0 v) → v.length = 4 → a ≠ q := fun a v e1 e2 e3 => by
    rw [e3, hq] at e1
    have : vq = v := congrArg (fun o : Option yO => match o with | some (.inr (.inl (_, x))) => x | _ => vq) e1
    rw [← this] at e2
    omega
  have := FLX_q (vq' := vq') k1 hq
  rw [if_neg (ne _ _ k1.2.2.2.2.2.2.1 k2), if_neg (ne _ _ k1.2.2.2.2.2.2.2.1 k3)] at this
  exact ⟨A, kd, st, off, fr, er, X, v4, v5, this, k2, k3, k4⟩
theorem STL_r (h : STL Y pl l rc sq bd P xs N) (hR : RS rd pl W Y ts) (hf : FR Y Y1 [rd]) : STL Y1 pl l rc sq bd P xs N := by
  refine ⟨PLN_of (rs := []) (its := []) (more := []) h.1 hR (S := [rd]) (fun a ha => Or.inl (List.mem_singleton.mp ha)) hf (PLK_r1 h.1.1 hR hf) rfl rfl (by rw [List.append_nil]) (by rw [List.append_nil]) (by rw [List.append_nil]) (fun r hr => by cases hr) (fun r hr => by cases hr) (fun r hr => by cases hr) rfl rfl h.1.2.2.2.1, fun j fl ns h1 h2 => ?_⟩
  obtain ⟨A, kd, st, off, fr, er, X, v4, v5, k1, k2⟩ := h.2 j fl ns h1 h2
  exact ⟨A, kd, st, off, fr, er, X, v4, v5, FLX_r1 k1 hR.2.1 hf, k2⟩
/-- a need's flag and worth are written -/
theorem STL_n {w : Nat × Int32} (h : STL Y pl l rc sq bd P xs (N ++ [ns])) (hi : N.length = i) (hk : ns.length = k) (hk4 : k < 4) (hfl : (xs 4)[i]? = some fl) (hX : FLX Y fl A kd st off fr er X v4 v5) (h4 : v4.length = 4) (h5 : v5.length = 4) : STL (yu (yu Y (A 4) (some (oA 0 (zs v4 k (.int (nI w.1)))))) (A 5) (some (oA 0 (zs v5 k (.int w.2))))) pl l rc sq bd P xs (N ++ [ns ++ [w]]) := by
  have hlen := h.1.2.1.1
  have hiP : i < P.2.1.length := by have := (List.getElem?_eq_some_iff.mp hfl).1; omega
  have g7 := hX.2.2.2.2.2.2.1
  have g8 := hX.2.2.2.2.2.2.2.1
  have g9 := hX.2.2.2.2.2.2.2.2.1
  have g8' : (yu Y (A 4) (some (oA 0 (zs v4 k (.int (nI w.1)))))).1 (A 5) = some (oA 0 v5) := by rw [yu_n g9.symm]; exact g8
  have hl4 : (zs v4 k (.int (nI w.1))).length = 4 := by rw [zs_length]; exact h4
  have hl5 : (zs v5 k (.int w.2)).length = 4 := by rw [zs_length]; exact h5
  refine ⟨PLN_v (PLN_v h.1 g7 (Or.inl h4) (by omega)) g8' (Or.inl h5) (by omega), fun j fl' ns' h1 h2 => ?_⟩
  have hgi : ∃ g, P.2.1[i]? = some g := ⟨_, List.getElem?_eq_getElem hiP⟩
  obtain ⟨g, hg⟩ := hgi
  obtain ⟨A0, kd0, st0, fr0, er0, X0, u4, u5, f1, f2, f3, f4, f5, f6, f7, f8, f9⟩ := h.1.2.1.2 i fl g hfl hg
  obtain ⟨ea4, ea5⟩ := FLX_A f1 hX
  have r4 := f9 4 (by omega) (by omega)
  have r5 := f9 5 (by omega) (by omega)
  rw [ea4] at r4
  rw [ea5] at r5
  by_cases hji : j = i
  · subst hji
    rw [hfl] at h1
    cases h1
    rw [List.getElem?_append_right (by omega), show j - N.length = 0 by omega] at h2
    cases h2
    obtain ⟨A1, kd1, st1, off1, fr1, er1, X1, w4, w5, k1, k2, k3, k4⟩ := h.2 j fl ns hfl (by rw [List.getElem?_append_right (by omega), show j - N.length = 0 by omega]; rfl)
    obtain ⟨eb4, eb5⟩ := FLX_A k1 hX
    have hw4 : v4 = w4 := by
      have := k1.2.2.2.2.2.2.1
      rw [eb4, g7] at this
      exact congrArg (fun o : Option yO => match o with | some (.inr (.inl (_, x))) => x | _ => v4) this
    have hw5 : v5 = w5 := by
      have := k1.2.2.2.2.2.2.2.1
      rw [eb5, g8] at this
      exact congrArg (fun o : Option yO => match o with | some (.inr (.inl (_, x))) => x | _ => v5) this
    have hXq := FLX_q (vq' := zs v5 k (.int w.2)) (FLX_q (vq' := zs v4 k (.int (nI w.1))) hX g7) g8'
    rw [if_pos rfl, if_neg g9.symm, if_neg g9, if_pos rfl] at hXq
    refine ⟨A, kd, st, off, fr, er, X, _, _, hXq, hl4, hl5, fun q x hx => ?_⟩
    by_cases c : q = k
    · subst c
      rw [List.getElem?_append_right (by omega), show q - ns.length = 0 by omega] at hx
      cases hx
      exact ⟨by rw [← zg_eq, zg_zs_eq (by omega)], by rw [← zg_eq, zg_zs_eq (by omega)]⟩
    · have hlt : q < ns.length := by
        have := (List.getElem?_eq_some_iff.mp hx).1
        rw [List.length_append] at this
        have this : q < ns.length + 1 := this
        omega
      rw [List.getElem?_append_left hlt] at hx
      obtain ⟨m1, m2⟩ := k4 q x hx
      rw [← hw4] at m1
      rw [← hw5] at m2
      exact ⟨by rw [← zg_eq, zg_ne _ _ _ _ c, zg_eq]; exact m1, by rw [← zg_eq, zg_ne _ _ _ _ c, zg_eq]; exact m2⟩
  · have hjN : j < N.length := by
      have := (List.getElem?_eq_some_iff.mp h2).1
      rw [List.length_append] at this
      have this : j < N.length + 1 := this
      omega
    have hjP : j < P.2.1.length := by omega
    obtain ⟨g', hg'⟩ : ∃ g, P.2.1[j]? = some g := ⟨_, List.getElem?_eq_getElem hjP⟩
    have hold := h.2 j fl' ns' h1 (by
      rw [List.getElem?_append_left hjN] at h2 ⊢
      exact h2)
    obtain ⟨A2, kd2, st2, fr2, er2, X2, y4, y5, e1, e2, e3, e4, e5, e6, e7, e8, e9⟩ := h.1.2.1.2 j fl' g' h1 hg'
    have s4 := e9 4 (by omega) (by omega)
    have s5 := e9 5 (by omega) (by omega)
    have hsep : bd (j + 1) ≤ bd i := by
      have := bd_m h.1 (i - (j + 1)) (j + 1) (by omega)
      rw [show j + 1 + (i - (j + 1)) = i by omega] at this
      exact this
    refine NDC_q (NDC_q hold g7 ?_) g8' ?_
    · intro A3 kd3 st3 off3 fr3 er3 X3 z4 z5 k1
      obtain ⟨c4, c5⟩ := FLX_A e1 k1
      rw [← c4, ← c5]
      exact ⟨by omega, by omega⟩
    · intro A3 kd3 st3 off3 fr3 er3 X3 z4 z5 k1
      have e1' := FLX_q (vq' := zs v4 k (.int (nI w.1))) e1 g7
      obtain ⟨c4, c5⟩ := FLX_A e1' k1
      rw [← c4, ← c5]
      exact ⟨by omega, by omega⟩
end
end ZKI

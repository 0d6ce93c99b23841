/-! THE REFERENCE'S EXPRESSION: the whole of it -/
section ZRE
section
variable {n : Nat} {X X1 : zX} {b m p q fm cb c s0 : Nat} {S : List Fr} {D P L : List Pd} {Q : List Nat} {φ : Den} {U0 : List Nat} {T : List Int32} {fk : Int32} {ts : List Tk} {segs : List (List Int32)} {w : List Int32}
/-- at the top stands a place that has a part -/
def hasO (S : List Fr) : Prop := ∃ (o a : Option (Nat × List Pd)) (y : Option Pd) (S1 : List Fr), S = .inr (o, a, y) :: S1 ∧ (a ≠ none ∨ y ≠ none) ∧ wnt S1
theorem agv_sh : ∀ (S : List Fr) (D : List Pd) (U : List Nat) (x : Pd), okB S → wnt S → hasO (agv S D U x).1 ∧ okB (agv S D U x).1
  | [], D, U, x, hB, _ => by
    obtain ⟨S0, f, e⟩ := hB
    simp at e
  | .inl q :: S, D, U, x, hB, hw => agv_sh S _ _ _ (okB_not hB).1 (fun f hf => hw f (List.mem_cons_of_mem _ hf))
  | .inr (o, some (p, l), y) :: S, D, U, x, hB, hw => by
    refine ⟨⟨o, some (p, l ++ [x]), none, S, rfl, Or.inl (by simp), fun f hf => hw f (List.mem_cons_of_mem _ hf)⟩, ?_⟩
    obtain ⟨S0, f, e⟩ := hB
    cases S0 with
    | nil => exact ⟨[], (o, some (p, l ++ [x]), none), by show _ :: S = _; rw [(List.cons.inj e).2]; rfl⟩
    | cons a S0 => exact ⟨.inr (o, some (p, l ++ [x]), none) :: S0, f, by show _ :: S = _; rw [(List.cons.inj e).2]; rfl⟩
  | .inr (o, none, y) :: S, D, U, x, hB, hw => by
    refine ⟨⟨o, none, some x, S, rfl, Or.inr (by simp), fun f hf => hw f (List.mem_cons_of_mem _ hf)⟩, ?_⟩
    obtain ⟨S0, f, e⟩ := hB
    cases S0 with
    | nil => exact ⟨[], (o, none, some x), by show _ :: S = _; rw [(List.cons.inj e).2]; rfl⟩
    | cons a S0 => exact ⟨.inr (o, none, some x) :: S0, f, by show _ :: S = _; rw [(List.cons.inj e).2]; rfl⟩
theorem okB_sw {f : Fr} {g : Nf} (h : okB (f :: S)) (hf : ∀ q, f ≠ .inl q) : okB (.inr g :: S) := by
  obtain ⟨S0, f', e⟩ := h
  cases S0 with
  | nil => exact ⟨[], g, by rw [(List.cons.inj e).2]; rfl⟩
  | cons a S0 => exact ⟨.inr g :: S0, f', by rw [(List.cons.inj e).2]; rfl⟩
theorem okB_push {f : Fr} (h : okB S) : okB (f :: S) := by
  obtain ⟨S0, f', e⟩ := h
  exact ⟨f :: S0, f', by rw [e]; rfl⟩
/-- what the loop leaves -/
def LpP (X X1 : zX) (b m fm cb : Nat) (T : List Int32) (fk : Int32) (segs : List (List Int32)) (v : Int32) (r : RR (Pd × List Pd × List Nat × Nat × List Tk)) : Prop := match r with
  | .inl e => RI X1 T fk (.inl e)
  | .inr x => v = nI x.1.1 ∧ RI X1 T fk (.inr x.2.2.2.2) ∧ Inv X1 b m fm cb [] x.2.1 x.2.2.2.1 [x.1] [] [] ∧ SKa b X X1 ∧ CX X1 b segs
theorem LpP_tr {X0 : zX} {v : Int32} {r : RR (Pd × List Pd × List Nat × Nat × List Tk)} (h : LpP X X1 b m fm cb T fk segs v r) (hs : SKa b X0 X) : LpP X0 X1 b m fm cb T fk segs v r := by
  cases r with
  | inl e => exact h
  | inr x => exact ⟨h.1, h.2.1, h.2.2.1, SKa_tr hs h.2.2.2.1, h.2.2.2.2⟩
theorem lp_flt {k : Nat} {l1 : Int32} {e : Er} (h : RI X T fk (.inl e)) (hk : 0 < k) : gf210_17 n k l1 X = some (-1, X) := by
  obtain ⟨k, rfl⟩ : ∃ j, k = j + 1 := ⟨k - 1, by omega⟩
  show gb210_17 n (gf210_17 n k) l1 X = _
  unfold gb210_17
  rw [if_neg (ri_flt h)]
theorem RI_75 {k : Nat} {v : Int32} {r : RR (List Tk)} (h : RI X T fk r) (hk : k = 75 ∨ k = 76) : RI (xF X k v) T fk r := RI_k h (fun j h1 h2 => by rw [xF_1, if_neg (by omega)]) rfl
theorem RI_nL {t : Nat} {v : Int32} {r : RR (List Tk)} (h : RI X T fk r) : RI (nL X t v) T fk r := by
  unfold nL
  exact RI_75 (RI_up (RI_up (RI_up (RI_up (RI_up h (by decide)) (by decide)) (by decide)) (by decide)) (by decide)) (Or.inl rfl)
/-- open: deeper by one, or a fault -/
theorem open_ok (hH : HT X S) (hR : RI X T fk (.inr ts)) (hb : (hd ts).1 ≠ 1) : (S.length < 21 → g214 n X = some ((), xF X 76 (nI S.length))) ∧ (21 ≤ S.length → ∃ X1, g214 n X = some ((), X1) ∧ RI X1 T fk (.inl (sErr 5 (hd ts)))) := by
  obtain ⟨h1, h2, h3⟩ := hH
  have h73 := (ri_hd hR hb).1
  constructor
  · intro hS
    unfold g214 gb214_22 zlet
    rw [if_pos h73, h2, if_neg (by rw [show (20 : Int32) = nI 20 from rfl, nI_eq (by omega) (by omega)]; omega)]
    dsimp only
    sorry
  · intro hS
    have h21 : S.length = 21 := by omega
    unfold g214 gb214_22 zlet
    rw [if_pos h73, h2, h21, if_pos (by decide)]
    obtain ⟨X1, e1, e2⟩ := ri_bad (n := n) (k := 5) hR hb
    rw [e1]
    exact ⟨_, rfl, RI_75 e2 (Or.inr rfl)⟩
end
end ZRE

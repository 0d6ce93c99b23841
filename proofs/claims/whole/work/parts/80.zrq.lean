/-! THE REFERENCE'S PLAN: steps -/
section ZRQ
/-- all cells in use are kept -/
def KA (X X1 : zX) (b : Nat) : Prop := ∀ ns nf nl nr ni nv nq, KP X X1 b (cn ns nf nl nr ni nv nq)
def KS (X X1 : zX) (b nv nq : Nat) : Prop := ∀ ns nf nl nr ni, KP X X1 b (cn ns nf nl nr ni nv nq)
def KR (X X1 : zX) (b nr nv nq : Nat) : Prop := ∀ ns nf nl ni, KP X X1 b (cn ns nf nl nr ni nv nq)
def pP (P : Pln) (p : Nat) : Pln := (P.1, P.2.1, P.2.2.1, P.2.2.2.1, P.2.2.2.2.1, P.2.2.2.2.2.1, p)
def qP (P : Pln) (s : List Spl) : Pln := (P.1, P.2.1, P.2.2.1, P.2.2.2.1, P.2.2.2.2.1, s, P.2.2.2.2.2.2)
section
variable {n : Nat} {X X1 X2 : zX} {b f c m nv nv' cb cb' nq nr E p : Nat} {T : List Int32} {fk : Int32} {ts : List Tk} {r : RR (List Tk)} {P : Pln} {D D1 : List Pd} {φ : Den} {k : Nat × List (List Int32)}
theorem KA_arr (h : X1.2.2 = X.2.2) : KA X X1 b := fun _ _ _ _ _ _ _ => KP_arr h
theorem KA_T (h1 : KA X X1 b) (h2 : KA X1 X2 b) : KA X X2 b := fun _ _ _ _ _ _ _ => KP_T (h1 _ _ _ _ _ _ _) (h2 _ _ _ _ _ _ _)
theorem KS_T (h1 : KS X X1 b nv nq) (h2 : KS X1 X2 b nv nq) : KS X X2 b nv nq := fun _ _ _ _ _ => KP_T (h1 _ _ _ _ _) (h2 _ _ _ _ _)
theorem KR_T (h1 : KR X X1 b nr nv nq) (h2 : KR X1 X2 b nr nv nq) : KR X X2 b nr nv nq := fun _ _ _ _ => KP_T (h1 _ _ _ _) (h2 _ _ _ _)
theorem KA_S (h : KA X X1 b) : KS X X1 b nv nq := fun _ _ _ _ _ => h _ _ _ _ _ _ _
theorem KS_R (h : KS X X1 b nv nq) : KR X X1 b nr nv nq := fun _ _ _ _ => h _ _ _ _ _
theorem KA_sl (hs : SKa b X X1) (e : ∀ i, i ≠ 1 → i ≠ 2 → i ≠ 3 → X1.2.2 i = X.2.2 i) : KA X X1 b := by
  intro ns nf nl nr ni nv nq
  refine ⟨hs, fun i j h1 h2 => ?_⟩
  by_cases q : i < 5
  · unfold cn at h2
    rw [if_pos q] at h2
    omega
  · exact cv_of (e i (by omega) (by omega) (by omega))
theorem cn_le {ns nf nl nr ni nv nq ns' nf' nl' nr' ni' nv' nq' : Nat} (h1 : ns ≤ ns') (h2 : nf ≤ nf') (h3 : nl ≤ nl') (h4 : nr ≤ nr') (h5 : ni ≤ ni') (h6 : nv ≤ nv') (h7 : nq ≤ nq') (i : Nat) : cn ns nf nl nr ni nv nq i ≤ cn ns' nf' nl' nr' ni' nv' nq' i := by
  unfold cn
  by_cases q : i < 5
  · rw [if_pos q, if_pos q]; omega
  rw [if_neg q, if_neg q]
  by_cases q : i < 9
  · rw [if_pos q, if_pos q]; omega
  rw [if_neg q, if_neg q]
  by_cases q : i < 10
  · rw [if_pos q, if_pos q]; omega
  rw [if_neg q, if_neg q]
  by_cases q : i < 13
  · rw [if_pos q, if_pos q]; omega
  rw [if_neg q, if_neg q]
  by_cases q : i < 14
  · rw [if_pos q, if_pos q]; omega
  rw [if_neg q, if_neg q]
  by_cases q : i < 17
  · rw [if_pos q, if_pos q]; omega
  rw [if_neg q, if_neg q]
  by_cases q : i < 25
  · rw [if_pos q, if_pos q]; omega
  rw [if_neg q, if_neg q]
  by_cases q : i < 26
  · rw [if_pos q, if_pos q]; omega
  rw [if_neg q, if_neg q]
  by_cases q : i < 28
  · rw [if_pos q, if_pos q]; omega
  rw [if_neg q, if_neg q]
  by_cases q : i < 29
  · rw [if_pos q, if_pos q]; omega
  rw [if_neg q, if_neg q]
  by_cases q : i < 35
  · rw [if_pos q, if_pos q]; omega
  rw [if_neg q, if_neg q]
  by_cases q : i < 36
  · rw [if_pos q, if_pos q]; omega
  rw [if_neg q, if_neg q]
  by_cases q : i < 39
  · rw [if_pos q, if_pos q]; omega
  rw [if_neg q, if_neg q]
  by_cases q : i < 40
  · rw [if_pos q, if_pos q]; omega
  rw [if_neg q, if_neg q]
  by_cases q : i < 42
  · rw [if_pos q, if_pos q]; omega
  rw [if_neg q, if_neg q]
  by_cases q : i < 43
  · rw [if_pos q, if_pos q]; omega
  rw [if_neg q, if_neg q]
  by_cases q : i < 47
  · rw [if_pos q, if_pos q]; omega
  rw [if_neg q, if_neg q]
  by_cases q : i < 49
  · rw [if_pos q, if_pos q]; omega
  rw [if_neg q, if_neg q]
  exact Nat.le_refl _
theorem KR_M {nr' nv' nq' : Nat} (h : KR X X1 b nr' nv' nq') (h4 : nr ≤ nr') (h6 : nv ≤ nv') (h7 : nq ≤ nq') : KR X X1 b nr nv nq := fun ns nf nl ni => KP_M (h ns nf nl ni) (cn_le (Nat.le_refl _) (Nat.le_refl _) (Nat.le_refl _) h4 (Nat.le_refl _) h6 h7)
theorem ri_nextR (h : RI X T fk r) (hn : 6002 ≤ n) : ∃ X1, g190 n X = some ((), X1) ∧ RI X1 T fk (rb r fun ts => .inr (adv ts)) := by
  cases r with
  | inl e => exact ⟨X, ri_nextF h, h⟩
  | inr ts => exact ri_next h hn
theorem RP_b (h : RP X b P D nv cb) : LN X ∧ X.1 4 = nI b ∧ b ≤ 1 ∧ cv X 58 b = nI D.length ∧ (∃ c, cv X 1 b = nI c ∧ c ≤ cb + 2 * P.2.2.2.2.2.2) ∧ P.2.2.2.2.2.2 ≤ 400 ∧ cb ≤ 640 ∧ D.length ≤ 400 := by
  obtain ⟨_, _, _, _, _, _, _, h8⟩ := h
  have h3 := h8.2.2.1.2
  simp only [List.length_nil, Nat.add_zero, List.nil_append, opn] at h3
  have h2 := h8.2.1.2
  exact ⟨h8.1.1, h8.1.2.1, h8.1.2.2, h8.2.2.1.1, h8.2.2.2.1.2, h2, h8.2.2.2.1.1, by omega⟩
theorem Inv_P {fm : Nat} {Q : List Pd} (h : Inv X b m fm cb [] D p Q [] []) : Inv X b m fm cb [] D p [] [] [] := Inv_tr h h.1.1 rfl (fun _ _ _ => rfl) (fun _ _ a d => ⟨a, d⟩) h.2.2.2.1.2 h.2.2.2.1.1 (Nat.le_refl _)
theorem RP_keep (h : RP X b P D nv cb) (hk : KP X X1 b (cnP P nv)) (hr : ∀ i, i = 4 ∨ i = 9 ∨ i = 25 ∨ i = 28 ∨ i = 35 ∨ i = 39 ∨ i = 42 → cv X1 i b = cv X i b) (hx : ∀ i, 49 ≤ i → i ≤ 58 → X1.2.2 i = X.2.2 i) (hL : LN X1) (h4 : X1.1 4 = X.1 4) (hc : ∃ c, cv X1 1 b = nI c ∧ c ≤ cb' + 2 * P.2.2.2.2.2.2) (hcb : cb' ≤ 640) : RP X1 b P D nv cb' := by
  have := RP_g (X1 := X1) (cb' := cb') (nv' := nv) (D' := []) (P' := P) h hk ⟨by rw [hr 4 (by omega)]; exact h.1.1, h.1.2.1, fun _ _ q => Or.inl q⟩ ⟨by rw [hr 9 (by omega)]; exact h.2.1.1, h.2.1.2.1, fun _ _ q => Or.inl q⟩ ⟨by rw [hr 25 (by omega)]; exact h.2.2.1.1, h.2.2.1.2.1, fun _ _ q => Or.inl q⟩ ⟨by rw [hr 28 (by omega)]; exact h.2.2.2.1.1, h.2.2.2.1.2.1, fun _ _ q => Or.inl q⟩ ⟨by rw [hr 35 (by omega)]; exact h.2.2.2.2.1.1, h.2.2.2.2.1.2.1, fun _ _ q => Or.inl q⟩ ⟨by rw [hr 39 (by omega)]; exact h.2.2.2.2.2.1, Nat.le_refl _⟩ ⟨SPS_kp h.2.2.2.2.2.2.1 hk (hr 42 (by omega)), Nat.le_refl _⟩ (fun fm D0 hI => by rw [List.append_nil]; exact Inv_tr hI hL h4 hx hk.1 hc hcb (Nat.le_refl _))
  rw [List.append_nil] at this
  exact this
theorem RP_arr (h : RP X b P D nv cb) (e : X1.2.2 = X.2.2) (h4 : X1.1 4 = X.1 4) : RP X1 b P D nv cb := by
  obtain ⟨c1, _, _, _, ⟨c, c5, c6⟩, _, c7, _⟩ := RP_b h
  exact RP_keep h (KA_arr e _ _ _ _ _ _ _) (fun i _ => cv_of (by rw [e])) (fun i _ _ => by rw [e]) (fun i hi => by rw [e]; exact c1 i hi) h4 ⟨c, by rw [cv_of (show X1.2.2 1 = X.2.2 1 by rw [e])]; exact c5, c6⟩ c7
theorem RP_mono (h : RP X b P D nv cb) (hc : cb ≤ cb') (h6 : cb' ≤ 640) : RP X b P D nv cb' := by
  obtain ⟨c1, _, _, _, ⟨c, c5, c6⟩, _, c7, _⟩ := RP_b h
  exact RP_keep h KP_R (fun _ _ => rfl) (fun _ _ _ => rfl) c1 rfl ⟨c, c5, by omega⟩ h6
/-- slots were taken -/
theorem RP_sl (h : RP X b P D nv cb) (hs : SKa b X X1) (e : ∀ i, i ≠ 1 → i ≠ 2 → i ≠ 3 → X1.2.2 i = X.2.2 i) (hL : LN X1) (h4 : X1.1 4 = X.1 4) (hc : ∃ c, cv X1 1 b = nI c ∧ c ≤ cb' + 2 * P.2.2.2.2.2.2) (h6 : cb' ≤ 640) : RP X1 b P D nv cb' :=
  RP_keep h (KA_sl hs e _ _ _ _ _ _ _) (fun i hi => cv_of (e i (by omega) (by omega) (by omega))) (fun i _ _ => e i (by omega) (by omega) (by omega)) hL h4 hc h6
theorem RP_fr {wf : Nat} (h : RP X b P D nv cb) (hw : fr wf 0 X X1) (h4 : X1.1 4 = X.1 4) : RP X1 b P D nv cb := RP_arr h (funext fun i => hw.2.2.1 i (by simp)) h4
theorem KA_fr {wf : Nat} (hw : fr wf 0 X X1) : KA X X1 b := KA_arr (funext fun i => hw.2.2.1 i (by simp))
theorem mapNML {α : Type} {l : List α} {g : α → List Int32} {i base : Nat} (h : ∀ k s, l[k]? = some s → SW X b (cv X i (base + k)) (g s)) : NML X b i base (l.map g) := by
  intro k w hk
  rw [List.getElem?_map] at hk
  cases hl : l[k]? with
  | none => rw [hl] at hk; cases hk
  | some s =>
    rw [hl] at hk
    cases hk
    exact h k s hl
theorem RP_nmS (h : RP X b P D nv cb) : NML X b 5 (12 * b) (P.1.map (·.1)) := mapNML (fun k s hs => (h.1.2.2 k s hs).1)
theorem RP_nmF (h : RP X b P D nv cb) : NML X b 10 (24 * b) (P.2.1.map (·.1)) := mapNML (fun k s hs => (h.2.1.2.2 k s hs).1)
theorem RP_nmL (h : RP X b P D nv cb) : NML X b 26 (8 * b) (P.2.2.1.map (·.1)) := mapNML (fun k s hs => (h.2.2.1.2.2 k s hs).1)
theorem RP_CX (h : RP X b P D nv cb) : CX X b (P.1.map (·.1)) := by
  refine ⟨by rw [List.length_map]; exact h.1.1, by rw [List.length_map]; exact h.1.2.1, fun k w hk => ?_⟩
  obtain ⟨s, s1, s2, s3⟩ := RP_nmS h k w hk
  exact ⟨s, s1, s2, s3⟩
theorem sExp_brk {segs : List (List Int32)} : Brk (fun ts => sExp segs ts p) := by
  intro ts hb
  show sE segs (63 + 1) 0 0 ts p = _
  unfold sE sRow
  show rb (sE segs (62 + 1) 1 0 ts p) _ = _
  unfold sE sRow
  show rb (rb (sE segs (61 + 1) 2 0 ts p) _) _ = _
  unfold sE
  rw [hb]
  simp only [Nat.reduceEqDiff, false_or, false_and, if_false]
  unfold sTest
  rw [sTake_brk (by decide) _ hb]
  rfl
theorem sSrv0_brk {spl : List Spl} : Brk (sSrv0 k spl) := by
  intro ts hb
  unfold sSrv0
  rw [if_neg (by omega), if_neg (by omega), sVal_brk _ hb]
  rfl
theorem sSrv_brk {spl : List Spl} : Brk (sSrv k spl) := Brk_rb sSrv0_brk
theorem EX_new {Q : List Pd} (hI : Inv X b m D.length cb [] D1 p ((c, φ) :: Q) [] []) : EX X b m cb p (D ++ D1) D.length (D.length + D1.length) c φ := by
  have hm : (c, φ) ∈ D1 := by
    obtain ⟨_, _, _, _, _, _, U, _, _, u3, _⟩ := hI
    exact (u3 (c, φ) (by simp)).1
  refine ⟨by omega, by rw [List.length_append]; omega, ?_, ?_⟩
  · rw [List.drop_left, List.take_of_length_le (by omega)]
    exact hm
  · rw [List.drop_left]
    exact Inv_P hI
/-- an expression is read -/
def RxQ (X X1 : zX) (b cb nv : Nat) (P : Pln) (D : List Pd) (v : Int32) (x : Den × List Tk × Nat) : Prop := ∃ c D1, v = nI c ∧ RP X1 b (pP P x.2.2) (D ++ D1) nv cb ∧ EX X1 b P.1.length cb x.2.2 (D ++ D1) D.length (D.length + D1.length) c x.1 ∧ cv X1 58 b = nI (D.length + D1.length) ∧ KA X X1 b
theorem rp_exp (h : RP X b P D nv cb) (hR : RI X T fk (.inr ts)) (hn : 6002 ≤ n) : ∃ v X1, g210 n X = some (v, X1) ∧ PO (fun x : Den × List Tk × Nat => x.2.1) X1 T fk (RxQ X X1 b cb nv P D v) (sExp (P.1.map (·.1)) ts P.2.2.2.2.2.2) := by
  obtain ⟨v, X1, e1, e2⟩ := exp_all (n := n) h.2.2.2.2.2.2.2 (segs := P.1.map (·.1)) (by rw [List.length_map]) hR (RP_CX h) hn
  refine ⟨v, X1, e1, PO_imp e2 (fun x _ hx => ?_)⟩
  obtain ⟨c, D1, x1, x2, x3, x4, x5⟩ := hx
  have hka : KA X X1 b := fun _ _ _ _ _ _ _ => KP_w (w210 e1) x3 (by decide)
  have hr : ∀ i, i = 4 ∨ i = 9 ∨ i = 25 ∨ i = 28 ∨ i = 35 ∨ i = 39 ∨ i = 42 → X1.2.2 i = X.2.2 i := by
    intro i hi
    rcases hi with rfl | rfl | rfl | rfl | rfl | rfl | rfl <;> exact (w210 e1).2.2.1 _ rfl
  have h0 := x2 _ _ h.2.2.2.2.2.2.2
  rw [List.nil_append] at h0
  refine ⟨c, D1, x1, ?_, EX_new h0, h0.2.2.1.1, hka⟩
  exact RP_g (X1 := X1) (cb' := cb) (nv' := nv) (D' := D1) (P' := pP P x.2.2) h (hka _ _ _ _ _ _ _) ⟨by rw [cv_of (hr 4 (by omega))]; exact h.1.1, h.1.2.1, fun _ _ q => Or.inl q⟩ ⟨by rw [cv_of (hr 9 (by omega))]; exact h.2.1.1, h.2.1.2.1, fun _ _ q => Or.inl q⟩ ⟨by rw [cv_of (hr 25 (by omega))]; exact h.2.2.1.1, h.2.2.1.2.1, fun _ _ q => Or.inl q⟩ ⟨by rw [cv_of (hr 28 (by omega))]; exact h.2.2.2.1.1, h.2.2.2.1.2.1, fun _ _ q => Or.inl q⟩ ⟨by rw [cv_of (hr 35 (by omega))]; exact h.2.2.2.2.1.1, h.2.2.2.2.1.2.1, fun _ _ q => Or.inl q⟩ ⟨by rw [cv_of (hr 39 (by omega))]; exact h.2.2.2.2.2.1, Nat.le_refl _⟩ ⟨SPS_kp h.2.2.2.2.2.2.1 (hka P.1.length P.2.1.length P.2.2.1.length P.2.2.2.1.length P.2.2.2.2.1.length nv _) (cv_of (hr 42 (by omega))), Nat.le_refl _⟩ (fun fm D0 hI => Inv_P (x2 fm D0 hI))
/-- a serve is read -/
def RsQ (X X1 : zX) (b nv E : Nat) (P : Pln) (D : List Pd) (v : Int32) (x : Srv × List Spl × List Tk) : Prop := RP X1 b (qP P x.2.1) D (nv + 1) (E + 2 * x.2.1.length) ∧ SVR X1 b x.2.1.length (nv + 1) v x.1 ∧ P.2.2.2.2.2.1.length ≤ x.2.1.length ∧ (∀ i, 3 < i → i < 39 ∨ 48 < i → X1.2.2 i = X.2.2 i) ∧ KS X X1 b nv P.2.2.2.2.2.1.length
theorem rp_srv (h : RP X b P D nv (E + 2 * P.2.2.2.2.2.1.length)) (hE : E ≤ 440) (hK : KND X b f k) (hf : f < 24) (hv : nv < 240) (hR : RI X T fk (.inr ts)) (hb1 : (hd ts).1 ≠ 1) (hn : 6002 ≤ n) : ∃ v X1, g229 n (nI (24 * b + f)) X = some (v, X1) ∧ PO (fun x : Srv × List Spl × List Tk => x.2.2) X1 T fk (RsQ X X1 b nv E P D v) (sSrv0 k P.2.2.2.2.2.1 ts) := by
  obtain ⟨c1, c2, c3, c4, ⟨c, c5, c6⟩, c7, c8, _⟩ := RP_b h
  obtain ⟨v, X1, e1, e2⟩ := srv_ok (n := n) hR hb1 c1 c2 c3 hf hK h.2.2.2.2.2.2.1 c5 (by omega) h.2.2.2.2.2.1 hv hn
  refine ⟨v, X1, e1, PO_imp e2 (fun x _ hx => ?_)⟩
  obtain ⟨x1, x2, x3, x4, x5, ⟨c', x6, x7⟩, x8, x9, x10, x11⟩ := hx
  have h100 := x4.2.1
  have hr : ∀ i, i = 4 ∨ i = 9 ∨ i = 25 ∨ i = 28 ∨ i = 35 → X1.2.2 i = X.2.2 i := fun i hi => x10 i (by omega) (by omega)
  refine ⟨?_, x3, x5, x10, x11⟩
  have := RP_g (X1 := X1) (cb' := E + 2 * x.2.1.length) (nv' := nv + 1) (D' := []) (P' := qP P x.2.1) h (x11 _ _ _ _ _) ⟨by rw [cv_of (hr 4 (by omega))]; exact h.1.1, h.1.2.1, fun _ _ q => Or.inl q⟩ ⟨by rw [cv_of (hr 9 (by omega))]; exact h.2.1.1, h.2.1.2.1, fun _ _ q => Or.inl q⟩ ⟨by rw [cv_of (hr 25 (by omega))]; exact h.2.2.1.1, h.2.2.1.2.1, fun _ _ q => Or.inl q⟩ ⟨by rw [cv_of (hr 28 (by omega))]; exact h.2.2.2.1.1, h.2.2.2.1.2.1, fun _ _ q => Or.inl q⟩ ⟨by rw [cv_of (hr 35 (by omega))]; exact h.2.2.2.2.1.1, h.2.2.2.2.1.2.1, fun _ _ q => Or.inl q⟩ ⟨x2, by omega⟩ ⟨x4, x5⟩ (fun fm D0 hI => by rw [List.append_nil]; exact Inv_tr hI x8 x9 (fun i h1 h2 => x10 i (by omega) (by omega)) (x11 0 0 0 0 0).1 ⟨c', x6, by show _ ≤ _ + 2 * P.2.2.2.2.2.2; omega⟩ (by omega) (Nat.le_refl _))
  rw [List.append_nil] at this
  exact this
/-- a new name -/
theorem rp_new {i base : Nat} {names : List (List Int32)} (h : RP X b P D nv cb) (hcb : cb < 640) (hi : yOk i = true) (hi2 : i < 71) (hbl : base + names.length ≤ mln i ∧ mln i ≤ 6000) (hN : NML X b i base names) (hR : RI X T fk r) (hn : 6002 ≤ n) : ∃ v X1, g202 n i (nI base) (nI names.length) X = some (v, X1) ∧ ((∃ e, rb r (sNew names) = .inl e ∧ RI X1 T fk (.inl e) ∧ LN X1 ∧ X1.1 4 = nI b) ∨ ∃ x, rb r (sNew names) = .inr x ∧ RI X1 T fk (.inr x.2) ∧ RP X1 b P D nv (cb + 1) ∧ SW X1 b v x.1.2.2.1 ∧ KA X X1 b ∧ (∀ i, i ≠ 1 → i ≠ 2 → i ≠ 3 → X1.2.2 i = X.2.2 i)) := by
  obtain ⟨c1, c2, c3, c4, ⟨c, c5, c6⟩, c7, c8, _⟩ := RP_b h
  obtain ⟨v, X1, e1, e2⟩ := new_ok (n := n) (c := c) hR hi (by omega) c1 c2 c3 (fun ts _ => ⟨NML_NMS hN c1 c3 hi2 hbl.1, by rw [ce_cv c1 (by decide) (by show b < 2; omega), c5], by omega⟩) hn
  refine ⟨v, X1, e1, ?_⟩
  have hw := w202 e1
  cases hr : rb r (sNew names) with
  | inl e =>
    rw [hr] at e2
    exact Or.inl ⟨e, rfl, e2, LN_of c1 hw, (hw.1 4 rfl).trans c2⟩
  | inr x =>
    rw [hr] at e2
    obtain ⟨y1, y2, y3, y4, y5, y6, y7⟩ := e2
    have hcv : cv X1 1 b = nI (c + 1) := by unfold cv; rw [y5]; rfl
    have hsk : SKa b X X1 := by
      intro s w ⟨c', k1, k2, k3, k4⟩ hs
      have : c' = c := by
        rw [c5] at k1
        exact ((nI_eq (by omega) (by omega)).mp k1).symm
      exact ⟨⟨c + 1, hcv, by omega, k3, by omega⟩, y4 s w (by omega) hs⟩
    exact Or.inr ⟨x, rfl, y1, RP_sl h hsk y7 y6 (hw.1 4 rfl) ⟨c + 1, hcv, by omega⟩ (by omega), ⟨_, y2, ⟨c + 1, hcv, by omega, by omega, by omega⟩, y3⟩, KA_sl hsk y7, y7⟩
/-- a known name -/
theorem rp_knw {i base : Nat} {names : List (List Int32)} (hL : LN X) (hb : b ≤ 1) (hi : yOk i = true) (hi2 : i < 71) (hbl : base + names.length ≤ mln i ∧ mln i ≤ 6000) (hN : NML X b i base names) (hR : RI X T fk r) (hn : 6002 ≤ n) : ∃ v X1, g216 n i (nI base) (nI names.length) X = some (v, X1) ∧ ((∃ e, rb r (sKnw names) = .inl e ∧ RI X1 T fk (.inl e)) ∨ ∃ x, rb r (sKnw names) = .inr x ∧ RI X1 T fk (.inr x.2) ∧ v = nI x.1 ∧ x.1 < names.length) ∧ X1.2.2 = X.2.2 ∧ X1.1 4 = X.1 4 := by
  obtain ⟨v, X1, e1, e2⟩ := knw_ok (n := n) hR hi (by omega) (fun ts _ => NML_NMS hN hL hb hi2 hbl.1) hn
  have hw := w216 e1
  refine ⟨v, X1, e1, ?_, funext fun i => hw.2.2.1 i (by simp), hw.1 4 rfl⟩
  cases hr : rb r (sKnw names) with
  | inl e =>
    rw [hr] at e2
    exact Or.inl ⟨e, rfl, e2⟩
  | inr x =>
    rw [hr] at e2
    refine Or.inr ⟨x, rfl, e2.1, e2.2, ?_⟩
    cases r with
    | inl e => cases hr
    | inr ts =>
      have hr : sKnw names ts = .inr x := hr
      unfold sKnw at hr
      generalize sTake 2 ts = y at hr
      cases y with
      | inl e => cases hr
      | inr y =>
        have hr : (match fnd names y.1.2.2.1 with
          | none => .inl (sErr 3 y.1)
          | some i => .inr (i, y.2) : RR (Nat × List Tk)) = .inr x := hr
        cases hf : fnd names y.1.2.2.1 with
        | none => rw [hf] at hr; cases hr
        | some j =>
          rw [hf] at hr
          cases hr
          unfold fnd at hf
          exact (List.findIdx?_eq_some_iff_getElem.mp hf).1
theorem ri_eat2 {c : Int32} {s : Nat} (hc : gsort c = s) (hs : s ≠ 1) (h : RI X T fk r) (hn : 6002 ≤ n) : ∃ X1, g208 n c X = some ((), X1) ∧ RI X1 T fk (rb r (sEat s)) ∧ X1.2.2 = X.2.2 ∧ X1.1 4 = X.1 4 := by
  obtain ⟨X1, e1, e2⟩ := ri_eat (n := n) hc hs h hn
  exact ⟨X1, e1, e2, funext fun i => (w208 e1).2.2.1 i (by simp), (w208 e1).1 4 rfl⟩
end
end ZRQ

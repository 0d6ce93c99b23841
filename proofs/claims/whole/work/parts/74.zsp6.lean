/-! THE REFERENCE'S readSplit and readServe -/
section ZSP6
/-- a serve, and the number by which it goes -/
def SVR (X : zX) (b nq nv : Nat) (v : Int32) (s : Srv) : Prop := ∃ q, q < nv ∧ v = nI q ∧ (match s with
  | .inl a => cv X 40 (240 * b + q) = -1 ∧ cv X 41 (240 * b + q) = a
  | .inr j => j < nq ∧ cv X 40 (240 * b + q) = nI j)
section
variable {n : Nat} {X X1 X2 : zX} {b f q c : Nat} {T : List Int32} {fk : Int32} {ts : List Tk} {k : Nat × List (List Int32)} {spl : List Spl} {l1 l2 l3 l4 s0 nm sa : Int32} {ns nf nl nr ni nv nq : Nat}
theorem SPR_kp {j : Nat} {s : Spl} (h : SPR X b j s) (hk : KP X X1 b (cn ns nf nl nr ni nv nq)) (hj : j < nq) : SPR X1 b j s := by
  obtain ⟨h1, h2, h3, h4, h5⟩ := h
  refine ⟨?_, ?_, SHc_of h3 h5.1 (fun i j' hh => ?_), h4, h5⟩
  · rw [hk.2 44 _ (by show 100 * b ≤ _; omega) (by show _ < 100 * b + nq; omega)]; exact SW_kp h1 hk.1
  · rw [hk.2 45 _ (by show 100 * b ≤ _; omega) (by show _ < 100 * b + nq; omega)]; exact SW_kp h2 hk.1
  · rcases hh with ⟨rfl, rfl⟩ | ⟨rfl | rfl, a1, a2⟩
    · exact hk.2 46 _ (by show 100 * b ≤ _; omega) (by show _ < 100 * b + nq; omega)
    · exact hk.2 47 _ (by show 800 * b ≤ _; omega) (by show _ < 800 * b + 8 * nq; omega)
    · exact hk.2 48 _ (by show 800 * b ≤ _; omega) (by show _ < 800 * b + 8 * nq; omega)
theorem SPS_kp (h : SPS X b spl) (hk : KP X X1 b (cn ns nf nl nr ni nv spl.length)) (h42 : cv X1 42 b = cv X 42 b) : SPS X1 b spl :=
  ⟨by rw [h42]; exact h.1, h.2.1, fun j s hj => SPR_kp (h.2.2 j s hj) hk (List.getElem?_eq_some_iff.mp hj).1⟩
theorem get_app {α : Type} {l : List α} {a y : α} {j : Nat} (h : (l ++ [a])[j]? = some y) : l[j]? = some y ∨ j = l.length ∧ y = a := by
  rcases Nat.lt_or_ge j l.length with q | q
  · rw [List.getElem?_append_left q] at h; exact Or.inl h
  · have hj := (List.getElem?_eq_some_iff.mp h).1
    rw [List.length_append] at hj
    have hj : j < l.length + 1 := hj
    have : j = l.length := by omega
    subst this
    rw [List.getElem?_append_right (Nat.le_refl _), Nat.sub_self] at h
    exact Or.inr ⟨rfl, (Option.some.inj h).symm⟩
def spG (k : Nat × List (List Int32)) (w s : List Int32) (ts : List Tk) : RR (Spl × List Tk) := rb (rb (sEat 7 ts) fun ts => rb (sShL k 9 [] ts) spFin) fun z => .inr ((w, s, z.1), z.2)
def roG (k : Nat × List (List Int32)) (a : Int32) (w s : List Int32) (ts : List Tk) : RR (Spl × List Tk) := rb (rb (sVal k ts) fun x => rb (sEat 28 x.2) fun ts => rb (sVal k ts) fun y => .inr ([(a, x.1), (10000 - a, y.1)], y.2)) fun z => .inr ((w, s, z.1), z.2)
theorem sSpl_eq (h : spl.length < 100) : sSpl k spl ts = rb (sTake 2 (adv ts)) fun w => rb (sTake 4 w.2) fun s => spG k w.1.2.2.1 s.1.2.2.1 s.2 := by
  unfold sSpl sFirst
  rw [if_neg (by omega)]
  show rb (sTake 2 (adv ts)) _ = _
  congr 1
  funext w
  congr 1
  funext s
  unfold spG
  rw [rb_assoc]
  congr 1
  funext ts'
  rw [rb_assoc]
  congr 1
  funext y
  unfold spFin
  split
  · rfl
  · rw [rb_assoc]
    rfl
theorem sRol_eq (h : spl.length < 100) : sRol k spl ts = rb (sShr false (adv ts)) fun a => rb (sTake 2 a.2) fun w => rb (sTake 4 w.2) fun s => roG k a.1 w.1.2.2.1 s.1.2.2.1 s.2 := by
  unfold sRol sFirst
  rw [if_neg (by omega)]
  show rb (sShr false (adv ts)) _ = _
  congr 1
  funext a
  congr 1
  funext w
  congr 1
  funext s
  unfold roG
  rw [rb_assoc]
  congr 1
  funext x
  rw [rb_assoc]
  congr 1
  funext ts'
  rw [rb_assoc]
  rfl
theorem spG_brk {w s : List Int32} : Brk (spG k w s) := Brk_rb (Brk_rb (sEat_brk (by decide)))
theorem roG_brk {a : Int32} {w s : List Int32} : Brk (roG k a w s) := Brk_rb (Brk_rb sVal_brk)
/-- what reading a split or a serve leaves as it was -/
def SrK (X X1 : zX) (b q : Nat) : Prop := LN X1 ∧ X1.1 4 = X.1 4 ∧ (∀ i, 3 < i → i < 42 ∨ 48 < i → X1.2.2 i = X.2.2 i) ∧ ∀ ns nf nl nr ni nv, KP X X1 b (cn ns nf nl nr ni nv q)
def SplQ (X X1 : zX) (b c : Nat) (spl : List Spl) (v : Int32) (x : Spl × List Tk) : Prop := v = nI spl.length ∧ spl.length < 100 ∧ SPS X1 b (spl ++ [x.1]) ∧ cv X1 1 b = nI (c + 2) ∧ SrK X X1 b spl.length
theorem spl_end {X3 : zX} {w s : List Int32} {x : List (Int32 × Int32) × List Tk} {v : Int32} (hS : SPS X b spl) (hq : spl.length < 100) (hk3 : KP X X3 b (cn 0 0 0 0 0 0 spl.length)) (ha : ∀ i, i ≠ 1 → i ≠ 2 → i ≠ 3 → X3.2.2 i = X.2.2 i) (h43 : X3.1 4 = X.1 4) (hs3 : SKa b X X3) (hw : SW X3 b nm w) (hs : SW X3 b sa s) (hc : cv X3 1 b = nI (c + 2)) (ht : ∀ c ∈ s, dTxt c = true) (h : v = nI spl.length ∧ 1 ≤ x.1.length ∧ x.1.length ≤ 8 ∧ SHc X1 b spl.length x.1 ∧ SpK X3 X1 b spl.length nm sa) : SplQ X X1 b c spl v ((w, s, x.1), x.2) := by
  obtain ⟨h1, h2, h3, h4, h5⟩ := h
  have hk : ∀ ns nf nl nr ni nv, KP X X1 b (cn ns nf nl nr ni nv spl.length) := by
    intro ns nf nl nr ni nv
    refine KP_T ⟨hs3, fun i j a1 a2 => ?_⟩ (SpK_kp h5)
    refine cv_of (ha i ?_ ?_ ?_) <;> (intro z; subst z; have a2 : j < _ + 0 := a2; omega)
  refine ⟨h1, hq, ⟨?_, ?_, fun j y hj => ?_⟩, ?_, h5.1, h5.2.1.trans h43, fun i hi h => (h5.2.2.1 i h).trans (ha i (by omega) (by omega) (by omega)), hk⟩
  · rw [h5.2.2.2.1, List.length_append]; rfl
  · rw [List.length_append]; show spl.length + 1 ≤ 100; omega
  · rcases get_app hj with hj | ⟨hz, hy⟩
    · exact SPR_kp (hS.2.2 j y hj) (hk 0 0 0 0 0 0) (List.getElem?_eq_some_iff.mp hj).1
    · rw [hz, hy]
      refine ⟨?_, ?_, h4, h2, h3, ht⟩
      · rw [h5.2.2.2.2.1]; exact SW_kp hw (SpK_sk h5)
      · rw [h5.2.2.2.2.2.1]; exact SW_kp hs (SpK_sk h5)
  · rw [cv_of (h5.2.2.1 1 (by omega))]; exact hc
theorem spl_ok {roll : Bool} (hR : RI X T fk (.inr ts)) (hb1 : (hd ts).1 ≠ 1) (hL : LN X) (h4 : X.1 4 = nI b) (hb : b ≤ 1) (hf : f < 24) (hK : KND X b f k) (hS : SPS X b spl) (hc : cv X 1 b = nI c) (hc2 : c + 2 ≤ 1500) (hn : 6002 ≤ n) : ∃ v X1, g230 n (nI (24 * b + f)) (b2 roll) X = some (v, X1) ∧ PO (fun x : Spl × List Tk => x.2) X1 T fk (SplQ X X1 b c spl v) (if roll = true then sRol k spl ts else sSpl k spl ts) := by
  have h100 := hS.2.1
  unfold g230
  rw [h4, rd_cv (j := b) hL (by decide) (by show b < 2; omega) (by omega), hS.1]
  dsimp only [Option.bind_some]
  by_cases hz : spl.length = 100
  · rw [if_pos (by rw [hz]; rfl)]
    obtain ⟨X1, e1, e2⟩ := ri_bad (n := n) (k := 5) hR hb1
    rw [e1]
    dsimp only [Option.bind_some]
    rw [sf19 e2 hn]
    refine ⟨_, X1, rfl, ?_⟩
    have : (if roll = true then sRol k spl ts else sSpl k spl ts) = .inl (sErr 5 (hd ts)) := by
      cases roll with
      | false =>
        show sSpl k spl ts = _
        unfold sSpl sFirst
        rw [if_pos (show 100 ≤ spl.length by omega)]
        rfl
      | true =>
        show sRol k spl ts = _
        unfold sRol sFirst
        rw [if_pos (show 100 ≤ spl.length by omega)]
        rfl
    rw [this]
    exact e2
  · have hq : spl.length < 100 := by omega
    rw [if_neg (by rw [show (100 : Int32) = nI 100 from rfl, nI_eq (by omega) (by omega)]; exact hz)]
    unfold gb230_19
    obtain ⟨X1, n1, n2⟩ := ri_next hR hn
    have hw := w190 n1
    rw [n1]
    dsimp only [Option.bind_some]
    have hL1 := LN_of hL hw
    have h41 : X1.1 4 = nI b := by rw [hw.1 4 rfl]; exact h4
    have hc1 : cv X1 1 b = nI c := by rw [cv_of (hw.2.2.1 1 rfl)]; exact hc
    have h421 : cv X1 42 b = nI spl.length := by rw [cv_of (hw.2.2.1 42 rfl)]; exact hS.1
    have hK1 : KND X1 b f k := KND_kp (nf := f + 1) (ns := 0) (nl := 0) (nr := 0) (ni := 0) (nv := 0) (nq := 0) hK (KP_nx n1) (by omega)
    have hK3 : ∀ {X3 : zX}, SKa b X1 X3 → (∀ i, i ≠ 1 → i ≠ 2 → i ≠ 3 → X3.2.2 i = X1.2.2 i) → KND X3 b f k := by
      intro X3 s1 s2
      obtain ⟨g1, g2, g3, g4, g5⟩ := hK1
      exact ⟨by rw [cv_of (s2 11 (by decide) (by decide) (by decide))]; exact g1, g2, by rw [cv_of (s2 12 (by decide) (by decide) (by decide))]; exact g3, g4, NML_kp g5 s1 (fun k _ => cv_of (s2 13 (by decide) (by decide) (by decide)))⟩
    have hend : ∀ {X3 X4 : zX} {w s : List Int32} {x : List (Int32 × Int32) × List Tk} {v nm sa : Int32}, SKa b X1 X3 → (∀ i, i ≠ 1 → i ≠ 2 → i ≠ 3 → X3.2.2 i = X1.2.2 i) → X3.1 4 = X1.1 4 → SW X3 b nm w → SW X3 b sa s → cv X3 1 b = nI (c + 2) → (∀ c ∈ s, dTxt c = true) → v = nI spl.length ∧ 1 ≤ x.1.length ∧ x.1.length ≤ 8 ∧ SHc X4 b spl.length x.1 ∧ SpK X3 X4 b spl.length nm sa → SplQ X X4 b c spl v ((w, s, x.1), x.2) := by
      intro X3 X4 w s x v nm sa s1 s2 s3 s4 s5 s6 s7 h
      have ha : ∀ i, i ≠ 1 → i ≠ 2 → i ≠ 3 → X3.2.2 i = X.2.2 i := fun i a1 a2 a3 => by rw [s2 i a1 a2 a3, nx_arr n1]
      have hs3 : SKa b X X3 := SKa_tr (SKa_nx n1) s1
      refine spl_end hS hq ⟨hs3, fun i j a1 a2 => ?_⟩ ha (by rw [s3, hw.1 4 rfl]) hs3 s4 s5 s6 s7 h
      refine cv_of (ha i ?_ ?_ ?_) <;> (intro z; subst z; have a2 : j < _ + 0 := a2; omega)
    cases roll with
    | false =>
      rw [if_pos b2_f, if_neg (show ¬ false = true by decide), sSpl_eq hq, b2_f]
      rcases nm46 (n := n) (l1 := nI (24 * b + f)) (l2 := 0) (l3 := 0) (G := spG k) (fun w s => spG_brk) n2 hL1 h41 hb hc1 hc2 hn with ⟨X2, e, z1, z2, z3⟩ | ⟨X3, ts3, w, s, z1, z2, z3, z4, z5, z6, z7, z8, z9, z10, z11, z12⟩
      · rw [z1, z3]
        exact ⟨_, X2, rfl, z2⟩
      · rw [z1, z4]
        obtain ⟨v, X4, y1, y2⟩ := s109a (n := n) (l3 := 0) (nm := nI (1500 * b + c)) (sa := nI (1500 * b + (c + 1))) (q := spl.length) z9 (z10.trans h41) hb hf hq (hK3 z7 z11) z2 (by rw [cv_of (z11 42 (by decide) (by decide) (by decide))]; exact h421) hn
        exact ⟨v, X4, y1, PO_map (g := fun z : List (Int32 × Int32) × List Tk => (((w, s, z.1), z.2) : Spl × List Tk)) y2 (fun _ => rfl) (fun x _ h => hend z7 z11 z10 z5 z6 z8 z12 h)⟩
    | true =>
      rw [if_neg (by decide), if_pos (show true = true from rfl), sRol_eq hq]
      by_cases hb2 : (hd (adv ts)).1 = 1
      · have h' := (ri_brk n2 hb2).1
        rw [if_neg (ri_flt h'), sf46 h' hn, sShr_brk _ hb2]
        exact ⟨_, X1, rfl, h'⟩
      · rw [if_pos (ri_hd n2 hb2).1]
        obtain ⟨v, X2, e1, e2⟩ := shr_ok (n := n) n2 hb2
        rw [e1]
        dsimp only [Option.bind_some]
        rcases e2 with ⟨e, e3, e4⟩ | ⟨e3, e4, e5, e6⟩
        · rw [ri_nextF e3]
          dsimp only [Option.bind_some]
          rw [sf46 e3 hn, e4]
          exact ⟨_, X2, rfl, e3⟩
        · subst e3
          subst e4
          obtain ⟨X5, m1, m2⟩ := ri_next n2 hn
          have hw5 := w190 m1
          rw [m1, e5]
          dsimp only [Option.bind_some]
          show ∃ v X1, gb230_46 n (nI (24 * b + f)) (b2 true) (hd (adv ts)).2.2.2 X5 = some (v, X1) ∧ PO _ X1 T fk _ (rb (sTake 2 (adv (adv ts))) fun w => rb (sTake 4 w.2) fun s => roG k (hd (adv ts)).2.2.2 w.1.2.2.1 s.1.2.2.1 s.2)
          rcases nm46 (n := n) (l1 := nI (24 * b + f)) (l2 := 1) (l3 := (hd (adv ts)).2.2.2) (G := roG k (hd (adv ts)).2.2.2) (fun w s => roG_brk) m2 (LN_of hL1 hw5) (by rw [hw5.1 4 rfl]; exact h41) hb (by rw [cv_of (hw5.2.2.1 1 rfl)]; exact hc1) hc2 hn with ⟨X6, e, z1, z2, z3⟩ | ⟨X3, ts3, w, s, z1, z2, z3, z4, z5, z6, z7, z8, z9, z10, z11, z12⟩
          · rw [show b2 true = 1 from rfl, z1, z3]
            exact ⟨_, X6, rfl, z2⟩
          · have z7' := SKa_tr (SKa_nx m1) z7
            have z11' : ∀ i, i ≠ 1 → i ≠ 2 → i ≠ 3 → X3.2.2 i = X2.2.2 i := fun i a1 a2 a3 => by rw [z11 i a1 a2 a3, nx_arr m1]
            have z10' : X3.1 4 = X2.1 4 := by rw [z10, hw5.1 4 rfl]
            rw [show b2 true = 1 from rfl, z1, z4]
            obtain ⟨v, X4, y1, y2⟩ := s109b (n := n) (l3 := (hd (adv ts)).2.2.2) (nm := nI (1500 * b + c)) (sa := nI (1500 * b + (c + 1))) (q := spl.length) z9 (z10'.trans h41) hb hf hq (hK3 z7' z11') z2 (by rw [cv_of (z11' 42 (by decide) (by decide) (by decide))]; exact h421) hn
            exact ⟨v, X4, y1, PO_map (g := fun z : List (Int32 × Int32) × List Tk => (((w, s, z.1), z.2) : Spl × List Tk)) y2 (fun _ => rfl) (fun x _ h => hend z7' z11' z10' z5 z6 z8 z12 h)⟩
theorem SrK_nx (hL : LN X) (e : g190 n X = some ((), X1)) : SrK X X1 b q := ⟨LN_of hL (w190 e), (w190 e).1 4 rfl, fun i _ _ => by rw [nx_arr e], fun _ _ _ _ _ _ => KP_nx e⟩
theorem i240 (h4 : X.1 4 = nI b) : (240 : Int32) * X.1 4 + nI q = nI (240 * b + q) := by
  rw [h4, show (240 : Int32) = nI 240 from rfl, nI_mul, nI_add]
/-- the cells of a new serve -/
def vX (X : zX) (b nv : Nat) (s v : Int32) : zX := up (up (up X 40 (240 * b + nv) s) 41 (240 * b + nv) v) 39 b (nI (nv + 1))
theorem sf229 {e : Er} {s v : Int32} (h : RI X T fk (.inl e)) : gb229_44 n l1 l2 s v X = some (0, X) := by
  unfold gb229_44
  rw [if_neg (ri_flt h)]
theorem e229 {s v : Int32} (hL : LN X) (h4 : X.1 4 = nI b) (hb : b ≤ 1) (h73 : X.1 73 = -1) (hv : cv X 39 b = nI nv) (hv2 : nv < 240) : gb229_44 n l1 l2 s v X = some (nI nv, vX X b nv s v) := by
  have hm : b < mln 39 := by show b < 2; omega
  unfold gb229_44
  rw [if_pos h73]
  refine rst (j := b) hL (by decide) hm (by omega) h4 ?_
  rw [hv]
  refine wst 240 nv hL h4 hb (by decide) rfl (by decide) hv2 rfl (by decide) (i240 h4) ?_
  refine wst 240 nv (LN_up hL) h4 hb (by decide) rfl (by decide) hv2 rfl (by decide) (i240 h4) ?_
  refine rst (j := b) (LN_up (LN_up hL)) (by decide) hm (by omega) h4 ?_
  rw [cv_ne (Or.inl (by decide)), cv_ne (Or.inl (by decide)), hv, nI_1]
  refine wst1 (LN_up (LN_up hL)) h4 hb (by decide) rfl rfl h4 ?_
  refine rst (j := b) (LN_up (LN_up (LN_up hL))) (by decide) hm (by omega) h4 ?_
  rw [cv_eq (LN_up (LN_up hL)) (by decide) hm, show (1 : Int32) = nI 1 from rfl, pk_sub (by omega)]
  rfl
/-- what readServe leaves -/
def SrvQ (X X1 : zX) (b c nv : Nat) (spl : List Spl) (v : Int32) (x : Srv × List Spl × List Tk) : Prop := v = nI nv ∧ cv X1 39 b = nI (nv + 1) ∧ SVR X1 b x.2.1.length (nv + 1) v x.1 ∧ SPS X1 b x.2.1 ∧ spl.length ≤ x.2.1.length ∧ (∃ c1, cv X1 1 b = nI c1 ∧ c1 + 2 * spl.length ≤ c + 2 * x.2.1.length) ∧ LN X1 ∧ X1.1 4 = X.1 4 ∧ (∀ i, 3 < i → i < 39 ∨ 48 < i → X1.2.2 i = X.2.2 i) ∧ ∀ ns nf nl nr ni, KP X X1 b (cn ns nf nl nr ni nv spl.length)
theorem vX_K {s v : Int32} (hL : LN X) (hb : b ≤ 1) (hv2 : nv < 240) : LN (vX X b nv s v) ∧ cv (vX X b nv s v) 39 b = nI (nv + 1) ∧ cv (vX X b nv s v) 40 (240 * b + nv) = s ∧ cv (vX X b nv s v) 41 (240 * b + nv) = v ∧ (∀ i, i < 39 ∨ 41 < i → (vX X b nv s v).2.2 i = X.2.2 i) ∧ KP X (vX X b nv s v) b (cn ns nf nl nr ni nv nq) := by
  refine ⟨LN_up (LN_up (LN_up hL)), ?_, ?_, ?_, fun i hi => ?_, KP_T (KP_T (KP_up (by decide) (Or.inl ?_)) (KP_up (by decide) (Or.inl ?_))) (KP_up (by decide) (Or.inl ?_))⟩
  · exact cv_eq (LN_up (LN_up hL)) (by decide) (by show b < 2; omega)
  · unfold vX
    rw [cv_ne (Or.inl (by decide)), cv_ne (Or.inl (by decide)), cv_eq hL (by decide) (by show _ < 480; omega)]
  · unfold vX
    rw [cv_ne (Or.inl (by decide)), cv_eq (LN_up hL) (by decide) (by show _ < 480; omega)]
  · unfold vX
    rw [up_row (by omega), up_row (by omega), up_row (by omega)]
  · show 240 * b + nv ≤ _; omega
  · show 240 * b + nv ≤ _; omega
  · show 1 * b + 0 ≤ _; omega
theorem vX_RI {s v : Int32} {r : RR (List Tk)} (h : RI X T fk r) : RI (vX X b nv s v) T fk r := RI_up (RI_up (RI_up h (by decide)) (by decide)) (by decide)
theorem vX_PO {α : Type} {tl : α → List Tk} {Q : α → Prop} {r : RR α} {s v : Int32} (h : PO tl X T fk Q r) : PO tl (vX X b nv s v) T fk Q r := PO_up (PO_up (PO_up h (by decide)) (by decide)) (by decide)
theorem po_cs {α : Type} {tl : α → List Tk} {Q : α → Prop} {r : RR α} (h : PO tl X1 T fk Q r) : (∃ e, RI X1 T fk (.inl e) ∧ ∀ (X' : zX) (Q' : α → Prop), RI X' T fk (.inl e) → PO tl X' T fk Q' r) ∨ ∃ x, r = .inr x ∧ (hd (tl x)).1 ≠ 1 ∧ RI X1 T fk (.inr (tl x)) ∧ Q x := by
  cases r with
  | inl e => exact Or.inl ⟨e, h, fun _ _ h => h⟩
  | inr x =>
    have h : if (hd (tl x)).1 = 1 then RI X1 T fk (.inl (1, (hd (tl x)).2.1)) else RI X1 T fk (.inr (tl x)) ∧ Q x := h
    by_cases hb : (hd (tl x)).1 = 1
    · rw [if_pos hb] at h
      exact Or.inl ⟨_, h, fun X' Q' h' => by show if (hd (tl x)).1 = 1 then _ else _; rw [if_pos hb]; exact h'⟩
    · rw [if_neg hb] at h
      exact Or.inr ⟨x, rfl, hb, h.1, h.2⟩
theorem srv_s {v : Int32} {r : RR (Spl × List Tk)} (hb : b ≤ 1) (h4 : X.1 4 = nI b) (hv : cv X 39 b = nI nv) (hv2 : nv < 240) (h : PO (fun x : Spl × List Tk => x.2) X1 T fk (SplQ X X1 b c spl v) r) : ∃ v1 X2, gb229_44 n l1 l2 v 0 X1 = some (v1, X2) ∧ PO (fun x : Srv × List Spl × List Tk => x.2.2) X2 T fk (SrvQ X X2 b c nv spl v1) (rb r fun x => .inr (.inr spl.length, spl ++ [x.1], x.2)) := by
  rcases po_cs h with ⟨e, e1, e2⟩ | ⟨x, e1, e2, e3, e4⟩
  · exact ⟨_, X1, sf229 e1, PO_map (tl := fun x : Spl × List Tk => x.2) (Q := fun _ => False) (g := fun x : Spl × List Tk => ((.inr spl.length, spl ++ [x.1], x.2) : Srv × List Spl × List Tk)) (e2 X1 _ e1) (fun _ => rfl) (fun _ _ h => h.elim)⟩
  · obtain ⟨h1, h2, h3, h5, h6, h7, h8, h9⟩ := e4
    subst h1
    obtain ⟨k1, k2, k3, k4, k5, _⟩ := vX_K (X := X1) (s := nI spl.length) (v := 0) (ns := 0) (nf := 0) (nl := 0) (nr := 0) (ni := 0) (nq := 0) h6 hb hv2
    refine ⟨_, vX X1 b nv (nI spl.length) 0, e229 h6 (h7.trans h4) hb (ri_hd e3 e2).1 (by rw [cv_of (h8 39 (by omega) (by omega))]; exact hv) hv2, ?_⟩
    rw [e1]
    refine PO_inr (tl := fun x : Srv × List Spl × List Tk => x.2.2) (x := (.inr spl.length, spl ++ [x.1], x.2)) (vX_RI e3) ?_
    have hl : (spl ++ [x.1]).length = spl.length + 1 := by rw [List.length_append]; rfl
    have hkp : ∀ ns nf nl nr ni nq, KP X1 (vX X1 b nv (nI spl.length) 0) b (cn ns nf nl nr ni nv nq) := fun ns nf nl nr ni nq => (vX_K (X := X1) (s := nI spl.length) (v := 0) (ns := ns) (nf := nf) (nl := nl) (nr := nr) (ni := ni) (nq := nq) h6 hb hv2).2.2.2.2.2
    refine ⟨rfl, k2, ⟨nv, by omega, rfl, by rw [hl]; omega, k3⟩, SPS_kp h3 (hkp 0 0 0 0 0 _) (cv_of (k5 42 (by omega))), by rw [hl]; omega, ⟨c + 2, by rw [cv_of (k5 1 (by omega))]; exact h5, by rw [hl]; omega⟩, k1, h7, fun i a1 a2 => (k5 i (by omega)).trans (h8 i a1 (by omega)), fun ns nf nl nr ni => KP_T (h9 ns nf nl nr ni nv) (hkp ns nf nl nr ni _)⟩
theorem srv_ok (hR : RI X T fk (.inr ts)) (hb1 : (hd ts).1 ≠ 1) (hL : LN X) (h4 : X.1 4 = nI b) (hb : b ≤ 1) (hf : f < 24) (hK : KND X b f k) (hS : SPS X b spl) (hc : cv X 1 b = nI c) (hc2 : c + 2 ≤ 1500) (hv : cv X 39 b = nI nv) (hv2 : nv < 240) (hn : 6002 ≤ n) : ∃ v X1, g229 n (nI (24 * b + f)) X = some (v, X1) ∧ PO (fun x : Srv × List Spl × List Tk => x.2.2) X1 T fk (SrvQ X X1 b c nv spl v) (sSrv0 k spl ts) := by
  unfold g229 sSrv0
  rw [isw_tok wk_77 hR hb1 hn]
  dsimp only [Option.bind_some]
  by_cases h27 : (hd ts).1 = 27
  · rw [show ((hd ts).1 == 27) = true by simpa using h27, if_neg (by decide), if_neg (by omega), if_pos h27]
    unfold gb229_27
    obtain ⟨v, X1, e1, e2⟩ := spl_ok (n := n) (roll := true) hR hb1 hL h4 hb hf hK hS hc hc2 hn
    rw [e1]
    dsimp only [Option.bind_some]
    exact srv_s hb h4 hv hv2 e2
  · rw [show ((hd ts).1 == 27) = false by simpa using h27, if_pos b2_f, isw_tok wk_79 hR hb1 hn]
    dsimp only [Option.bind_some]
    by_cases h26 : (hd ts).1 = 26
    · rw [show ((hd ts).1 == 26) = true by simpa using h26, if_neg (by decide), if_pos h26]
      unfold gb229_27
      obtain ⟨v, X1, e1, e2⟩ := spl_ok (n := n) (roll := false) hR hb1 hL h4 hb hf hK hS hc hc2 hn
      rw [e1]
      dsimp only [Option.bind_some]
      exact srv_s hb h4 hv hv2 e2
    · rw [show ((hd ts).1 == 26) = false by simpa using h26, if_pos b2_f, if_neg h26, if_neg h27]
      obtain ⟨v, X1, e1, e2⟩ := val_ok (n := n) hR hb1 hL hb hf hK hn
      have hw := w232 e1
      rw [e1]
      dsimp only [Option.bind_some]
      rcases po_cs e2 with ⟨e, z1, z2⟩ | ⟨x, z0, z1, z2, z3⟩
      · exact ⟨_, X1, sf229 z1, PO_map (tl := fun x : Int32 × List Tk => x.2) (Q := fun _ => False) (g := fun x : Int32 × List Tk => ((.inl x.1, spl, x.2) : Srv × List Spl × List Tk)) (z2 X1 _ z1) (fun _ => rfl) (fun _ _ h => h.elim)⟩
      · subst z3
        have hL1 := LN_of hL hw
        have e5 : X1.2.2 = X.2.2 := funext fun i => hw.2.2.1 i (by simp)
        obtain ⟨k1, k2, k3, k4, k5, _⟩ := vX_K (X := X1) (s := -1) (v := x.1) (ns := 0) (nf := 0) (nl := 0) (nr := 0) (ni := 0) (nq := 0) hL1 hb hv2
        have hkp : ∀ ns nf nl nr ni nq, KP X1 (vX X1 b nv (-1) x.1) b (cn ns nf nl nr ni nv nq) := fun ns nf nl nr ni nq => (vX_K (X := X1) (s := -1) (v := x.1) (ns := ns) (nf := nf) (nl := nl) (nr := nr) (ni := ni) (nq := nq) hL1 hb hv2).2.2.2.2.2
        refine ⟨_, vX X1 b nv (-1) x.1, e229 hL1 (by rw [hw.1 4 rfl]; exact h4) hb (ri_hd z2 z1).1 (by rw [cv_of (show X1.2.2 39 = X.2.2 39 by rw [e5])]; exact hv) hv2, ?_⟩
        rw [z0]
        refine PO_inr (tl := fun x : Srv × List Spl × List Tk => x.2.2) (x := (.inl x.1, spl, x.2)) (vX_RI z2) ?_
        exact ⟨rfl, k2, ⟨nv, by omega, rfl, k3, k4⟩, SPS_kp (SPS_kp (ns := 0) (nf := 0) (nl := 0) (nr := 0) (ni := 0) (nv := 0) hS (KP_arr e5) (cv_of (by rw [e5]))) (hkp 0 0 0 0 0 _) (cv_of (k5 42 (by omega))), Nat.le_refl _, ⟨c, by rw [cv_of (k5 1 (by omega)), cv_of (show X1.2.2 1 = X.2.2 1 by rw [e5])]; exact hc, Nat.le_refl _⟩, k1, hw.1 4 rfl, fun i a1 a2 => (k5 i (by omega)).trans (by rw [e5]), fun ns nf nl nr ni => KP_T (KP_arr e5) (hkp ns nf nl nr ni _)⟩
end
end ZSP6

/-! THE REFERENCE'S SPLITS: readSplit -/
section ZSP4
/-- what reading a split leaves as it was -/
def SpK (X X1 : zX) (b q : Nat) (nm sa : Int32) : Prop := LN X1 ∧ X1.1 4 = X.1 4 ∧ (∀ i, i < 42 ∨ 48 < i → X1.2.2 i = X.2.2 i) ∧ cv X1 42 b = nI (q + 1) ∧ cv X1 44 (100 * b + q) = nm ∧ cv X1 45 (100 * b + q) = sa ∧ (∀ i j, 43 ≤ i → i ≤ 46 → j ≠ 100 * b + q → cv X1 i j = cv X i j) ∧ ∀ i j, i = 47 ∨ i = 48 → j < 8 * (100 * b + q) ∨ 8 * (100 * b + q) + 8 ≤ j → cv X1 i j = cv X i j
def sX (X : zX) (b q : Nat) (l2 nm sa : Int32) : zX := up (up (up (up (up X 42 b (nI (q + 1))) 43 (100 * b + q) l2) 44 (100 * b + q) nm) 45 (100 * b + q) sa) 46 (100 * b + q) 0
section
variable {n : Nat} {X X1 X2 : zX} {b f q c : Nat} {T : List Int32} {fk : Int32} {ts : List Tk} {k : Nat × List (List Int32)} {sh : List (Int32 × Int32)} {l1 l2 l3 l4 s0 nm sa : Int32}
theorem PO_imp {α : Type} {tl : α → List Tk} {Q Q' : α → Prop} {r : RR α} (h : PO tl X1 T fk Q r) (hi : ∀ x, r = .inr x → Q x → Q' x) : PO tl X1 T fk Q' r := by
  cases r with
  | inl e => exact h
  | inr x =>
    have h : if (hd (tl x)).1 = 1 then RI X1 T fk (.inl (1, (hd (tl x)).2.1)) else RI X1 T fk (.inr (tl x)) ∧ Q x := h
    show if (hd (tl x)).1 = 1 then RI X1 T fk (.inl (1, (hd (tl x)).2.1)) else RI X1 T fk (.inr (tl x)) ∧ Q' x
    split
    · rename_i hh; rw [if_pos hh] at h; exact h
    · rename_i hh; rw [if_neg hh] at h; exact ⟨h.1, hi x rfl h.2⟩
theorem PO_map {α β : Type} {tl : α → List Tk} {tl' : β → List Tk} {Q : α → Prop} {Q' : β → Prop} {r : RR α} {g : α → β} (h : PO tl X1 T fk Q r) (hg : ∀ x, tl' (g x) = tl x) (hi : ∀ x, r = .inr x → Q x → Q' (g x)) : PO tl' X1 T fk Q' (rb r fun x => .inr (g x)) := by
  cases r with
  | inl e => exact h
  | inr x =>
    have h : if (hd (tl x)).1 = 1 then RI X1 T fk (.inl (1, (hd (tl x)).2.1)) else RI X1 T fk (.inr (tl x)) ∧ Q x := h
    show if (hd (tl' (g x))).1 = 1 then RI X1 T fk (.inl (1, (hd (tl' (g x))).2.1)) else RI X1 T fk (.inr (tl' (g x))) ∧ Q' (g x)
    rw [hg]
    split
    · rename_i hh; rw [if_pos hh] at h; exact h
    · rename_i hh; rw [if_neg hh] at h; exact ⟨h.1, hi x rfl h.2⟩
theorem sf109 {e : Er} (h : RI X T fk (.inl e)) : gb230_109 n l1 l2 l3 l4 s0 X = some (0, X) := by
  unfold gb230_109
  rw [ri_nextF h]
  dsimp only [Option.bind_some]
  rw [if_neg (ri_flt h)]
theorem sf90 {e : Er} {v : Int32} (h : RI X T fk (.inl e)) : gb230_90 n l1 l2 l3 l4 v X = some (0, X) := by
  unfold gb230_90
  rw [ri_needF h]
  dsimp only [Option.bind_some]
  rw [if_neg (ri_flt h), sf109 h]
theorem sf70 {e : Er} (h : RI X T fk (.inl e)) : gb230_70 n l1 l2 l3 s0 X = some (0, X) := by
  unfold gb230_70
  rw [ri_nextF h]
  dsimp only [Option.bind_some]
  split
  · exact sf90 h
  · exact sf90 h
theorem sf46 {e : Er} (h : RI X T fk (.inl e)) (hn : 6002 ≤ n) : gb230_46 n l1 l2 l3 X = some (0, X) := by
  obtain ⟨bb, eb⟩ := name_any h hn
  unfold gb230_46
  rw [eb]
  dsimp only [Option.bind_some]
  rw [ri_needF h]
  dsimp only [Option.bind_some]
  rw [if_neg (ri_flt h), sf70 h]
theorem sf19 {e : Er} (h : RI X T fk (.inl e)) (hn : 6002 ≤ n) : gb230_19 n l1 l2 X = some (0, X) := by
  unfold gb230_19
  rw [ri_nextF h]
  dsimp only [Option.bind_some]
  split
  · exact sf46 h hn
  · rw [if_neg (ri_flt h)]
    exact sf46 h hn
/-- name and salt -/
theorem nm46 {β : Type} {G : List Int32 → List Int32 → List Tk → RR β} (hG : ∀ w s, Brk (G w s)) (hR : RI X T fk (.inr ts)) (hL : LN X) (h4 : X.1 4 = nI b) (hb : b ≤ 1) (hc : cv X 1 b = nI c) (hc2 : c + 2 ≤ 1500) (hn : 6002 ≤ n) :
    (∃ X1 e, gb230_46 n l1 l2 l3 X = some (0, X1) ∧ RI X1 T fk (.inl e) ∧ (rb (sTake 2 ts) fun w => rb (sTake 4 w.2) fun s => G w.1.2.2.1 s.1.2.2.1 s.2) = .inl e) ∨
    (∃ X3 ts3 w s, gb230_46 n l1 l2 l3 X = gb230_109 n l1 l2 l3 (nI (1500 * b + c)) (nI (1500 * b + (c + 1))) X3 ∧ RI X3 T fk (.inr ts3) ∧ (hd ts3).1 ≠ 1 ∧ (rb (sTake 2 ts) fun w => rb (sTake 4 w.2) fun s => G w.1.2.2.1 s.1.2.2.1 s.2) = G w s (adv ts3) ∧ SW X3 b (nI (1500 * b + c)) w ∧ SW X3 b (nI (1500 * b + (c + 1))) s ∧ SKa b X X3 ∧ cv X3 1 b = nI (c + 2) ∧ LN X3 ∧ X3.1 4 = X.1 4 ∧ (∀ i, i ≠ 1 → i ≠ 2 → i ≠ 3 → X3.2.2 i = X.2.2 i) ∧ ∀ c ∈ s, dTxt c = true) := by
  by_cases hb1 : (hd ts).1 = 1
  · have h' := (ri_brk hR hb1).1
    exact Or.inl ⟨X, _, sf46 h' hn, h', by rw [sTake_brk (by decide) ts hb1]; rfl⟩
  · obtain ⟨a1, a2, a3, a4, a5, a6, a7⟩ := ri_hd hR hb1
    unfold gb230_46
    rw [name_tok hR hb1 hn]
    dsimp only [Option.bind_some]
    unfold sTake
    by_cases h2 : (hd ts).1 = 2
    · rw [show ((hd ts).1 == 2) = true by simpa using h2, need_t]
      dsimp only [Option.bind_some]
      rw [if_pos a1, if_pos h2]
      obtain ⟨X1, e1, e2, e3, e4, e5, e6, e7, e8⟩ := slot2 (n := n) hR (Or.inl ⟨hb1, by rw [h2]; rfl⟩) hL h4 hb hc (by omega) hn
      rw [e1]
      dsimp only [Option.bind_some]
      unfold gb230_70
      obtain ⟨X2, n1, n2⟩ := ri_next e2 hn
      rw [n1]
      dsimp only [Option.bind_some]
      have hw := w190 n1
      show (∃ X1 e, _ ∧ _ ∧ rb (if (hd (adv ts)).1 = 4 then .inr (hd (adv ts), adv (adv ts)) else .inl (sErr 2 (hd (adv ts)))) (fun s => G (hd ts).2.2.1 s.1.2.2.1 s.2) = .inl e) ∨ ∃ X3 ts3 w s, _ ∧ _ ∧ _ ∧ rb (if (hd (adv ts)).1 = 4 then .inr (hd (adv ts), adv (adv ts)) else .inl (sErr 2 (hd (adv ts)))) (fun s => G (hd ts).2.2.1 s.1.2.2.1 s.2) = _ ∧ _
      by_cases hb2 : (hd (adv ts)).1 = 1
      · have h' := (ri_brk n2 hb2).1
        left
        refine ⟨X2, _, ?_, h', ?_⟩
        · split
          · exact sf90 h'
          · exact sf90 h'
        · rw [if_neg (by omega), sErr_brk hb2]
          rfl
      · obtain ⟨c1, c2, c3, c4, c5, c6, c7⟩ := ri_hd n2 hb2
        by_cases h44 : (hd (adv ts)).1 = 4
        · rw [if_pos (by rw [c4, h44]; decide), if_pos h44]
          unfold gb230_90
          rw [need_1]
          dsimp only [Option.bind_some]
          rw [if_pos c1]
          obtain ⟨X3, y1, y2, y3, y4, y5, y6, y7, y8⟩ := slot2 (n := n) (c := c + 1) n2 (Or.inr h44) (LN_of e6 hw) (by rw [hw.1 4 rfl, e7]; exact h4) hb (by rw [cv_of (hw.2.2.1 1 rfl)]; exact e5) (by omega) hn
          rw [y1]
          dsimp only [Option.bind_some]
          have hsk : SKa b X1 X3 := SKa_tr (SKa_nx n1) y4
          right
          exact ⟨X3, adv ts, (hd ts).2.2.1, (hd (adv ts)).2.2.1, rfl, y2, hb2, rfl, SW_kp e3 hsk, y3, SKa_tr e4 hsk, y5, y6, by rw [y7, hw.1 4 rfl, e7], fun i h1 h2 h3 => by rw [y8 i h1 h2 h3, nx_arr n1, e8 i h1 h2 h3], (ri_text n2 h44).2.2.2⟩
        · rw [if_neg (by rw [c4]; exact kd_txt h44), if_neg h44]
          obtain ⟨X3, y1, y2⟩ := ri_need (n := n) (b := false) n2 hb2
          rw [if_neg (by decide)] at y2
          left
          refine ⟨X3, _, ?_, y2, rfl⟩
          unfold gb230_90
          rw [show (0 : Int32) = b2 false from rfl, y1]
          dsimp only [Option.bind_some]
          rw [if_neg (ri_flt y2), sf109 y2]
          rfl
    · rw [show ((hd ts).1 == 2) = false by simpa using h2, if_neg h2]
      obtain ⟨X3, y1, y2⟩ := ri_need (n := n) (b := false) hR hb1
      rw [if_neg (by decide)] at y2
      left
      refine ⟨X3, _, ?_, y2, rfl⟩
      rw [y1]
      dsimp only [Option.bind_some]
      rw [if_neg (ri_flt y2), sf70 y2]
theorem sX_LN (hL : LN X) : LN (sX X b q l2 nm sa) := LN_up (LN_up (LN_up (LN_up (LN_up hL))))
theorem sX_RI {r : RR (List Tk)} (h : RI X T fk r) : RI (sX X b q l2 nm sa) T fk r := RI_up (RI_up (RI_up (RI_up (RI_up h (by decide)) (by decide)) (by decide)) (by decide)) (by decide)
theorem up_row {i j i' : Nat} {v : Int32} (h : i' ≠ i) : (up X i j v).2.2 i' = X.2.2 i' := by
  unfold up
  rw [xA_3, if_neg h]
theorem sX_K (hL : LN X) (hb : b ≤ 1) (hq : q < 100) : SpK X (sX X b q l2 nm sa) b q nm sa ∧ cv (sX X b q l2 nm sa) 46 (100 * b + q) = 0 := by
  refine ⟨⟨sX_LN hL, rfl, fun i hi => ?_, ?_, ?_, ?_, fun i j h1 h2 h3 => ?_, fun i j h1 h2 => ?_⟩, ?_⟩
  · unfold sX
    rw [up_row (by omega), up_row (by omega), up_row (by omega), up_row (by omega), up_row (by omega)]
  · unfold sX
    rw [cv_ne (Or.inl (by decide)), cv_ne (Or.inl (by decide)), cv_ne (Or.inl (by decide)), cv_ne (Or.inl (by decide)), cv_eq hL (by decide) (by show b < 2; omega)]
  · unfold sX
    rw [cv_ne (Or.inl (by decide)), cv_ne (Or.inl (by decide)), cv_eq (LN_up (LN_up hL)) (by decide) (by show _ < 200; omega)]
  · unfold sX
    rw [cv_ne (Or.inl (by decide)), cv_eq (LN_up (LN_up (LN_up hL))) (by decide) (by show _ < 200; omega)]
  · unfold sX
    rw [cv_ne (by omega), cv_ne (by omega), cv_ne (by omega), cv_ne (by omega), cv_ne (by omega)]
  · unfold sX
    rw [cv_ne (by omega), cv_ne (by omega), cv_ne (by omega), cv_ne (by omega), cv_ne (by omega)]
  · unfold sX
    rw [cv_eq (LN_up (LN_up (LN_up (LN_up hL)))) (by decide) (by show _ < 200; omega)]
theorem SpK_Lp (h : SpK X X1 b q nm sa) (hk : LpK X1 X2 b q) : SpK X X2 b q nm sa := by
  obtain ⟨h1, h2, h3, h4, h5, h6, h7, h8⟩ := h
  refine ⟨hk.2.1, hk.1.trans h2, fun i hi => (hk.2.2.1 i (by omega) (by omega) (by omega)).trans (h3 i hi), ?_, ?_, ?_, fun i j a1 a2 a3 => ?_, fun i j a1 a2 => (hk.2.2.2.2 i j a1 a2).trans (h8 i j a1 a2)⟩
  · rw [cv_of (hk.2.2.1 42 (by omega) (by omega) (by omega))]; exact h4
  · rw [cv_of (hk.2.2.1 44 (by omega) (by omega) (by omega))]; exact h5
  · rw [cv_of (hk.2.2.1 45 (by omega) (by omega) (by omega))]; exact h6
  · by_cases q1 : i = 46
    · rw [q1] at a1 a2 ⊢
      exact (hk.2.2.2.1 j a3).trans (h7 46 j a1 a2 a3)
    · rw [cv_of (hk.2.2.1 i q1 (by omega) (by omega))]; exact h7 i j a1 a2 a3
theorem SpK_sk (h : SpK X X1 b q nm sa) : SKa b X X1 := SKa_of (h.2.2.1 1 (by omega)) (h.2.2.1 2 (by omega)) (h.2.2.1 3 (by omega))
theorem SpK_kp {ns nf nl nr ni nv : Nat} (h : SpK X X1 b q nm sa) : KP X X1 b (cn ns nf nl nr ni nv q) := by
  refine ⟨SpK_sk h, fun i j h1 h2 => ?_⟩
  by_cases q0 : i < 42 ∨ 48 < i
  · exact cv_of (h.2.2.1 i q0)
  · by_cases q1 : i = 42
    · subst q1
      have h2 : j < 1 * b + 0 := h2
      have h1 : 1 * b ≤ j := h1
      omega
    · by_cases q2 : i ≤ 46
      · have hc : mH i = 100 ∧ cn ns nf nl nr ni nv q i = q := by
          have : i = 43 ∨ i = 44 ∨ i = 45 ∨ i = 46 := by omega
          rcases this with rfl | rfl | rfl | rfl <;> exact ⟨rfl, rfl⟩
        rw [hc.1, hc.2] at h2
        exact h.2.2.2.2.2.2.1 i j (by omega) q2 (by omega)
      · have hc : mH i = 800 ∧ cn ns nf nl nr ni nv q i = 8 * q := by
          have : i = 47 ∨ i = 48 := by omega
          rcases this with rfl | rfl <;> exact ⟨rfl, rfl⟩
        rw [hc.1, hc.2] at h2
        exact h.2.2.2.2.2.2.2 i j (by omega) (by omega)
theorem sShL_brk {j : Nat} : Brk (sShL k (j + 1) sh) := by
  intro ts hb
  unfold sShL
  rw [sShr_brk ts hb]
  rfl
/-- the shares -/
theorem spB (hL : LN X) (h4 : X.1 4 = nI b) (hb : b ≤ 1) (hf : f < 24) (hq : q < 100) (hK : KND X b f k) (hR : RI X T fk (.inr ts)) (hn : 6002 ≤ n) : ∃ v X1, ((g208 n 40 (sX X b q l2 nm sa)).bind fun p30 => gf230_301 n n (nI (24 * b + f)) l2 l3 nm sa (nI q) (nI (100 * b + q)) 0 1 p30.2) = some (v, X1) ∧ PO (fun x : List (Int32 × Int32) × List Tk => x.2) X1 T fk (fun x => v = nI q ∧ 1 ≤ x.1.length ∧ x.1.length ≤ 8 ∧ SHc X1 b q x.1 ∧ SpK X X1 b q nm sa) (rb (sEat 7 ts) fun ts => rb (sShL k 9 [] ts) spFin) := by
  obtain ⟨k1, k2⟩ := sX_K (l2 := l2) (nm := nm) (sa := sa) hL hb hq
  obtain ⟨X6, p1, p2⟩ := ri_eat (n := n) (c := 40) (s := 7) rfl (by decide) (sX_RI (b := b) (q := q) (l2 := l2) (nm := nm) (sa := sa) hR) hn
  have p2 : RI X6 T fk (sEat 7 ts) := p2
  have hw := w208 p1
  rw [p1]
  dsimp only [Option.bind_some]
  have hk6 : LpK (sX X b q l2 nm sa) X6 b q := LpK_w (sX_LN hL) hw (hw.1 4 rfl)
  have hK6 : KND X6 b f k := KND_LpK (KND_kp (nf := f + 1) (ns := 0) (nl := 0) (nr := 0) (ni := 0) (nv := 0) hK (SpK_kp k1) (by omega)) hk6
  rcases ri_el (f := fun ts => rb (sShL k 9 [] ts) spFin) p2 (Brk_rb (f := fun ts => sShL k 9 [] ts) (fun ts hb => sShL_brk ts hb)) with ⟨e, z1, z2⟩ | ⟨ts3, z0, z1, z2, z3⟩
  · rw [z2]
    exact ⟨_, X6, lpF z1 (by omega), z1⟩
  · rw [z3]
    obtain ⟨v, X1, e1, e2⟩ := lp230 (k := k) (l2 := l2) (l3 := l3) (l4 := nm) (l5 := sa) (T := T) (fk := fk) hb hf hq hn 9 n [] ts3 (X := X6) rfl (by decide) (by omega) hk6.2.1 (hk6.1.trans h4) hK6 ⟨by rw [cv_of (hw.2.2.1 46 rfl)]; exact k2, fun i x hx => by cases hx⟩ z2
    refine ⟨v, X1, e1, PO_imp e2 (fun x _ h => ⟨h.1, h.2.1, h.2.2.1, h.2.2.2.1, SpK_Lp (SpK_Lp k1 hk6) h.2.2.2.2⟩)⟩
theorem s109a (hL : LN X) (h4 : X.1 4 = nI b) (hb : b ≤ 1) (hf : f < 24) (hq : q < 100) (hK : KND X b f k) (hR : RI X T fk (.inr ts)) (h42 : cv X 42 b = nI q) (hn : 6002 ≤ n) : ∃ v X1, gb230_109 n (nI (24 * b + f)) 0 l3 nm sa X = some (v, X1) ∧ PO (fun x : List (Int32 × Int32) × List Tk => x.2) X1 T fk (fun x => v = nI q ∧ 1 ≤ x.1.length ∧ x.1.length ≤ 8 ∧ SHc X1 b q x.1 ∧ SpK X X1 b q nm sa) (rb (sEat 7 (adv ts)) fun ts => rb (sShL k 9 [] ts) spFin) := by
  obtain ⟨X1, n1, n2⟩ := ri_next hR hn
  have hw := w190 n1
  have hL1 := LN_of hL hw
  have h41 : X1.1 4 = nI b := by rw [hw.1 4 rfl]; exact h4
  have h421 : cv X1 42 b = nI q := by rw [cv_of (hw.2.2.1 42 rfl)]; exact h42
  have hk1 : LpK X X1 b q := LpK_nx hL n1
  unfold gb230_109
  rw [n1]
  dsimp only [Option.bind_some]
  by_cases hb1 : (hd (adv ts)).1 = 1
  · have h' := (ri_brk n2 hb1).1
    rw [if_neg (ri_flt h'), sEat_brk (by decide) _ hb1]
    exact ⟨_, X1, rfl, h'⟩
  · rw [if_pos (ri_hd n2 hb1).1]
    obtain ⟨v, X2, e1, e2⟩ := spB (n := n) (l2 := 0) (l3 := l3) (nm := nm) (sa := sa) hL1 h41 hb hf hq (KND_LpK hK hk1) n2 hn
    refine ⟨v, X2, ?_, PO_imp e2 (fun x _ h => ⟨h.1, h.2.1, h.2.2.1, h.2.2.2.1, ?_⟩)⟩
    · have hm : b < mln 42 := by show b < 2; omega
      refine rst (j := b) hL1 (by decide) hm (by omega) h41 ?_
      rw [h421]
      refine rst (j := b) hL1 (by decide) hm (by omega) h41 ?_
      rw [h421, nI_1]
      refine wst1 hL1 h41 hb (by decide) rfl rfl h41 ?_
      refine wst 100 q (LN_up hL1) h41 hb (by decide) rfl (by decide) hq rfl (by decide) (i100 h41) ?_
      refine wst 100 q (LN_up (LN_up hL1)) h41 hb (by decide) rfl (by decide) hq rfl (by decide) (i100 h41) ?_
      refine wst 100 q (LN_up (LN_up (LN_up hL1))) h41 hb (by decide) rfl (by decide) hq rfl (by decide) (i100 h41) ?_
      refine wst 100 q (LN_up (LN_up (LN_up (LN_up hL1)))) h41 hb (by decide) rfl (by decide) hq rfl (by decide) (i100 h41) ?_
      rw [if_pos rfl, i100 h41]
      exact e1
    · obtain ⟨g1, g2, g3, g4, g5, g6, g7, g8⟩ := h.2.2.2.2
      exact ⟨g1, g2.trans hk1.1, fun i hi => (g3 i hi).trans (hk1.2.2.1 i (by omega) (by omega) (by omega)), g4, g5, g6, fun i j a1 a2 a3 => (g7 i j a1 a2 a3).trans (cv_of (by rw [nx_arr n1])), fun i j a1 a2 => (g8 i j a1 a2).trans (cv_of (by rw [nx_arr n1]))⟩
end
end ZSP4

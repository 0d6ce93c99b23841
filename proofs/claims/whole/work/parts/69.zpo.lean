/-! THE REFERENCE'S PLAN: what is kept, values, shares -/
section ZPO
/-- the broken head is a fault already -/
def PO {α : Type} (tl : α → List Tk) (X1 : zX) (T : List Int32) (fk : Int32) (Q : α → Prop) (r : RR α) : Prop := match r with
  | .inl e => RI X1 T fk (.inl e)
  | .inr x => if (hd (tl x)).1 = 1 then RI X1 T fk (.inl (1, (hd (tl x)).2.1)) else RI X1 T fk (.inr (tl x)) ∧ Q x
/-- a reading that fails at a broken head -/
def Brk {α : Type} (f : List Tk → RR α) : Prop := ∀ ts, (hd ts).1 = 1 → f ts = .inl (1, (hd ts).2.1)
/-- a slot's number that holds w -/
def SW (X : zX) (b : Nat) (v : Int32) (w : List Int32) : Prop := ∃ s, v = nI s ∧ sl X b s ∧ SLT X s w
def NML (X : zX) (b i base : Nat) (names : List (List Int32)) : Prop := ∀ k w, names[k]? = some w → SW X b (cv X i (base + k)) w
def KND (X : zX) (b f : Nat) (k : Nat × List (List Int32)) : Prop := cv X 11 (24 * b + f) = nI k.1 ∧ k.1 ≤ 2 ∧ cv X 12 (24 * b + f) = nI k.2.length ∧ k.2.length ≤ 8 ∧ NML X b 13 (8 * (24 * b + f)) k.2
/-- how many cells of a row are in use in a bank -/
def cn (ns nf nl nr ni nv nq : Nat) (i : Nat) : Nat := if i < 5 then 0 else if i < 9 then ns else if i < 10 then 0 else if i < 13 then nf else if i < 14 then 8 * nf else if i < 17 then nf else if i < 25 then 4 * nf else if i < 26 then 0 else if i < 28 then nl else if i < 29 then 0 else if i < 35 then nr else if i < 36 then 0 else if i < 39 then ni else if i < 40 then 0 else if i < 42 then nv else if i < 43 then 0 else if i < 47 then nq else if i < 49 then 8 * nq else 0
/-- the cells in use and the slots are kept -/
def KP (X X1 : zX) (b : Nat) (c : Nat → Nat) : Prop := SKa b X X1 ∧ ∀ i j, mH i * b ≤ j → j < mH i * b + c i → cv X1 i j = cv X i j
section
variable {n : Nat} {X X1 X2 : zX} {b m p fm cb : Nat} {T : List Int32} {fk : Int32} {ts : List Tk} {r : RR (List Tk)} {c : Nat → Nat}
theorem PO_inr {α : Type} {tl : α → List Tk} {Q : α → Prop} {x : α} (h : RI X1 T fk (.inr (tl x))) (hq : Q x) : PO tl X1 T fk Q (.inr x) := by
  show if (hd (tl x)).1 = 1 then _ else _
  split
  · rename_i hb
    exact (ri_brk h hb).1
  · exact ⟨h, hq⟩
theorem po_el {α β : Type} {tl : α → List Tk} {Q : α → Prop} {r : RR α} {f : α → RR β} (h : PO tl X1 T fk Q r) (hf : ∀ x, (hd (tl x)).1 = 1 → f x = .inl (1, (hd (tl x)).2.1)) : (∃ e, RI X1 T fk (.inl e) ∧ rb r f = .inl e) ∨ ∃ x, r = .inr x ∧ (hd (tl x)).1 ≠ 1 ∧ RI X1 T fk (.inr (tl x)) ∧ Q x ∧ rb r f = f x := by
  cases r with
  | inl e => exact Or.inl ⟨e, h, rfl⟩
  | inr x =>
    have h : if (hd (tl x)).1 = 1 then RI X1 T fk (.inl (1, (hd (tl x)).2.1)) else RI X1 T fk (.inr (tl x)) ∧ Q x := h
    by_cases hb : (hd (tl x)).1 = 1
    · rw [if_pos hb] at h
      exact Or.inl ⟨_, h, hf x hb⟩
    · rw [if_neg hb] at h
      exact Or.inr ⟨x, rfl, hb, h.1, h.2, rfl⟩
theorem ri_el {β : Type} {f : List Tk → RR β} (h : RI X1 T fk r) (hf : Brk f) : (∃ e, RI X1 T fk (.inl e) ∧ rb r f = .inl e) ∨ ∃ ts, r = .inr ts ∧ (hd ts).1 ≠ 1 ∧ RI X1 T fk (.inr ts) ∧ rb r f = f ts := by
  cases r with
  | inl e => exact Or.inl ⟨e, h, rfl⟩
  | inr ts =>
    by_cases hb : (hd ts).1 = 1
    · exact Or.inl ⟨_, (ri_brk h hb).1, hf ts hb⟩
    · exact Or.inr ⟨ts, rfl, hb, h, rfl⟩
theorem sErr_brk {k : Int32} {t : Tk} (h : t.1 = 1) : sErr k t = (1, t.2.1) := by unfold sErr; rw [if_pos h]
theorem sTake_brk {s : Nat} (hs : s ≠ 1) : Brk (sTake s) := by
  intro ts hb
  unfold sTake
  rw [if_neg (by omega), sErr_brk hb]
theorem Brk_rb {α β : Type} {f : List Tk → RR α} {g : α → RR β} (h : Brk f) : Brk (fun ts => rb (f ts) g) := by
  intro ts hb
  show rb (f ts) g = _
  rw [h ts hb]
  rfl
theorem sEat_brk {s : Nat} (hs : s ≠ 1) : Brk (sEat s) := Brk_rb (sTake_brk hs)
theorem sNew_brk {names : List (List Int32)} : Brk (sNew names) := Brk_rb (sTake_brk (by decide))
theorem sKnw_brk {names : List (List Int32)} : Brk (sKnw names) := Brk_rb (sTake_brk (by decide))
theorem wth_brk {k : Nat × List (List Int32)} {t : Tk} (h : t.1 = 1) : wth k t = none := by
  unfold wth
  rw [h]
  repeat (split; rfl)
  rfl
theorem sVal_brk {k : Nat × List (List Int32)} : Brk (sVal k) := by
  intro ts hb
  unfold sVal
  rw [wth_brk hb, sErr_brk hb]
theorem sShr_brk {full : Bool} : Brk (sShr full) := Brk_rb (sTake_brk (by decide))
/-! what is kept -/
theorem KP_R : KP X X b c := ⟨fun _ _ a d => ⟨a, d⟩, fun _ _ _ _ => rfl⟩
theorem KP_T (h1 : KP X X1 b c) (h2 : KP X1 X2 b c) : KP X X2 b c := ⟨SKa_tr h1.1 h2.1, fun i j a d => (h2.2 i j a d).trans (h1.2 i j a d)⟩
theorem KP_M {c' : Nat → Nat} (h : KP X X1 b c) (hc : ∀ i, c' i ≤ c i) : KP X X1 b c' := ⟨h.1, fun i j a d => h.2 i j a (by have := hc i; omega)⟩
theorem KP_up {i j : Nat} {v : Int32} (hi : 3 < i) (hj : mH i * b + c i ≤ j ∨ j < mH i * b) : KP X (up X i j v) b c := by
  refine ⟨SKa_up (by omega) (by omega) (by omega), fun i' j' h1 h2 => ?_⟩
  by_cases q : i' = i
  · rw [q] at h1 h2
    exact cv_ne (by omega)
  · exact cv_ne (Or.inl q)
theorem KP_arr (h : X1.2.2 = X.2.2) : KP X X1 b c := ⟨SKa_of (by rw [h]) (by rw [h]) (by rw [h]), fun i j _ _ => cv_of (by rw [h])⟩
theorem KP_nx (e : g190 n X = some ((), X1)) : KP X X1 b c := KP_arr (nx_arr e)
/-- a step that leaves the plan's rows alone -/
theorem KP_w {wf wa : Nat} {ns nf nl nr ni nv nq : Nat} (hw : fr wf wa X X1) (hs : SKa b X X1) (ha : ∀ i : Fin 49, 5 ≤ i.1 → wa.testBit i.1 = false) : KP X X1 b (cn ns nf nl nr ni nv nq) := by
  refine ⟨hs, fun i j h1 h2 => cv_of (hw.2.2.1 i ?_)⟩
  by_cases q : i < 5
  · unfold cn at h2
    rw [if_pos q] at h2
    omega
  · by_cases q2 : i < 49
    · exact ha ⟨i, q2⟩ (by show 5 ≤ i; omega)
    · unfold cn at h2
      rw [if_neg (by omega), if_neg (by omega), if_neg (by omega), if_neg (by omega), if_neg (by omega), if_neg (by omega), if_neg (by omega), if_neg (by omega), if_neg (by omega), if_neg (by omega), if_neg (by omega), if_neg (by omega), if_neg (by omega), if_neg (by omega), if_neg (by omega), if_neg (by omega), if_neg (by omega), if_neg (by omega)] at h2
      omega
theorem SW_kp {v : Int32} {w : List Int32} (h : SW X b v w) (hk : SKa b X X1) : SW X1 b v w := by
  obtain ⟨s, h1, h2, h3⟩ := h
  exact ⟨s, h1, (hk s w h2 h3).1, (hk s w h2 h3).2⟩
theorem NML_kp {i base : Nat} {names : List (List Int32)} (h : NML X b i base names) (hk : SKa b X X1) (hc : ∀ k, k < names.length → cv X1 i (base + k) = cv X i (base + k)) : NML X1 b i base names := by
  intro k w hw
  rw [hc k (List.getElem?_eq_some_iff.mp hw).1]
  exact SW_kp (h k w hw) hk
theorem NML_NMS {i base : Nat} {names : List (List Int32)} (h : NML X b i base names) (hL : LN X) (hb : b ≤ 1) (hi : i < 71) (hl : base + names.length ≤ mln i) : NMS X i base names := by
  intro k w hk
  obtain ⟨s, s1, s2, s3⟩ := h k w hk
  have hkl := (List.getElem?_eq_some_iff.mp hk).1
  refine ⟨s, ?_, ?_, s3⟩
  · have := ce_cv (X := X) (i := i) (j := base + k) hL hi (by omega)
    rw [s1] at this
    exact this
  · obtain ⟨c, _, k2, k3, k4⟩ := s2
    omega
theorem KND_kp {ns nf nl nr ni nv nq f : Nat} {k : Nat × List (List Int32)} (h : KND X b f k) (hk : KP X X1 b (cn ns nf nl nr ni nv nq)) (hf : f < nf) : KND X1 b f k := by
  obtain ⟨h1, h2, h3, h4, h5⟩ := h
  refine ⟨?_, h2, ?_, h4, NML_kp h5 hk.1 (fun q hq => ?_)⟩
  · rw [hk.2 11 _ (by show 24 * b ≤ 24 * b + f; omega) (by show 24 * b + f < 24 * b + nf; omega)]; exact h1
  · rw [hk.2 12 _ (by show 24 * b ≤ 24 * b + f; omega) (by show 24 * b + f < 24 * b + nf; omega)]; exact h3
  · exact hk.2 13 _ (by show 192 * b ≤ _; omega) (by show _ < 192 * b + 8 * nf; omega)
theorem kd_num {s : Nat} (h : s ≠ 3) : kdO s ≠ 2 := by
  unfold kdO
  (repeat' split) <;> first | decide | omega
theorem kd_txt {s : Nat} (h : s ≠ 4) : kdO s ≠ 3 := by
  unfold kdO
  (repeat' split) <;> first | decide | omega
theorem kd_arr {s : Nat} (h : s ≠ 13) : kdO s ≠ 6 := by
  unfold kdO
  (repeat' split) <;> first | decide | omega
theorem kd_end {s : Nat} (h : s ≠ 0) : kdO s ≠ 5 := by
  unfold kdO
  (repeat' split) <;> first | decide | omega
/-! a value -/
theorem vend {l1 v : Int32} (h : RI X T fk (.inr ts)) (hn : 6002 ≤ n) : ∃ X1, gb232_146 n l1 v X = some (v, X1) ∧ RI X1 T fk (.inr (adv ts)) := by
  obtain ⟨X1, e1, e2⟩ := ri_next h hn
  exact ⟨X1, by unfold gb232_146; rw [e1]; rfl, e2⟩
theorem vendF {l1 v : Int32} {e : Er} (h : RI X T fk (.inl e)) : gb232_146 n l1 v X = some (v, X) := by
  unfold gb232_146
  rw [ri_nextF h]
  rfl
theorem val_ok {f : Nat} {k : Nat × List (List Int32)} (hR : RI X T fk (.inr ts)) (hb1 : (hd ts).1 ≠ 1) (hL : LN X) (hb : b ≤ 1) (hf : f < 24) (hK : KND X b f k) (hn : 6002 ≤ n) : ∃ v X1, g232 n (nI (24 * b + f)) X = some (v, X1) ∧ PO (fun x : Int32 × List Tk => x.2) X1 T fk (fun x => v = x.1) (sVal k ts) := by
  obtain ⟨k1, k2, k3, k4, k5⟩ := hK
  obtain ⟨a1, a2, a3, a4, a5, a6, a7⟩ := ri_hd hR hb1
  have good : ∀ (l1 v : Int32), wth k (hd ts) = some v → ∃ w X1, gb232_146 n l1 v X = some (w, X1) ∧ PO (fun x : Int32 × List Tk => x.2) X1 T fk (fun x => w = x.1) (sVal k ts) := by
    intro l1 v hv
    obtain ⟨X1, e1, e2⟩ := vend (l1 := l1) (v := v) hR hn
    unfold sVal
    rw [hv]
    exact ⟨v, X1, e1, PO_inr (tl := fun x : Int32 × List Tk => x.2) (x := (v, adv ts)) e2 rfl⟩
  have bad : ∀ (l1 : Int32), wth k (hd ts) = none → ∃ X1, g200 n 0 X = some ((), X1) ∧ RI X1 T fk (.inl (sErr 2 (hd ts))) ∧ sVal k ts = .inl (sErr 2 (hd ts)) := by
    intro l1 hv
    obtain ⟨X1, e1, e2⟩ := ri_need (n := n) (b := false) hR hb1
    rw [if_neg (by decide)] at e2
    exact ⟨X1, e1, e2, by unfold sVal; rw [hv]⟩
  unfold g232
  rw [rd_cv (j := 24 * b + f) hL (by decide) (by show _ < 48; omega) (by omega), k1]
  dsimp only [Option.bind_some]
  by_cases h0 : k.1 = 0
  · rw [if_pos (by rw [h0]; rfl), isw_tok wk_83 hR hb1 hn]
    dsimp only [Option.bind_some]
    by_cases h33 : (hd ts).1 = 33
    · rw [show ((hd ts).1 == 33) = true by simpa using h33, if_neg (by decide)]
      unfold gb232_32 gb232_37 gb232_55
      rw [need_1]
      dsimp only [Option.bind_some]
      rw [isw_tok wk_83 hR hb1 hn]
      dsimp only [Option.bind_some]
      rw [show ((hd ts).1 == 33) = true by simpa using h33, if_neg (by decide)]
      exact good _ _ (by unfold wth; rw [if_pos h0, if_pos h33])
    · rw [show ((hd ts).1 == 33) = false by simpa using h33, if_pos b2_f, isw_tok wk_85 hR hb1 hn]
      dsimp only [Option.bind_some]
      by_cases h34 : (hd ts).1 = 34
      · rw [show ((hd ts).1 == 34) = true by simpa using h34, if_neg (by decide)]
        unfold gb232_32 gb232_37 gb232_55
        rw [need_1]
        dsimp only [Option.bind_some]
        rw [isw_tok wk_83 hR hb1 hn]
        dsimp only [Option.bind_some]
        rw [show ((hd ts).1 == 33) = false by simpa using h33, if_pos b2_f]
        exact good _ _ (by unfold wth; rw [if_pos h0, if_neg h33, if_pos h34])
      · rw [show ((hd ts).1 == 34) = false by simpa using h34, if_pos b2_f]
        obtain ⟨X1, e1, e2, e3⟩ := bad 0 (by unfold wth; rw [if_pos h0, if_neg h33, if_neg h34])
        unfold gb232_37 gb232_55
        rw [e1, e3]
        dsimp only [Option.bind_some]
        obtain ⟨v, ev⟩ := isw_any wk_83 e2 hn
        rw [ev]
        dsimp only [Option.bind_some]
        split
        · exact ⟨_, X1, vendF (l1 := nI (24 * b + f)) e2, e2⟩
        · exact ⟨_, X1, vendF (l1 := nI (24 * b + f)) e2, e2⟩
  · rw [if_neg (by rw [show (0 : Int32) = nI 0 from rfl, nI_eq (by omega) (by omega)]; exact h0)]
    by_cases h1 : k.1 = 1
    · rw [if_pos (by rw [h1]; rfl)]
      by_cases h3 : (hd ts).1 = 3
      · rw [if_pos (by rw [a4, h3]; decide)]
        unfold gb232_83
        rw [need_1]
        dsimp only [Option.bind_some]
        rw [a5 h3]
        exact good _ _ (by unfold wth; rw [if_neg h0, if_pos h1, if_pos h3])
      · obtain ⟨X1, e1, e2, e3⟩ := bad 0 (by unfold wth; rw [if_neg h0, if_pos h1, if_neg h3])
        rw [if_neg (by rw [a4]; exact kd_num h3)]
        unfold gb232_83
        rw [e1, e3]
        dsimp only [Option.bind_some]
        exact ⟨_, X1, vendF (l1 := nI (24 * b + f)) e2, e2⟩
    · rw [if_neg (by rw [show (1 : Int32) = nI 1 from rfl, nI_eq (by omega) (by omega)]; exact h1), name_tok hR hb1 hn]
      dsimp only [Option.bind_some]
      by_cases h2 : (hd ts).1 = 2
      · have hk : kdO (hd ts).1 = 1 := by rw [h2]; rfl
        obtain ⟨e1, e2, e3, e4⟩ := ri_word hR hb1 hk
        rw [show ((hd ts).1 == 2) = true by simpa using h2, if_neg (by decide), rd_cv (j := 24 * b + f) hL (by decide) (by show _ < 48; omega) (by omega), k3]
        dsimp only [Option.bind_some]
        rw [show (8 : Int32) = nI 8 from rfl, nI_mul, a3, a6 (Or.inl hk), fnd_ok (NML_NMS k5 hL hb (by decide) (by show _ ≤ 384; omega)) (by decide) (by omega) (by omega) hR.1 e3 hn, ← e2]
        dsimp only [Option.bind_some]
        unfold gb232_131
        cases hf : fnd k.2 (hd ts).2.2.1 with
        | some j =>
          have hj : j < k.2.length := by
            unfold fnd at hf
            exact (List.findIdx?_eq_some_iff_getElem.mp hf).1
          dsimp only
          rw [if_neg (nI_m1 (by omega))]
          unfold gb232_143
          rw [need_1]
          exact good (nI (24 * b + f)) _ (by unfold wth; rw [if_neg h0, if_neg h1, if_pos h2, hf]; rfl)
        | none =>
          dsimp only
          rw [if_pos rfl]
          obtain ⟨X1, e1, e2, e3⟩ := bad 0 (by unfold wth; rw [if_neg h0, if_neg h1, if_pos h2, hf]; rfl)
          unfold gb232_143
          rw [e1, e3]
          exact ⟨_, X1, vendF (l1 := nI (24 * b + f)) e2, e2⟩
      · rw [show ((hd ts).1 == 2) = false by simpa using h2, if_pos b2_f]
        obtain ⟨X1, e1, e2, e3⟩ := bad 0 (by unfold wth; rw [if_neg h0, if_neg h1, if_neg h2])
        unfold gb232_131
        rw [if_pos rfl]
        unfold gb232_143
        rw [e1, e3]
        exact ⟨_, X1, vendF (l1 := nI (24 * b + f)) e2, e2⟩
/-! a slot, a share -/
theorem slot2 {c : Nat} (hR : RI X T fk (.inr ts)) (hk : (hd ts).1 ≠ 1 ∧ kdO (hd ts).1 = 1 ∨ (hd ts).1 = 4) (hL : LN X) (h4 : X.1 4 = nI b) (hb : b ≤ 1) (hc : cv X 1 b = nI c) (hc2 : c < 1500) (hn : 6002 ≤ n) : ∃ X1, g206 n X = some (nI (1500 * b + c), X1) ∧ RI X1 T fk (.inr ts) ∧ SW X1 b (nI (1500 * b + c)) (hd ts).2.2.1 ∧ SKa b X X1 ∧ cv X1 1 b = nI (c + 1) ∧ LN X1 ∧ X1.1 = X.1 ∧ ∀ i, i ≠ 1 → i ≠ 2 → i ≠ 3 → X1.2.2 i = X.2.2 i := by
  have hce : ce X 1 b = some (nI c) := by rw [ce_cv hL (by decide) (by show b < 2; omega), hc]
  obtain ⟨X1, e1, e2, e3, e4, e5, e6, e7⟩ := slot_ok (n := n) hR hk hL h4 hb hce (by omega) hn
  have hcv : cv X1 1 b = nI (c + 1) := by unfold cv; rw [e5]; rfl
  have hw := w206 e1
  have hf : X1.1 = X.1 := funext fun k => hw.1 k (by simp)
  have hsk : SKa b X X1 := by
    intro s w ⟨c', k1, k2, k3, k4⟩ hs
    have : c' = c := by
      rw [hc] at k1
      exact ((nI_eq (by omega) (by omega)).mp k1).symm
    exact ⟨⟨c + 1, hcv, by omega, k3, by omega⟩, e4 s w (by omega) hs⟩
  exact ⟨X1, e1, e2, ⟨_, rfl, ⟨c + 1, hcv, by omega, by omega, by omega⟩, e3⟩, hsk, hcv, e6, hf, e7⟩
theorem shr_ok (hR : RI X T fk (.inr ts)) (hb1 : (hd ts).1 ≠ 1) : ∃ v X1, g231 n X = some (v, X1) ∧ ((∃ e, RI X1 T fk (.inl e) ∧ ∀ full, sShr full ts = .inl e) ∨ (X1 = X ∧ v = (hd ts).2.2.2 ∧ sShr false ts = .inr ((hd ts).2.2.2, adv ts) ∧ sShr true ts = .inl (sErr 5 (hd ts)))) := by
  obtain ⟨a1, a2, a3, a4, a5, a6, a7⟩ := ri_hd hR hb1
  unfold g231
  by_cases h3 : (hd ts).1 = 3
  · have hs : ∀ full, sShr full ts = if (hd ts).2.2.2 < 0 ∨ 10000 < (hd ts).2.2.2 then .inl (sErr 4 (hd ts)) else if full = true then .inl (sErr 5 (hd ts)) else .inr ((hd ts).2.2.2, adv ts) := by
      intro full
      unfold sShr sTake
      rw [if_pos h3]
      rfl
    rw [if_pos (by rw [a4, h3]; decide)]
    unfold gb231_14 gb231_44
    rw [need_1]
    dsimp only [Option.bind_some]
    rw [if_pos a1, g187_eq, a5 h3]
    dsimp only [Option.bind_some]
    by_cases hr : (hd ts).2.2.2 < 0 ∨ 10000 < (hd ts).2.2.2
    · have hd0 : dIn (hd ts).2.2.2 0 10000 = false := by
        unfold dIn
        rcases hr with q | q
        · rw [decide_eq_true q]; rfl
        · rw [decide_eq_true q]; simp
      rw [hd0, if_pos b2_f]
      obtain ⟨X1, e1, e2⟩ := ri_bad (n := n) (k := 4) hR hb1
      rw [e1]
      dsimp only [Option.bind_some]
      exact ⟨_, X1, rfl, Or.inl ⟨_, e2, fun full => by rw [hs, if_pos hr]⟩⟩
    · have hd0 : dIn (hd ts).2.2.2 0 10000 = true := by
        unfold dIn
        rw [decide_eq_false (fun q => hr (Or.inl q)), decide_eq_false (fun q => hr (Or.inr q))]
        rfl
      rw [hd0, if_neg (by decide)]
      exact ⟨_, X, rfl, Or.inr ⟨rfl, a5 h3, by rw [hs, if_neg hr, if_neg (by decide)], by rw [hs, if_neg hr, if_pos rfl]⟩⟩
  · rw [if_neg (by rw [a4]; exact kd_num h3)]
    unfold gb231_14 gb231_44
    obtain ⟨X1, e1, e2⟩ := ri_need (n := n) (b := false) hR hb1
    rw [if_neg (by decide)] at e2
    rw [show (0 : Int32) = b2 false from rfl, e1]
    dsimp only [Option.bind_some]
    rw [if_neg (ri_flt e2)]
    exact ⟨_, X1, rfl, Or.inl ⟨_, e2, fun full => by unfold sShr sTake; rw [if_neg h3]; rfl⟩⟩
end
end ZPO

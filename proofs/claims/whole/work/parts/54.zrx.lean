/-! THE REFERENCE'S READER: words, signs -/
section ZRX
section
variable {n : Nat} {X : zX} {T : List Int32} {p a : Nat} {fk : Int32} {ts : List Tk} {r : RR (List Tk)}
theorem tokA_word (h : kdO (tokA T a).1.1 = 1) (h1 : (tokA T a).1.1 ≠ 1) : (tokA T a).1.1 = wsort (tokA T a).1.2.2.1 ∧ (tokA T a).1.2.2.1 = cut T a (a + (tokA T a).1.2.2.1.length) ∧ a + (tokA T a).1.2.2.1.length ≤ T.length ∧ (tokA T a).1.2.2.1.length ≤ 16 := by
  unfold tokA at h h1 ⊢
  dsimp only at h h1 ⊢
  split
  · rename_i c; rw [if_pos c] at h; exact absurd (show kdO 0 = 1 from h) (by decide)
  rename_i hl
  rw [if_neg hl] at h h1
  split
  · rename_i hc
    rw [if_pos hc] at h h1
    have hle : a + spn dWrd T a ≤ T.length := spn_le (by omega)
    split
    · rename_i c; rw [if_pos c] at h1; exact absurd rfl h1
    · rename_i c
      dsimp only
      have e := cut_len (T := T) (a := a) hle
      rw [show a + spn dWrd T a - a = spn dWrd T a by omega] at e c
      exact ⟨rfl, by rw [e], by omega, by omega⟩
  rename_i hc
  rw [if_neg hc] at h h1
  split
  · rename_i h39
    rw [if_pos h39] at h h1
    split
    · rename_i c; rw [if_pos c] at h; exact absurd (show kdO 4 = 1 from h) (by decide)
    · rename_i c; rw [if_neg c] at h1; exact absurd rfl h1
  rename_i h39
  rw [if_neg h39] at h h1
  split
  · rename_i hd
    rw [if_pos hd] at h h1
    generalize (if tAt T a = 45 then a + 1 else a) = s at h h1 ⊢
    split
    · rename_i c; rw [if_pos c] at h1; exact absurd rfl h1
    · rename_i c; rw [if_neg c] at h; exact absurd (show kdO 3 = 1 from h) (by decide)
  rename_i hd
  rw [if_neg hd] at h h1
  split
  · rename_i c; rw [if_pos c] at h; exact absurd (show kdO 13 = 1 from h) (by decide)
  · rename_i c
    rw [if_neg c] at h h1
    exfalso
    have h : kdO (gsort (tAt T a)) = 1 := h
    have h1 : gsort (tAt T a) ≠ 1 := h1
    unfold gsort at h h1
    repeat (split at h; exact absurd h (by decide))
    rename_i c1 c2 c3 c4 c5 c6 c7 c8
    rw [if_neg c1, if_neg c2, if_neg c3, if_neg c4, if_neg c5, if_neg c6, if_neg c7, if_neg c8] at h1
    exact h1 rfl
theorem tokA_text (h : (tokA T a).1.1 = 4) : (tokA T a).1.2.2.1 = cut T (a + 1) (a + 1 + (tokA T a).1.2.2.1.length) ∧ a + 1 + (tokA T a).1.2.2.1.length < T.length ∧ (tokA T a).1.2.2.1.length ≤ 16 ∧ ∀ c ∈ (tokA T a).1.2.2.1, dTxt c = true := by
  unfold tokA at h ⊢
  dsimp only at h ⊢
  split
  · rename_i c; rw [if_pos c] at h; exact absurd (show (0 : Nat) = 4 from h) (by decide)
  rename_i hl
  rw [if_neg hl] at h
  split
  · rename_i hc
    rw [if_pos hc] at h
    split
    · rename_i c; rw [if_pos c] at h; exact absurd (show (1 : Nat) = 4 from h) (by decide)
    · rename_i c
      rw [if_neg c] at h
      exact absurd (show wsort _ = 4 from h) (kdO_w _).2.2.2
  rename_i hc
  rw [if_neg hc] at h
  split
  · rename_i h39
    rw [if_pos h39] at h
    have hle : a + 1 + spn dTxt T (a + 1) ≤ T.length := spn_le (by omega)
    split
    · rename_i c
      dsimp only
      have e := cut_len (T := T) (a := a + 1) hle
      rw [show a + 1 + spn dTxt T (a + 1) - (a + 1) = spn dTxt T (a + 1) by omega] at e c
      refine ⟨by rw [e], ?_, by omega, ?_⟩
      · rw [e]
        rcases Nat.lt_or_ge (a + 1 + spn dTxt T (a + 1)) T.length with q | q
        · exact q
        · rw [tAt_ge q] at c; exact absurd c.1 (by decide)
      · intro b hb
        unfold cut at hb
        obtain ⟨k, hk, e2⟩ := List.mem_iff_getElem.mp hb
        rw [List.length_take, List.length_drop] at hk
        have hk2 : k < spn dTxt T (a + 1) := by omega
        have := spn_in (T := T) (f := dTxt) rfl k (a + 1) hk2
        rw [List.getElem_take, List.getElem_drop] at e2
        rw [← e2, ← tAt_lt this.2]
        exact this.1
    · rename_i c; rw [if_neg c] at h; exact absurd (show (1 : Nat) = 4 from h) (by decide)
  rename_i h39
  rw [if_neg h39] at h
  exfalso
  split at h
  · generalize (if tAt T a = 45 then a + 1 else a) = s at h
    split at h
    · exact absurd (show (1 : Nat) = 4 from h) (by decide)
    · exact absurd (show (3 : Nat) = 4 from h) (by decide)
  · split at h
    · exact absurd (show (13 : Nat) = 4 from h) (by decide)
    · have h : gsort (tAt T a) = 4 := h
      unfold gsort at h
      repeat (split at h; exact absurd h (by decide))
      exact absurd h (by decide)
theorem tokA_sign (h : kdO (tokA T a).1.1 = 4) : (tokA T a).1.1 = gsort (tAt T a) ∧ a < T.length := by
  unfold tokA at h ⊢
  dsimp only at h ⊢
  split
  · rename_i c; rw [if_pos c] at h; exact absurd (show kdO 0 = 4 from h) (by decide)
  rename_i hl
  rw [if_neg hl] at h
  split
  · rename_i hc
    rw [if_pos hc] at h
    split
    · rename_i c; rw [if_pos c] at h; exact absurd (show kdO 1 = 4 from h) (by decide)
    · rename_i c
      rw [if_neg c] at h
      have h : kdO (wsort _) = 4 := h
      rw [(kdO_w _).1] at h
      exact absurd h (by decide)
  rename_i hc
  rw [if_neg hc] at h
  split
  · rename_i h39
    rw [if_pos h39] at h
    split
    · rename_i c; rw [if_pos c] at h; exact absurd (show kdO 4 = 4 from h) (by decide)
    · rename_i c; rw [if_neg c] at h; exact absurd (show kdO 1 = 4 from h) (by decide)
  rename_i h39
  rw [if_neg h39] at h
  split
  · rename_i hd
    rw [if_pos hd] at h
    generalize (if tAt T a = 45 then a + 1 else a) = s at h ⊢
    split
    · rename_i c; rw [if_pos c] at h; exact absurd (show kdO 1 = 4 from h) (by decide)
    · rename_i c; rw [if_neg c] at h; exact absurd (show kdO 3 = 4 from h) (by decide)
  rename_i hd
  rw [if_neg hd] at h
  split
  · rename_i c; rw [if_pos c] at h; exact absurd (show kdO 13 = 4 from h) (by decide)
  · exact ⟨rfl, by omega⟩
theorem cut_get {m k : Nat} (h : a + m ≤ T.length) (hk : k < m) : (cut T a (a + m)).getD k 0 = tAt T (a + k) := by
  unfold cut
  rw [List.getD_eq_getElem?_getD, List.getElem?_take, if_pos (by omega), List.getElem?_drop, List.getElem?_eq_getElem (by omega), tAt_lt (by omega)]
  rfl
/-- the word of a sort -/
def wOf (s : Nat) : List Int32 := (wrds.getD (s - 14) ([], 0)).1
theorem wOf_mem {x : List Int32 × Nat} (hm : x ∈ wrds) : x.1 = wOf x.2 := by
  revert hm
  unfold wOf
  generalize hW : wrds = W
  intro hm
  have hm' : x ∈ wrds := by rw [hW]; exact hm
  rw [← hW]
  unfold wrds at hm'
  simp only [List.mem_cons, List.not_mem_nil, or_false] at hm'
  rcases hm' with h | h | h | h | h | h | h | h | h | h | h | h | h | h | h | h | h | h | h | h | h | h | h | h | h | h | h | h | h <;> (rw [h]; rfl)
theorem wOf_sort {s : Nat} (h1 : 14 ≤ s) (h2 : s ≤ 42) : wsort (wOf s) = s := by
  have := (by decide +kernel : ∀ i : Fin 29, wsort (wOf (14 + i.val)) = 14 + i.val) ⟨s - 14, by omega⟩
  rw [show 14 + (⟨s - 14, by omega⟩ : Fin 29).val = s by show 14 + (s - 14) = s; omega] at this
  exact this
theorem wOf_len {s : Nat} (h1 : 14 ≤ s) (h2 : s ≤ 42) : (wOf s).length ≤ 16 ∧ ∀ c ∈ wOf s, c ≠ 32 := by
  have := (by decide +kernel : ∀ i : Fin 29, (wOf (14 + i.val)).length ≤ 16 ∧ ∀ c ∈ wOf (14 + i.val), c ≠ 32) ⟨s - 14, by omega⟩
  rw [show 14 + (⟨s - 14, by omega⟩ : Fin 29).val = s by show 14 + (s - 14) = s; omega] at this
  exact this
theorem wsort_iff {w : List Int32} {s : Nat} (h1 : 14 ≤ s) (h2 : s ≤ 42) : wsort w = s ↔ w = wOf s := by
  constructor
  · intro h
    unfold wsort at h
    split at h
    · rename_i x hx
      have hm := List.mem_of_find?_eq_some hx
      have he := List.find?_some hx
      rw [← h, ← wOf_mem hm]
      exact (eq_of_beq he).symm
    · omega
  · intro h
    rw [h, wOf_sort h1 h2]
/-- a word that is looked at -/
theorem ri_word (h : RI X T fk (.inr ts)) (hb : (hd ts).1 ≠ 1) (hk : kdO (hd ts).1 = 1) : (hd ts).1 = wsort (hd ts).2.2.1 ∧ (hd ts).2.2.1 = cut T (hd ts).2.1 ((hd ts).2.1 + (hd ts).2.2.1.length) ∧ (hd ts).2.1 + (hd ts).2.2.1.length ≤ T.length ∧ (hd ts).2.2.1.length ≤ 16 := by
  obtain ⟨hT, h70, p, hp, e, hK⟩ := h
  rw [e, tksP_hd hp] at hb hk ⊢
  unfold tokB at hb hk ⊢
  have := tokA_word hk hb
  rw [tokA_place]
  exact this
theorem ri_text (h : RI X T fk (.inr ts)) (hk : (hd ts).1 = 4) : (hd ts).2.2.1 = cut T ((hd ts).2.1 + 1) ((hd ts).2.1 + 1 + (hd ts).2.2.1.length) ∧ (hd ts).2.1 + 1 + (hd ts).2.2.1.length < T.length ∧ (hd ts).2.2.1.length ≤ 16 ∧ ∀ c ∈ (hd ts).2.2.1, dTxt c = true := by
  obtain ⟨hT, h70, p, hp, e, hK⟩ := h
  rw [e, tksP_hd hp] at hk ⊢
  unfold tokB at hk ⊢
  have := tokA_text hk
  rw [tokA_place]
  exact this
theorem ri_sign (h : RI X T fk (.inr ts)) (hk : kdO (hd ts).1 = 4) : (hd ts).1 = gsort (tAt T (hd ts).2.1) ∧ (hd ts).2.1 < T.length := by
  obtain ⟨hT, h70, p, hp, e, hK⟩ := h
  rw [e, tksP_hd hp] at hk ⊢
  unfold tokB at hk ⊢
  have := tokA_sign hk
  rw [tokA_place]
  exact this
theorem mtc_word (h : RI X T fk (.inr ts)) (hb : (hd ts).1 ≠ 1) (hk : kdO (hd ts).1 = 1) {w : List Int32} (hw : w.length ≤ 16) : mtc X T (hd ts).2.1 w = decide ((hd ts).2.2.1 = w) := by
  obtain ⟨a1, a2, a3, a4, a5, a6, a7⟩ := ri_hd h hb
  obtain ⟨e1, e2, e3, e4⟩ := ri_word h hb hk
  unfold mtc
  rw [a6 (Or.inl hk)]
  by_cases hl : (hd ts).2.2.1.length = w.length
  · rw [decide_eq_true (by rw [hl]), Bool.true_and]
    rw [Bool.eq_iff_iff, List.all_eq_true, decide_eq_true_eq]
    constructor
    · intro hh
      apply List.ext_getElem hl
      intro k h1 h2
      have := hh k (List.mem_range.mpr h2)
      have h3 : (hd ts).2.2.1.getD k 0 = tAt T ((hd ts).2.1 + k) := by
        rw [e2]
        exact cut_get e3 h1
      rw [← h3] at this
      have := eq_of_beq this
      rw [List.getD_eq_getElem?_getD, List.getElem?_eq_getElem h1, List.getD_eq_getElem?_getD, List.getElem?_eq_getElem h2] at this
      exact this
    · intro hh k hk'
      have h1 := List.mem_range.mp hk'
      rw [← hh] at h1 ⊢
      have h3 : (hd ts).2.2.1.getD k 0 = tAt T ((hd ts).2.1 + k) := by
        rw [e2]
        exact cut_get e3 h1
      rw [h3]
      exact beq_self_eq_true _
  · rw [decide_eq_false, Bool.false_and, decide_eq_false]
    · intro hh; exact hl (by rw [hh])
    · rw [nI_eq (by omega) (by omega)]; exact hl
theorem fidx {ss : List Nat} {f : List Int32 → Bool} {t : Nat} (h : ∀ s ∈ ss, f (wOf s) = (s == t)) : (ss.map wOf).findIdx? f = ss.findIdx? (fun s => s == t) := by
  induction ss with
  | nil => rfl
  | cons s ss ih =>
    rw [List.map_cons, List.findIdx?_cons, List.findIdx?_cons, h s List.mem_cons_self, ih (fun x hx => h x (List.mem_cons_of_mem _ hx))]
theorem fidx_no {ss : List Nat} {t : Nat} (h : ∀ s ∈ ss, s ≠ t) : ss.findIdx? (fun s => s == t) = none := by
  induction ss with
  | nil => rfl
  | cons s ss ih =>
    rw [List.findIdx?_cons, ih (fun x hx => h x (List.mem_cons_of_mem _ hx)), if_neg (by simpa using h s List.mem_cons_self)]
    rfl
/-- the words of a string of the reference's: kS, and its sorts -/
def wk (a : Nat) (ss : List Nat) : Prop := kS a = true ∧ cs a = joinW (ss.map wOf) ∧ (∀ s ∈ ss, 14 ≤ s ∧ s ≤ 42) ∧ ss ≠ []
theorem amg_any {a : Nat} {ss : List Nat} (hw : wk a ss) (h : RI X T fk r) (hn : 6002 ≤ n) : ∃ v, g199 n a X = some (v, X) := by
  obtain ⟨hT, ⟨q, hq, h70⟩, _⟩ := h
  obtain ⟨k1, k2, k3, k4⟩ := hw
  exact ⟨_, amg_eq k1 k2 (by intro z; exact k4 (List.map_eq_nil_iff.mp z)) (fun w hw => by obtain ⟨s, hs, rfl⟩ := List.mem_map.mp hw; exact (wOf_len (k3 s hs).1 (k3 s hs).2).2) hT h70 hq (by omega)⟩
theorem amg_tok {a : Nat} {ss : List Nat} (hw : wk a ss) (h : RI X T fk (.inr ts)) (hb : (hd ts).1 ≠ 1) (hn : 6002 ≤ n) : g199 n a X = some (match ss.findIdx? (fun s => s == (hd ts).1) with | some i => nI i | none => -1, X) := by
  obtain ⟨k1, k2, k3, k4⟩ := hw
  obtain ⟨a1, a2, a3, a4, a5, a6, a7⟩ := ri_hd h hb
  rw [amg_eq k1 k2 (by intro z; exact k4 (List.map_eq_nil_iff.mp z)) (fun w hw => by obtain ⟨s, hs, rfl⟩ := List.mem_map.mp hw; exact (wOf_len (k3 s hs).1 (k3 s hs).2).2) h.1 a3 a7 (by omega), a4]
  by_cases hk : kdO (hd ts).1 = 1
  · rw [if_pos hk, fidx (t := (hd ts).1) ?_]
    · rfl
    · intro s hs
      have := k3 s hs
      rw [mtc_word h hb hk (wOf_len this.1 this.2).1, (ri_word h hb hk).1, Bool.eq_iff_iff, decide_eq_true_eq, beq_iff_eq]
      constructor
      · intro q; rw [q, wOf_sort this.1 this.2]
      · intro q; exact (wsort_iff this.1 this.2).mp q.symm
  · rw [if_neg hk, fidx_no ?_]
    intro s hs q
    have := k3 s hs
    apply hk
    rw [← q]
    unfold kdO
    rw [if_neg (by omega), if_neg (by omega), if_neg (by omega), if_neg (by omega), if_neg (by omega)]
theorem isw_tok {a s : Nat} (hw : wk a [s]) (h : RI X T fk (.inr ts)) (hb : (hd ts).1 ≠ 1) (hn : 6002 ≤ n) : g213 n a X = some (b2 ((hd ts).1 == s), X) := by
  unfold g213
  rw [amg_tok hw h hb hn]
  dsimp only [Option.bind_some]
  by_cases q : (hd ts).1 = s
  · rw [show [s].findIdx? (fun x => x == (hd ts).1) = some 0 by rw [List.findIdx?_cons, if_pos (by simpa using q.symm)], show ((hd ts).1 == s) = true by simpa using q]
    rfl
  · rw [show [s].findIdx? (fun x => x == (hd ts).1) = none by rw [List.findIdx?_cons, if_neg (by simpa using fun z => q z.symm)]; rfl, show ((hd ts).1 == s) = false by simpa using q]
    rfl
theorem isw_any {a s : Nat} (hw : wk a [s]) (h : RI X T fk r) (hn : 6002 ≤ n) : ∃ b, g213 n a X = some (b2 b, X) := by
  obtain ⟨v, e⟩ := amg_any hw h hn
  unfold g213
  rw [e]
  dsimp only [Option.bind_some]
  by_cases q : v = 0
  · rw [if_pos q]; exact ⟨true, rfl⟩
  · rw [if_neg q]; exact ⟨false, rfl⟩
def sgn (s : Nat) : Int32 := if s = 5 then 123 else if s = 6 then 125 else if s = 7 then 40 else if s = 8 then 41 else if s = 9 then 59 else if s = 10 then 44 else if s = 11 then 58 else 61
theorem gsort_inv {x : Int32} {s : Nat} (h : gsort x = s) (hs : s ≠ 1) : x = sgn s ∧ 5 ≤ s ∧ s ≤ 12 := by
  unfold gsort at h
  repeat (split at h; (rename_i e; subst h; exact ⟨e, by decide, by decide⟩))
  exact absurd h.symm hs
theorem is_tok {c : Int32} {s : Nat} (hc : gsort c = s) (hs : s ≠ 1) (h : RI X T fk (.inr ts)) (hb : (hd ts).1 ≠ 1) : g209 n c X = some (b2 ((hd ts).1 == s), X) := by
  obtain ⟨a1, a2, a3, a4, a5, a6, a7⟩ := ri_hd h hb
  have hs5 := (gsort_inv hc hs).2
  unfold g209
  rw [a4]
  by_cases hk : kdO (hd ts).1 = 4
  · rw [if_pos hk, a3, at_eq h.1 (by omega)]
    dsimp only [Option.bind_some]
    have hg := (ri_sign h hk).1
    by_cases q : tAt T (hd ts).2.1 = c
    · rw [if_pos q, hg, q, hc, beq_self_eq_true]
      rfl
    · rw [if_neg q]
      have : ((hd ts).1 == s) = false := by
        rw [beq_eq_false_iff_ne]
        intro z
        apply q
        rw [hg] at z
        rw [(gsort_inv z hs).1, (gsort_inv hc hs).1]
      rw [this]
      rfl
  · rw [if_neg hk]
    have : ((hd ts).1 == s) = false := by
      rw [beq_eq_false_iff_ne]
      intro z
      apply hk
      rw [z]
      unfold kdO
      rw [if_neg (by omega), if_neg (by omega), if_neg (by omega), if_neg (by omega), if_pos hs5]
    rw [this]
    rfl
theorem is_any {c : Int32} (h : RI X T fk r) : ∃ b, g209 n c X = some (b2 b, X) := by
  obtain ⟨hT, ⟨q, hq, h70⟩, _⟩ := h
  unfold g209
  by_cases h4 : X.1 69 = 4
  · rw [if_pos h4, h70, at_eq hT (by omega)]
    dsimp only [Option.bind_some]
    by_cases q : tAt T q = c
    · rw [if_pos q]; exact ⟨true, rfl⟩
    · rw [if_neg q]; exact ⟨false, rfl⟩
  · rw [if_neg h4]; exact ⟨false, rfl⟩
theorem wk_53 : wk 53 [25, 14, 22] := ⟨by decide +kernel, by decide +kernel, by decide, by decide⟩
theorem wk_55 : wk 55 [14, 15, 16, 17, 18, 19, 20, 21, 22, 23, 24, 25, 26, 27, 28, 29, 30, 31, 32, 33, 34, 35, 36, 37, 38, 39, 40, 41, 42] := ⟨by decide +kernel, by decide +kernel, by decide, by decide⟩
theorem wk_63 : wk 63 [33, 34, 29] := ⟨by decide +kernel, by decide +kernel, by decide, by decide⟩
theorem wk_65 : wk 65 [35, 36, 37, 38, 39, 40, 41, 42] := ⟨by decide +kernel, by decide +kernel, by decide, by decide⟩
theorem wk_67 : wk 67 [15, 16, 17] := ⟨by decide +kernel, by decide +kernel, by decide, by decide⟩
theorem wk_57 : wk 57 [32] := ⟨by decide +kernel, by decide +kernel, by decide, by decide⟩
theorem wk_59 : wk 59 [31] := ⟨by decide +kernel, by decide +kernel, by decide, by decide⟩
theorem wk_61 : wk 61 [30] := ⟨by decide +kernel, by decide +kernel, by decide, by decide⟩
theorem wk_69 : wk 69 [18] := ⟨by decide +kernel, by decide +kernel, by decide, by decide⟩
theorem wk_71 : wk 71 [19] := ⟨by decide +kernel, by decide +kernel, by decide, by decide⟩
theorem wk_73 : wk 73 [20] := ⟨by decide +kernel, by decide +kernel, by decide, by decide⟩
theorem wk_75 : wk 75 [21] := ⟨by decide +kernel, by decide +kernel, by decide, by decide⟩
theorem wk_77 : wk 77 [27] := ⟨by decide +kernel, by decide +kernel, by decide, by decide⟩
theorem wk_79 : wk 79 [26] := ⟨by decide +kernel, by decide +kernel, by decide, by decide⟩
theorem wk_81 : wk 81 [28] := ⟨by decide +kernel, by decide +kernel, by decide, by decide⟩
theorem wk_83 : wk 83 [33] := ⟨by decide +kernel, by decide +kernel, by decide, by decide⟩
theorem wk_85 : wk 85 [34] := ⟨by decide +kernel, by decide +kernel, by decide, by decide⟩
theorem wk_87 : wk 87 [23] := ⟨by decide +kernel, by decide +kernel, by decide, by decide⟩
theorem wk_89 : wk 89 [24] := ⟨by decide +kernel, by decide +kernel, by decide, by decide⟩
theorem name_tok (h : RI X T fk (.inr ts)) (hb : (hd ts).1 ≠ 1) (hn : 6002 ≤ n) : g203 n X = some (b2 ((hd ts).1 == 2), X) := by
  obtain ⟨a1, a2, a3, a4, a5, a6, a7⟩ := ri_hd h hb
  unfold g203
  rw [a4]
  by_cases hk : kdO (hd ts).1 = 1
  · rw [if_pos hk, amg_tok wk_55 h hb hn]
    dsimp only [Option.bind_some]
    have hw := wsort_rng (hd ts).2.2.1
    rw [← (ri_word h hb hk).1] at hw
    by_cases q : (hd ts).1 = 2
    · rw [fidx_no, if_pos rfl, show ((hd ts).1 == 2) = true by simpa using q]
      · rfl
      · rw [q]; decide
    · have h14 : 14 ≤ (hd ts).1 ∧ (hd ts).1 ≤ 42 := by omega
      rw [show ((hd ts).1 == 2) = false by simpa using q]
      generalize (hd ts).1 = s at h14
      have := (by decide +kernel : ∀ i : Fin 29, (match ([14, 15, 16, 17, 18, 19, 20, 21, 22, 23, 24, 25, 26, 27, 28, 29, 30, 31, 32, 33, 34, 35, 36, 37, 38, 39, 40, 41, 42] : List Nat).findIdx? (fun x => x == 14 + i.val) with | some i => nI i | none => -1) ≠ (-1 : Int32)) ⟨s - 14, by omega⟩
      rw [show 14 + (⟨s - 14, by omega⟩ : Fin 29).val = s by show 14 + (s - 14) = s; omega] at this
      rw [if_neg this]
      rfl
  · rw [if_neg hk]
    have : ((hd ts).1 == 2) = false := by
      rw [beq_eq_false_iff_ne]
      intro z
      apply hk
      rw [z]
      rfl
    rw [this]
    rfl
theorem name_any (h : RI X T fk r) (hn : 6002 ≤ n) : ∃ b, g203 n X = some (b2 b, X) := by
  unfold g203
  by_cases h1 : X.1 69 = 1
  · obtain ⟨v, e⟩ := amg_any wk_55 h hn
    rw [if_pos h1, e]
    dsimp only [Option.bind_some]
    by_cases q : v = -1
    · rw [if_pos q]; exact ⟨true, rfl⟩
    · rw [if_neg q]; exact ⟨false, rfl⟩
  · rw [if_neg h1]; exact ⟨false, rfl⟩
/-- need: what is looked at is such, or a fault -/
theorem ri_eat {c : Int32} {s : Nat} (hc : gsort c = s) (hs : s ≠ 1) (h : RI X T fk r) (hn : 6002 ≤ n) : ∃ X1, g208 n c X = some ((), X1) ∧ RI X1 T fk (rb r (sEat s)) := by
  unfold g208
  cases r with
  | inl e =>
    obtain ⟨b, eb⟩ := is_any (n := n) (c := c) h
    rw [eb]
    dsimp only [Option.bind_some]
    rw [ri_needF h]
    dsimp only [Option.bind_some]
    rw [ri_nextF h]
    exact ⟨X, rfl, h⟩
  | inr ts =>
    by_cases hb : (hd ts).1 = 1
    · obtain ⟨b, eb⟩ := is_any (n := n) (c := c) h
      have h' := ri_of_brk h hb (k := 2)
      rw [eb]
      dsimp only [Option.bind_some]
      rw [ri_needF h']
      dsimp only [Option.bind_some]
      rw [ri_nextF h']
      refine ⟨X, rfl, ?_⟩
      show RI X T fk (sEat s ts)
      unfold sEat sTake
      rw [if_neg (by rw [hb]; exact fun z => hs z.symm)]
      exact h'
    · rw [is_tok hc hs h hb]
      dsimp only [Option.bind_some]
      obtain ⟨X1, e1, h1⟩ := ri_need (n := n) (b := (hd ts).1 == s) h hb
      rw [e1]
      dsimp only [Option.bind_some]
      show ∃ X1, _ ∧ RI X1 T fk (sEat s ts)
      unfold sEat sTake
      by_cases q : (hd ts).1 = s
      · rw [if_pos (by simpa using q)] at h1
        rw [if_pos q]
        obtain ⟨X2, e2, h2⟩ := ri_next h1 hn
        rw [e2]
        exact ⟨X2, rfl, h2⟩
      · rw [if_neg (by simpa using q)] at h1
        rw [if_neg q, ri_nextF h1]
        exact ⟨X1, rfl, h1⟩
theorem ri_eatW {a s : Nat} (hw : wk a [s]) (h : RI X T fk r) (hn : 6002 ≤ n) : ∃ X1, g228 n a X = some ((), X1) ∧ RI X1 T fk (rb r (sEat s)) := by
  have hs : s ≠ 1 := by have := hw.2.2.1 s (by simp); omega
  unfold g228
  cases r with
  | inl e =>
    obtain ⟨b, eb⟩ := isw_any hw h hn
    rw [eb]
    dsimp only [Option.bind_some]
    rw [ri_needF h]
    dsimp only [Option.bind_some]
    rw [ri_nextF h]
    exact ⟨X, rfl, h⟩
  | inr ts =>
    by_cases hb : (hd ts).1 = 1
    · obtain ⟨b, eb⟩ := isw_any hw h hn
      have h' := ri_of_brk h hb (k := 2)
      rw [eb]
      dsimp only [Option.bind_some]
      rw [ri_needF h']
      dsimp only [Option.bind_some]
      rw [ri_nextF h']
      refine ⟨X, rfl, ?_⟩
      show RI X T fk (sEat s ts)
      unfold sEat sTake
      rw [if_neg (by rw [hb]; exact fun z => hs z.symm)]
      exact h'
    · rw [isw_tok hw h hb hn]
      dsimp only [Option.bind_some]
      obtain ⟨X1, e1, h1⟩ := ri_need (n := n) (b := (hd ts).1 == s) h hb
      rw [e1]
      dsimp only [Option.bind_some]
      show ∃ X1, _ ∧ RI X1 T fk (sEat s ts)
      unfold sEat sTake
      by_cases q : (hd ts).1 = s
      · rw [if_pos (by simpa using q)] at h1
        rw [if_pos q]
        obtain ⟨X2, e2, h2⟩ := ri_next h1 hn
        rw [e2]
        exact ⟨X2, rfl, h2⟩
      · rw [if_neg (by simpa using q)] at h1
        rw [if_neg q, ri_nextF h1]
        exact ⟨X1, rfl, h1⟩
end
end ZRX

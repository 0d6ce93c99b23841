/-! BITS; WHAT IS REACHED -/
section ZBT
def bt (v : Int32) (j : Nat) : Bool := v.toBitVec.getLsbD j
theorem bt_ext {v w : Int32} (h : ∀ j, j < 32 → bt v j = bt w j) : v = w := by
  apply Int32.toBitVec_inj.mp
  apply BitVec.eq_of_getLsbD_eq
  intro i hi
  exact h i hi
theorem bt_or {v w : Int32} {j : Nat} : bt (v ||| w) j = (bt v j || bt w j) := by
  unfold bt
  rw [Int32.toBitVec_or, BitVec.getLsbD_or]
theorem bt_and {v w : Int32} {j : Nat} : bt (v &&& w) j = (bt v j && bt w j) := by
  unfold bt
  rw [Int32.toBitVec_and, BitVec.getLsbD_and]
theorem bt_xor {v w : Int32} {j : Nat} : bt (v ^^^ w) j = (bt v j ^^ bt w j) := by
  unfold bt
  rw [Int32.toBitVec_xor, BitVec.getLsbD_xor]
theorem bt_m1 {j : Nat} (h : j < 32) : bt (-1) j = true := by
  have : ∀ j : Fin 32, bt (-1) j.1 = true := by decide
  exact this ⟨j, h⟩
theorem bt_0 {j : Nat} : bt 0 j = false := by
  unfold bt
  show (0#32).getLsbD j = false
  simp
theorem bt_1 {j : Nat} : bt 1 j = decide (j = 0) := by
  unfold bt
  show (1#32).getLsbD j = _
  rw [BitVec.getLsbD_one]
  simp
theorem sh_31 : ∀ k : Fin 32, (nI k.1 &&& 31) = nI k.1 := by decide
theorem sh_tb : ∀ k : Fin 32, (1 : Int32) <<< (nI k.1) = Int32.ofBitVec (BitVec.twoPow 32 k.1) := by decide
theorem bt_sh {k j : Nat} (hk : k < 32) : bt ((1 : Int32) <<< (nI k &&& 31)) j = decide (j = k) := by
  rw [sh_31 ⟨k, hk⟩, sh_tb ⟨k, hk⟩]
  unfold bt
  show (BitVec.twoPow 32 k).getLsbD j = _
  rw [BitVec.getLsbD_twoPow]
  by_cases h : j = k
  · subst h; simp [hk]
  · simp [h]; intro _; omega
theorem bt_shr {v : Int32} {j : Nat} (hj : j < 32) : bt (v >>> (nI j &&& 31)) 0 = bt v j := by
  rw [sh_31 ⟨j, hj⟩]
  unfold bt
  rw [Int32.toBitVec_shiftRight]
  have : ∀ k : Fin 32, ((nI k.1).toBitVec.smod 32).toNat = k.1 := by decide
  rw [BitVec.sshiftRight', this ⟨j, hj⟩, BitVec.getLsbD_sshiftRight]
  simp
  omega
theorem tst1 {v : Int32} {j : Nat} (hj : j < 32) : ((v >>> (nI j &&& 31)) &&& 1) = if bt v j = true then 1 else 0 := by
  apply bt_ext
  intro i hi
  rw [bt_and, bt_1]
  by_cases h0 : i = 0
  · subst h0
    rw [bt_shr hj]
    by_cases hb : bt v j = true
    · rw [if_pos hb, hb]; rfl
    · rw [if_neg hb]
      have : bt v j = false := by simpa using hb
      rw [this]; rfl
  · rw [decide_eq_false h0, Bool.and_false]
    by_cases hb : bt v j = true
    · rw [if_pos hb, bt_1, decide_eq_false h0]
    · rw [if_neg hb, bt_0]
theorem bt_bits {f : Nat → Bool} {j : Nat} : ∀ {n : Nat}, n ≤ 32 → bt (bitsI f n) j = (decide (j < n) && f j)
  | 0, _ => by
    unfold bitsI
    rw [bt_0, decide_eq_false (by omega)]; rfl
  | n + 1, h => by
    unfold bitsI
    have ih := bt_bits (f := f) (j := j) (n := n) (by omega)
    by_cases hf : f n = true
    · rw [if_pos hf, bt_or, bt_sh (by omega), ih]
      by_cases hj : j = n
      · subst hj; simp [hf]
      · rw [decide_eq_false hj, Bool.or_false]
        congr 1
        apply decide_eq_decide.mpr; omega
    · rw [if_neg hf, ih]
      by_cases hj : j = n
      · subst hj
        have : f j = false := by simpa using hf
        rw [this]; simp
      · congr 1
        apply decide_eq_decide.mpr; omega
theorem sub0 {v l : Int32} : (v &&& (l ^^^ (-1))) = 0 ↔ ∀ j, j < 32 → bt v j = true → bt l j = true := by
  constructor
  · intro h j hj hv
    have := congrArg (fun x => bt x j) h
    simp only [bt_and, bt_xor, bt_0, hv, bt_m1 hj] at this
    simpa using this
  · intro h
    apply bt_ext
    intro j hj
    rw [bt_and, bt_xor, bt_0, bt_m1 hj]
    cases hv : bt v j with
    | false => rfl
    | true => rw [h j hj hv]; rfl
section
variable {N : List (List (Nat × Int32))}
theorem pathN_s {k i j : Nat} : pathN N (k + 1) i j = (pathN N k i j || (pathN N k i k && pathN N k k j)) := rfl
theorem pathN_m {k m i j : Nat} (h : pathN N k i j = true) (hk : k ≤ m) : pathN N m i j = true := by
  induction m with
  | zero => have : k = 0 := by omega
            subst this; exact h
  | succ m ih =>
    by_cases q : k = m + 1
    · subst q; exact h
    · rw [pathN_s, ih (by omega)]; rfl
theorem pathN_t : ∀ (k : Nat) {i g j : Nat}, g < k → pathN N k i g = true → pathN N k g j = true → pathN N k i j = true
  | 0, _, _, _, h, _, _ => by omega
  | k + 1, i, g, j, hg, h1, h2 => by
    rw [pathN_s] at h1 h2 ⊢
    simp only [Bool.or_eq_true, Bool.and_eq_true] at h1 h2 ⊢
    by_cases q : g = k
    · subst q
      have a1 : pathN N g i g = true := by rcases h1 with h | h; exact h; exact h.1
      have a2 : pathN N g g j = true := by rcases h2 with h | h; exact h; exact h.2
      exact Or.inr ⟨a1, a2⟩
    · have hk : g < k := by omega
      rcases h1 with h1 | h1 <;> rcases h2 with h2 | h2
      · exact Or.inl (pathN_t k hk h1 h2)
      · exact Or.inr ⟨pathN_t k hk h1 h2.1, h2.2⟩
      · exact Or.inr ⟨h1.1, pathN_t k hk h1.2 h2⟩
      · exact Or.inr ⟨h1.1, h2.2⟩
theorem rch_t {i g j : Nat} (hg : g < N.length) (h1 : rchB N i g = true) (h2 : rchB N g j = true) : rchB N i j = true := pathN_t _ hg h1 h2
theorem rch_e {i j : Nat} (h : edge N i j = true) : rchB N i j = true := pathN_m (k := 0) h (Nat.zero_le _)
/-- all needs lead to flags -/
def NL (N : List (List (Nat × Int32))) : Prop := ∀ l ∈ N, ∀ x ∈ l, x.1 < N.length
theorem edge_lt {i j : Nat} (hN : NL N) (h : edge N i j = true) : i < N.length ∧ j < N.length := by
  unfold edge at h
  rw [List.any_eq_true] at h
  obtain ⟨x, hx, he⟩ := h
  by_cases hi : i < N.length
  · refine ⟨hi, ?_⟩
    rw [List.getD_eq_getElem?_getD, List.getElem?_eq_getElem hi] at hx
    have := hN _ (List.getElem_mem hi) x hx
    simp at he
    omega
  · rw [List.getD_eq_getElem?_getD, List.getElem?_eq_none (by omega)] at hx
    simp at hx
theorem path_lt (hN : NL N) : ∀ (k : Nat) {i j : Nat}, pathN N k i j = true → i < N.length ∧ j < N.length
  | 0, _, _, h => edge_lt hN h
  | k + 1, i, j, h => by
    rw [pathN_s] at h
    simp only [Bool.or_eq_true, Bool.and_eq_true] at h
    rcases h with h | h
    · exact path_lt hN k h
    · exact ⟨(path_lt hN k h.1).1, (path_lt hN k h.2).2⟩
/-- the first step -/
theorem path_first (hN : NL N) : ∀ (k : Nat) {i j : Nat}, k ≤ N.length → pathN N k i j = true → ∃ g, edge N i g = true ∧ (g = j ∨ rchB N g j = true)
  | 0, i, j, _, h => ⟨j, h, Or.inl rfl⟩
  | k + 1, i, j, hk, h => by
    rw [pathN_s] at h
    simp only [Bool.or_eq_true, Bool.and_eq_true] at h
    rcases h with h | h
    · exact path_first hN k (by omega) h
    · obtain ⟨g, g1, g2⟩ := path_first hN k (by omega) h.1
      have h2 : rchB N k j = true := pathN_m h.2 (by omega)
      refine ⟨g, g1, Or.inr ?_⟩
      rcases g2 with g2 | g2
      · rw [g2]; exact h2
      · exact rch_t (by omega) g2 h2
/-- no rings, no flag that reaches itself -/
theorem acyc (hN : NL N) (h : ∀ i g, edge N i g = true → i ≠ g ∧ rchB N g i = false) (i : Nat) : rchB N i i = false := by
  cases hi : rchB N i i with
  | false => rfl
  | true =>
    obtain ⟨g, g1, g2⟩ := path_first hN _ (Nat.le_refl _) hi
    have := h i g g1
    rcases g2 with g2 | g2
    · exact absurd g2.symm this.1
    · rw [this.2] at g2; cases g2
/-- a flag that is ready -/
theorem rdy_ex (ha : ∀ i, rchB N i i = false) (done : List Nat) : ∀ (c i : Nat), i < N.length → i ∉ done → ((List.range N.length).filter (fun j => rchB N i j && !done.contains j)).length ≤ c → ∃ j, j < N.length ∧ ready N done j = true
  | c, i, hi, hd, hc => by
    by_cases hr : ready N done i = true
    · exact ⟨i, hi, hr⟩
    · unfold ready at hr
      rw [Bool.and_eq_true] at hr
      have h1 : (!done.contains i) = true := by simpa using hd
      have h2 : ¬ (List.range N.length).all (fun j => !rchB N i j || done.contains j) = true := fun q => hr ⟨h1, q⟩
      rw [List.all_eq_true] at h2
      have : ∃ j, j < N.length ∧ rchB N i j = true ∧ j ∉ done := by
        refine Classical.byContradiction fun hno => h2 fun j hj => ?_
        rw [List.mem_range] at hj
        cases hij : rchB N i j with
        | false => rfl
        | true =>
          have : j ∈ done := Classical.byContradiction fun q => hno ⟨j, hj, hij, q⟩
          simpa using this
      obtain ⟨j, j1, j2, j3⟩ := this
      have hlt : ((List.range N.length).filter (fun q => rchB N j q && !done.contains q)).length < ((List.range N.length).filter (fun q => rchB N i q && !done.contains q)).length := by
        rw [← List.countP_eq_length_filter, ← List.countP_eq_length_filter]
        have hsub : ∀ l : List Nat, (∀ q ∈ l, q < N.length) → List.countP (fun q => rchB N j q && !done.contains q) l ≤ List.countP (fun q => rchB N i q && !done.contains q) l ∧ (j ∈ l → List.countP (fun q => rchB N j q && !done.contains q) l < List.countP (fun q => rchB N i q && !done.contains q) l) := by
          intro l
          induction l with
          | nil => intro _; exact ⟨Nat.le_refl _, fun h => by cases h⟩
          | cons a l ih =>
            intro hl
            obtain ⟨ih1, ih2⟩ := ih (fun q hq => hl q (List.mem_cons_of_mem _ hq))
            have himp : (rchB N j a && !done.contains a) = true → (rchB N i a && !done.contains a) = true := by
              intro q
              rw [Bool.and_eq_true] at q ⊢
              exact ⟨rch_t j1 j2 q.1, q.2⟩
            rw [List.countP_cons, List.countP_cons]
            constructor
            · by_cases q : (rchB N j a && !done.contains a) = true
              · rw [if_pos q, if_pos (himp q)]; omega
              · rw [if_neg q]; split <;> omega
            · intro hj
              by_cases ja : j = a
              · subst ja
                rw [if_neg (by rw [ha j]; simp), if_pos (by rw [j2]; simpa using j3)]
                omega
              · have hj' : j ∈ l := by
                  rcases List.mem_cons.mp hj with h | h
                  · exact absurd h ja
                  · exact h
                have := ih2 hj'
                by_cases q : (rchB N j a && !done.contains a) = true
                · rw [if_pos q, if_pos (himp q)]; omega
                · rw [if_neg q]; split <;> omega
        exact (hsub _ (fun q hq => List.mem_range.mp hq)).2 (List.mem_range.mpr j1)
      cases c with
      | zero => omega
      | succ c => exact rdy_ex ha done c j j1 j3 (by omega)
end
end ZBT

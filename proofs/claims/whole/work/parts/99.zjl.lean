/-! THE CLASS READS: parts of expressions as trees -/
section ZJL
def swL : List Int32 := [0, 0, 0, 0, 0, 0, 0, 0, 0, 0, 0, 0, 0, 0, 2, 0, 0, 0, 0, 0, 0, 0, 3, 0, 0, 1, 0, 0, 0, 13, 14, 15, 16, 11, 12, 5, 6, 7, 8, 9, 10, 0, 4]
/-- the ones behind the first one of among -/
def AMC (Y : zY) : List Tk → Value → Value → List Nat → Prop
  | [], v, nx, F => v = nx ∧ F = []
  | o :: os, v, nx, F => ∃ a b nx' F', v = .ref a ∧ Y.1 a = some (oB 3 [.ref 42, .null, .ref b, .int (-1), .null, nx']) ∧ 139 ≤ a ∧ RTk Y b o ∧ (o.1 = 3 ∨ o.1 = 4) ∧ AMC Y os nx' nx F' ∧ F = a :: F'
def PCH (R : Nat → Den → Value → List Nat → Prop) : List Den → Value → Value → List Nat → Prop
  | [], v, nx, F => v = nx ∧ F = []
  | d :: ds, v, nx, F => ∃ a nx' F1 F2, v = .ref a ∧ R a d nx' F1 ∧ PCH R ds nx' nx F2 ∧ F = F1 ++ F2
/-- what a test's thing may be -/
def tsO (s : Nat) (o : Tk) : Prop := (s = 35 ∧ (o.1 = 3 ∨ o.1 = 4)) ∨ ((s = 36 ∨ s = 37) ∧ o.1 = 3) ∨ ((s = 38 ∨ s = 39 ∨ s = 40) ∧ o.1 = 4)
def PRB (Y : zY) (R : Nat → Den → Value → List Nat → Prop) (s : Nat) (nm on : Value) (sg : Int32) (fi : Value) (F : List Nat) (φ : Den) : Prop :=
  ((s = 33 ∨ s = 34) ∧ F = [] ∧ φ = fun _ => s == 33) ∨
  (s = 29 ∧ F = [] ∧ ∃ i, i < 12 ∧ sg = nI i ∧ φ = fun E => E.2.getD i false) ∨
  (s = 30 ∧ ∃ c ψ, fi = .ref c ∧ R c ψ .null F ∧ φ = fun E => !ψ E) ∨
  ((s = 31 ∨ s = 32) ∧ ∃ ds, PCH R ds fi .null F ∧ φ = if s = 31 then dOr ds else dAnd ds) ∨
  (∃ w wt, nm = .ref wt ∧ RNm Y wt w ∧ ((s = 42 ∧ F = [] ∧ φ = dTest 42 w (false, 0, [])) ∨ (F = [] ∧ ∃ ot o, on = .ref ot ∧ RTk Y ot o ∧ tsO s o ∧ φ = dTest s w (thg o)) ∨ (s = 41 ∧ ∃ ot o os, on = .ref ot ∧ RTk Y ot o ∧ (o.1 = 3 ∨ o.1 = 4) ∧ AMC Y os fi .null F ∧ φ = dAmong w (thg o :: os.map thg))))
/-- the part at a means φ; nx is what comes behind it, F its cells -/
def PRT (Y : zY) : Nat → Nat → Den → Value → List Nat → Prop
  | 0, _, _, _, _ => False
  | k + 1, a, φ, nx, F => ∃ s nm on sg fi F', F = a :: F' ∧ a ∉ F' ∧ 139 ≤ a ∧ Y.1 a = some (oB 3 [.ref (s + 1), nm, on, .int sg, fi, nx]) ∧ PRB Y (PRT Y k) s nm on sg fi F' φ
section
variable {n : Nat} {Y Y0 Y1 Y2 Z : zY} {a b s k p m e tp r w rd pl W W2 WE : Nat} {S S1 F F1 F2 : List Nat} {T : List Int32} {t : Tk} {ts : List Tk} {x v : Int32} {o : yO} {nx nx' vv : Value} {φ ψ : Den}
theorem fx_sw (hF : FXY Y) (hk : k < 43) : yaI Y 45 (nI k) = some (swL.getD k 0) := by
  have h : zg zroL 44 = some (.inl (0, swL.map fun x => Value.int x)) := by decide +kernel
  unfold yaI
  rw [yal_of (hF.2.1 44 0 _ h (by omega) (by omega)) rfl (by omega), zg_eq, List.getElem?_map, List.getElem?_eq_getElem (show k < swL.length from hk), List.getD_eq_getElem?_getD, List.getElem?_eq_getElem (show k < swL.length from hk)]
  rfl
/-- cells are kept -/
def kpt (Y Y1 : zY) (c : Nat) : Prop := ∀ fs, Y.1 c = some (oB 3 fs) → Y1.1 c = some (oB 3 fs)
theorem AMC_f (hT : ∀ x t, RTk Y x t → RTk Y1 x t) : ∀ {os : List Tk} {v nx : Value} {F : List Nat}, AMC Y os v nx F → (∀ c ∈ F, kpt Y Y1 c) → AMC Y1 os v nx F
  | [], _, _, _, h, _ => h
  | o :: os, v, nx, F, h, hk => by
    obtain ⟨a, b, nx', F', h1, h2, h3, h4, h5, h6, h7⟩ := h
    rw [h7] at hk
    exact ⟨a, b, nx', F', h1, hk a List.mem_cons_self _ h2, h3, hT _ _ h4, h5, AMC_f hT h6 (fun c hc => hk c (List.mem_cons_of_mem _ hc)), h7⟩
theorem PCH_f {R R' : Nat → Den → Value → List Nat → Prop} (hR : ∀ a φ nx F, (∀ c ∈ F, kpt Y Y1 c) → R a φ nx F → R' a φ nx F) : ∀ {ds : List Den} {v nx : Value} {F : List Nat}, PCH R ds v nx F → (∀ c ∈ F, kpt Y Y1 c) → PCH R' ds v nx F
  | [], _, _, _, h, _ => h
  | d :: ds, v, nx, F, h, hk => by
    obtain ⟨a, nx', F1, F2, h1, h2, h3, h4⟩ := h
    rw [h4] at hk
    exact ⟨a, nx', F1, F2, h1, hR _ _ _ _ (fun c hc => hk c (List.mem_append_left _ hc)) h2, PCH_f hR h3 (fun c hc => hk c (List.mem_append_right _ hc)), h4⟩
theorem RNm_t (hT : ∀ x t, RTk Y x t → RTk Y1 x t) {x : Nat} {w : List Int32} (h : RNm Y x w) : RNm Y1 x w := by
  obtain ⟨t, h, q⟩ := h
  exact ⟨t, hT _ _ h, q⟩
theorem PRB_f {R R' : Nat → Den → Value → List Nat → Prop} {nm on fi : Value} {sg : Int32} (hT : ∀ x t, RTk Y x t → RTk Y1 x t) (hR : ∀ a φ nx F, (∀ c ∈ F, kpt Y Y1 c) → R a φ nx F → R' a φ nx F) (h : PRB Y R s nm on sg fi F φ) (hk : ∀ c ∈ F, kpt Y Y1 c) : PRB Y1 R' s nm on sg fi F φ := by
  rcases h with h | h | ⟨h1, c, ψ, h2, h3, h4⟩ | ⟨h1, ds, h2, h3⟩ | ⟨w, wt, h1, h2, h3⟩
  · exact Or.inl h
  · exact Or.inr (Or.inl h)
  · exact Or.inr (Or.inr (Or.inl ⟨h1, c, ψ, h2, hR _ _ _ _ hk h3, h4⟩))
  · exact Or.inr (Or.inr (Or.inr (Or.inl ⟨h1, ds, PCH_f hR h2 hk, h3⟩)))
  · refine Or.inr (Or.inr (Or.inr (Or.inr ⟨w, wt, h1, RNm_t hT h2, ?_⟩)))
    rcases h3 with h | ⟨h, ot, o, q1, q2, q3⟩ | ⟨h, ot, o, os, q1, q2, q3, q4, q5⟩
    · exact Or.inl h
    · exact Or.inr (Or.inl ⟨h, ot, o, q1, hT _ _ q2, q3⟩)
    · exact Or.inr (Or.inr ⟨h, ot, o, os, q1, hT _ _ q2, q3, AMC_f hT q4 hk, q5⟩)
theorem PRT_f (hT : ∀ x t, RTk Y x t → RTk Y1 x t) : ∀ (k : Nat) {a : Nat} {φ : Den} {nx : Value} {F : List Nat}, (∀ c ∈ F, kpt Y Y1 c) → PRT Y k a φ nx F → PRT Y1 k a φ nx F
  | 0, _, _, _, _, _, h => h
  | k + 1, a, φ, nx, F, hk, h => by
    obtain ⟨s, nm, on, sg, fi, F', h1, h2, h3, h4, h5⟩ := h
    rw [h1] at hk
    exact ⟨s, nm, on, sg, fi, F', h1, h2, h3, hk a List.mem_cons_self _ h4, PRB_f hT (fun a φ nx F q r => PRT_f hT k q r) h5 (fun c hc => hk c (List.mem_cons_of_mem _ hc))⟩
theorem PRT_k (hf : IMK Y Y1) (h : PRT Y k a φ nx F) : PRT Y1 k a φ nx F := PRT_f (fun _ _ q => RTk_k hf q) k (fun c _ fs q => hf c _ q rfl) h
theorem PCH_k (hf : IMK Y Y1) {ds : List Den} (h : PCH (PRT Y k) ds vv nx F) : PCH (PRT Y1 k) ds vv nx F := PCH_f (Y := Y) (Y1 := Y1) (fun a φ nx F _ r => PRT_k hf r) h (fun c _ fs q => hf c _ q rfl)
theorem AMC_k (hf : IMK Y Y1) {os : List Tk} (h : AMC Y os vv nx F) : AMC Y1 os vv nx F := AMC_f (fun _ _ q => RTk_k hf q) h (fun c _ fs q => hf c _ q rfl)
theorem PRB_m {R R' : Nat → Den → Value → List Nat → Prop} {nm on fi : Value} {sg : Int32} (hR : ∀ a φ nx F, R a φ nx F → R' a φ nx F) (h : PRB Y R s nm on sg fi F φ) : PRB Y R' s nm on sg fi F φ := PRB_f (Y1 := Y) (fun _ _ q => q) (fun a φ nx F _ q => hR a φ nx F q) h (fun c _ fs q => q)
theorem PRT_m1 : ∀ (k : Nat) {a : Nat} {φ : Den} {nx : Value} {F : List Nat}, PRT Y k a φ nx F → PRT Y (k + 1) a φ nx F
  | 0, _, _, _, _, h => h.elim
  | k + 1, a, φ, nx, F, h => by
    obtain ⟨s, nm, on, sg, fi, F', h1, h2, h3, h4, h5⟩ := h
    exact ⟨s, nm, on, sg, fi, F', h1, h2, h3, h4, PRB_m (fun a φ nx F q => PRT_m1 k q) h5⟩
theorem PRT_m {k' : Nat} (hk : k ≤ k') (h : PRT Y k a φ nx F) : PRT Y k' a φ nx F := by
  obtain ⟨d, rfl⟩ : ∃ d, k' = k + d := ⟨k' - k, by omega⟩
  clear hk
  induction d with
  | zero => exact h
  | succ d ih => exact PRT_m1 _ ih
/-- the cell a -/
theorem PRT_c (h : PRT Y k a φ nx F) : ∃ s nm on sg fi, Y.1 a = some (oB 3 [.ref (s + 1), nm, on, .int sg, fi, nx]) ∧ 139 ≤ a ∧ a ∈ F := by
  cases k with
  | zero => exact h.elim
  | succ k =>
    obtain ⟨s, nm, on, sg, fi, F', h1, h2, h3, h4, h5⟩ := h
    exact ⟨s, nm, on, sg, fi, h4, h3, by rw [h1]; exact List.mem_cons_self⟩
/-- what comes behind a part is set -/
theorem RTk_u {fs fs' : List Value} {q : Nat} (h : Y.1 q = some (oB 3 fs)) : ∀ x t, RTk Y x t → RTk (yu Y q (some (oB 3 fs'))) x t := by
  rintro x t ⟨e, nx, s, h1, h2, h3⟩
  refine ⟨e, nx, s, ?_, ?_, h3⟩
  · rw [yu_n]
    · exact h1
    · intro c; rw [c, h] at h1; cases h1
  · rw [yu_n]
    · exact h2
    · intro c; rw [c, h] at h2; cases h2
theorem kpt_u {q c : Nat} {ob : yO} (hc : c ≠ q) : kpt Y (yu Y q (some ob)) c := fun fs h => (yu_n hc).trans h
theorem PRT_u {fs fs' : List Value} {q : Nat} (h : PRT Y k a φ nx F) (hq : Y.1 q = some (oB 3 fs)) (hn : q ∉ F) : PRT (yu Y q (some (oB 3 fs'))) k a φ nx F := PRT_f (RTk_u hq) k (fun c hc => kpt_u (fun e => hn (e ▸ hc))) h
theorem PCH_u {fs fs' : List Value} {q : Nat} {ds : List Den} (h : PCH (PRT Y k) ds vv nx F) (hq : Y.1 q = some (oB 3 fs)) (hn : q ∉ F) : PCH (PRT (yu Y q (some (oB 3 fs'))) k) ds vv nx F := PCH_f (Y := Y) (Y1 := yu Y q (some (oB 3 fs'))) (fun a φ nx F q' r => PRT_f (RTk_u hq) k q' r) h (fun c hc => kpt_u (fun e => hn (e ▸ hc)))
theorem AMC_u {fs fs' : List Value} {q : Nat} {os : List Tk} (h : AMC Y os vv nx F) (hq : Y.1 q = some (oB 3 fs)) (hn : q ∉ F) : AMC (yu Y q (some (oB 3 fs'))) os vv nx F := AMC_f (RTk_u hq) h (fun c hc => kpt_u (fun e => hn (e ▸ hc)))
theorem PRT_nx (h : PRT Y k a φ nx F) (hv : zfit (zty 3 5) vv = true) : ∃ fs fs0, yP Y a 3 5 vv = some (yu Y a (some (oB 3 fs))) ∧ Y.1 a = some (oB 3 fs0) ∧ PRT (yu Y a (some (oB 3 fs))) k a φ vv F ∧ 139 ≤ a := by
  cases k with
  | zero => exact h.elim
  | succ k =>
    obtain ⟨s, nm, on, sg, fi, F', h1, h2, h3, h4, h5⟩ := h
    refine ⟨_, _, yP_of h4 h3 hv rfl, h4, ⟨s, nm, on, sg, fi, F', h1, h2, h3, yu_s, ?_⟩, h3⟩
    exact PRB_f (RTk_u h4) (fun a φ nx F q r => PRT_f (RTk_u h4) k q r) h5 (fun c hc => kpt_u (fun e => h2 (e ▸ hc)))
theorem PCH_snoc {R : Nat → Den → Value → List Nat → Prop} {d : Den} : ∀ {ds : List Den} {v : Value} {F : List Nat}, PCH R ds v (.ref b) F → R b d nx F2 → PCH R (ds ++ [d]) v nx (F ++ F2)
  | [], v, F, h, q => by
    obtain ⟨h1, h2⟩ := h
    subst h2
    exact ⟨b, nx, F2, [], h1, q, ⟨rfl, rfl⟩, by simp⟩
  | d' :: ds, v, F, h, q => by
    obtain ⟨a, nx', G1, G2, h1, h2, h3, h4⟩ := h
    exact ⟨a, nx', G1, G2 ++ F2, h1, h2, PCH_snoc h3 q, by rw [h4, List.append_assoc]⟩
theorem AMC_snoc {o : Tk} {c : Nat} : ∀ {os : List Tk} {v : Value} {F : List Nat}, AMC Y os v (.ref b) F → Y.1 b = some (oB 3 [.ref 42, .null, .ref c, .int (-1), .null, nx]) → 139 ≤ b → RTk Y c o → (o.1 = 3 ∨ o.1 = 4) → AMC Y (os ++ [o]) v nx (F ++ [b])
  | [], v, F, h, q, q0, q1, q2 => by
    obtain ⟨h1, h2⟩ := h
    subst h2
    exact ⟨b, c, nx, [], h1, q, q0, q1, q2, ⟨rfl, rfl⟩, rfl⟩
  | o' :: os, v, F, h, q, q0, q1, q2 => by
    obtain ⟨a, b', nx', F', h1, h2, h3, h4, h5, h6, h7⟩ := h
    exact ⟨a, b', nx', F' ++ [b], h1, h2, h3, h4, h5, AMC_snoc h6 q q0 q1 q2, by rw [h7]; rfl⟩
end
end ZJL

/-! WHAT WAS LOADED IS SOUND -/
section ZTP
variable {P : Pln} {N : List (List (Nat × Int32))} {L : Ldd} {K : KL} {a : Int32}
theorem ring_acyc {u : Unit} (hN : NL N) (hne : ∀ (f : Nat) (l : List (Nat × Int32)), N[f]? = some l → ∀ x ∈ l, x.1 ≠ f) (h : sRing P N = .inr u) (i : Nat) : rchB N i i = false := by
  rw [sRing_eq] at h
  have hnil : (List.range N.length).flatMap (rgF P N) = [] := by
    cases hl : (List.range N.length).flatMap (rgF P N) with
    | nil => rfl
    | cons a l => rw [hl] at h; cases h
  refine acyc hN (fun i g he => ?_) i
  have hi := (edge_lt hN he).1
  obtain ⟨l, hl⟩ : ∃ x, N[i]? = some x := ⟨_, List.getElem?_eq_getElem hi⟩
  have hgd : N.getD i [] = l := by rw [List.getD_eq_getElem?_getD, hl]; rfl
  unfold edge at he
  rw [hgd, List.any_eq_true] at he
  obtain ⟨x, hx, hxe⟩ := he
  have hxe : x.1 = g := by simpa using hxe
  refine ⟨fun q => hne i l hl x hx (by omega), ?_⟩
  cases hr : rchB N g i with
  | false => rfl
  | true =>
    exfalso
    rw [List.flatMap_eq_nil_iff] at hnil
    have hrg := hnil i (List.mem_range.mpr hi)
    unfold rgF at hrg
    rw [List.filterMap_eq_nil_iff, hgd] at hrg
    obtain ⟨k, hk⟩ := List.mem_iff_getElem?.mp hx
    have := hrg k (List.mem_range.mpr (lt_of_get hk))
    unfold rg1 at this
    rw [hgd, List.getD_eq_getElem?_getD, hk] at this
    rw [if_pos (by show rchB N x.1 i = true; rw [hxe]; exact hr)] at this
    cases this
/-- each behind those that it reaches -/
def TPO (N : List (List (Nat × Int32))) (S : List Nat) : Prop := ∀ (i g : Nat), S[i]? = some g → g < N.length ∧ g ∉ S.take i ∧ ∀ j, rchB N g j = true → j ∈ S.take i
theorem TPO_snoc {S : List Nat} {g : Nat} (h : TPO N S) (h1 : g < N.length) (h2 : g ∉ S) (h3 : ∀ j, rchB N g j = true → j ∈ S) : TPO N (S ++ [g]) := by
  intro i x hx
  rcases get_app hx with hx | ⟨hz, rfl⟩
  · have hi := lt_of_get hx
    rw [List.take_append_of_le_length (by omega)]
    exact h i x hx
  · rw [hz, List.take_append_of_le_length (by omega), List.take_length]
    exact ⟨h1, h2, h3⟩
theorem seqL_tpo (hN : NL N) (ha : ∀ i, rchB N i i = false) : ∀ (m : Nat) (done : List Nat), done.length + m = N.length → TPO N done → TPO N (seqL N m done)
  | 0, done, _, h => h
  | m + 1, done, hm, h => by
    obtain ⟨i0, i1, i2⟩ : ∃ i, i < N.length ∧ i ∉ done := by
      refine Classical.byContradiction fun q => ?_
      have := pig N.length done (fun i hi => Classical.byContradiction fun r => q ⟨i, hi, r⟩)
      omega
    obtain ⟨j, j1, j2⟩ := rdy_ex ha done _ i0 i1 i2 (Nat.le_refl _)
    obtain ⟨a, ha'⟩ : ∃ a, (List.range N.length).find? (fun i => ready N done i) = some a := by
      cases hfi : (List.range N.length).find? (fun i => ready N done i) with
      | some a => exact ⟨a, rfl⟩
      | none =>
        rw [List.find?_eq_none] at hfi
        exact absurd j2 (hfi j (List.mem_range.mpr j1))
    have haN : a < N.length := List.mem_range.mp (List.mem_of_find?_eq_some ha')
    have hr : ready N done a = true := List.find?_some ha'
    unfold ready at hr
    rw [Bool.and_eq_true, List.all_eq_true] at hr
    show TPO N (seqL N m (done ++ [((List.range N.length).find? (fun i => ready N done i)).getD 0]))
    rw [ha']
    refine seqL_tpo hN ha m _ (by rw [List.length_append]; show _ + 1 + m = _; omega) (TPO_snoc h haN (by simpa using hr.1) (fun j hj => ?_))
    have hj : rchB N a j = true := hj
    have := hr.2 j (List.mem_range.mpr (path_lt hN _ hj).2)
    rw [hj] at this
    simpa using this
theorem TPO_nd {S : List Nat} (h : TPO N S) : S.Nodup := by
  refine List.pairwise_iff_getElem.mpr fun i j hi hj hij e => ?_
  have := (h j S[j] (List.getElem?_eq_getElem hj)).2.1
  refine this (List.mem_iff_getElem?.mpr ⟨i, ?_⟩)
  rw [List.getElem?_take_of_lt hij, List.getElem?_eq_getElem hi, e]
theorem TPO_all {S : List Nat} (h : TPO N S) (hl : S.length = N.length) {f : Nat} (hf : f < N.length) : f ∈ S := by
  refine Classical.byContradiction fun q => ?_
  have := nd_len N.length (f :: S) (List.nodup_cons.mpr ⟨q, TPO_nd h⟩) (fun x hx => by
    rcases List.mem_cons.mp hx with rfl | hx
    · exact hf
    · obtain ⟨i, hi⟩ := List.mem_iff_getElem?.mp hx
      exact (h i x hi).1)
  have : S.length + 1 ≤ N.length := this
  omega
theorem find_cong {α : Type} {p q : α → Bool} : ∀ {l : List α}, (∀ x ∈ l, p x = q x) → l.find? p = l.find? q
  | [], _ => rfl
  | a :: l, h => by
    have ha := h a List.mem_cons_self
    have hr := find_cong (fun x hx => h x (List.mem_cons_of_mem _ hx))
    cases hp : p a with
    | true => rw [List.find?_cons_of_pos hp, List.find?_cons_of_pos (by rw [← ha]; exact hp)]
    | false => rw [List.find?_cons_of_neg (by rw [hp]; decide), List.find?_cons_of_neg (by rw [← ha, hp]; decide), hr]
theorem wrk_cong {W W' : Nat → Int32} {f : Nat} (h : ∀ x ∈ L.2.1.getD f [], W x.1 = W' x.1) : wrk L K W f a = wrk L K W' f a := by
  unfold wrk byI badN
  rw [find_cong (q := fun x => !(W' x.1 == x.2)) (fun x hx => by rw [h x hx])]
/-- what is needed is worked out before -/
def TPW (L : Ldd) : Prop := ∀ (i g : Nat), L.2.2[i]? = some g → ∀ x ∈ L.2.1.getD g [], x.1 ∈ L.2.2.take i
theorem wrth_ind (hT : TPW L) : ∀ (r done : List Nat) (W W' : Nat → Int32), done ++ r = L.2.2 → (∀ g ∈ done, W g = W' g) → ∀ g ∈ L.2.2, wrth L K a r W g = wrth L K a r W' g
  | [], done, W, W', hr, h, g, hg => by
    rw [List.append_nil] at hr
    exact h g (by rw [hr]; exact hg)
  | q :: r, done, W, W', hr, h, g, hg => by
    have hq : L.2.2[done.length]? = some q := by rw [← hr, List.getElem?_append_right (Nat.le_refl _), Nat.sub_self]; rfl
    have hw : wrk L K W q a = wrk L K W' q a := wrk_cong (fun x hx => h x.1 (by
      have := hT _ _ hq x hx
      rw [← hr, List.take_left] at this
      exact this))
    show wrth L K a r (upW W q (wrk L K W q a).1) g = wrth L K a r (upW W' q (wrk L K W' q a).1) g
    refine wrth_ind hT r (done ++ [q]) _ _ (by rw [List.append_assoc]; exact hr) (fun x hx => ?_) g hg
    unfold upW
    by_cases e : x = q
    · rw [if_pos e, if_pos e, hw]
    · rw [if_neg e, if_neg e]
      rcases List.mem_append.mp hx with hx | hx
      · exact h x hx
      · exact absurd (List.mem_singleton.mp hx) e
/-- what was loaded is sound -/
def LOK (L : Ldd) : Prop := PWF L.1 ∧ PDp L.1 ∧ PBd L.1 ∧ L.2.1.length = L.1.2.1.length ∧ L.2.2.length = L.1.2.1.length ∧ NL L.2.1 ∧ TPO L.2.1 L.2.2
theorem LOK_TPW (h : LOK L) : TPW L := by
  intro i g hg x hx
  obtain ⟨_, _, _, h4, h5, h6, h7⟩ := h
  refine (h7 i g hg).2.2 x.1 (rch_e ?_)
  unfold edge
  rw [List.any_eq_true]
  exact ⟨x, hx, by simp⟩
theorem LOK_all (h : LOK L) {f : Nat} (hf : f < L.1.2.1.length) : f ∈ L.2.2 := by
  obtain ⟨_, _, _, h4, h5, h6, h7⟩ := h
  exact TPO_all h7 (by omega) (by omega)
/-- whatever the flags were worth before -/
theorem val_ind (h : LOK L) {W : Nat → Int32} {f : Nat} (hf : f < L.1.2.1.length) : wrk L K (wrth L K a L.2.2 W) f a = valS L K f a := by
  unfold valS
  refine wrk_cong (fun x hx => ?_)
  have hxl : x.1 < L.1.2.1.length := by
    obtain ⟨_, _, _, h4, _, h6, _⟩ := h
    by_cases hfl : f < L.2.1.length
    · rw [List.getD_eq_getElem?_getD, List.getElem?_eq_getElem hfl] at hx
      have := h6 _ (List.getElem_mem hfl) x hx
      omega
    · omega
  exact wrth_ind (LOK_TPW h) L.2.2 [] _ _ rfl (fun g hg => by cases hg) x.1 (LOK_all h hxl)
theorem sLoad_ok {T : List Int32} (h : sLoad T = .inr L) : LOK L := by
  unfold sLoad at h
  obtain ⟨x, hx, h⟩ := rb_inr_el h
  obtain ⟨N, hN, h⟩ := rb_inr_el h
  obtain ⟨u, hu, h⟩ := rb_inr_el h
  cases h
  obtain ⟨s1, s2⟩ := sSetN_r hN
  have hwf := sTxtL_wf 6000 _ _ PWF_0 hx
  have hdp := sTxtL_dp 6000 _ _ ⟨fun i s hs => (by cases hs), fun R hR => (by cases hR)⟩ hx
  obtain ⟨_, hbd⟩ := sTxtL_end 6000 _ _ ⟨by show 0 ≤ 12; omega, by show 0 ≤ 24; omega, by show 0 ≤ 8; omega⟩ (by show 45 ≤ 6000 + (0 + 0 + 0); omega) hx
  have hNL : NL N := by
    intro l hl x hx
    obtain ⟨f, hf⟩ := List.mem_iff_getElem?.mp hl
    rw [s1]
    exact ((s2 f l hf).2 x hx).2
  have hac := ring_acyc hNL (fun f l hl x hx => ((s2 f l hl).2 x hx).1) hu
  refine ⟨hwf, hdp, hbd, s1, ?_, hNL, ?_⟩
  · obtain ⟨r, r1, r2⟩ := seqL_ext (N := N) N.length []
    show (seqL N N.length []).length = _
    rw [r1, List.nil_append, r2, s1]
  · exact seqL_tpo hNL hac N.length [] (by show 0 + _ = _; omega) (fun i g hg => (by cases hg))
def L0 : Ldd := (([], [], [], [], [], [], 0), [], [])
theorem L0_ok : LOK L0 := ⟨PWF_0, ⟨fun i s hs => (by cases hs), fun R hR => (by cases hR)⟩, ⟨by show 0 ≤ 12; omega, by show 0 ≤ 24; omega, by show 0 ≤ 8; omega⟩, rfl, rfl, fun l hl => (by cases hl), fun i g hg => (by cases hg)⟩
end ZTP

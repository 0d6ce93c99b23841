/-! THE VIRTUAL MACHINE, tenth text: calls and entries -/
section ZBODY
theorem zrs.split {ad : List Nat} : ∀ {us vs rs : List Value}, zrs ad (us ++ vs) rs → ∃ a b, rs = a ++ b ∧ zrs ad us a ∧ zrs ad vs b
  | [], vs, rs, h => ⟨[], rs, rfl, rfl, h⟩
  | u :: us, vs, rs, ⟨w, ws, e, h1, h2⟩ => by
    obtain ⟨a, b, e2, h3, h4⟩ := zrs.split h2
    exact ⟨w :: a, b, by rw [e, e2]; rfl, ⟨w, a, rfl, h1, h3⟩, h4⟩
theorem zTk_spec : ∀ (n : Nat) (st acc vs st' : List Value), zTk n st acc = some (vs, st') → ∃ pre, st = pre ++ st' ∧ vs = pre.reverse ++ acc ∧ pre.length = n
  | 0, st, acc, vs, st', h => by simp only [zTk, Option.some.injEq, Prod.mk.injEq] at h; exact ⟨[], by rw [h.2]; rfl, by rw [h.1]; rfl, rfl⟩
  | n + 1, [], acc, vs, st', h => by simp [zTk] at h
  | n + 1, v :: st, acc, vs, st', h => by
    simp only [zTk] at h
    obtain ⟨pre, h1, h2, h3⟩ := zTk_spec n st (v :: acc) vs st' h
    exact ⟨v :: pre, by rw [h1]; rfl, by rw [h2]; simp, by simp [h3]⟩
theorem zTk_real {ad : List Nat} {n : Nat} {st vs st' rs : List Value} (h : zTk n st [] = some (vs, st')) (hs : zrs ad st rs) : ∃ ws rest, rs = ws.reverse ++ rest ∧ zrs ad vs ws ∧ zrs ad st' rest ∧ ws.length = n := by
  obtain ⟨pre, h1, h2, h3⟩ := zTk_spec n st [] vs st' h
  rw [List.append_nil] at h2
  rw [h1] at hs
  obtain ⟨a, b, e, h4, h5⟩ := zrs.split hs
  refine ⟨a.reverse, b, by rw [List.reverse_reverse]; exact e, by rw [h2]; exact h4.reverse, h5, ?_⟩
  rw [List.length_reverse, h4.length, h3]
theorem zcat_sum : ∀ vs : List Value, zcat vs = (vs.map fun v => v.category).sum
  | [] => rfl
  | v :: vs => by simp [zcat, zcat_sum vs]
theorem zsl_len {ad : List Nat} : ∀ {vs ws : List Value}, zrs ad vs ws → (lg_sl ws).length = (zsl vs).length
  | [], ws, h => by rw [show ws = [] from h]; rfl
  | v :: vs, ws, ⟨w, ws', e, h1, h2⟩ => by
    have ih := zsl_len h2
    have hc := h1.cat
    subst e
    unfold lg_sl at ih ⊢
    rw [List.flatMap_cons, List.length_append, ih, hc]
    cases v <;> simp [zsl, Value.category] <;> omega
theorem zsl_get {ad : List Nat} : ∀ {vs ws : List Value}, zrs ad vs ws → ∀ (i : Nat) (v : Value), zg (zsl vs) i = some (some v) → ∃ w, (lg_sl ws)[i]? = some (.val w) ∧ zr ad v w
  | [], ws, h, i, v, hi => by simp [zsl, zg] at hi
  | u :: vs, ws, ⟨w, ws', e, h1, h2⟩, i, v, hi => by
    have ih := zsl_get h2
    have hc := h1.cat
    subst e
    have one : u.category = 1 → zsl (u :: vs) = some u :: zsl vs → ∃ w', (lg_sl (w :: ws'))[i]? = some (.val w') ∧ zr ad v w' := fun h3 h4 => by
      rw [h4] at hi
      have h5 : lg_sl (w :: ws') = .val w :: lg_sl ws' := by
        unfold lg_sl
        rw [List.flatMap_cons, if_neg (by rw [hc, h3]; decide)]
        rfl
      rw [h5]
      cases i with
      | zero =>
        simp only [zg, Option.some.injEq] at hi
        subst hi
        exact ⟨w, by simp, h1⟩
      | succ j =>
        simp only [zg] at hi
        obtain ⟨w', q1, q2⟩ := ih j v hi
        exact ⟨w', by simpa using q1, q2⟩
    have two : u.category = 2 → zsl (u :: vs) = some u :: none :: zsl vs → ∃ w', (lg_sl (w :: ws'))[i]? = some (.val w') ∧ zr ad v w' := fun h3 h4 => by
      rw [h4] at hi
      have h5 : lg_sl (w :: ws') = .val w :: .second :: lg_sl ws' := by
        unfold lg_sl
        rw [List.flatMap_cons, if_pos (by rw [hc, h3])]
        rfl
      rw [h5]
      cases i with
      | zero =>
        simp only [zg, Option.some.injEq] at hi
        subst hi
        exact ⟨w, by simp, h1⟩
      | succ j =>
        cases j with
        | zero => simp [zg] at hi
        | succ k =>
          simp only [zg] at hi
          obtain ⟨w', q1, q2⟩ := ih k v hi
          exact ⟨w', by simpa using q1, q2⟩
    cases u with
    | int x => exact one rfl rfl
    | long x => exact two rfl rfl
    | float x => exact one rfl rfl
    | double x => exact two rfl rfl
    | null => exact one rfl rfl
    | ref x => exact one rfl rfl
    | retAddr x => exact one rfl rfl
theorem zg_rep_none {i n : Nat} {v : Value} : ∀ (l : List (Option Value)), zg (l ++ List.replicate n (none : Option Value)) i = some (some v) → zg l i = some (some v)
  | [], h => by
    rw [List.nil_append, zg_eq] at h
    rw [List.getElem?_replicate] at h
    split at h <;> cases h
  | a :: l, h => by
    cases i with
    | zero => exact h
    | succ j => simp only [List.cons_append, zg] at h ⊢; exact zg_rep_none l h
theorem zent_zL {ad : List Nat} {vs ws : List Value} {n : Nat} (hs : zrs ad vs ws) (hn : (zsl vs).length ≤ n) : zL ad (zent vs n) (lg_sl ws ++ List.replicate (n - (lg_sl ws).length) Slot.unset).toArray n := by
  have hl := lv_entry ws (n := n) (by rw [zsl_len hs]; exact hn)
  refine ⟨hl.1, hl.2.1, by rw [zent, List.length_append, List.length_replicate]; omega, fun i v hi => ?_⟩
  obtain ⟨w, h1, h2⟩ := zsl_get hs i v (zg_rep_none _ hi)
  refine ⟨w, ?_, h2⟩
  have hlt : i < (lg_sl ws).length := (List.getElem?_eq_some_iff.mp h1).1
  rw [List.getElem?_toArray, List.getElem?_append_left hlt]
  exact h1
variable {G : zG} {D : va_G} {cl : List vw_C} {cnm : Nat → String} {K : List Nat → (Nat → Prop) → State → Prop}
/-- the constants' facts move along -/
def zKok (K : List Nat → (Nat → Prop) → State → Prop) : Prop := ∀ (s U : State) (A A' : Nat → Prop) (ad0 x : List Nat) (H : Heap) (locs : List Loc), K ad0 A s → va_S A s.heap H locs → U.heap = H → s.WarmedH U.vm → (∀ q, q < s.heap.size → A' q → A q) → K (ad0 ++ x) A' U
theorem zPc_blind (hK : zKok K) {ad : List Nat} {vs : List Value} {h : zH} {sz : Nat} : FrameBlind (zPc G D cl cnm K ad vs h sz) := by
  intro a U g mk q
  obtain ⟨ws, q1, q2, q3, q4, q5, q6⟩ := q
  refine ⟨ws, q1, q2, q3, zRep.moved (u := U) (U := U.calling g mk a) (Vm.Alike.refl U.vm) q4, q5, ?_⟩
  have := hK U (U.calling g mk a) _ (zA (zGn G) ad sz) ad [] U.heap [] q6 va_S.rf rfl (State.WarmedH.refl U) (fun q _ h => h)
  rw [List.append_nil] at this
  exact this
theorem zrcv_real {ad : List Nat} {a3 : Nat} {vs ws : List Value} {h : zH} {n0 : Nat} {s : State} {A : Nat → Prop} {ad0 : List Nat} {c0 z0 : Nat} {H : Heap} {locs : List Loc} {cells slots : Nat} (hV : zInv D cl cnm n0 s A ad0 c0 z0 ad h H locs cells slots) (hs : zrs ad vs ws) (hr : zrcv a3 vs h = true) : zrcvR D a3 ws H := by
  unfold zrcv at hr
  unfold zrcvR
  split at hr
  · trivial
  · cases hr
  · split at hr
    · obtain ⟨w, ws', rfl, ⟨b, h1, rfl⟩, h2⟩ := hs
      exact ⟨b, ws', rfl⟩
    · cases hr
  · split at hr
    · split at hr
      · rename_i ci fs ho
        obtain ⟨w, ws', rfl, h1, h2⟩ := hs
        obtain ⟨a, ce, rfl, g2, g3, ⟨y1, y2, y3, -⟩, -⟩ := hV.get ho h1
        have e := Nat.eq_of_beq_eq_true hr
        subst e
        exact ⟨a, ws', ce, rfl, g3, y2, y3⟩
      · cases hr
    · cases hr
/-- behind a call -/
theorem zInv.back {s : State} {ad0 : List Nat} {c0 z0 : Nat} {ad : List Nat} {h h' : zH} {H : Heap} {locs : List Loc} {cells slots : Nat} (hV : zInv D cl cnm (zGn G) s (zA (zGn G) ad0 s.heap.size) ad0 c0 z0 ad h H locs cells slots) (hup : zUp h h') {ad' : List Nat} {st₀ t T' : State} {L : List Loc}
    (h0 : st₀.heap = H) (e1 : T'.heap = t.heap) (hal : s.vm.Alike t.vm) (hL : ∀ q ∈ L, zA (zGn G) ad H.size q.base) (hq : zQb G D cl cnm ad H.size h' ad' st₀ t) :
    zInv D cl cnm (zGn G) s (zA (zGn G) ad0 s.heap.size) ad0 c0 z0 ad' h' T'.heap (locs ++ L) (cells + (h'.2.1 - h.2.1)) (slots + (h'.2.2 - h.2.2)) ∧ ∃ x, ad' = ad ++ x := by
  obtain ⟨v1, v2, v3, v4, ⟨y, v5⟩, v6, v7, v8⟩ := hV
  obtain ⟨⟨x, q1⟩, q2, q3, q4, q5⟩ := hq
  have hsz : s.heap.size ≤ H.size := v3.1
  have hfA : ∀ q, zA (zGn G) ad H.size q → zA (zGn G) ad0 s.heap.size q := by
    rintro q (⟨k, hk, hq⟩ | hq)
    · exact v4 k q hk hq
    · exact Or.inr (by omega)
  obtain ⟨k1, k2, k3⟩ := vx_keep (A0 := zA (zGn G) ad0 s.heap.size) (A1 := zA (zGn G) ad H.size) (free := zA (zGn G) ad H.size) h0 e1 v3 (fun q _ h => hfA q h) hfA hL q5
  have hnew : ∀ k a : Nat, zg ad' k = some a → zg ad k = some a ∨ H.size ≤ a := fun k a hk => by
    by_cases hkl : k < ad.length
    · obtain ⟨b, hb⟩ := zg_of_lt hkl
      have := zg_app x hb
      rw [q1, this] at hk
      cases hk
      exact Or.inl hb
    · exact Or.inr (q4 k a (by omega) hk)
  refine ⟨⟨?_, q3, k3, fun k a hk ha => ?_, ⟨y ++ x, by rw [q1, v5, List.append_assoc]⟩, fun k a hk ha => ?_, ?_, ?_⟩, x, q1⟩
  · rw [e1]
    exact zRep.moved hal.symm q2
  · rcases hnew k a ha with ha | ha
    · exact v4 k a hk ha
    · exact Or.inr (by omega)
  · rcases hnew k a ha with ha | ha
    · exact v6 k a hk ha
    · omega
  · have := hup.1; omega
  · have := hup.2.1; omega
end ZBODY

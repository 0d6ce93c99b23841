/-! THE CLASS READS: readLayer -/
section ZKE
section
variable {n : Nat} {Y Y0 Y1 Y2 Y' : zY} {a b s p m e r q rd pl W W2 WE lo hi x c i : Nat} {S S1 : List Nat} {t : Tk} {ts ts0 : List Tk} {of ob : Int32} {l : Nat → Nat} {rc sq ly sa fr er os : Nat} {k : Nat × List (List Int32)} {xs xs' : Nat → List Nat} {P P' : Pln} {bd : Nat → Nat} {vs : List Value} {w : List Int32} {fn ln : List (List Int32)} {spl : List Spl} {items : List Itm} {y : List Int32 × Int32}
theorem nI_jj {i j : Nat} (hi : i < 2 ^ 31) (hj : j < 2 ^ 31) (e : nI i = nI j) : i = j := by
  have := congrArg Int32.toInt e
  rw [nI_toInt hi, nI_toInt hj] at this
  omega
theorem PLK_c (h : PLK Y pl l rc sq P xs fn ln) (h1 : P'.1 = P.1) (h2 : P'.2.2.2.1 = P.2.2.2.1) (h3 : P'.2.2.2.2.1.length = P.2.2.2.2.1.length) (h4 : P'.2.2.2.2.2 = P.2.2.2.2.2) : PLK Y pl l rc sq P' xs fn ln := by
  unfold PLK SEM PBN at h ⊢
  rw [h1, h2, h3, h4]
  exact h
def addI (P : Pln) (I : Itm) : Pln := (P.1, P.2.1, P.2.2.1, P.2.2.2.1, P.2.2.2.2.1 ++ [I], P.2.2.2.2.2)
/-- an item is counted -/
theorem PLK_i {I : Itm} (h : PLK Y pl l rc sq P xs fn ln) (hR : RS rd pl W Y ts) (hf : FR Y Y1 [rd, pl]) (hP : PLC Y1 pl l (P.2.2.2.2.1.length + 1) P.2.2.2.2.2.2 rc sq) (hl : P.2.2.2.2.1.length < 40) : PLK Y1 pl l rc sq (addI P I) xs fn ln := by
  obtain ⟨g1, g2⟩ := PLK_rd h hR
  obtain ⟨h1, h2, h3, h4, h5, h6, h7⟩ := h
  have hlen : (P.2.2.2.2.1 ++ [I]).length = P.2.2.2.2.1.length + 1 := by rw [List.length_append]; rfl
  refine ⟨?_, LLS_k h2 hf (fun j hj => by simpa using ⟨g2 j hj, LLS_pl h2 h1 hj⟩), SEM_k hf.2.2 h3, h4, h5, ?_, h7⟩
  · show PLC Y1 pl l (P.2.2.2.2.1 ++ [I]).length P.2.2.2.2.2.2 rc sq
    rw [hlen]; exact hP
  · show (P.2.2.2.2.1 ++ [I]).length ≤ 40
    rw [hlen]; omega
/-- a layer is being read -/
def LIP (Y Y' : zY) (rd pl : Nat) (l : Nat → Nat) (rc sq : Nat) (P P' : Pln) (xs xs' : Nat → List Nat) (y : List Int32 × Int32) (ly sa : Nat) : Prop :=
  FR Y Y' (PS rd pl l) ∧ PLK Y' pl l rc sq P' xs' (P.2.1.map (·.1)) (P.2.2.1.map (·.1) ++ [y.1]) ∧ P'.2.1 = P.2.1 ∧ P'.2.2.1 = P.2.2.1 ++ [y] ∧ (∃ rs, P'.2.2.2.1 = P.2.2.2.1 ++ rs ∧ ∀ r ∈ rs, r.1 < P.2.1.length ∧ r.2.1 = nI P.2.2.1.length) ∧ (∃ its, P'.2.2.2.2.1 = P.2.2.2.2.1 ++ its ∧ ∀ I ∈ its, I.1 = P.2.2.1.length ∧ I.2.1 < P.2.1.length) ∧ (∃ more, P'.2.2.2.2.2.1 = P.2.2.2.2.2.1 ++ more) ∧ xs' 4 = xs 4 ∧ xs' 5 = xs 5 ++ [ly] ∧ Y.2.1 ≤ ly ∧ Y.2.1 ≤ sa
theorem LIP_t (h : LIP Y Y' rd pl l rc sq P P' xs xs' y ly sa) (hR : RS rd pl W Y' ts) (hD : DM Y) (hf : FR Y' Y1 [rd]) : LIP Y Y1 rd pl l rc sq P P' xs xs' y ly sa := by
  obtain ⟨h1, h2, h3⟩ := h
  exact ⟨FR_T h1 hf PS_rd hD, PLK_r1 h2 hR hf, h3⟩
/-- the layer's own cells are written -/
theorem LIP_c (h : LIP Y Y' rd pl l rc sq P P' xs xs' y ly sa) (hD : DM Y) (hX : LYX Y' ly sa of fr er ob vs) (hf : FR Y' Y1 S) (hS : ∀ a ∈ S, a = ly ∨ a = sa) : LIP Y Y1 rd pl l rc sq P P' xs xs' y ly sa := by
  obtain ⟨h1, h2, h3, h4, h5, h6, h7, h8, h9, h10, h11⟩ := h
  have hpl : pl ∉ S := fun e => by
    rcases hS _ e with d | d
    · exact cls_ne h2.1.1 hX.1 (by decide) d
    · have := hX.2.1
      rw [← d, h2.1.1] at this; cases this
  have hlk : ∀ j, j < 8 → l j ∉ S := fun k hk e => by
    obtain ⟨⟨cap, x1, _⟩, _⟩ := h2.2.1.1 k hk
    rcases hS _ e with d | d
    · have := hX.1
      rw [← d, x1] at this; cases this
    · have := hX.2.1
      rw [← d, x1] at this; cases this
  exact ⟨FR_T h1 hf (fun a ha => by
    rcases hS a ha with d | d
    · exact Or.inr (by rw [d]; exact h10)
    · exact Or.inr (by rw [d]; exact h11)) hD, PLK_k h2 hf hpl hlk, h3, h4, h5, h6, h7, h8, h9, h10, h11⟩
theorem LYX_r1 (h : LYX Y ly sa of fr er ob vs) (hP : PLK Y pl l rc sq P xs fn ln) (hR : RS rd pl W Y ts) (hf : FR Y Y1 [rd]) : LYX Y1 ly sa of fr er ob vs := by
  obtain ⟨q1, q2⟩ := LYX_ok h hP hR (S := [rd]) (fun a ha => Or.inl (List.mem_singleton.mp ha))
  exact LYX_k h hf q1 q2
/-- what is known of the layer that is read -/
def LST (Y' : zY) (ly sa fr : Nat) (P P' : Pln) (of : Int32) : Prop := ∃ er ob vs, LYX Y' ly sa of fr er ob vs ∧ LYm Y' P'.2.2.2.2.2.1 P'.2.2.2.2.1 P.2.2.1.length ob vs ∧ RNG P'.2.2.2.1 (fun r => r.2.1 = nI P.2.2.1.length) fr P'.2.2.2.1.length
/-- flags stand while a layer is read -/
theorem LIP_f {f : Nat} {g : Flg} {fl : Nat} (hP : PLN Y pl l rc sq bd P xs) (hR0 : RS rd pl W2 Y ts0) (h : LIP Y Y' rd pl l rc sq P P' xs xs' y ly sa) (h1 : (xs 4)[f]? = some fl) (h2 : P.2.1[f]? = some g) : ∃ c1, KN Y' fl c1 g.2.1 ∧ (∀ j, j < 8 → c1 ≠ l j) ∧ ∃ fs, Y'.1 fl = some (oB 0 fs) := by
  obtain ⟨g1, g2, _⟩ := hP
  obtain ⟨k1, k2, k3, k4, ⟨rs, k5, k5'⟩, k6, ⟨more, k7⟩, _⟩ := h
  have hl8 : P.2.2.1.length ≤ 8 := by have := g1.2.2.2.2.2.2.2.2.2; rw [List.length_map] at this; exact this
  have ho := FLs_k (more := more) (rs := rs) g2 g1 hR0 PS_ok k1 (fun r hr q => by
    have := (k5' r hr).2
    rw [q.2] at this
    exact nI_m1 (k := P.2.2.1.length) (by omega) this.symm)
  obtain ⟨A, kd, st, fr, er, X, v4, v5, q1, q2, q3, q4, q5, q6, q7⟩ := ho.2 f fl g h1 h2
  exact ⟨A 1, KN_of q1 q4.1 q4.2.2.1 q4.2.2.2.1 q4.2.1, fun j hj => q6 1 j (by omega) (by omega) hj, _, q1.1⟩
/-- the layer is told -/
theorem ly_end (hP : PLN Y pl l rc sq bd P xs) (hR0 : RS rd pl W2 Y ts0) (h : LIP Y Y' rd pl l rc sq P P' xs xs' y ly sa) (hX : LYX Y' ly sa y.2 fr er ob vs) (hm : LYm Y' P'.2.2.2.2.2.1 P'.2.2.2.2.1 P.2.2.1.length ob vs) (hr : RNG P'.2.2.2.1 (fun r => r.2.1 = nI P.2.2.1.length) fr er) : PLN Y' pl l rc sq bd P' xs' := by
  obtain ⟨k1, k2, k3, k4, ⟨rs, k5, k5'⟩, ⟨its, k6, k6'⟩, ⟨more, k7⟩, k8, k9, k10, k11⟩ := h
  obtain ⟨g1, g2, g3, g4, ⟨vr, g5, g5'⟩, ⟨vq, g6, g6'⟩, g7, g8, g9, g10, g11, g12, g13⟩ := hP
  have hl8 : P.2.2.1.length ≤ 8 := by have := g1.2.2.2.2.2.2.2.2.2; rw [List.length_map] at this; exact this
  have ho := FLs_k (more := more) (rs := rs) g2 g1 hR0 PS_ok k1 (fun r hr q => by
    have := (k5' r hr).2
    rw [q.2] at this
    exact nI_m1 (k := P.2.2.1.length) (by omega) this.symm)
  have hly := LYs_k (more := more) (rs := rs) (its := its) g3 g1 hR0 PS_ok k1 (fun r hr i hi e => by
    rw [(k5' r hr).2] at e
    have := nI_jj (by omega) (by omega) e
    omega) (fun I hI => by have := (k6' I hI).1; omega)
  have hlen5 := g3.1
  have hmap : P'.2.2.1.map (·.1) = P.2.2.1.map (·.1) ++ [y.1] := by rw [k4, List.map_append]; rfl
  refine ⟨by rw [hmap, k3]; exact k2, by rw [k3, k5, k7, k8]; exact ho, ⟨?_, ?_⟩, ⟨?_, ?_⟩, ⟨vr, FR_k k1 g5 (arr_ok g5 g1 hR0 PS_ok), g5'⟩, ⟨vq, FR_k k1 g6 (arr_ok g6 g1 hR0 PS_ok), g6'⟩, g7, g8, g9, g10, g11, by rw [k3]; exact g12, by rw [k3]; have := k1.1; omega⟩
  · rw [k9, k4, List.length_append, List.length_append, hlen5]; rfl
  · intro i ly' y' q1 q2
    rw [k9] at q1
    rw [k4] at q2
    rcases Nat.lt_or_ge i P.2.2.1.length with d | d
    · rw [List.getElem?_append_left (by omega)] at q1
      rw [List.getElem?_append_left d] at q2
      rw [k5, k6, k7]
      exact hly.2 i ly' y' q1 q2
    · rw [List.getElem?_append_right (by omega)] at q1
      rw [List.getElem?_append_right d] at q2
      have hi : i = P.2.2.1.length := by
        rcases Nat.eq_zero_or_pos (i - P.2.2.1.length) with e | e
        · omega
        · obtain ⟨z, hz⟩ : ∃ z, i - P.2.2.1.length = z + 1 := ⟨i - P.2.2.1.length - 1, by omega⟩
          rw [hz] at q2
          cases q2
      subst hi
      rw [Nat.sub_self] at q2
      rw [hlen5, Nat.sub_self] at q1
      cases q1
      cases q2
      exact ⟨fr, er, ob, sa, vs, hX, hm, hr⟩
  · intro r hr'
    rw [k5] at hr'
    rw [k3, k4, List.length_append]
    rcases List.mem_append.mp hr' with d | d
    · have := g4.1 r d
      refine ⟨this.1, this.2.imp id ?_⟩
      rintro ⟨j, hj, e⟩
      exact ⟨j, by show j < P.2.2.1.length + 1; omega, e⟩
    · have := k5' r d
      exact ⟨this.1, Or.inr ⟨P.2.2.1.length, by show P.2.2.1.length < P.2.2.1.length + 1; omega, this.2⟩⟩
  · intro I hI
    rw [k6] at hI
    rw [k3, k4, List.length_append]
    rcases List.mem_append.mp hI with d | d
    · have := g4.2 I d
      exact ⟨by show I.1 < P.2.2.1.length + 1; omega, this.2⟩
    · have := k6' I d
      exact ⟨by show I.1 < P.2.2.1.length + 1; omega, this.2⟩
/-- a set is put -/
theorem as_ok {f za : Nat} {s : Srv} (hX : LYX Y ly sa of fr er ob vs) (hm : LYm Y spl items i ob vs) (hf : f < 24) (hz : RSv Y spl za s) : ∃ Y1 vs', c110 n ly (nI f) (some za) Y = some ((), Y1) ∧ (Y1 = Y ∨ Y1 = yu Y sa (some (oA 12 vs'))) ∧ LYX Y1 ly sa of fr er ob vs' ∧ (RSv Y1 spl za s → (∀ x s', RSv Y spl x s' → RSv Y1 spl x s') → LYm Y1 spl (items ++ [(i, f, some s)]) i ob vs') := by
  obtain ⟨x1, x2, x3, x4, x5⟩ := hX
  have hcl : ∃ fs, Y.1 za = some (oB 7 fs) := by
    cases s with
    | inl v => obtain ⟨_, _, h, _⟩ := hz; exact ⟨_, h⟩
    | inr j => obtain ⟨_, _, _, _, _, ⟨_, _, h, _⟩, _⟩ := hz; exact ⟨_, h⟩
  obtain ⟨fz, hcl⟩ := hcl
  have hstart : ∀ {K : Int32 × zY → Option (Unit × zY)} {R}, K (1, Y) = R → ((yR Y ly 2 4).bind fun x1 => x1.bind fun a3 => (yL Y a3).bind fun x4 => (c13 n (nI f) x4 Y).bind K) = R := by
    intro K R h
    refine bnd_eq (yR_of (r := some sa) x1 rfl) (bnd_eq rfl (bnd_eq (yL_of x2) ?_))
    rw [x3]
    exact bnd_eq (bel hf (by omega)) h
  have hgv : vs[f]? = some .null ∨ ∃ zb, vs[f]? = some (.ref zb) := by
    have := hm.2 f hf
    cases hfd : items.find? (fun I => I.2.1 == f && I.1 == i && I.2.2.isSome == true) with
    | none => rw [hfd] at this; exact Or.inl this
    | some I => rw [hfd] at this; obtain ⟨zb, s', q1, q2, q3⟩ := this; exact Or.inr ⟨zb, q2⟩
  have hrd : ∀ {v : Value} {r : Option Nat}, vs[f]? = some v → v = va_rf r → yaR Y sa (nI f) = some r := by
    intro v r h e
    unfold yaR
    rw [yal_of x2 rfl (by omega), zg_eq, h, e]
    cases r <;> rfl
  rcases hgv with hv | ⟨zb, hv⟩
  · refine ⟨yu Y sa (some (oA 12 (zs vs f (.ref za)))), zs vs f (.ref za), ?_, Or.inr rfl, ⟨?_, yu_s, by rw [zs_length]; exact x3, x4, x5⟩, fun h1 h2 => ?_⟩
    · unfold c110
      refine hstart ?_
      dsimp only
      rw [if_neg (by decide)]
      refine bnd_eq (yR_of (r := some sa) x1 rfl) (bnd_eq rfl (bnd_eq (hrd (r := none) hv rfl) ?_))
      dsimp only
      refine bnd_eq (yR_of (r := some sa) x1 rfl) (bnd_eq rfl (bnd_eq (yS_of (y := .ref za) (u := .null) x2 x5 ?_ (by omega) (by rw [zg_eq]; exact hv)) rfl))
      show ysA Y 12 (.ref za) = _
      unfold ysA
      dsimp only
      rw [hcl]
      rfl
    · rw [yu_n]
      · exact x1
      · intro e; rw [e, x2] at x1; cases x1
    · have hm1 : LYm (yu Y sa (some (oA 12 (zs vs f (.ref za))))) spl items i ob vs := by
        refine ⟨hm.1, fun f' hf' => ?_⟩
        have := hm.2 f' hf'
        cases hfd : items.find? (fun I => I.2.1 == f' && I.1 == i && I.2.2.isSome == true) with
        | none => rw [hfd] at this; exact this
        | some I =>
          rw [hfd] at this
          obtain ⟨zb, s', q1, q2, q3⟩ := this
          exact ⟨zb, s', q1, q2, h2 _ _ q3⟩
      exact LYm_set1 hm1 hf x3 hv h1
  · refine ⟨Y, vs, ?_, Or.inl rfl, ⟨x1, x2, x3, x4, x5⟩, fun h1 h2 => LYm_set0 hm hf hv⟩
    unfold c110
    refine hstart ?_
    dsimp only
    rw [if_neg (by decide)]
    exact bnd_eq (yR_of (r := some sa) x1 rfl) (bnd_eq rfl (bnd_eq (hrd (r := some zb) hv rfl) rfl))
/-- serves stand when an array of another kind is written -/
theorem RSv_a {za : Nat} {s : Srv} {vs' : List Value} (h2 : Y.1 sa = some (oA 12 vs)) (h : RSv Y spl za s) : RSv (yu Y sa (some (oA 12 vs'))) spl za s := by
  have := RSv_k (more := []) (Y1 := yu Y sa (some (oA 12 vs'))) (FR_u h2 rfl).2.2 h
  rw [List.append_nil] at this
  exact this
end
end ZKE

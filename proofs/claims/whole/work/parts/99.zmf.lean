/-! THE CALLS OF THE CLASS: know -/
section ZMF
section
variable {n : Nat} {Y Y0 Y1 Y2 : zY} {a b jd k pl rc sq x tp ou w z rd W WE r j : Nat} {S : List Nat} {K : KL} {vI vW vY vs fs v0 v1 : List Value} {A : Nat → Nat} {ans : Int32} {bs : List Bool} {l : Nat → Nat} {xs : Nat → List Nat} {bd : Nat → Nat} {L : Ldd} {s : St} {T T' : List Int32} {y c v kl : Int32} {o : yO} {P : Pln} {ts : List Tk} {t u : Tk}
/-- a token that cannot come there -/
theorem tk_bad {q : Nat} (h : RS rd pl W Y ts) (hne : (hd ts).1 ≠ q) : ∃ Y1, c71 n rd (some (q + 1)) Y = some (.inr 18, Y1) ∧ BY Y1 ∧ FR Y Y1 [rd] ∧ wY Y1 = wY Y + 22 := by
  obtain ⟨hB, hR, hW⟩ := h
  obtain ⟨a, e, nx, h1, h2, h3, h4⟩ := rdr_t hR
  obtain ⟨Y1, r1, r2, r3, r4, r5⟩ := ref_ok (n := n) (kd := 2) hB hR h2
  refine ⟨Y1, ?_, r2, r3, r4⟩
  unfold c71
  refine bnd_eq h1 (bnd_eq rfl (bnd_eq h4 (bnd_eq (rEq_s (by omega) (by omega)) ?_)))
  rw [if_neg (by rw [decide_eq_false (by omega)]; decide)]
  exact zgd_eq (rdr_o hR) (bnd_eq r1 rfl)
/-- the end is taken -/
theorem tk_end (h : RS rd pl W Y ts) (h0 : (hd ts).1 = 0) : ∃ v, c71 n rd (some 1) Y = some (.inl v, Y) := by
  obtain ⟨hB, hR, hW⟩ := h
  obtain ⟨a, e, nx, h1, h2, h3, h4⟩ := rdr_t hR
  obtain ⟨⟨fk, fp, q, k1, k2⟩, h139⟩ := hR
  have : q = a := by
    have := yR_of (r := some q) (k := 3) k1 rfl
    rw [h1] at this
    exact (Option.some.inj (Option.some.inj this)).symm
  subst this
  cases ts with
  | nil => exact k2.elim
  | cons t ts =>
    obtain ⟨e', nx', j1, j2⟩ := k2
    obtain ⟨st, j3, j4⟩ := j1
    have h0 : t.1 = 0 := h0
    rcases j2 with ⟨_, d, _⟩ | ⟨d, _⟩
    · refine ⟨some q, ?_⟩
      unfold c71
      refine bnd_eq h1 (bnd_eq rfl (bnd_eq h4 (bnd_eq (rEq_s (by omega) (by omega)) ?_)))
      have h0' : (hd (t :: ts)).1 = 0 := h0
      rw [if_pos (decide_eq_true (by rw [h0']))]
      unfold cb71_19
      refine bnd_eq rfl (bnd_eq (yR_of (r := none) j3 (by rw [d]; rfl)) rfl)
    · omega
/-- what is learnt is put down -/
theorem lrn_b (hB : BY Y) (hjd : Y.1 jd = some (oB 1 [.ref (A 0), .ref (A 1), .int kl, .ref (A 3), .ref (A 4), .ref (A 5), .int ans])) (h0 : Y.1 (A 0) = some (oA 14 v0)) (h1 : Y.1 (A 1) = some (oA 14 v1)) (l0 : v0.length = 8) (l1 : v1.length = 8) (hne : A 0 ≠ A 1) (p0 : 139 ≤ A 0) (p1 : 139 ≤ A 1) (ha : ∃ fs, Y.1 a = some (oB 9 fs)) (hr : ∃ fs, Y.1 r = some (oB 9 fs)) (hj : j < 8) : cb135_29 n jd (some a) (some r) (nI j) Y = some ((), yu (yu Y (A 0) (some (oA 14 (zs v0 j (.ref a))))) (A 1) (some (oA 14 (zs v1 j (.ref r))))) := by
  obtain ⟨fa, ha⟩ := ha
  obtain ⟨fr, hr⟩ := hr
  have hj0 : Y.1 jd = _ := hjd
  have hz0 : zg v0 j = some v0[j] := by rw [zg_eq, List.getElem?_eq_getElem (by omega)]
  have hz1 : zg v1 j = some v1[j] := by rw [zg_eq, List.getElem?_eq_getElem (by omega)]
  have hok : ∀ {Z : zY} {q : Nat} {fs : List Value}, Z.1 q = some (oB 9 fs) → ysA Z 14 (.ref q) = some (.ref q) := by
    intro Z q fs hq
    show (match Z.1 q with | some (.inl (ci, _)) => (match zasg ci 9 with | true => some (Value.ref q) | false => none) | _ => none) = _
    rw [hq]
    rfl
  have hr' : (yu Y (A 0) (some (oA 14 (zs v0 j (.ref a))))).1 r = some (oB 9 fr) := by rw [yu_n (oBA_ne hr h0)]; exact hr
  have hjd' : (yu Y (A 0) (some (oA 14 (zs v0 j (.ref a))))).1 jd = some (oB 1 [.ref (A 0), .ref (A 1), .int kl, .ref (A 3), .ref (A 4), .ref (A 5), .int ans]) := by rw [yu_n (oBA_ne hjd h0)]; exact hjd
  have h1' : (yu Y (A 0) (some (oA 14 (zs v0 j (.ref a))))).1 (A 1) = some (oA 14 v1) := by rw [yu_n hne.symm]; exact h1
  unfold cb135_29
  refine bnd_eq (yR_of (r := some (A 0)) hjd rfl) (bnd_eq rfl (bnd_eq (yL_of h0) ?_))
  rw [l0]
  refine bnd_eq (bel hj (by omega)) ?_
  dsimp only
  rw [if_neg (by decide)]
  refine bnd_eq (yR_of (r := some (A 1)) hjd rfl) (bnd_eq rfl (bnd_eq (yL_of h1) ?_))
  rw [l1]
  refine bnd_eq (bel hj (by omega)) ?_
  dsimp only
  rw [if_neg (by decide)]
  refine bnd_eq (yR_of (r := some (A 0)) hjd rfl) (bnd_eq rfl (bnd_eq (yS_of (ok := ysA Y) (v := .ref a) (y := .ref a) (j := j) h0 p0 (hok ha) (by omega) hz0) ?_))
  exact bnd_eq (yR_of (r := some (A 1)) hjd' rfl) (bnd_eq rfl (bnd_eq (yS_of (ok := ysA (yu Y (A 0) (some (oA 14 (zs v0 j (.ref a)))))) (v := .ref r) (y := .ref r) (j := j) h1' p1 (hok hr') (by omega) hz1) rfl))
/-- learn -/
theorem lrn_ok (hB : BY Y) (h : JDG Y jd A K vI vW vY ans) (ha : RTk Y a t) (h2 : t.1 = 2) (hr : RTk Y r u) (h34 : u.1 = 3 ∨ u.1 = 4) (hroom : ¬ (knf K t.2.2.1 = none ∧ 8 ≤ K.length)) (hn : 6002 ≤ n) : ∃ Y1, c135 n jd (some a) (some r) Y = some ((), Y1) ∧ JDG Y1 jd A (kset K t.2.2.1 (thg u)) vI vW vY ans ∧ BY Y1 ∧ FR Y Y1 [jd, A 0, A 1] ∧ Y1.2 = Y.2 := by
  obtain ⟨g1, g2, ⟨v0, v1, k1, k2, k3⟩, g4, g5, g6, g7, g8, g9, g10, g11, g12, g13, g14, g15⟩ := id h
  obtain ⟨h8, l0, l1, hK⟩ := k3
  obtain ⟨st, j1, j2, j3, j4, j5, j6, j7, fa, j8⟩ := tk_txt ha
  obtain ⟨sr, i1, i2, i3, i4, i5, i6, i7, fr, i8⟩ := tk_txt hr
  have hw : ttx t = t.2.2.1 := by unfold ttx; rw [if_neg (by omega)]
  rw [hw] at j2
  have hk := kno_ok (n := n) h j2 j3 hn
  obtain ⟨j, hj⟩ : ∃ j, j = ixN (knf K t.2.2.1) 0 K.length := ⟨_, rfl⟩
  have hjl : j ≤ K.length ∧ j < 8 := by
    cases hq : knf K t.2.2.1 with
    | none =>
      rw [hq] at hj
      have hj : j = K.length := hj
      exact ⟨by omega, Nat.lt_of_not_le (fun q => hroom ⟨hq, by omega⟩)⟩
    | some j' =>
      rw [hq] at hj
      obtain ⟨x, hx, _⟩ := knf_lt hq
      have := lt_of_get hx
      have hj : j = 0 + j' := hj
      omega
  obtain ⟨Ya, hYa⟩ : ∃ Ya, Ya = yu Y jd (some (oB 1 [.ref (A 0), .ref (A 1), .int (nI (kset K t.2.2.1 (thg u)).length), .ref (A 3), .ref (A 4), .ref (A 5), .int ans])) := ⟨_, rfl⟩
  have fa1 : FR Y Ya [jd] := by rw [hYa]; exact FR_u g1 rfl
  have ba : BY Ya := by rw [hYa]; exact BY_u hB g2 (hB.2.2 _ _ g1)
  have na : Ya.2 = Y.2 := by rw [hYa]; rfl
  have a1 : Ya.1 jd = some (oB 1 [.ref (A 0), .ref (A 1), .int (nI (kset K t.2.2.1 (thg u)).length), .ref (A 3), .ref (A 4), .ref (A 5), .int ans]) := by rw [hYa]; exact yu_s
  have a2 : Ya.1 (A 0) = some (oA 14 v0) := FR_k fa1 k1 (by simpa using (oBA_ne g1 k1).symm)
  have a3 : Ya.1 (A 1) = some (oA 14 v1) := FR_k fa1 k2 (by simpa using (oBA_ne g1 k2).symm)
  have a4 : Ya.1 a = some (oB 9 fa) := FR_i fa1 j8 rfl
  have a5 : Ya.1 r = some (oB 9 fr) := FR_i fa1 i8 rfl
  obtain ⟨Yb, hYb⟩ : ∃ Yb, Yb = yu Ya (A 0) (some (oA 14 (zs v0 j (.ref a)))) := ⟨_, rfl⟩
  have fb1 : FR Ya Yb [A 0] := by rw [hYb]; exact FR_u a2 (mto_t (by decide))
  have bb : BY Yb := by rw [hYb]; exact BY_u ba g5 (ba.2.2 _ _ a2)
  have nb : Yb.2 = Ya.2 := by rw [hYb]; rfl
  have b3 : Yb.1 (A 1) = some (oA 14 v1) := by rw [hYb, yu_n g4.symm]; exact a3
  obtain ⟨Yc, hYc⟩ : ∃ Yc, Yc = yu Yb (A 1) (some (oA 14 (zs v1 j (.ref r)))) := ⟨_, rfl⟩
  have fc1 : FR Yb Yc [A 1] := by rw [hYc]; exact FR_u b3 (mto_t (by decide))
  have bc : BY Yc := by rw [hYc]; exact BY_u bb g6 (bb.2.2 _ _ b3)
  have nc : Yc.2 = Yb.2 := by rw [hYc]; rfl
  have hf : FR Y Yc [jd, A 0, A 1] := FR_T (S1 := [jd, A 0, A 1]) (FR_M fa1 (fun q hq => by simp at hq; simp [hq])) (FR_T (S1 := [jd, A 0, A 1]) (FR_M fb1 (fun q hq => by simp at hq; simp [hq])) (FR_M fc1 (fun q hq => by simp at hq; simp [hq])) (fun q hq => Or.inl hq) ba.2) (fun q hq => Or.inl hq) hB.2
  have hbody := lrn_b (n := n) (j := j) ba a1 a2 a3 l0 l1 g4 g5 g6 ⟨_, a4⟩ ⟨_, a5⟩ hjl.2
  rw [← hYb, ← hYc] at hbody
  have ks := kset_p (K := K) (w := t.2.2.1) (t := thg u)
  rw [← hj] at ks
  have keep : ∀ q o, Y.1 q = some o → q ≠ jd → q ≠ A 0 → q ≠ A 1 → Yc.1 q = some o := fun q o h p1 p2 p3 => FR_k hf h (by simp [p1, p2, p3])
  refine ⟨Yc, ?_, ⟨?_, g2, ⟨zs v0 j (.ref a), zs v1 j (.ref r), ?_, ?_, ?_, by rw [zs_length]; exact l0, by rw [zs_length]; exact l1, ?_⟩, g4, g5, g6, ?_, g8, g9, ?_, g11, g12, ?_, g14, g15⟩, bc, hf, by rw [nc, nb, na]⟩
  · unfold c135
    refine bnd_eq rfl (bnd_eq j1 (zgd_eq (jd_o h) (bnd_eq hk ?_)))
    dsimp only
    cases hq : knf K t.2.2.1 with
    | none =>
      rw [if_pos (show ixI none = -1 from rfl)]
      refine bnd_eq (yI_of g1 rfl) (bnd_eq (yI_of g1 rfl) ?_)
      have hlen : (kset K t.2.2.1 (thg u)).length = K.length + 1 := by unfold kset; rw [hq]; exact List.length_append
      have e : yP Y jd 1 2 (.int (nI K.length + 1)) = some Ya := by
        rw [hYa, hlen, nI_1]
        exact yP_of g1 g2 rfl rfl
      refine bnd_eq e ?_
      rw [hq] at hj
      have hj : j = K.length := hj
      rw [← hj]
      exact hbody
    | some j' =>
      obtain ⟨q, hx, _⟩ := knf_lt hq
      have hlt := lt_of_get hx
      rw [if_neg (ixI_s (by omega))]
      rw [hq] at hj
      have hj : j = 0 + j' := hj
      have hlen : (kset K t.2.2.1 (thg u)).length = K.length := by unfold kset; rw [hq]; exact List.length_set
      have e : Ya = Y := by rw [hYa, hlen]; exact yu_id g1
      rw [e] at hbody
      show cb135_29 n jd (some a) (some r) (nI j') Y = _
      rw [show j' = j by omega]
      exact hbody
  · rw [hYc, yu_n (oBA_ne a1 a3), hYb, yu_n (oBA_ne a1 a2)]; exact a1
  · rw [hYc, yu_n g4, hYb]; exact yu_s
  · rw [hYc]; exact yu_s
  · rw [ks, kpn_l]; split <;> omega
  · intro q x hx
    rw [ks] at hx
    rcases kpn_g hjl.1 hx with ⟨rfl, rfl⟩ | ⟨hne, hx⟩
    · exact ⟨a, r, u, by rw [← zg_eq, zg_zs_eq (by omega)], ⟨t, RTk_k hf.2.2 ha, hw⟩, by rw [← zg_eq, zg_zs_eq (by omega)], RTk_k hf.2.2 hr, h34, rfl⟩
    · obtain ⟨wt, tt, t', q1, q2, q3, q4, q5, q6⟩ := hK q x hx
      exact ⟨wt, tt, t', by rw [← zg_eq, zg_zs_ne (fun e => hne e.symm), zg_eq]; exact q1, RNm_k hf.2.2 q2, by rw [← zg_eq, zg_zs_ne (fun e => hne e.symm), zg_eq]; exact q3, RTk_k hf.2.2 q4, q5, q6⟩
  · exact keep _ _ g7 (oBA_ne g1 g7).symm (arr_ne g7 k1 (Or.inl (by decide))) (arr_ne g7 k2 (Or.inl (by decide)))
  · exact keep _ _ g10 (oBA_ne g1 g10).symm (arr_ne g10 k1 (Or.inl (by decide))) (arr_ne g10 k2 (Or.inl (by decide)))
  · exact keep _ _ g13 (oBA_ne g1 g13).symm (arr_ne g13 k1 (Or.inl (by decide))) (arr_ne g13 k2 (Or.inl (by decide)))
/-- hasRoomFor -/
theorem room_ok {st : Nat} {q : List Int32} (h : JDG Y jd A K vI vW vY ans) (hs : Y.1 st = some (oS q)) (hs1 : 1 ≤ st) (hn : 6002 ≤ n) : c133 n jd (some st) Y = some (if knf K q = none ∧ 8 ≤ K.length then 0 else 1, Y) := by
  have hk := kno_ok (n := n) h hs hs1 hn
  obtain ⟨g1, g2, ⟨v0, v1, k1, k2, h8, _⟩, _⟩ := id h
  unfold c133
  refine bnd_eq (yI_of g1 rfl) ?_
  by_cases c : K.length < 8
  · rw [if_pos (show nI K.length < (8 : Int32) from (nI_lt c (by omega) : nI K.length < nI 8)), if_neg (fun q => by omega)]
  · rw [if_neg (show ¬ nI K.length < (8 : Int32) from (nI_nlt (by omega) (by omega) : ¬ nI K.length < nI 8))]
    refine zgd_eq (jd_o h) (bnd_eq hk ?_)
    dsimp only
    cases hq : knf K q with
    | none => rw [if_pos (show ixI none = -1 from rfl), if_pos ⟨rfl, by omega⟩]
    | some j =>
      obtain ⟨x, hx, _⟩ := knf_lt hq
      have hlt := lt_of_get hx
      rw [if_neg (ixI_s (by omega)), if_neg (fun q => by cases q.1)]
end
end ZMF

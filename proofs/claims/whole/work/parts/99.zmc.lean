/-! THE CALLS OF THE CLASS: the tape, forget, fault, end, feed, find -/
section ZMC
section
variable {n : Nat} {Y Y0 Y1 Y2 : zY} {a b jd k pl rc sq x tp ou w : Nat} {S : List Nat} {K : KL} {vI vW vY vs : List Value} {A : Nat → Nat} {ans : Int32} {bs : List Bool} {l : Nat → Nat} {xs : Nat → List Nat} {bd : Nat → Nat} {L : Ldd} {s : St} {T T' : List Int32} {y c y1 y2 y3 v sh : Int32} {o : yO} {P : Pln}
theorem ck_tk (h : ck8 o = false) : tk8 o = false := by
  match o, h with
  | .inl (c, fs), h =>
    have h : (Nat.beq c 8 || Nat.beq c 10 || Nat.beq c 5) = false := h
    simp only [Bool.or_eq_false_iff] at h
    exact h.1.1
  | .inr (.inl (t, vs)), h =>
    have h : (Nat.beq t 1 || Nat.beq t 4) = false := h
    simp only [Bool.or_eq_false_iff] at h
    exact h.1
  | .inr (.inr (.inl z)), h => rfl
  | .inr (.inr (.inr z)), h => rfl
/-- only the tape's cells are written -/
def TF (Y Y1 : zY) : Prop := BY Y1 ∧ Y1.2 = Y.2 ∧ IMK Y Y1 ∧ ∀ a o, Y.1 a = some o → tk8 o = false → Y1.1 a = some o
theorem TF_R (h : BY Y) : TF Y Y := ⟨h, rfl, IMK_R, fun _ _ h _ => h⟩
theorem TF_T (h1 : TF Y Y1) (h2 : TF Y1 Y2) : TF Y Y2 := ⟨h2.1, h2.2.1.trans h1.2.1, IMK_T h1.2.2.1 h2.2.2.1, fun a o h q => h2.2.2.2 a o (h1.2.2.2 a o h q) q⟩
theorem TF_OF (h : TF Y Y1) : OF Y Y1 := ⟨by rw [h.2.1]; exact Nat.le_refl _, h.2.2.1, fun a o ho hc => h.2.2.2 a o ho (ck_tk hc)⟩
theorem TF_of (hB : BY Y1) (h2 : Y1.2 = Y.2) (hf : FR Y Y1 S) (hS : ∀ a ∈ S, ∀ o, Y.1 a = some o → tk8 o = true) : TF Y Y1 := ⟨hB, h2, hf.2.2, fun a o h q => (hf.2.1 a o h).resolve_left (fun d => by rw [hS a d o h] at q; cases q)⟩
/-- the tape has changed -/
theorem CSt_t (h : CSt Y x s) {jd pl : Nat} (hx : Y.1 x = some (oB 10 [.ref tp, .ref jd, .ref pl, .int s.2.2.2.1])) (hf : TF Y Y1) (hT : TAP Y1 tp T') : CSt Y1 x (T', s.2) := by
  obtain ⟨hB, h1, h2, h3, tp', jd', pl', hx', _, A, vI, vW, vY, ans, l, rc, sq, bd, xs, bs, W, hJ, hr⟩ := h
  rw [hx] at hx'
  cases hx'
  exact ⟨hf.1, h1, h2, h3, tp, jd, pl, hf.2.2.2 _ _ hx rfl, hT, A, vI, vW, vY, ans, l, rc, sq, bd, xs, bs, W, JCX_of hJ hf.1 (TF_OF hf), hr⟩
theorem TF_o {v : Int64} (hf : TF Y Y1) (h : OUT Y ou v) : OUT Y1 ou v := ⟨hf.2.2.2 _ _ h.1 rfl, h.2⟩
theorem TF_w (hf : TF Y Y1) : wY Y1 = wY Y := by unfold wY; rw [hf.2.1]
/-- the length is set -/
theorem tap_k (hB : BY Y) (hT : TAP Y tp T) (hk : k ≤ T.length) : ∃ Z, yP Y tp 8 1 (.int (nI k)) = some Z ∧ TF Y Z ∧ TAP Z tp (T.take k) := by
  obtain ⟨ba, vs, h1, h2, h3, h4, h5, h6, h7, h8⟩ := hT
  have hne : ba ≠ tp := fun q => by rw [q, h1] at h2; cases h2
  have hl : (T.take k).length = k := by rw [List.length_take]; omega
  refine ⟨_, yP_of h1 h7 rfl rfl, TF_of (BY_u hB h7 (hB.2.2 _ _ h1)) rfl (FR_u h1 rfl) (fun a ha o ho => by rw [List.mem_singleton.mp ha, h1] at ho; cases ho; rfl), ⟨ba, vs, ?_, by rw [yu_n hne]; exact h2, h3, by omega, fun i b hb => ?_, fun b hb => h6 b (List.mem_of_mem_take hb), h7, h8⟩⟩
  · rw [hl]; exact yu_s
  · have hi := lt_of_get hb
    rw [List.getElem?_take_of_lt (by omega)] at hb
    exact h5 i b hb
/-- fault -/
theorem flt_c (h : CSt Y x s) : c121 n x Y = some (s.2.2.2.1, Y) := by
  obtain ⟨hB, h1, h2, h3, tp, jd, pl, hx, _⟩ := h
  unfold c121
  exact bnd_eq (yI_of hx rfl) rfl
/-- forget -/
theorem fgt_c (h : CSt Y x s) : ∃ Y1, c122 n x Y = some (nI s.2.2.1.length, Y1) ∧ CSt Y1 x (sForget s).2.2 ∧ (∀ v, OUT Y ou v → OUT Y1 ou v) ∧ wY Y1 = wY Y ∧ Y1.2.1 = Y.2.1 := by
  obtain ⟨hB, h1, h2, h3, tp, jd, pl, hx, hT, A, vI, vW, vY, ans, l, rc, sq, bd, xs, bs, W, hJ, hr⟩ := id h
  obtain ⟨g1, g2, ⟨v0, v1, k1, k2, k3⟩, g4, g5, g6, g7, g8, g9, g10, g11, g12, g13, g14, g15⟩ := id hJ.2.1
  have hf : FR Y (yu Y jd (some (oB 1 [.ref (A 0), .ref (A 1), .int 0, .ref (A 3), .ref (A 4), .ref (A 5), .int ans]))) [jd] := FR_u g1 rfl
  have hjf : JF jd A Y (yu Y jd (some (oB 1 [.ref (A 0), .ref (A 1), .int 0, .ref (A 3), .ref (A 4), .ref (A 5), .int ans]))) := ⟨BY_u hB g2 (hB.2.2 _ _ g1), FR_M hf (fun a h => by rw [List.mem_singleton.mp h]; simp), rfl⟩
  have hjd : JDG (yu Y jd (some (oB 1 [.ref (A 0), .ref (A 1), .int 0, .ref (A 3), .ref (A 4), .ref (A 5), .int ans]))) jd A [] vI vW vY ans := ⟨yu_s, g2, ⟨v0, v1, (yu_n (oBA_ne g1 k1).symm).trans k1, (yu_n (oBA_ne g1 k2).symm).trans k2, by show 0 ≤ 8; omega, k3.2.1, k3.2.2.1, fun k x hx => by cases hx⟩, g4, g5, g6, (yu_n (oBA_ne g1 g7).symm).trans g7, g8, g9, (yu_n (oBA_ne g1 g10).symm).trans g10, g11, g12, (yu_n (oBA_ne g1 g13).symm).trans g13, g14, g15⟩
  obtain ⟨_, _, _, _, p5, p6, _⟩ := hJ.2.2.1.1.1
  refine ⟨_, ?_, ⟨hjf.1, h1, h2, h3, tp, jd, pl, JF_o hJ.2.1 hjf hx (by decide), JF_t hJ.2.1 hjf hT, A, vI, vW, vY, ans, l, rc, sq, bd, xs, bs, W, ⟨hjf.1, hjd, LDP_p hJ.2.2.1 (JF_p hJ.2.1 hJ.2.2.2.1 hJ.2.2.2.2 p5 p6 hjf), hJ.2.2.2⟩, hr⟩, fun v hv => ⟨JF_4 hJ.2.1 hjf hv.1, hv.2⟩, rfl, rfl⟩
  unfold c122
  refine bnd_eq (yR_of (r := some jd) hx rfl) (bnd_eq rfl (zgd_eq (jd_o hJ.2.1) (bnd_eq (x := (nI s.2.2.1.length, _)) ?_ rfl)))
  unfold c123
  exact bnd_eq (yI_of g1 rfl) (bnd_eq (yP_of g1 g2 rfl rfl) rfl)
/-- end -/
theorem end_c (h : CSt Y x s) : ∃ Y1, c127 n (some x) y Y = some ((sEnd y s).1, Y1) ∧ CSt Y1 x (sEnd y s).2.2 ∧ (∀ v, OUT Y ou v → OUT Y1 ou v) ∧ wY Y1 ≤ wY Y + 22 ∧ Y1.2.1 = Y.2.1 := by
  obtain ⟨hB, h1, h2, h3, tp, jd, pl, hx, hT, hC⟩ := id h
  have h6 := tap_6 hT
  have htl := tap_len hT
  unfold c127
  have hbad : (sEnd y s) = (1, 0, s) → c128 n x y Y = some (.inr 18, thY Y) → ∃ Y1, ((some x).bind fun a1 => zgd (yisO Y a1 10) <| (c128 n a1 y Y).bind fun p7 => zth p7 (fun r4 h5 => some ((0 : Int32), h5)) (fun x6 h5 => if x6 = 18 then some (1, h5) else none)) = some ((sEnd y s).1, Y1) ∧ CSt Y1 x (sEnd y s).2.2 ∧ (∀ v, OUT Y ou v → OUT Y1 ou v) ∧ wY Y1 ≤ wY Y + 22 ∧ Y1.2.1 = Y.2.1 := by
    intro e e2
    rw [e]
    refine ⟨thY Y, bnd_eq rfl (zgd_eq (yisO_of hx) (bnd_eq e2 rfl)), CSt_th h, fun v hv => hv, ?_, rfl⟩
    show 16 * (Y.2.2.1 + 1) + (Y.2.2.2 + 6) ≤ 16 * Y.2.2.1 + Y.2.2.2 + 22
    omega
  cases hb : inB y (s.1.length + 1) with
  | false =>
    refine hbad (by unfold sEnd; rw [hb, if_neg (by decide)]) ?_
    unfold c128 cb128_15
    by_cases h0 : y < 0
    · rw [if_pos h0]
    · rw [if_neg h0]
      refine bnd_eq (yR_of (r := some tp) hx rfl) (bnd_eq rfl (bnd_eq htl ?_))
      rw [if_neg]
      intro q
      have : inB y (s.1.length + 1) = true := by
        unfold inB
        refine decide_eq_true ⟨Int32.not_lt.mp h0, ?_⟩
        rw [Int32.lt_iff_toInt_lt, nI_toInt (by omega)]
        rw [Int32.le_iff_toInt_le, nI_toInt (by omega)] at q
        omega
      rw [this] at hb; cases hb
  | true =>
    obtain ⟨k, hk, rfl⟩ := inB_lt (by omega) hb
    have hk2 : (nI k).toInt.toNat = k := by rw [nI_toInt (by omega)]; omega
    obtain ⟨Z, e1, e2, e3⟩ := tap_k hB hT (show k ≤ s.1.length by omega)
    have hs : sEnd (nI k) s = (0, 0, (s.1.take k, s.2)) := by unfold sEnd; rw [hb, if_pos rfl, hk2]
    rw [hs]
    refine ⟨Z, bnd_eq rfl (zgd_eq (yisO_of hx) (bnd_eq (x := (.inl (), Z)) ?_ rfl)), CSt_t h hx e2 e3, fun v hv => TF_o e2 hv, by rw [TF_w e2]; omega, by rw [e2.2.1]⟩
    unfold c128
    rw [if_neg (show ¬ nI k < 0 from nI_pos (by omega))]
    refine bnd_eq (yR_of (r := some tp) hx rfl) (bnd_eq rfl (bnd_eq htl ?_))
    rw [if_pos (nI_le (by omega) (by omega))]
    exact bnd_eq (yR_of (r := some tp) hx rfl) (bnd_eq rfl (bnd_eq e1 rfl))
/-- a byte more -/
theorem ap1 {r3 : Nat → Int32 → Int32 → zY → Option (Unit × zY)} (hB : BY Y) (hT : TAP Y tp T) (hl : T.length < 6000) (hs : ¬ sh < 0) : ∃ Y1, cb126_3 n r3 tp v sh Y = r3 tp v (sh + (-8)) Y1 ∧ TF Y Y1 ∧ TAP Y1 tp (T ++ [(v >>> (sh &&& 31)) &&& 255]) := by
  obtain ⟨ba, vs, h1, h2, h3, h4, h5, h6, h7, h8⟩ := hT
  have hne : ba ≠ tp := fun q => by rw [q, h1] at h2; cases h2
  obtain ⟨z, hz⟩ : ∃ z, z = (v >>> (sh &&& 31)) &&& 255 := ⟨_, rfl⟩
  have hnr : narrow .byte (.int ((v >>> (sh &&& 31)).toInt8.toInt32)) = .int (nB z) := by
    have e : (v >>> (sh &&& 31)).toInt8.toInt32 = nB z := by rw [hz]; exact (nB_255 _).symm
    obtain ⟨k, hk, hzk⟩ := byt_255 (v >>> (sh &&& 31))
    rw [e, hz, hzk]
    exact nrw_b ⟨k, hk⟩
  obtain ⟨Z, hZ⟩ : ∃ Z, Z = yu Y ba (some (oA 1 (zs vs T.length (.int (nB z))))) := ⟨_, rfl⟩
  have hBZ : BY Z := by rw [hZ]; exact BY_u hB h8 (hB.2.2 _ _ h2)
  have hTZ : TF Y Z := by
    rw [hZ]
    exact TF_of (by rw [← hZ]; exact hBZ) rfl (FR_u h2 (mto_t (by decide))) (fun a ha o ho => by rw [List.mem_singleton.mp ha, h2] at ho; cases ho; rfl)
  have hz1 : Z.1 tp = some (oB 8 [.ref ba, .int (nI T.length)]) := by rw [hZ, yu_n (fun q => hne q.symm)]; exact h1
  have hzb : Z.1 ba = some (oA 1 (zs vs T.length (.int (nB z)))) := by rw [hZ]; exact yu_s
  obtain ⟨Q, hQ⟩ : ∃ Q, Q = yu Z tp (some (oB 8 [.ref ba, .int (nI (T.length + 1))])) := ⟨_, rfl⟩
  have hBQ : BY Q := by rw [hQ]; exact BY_u hBZ h7 (hBZ.2.2 _ _ hz1)
  have hTQ : TF Z Q := by
    rw [hQ]
    exact TF_of (by rw [← hQ]; exact hBQ) rfl (FR_u hz1 rfl) (fun a ha o ho => by rw [List.mem_singleton.mp ha, hz1] at ho; cases ho; rfl)
  have hvs : zg vs T.length = some vs[T.length] := by rw [zg_eq, List.getElem?_eq_getElem (by omega)]
  refine ⟨Q, ?_, TF_T hTZ hTQ, ba, zs vs T.length (.int (nB z)), ?_, by rw [hQ, yu_n hne]; exact hzb, by rw [zs_length]; exact h3, ?_, fun i b hb => ?_, fun b hb => ?_, h7, h8⟩
  · unfold cb126_3
    rw [if_neg hs]
    refine bnd_eq (yI_of h1 rfl) (bnd_eq (yR_of (r := some ba) h1 rfl) (bnd_eq rfl (bnd_eq (yL_of h2) ?_)))
    rw [h3, if_neg (nI_ge hl (by omega))]
    refine bnd_eq (yR_of (r := some ba) h1 rfl) (bnd_eq (yI_of h1 rfl) (bnd_eq rfl (bnd_eq (yS_of (ok := zsB) (v := .int ((v >>> (sh &&& 31)).toInt8.toInt32)) (y := .int (nB z)) (j := T.length) h2 h8 (by show some (narrow .byte _) = _; rw [hnr]) (by omega) hvs) ?_)))
    rw [← hZ]
    refine bnd_eq (yI_of hz1 rfl) ?_
    rw [nI_1]
    refine bnd_eq (yP_of hz1 h7 rfl rfl) ?_
    show cb126_42 n r3 tp v sh (yu Z tp (some (oB 8 [.ref ba, .int (nI (T.length + 1))]))) = _
    rw [← hQ]
    rfl
  · rw [hQ, List.length_append]; exact yu_s
  · rw [List.length_append]; show T.length + 1 ≤ 6000; omega
  · rw [← zg_eq]
    rcases get_app hb with hb | ⟨hi, rfl⟩
    · rw [zg_zs_ne (by have := lt_of_get hb; omega), zg_eq]
      exact h5 i b hb
    · rw [hi, ← hz, zg_zs_eq (by omega)]
  · rcases List.mem_append.mp hb with hb | hb
    · exact h6 b hb
    · rw [List.mem_singleton.mp hb]; exact byt_255 _
def b4 (v : Int32) : List Int32 := [(v >>> ((24 : Int32) &&& 31)) &&& 255, (v >>> ((16 : Int32) &&& 31)) &&& 255, (v >>> ((8 : Int32) &&& 31)) &&& 255, (v >>> ((0 : Int32) &&& 31)) &&& 255]
theorem fed_4 {a b c d e : Int32} : fed a b c d e = b4 a ++ (b4 b ++ (b4 c ++ (b4 d ++ b4 e))) := rfl
/-- append -/
theorem ap4 (hB : BY Y) (hT : TAP Y tp T) (hl : T.length + 4 ≤ 6000) (hn : 6002 ≤ n) : ∃ Y1, c126 n tp v Y = some ((), Y1) ∧ TF Y Y1 ∧ TAP Y1 tp (T ++ b4 v) := by
  obtain ⟨m, rfl⟩ : ∃ m, n = m + 5 := ⟨n - 5, by omega⟩
  obtain ⟨Y1, e1, f1, t1⟩ := ap1 (n := m + 5) (r3 := cf126_3 (m + 5) (m + 4)) (v := v) (sh := 24) hB hT (by omega) (by decide)
  obtain ⟨Y2, e2, f2, t2⟩ := ap1 (n := m + 5) (r3 := cf126_3 (m + 5) (m + 3)) (v := v) (sh := 16) f1.1 t1 (by rw [List.length_append]; show T.length + 1 < 6000; omega) (by decide)
  obtain ⟨Y3, e3, f3, t3⟩ := ap1 (n := m + 5) (r3 := cf126_3 (m + 5) (m + 2)) (v := v) (sh := 8) f2.1 t2 (by rw [List.length_append, List.length_append]; show T.length + 1 + 1 < 6000; omega) (by decide)
  obtain ⟨Y4, e4, f4, t4⟩ := ap1 (n := m + 5) (r3 := cf126_3 (m + 5) (m + 1)) (v := v) (sh := 0) f3.1 t3 (by rw [List.length_append, List.length_append, List.length_append]; show T.length + 1 + 1 + 1 < 6000; omega) (by decide)
  refine ⟨Y4, ?_, TF_T f1 (TF_T f2 (TF_T f3 f4)), ?_⟩
  · show cb126_3 (m + 5) (cf126_3 (m + 5) (m + 4)) tp v 24 Y = _
    rw [e1]
    show cb126_3 (m + 5) (cf126_3 (m + 5) (m + 3)) tp v 16 Y1 = _
    rw [e2]
    show cb126_3 (m + 5) (cf126_3 (m + 5) (m + 2)) tp v 8 Y2 = _
    rw [e3]
    show cb126_3 (m + 5) (cf126_3 (m + 5) (m + 1)) tp v 0 Y3 = _
    rw [e4]
    show cb126_3 (m + 5) (cf126_3 (m + 5) m) tp v (0 + (-8)) Y4 = _
    unfold cb126_3
    rw [if_pos (by decide)]
  · rw [List.append_assoc, List.append_assoc, List.append_assoc] at t4
    exact t4
/-- feed -/
theorem fd_c {a b c d e : Int32} (h : CSt Y x s) (hn : 6002 ≤ n) : CIn Y x ou 22 (c125 n x a b c d e Y) (sFeed a b c d e s) 19 := by
  obtain ⟨hB, h1, h2, h3, tp, jd, pl, hx, hT, hC⟩ := id h
  have h6 := tap_6 hT
  have htl := tap_len hT
  unfold sFeed
  by_cases hc : 5980 < s.1.length
  · rw [if_pos hc]
    refine CIn_x h (by decide) (by omega) ?_
    unfold c125
    refine bnd_eq (yR_of (r := some tp) hx rfl) (bnd_eq rfl (bnd_eq htl ?_))
    rw [if_neg (show ¬ nI s.1.length ≤ (5980 : Int32) from (nI_ge hc (by omega) : ¬ nI s.1.length ≤ nI 5980))]
  · rw [if_neg hc]
    obtain ⟨Y1, e1, f1, t1⟩ := ap4 (n := n) (v := a) hB hT (by omega) hn
    have l4 : ∀ v : Int32, (b4 v).length = 4 := fun _ => rfl
    obtain ⟨Y2, e2, f2, t2⟩ := ap4 (n := n) (v := b) f1.1 t1 (by rw [List.length_append, l4]; omega) hn
    obtain ⟨Y3, e3, f3, t3⟩ := ap4 (n := n) (v := c) f2.1 t2 (by rw [List.length_append, List.length_append, l4, l4]; omega) hn
    obtain ⟨Y4, e4, f4, t4⟩ := ap4 (n := n) (v := d) f3.1 t3 (by rw [List.length_append, List.length_append, List.length_append, l4, l4, l4]; omega) hn
    obtain ⟨Y5, e5, f5, t5⟩ := ap4 (n := n) (v := e) f4.1 t4 (by rw [List.length_append, List.length_append, List.length_append, List.length_append, l4, l4, l4, l4]; omega) hn
    have x1 := f1.2.2.2 _ _ hx rfl
    have x2 := f2.2.2.2 _ _ x1 rfl
    have x3 := f3.2.2.2 _ _ x2 rfl
    have x4 := f4.2.2.2 _ _ x3 rfl
    have x5 := f5.2.2.2 _ _ x4 rfl
    have hf := TF_T f1 (TF_T f2 (TF_T f3 (TF_T f4 f5)))
    have ht : TAP Y5 tp (s.1 ++ fed a b c d e) := by
      rw [List.append_assoc, List.append_assoc, List.append_assoc, List.append_assoc] at t5
      exact t5
    have hlen := tap_len ht
    rw [List.length_append, fed_l] at hlen
    refine ⟨Y5, CSt_t h hx hf ht, fun v hv => TF_o hf hv, by rw [TF_w hf]; omega, by rw [hf.2.1]; exact Nat.le_refl _, ?_⟩
    rw [if_pos rfl]
    unfold c125
    refine bnd_eq (yR_of (r := some tp) hx rfl) (bnd_eq rfl (bnd_eq htl ?_))
    rw [if_pos (show nI s.1.length ≤ (5980 : Int32) from (nI_le (show s.1.length ≤ 5980 by omega) (by omega) : nI s.1.length ≤ nI 5980))]
    refine bnd_eq (yR_of (r := some tp) hx rfl) (bnd_eq rfl (zgd_eq (tap_o hT) (bnd_eq e1 ?_)))
    refine bnd_eq (yR_of (r := some tp) x1 rfl) (bnd_eq rfl (zgd_eq (tap_o t1) (bnd_eq e2 ?_)))
    refine bnd_eq (yR_of (r := some tp) x2 rfl) (bnd_eq rfl (zgd_eq (tap_o t2) (bnd_eq e3 ?_)))
    refine bnd_eq (yR_of (r := some tp) x3 rfl) (bnd_eq rfl (zgd_eq (tap_o t3) (bnd_eq e4 ?_)))
    refine bnd_eq (yR_of (r := some tp) x4 rfl) (bnd_eq rfl (zgd_eq (tap_o t4) (bnd_eq e5 ?_)))
    exact bnd_eq (yR_of (r := some tp) x5 rfl) (bnd_eq rfl (bnd_eq hlen rfl))
/-- find -/
theorem fnd_c (h : CSt Y x s) (hn : 6002 ≤ n) : CIn Y x ou (52 + 2 * s.1.length) (c137 n x y Y) (sFind y s) 20 := by
  obtain ⟨hB, h1, h2, h3, tp, jd, pl, hx, hT, hC⟩ := id h
  obtain ⟨l, rc, sq, bd, xs, hL, l3, l4, l5, l6, l7⟩ := CJd_l hC
  have hpl := hL.1.1.1.1.1
  unfold sFind
  cases hb : inB y 3 with
  | false =>
    rw [if_neg (by decide)]
    refine CIn_x h (by decide) (by omega) ?_
    unfold c137
    refine bnd_eq kind_c ?_
    rw [hb]
    rfl
  | true =>
    obtain ⟨k, hk, rfl⟩ := inB_lt (by omega) hb
    have hk2 : (nI k).toInt.toNat = k := by rw [nI_toInt (by omega)]; omega
    rw [if_pos rfl, hk2]
    obtain ⟨st, Y1, e1, e2, e3, e4, e5, e6⟩ := txt_ok (n := n) (a := 0) (m := s.1.length) hB hT (by omega) hn
    rw [Nat.zero_add] at e1
    have hcut : cut s.1 0 (0 + s.1.length) = s.1 := cut_all
    rw [hcut] at e4
    have hT1 := TAP_F0 hT e3
    obtain ⟨Z, z1, z2, z3⟩ := tap_k (k := 0) e2 hT1 (by omega)
    rw [List.take_zero] at z3
    have hOF : OF Y Y1 := OF_of (S := []) (FR_of e3 (fun a h => by cases h)) (fun a h => by cases h)
    have hL2 := LDP_of (LDP_of hL hOF) (TF_OF z2)
    obtain ⟨n1, _, _, _⟩ := nms_c (n := n) hL (show k ≤ 2 by omega)
    obtain ⟨_, n2, n3, n4⟩ := nms_c (n := n) hL2 (show k ≤ 2 by omega)
    have hx1 : Y1.1 x = some (oB 10 [.ref tp, .ref jd, .ref pl, .int s.2.2.2.1]) := FRY_0 e3 hx
    have hc1 : CSt Y1 x s := by
      obtain ⟨A, vI, vW, vY, ans, l, rc, sq, bd, xs, bs, W, hJ, hr⟩ := hC
      exact ⟨e2, h1, h2, h3, tp, jd, pl, hx1, hT1, A, vI, vW, vY, ans, l, rc, sq, bd, xs, bs, W, JCX_of hJ e2 hOF, hr⟩
    have hs1 : 1 ≤ st := by have := hB.2.1; omega
    have hzs : Z.1 st = some (oS s.1) := z2.2.2.1 _ _ e4 rfl
    have h73 := ix_ok (n := n) (LSY_of n2 n3) hzs hs1 hn (by omega)
    refine ⟨Z, CSt_t hc1 hx1 z2 z3, fun v hv => TF_o z2 ⟨FRY_0 e3 hv.1, hv.2⟩, ?_, ?_, ?_⟩
    · rw [TF_w z2]; exact e3.2.1
    · rw [z2.2.1]; exact e3.1
    · rw [if_pos rfl]
      unfold c137
      refine bnd_eq kind_c ?_
      dsimp only
      rw [hb, if_neg (by decide)]
      refine bnd_eq (yR_of (r := some pl) hx rfl) (bnd_eq rfl (zgd_eq (yisO_of hpl) (bnd_eq n1 (bnd_eq (yR_of (r := some tp) hx rfl) (bnd_eq rfl (zgd_eq (tap_o hT) (bnd_eq (x := (some st, Z)) ?_ (bnd_eq h73 rfl))))))))
      unfold c140
      exact bnd_eq (tap_len hT) (zgd_eq (tap_o hT) (bnd_eq e1 (bnd_eq z1 rfl)))
end
end ZMC

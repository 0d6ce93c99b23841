/-! THE CLASS READS: settle -/
section ZKJ
section
variable {n : Nat} {Y Y0 Y1 Y2 Y' : zY} {a b s p m e r q rd pl W W2 WE lo hi x c i j k : Nat} {S S1 : List Nat} {t : Tk} {ts ts0 : List Tk} {l : Nat → Nat} {rc sq fl : Nat} {xs xs' : Nat → List Nat} {P P' : Pln} {bd : Nat → Nat} {vq vq' : List Value} {g : Flg} {N : List (List (Nat × Int32))} {ns : List (Nat × Int32)} {nd : Tk × Tk}
theorem yk0 {fs : List Value} (h : Y.1 fl = some (oB 0 fs)) : ykC Y (some fl) 0 0 = true := by
  unfold ykC
  dsimp only
  rw [h]
  show zasg 0 0 = true
  decide
/-- a flag that stands -/
theorem PLN_g (h : PLN Y pl l rc sq bd P xs) (hg : P.2.1[i]? = some g) : ∃ fl A kd st fr er X v4 v5, (xs 4)[i]? = some fl ∧ FLX Y fl A kd st g.2.2.2.2 fr er X v4 v5 ∧ v4.length = 4 ∧ v5.length = 4 ∧ FLm Y P.2.2.2.2.2.1 X kd st g ∧ bd i ≤ A 4 ∧ bd i ≤ A 5 := by
  have hi := (List.getElem?_eq_some_iff.mp hg).1
  have hfl : (xs 4)[i]? = some ((xs 4)[i]'(by rw [h.2.1.1]; exact hi)) := List.getElem?_eq_getElem _
  obtain ⟨A, kd, st, fr, er, X, v4, v5, h1, h2, h3, h4, h5, h6, h7, h8, h9⟩ := h.2.1.2 i _ g hfl hg
  exact ⟨_, A, kd, st, fr, er, X, v4, v5, hfl, h1, h2, h3, h4, (h9 4 (by omega) (by omega)).1, (h9 5 (by omega) (by omega)).1⟩
/-- how many needs -/
theorem nc_ok {A : Nat → Nat} {kd st fr er : Nat} {off : Int32} {X : Nat → List Nat} {v4 v5 : List Value} (hX : FLX Y fl A kd st off fr er X v4 v5) (hl : (X 2).length ≤ 4) : c112 n fl Y = some (nI (X 2).length, Y) := by
  have h2 := hX.2.2.1 2 (by omega) (by omega)
  unfold c112
  refine bnd_eq (yR_of (r := some (A 2)) hX.1 rfl) (bnd_eq rfl (zgd_eq (lsx_o h2) (bnd_eq (lsx_n h2) ?_)))
  have : c43 n (nI (X 2).length) 4 Y = some (nI (X 2).length, Y) := by
    unfold c43
    rw [if_neg (by rw [show (4 : Int32) = nI 4 from rfl, nI_ltI (by omega) (by omega)]; omega)]
  exact bnd_eq this rfl
/-- one need is settled -/
theorem s1_ok (h : RS rd pl W Y ts) (hT : STL Y pl l rc sq bd P xs (N ++ [ns])) (hi : N.length = i) (hk : ns.length = k) (hfl : (xs 4)[i]? = some fl) (hg : P.2.1[i]? = some g) (hnd : g.2.2.1[k]? = some nd) (hnw : nd.1.1 = 2) (hf : FR Y0 Y S) (hr : rd ∈ S) (hD : DM Y0) (hbd : Y0.2.1 ≤ bd 0) (hn : 6002 ≤ n) (hE : W ≤ WE + 50) : CR rd pl Y0 S W WE (c113 n rd (nI i) (some fl) (nI k) Y) (sSet1 P i nd) (fun _ => ts) (fun Y1 x _ => STL Y1 pl l rc sq bd P xs (N ++ [ns ++ [x]])) := by
  have hP := hT.1
  have hW := h.2.2
  have hlt := rdr_len h.2.1
  obtain ⟨pr, lr⟩ := PLK_rd hP.1 h
  have hiP := (List.getElem?_eq_some_iff.mp hg).1
  have hf24 : P.2.1.length ≤ 24 := by have := hP.1.2.2.2.2.2.2.2.2.1; rw [List.length_map] at this; exact this
  obtain ⟨fl', A, kd, st, fr, er, X, v4, v5, e1, hX, h4, h5, hm, b4, b5⟩ := PLN_g hP hg
  rw [hfl] at e1
  cases e1
  have hk4 : k < 4 := by
    have := (List.getElem?_eq_some_iff.mp hnd).1
    have := hm.2.2.2.2.2.2.1
    omega
  have hbi : bd 0 ≤ bd i := by
    have := bd_m hP i 0 (by omega)
    rw [Nat.zero_add] at this
    exact this
  obtain ⟨ta, ha1, ha2⟩ := AL_get hm.2.2.2.2.1 (i := k) (y := nd.1) (by rw [List.getElem?_map, hnd]; rfl)
  obtain ⟨tb, hb1, hb2⟩ := AL_get hm.2.2.2.2.2.1 (i := k) (y := nd.2) (by rw [List.getElem?_map, hnd]; rfl)
  have hA2 := hX.2.2.1 2 (by omega) (by omega)
  have hA3 := hX.2.2.1 3 (by omega) (by omega)
  obtain ⟨sa, j1, j2, j3, j4, j5, j6, j7, j8⟩ := tk_txt ha2
  obtain ⟨sb, i1, i2, i3, i4, i5, i6, i7, i8⟩ := tk_txt hb2
  have httx : ttx nd.1 = nd.1.2.2.1 := by unfold ttx; rw [if_neg (by omega)]
  rw [httx] at j2
  unfold c113
  refine CR_y rfl (CR_y (yR_of (r := some (A 2)) hX.1 rfl) (CR_y rfl (CR_g (lsx_o hA2) (CR_y (lsx_g hA2 ha1 (by omega)) (CR_g j6 ?_)))))
  refine CR_y (yR_of (r := some (A 3)) hX.1 rfl) (CR_y rfl (CR_g (lsx_o hA3) (CR_y (lsx_g hA3 hb1 (by omega)) (CR_g i6 ?_))))
  have hL1 : LSY Y (l 1) (RNm Y) (P.2.1.map (·.1)) := LSY_of (hP.1.2.1.1 1 (by omega)) hP.1.2.2.1.2.2.2.2.1
  refine CR_y (rdr_p h.2.1) (CR_y rfl (CR_y (yR_of (r := some (l 1)) hP.1.1.1 rfl) (CR_y rfl (CR_y j1 (CR_y (ix_ok hL1 j2 j3 hn (by rw [List.length_map]; omega)) ?_)))))
  dsimp only
  unfold sSet1
  obtain ⟨ea, na, ka⟩ := ha2
  obtain ⟨eb, nb, kb⟩ := hb2
  have bad : ∀ {v : Int32}, CR rd pl Y0 S W WE (cb113_55 n rd (nI i) (some fl) (nI k) (some ta) (some tb) v Y) (.inl (sErr 3 nd.1)) (fun _ => ts) (fun Y1 x _ => STL Y1 pl l rc sq bd P xs (N ++ [ns ++ [x]])) := by
    intro v
    unfold cb113_55
    exact CR_g (rdr_o h.2.1) (cr_ref h.1 h.2.1 ka hf hr hD (by omega))
  cases hfd : fnd (P.2.1.map (·.1)) nd.1.2.2.1 with
  | none =>
    rw [if_pos (show ixI none = -1 from rfl)]
    exact bad
  | some g0 =>
    have hg0 := fnd_lt hfd
    rw [List.length_map] at hg0
    rw [if_neg (fun c => by have := (ixI_m (o := some g0) (fun j hj => by cases hj; omega)).mp c; cases this)]
    by_cases hgi : g0 = i
    · dsimp only
      rw [if_pos (show ixI (some g0) = nI i by rw [hgi]; rfl), if_pos hgi]
      exact bad
    dsimp only
    rw [if_neg (show ¬ ixI (some g0) = nI i from fun c => hgi (nI_jj (by omega) (by omega) c)), if_neg hgi]
    unfold cb113_62
    obtain ⟨go, hgo⟩ : ∃ g, P.2.1[g0]? = some g := ⟨_, List.getElem?_eq_getElem hg0⟩
    obtain ⟨fo, A', kd', st', fr', er', X', v4', v5', q1, hX', _, _, hm', _, _⟩ := PLN_g hP hgo
    have hl4 := hP.1.2.1.1 4 (by omega)
    have hKN : KN Y fo (A' 1) go.2.1 := KN_of hX' hm'.1 hm'.2.2.1 hm'.2.2.2.1 hm'.2.1
    rw [gtD hgo]
    refine CR_y (rdr_p h.2.1) (CR_y rfl (CR_y (yR_of (r := some (l 4)) hP.1.1.1 rfl) (CR_y rfl (CR_g (lsx_o hl4) (CR_y (lsx_g hl4 q1 (by omega)) (CR_g (yk0 hX'.1) (CR_y rfl (CR_g (yisO_of hX'.1) (CR_y (can_ok hKN ⟨eb, nb, kb⟩ hn) ?_)))))))))
    dsimp only
    cases hw : wth go.2.1 nd.2 with
    | none =>
      rw [if_pos (show b2 (none : Option Int32).isSome = 0 from rfl)]
      exact CR_g (rdr_o h.2.1) (cr_ref h.1 h.2.1 kb hf hr hD (by omega))
    | some v =>
      rw [if_neg (show ¬ b2 (some v).isSome = 0 from (by decide : ¬ b2 true = 0))]
      unfold cb113_92
      have g7 := hX.2.2.2.2.2.2.1
      have g8 := hX.2.2.2.2.2.2.2.1
      have g9 := hX.2.2.2.2.2.2.2.2.1
      have g10 := hX.2.2.2.2.2.2.2.2.2.1
      have g11 := hX.2.2.2.2.2.2.2.2.2.2
      obtain ⟨u4, hu4⟩ : ∃ u, zg v4 k = some u := ⟨_, by rw [zg_eq]; exact List.getElem?_eq_getElem (show k < v4.length by omega)⟩
      obtain ⟨u5, hu5⟩ : ∃ u, zg v5 k = some u := ⟨_, by rw [zg_eq]; exact List.getElem?_eq_getElem (show k < v5.length by omega)⟩
      refine CR_y rfl (CR_y (yR_of (r := some (A 4)) hX.1 rfl) (CR_y rfl (CR_y (yS_of (y := .int (nI g0)) (ok := zsI) (v := .int (ixI (some g0))) g7 g10 rfl (by omega) hu4) ?_)))
      obtain ⟨Y3, hY3⟩ : ∃ Y3, Y3 = yu Y (A 4) (some (oA 0 (zs v4 k (.int (nI g0))))) := ⟨_, rfl⟩
      rw [← hY3]
      have hR3 : RDR Y3 rd pl ts := by rw [hY3]; exact RDR_k h.2.1 (FR_u g7 (mto_24 (Or.inl h4))) (by simpa using ((FLX_rd hX h.2.1).2 4 (by omega) (by omega)).symm)
      have hX3 := FLX_q (vq' := zs v4 k (.int (nI g0))) hX g7
      have hXo3 := FLX_q (vq' := zs v4 k (.int (nI g0))) hX' g7
      have hf3 : FR Y Y3 [A 4] := by rw [hY3]; exact FR_u g7 (mto_24 (Or.inl h4))
      rw [← hY3] at hX3 hXo3
      have hP3 : PLC Y3 pl l P.2.2.2.2.1.length P.2.2.2.2.2.2 rc sq := PLC_k hP.1.1 hf3 (fun e => by
        have := hP.1.1.1
        rw [List.mem_singleton.mp e, g7] at this; cases this)
      have hl43 : LSX Y3 (l 4) (xs 4) := LSX_k hl4 hf3 (fun e => by
        obtain ⟨⟨cap, x1, _⟩, _⟩ := hl4
        rw [List.mem_singleton.mp e, g7] at x1; cases x1)
      have hKN3 : KN Y3 fo (A' 1) go.2.1 := KN_of hXo3 hm'.1 (AL_imp (fun x y => RNm_k hf3.2.2) hm'.2.2.1) hm'.2.2.2.1 hm'.2.1
      have htb3 : RTk Y3 tb nd.2 := RTk_k hf3.2.2 ⟨eb, nb, kb⟩
      refine CR_y (yR_of (r := some (A 5)) hX3.1 rfl) (CR_y (rdr_p hR3) (CR_y rfl (CR_y (yR_of (r := some (l 4)) hP3.1 rfl) (CR_y rfl (CR_g (lsx_o hl43) (CR_y (lsx_g hl43 q1 (by omega)) (CR_g (yk0 hXo3.1) (CR_y rfl (CR_g (yisO_of hXo3.1) (CR_y (wor_ok hKN3 htb3 hw hn) (CR_y rfl ?_)))))))))))
      have g83 : Y3.1 (A 5) = some (oA 0 v5) := by rw [hY3, yu_n g9.symm]; exact g8
      refine CR_y (yS_of (y := .int v) (ok := zsI) (v := .int v) g83 g11 rfl (by omega) hu5) ?_
      have hfin := STL_n (w := (g0, v)) hT hi hk hk4 hfl hX h4 h5
      rw [← hY3] at hfin
      refine CR_s (s := (g0, v)) ⟨?_, RDR_k hR3 (FR_u g83 (mto_24 (Or.inl h5))) (by simpa using ((FLX_rd hX h.2.1).2 5 (by omega) (by omega)).symm), ?_⟩ (FR_n (by rw [hY3]; exact FR_n hf hD (by omega)) hD (by omega)) hfin
      · have hB3 : BY Y3 := by rw [hY3]; exact BY_u h.1 g10 (h.1.2.2 _ _ g7)
        exact BY_u hB3 g11 (hB3.2.2 _ _ g83)
      · rw [hY3]; exact hW
/-- the needs of a flag -/
theorem sn_l {σ : Type} {r2 : Nat → Int32 → zY → Option ((Unit ⊕ Nat) × zY)} {GG : List (Nat × Int32) → RR σ} {L : σ → List Tk} {Q : zY → σ → Unit → Prop} (hi : N.length = i) (hfl : (xs 4)[i]? = some fl) (hg : P.2.1[i]? = some g) (hnw : ∀ nd ∈ g.2.2.1, nd.1.1 = 2) (hr : rd ∈ S) (hD : DM Y0) (hbd : Y0.2.1 ≤ bd 0) (hn : 6002 ≤ n) (hE : W ≤ WE + 50) (kk : ∀ Y2 ns2, RS rd pl W Y2 ts → FR Y0 Y2 S → STL Y2 pl l rc sq bd P xs (N ++ [ns2]) → CR rd pl Y0 S W WE (r2 rd (nI (i + 1)) Y2) (GG ns2) L Q) : ∀ (fu k : Nat) {Y : zY} {ns : List (Nat × Int32)}, k ≤ g.2.2.1.length → g.2.2.1.length - k < fu → ns.length = k → RS rd pl W Y ts → FR Y0 Y S → STL Y pl l rc sq bd P xs (N ++ [ns]) → CR rd pl Y0 S W WE (cf111_33 n r2 fu rd (nI i) (some fl) (nI k) Y) (rb (sMap (sSet1 P i) (g.2.2.1.drop k)) (fun bs => GG (ns ++ bs))) L Q
  | 0, k, Y, ns, _, h, _, _, _, _ => by omega
  | fu + 1, k, Y, ns, hk, hfu, hnl, h, hf, hT => by
    show CR rd pl Y0 S W WE (cb111_33 n r2 (cf111_33 n r2 fu) rd (nI i) (some fl) (nI k) Y) _ _ _
    unfold cb111_33
    obtain ⟨fl', A, kd, st, fr, er, X, v4, v5, e1, hX, h4, h5, hm, b4, b5⟩ := PLN_g hT.1 hg
    rw [hfl] at e1
    cases e1
    have hlen := AL_len hm.2.2.2.2.1
    rw [List.length_map] at hlen
    have hl4 := hm.2.2.2.2.2.2.1
    refine CR_y rfl (CR_g (yisO_of hX.1) (CR_y (nc_ok hX (by omega)) ?_))
    dsimp only
    rw [hlen]
    by_cases hz : k = g.2.2.1.length
    · rw [if_pos (by rw [hz]; exact Int32.le_refl _), hz, List.drop_length, nI_1]
      show CR rd pl Y0 S W WE (r2 rd (nI (i + 1)) Y) (GG (ns ++ [])) L Q
      rw [List.append_nil]
      exact kk Y ns h hf hT
    · have hlt : k < g.2.2.1.length := by omega
      rw [if_neg (nI_ge hlt (by omega)), List.drop_eq_getElem_cons hlt]
      show CR rd pl Y0 S W WE _ (rb (rb (sSet1 P i g.2.2.1[k]) fun b => rb (sMap (sSet1 P i) (g.2.2.1.drop (k + 1))) fun bs => .inr (b :: bs)) (fun bs => GG (ns ++ bs))) L Q
      rw [rb_assoc]
      refine CR_g (rdr_o h.2.1) ?_
      refine CR_b (s1_ok h hT hi hnl hfl hg (List.getElem?_eq_getElem hlt) (hnw _ (List.getElem_mem hlt)) hf hr hD hbd hn hE) (FR_R (S := S)) (fun a h => Or.inl h) hD ?_
      intro w v Y2 hS2 hf2 hf02 hT2
      have := sn_l (GG := GG) hi hfl hg hnw hr hD hbd hn hE kk fu (k + 1) (ns := ns ++ [w]) (by omega) (by omega) (by rw [List.length_append, hnl]; rfl) hS2 hf02 hT2
      rw [nI_1]
      rw [rb_assoc]
      have e : (fun a => rb (.inr (w :: a) : RR (List (Nat × Int32))) fun bs => GG (ns ++ bs)) = (fun bs => GG (ns ++ [w] ++ bs)) := by
        funext a
        rw [rb_inr, List.append_assoc]
        rfl
      rw [e]
      exact this
/-- settle -/
theorem sl_l (hnw : NW P) (hr : rd ∈ S) (hD : DM Y0) (hbd : Y0.2.1 ≤ bd 0) (hn : 6002 ≤ n) (hE : W ≤ WE + 50) : ∀ (fu i : Nat) {Y : zY} {N : List (List (Nat × Int32))}, i ≤ P.2.1.length → P.2.1.length - i < fu → N.length = i → RS rd pl W Y ts → FR Y0 Y S → STL Y pl l rc sq bd P xs N → CR rd pl Y0 S W WE (cf111_2 n fu rd (nI i) Y) (rb (sMap (fun i => sMap (sSet1 P i) (P.2.1.getD i ([], (0, []), [], .inl 0, 0)).2.2.1) ((List.range P.2.1.length).drop i)) (fun Ns => .inr (N ++ Ns))) (fun _ => ts) (fun Y1 N _ => STL Y1 pl l rc sq bd P xs N)
  | 0, i, Y, N, _, h, _, _, _, _ => by omega
  | fu + 1, i, Y, N, hi, hfu, hN, h, hf, hT => by
    show CR rd pl Y0 S W WE (cb111_2 n (cf111_2 n fu) rd (nI i) Y) _ _ _
    unfold cb111_2
    have hP := hT.1
    have hl4 := hP.1.2.1.1 4 (by omega)
    have hlen := hP.2.1.1
    have hf24 : P.2.1.length ≤ 24 := by have := hP.1.2.2.2.2.2.2.2.2.1; rw [List.length_map] at this; exact this
    refine CR_y (rdr_p h.2.1) (CR_y rfl (CR_y (yR_of (r := some (l 4)) hP.1.1.1 rfl) (CR_y rfl (CR_g (lsx_o hl4) (CR_y (lsx_n hl4) ?_)))))
    dsimp only
    rw [hlen]
    by_cases hz : i = P.2.1.length
    · rw [if_pos (by rw [hz]; exact Int32.le_refl _), List.drop_eq_nil_of_le (by rw [List.length_range]; omega)]
      show CR rd pl Y0 S W WE _ (.inr (N ++ [])) _ _
      rw [List.append_nil]
      exact CR_s h hf hT
    · have hlt : i < P.2.1.length := by omega
      rw [if_neg (nI_ge hlt (by omega)), range_drop hlt]
      obtain ⟨g, hg⟩ : ∃ g, P.2.1[i]? = some g := ⟨_, List.getElem?_eq_getElem hlt⟩
      obtain ⟨fl, A, kd, st, fr, er, X, v4, v5, e1, hX, h4, h5, hm, b4, b5⟩ := PLN_g hP hg
      refine CR_y (rdr_p h.2.1) (CR_y rfl (CR_y (yR_of (r := some (l 4)) hP.1.1.1 rfl) (CR_y rfl (CR_g (lsx_o hl4) (CR_y (lsx_g hl4 e1 (by omega)) (CR_g (yk0 hX.1) ?_))))))
      show CR rd pl Y0 S W WE _ (rb (rb (sMap (sSet1 P i) (P.2.1.getD i ([], (0, []), [], .inl 0, 0)).2.2.1) fun b => rb (sMap (fun i => sMap (sSet1 P i) (P.2.1.getD i ([], (0, []), [], .inl 0, 0)).2.2.1) ((List.range P.2.1.length).drop (i + 1))) fun bs => .inr (b :: bs)) (fun Ns => .inr (N ++ Ns))) _ _
      rw [rb_assoc, gtD hg]
      have hT0 : STL Y pl l rc sq bd P xs (N ++ [[]]) := ⟨hP, fun j fl' ns' h1 h2 => by
        rcases Nat.lt_or_ge j N.length with d | d
        · rw [List.getElem?_append_left d] at h2
          exact hT.2 j fl' ns' h1 h2
        · have hj : j = i := by
            have := (List.getElem?_eq_some_iff.mp h2).1
            rw [List.length_append] at this
            have this : j < N.length + 1 := this
            omega
          subst hj
          rw [List.getElem?_append_right d, show j - N.length = 0 by omega] at h2
          cases h2
          rw [e1] at h1
          cases h1
          exact ⟨A, kd, st, _, fr, er, X, v4, v5, hX, h4, h5, fun k x hx => by cases hx⟩⟩
      have := sn_l (n := n) (fl := fl) (ts := ts) (r2 := cf111_2 n fu) (GG := fun ns2 => rb (sMap (fun i => sMap (sSet1 P i) (P.2.1.getD i ([], (0, []), [], .inl 0, 0)).2.2.1) ((List.range P.2.1.length).drop (i + 1))) (fun Ns => .inr ((N ++ [ns2]) ++ Ns))) (L := fun _ => ts) (Q := fun Y1 N _ => STL Y1 pl l rc sq bd P xs N) hN e1 hg (hnw g (List.mem_of_getElem? hg)) hr hD hbd hn hE (fun Y2 ns2 hS2 hf2 hT2 => sl_l hnw hr hD hbd hn hE fu (i + 1) (by omega) (by omega) (by rw [List.length_append, hN]; rfl) hS2 hf2 hT2) n 0 (ns := []) (by omega) (by have := hm.2.2.2.2.2.2.1; omega) rfl h hf hT0
      rw [List.drop_zero] at this
      have e : (fun a => rb (rb (sMap (fun i => sMap (sSet1 P i) (P.2.1.getD i ([], (0, []), [], .inl 0, 0)).2.2.1) ((List.range P.2.1.length).drop (i + 1))) fun bs => (.inr (a :: bs) : RR (List (List (Nat × Int32))))) fun Ns => (.inr (N ++ Ns) : RR (List (List (Nat × Int32))))) = (fun bs => rb (sMap (fun i => sMap (sSet1 P i) (P.2.1.getD i ([], (0, []), [], .inl 0, 0)).2.2.1) ((List.range P.2.1.length).drop (i + 1))) (fun Ns => (.inr ((N ++ [[] ++ bs]) ++ Ns) : RR (List (List (Nat × Int32)))))) := by
        funext a
        rw [rb_assoc]
        congr 1
        funext bs
        rw [rb_inr, List.nil_append, List.append_assoc]
        rfl
      rw [e]
      exact this
theorem sl_ok (hnw : NW P) (hr : rd ∈ S) (hD : DM Y0) (hbd : Y0.2.1 ≤ bd 0) (hn : 6002 ≤ n) (hE : W ≤ WE + 50) (h : RS rd pl W Y ts) (hf : FR Y0 Y S) (hP : PLN Y pl l rc sq bd P xs) : CR rd pl Y0 S W WE (c111 n rd Y) (sSetN P) (fun _ => ts) (fun Y1 N _ => STL Y1 pl l rc sq bd P xs N) := by
  have hf24 : P.2.1.length ≤ 24 := by have := hP.1.2.2.2.2.2.2.2.2.1; rw [List.length_map] at this; exact this
  have := sl_l (n := n) (W := W) (WE := WE) (ts := ts) hnw hr hD hbd hn hE n 0 (Y := Y) (N := []) (by omega) (by omega) rfl h hf ⟨hP, fun j fl ns h1 h2 => by cases h2⟩
  rw [List.drop_zero] at this
  unfold c111 sSetN
  have e : ∀ r : RR (List (List (Nat × Int32))), rb r (fun Ns => .inr ([] ++ Ns)) = r := fun r => by cases r <;> rfl
  rw [e] at this
  exact this
end
end ZKJ

/-! THE CLASS READS: rings, the order, the whole text -/
section ZKL
section
variable {n : Nat} {Y Y0 Y1 Y2 Y' : zY} {a b s p m e r q rd pl W W2 WE lo hi x c i j k : Nat} {S S1 : List Nat} {ts ts0 : List Tk} {l : Nat → Nat} {rc sq fl os pt : Nat} {xs xs' : Nat → List Nat} {P P' : Pln} {bd : Nat → Nat} {vr vr' : List Value} {g : Flg} {N : List (List (Nat × Int32))} {ns : List (Nat × Int32)}
/-- a ring is refused -/
def RNO (rd : Nat) (Y : zY) (o : Option ((Unit ⊕ Nat) × zY)) (t : Tk) : Prop := ∃ Y1, o = some (.inr 18, Y1) ∧ BY Y1 ∧ FR Y Y1 [rd] ∧ wY Y1 = wY Y + 22 ∧ FLT Y1 rd (sErr 6 t)
theorem rg_l {r2 : Nat → Int32 → zY → Option ((Unit ⊕ Nat) × zY)} (h : RS rd pl W Y ts) (hT : STL Y pl l rc sq bd P xs N) (hO : NOK P N) (hg : P.2.1[i]? = some g) (hns : N[i]? = some ns) (hfl : (xs 4)[i]? = some fl) (hrc : Y.1 rc = some (oA 0 vr)) (hv : ∀ f : Nat, f < N.length → vr[f]? = some (Value.int (bitsI (rchB N f) 24))) : ∀ (fu k : Nat), k ≤ ns.length → ns.length - k < fu → match (((List.range ns.length).drop k).filterMap (rg1 P N i)).head? with
    | none => cf117_30 n r2 fu rd (nI i) (some fl) (nI k) Y = r2 rd (nI (i + 1)) Y
    | some t => RNO rd Y (cf117_30 n r2 fu rd (nI i) (some fl) (nI k) Y) t
  | 0, k, _, hk => by omega
  | fu + 1, k, hk, hfu => by
    have hrec := rg_l (r2 := r2) h hT hO hg hns hfl hrc hv fu (k + 1)
    obtain ⟨o1, o2, o3, o4⟩ := hO
    obtain ⟨fl', A, kd, st, fr, er, X, v4, v5, f1, f2, f3, f4, f5⟩ := STL_g hT hg hns
    rw [hfl] at f1
    cases f1
    have hiN := (List.getElem?_eq_some_iff.mp hns).1
    have hlen := AL_len f3.2.2.2.2.1
    rw [List.length_map] at hlen
    have hl4' := f3.2.2.2.2.2.2.1
    have hnl := o4 i g _ hg hns
    have e30 : cf117_30 n r2 (fu + 1) rd (nI i) (some fl) (nI k) Y = cb117_30 n r2 (cf117_30 n r2 fu) rd (nI i) (some fl) (nI k) Y := rfl
    rw [e30]
    have estart : ∀ {R}, (if nI ns.length ≤ nI k then r2 rd (nI i + 1) Y else (yR Y rd 5 0).bind fun x6 => x6.bind fun a8 => (yR Y a8 4 10).bind fun x9 => (yR Y fl 0 4).bind fun x11 => x11.bind fun a13 => (yaI Y a13 (nI k)).bind fun x14 => x9.bind fun a16 => (yaI Y a16 x14).bind fun x17 => if ((x17 >>> (nI i &&& 31)) &&& 1) = 0 then cb117_76 n r2 (cf117_30 n r2 fu) rd (nI i) (some fl) (nI k) Y else (yR Y fl 0 2).bind fun x20 => x20.bind fun a22 => zgd (yisO Y a22 14) <| (c74 n a22 (nI k) Y).bind fun p25 => zgd (ykC p25.2 p25.1 9 0) <| zgd (yisO p25.2 rd 5) <| (c70 n rd 6 p25.1 p25.2).bind fun p32 => zth p32 (fun r29 h30 => cb117_76 n r2 (cf117_30 n r2 fu) rd (nI i) (some fl) (nI k) h30) (fun x31 h30 => zgd (exOk x31) <| some (.inr x31, h30))) = R → cb117_30 n r2 (cf117_30 n r2 fu) rd (nI i) (some fl) (nI k) Y = R := by
      intro R hR
      unfold cb117_30
      refine bnd_eq rfl (zgd_eq (yisO_of f2.1) (bnd_eq (nc_ok f2 (by omega)) ?_))
      dsimp only
      rw [hlen, ← hnl]
      exact hR
    by_cases hz : k = ns.length
    · rw [List.drop_eq_nil_of_le (by rw [List.length_range]; omega)]
      show cb117_30 n r2 (cf117_30 n r2 fu) rd (nI i) (some fl) (nI k) Y = r2 rd (nI (i + 1)) Y
      refine estart ?_
      rw [if_pos (by rw [hz]; exact Int32.le_refl _), nI_1]
    · have hlt : k < ns.length := by omega
      have hx : ns[k]? = some ns[k] := List.getElem?_eq_getElem hlt
      have hx24 : ns[k].1 < N.length := o2 _ (List.mem_of_getElem? hns) _ (List.getElem_mem hlt)
      have hgx : ((N.getD i []).getD k (0, 0)).1 = ns[k].1 := by rw [gtD hns, gtD hx]
      have hgo : ∀ {R}, (if ((bitsI (rchB N ns[k].1) 24 >>> (nI i &&& 31)) &&& 1) = 0 then cb117_76 n r2 (cf117_30 n r2 fu) rd (nI i) (some fl) (nI k) Y else (yR Y fl 0 2).bind fun x20 => x20.bind fun a22 => zgd (yisO Y a22 14) <| (c74 n a22 (nI k) Y).bind fun p25 => zgd (ykC p25.2 p25.1 9 0) <| zgd (yisO p25.2 rd 5) <| (c70 n rd 6 p25.1 p25.2).bind fun p32 => zth p32 (fun r29 h30 => cb117_76 n r2 (cf117_30 n r2 fu) rd (nI i) (some fl) (nI k) h30) (fun x31 h30 => zgd (exOk x31) <| some (.inr x31, h30))) = R → cb117_30 n r2 (cf117_30 n r2 fu) rd (nI i) (some fl) (nI k) Y = R := by
        intro R hR
        refine estart ?_
        rw [if_neg (nI_ge hlt (by omega))]
        exact bnd_eq (rdr_p h.2.1) (bnd_eq rfl (bnd_eq (yR_of (r := some rc) hT.1.1.1.1 rfl) (bnd_eq (yR_of (r := some (A 4)) f2.1 rfl) (bnd_eq rfl (bnd_eq (yaI_of f2.2.2.2.2.2.2.1 (by omega) (f5 k _ hx).1) (bnd_eq rfl (bnd_eq (yaI_of hrc (by omega) (hv _ hx24)) hR)))))))
      rw [range_drop hlt, List.filterMap_cons]
      rw [bits_t (by omega)] at hgo
      cases hr : rchB N ns[k].1 i with
      | true =>
        have hrg : rg1 P N i k = some (tkN P i k) := by unfold rg1; rw [hgx, if_pos hr]
        rw [hrg]
        show RNO rd Y _ (tkN P i k)
        obtain ⟨nd, hnd⟩ : ∃ nd, g.2.2.1[k]? = some nd := ⟨_, List.getElem?_eq_getElem (by omega)⟩
        have htk : tkN P i k = nd.1 := by unfold tkN; rw [gtD hg, gtD hnd]
        obtain ⟨ta, ha1, ha2⟩ := AL_get f3.2.2.2.2.1 (i := k) (y := nd.1) (by rw [List.getElem?_map, hnd]; rfl)
        have hA2 := f2.2.2.1 2 (by omega) (by omega)
        obtain ⟨sa, j1, j2, j3, j4, j5, j6, j7, j8⟩ := tk_txt ha2
        obtain ⟨ea, na, ka⟩ := ha2
        obtain ⟨Y1, g1, g2, g3, g4, g5⟩ := ref_ok (n := n) (kd := 6) h.1 h.2.1 ka
        refine ⟨Y1, hgo ?_, g2, g3, g4, by rw [htk]; exact g5⟩
        rw [hr, if_pos rfl, if_neg (by decide)]
        exact bnd_eq (yR_of (r := some (A 2)) f2.1 rfl) (bnd_eq rfl (zgd_eq (lsx_o hA2) (bnd_eq (lsx_g hA2 ha1 (by omega)) (zgd_eq j6 (zgd_eq (rdr_o h.2.1) (bnd_eq g1 rfl))))))
      | false =>
        have hrg : rg1 P N i k = none := by unfold rg1; rw [hgx, if_neg (by rw [hr]; decide)]
        rw [hrg]
        have hrec := hrec (by omega) (by omega)
        have e2 : cb117_30 n r2 (cf117_30 n r2 fu) rd (nI i) (some fl) (nI k) Y = cf117_30 n r2 fu rd (nI i) (some fl) (nI (k + 1)) Y := by
          refine hgo ?_
          rw [hr, if_neg (show ¬ false = true by decide), if_pos rfl]
          unfold cb117_76
          rw [nI_1]
        rw [e2]
        exact hrec
theorem rG_l (h : RS rd pl W Y ts) (hT : STL Y pl l rc sq bd P xs N) (hO : NOK P N) (hrc : Y.1 rc = some (oA 0 vr)) (hv : ∀ f : Nat, f < N.length → vr[f]? = some (Value.int (bitsI (rchB N f) 24))) (hn : 6002 ≤ n) : ∀ (fu i : Nat), i ≤ N.length → N.length - i < fu → match (((List.range N.length).drop i).flatMap (rgF P N)).head? with
    | none => cf117_2 n fu rd (nI i) Y = some (.inl (), Y)
    | some t => RNO rd Y (cf117_2 n fu rd (nI i) Y) t
  | 0, i, _, hk => by omega
  | fu + 1, i, hi, hfu => by
    have hrec := rG_l h hT hO hrc hv hn fu (i + 1)
    have hO' := hO
    obtain ⟨o1, o2, o3, o4⟩ := hO'
    have hl4 := hT.1.1.2.1.1 4 (by omega)
    have e30 : cf117_2 n (fu + 1) rd (nI i) Y = cb117_2 n (cf117_2 n fu) rd (nI i) Y := rfl
    rw [e30]
    have hpo : yisO Y pl 4 = true := yisO_of hT.1.1.1.1
    by_cases hz : i = N.length
    · rw [List.drop_eq_nil_of_le (by rw [List.length_range]; omega)]
      show cb117_2 n (cf117_2 n fu) rd (nI i) Y = some (.inl (), Y)
      unfold cb117_2
      refine bnd_eq (rdr_p h.2.1) (bnd_eq rfl (zgd_eq hpo (bnd_eq (fc_ok hT.1) ?_)))
      dsimp only
      rw [if_pos (by rw [hz, o1]; exact Int32.le_refl _)]
    · have hlt : i < N.length := by omega
      obtain ⟨g, hg⟩ : ∃ g, P.2.1[i]? = some g := ⟨_, List.getElem?_eq_getElem (by omega)⟩
      have hns : N[i]? = some N[i] := List.getElem?_eq_getElem hlt
      obtain ⟨fl, A, kd, st, fr, er, X, v4, v5, f1, f2, f3, f4, f5⟩ := STL_g hT hg hns
      have hnl := o4 i g _ hg hns
      have hl4' := f3.2.2.2.2.2.2.1
      have e2 : cb117_2 n (cf117_2 n fu) rd (nI i) Y = cf117_30 n (cf117_2 n fu) n rd (nI i) (some fl) (nI 0) Y := by
        unfold cb117_2
        refine bnd_eq (rdr_p h.2.1) (bnd_eq rfl (zgd_eq hpo (bnd_eq (fc_ok hT.1) ?_)))
        dsimp only
        rw [if_neg (nI_ge (show i < P.2.1.length by omega) (by omega))]
        exact bnd_eq (rdr_p h.2.1) (bnd_eq rfl (bnd_eq (yR_of (r := some (l 4)) hT.1.1.1.1 rfl) (bnd_eq rfl (zgd_eq (lsx_o hl4) (bnd_eq (lsx_g hl4 f1 (by omega)) (zgd_eq (yk0 f2.1) rfl))))))
      rw [e2, range_drop hlt, List.flatMap_cons, List.head?_append]
      have hgf : rgF P N i = ((List.range N[i].length).drop 0).filterMap (rg1 P N i) := by
        unfold rgF
        rw [gtD hns, List.drop_zero]
      have hs := rg_l (n := n) (r2 := cf117_2 n fu) h hT hO hg hns f1 hrc hv n 0 (by omega) (by omega)
      rw [hgf]
      cases hh : (((List.range N[i].length).drop 0).filterMap (rg1 P N i)).head? with
      | some t =>
        rw [hh] at hs
        exact hs
      | none =>
        rw [hh] at hs
        have hs : cf117_30 n (cf117_2 n fu) n rd (nI i) (some fl) (nI 0) Y = cf117_2 n fu rd (nI (i + 1)) Y := hs
        rw [hs]
        exact hrec (by omega) (by omega)
/-- lookForRings -/
theorem rng_c (h : RS rd pl W Y ts) (hf : FR Y0 Y S) (hr : rd ∈ S) (hD : DM Y0) (hT : STL Y pl l rc sq bd P xs N) (hO : NOK P N) (hrc : Y.1 rc = some (oA 0 vr)) (hv : ∀ f : Nat, f < N.length → vr[f]? = some (Value.int (bitsI (rchB N f) 24))) (hn : 6002 ≤ n) (hE : W ≤ WE + 50) : CR rd pl Y0 S W WE (c117 n rd Y) (sRing P N) (fun _ => ts) (fun Y1 _ _ => Y1 = Y ∧ sRing P N = .inr ()) := by
  have o3 := hO.2.2.1
  have hW := h.2.2
  have hlt := rdr_len h.2.1
  have := rG_l (n := n) h hT hO hrc hv hn n 0 (by omega) (by omega)
  rw [List.drop_zero] at this
  unfold c117
  rw [sRing_eq, show (0 : Int32) = nI 0 from rfl]
  cases hh : ((List.range N.length).flatMap (rgF P N)).head? with
  | none =>
    rw [hh] at this
    exact ⟨(), Y, this, h, hf, rfl, rfl⟩
  | some t =>
    rw [hh] at this
    obtain ⟨Y1, g1, g2, g3, g4, g5⟩ := this
    exact ⟨Y1, g1, g2, FR_T hf g3 (fun a ha => by rw [List.mem_singleton.mp ha]; exact Or.inl hr) hD, by omega, g5⟩
/-- which flag is next -/
theorem nx_l {done : List Nat} (hN : NL N) (h24 : N.length ≤ 24) (hd : ∀ x ∈ done, x < N.length) (hpl : Y.1 pl = some (oB 4 (plF l os pt rc sq))) (hrc : Y.1 rc = some (oA 0 vr)) (hv : ∀ f : Nat, f < N.length → vr[f]? = some (Value.int (bitsI (rchB N f) 24))) : ∀ (fu i : Nat), i ≤ N.length → N.length - i < fu → cf119_2 n fu pl (bitsI (fun j => done.contains j) 24) (nI N.length) (nI i) Y = some (nI ((((List.range N.length).drop i).find? (fun i => ready N done i)).getD 0), Y)
  | 0, i, _, hk => by omega
  | fu + 1, i, hi, hfu => by
    have hrec := nx_l hN h24 hd hpl hrc hv fu (i + 1)
    show cb119_2 n (cf119_2 n fu) pl (bitsI (fun j => done.contains j) 24) (nI N.length) (nI i) Y = _
    unfold cb119_2
    by_cases hz : i = N.length
    · rw [if_pos (by rw [hz]; exact Int32.le_refl _), List.drop_eq_nil_of_le (by rw [List.length_range]; omega)]
      rfl
    · have hlt : i < N.length := by omega
      rw [if_neg (nI_ge hlt (by omega)), range_drop hlt]
      have hb := rdy_bits (done := done) hN h24 hd hlt
      have hgo : cb119_30 n (cf119_2 n fu) pl (bitsI (fun j => done.contains j) 24) (nI N.length) (nI i) Y = some (nI ((((List.range N.length).drop (i + 1)).find? (fun i => ready N done i)).getD 0), Y) := by
        unfold cb119_30
        rw [nI_1]
        exact hrec (by omega) (by omega)
      by_cases hr : ready N done i = true
      · obtain ⟨a1, a2⟩ := hb.mp hr
        rw [if_pos a1, List.find?_cons_of_pos hr]
        refine bnd_eq (yR_of (r := some rc) hpl rfl) (bnd_eq rfl (bnd_eq (yaI_of hrc (by omega) (hv i hlt)) ?_))
        rw [if_pos a2]
        rfl
      · rw [List.find?_cons_of_neg hr]
        by_cases a1 : ((bitsI (fun j => done.contains j) 24 >>> (nI i &&& 31)) &&& 1) = 0
        · rw [if_pos a1]
          refine bnd_eq (yR_of (r := some rc) hpl rfl) (bnd_eq rfl (bnd_eq (yaI_of hrc (by omega) (hv i hlt)) ?_))
          rw [if_neg (fun q => hr (hb.mpr ⟨a1, q⟩))]
          exact hgo
        · rw [if_neg a1]
          exact hgo
/-- the order is laid -/
theorem sq_l (ha : ∀ i, rchB N i i = false) (hN : NL N) (h24 : N.length ≤ 24) (hn : 6002 ≤ n) (h139 : 139 ≤ sq) (hrs : rc ≠ sq) (hv : ∀ f : Nat, f < N.length → vr[f]? = some (Value.int (bitsI (rchB N f) 24))) : ∀ (m fu : Nat) (done : List Nat) {Y : zY} {vs : List Value}, done.length + m = N.length → m < fu → Y.1 pl = some (oB 4 (plF l os pt rc sq)) → Y.1 rc = some (oA 0 vr) → Y.1 sq = some (oA 0 vs) → vs.length = 24 → (∀ x ∈ done, x < N.length) → (∀ (i x : Nat), done[i]? = some x → vs[i]? = some (Value.int (nI x))) → ∃ vs', cf118_9 n fu pl (nI N.length) (bitsI (fun j => done.contains j) 24) (nI done.length) Y = some ((), yu Y sq (some (oA 0 vs'))) ∧ vs'.length = 24 ∧ ∀ (i x : Nat), (seqL N m done)[i]? = some x → vs'[i]? = some (.int (nI x))
  | m, 0, done, Y, vs, _, hf, _, _, _, _, _, _ => by omega
  | 0, fu + 1, done, Y, vs, hm, hf, hpl, hrc, hsq, hl, hd, hc => by
    refine ⟨vs, ?_, hl, hc⟩
    show cb118_9 n (cf118_9 n fu) pl (nI N.length) _ (nI done.length) Y = _
    unfold cb118_9
    rw [if_pos (by rw [show done.length = N.length by omega]; exact Int32.le_refl _), yu_id hsq]
  | m + 1, fu + 1, done, Y, vs, hm, hf, hpl, hrc, hsq, hl, hd, hc => by
    obtain ⟨i0, i1, i2⟩ : ∃ i, i < N.length ∧ i ∉ done := by
      refine Classical.byContradiction fun q => ?_
      have := pig N.length done (fun i hi => Classical.byContradiction fun r => q ⟨i, hi, r⟩)
      omega
    obtain ⟨j, j1, j2⟩ := rdy_ex ha done _ i0 i1 i2 (Nat.le_refl _)
    obtain ⟨a, ha'⟩ : ∃ a, (List.range N.length).find? (fun i => ready N done i) = some a := by
      cases hfi : (List.range N.length).find? (fun i => ready N done i) with
      | some a => exact ⟨a, rfl⟩
      | none =>
        rw [List.find?_eq_none] at hfi
        exact absurd j2 (hfi j (List.mem_range.mpr j1))
    have haN : a < N.length := List.mem_range.mp (List.mem_of_find?_eq_some ha')
    have hst := nx_l (n := n) (done := done) hN h24 hd hpl hrc hv n 0 (by omega) (by omega)
    rw [List.drop_zero, ha'] at hst
    have hbit : bitsI (fun j => done.contains j) 24 ||| ((1 : Int32) <<< (nI a &&& 31)) = bitsI (fun j => (done ++ [a]).contains j) 24 := by
      rw [bits_set (by omega)]
      refine bits_eq (fun j _ => ?_)
      by_cases q : j = a
      · subst q; simp
      · simp [q]
    have hl' : (done ++ [a]).length = done.length + 1 := by rw [List.length_append]; rfl
    have hps : pl ≠ sq := fun e => by rw [e, hsq] at hpl; cases hpl
    obtain ⟨u, hu⟩ : ∃ u, zg vs done.length = some u := ⟨_, by rw [zg_eq]; exact List.getElem?_eq_getElem (show done.length < vs.length by omega)⟩
    obtain ⟨vs', k1, k2, k3⟩ := sq_l ha hN h24 hn h139 hrs hv m fu (done ++ [a]) (Y := yu Y sq (some (oA 0 (zs vs done.length (.int (nI a)))))) (vs := zs vs done.length (.int (nI a))) (by omega) (by omega) (by rw [yu_n hps]; exact hpl) (by rw [yu_n hrs]; exact hrc) yu_s (by rw [zs_length]; exact hl) (by
      intro x hx
      rcases List.mem_append.mp hx with hx | hx
      · exact hd x hx
      · rw [List.mem_singleton.mp hx]; exact haN) (by
      intro i x hx
      rcases get_app hx with hx | ⟨hz, hx⟩
      · have := lt_of_get hx
        rw [← zg_eq, zg_ne _ _ _ _ (by omega), zg_eq]
        exact hc i x hx
      · rw [hz, hx, ← zg_eq, zg_zs_eq (by omega)])
    rw [yu_yu, hl'] at k1
    refine ⟨vs', ?_, k2, fun i x hx => k3 i x ?_⟩
    · show cb118_9 n (cf118_9 n fu) pl (nI N.length) _ (nI done.length) Y = _
      unfold cb118_9
      rw [if_neg (nI_ge (by omega) (by omega))]
      refine zgd_eq (yisO_of hpl) (bnd_eq (show c119 n pl (bitsI (fun j => done.contains j) 24) (nI N.length) Y = some (nI a, Y) from hst) ?_)
      refine bnd_eq (yR_of (r := some sq) hpl rfl) (bnd_eq rfl (bnd_eq (yS_of (y := .int (nI a)) (ok := zsI) (v := .int (nI a)) hsq h139 rfl (by omega) hu) ?_))
      rw [hbit, nI_1]
      exact k1
    · have : seqL N (m + 1) done = seqL N m (done ++ [((List.range N.length).find? (fun i => ready N done i)).getD 0]) := rfl
      rw [this, ha'] at hx
      exact hx
/-- a plan that was loaded -/
def LDP (Y : zY) (pl : Nat) (l : Nat → Nat) (rc sq : Nat) (bd : Nat → Nat) (xs : Nat → List Nat) (L : Ldd) : Prop := STL Y pl l rc sq bd L.1 xs L.2.1 ∧ NOK L.1 L.2.1 ∧ (∃ vr, Y.1 rc = some (oA 0 vr) ∧ ∀ f : Nat, f < L.2.1.length → vr[f]? = some (Value.int (bitsI (rchB L.2.1 f) 24))) ∧ ∃ vs, Y.1 sq = some (oA 0 vs) ∧ ∀ (i x : Nat), L.2.2[i]? = some x → vs[i]? = some (.int (nI x))
theorem NOK_of (h : PLN Y pl l rc sq bd P xs) (e : sSetN P = .inr N) : NOK P N ∧ ∀ (f : Nat) (l : List (Nat × Int32)), N[f]? = some l → ∀ x ∈ l, x.1 ≠ f := by
  have hf24 : P.2.1.length ≤ 24 := by have := h.1.2.2.2.2.2.2.2.2.1; rw [List.length_map] at this; exact this
  obtain ⟨h1, h2⟩ := sSetN_r e
  refine ⟨⟨h1, fun l hl x hx => ?_, by omega, fun i g ns hg hns => ?_⟩, fun f l hl x hx => ((h2 f l hl).2 x hx).1⟩
  · obtain ⟨i, hi⟩ := List.mem_iff_getElem?.mp hl
    have := ((h2 i l hi).2 x hx).2
    omega
  · have := (h2 i ns hns).1
    rw [gtD hg] at this
    exact this
def txG (x : Pln × List Tk) : RR (Ldd × List Tk) := rb (sSetN x.1) fun N => rb (sRing x.1 N) fun _ => .inr ((x.1, N, seqL N N.length []), x.2)
/-- behind the text: needs, rings, order -/
theorem tx_e {l1 : Int32} (hnw : NW P) (hr : rd ∈ S) (hD : DM Y0) (hrc0 : Y0.2.1 ≤ rc) (hsq0 : Y0.2.1 ≤ sq) (hn : 6002 ≤ n) (hE : W ≤ WE + 50) (h : RS rd pl W Y ts) (hf : FR Y0 Y S) (hP : PLN Y pl l rc sq bd P xs) : CR rd pl Y0 S W WE (cb65_100 n rd l1 Y) (txG (P, ts)) (fun z => z.2) (fun Y1 z _ => ∃ bd xs, LDP Y1 pl l rc sq bd xs z.1) := by
  unfold cb65_100 txG
  have hbd : Y0.2.1 ≤ bd 0 := by have := hP.2.2.2.2.2.2.2.2.2.1; omega
  refine CR_g (rdr_o h.2.1) ?_
  refine CR_b (CR_q (sl_ok hnw hr hD hbd hn hE h hf hP)) (FR_R (S := S)) (fun a h => Or.inl h) hD ?_
  rintro N v Y1 hS1 hf1 hf01 ⟨hT1, hN⟩
  dsimp only at hS1 hT1 hN ⊢
  obtain ⟨hO, hne⟩ := NOK_of hP hN
  obtain ⟨vr, e1, e2, e3, hT2⟩ := rch_ok (n := n) hO hn hT1
  obtain ⟨vr0, r1, r2⟩ := hT1.1.2.2.2.2.1
  have hrr : rc ≠ rd := fun e => by
    obtain ⟨_, ⟨⟨_, _, _, k1, _⟩, _⟩, _⟩ := hS1
    rw [e, k1] at r1; cases r1
  have h139 := hT1.1.2.2.2.2.2.2.2.1
  have h139' := hT1.1.2.2.2.2.2.2.2.2.1
  have hrs := hT1.1.2.2.2.2.2.2.1
  refine CR_y (rdr_p hS1.2.1) (CR_y rfl (CR_g (yisO_of hT1.1.1.1.1) (CR_y e1 ?_)))
  dsimp only
  have hS2 : RS rd pl W (yu Y1 rc (some (oA 0 vr))) ts := RS_w hS1 r1 rfl hrr h139
  have hf2 : FR Y0 (yu Y1 rc (some (oA 0 vr))) S := FR_n hf01 hD hrc0
  refine CR_g (rdr_o hS2.2.1) ?_
  refine CR_b (rng_c hS2 hf2 hr hD hT2 hO yu_s e3 hn hE) (FR_R (S := S)) (fun a h => Or.inl h) hD ?_
  rintro _ v Y3 hS3 hf3 hf03 ⟨rfl, hring⟩
  have hac := ring_acyc hO.2.1 hne hring
  obtain ⟨vs0, s1, s2⟩ := hT2.1.2.2.2.2.2.1
  have hsr : sq ≠ rd := fun e => by
    obtain ⟨_, ⟨⟨_, _, _, k1, _⟩, _⟩, _⟩ := hS2
    rw [e, k1] at s1; cases s1
  have hz0 : (0 : Int32) = bitsI (fun j => ([] : List Nat).contains j) 24 := bits_0.symm
  obtain ⟨vs, k1, k2, k3⟩ := sq_l (n := n) (vr := vr) (pl := pl) (l := l) hac hO.2.1 hO.2.2.1 hn h139' hrs e3 N.length n [] (by show 0 + _ = _; omega) (by have := hO.2.2.1; omega) hT2.1.1.1.1 yu_s s1 s2 (fun x hx => by cases hx) (fun i x hx => by cases hx)
  have e118 : c118 n pl (yu Y1 rc (some (oA 0 vr))) = some ((), yu (yu Y1 rc (some (oA 0 vr))) sq (some (oA 0 vs))) := by
    unfold c118
    refine zgd_eq (yisO_of hT2.1.1.1.1) (bnd_eq (fc_ok hT2.1) ?_)
    dsimp only
    rw [← hO.1]
    rw [← hz0] at k1
    exact k1
  refine CR_y (rdr_p hS2.2.1) (CR_y rfl (CR_g (yisO_of hT2.1.1.1.1) (CR_y e118 ?_)))
  refine CR_s (s := ((P, N, seqL N N.length []), ts)) (RS_w hS2 s1 rfl hsr h139') (FR_n hf2 hD hsq0) ⟨bd, xs, STL_24 hT2 s1 s2 k2, hO, ⟨vr, by rw [yu_n hrs]; exact yu_s, e3⟩, vs, yu_s, k3⟩
/-- readText -/
theorem tx_ok (hr : rd ∈ S) (hD : DM Y0) (hS : ∀ a ∈ PS rd pl l, a ∈ S ∨ Y0.2.1 ≤ a) (hrc0 : Y0.2.1 ≤ rc) (hsq0 : Y0.2.1 ≤ sq) (hn : 6002 ≤ n) (hE : W ≤ WE + 50) (h : RS rd pl W Y ts) (hf : FR Y0 Y S) (hP : PLN Y pl l rc sq bd ([], [], [], [], [], [], 0) xs) : CR rd pl Y0 S W WE (c65 n rd Y) (rb (sTxtL 6000 ([], [], [], [], [], [], 0) ts) txG) (fun z => z.2) (fun Y1 z _ => ∃ bd xs, LDP Y1 pl l rc sq bd xs z.1) := by
  unfold c65
  exact tx_l hD hr hS hn hE (fun l1 Y2 ts2 P2 xs2 bd2 h2 hf2 hP2 hN2 => tx_e hN2 hr hD hrc0 hsq0 hn hE h2 hf2 hP2) n 0 (by omega) (by omega) h hf hP (fun g hg => by cases hg)
theorem sLoad_G {T : List Int32} : (rb (rb (sTxtL 6000 ([], [], [], [], [], [], 0) (tks T)) txG) fun z => (.inr z.1 : RR Ldd)) = sLoad T := by
  unfold sLoad txG
  rw [rb_assoc]
  congr 1
  funext x
  rw [rb_assoc]
  congr 1
  funext N
  rw [rb_assoc]
  congr 1
end
end ZKL

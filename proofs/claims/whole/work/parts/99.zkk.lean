/-! THE CLASS READS: what is reached -/
section ZKK
section
variable {n : Nat} {Y Y0 Y1 Y2 Y' : zY} {a b s p m e r q rd pl W W2 WE lo hi x c i j k : Nat} {S S1 : List Nat} {t : Nat} {ts ts0 : List Tk} {l : Nat → Nat} {rc sq fl os pt : Nat} {xs xs' : Nat → List Nat} {P P' : Pln} {bd : Nat → Nat} {vr vr' : List Value} {g : Flg} {N : List (List (Nat × Int32))} {ns : List (Nat × Int32)}
theorem yu_id {o : yO} (h : Y.1 a = some o) : yu Y a (some o) = Y := by
  unfold yu
  refine Prod.ext (funext fun i => ?_) rfl
  dsimp only
  by_cases q : i = a
  · rw [if_pos q, q, h]
  · rw [if_neg q]
theorem yaI_of {v : Int32} {vs : List Value} (h : Y.1 a = some (oA 0 vs)) (hj : j < 2 ^ 31) (hv : vs[j]? = some (.int v)) : yaI Y a (nI j) = some v := by
  unfold yaI
  rw [yal_of h rfl hj, zg_eq, hv]
  rfl
theorem cel_v {v w : List Value} (h1 : Y.1 a = some (oA 0 v)) (h2 : Y.1 a = some (oA 0 w)) : v = w := by
  rw [h1] at h2
  exact congrArg (fun o : Option yO => match o with | some (.inr (.inl (_, x))) => x | _ => v) h2
/-- a flag whose needs were settled -/
theorem STL_g (h : STL Y pl l rc sq bd P xs N) (hg : P.2.1[i]? = some g) (hns : N[i]? = some ns) : ∃ fl A kd st fr er X v4 v5, (xs 4)[i]? = some fl ∧ FLX Y fl A kd st g.2.2.2.2 fr er X v4 v5 ∧ FLm Y P.2.2.2.2.2.1 X kd st g ∧ RNG P.2.2.2.1 (fun r => r.1 = i ∧ r.2.1 = -1) fr er ∧ ∀ (k : Nat) (x : Nat × Int32), ns[k]? = some x → v4[k]? = some (Value.int (nI x.1)) ∧ v5[k]? = some (Value.int x.2) := by
  have hi := (List.getElem?_eq_some_iff.mp hg).1
  have hfl : (xs 4)[i]? = some ((xs 4)[i]'(by rw [h.1.2.1.1]; exact hi)) := List.getElem?_eq_getElem _
  obtain ⟨A, kd, st, fr, er, X, v4, v5, h1, h2, h3, h4, h5, h6, h7, h8, h9⟩ := h.1.2.1.2 i _ g hfl hg
  obtain ⟨A', kd', st', off', fr', er', X', w4, w5, k1, k2, k3, k4⟩ := h.2 i _ ns hfl hns
  obtain ⟨c4, c5⟩ := FLX_A h1 k1
  have e4 : w4 = v4 := cel_v k1.2.2.2.2.2.2.1 (by rw [← c4]; exact h1.2.2.2.2.2.2.1)
  have e5 : w5 = v5 := cel_v k1.2.2.2.2.2.2.2.1 (by rw [← c5]; exact h1.2.2.2.2.2.2.2.1)
  rw [e4, e5] at k4
  exact ⟨_, A, kd, st, fr, er, X, v4, v5, hfl, h1, h4, h5, k4⟩
/-- how many flags -/
theorem fc_ok (h : PLN Y pl l rc sq bd P xs) : c115 n pl Y = some (nI P.2.1.length, Y) := by
  have hl4 := h.1.2.1.1 4 (by omega)
  have hf24 : P.2.1.length ≤ 24 := by have := h.1.2.2.2.2.2.2.2.2.1; rw [List.length_map] at this; exact this
  unfold c115
  refine bnd_eq (yR_of (r := some (l 4)) h.1.1.1 rfl) (bnd_eq rfl (zgd_eq (lsx_o hl4) (bnd_eq (lsx_n hl4) ?_)))
  rw [h.2.1.1]
  have : c43 n (nI P.2.1.length) 24 Y = some (nI P.2.1.length, Y) := by
    unfold c43
    rw [if_neg (by rw [show (24 : Int32) = nI 24 from rfl, nI_ltI (by omega) (by omega)]; omega)]
  exact bnd_eq this rfl
theorem edT_s {l : List (Nat × Int32)} {x : Nat × Int32} (hx : l[k]? = some x) (h24 : x.1 < 24) : bitsI (edT (l.take k)) 24 ||| ((1 : Int32) <<< (nI x.1 &&& 31)) = bitsI (edT (l.take (k + 1))) 24 := by
  rw [bits_set h24]
  refine bits_eq (fun j _ => ?_)
  unfold edT
  rw [List.take_add_one, hx, List.any_append]
  show _ = (_ || List.any [x] _)
  rw [List.any_cons, List.any_nil, Bool.or_false]
  congr 1
  by_cases q : j = x.1
  · subst q; simp
  · rw [show (j == x.1) = false by simpa using q, show (x.1 == j) = false by simpa using fun e => q e.symm]
/-- the flags that a flag needs, as bits -/
theorem nb_l {A : Nat → Nat} {kd st fr er : Nat} {off : Int32} {X : Nat → List Nat} {v4 v5 : List Value} (hX : FLX Y fl A kd st off fr er X v4 v5) (hl : (X 2).length = ns.length) (hl4 : ns.length ≤ 4) (hv : ∀ (k : Nat) (x : Nat × Int32), ns[k]? = some x → v4[k]? = some (Value.int (nI x.1))) (h24 : ∀ x ∈ ns, x.1 < 24) : ∀ (fu k : Nat), k ≤ ns.length → ns.length - k < fu → cf116_4 n fu fl (bitsI (edT (ns.take k)) 24) (nI k) Y = some (bitsI (edT ns) 24, Y)
  | 0, k, _, h => by omega
  | fu + 1, k, hk, hfu => by
    show cb116_4 n (cf116_4 n fu) fl (bitsI (edT (ns.take k)) 24) (nI k) Y = _
    unfold cb116_4
    refine zgd_eq (yisO_of hX.1) (bnd_eq (nc_ok hX (by omega)) ?_)
    dsimp only
    rw [hl]
    by_cases hz : k = ns.length
    · rw [if_pos (by rw [hz]; exact Int32.le_refl _), hz, List.take_length]
    · have hlt : k < ns.length := by omega
      rw [if_neg (nI_ge hlt (by omega))]
      have hx : ns[k]? = some ns[k] := List.getElem?_eq_getElem hlt
      refine bnd_eq (yR_of (r := some (A 4)) hX.1 rfl) (bnd_eq rfl (bnd_eq (yaI_of hX.2.2.2.2.2.2.1 (by omega) (hv k _ hx)) ?_))
      rw [edT_s hx (h24 _ (List.getElem_mem hlt)), nI_1]
      exact nb_l hX hl hl4 hv h24 fu (k + 1) (by omega) (by omega)
def NOK (P : Pln) (N : List (List (Nat × Int32))) : Prop := N.length = P.2.1.length ∧ NL N ∧ N.length ≤ 24 ∧ ∀ (i : Nat) (g : Flg) (ns : List (Nat × Int32)), P.2.1[i]? = some g → N[i]? = some ns → ns.length = g.2.2.1.length
theorem edT_e (h : N[i]? = some ns) : bitsI (edT ns) 24 = bitsI (edge N i) 24 := by
  congr 1
  funext j
  unfold edT edge
  rw [gtD h]
/-- each flag's own needs -/
theorem rA_l (hO : NOK P N) (hn : 6002 ≤ n) : ∀ (fu i : Nat) {Y : zY} {vr : List Value}, i ≤ N.length → N.length - i < fu → STL Y pl l rc sq bd P xs N → Y.1 rc = some (oA 0 vr) → vr.length = 24 → (∀ j : Nat, j < i → vr[j]? = some (Value.int (bitsI (edge N j) 24))) → ∃ vr', cf114_7 n fu pl (nI N.length) (nI i) Y = cf114_40 n n pl (nI N.length) 0 (yu Y rc (some (oA 0 vr'))) ∧ vr'.length = 24 ∧ ∀ j : Nat, j < N.length → vr'[j]? = some (Value.int (bitsI (edge N j) 24))
  | 0, i, Y, vr, _, h, _, _, _, _ => by omega
  | fu + 1, i, Y, vr, hi, hfu, hT, hrc, hl, hv => by
    obtain ⟨o1, o2, o3, o4⟩ := hO
    have h139 := hT.1.2.2.2.2.2.2.2.1
    have e7 : cf114_7 n (fu + 1) pl (nI N.length) (nI i) Y = cb114_7 n (cf114_7 n fu) pl (nI N.length) (nI i) Y := rfl
    rw [e7]
    unfold cb114_7
    by_cases hz : i = N.length
    · rw [if_pos (by rw [hz]; exact Int32.le_refl _)]
      exact ⟨vr, by rw [yu_id hrc], hl, fun j hj => hv j (by omega)⟩
    · have hlt : i < N.length := by omega
      rw [if_neg (nI_ge hlt (by omega))]
      obtain ⟨g, hg⟩ : ∃ g, P.2.1[i]? = some g := ⟨_, List.getElem?_eq_getElem (by omega)⟩
      have hns : N[i]? = some N[i] := List.getElem?_eq_getElem hlt
      obtain ⟨fl, A, kd, st, fr, er, X, v4, v5, f1, f2, f3, f4, f5⟩ := STL_g hT hg hns
      have hlen := AL_len f3.2.2.2.2.1
      rw [List.length_map] at hlen
      have hl4' := f3.2.2.2.2.2.2.1
      have hnl := o4 i g _ hg hns
      have hl4 := hT.1.1.2.1.1 4 (by omega)
      have hnb : c116 n fl Y = some (bitsI (edge N i) 24, Y) := by
        have := nb_l (n := n) f2 (by rw [hlen, hnl]) (by omega) (fun k x hx => (f5 k x hx).1) (fun x hx => by have := o2 _ (List.getElem_mem hlt) x hx; omega) n 0 (by omega) (by omega)
        rw [edT_e hns] at this
        unfold c116
        have e0 : bitsI (edT (N[i].take 0)) 24 = 0 := by
          rw [List.take_zero]
          exact bits_0
        rw [e0] at this
        exact this
      obtain ⟨u, hu⟩ : ∃ u, zg vr i = some u := ⟨_, by rw [zg_eq]; exact List.getElem?_eq_getElem (show i < vr.length by omega)⟩
      obtain ⟨vr', k1, k2, k3⟩ := rA_l ⟨o1, o2, o3, o4⟩ hn fu (i + 1) (Y := yu Y rc (some (oA 0 (zs vr i (.int (bitsI (edge N i) 24)))))) (by omega) (by omega) (STL_24 hT hrc hl (by rw [zs_length]; exact hl)) yu_s (by rw [zs_length]; exact hl) (fun j hj => by
        by_cases c : j = i
        · subst c; rw [← zg_eq, zg_zs_eq (by omega)]
        · rw [← zg_eq, zg_ne _ _ _ _ c, zg_eq]; exact hv j (by omega))
      refine ⟨vr', ?_, k2, k3⟩
      rw [yu_yu] at k1
      refine bnd_eq (yR_of (r := some rc) hT.1.1.1.1 rfl) (bnd_eq (yR_of (r := some (l 4)) hT.1.1.1.1 rfl) (bnd_eq rfl (zgd_eq (lsx_o hl4) (bnd_eq (lsx_g hl4 f1 (by omega)) (zgd_eq (yk0 f2.1) (bnd_eq rfl (zgd_eq (yisO_of f2.1) (bnd_eq hnb (bnd_eq rfl (bnd_eq (yS_of (y := .int (bitsI (edge N i) 24)) (ok := zsI) (v := .int (bitsI (edge N i) 24)) hrc h139 rfl (by omega) hu) ?_))))))))))
      rw [nI_1]
      exact k1
/-- rows of reach, between two bounds -/
def RLc (vr : List Value) (N : List (List (Nat × Int32))) (lo : Nat → Nat → Bool) : Prop := vr.length = 24 ∧ ∀ i : Nat, i < N.length → ∃ s, vr[i]? = some (Value.int (bitsI s 24)) ∧ (∀ j, lo i j = true → s j = true) ∧ ∀ j, s j = true → rchB N i j = true
def loC (N : List (List (Nat × Int32))) (t i a j : Nat) : Bool := if a < i then pathN N (t + 1) a j else pathN N t a j
theorem rB_l {r40 : Nat → Int32 → Int32 → zY → Option (Unit × zY)} (h24 : N.length ≤ 24) (ht : t < N.length) (h139 : 139 ≤ rc) : ∀ (fu i : Nat) {Y : zY} {vr : List Value}, i ≤ N.length → N.length - i < fu → Y.1 pl = some (oB 4 (plF l os pt rc sq)) → Y.1 rc = some (oA 0 vr) → RLc vr N (loC N t i) → ∃ vr', cf114_47 n r40 fu pl (nI N.length) (nI t) (nI i) Y = r40 pl (nI N.length) (nI (t + 1)) (yu Y rc (some (oA 0 vr'))) ∧ RLc vr' N (pathN N (t + 1))
  | 0, i, Y, vr, _, h, _, _, _ => by omega
  | fu + 1, i, Y, vr, hi, hfu, hpl, hrc, hr => by
    have hl := hr.1
    have hne : pl ≠ rc := fun e => by rw [e, hrc] at hpl; cases hpl
    have e7 : cf114_47 n r40 (fu + 1) pl (nI N.length) (nI t) (nI i) Y = cb114_47 n r40 (cf114_47 n r40 fu) pl (nI N.length) (nI t) (nI i) Y := rfl
    rw [e7]
    unfold cb114_47
    by_cases hz : i = N.length
    · rw [if_pos (by rw [hz]; exact Int32.le_refl _), nI_1]
      refine ⟨vr, by rw [yu_id hrc], hl, fun a ha => ?_⟩
      obtain ⟨s, s1, s2, s3⟩ := hr.2 a ha
      exact ⟨s, s1, fun j hj => s2 j (by unfold loC; rw [if_pos (by omega)]; exact hj), s3⟩
    · have hlt : i < N.length := by omega
      obtain ⟨si, i1, i2, i3⟩ := hr.2 i hlt
      obtain ⟨st, t1, t2, t3⟩ := hr.2 t ht
      rw [if_neg (nI_ge hlt (by omega))]
      have step : ∀ (Z : zY) (vz : List Value) (s' : Nat → Bool), Z = yu Y rc (some (oA 0 vz)) → vz.length = 24 → vz[i]? = some (.int (bitsI s' 24)) → (∀ j, j ≠ i → vz[j]? = vr[j]?) → (∀ j, si j = true → s' j = true) → (si t = true → ∀ j, st j = true → s' j = true) → (∀ j, s' j = true → rchB N i j = true) → ∃ vr', cf114_47 n r40 fu pl (nI N.length) (nI t) (nI (i + 1)) Z = r40 pl (nI N.length) (nI (t + 1)) (yu Y rc (some (oA 0 vr'))) ∧ RLc vr' N (pathN N (t + 1)) := by
        intro Z vz s' hZ hlz hi' hoth hs1 hs2 hs3
        obtain ⟨vr', k1, k2⟩ := rB_l h24 ht h139 fu (i + 1) (Y := Z) (vr := vz) (by omega) (by omega) (by rw [hZ, yu_n hne]; exact hpl) (by rw [hZ]; exact yu_s) ⟨hlz, fun a ha => by
          by_cases c : a = i
          · subst c
            refine ⟨s', hi', fun j hj => ?_, hs3⟩
            unfold loC at hj
            rw [if_pos (by omega), pathN_s, Bool.or_eq_true, Bool.and_eq_true] at hj
            have lo_t : ∀ j, pathN N t t j = true → st j = true := fun j hj => t2 j (by
              unfold loC
              by_cases q : t < a
              · rw [if_pos q]; exact pathN_m hj (by omega)
              · rw [if_neg q]; exact hj)
            have lo_i : ∀ j, pathN N t a j = true → si j = true := fun j hj => i2 j (by unfold loC; rw [if_neg (by omega)]; exact hj)
            rcases hj with hj | hj
            · exact hs1 j (lo_i j hj)
            · exact hs2 (lo_i t hj.1) j (lo_t j hj.2)
          · obtain ⟨s, s1, s2, s3⟩ := hr.2 a ha
            refine ⟨s, by rw [hoth a c]; exact s1, fun j hj => s2 j ?_, s3⟩
            unfold loC at hj ⊢
            by_cases q : a < i
            · rw [if_pos (by omega)] at hj
              rw [if_pos q]; exact hj
            · rw [if_neg (by omega)] at hj
              rw [if_neg q]; exact hj⟩
        refine ⟨vr', ?_, k2⟩
        rw [hZ, yu_yu] at k1
        rw [hZ]
        exact k1
      have hR : yR Y pl 4 10 = some (some rc) := yR_of (r := some rc) hpl rfl
      have hI : yaI Y rc (nI i) = some (bitsI si 24) := yaI_of hrc (by omega) i1
      have hTt : yaI Y rc (nI t) = some (bitsI st 24) := yaI_of hrc (by omega) t1
      by_cases hb : si t = true
      · obtain ⟨u, hu⟩ : ∃ u, zg vr i = some u := ⟨_, by rw [zg_eq]; exact List.getElem?_eq_getElem (show i < vr.length by omega)⟩
        obtain ⟨vr', k1, k2⟩ := step (yu Y rc (some (oA 0 (zs vr i (.int (bitsI (fun j => si j || st j) 24)))))) (zs vr i (.int (bitsI (fun j => si j || st j) 24))) (fun j => si j || st j) rfl (by rw [zs_length]; exact hl) (by rw [← zg_eq, zg_zs_eq (by omega)]) (fun j hj => by rw [← zg_eq, zg_ne _ _ _ _ hj, zg_eq]) (fun j hj => by show (si j || st j) = true; rw [hj]; rfl) (fun _ j hj => by show (si j || st j) = true; rw [hj, Bool.or_true]) (fun j hj => by
          have hj : (si j || st j) = true := hj
          rw [Bool.or_eq_true] at hj
          rcases hj with hj | hj
          · exact i3 j hj
          · exact rch_t ht (i3 t hb) (t3 j hj))
        refine ⟨vr', ?_, k2⟩
        refine bnd_eq hR (bnd_eq rfl (bnd_eq hI ?_))
        rw [if_neg (by rw [bits_t (by omega), if_pos hb]; decide)]
        refine bnd_eq hR (bnd_eq rfl (bnd_eq hI (bnd_eq hR (bnd_eq rfl (bnd_eq hTt ?_)))))
        rw [bits_or]
        refine bnd_eq (yS_of (y := .int (bitsI (fun j => si j || st j) 24)) (ok := zsI) (v := .int (bitsI (fun j => si j || st j) 24)) hrc h139 rfl (by omega) hu) ?_
        unfold cb114_80
        rw [nI_1]
        exact k1
      · obtain ⟨vr', k1, k2⟩ := step Y vr si (yu_id hrc).symm hl i1 (fun _ _ => rfl) (fun j hj => hj) (fun q => absurd q hb) i3
        refine ⟨vr', ?_, k2⟩
        refine bnd_eq hR (bnd_eq rfl (bnd_eq hI ?_))
        rw [if_pos (by rw [bits_t (by omega), if_neg hb])]
        unfold cb114_80
        rw [nI_1]
        exact k1
theorem rC_l (h24 : N.length ≤ 24) (h139 : 139 ≤ rc) (hn : 6002 ≤ n) : ∀ (fu t : Nat) {Y : zY} {vr : List Value}, t ≤ N.length → N.length - t < fu → Y.1 pl = some (oB 4 (plF l os pt rc sq)) → Y.1 rc = some (oA 0 vr) → RLc vr N (pathN N t) → ∃ vr', cf114_40 n fu pl (nI N.length) (nI t) Y = some ((), yu Y rc (some (oA 0 vr'))) ∧ RLc vr' N (pathN N N.length)
  | 0, t, Y, vr, _, h, _, _, _ => by omega
  | fu + 1, t, Y, vr, ht, hfu, hpl, hrc, hr => by
    have e7 : cf114_40 n (fu + 1) pl (nI N.length) (nI t) Y = cb114_40 n (cf114_40 n fu) pl (nI N.length) (nI t) Y := rfl
    rw [e7]
    unfold cb114_40
    by_cases hz : t = N.length
    · rw [if_pos (by rw [hz]; exact Int32.le_refl _)]
      refine ⟨vr, by rw [yu_id hrc], ?_⟩
      rw [hz] at hr
      exact hr
    · have hlt : t < N.length := by omega
      have hne : pl ≠ rc := fun e => by rw [e, hrc] at hpl; cases hpl
      rw [if_neg (nI_ge hlt (by omega))]
      obtain ⟨v1, k1, k2⟩ := rB_l (n := n) (r40 := cf114_40 n fu) (pl := pl) (l := l) (os := os) (pt := pt) (sq := sq) h24 hlt h139 n 0 (Y := Y) (vr := vr) (by omega) (by omega) hpl hrc ⟨hr.1, fun a ha => by
        obtain ⟨s, s1, s2, s3⟩ := hr.2 a ha
        exact ⟨s, s1, fun j hj => s2 j (by unfold loC at hj; rw [if_neg (by omega)] at hj; exact hj), s3⟩⟩
      obtain ⟨v2, j1, j2⟩ := rC_l h24 h139 hn fu (t + 1) (Y := yu Y rc (some (oA 0 v1))) (vr := v1) (by omega) (by omega) (by rw [yu_n hne]; exact hpl) yu_s k2
      rw [yu_yu] at j1
      exact ⟨v2, k1.trans j1, j2⟩
/-- findReach -/
theorem rch_ok (hO : NOK P N) (hn : 6002 ≤ n) (hT : STL Y pl l rc sq bd P xs N) : ∃ vr, c114 n pl Y = some ((), yu Y rc (some (oA 0 vr))) ∧ vr.length = 24 ∧ (∀ f : Nat, f < N.length → vr[f]? = some (Value.int (bitsI (rchB N f) 24))) ∧ STL (yu Y rc (some (oA 0 vr))) pl l rc sq bd P xs N := by
  obtain ⟨vr0, h1, h2⟩ := hT.1.2.2.2.2.1
  have h139 := hT.1.2.2.2.2.2.2.2.1
  have o1 := hO.1
  have o3 := hO.2.2.1
  have hpl := hT.1.1.1.1
  have hne : pl ≠ rc := fun e => by rw [e, h1] at hpl; cases hpl
  obtain ⟨v1, a1, a2, a3⟩ := rA_l (n := n) hO hn n 0 (Y := Y) (by omega) (by omega) hT h1 h2 (fun j hj => by omega)
  obtain ⟨v2, b1, b2⟩ := rC_l (n := n) (N := N) o3 h139 hn n 0 (Y := yu Y rc (some (oA 0 v1))) (vr := v1) (pl := pl) (l := l) (by omega) (by omega) (by rw [yu_n hne]; exact hpl) yu_s ⟨a2, fun a ha => ⟨edge N a, a3 a ha, fun j hj => hj, fun j hj => rch_e hj⟩⟩
  rw [yu_yu] at b1
  refine ⟨v2, ?_, b2.1, fun f hf => ?_, STL_24 hT h1 h2 b2.1⟩
  · unfold c114
    refine zgd_eq (yisO_of hpl) (bnd_eq (fc_ok hT.1) ?_)
    dsimp only
    rw [← o1]
    exact a1.trans b1
  · obtain ⟨s, s1, s2, s3⟩ := b2.2 f hf
    rw [s1]
    have : bitsI s 24 = bitsI (rchB N f) 24 := bits_eq (fun j _ => by
      cases hr : rchB N f j with
      | true => exact s2 j hr
      | false =>
        cases hs : s j with
        | false => rfl
        | true => rw [s3 j hs] at hr; cases hr)
    rw [this]
end
end ZKK

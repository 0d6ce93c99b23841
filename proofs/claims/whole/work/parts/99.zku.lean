/-! THE CLASS JUDGES: value -/
section ZKU
section
variable {n : Nat} {Y Y0 Y1 Y2 : zY} {b jd k pl rc sq f : Nat} {K : KL} {vI vI' vW vW' vY vY' vs vs' : List Value} {A : Nat → Nat} {ans ans' a : Int32} {bs : List Bool} {l : Nat → Nat} {xs : Nat → List Nat} {bd : Nat → Nat} {L : Ldd} {W : Nat → Int32}
/-- which flags are worked out -/
def want (L : Ldd) (f g : Nat) : Bool := rchB L.2.1 f g || g == f
theorem want_b {g : Nat} (hf : f < 24) (hg : g < 24) : bt (bitsI (rchB L.2.1 f) 24 ||| ((1 : Int32) <<< (nI f &&& 31))) g = want L f g := by
  rw [bt_or, bt_bits (by omega), bt_sh (by omega), decide_eq_true hg, Bool.true_and]
  unfold want
  cases hq : rchB L.2.1 f g with
  | true => rfl
  | false =>
    rw [Bool.false_or, Bool.false_or]
    by_cases c : g = f
    · rw [decide_eq_true c, c]; simp
    · rw [decide_eq_false c]; exact (beq_eq_false_iff_ne.mpr c).symm
theorem take_s {α : Type} {l : List α} {k : Nat} {x : α} (h : l[k]? = some x) : l.take (k + 1) = l.take k ++ [x] := by
  rw [List.take_add_one, h]
  rfl
theorem vlc_l (hok : LOK L) (hO : LOF L.1) (hf : f < L.1.2.1.length) (ha : a = -1 ∨ ∃ j, j < L.1.2.2.1.length ∧ a = nI j) (hI : INw vI bs K L.1) (hn : 6002 ≤ n) : ∀ (fu k : Nat) {Y : zY} {vW vY : List Value} {ans : Int32} {W : Nat → Int32}, k ≤ L.1.2.1.length → L.1.2.1.length - k < fu → Y.2.1 + 2 ≤ n → JCX Y jd A K vI vW vY ans pl l rc sq bd xs L → WXc vW W → (∀ g ∈ L.2.2.take k, want L f g = true → W g = wrth L K a L.2.2 (fun _ => 0) g) → (f ∈ L.2.2.take k → WHc vY (valS L K f a).2) → ∃ Y1 vW' vY' ans' W', cf148_20 n fu jd (some pl) (nI f) a (bitsI (rchB L.2.1 f) 24 ||| ((1 : Int32) <<< (nI f &&& 31))) (nI k) Y = some ((valS L K f a).1, Y1) ∧ JCX Y1 jd A K vI vW' vY' ans' pl l rc sq bd xs L ∧ JF jd A Y Y1 ∧ WXc vW' W' ∧ WHc vY' (valS L K f a).2
  | 0, k, Y, vW, vY, ans, W, _, h, _, _, _, _, _ => by omega
  | fu + 1, k, Y, vW, vY, ans, W, hk, hfu, hN, hJ, hW, hV, hy => by
    obtain ⟨hB, hJD, hL, n1, n2⟩ := id hJ
    have hP := hL.1.1.1
    have hpl := hP.1.1
    obtain ⟨_, _, _, _, _, b6, b7⟩ := hP.2.2.2
    rw [List.length_map] at b6 b7
    obtain ⟨_, _, _, o4, o5, o6, o7⟩ := id hok
    obtain ⟨vs, s1, s2⟩ := hL.2.2.2
    obtain ⟨g1, g2, ⟨v0, v1, w1, w2, w3⟩, g4, g5, g6, g7, g8, g9, g10, g11, g12, g13, g14, g15⟩ := id hJD
    have e115 : c115 n pl Y = some (nI L.1.2.1.length, Y) := fc_ok hL.1.1
    have ho4 : yisO Y pl 4 = true := yisO_of hpl
    show ∃ Y1 vW' vY' ans' W', cb148_20 n (cf148_20 n fu) jd (some pl) (nI f) a _ (nI k) Y = _ ∧ _
    by_cases hz : k = L.1.2.1.length
    · have hfm : f ∈ L.2.2.take k := by
        rw [List.take_of_length_le (by omega)]
        exact LOK_all hok hf
      refine ⟨Y, vW, vY, ans, W, ?_, hJ, JF_R hB, hW, hy hfm⟩
      unfold cb148_20
      refine bnd_eq rfl (zgd_eq ho4 (bnd_eq e115 ?_))
      dsimp only
      rw [if_pos (by rw [hz]; exact Int32.le_refl _)]
      refine bnd_eq (yR_of (r := some (A 4)) g1 rfl) (bnd_eq rfl (bnd_eq (yaI_of g10 (by omega) (hW f (by omega))) ?_))
      obtain ⟨pf, hpf⟩ := List.mem_iff_getElem?.mp (LOK_all hok hf)
      have := hV f hfm (by unfold want; simp)
      rw [this, wrth_fix hok hpf]
      rfl
    · have hlt : k < L.1.2.1.length := by omega
      obtain ⟨g, hg⟩ : ∃ g, L.2.2[k]? = some g := ⟨_, List.getElem?_eq_getElem (by omega)⟩
      obtain ⟨t1, t2, t3⟩ := o7 k g hg
      have hg24 : g < 24 := by omega
      have hbt : ((bitsI (rchB L.2.1 f) 24 ||| ((1 : Int32) <<< (nI f &&& 31))) >>> (nI g &&& 31)) &&& 1 = if want L f g = true then 1 else 0 := by
        rw [tst1 (by omega), want_b (by omega) hg24]
      have hpre : ∀ {R : Option (Int32 × zY)}, (if (((bitsI (rchB L.2.1 f) 24 ||| ((1 : Int32) <<< (nI f &&& 31))) >>> (nI g &&& 31)) &&& 1) = 0 then
            cb148_77 n (cf148_20 n fu) jd (some pl) (nI f) a (bitsI (rchB L.2.1 f) 24 ||| ((1 : Int32) <<< (nI f &&& 31))) (nI k) (nI g) Y
          else
            zgd (yisO Y jd 1) <|
            (c158 n jd (some pl) (nI g) a Y).bind fun p19 =>
            if p19.1 = 0 then
              zgd (yisO p19.2 jd 1) <|
              (c170 n jd (some pl) (nI g) p19.2).bind fun p23 =>
              cb148_66 n (cf148_20 n fu) jd (some pl) (nI f) a (bitsI (rchB L.2.1 f) 24 ||| ((1 : Int32) <<< (nI f &&& 31))) (nI k) (nI g) p23.2
            else
              cb148_66 n (cf148_20 n fu) jd (some pl) (nI f) a (bitsI (rchB L.2.1 f) 24 ||| ((1 : Int32) <<< (nI f &&& 31))) (nI k) (nI g) p19.2) = R → cb148_20 n (cf148_20 n fu) jd (some pl) (nI f) a (bitsI (rchB L.2.1 f) 24 ||| ((1 : Int32) <<< (nI f &&& 31))) (nI k) Y = R := by
        intro R hR
        unfold cb148_20
        refine bnd_eq rfl (zgd_eq ho4 (bnd_eq e115 ?_))
        dsimp only
        rw [if_neg (nI_ge hlt (by omega))]
        exact bnd_eq (yR_of (r := some sq) hpl rfl) (bnd_eq rfl (bnd_eq (yaI_of s1 (by omega) (s2 k g hg)) hR))
      cases hw : want L f g with
      | false =>
        rw [hw, if_neg (by decide)] at hbt
        obtain ⟨Y1, vW', vY', ans', W', e1, e2, e3, e4, e5⟩ := vlc_l hok hO hf ha hI hn fu (k + 1) (Y := Y) (by omega) (by omega) hN hJ hW (fun x hx hxw => by
          rw [take_s hg] at hx
          rcases List.mem_append.mp hx with hx | hx
          · exact hV x hx hxw
          · rw [List.mem_singleton.mp hx, hw] at hxw; cases hxw) (fun hx => by
          rw [take_s hg] at hx
          rcases List.mem_append.mp hx with hx | hx
          · exact hy hx
          · exfalso
            rw [← List.mem_singleton.mp hx] at hw
            unfold want at hw
            simp at hw)
        refine ⟨Y1, vW', vY', ans', W', hpre ?_, e2, e3, e4, e5⟩
        rw [if_pos hbt]
        unfold cb148_77
        rw [nI_1]
        exact e1
      | true =>
        rw [hw, if_pos rfl] at hbt
        have hin : ∀ x ∈ L.2.1.getD g [], W x.1 = wrth L K a L.2.2 (fun _ => 0) x.1 := by
          intro x hx
          refine hV x.1 (LOK_TPW hok k g hg x hx) ?_
          have hed : rchB L.2.1 g x.1 = true := rch_e (by
            unfold edge
            rw [List.any_eq_true]
            exact ⟨x, hx, by simp⟩)
          unfold want at hw ⊢
          rw [Bool.or_eq_true] at hw
          rcases hw with hw | hw
          · rw [rch_t t1 hw hed]; rfl
          · rw [← show g = f by simpa using hw, hed]; rfl
        have hwv : wrk L K W g a = valS L K g a := wrk_cong hin
        obtain ⟨Y1, e1, vY1, e2, e3, e4⟩ := tell_ok (n := n) (f := g) hJ hok hO hI hW (by omega) ha hn hN
        rw [hwv] at e2 e3
        obtain ⟨hB1, hJD1, _⟩ := id e2
        obtain ⟨q1, _, _, _, _, _, _, _, _, q10, q11, q12, _⟩ := id hJD1
        have hvw : zg vW g = some (.int (W g)) := by rw [zg_eq]; exact hW g hg24
        obtain ⟨f1, f2⟩ := JDG_w (vW' := zs vW g (.int (valS L K g a).1)) hB1 hJD1 (by rw [zs_length]; exact g11)
        have hJ2 := JCX_k e2 f1 f2
        obtain ⟨Y2, vW2, vY2, ans2, W2, k1, k2, k3, k4, k5⟩ := vlc_l hok hO hf ha hI hn fu (k + 1) (Y := yu Y1 (A 4) (some (oA 0 (zs vW g (.int (valS L K g a).1))))) (W := upW W g (valS L K g a).1) (by omega) (by omega) (by rw [f2.2.2, e4.2.2]; exact hN) hJ2 (fun x hx => by
          rw [← zg_eq]
          unfold upW
          by_cases c : x = g
          · rw [if_pos c, c, zg_zs_eq (by omega)]
          · rw [if_neg c, zg_zs_ne (fun e => c e.symm), zg_eq]
            exact hW x hx) (fun x hx hxw => by
          unfold upW
          by_cases c : x = g
          · rw [if_pos c, c, wrth_fix hok hg]
            rfl
          · rw [if_neg c]
            rw [take_s hg] at hx
            rcases List.mem_append.mp hx with hx | hx
            · exact hV x hx hxw
            · exact absurd (List.mem_singleton.mp hx) c) (fun hx => by
          rw [take_s hg] at hx
          by_cases c : g = f
          · rw [← c]; exact e3
          · exfalso
            rcases List.mem_append.mp hx with hx | hx
            · obtain ⟨pf, hpf⟩ := List.mem_iff_getElem?.mp hx
              have hpk : pf < k := by have := lt_of_get hpf; rw [List.length_take] at this; omega
              rw [List.getElem?_take_of_lt hpk] at hpf
              have hr : rchB L.2.1 f g = true := by
                unfold want at hw
                rw [Bool.or_eq_true] at hw
                rcases hw with hw | hw
                · exact hw
                · exact absurd (by simpa using hw) c
              have hm := (o7 pf f hpf).2.2 g hr
              refine t2 ?_
              obtain ⟨pg, hpg⟩ := List.mem_iff_getElem?.mp hm
              have hpg2 : pg < pf := by have := lt_of_get hpg; rw [List.length_take] at this; omega
              rw [List.getElem?_take_of_lt hpg2] at hpg
              exact List.mem_iff_getElem?.mpr ⟨pg, by rw [List.getElem?_take_of_lt (by omega)]; exact hpg⟩
            · exact c (List.mem_singleton.mp hx).symm)
        refine ⟨Y2, vW2, vY2, ans2, W2, hpre ?_, k2, JF_T e4 (JF_T f2 k3), k4, k5⟩
        rw [if_neg (by rw [hbt]; decide)]
        refine e1.trans ?_
        unfold cb148_66
        refine bnd_eq (yR_of (r := some (A 4)) q1 rfl) (bnd_eq (yI_of q1 rfl) (bnd_eq rfl (bnd_eq (yS_of (ok := zsI) (v := .int (valS L K g a).1) (y := .int (valS L K g a).1) (j := g) q10 q12 rfl (by omega) hvw) ?_)))
        unfold cb148_77
        rw [nI_1]
        exact k1
/-- worthOf -/
theorem val_c (hok : LOK L) (hO : LOF L.1) (hf : f < L.1.2.1.length) (ha : a = -1 ∨ ∃ j, j < L.1.2.2.1.length ∧ a = nI j) (hn : 6002 ≤ n) (hN : Y.2.1 + 2 ≤ n) (hJ : JCX Y jd A K vI vW vY ans pl l rc sq bd xs L) (hb : bs.length = 12) (hI : INc vI bs) (hW : WXc vW W) : ∃ Y1 vI' vW' vY' ans' bs' W', c148 n jd (some pl) (nI f) a Y = some ((valS L K f a).1, Y1) ∧ JCX Y1 jd A K vI' vW' vY' ans' pl l rc sq bd xs L ∧ JF jd A Y Y1 ∧ bs'.length = 12 ∧ INc vI' bs' ∧ WXc vW' W' ∧ WHc vY' (valS L K f a).2 := by
  obtain ⟨Y1, vI1, bs1, e1, e2, e3, e4⟩ := sgs_ok (n := n) hok.2.1 hn hN hJ hb hI
  have hL1 := e2.2.2.1
  obtain ⟨vr, r1, r2⟩ := hL1.2.2.1
  have hP := hL1.1.1.1
  have hlN : L.2.1.length = L.1.2.1.length := hok.2.2.2.1
  obtain ⟨_, _, _, _, _, b6, b7⟩ := hP.2.2.2
  rw [List.length_map] at b6
  obtain ⟨Y2, vW2, vY2, ans2, W2, k1, k2, k3, k4, k5⟩ := vlc_l hok hO hf ha e4 hn n 0 (Y := Y1) (by omega) (by omega) (by rw [e3.2.2]; exact hN) e2 hW (fun x hx => by simp at hx) (fun hx => by simp at hx)
  refine ⟨Y2, vI1, vW2, vY2, ans2, bs1, W2, ?_, k2, JF_T e3 k3, e4.1, e4.2.1, k4, k5⟩
  unfold c148
  exact zgd_eq (jd_o hJ.2.1) (bnd_eq e1 (bnd_eq rfl (bnd_eq (yR_of (r := some rc) hP.1.1 rfl) (bnd_eq rfl (bnd_eq (yaI_of r1 (by omega) (r2 f (by omega))) k1)))))
end
end ZKU

/-! THE CLASS READS: readLayer -/
section ZKF
section
variable {n : Nat} {Y Y0 Y1 Y2 Y' : zY} {a b s p m e r q rd pl W W2 WE lo hi x c i : Nat} {S S1 : List Nat} {t : Tk} {ts ts0 : List Tk} {of ob : Int32} {l : Nat → Nat} {rc sq ly sa fr er os : Nat} {k : Nat × List (List Int32)} {xs xs' : Nat → List Nat} {P P' : Pln} {bd : Nat → Nat} {vs : List Value} {w : List Int32} {fn ln : List (List Int32)} {spl : List Spl} {items : List Itm} {y : List Int32 × Int32}
def lyE (x : Pln × List Tk) : RR (Pln × List Tk) := rb (sEat 6 x.2) fun ts => .inr (x.1, ts)
theorem gtD {α : Type} {l : List α} {i : Nat} {x d : α} (h : l[i]? = some x) : l.getD i d = x := by
  rw [List.getD_eq_getElem?_getD, h]
  rfl
theorem itl_ok {l1 : Option Nat} {l2 : Int32} (hP : PLN Y pl l rc sq bd P xs) (hR0 : RS rd pl W2 Y ts0) (h8 : P.2.2.1.length < 8) (hn : 6002 ≤ n) (hE : W ≤ WE + 50) : ∀ (fu i : Nat) {Y' : zY} {ts : List Tk} {P' : Pln} {xs' : Nat → List Nat}, i ≤ 6000 → 6000 - i < fu → RS rd pl W Y' ts → LIP Y Y' rd pl l rc sq P P' xs xs' y ly sa → LST Y' ly sa fr P P' y.2 → CR rd pl Y (PS rd pl l) W WE (cf107_117 n fu rd l1 l2 ly (nI i) Y') (rb (sItmL P.2.2.1.length (6000 - i) P' ts) lyE) (fun z => z.2) (fun Y1 z _ => ∃ xs', PLN Y1 pl l rc sq bd z.1 xs')
  | 0, i, Y', ts, P', xs', _, h, _, _, _ => by omega
  | fu + 1, i, Y', ts, P', xs', hi, hfu, h, hI, hF => by
    have hD := hR0.1.2
    have hW := h.2.2
    have hlt := rdr_len h.2.1
    obtain ⟨er, ob, vs, hX, hm, hrng⟩ := hF
    have hK := hI.2.1
    obtain ⟨pr, lr⟩ := PLK_rd hK h
    have hl6 := hK.2.1.1 6 (by omega)
    have hlen6 := AL_len hK.2.2.1.2.2.1
    have h100 := hK.2.2.2.2.1
    have h40 := hK.2.2.2.2.2.1
    have hf24 : P.2.1.length ≤ 24 := by have := hP.1.2.2.2.2.2.2.2.2.1; rw [List.length_map] at this; exact this
    have hlyr : ly ≠ rd := (LYX_ok hX hK h (S := [rd]) (fun a ha => Or.inl (List.mem_singleton.mp ha))).1 ∘ (fun e => by rw [e]; simp)
    have fin : CR rd pl Y (PS rd pl l) W WE (cb107_289 n rd l1 l2 ly (nI i) Y') (lyE (P', ts)) (fun z => z.2) (fun Y1 z _ => ∃ xs', PLN Y1 pl l rc sq bd z.1 xs') := by
      unfold cb107_289 lyE
      refine CR_y (rdr_p h.2.1) (CR_y rfl (CR_y (yR_of (r := some (l 6)) hK.1.1 rfl) (CR_y rfl (CR_g (lsx_o hl6) (CR_y (lsx_n hl6) (CR_y (yP_of hX.1 hX.2.2.2.1 rfl rfl) ?_))))))
      obtain ⟨Y1, hY1⟩ : ∃ Y1, Y1 = yu Y' ly (some (oB 2 [.int y.2, .int (nI fr), .int (nI P'.2.2.2.1.length), .int ob, .ref sa])) := ⟨_, rfl⟩
      rw [show yu Y' ly (some (oB 2 (zs [.int y.2, .int (nI fr), .int (nI er), .int ob, .ref sa] 2 (.int (nI (xs' 6).length))))) = Y1 by rw [hY1, hlen6]; rfl]
      have hX1 : LYX Y1 ly sa y.2 fr P'.2.2.2.1.length ob vs := by
        rw [hY1]
        refine ⟨yu_s, ?_, hX.2.2⟩
        rw [yu_n]
        · exact hX.2.1
        · intro e; have := hX.2.1; rw [e, hX.1] at this; cases this
      have hfr1 : FR Y' Y1 [ly] := by rw [hY1]; exact FR_u hX.1 rfl
      have hS1 : RS rd pl W Y1 ts := by rw [hY1]; exact RS_w h hX.1 rfl hlyr hX.2.2.2.1
      have hI1 := LIP_c hI hD hX hfr1 (fun a ha => Or.inl (List.mem_singleton.mp ha))
      have hm1 := LYm_k (more := []) (its := []) hm hfr1.2.2 (fun I hI => by cases hI)
      rw [List.append_nil, List.append_nil] at hm1
      dsimp only
      rw [rb_eat]
      refine CR_g (rdr_o hS1.2.1) ?_
      refine CR_b (tk_ok (s := 6) hS1 (by omega) (by omega)) hI1.1 PS_rd hD ?_
      rintro ⟨t2, ts2⟩ v Y2 hS2 hf2 hf02 _
      dsimp only at hS2 ⊢
      have hI2 := LIP_t hI1 hS1 hD hf2
      have hX2 := LYX_r1 hX1 hI1.2.1 hS1 hf2
      have hm2 := LYm_k (more := []) (its := []) hm1 hf2.2.2 (fun I hI => by cases hI)
      rw [List.append_nil, List.append_nil] at hm2
      exact CR_s (s := (P', ts2)) (RS_le hS2 (by omega)) hf02 ⟨xs', ly_end hP hR0 hI2 hX2 hm2 hrng⟩
    show CR rd pl Y (PS rd pl l) W WE (cb107_117 n (cf107_117 n fu) rd l1 l2 ly (nI i) Y') _ _ _
    unfold cb107_117
    by_cases hz : i = 6000
    · rw [if_pos (show (6000 : Int32) ≤ nI i by rw [hz]; decide), hz, show 6000 - 6000 = 0 from rfl]
      rw [hz] at fin
      exact fin
    rw [if_neg (show ¬ (6000 : Int32) ≤ nI i by rw [show (6000 : Int32) = nI 6000 from rfl, nI_leI (by omega) (by omega)]; omega)]
    refine cr_hd h.2.1 (by omega) fun _ => ?_
    rw [show 6000 - i = (6000 - (i + 1)) + 1 by omega]
    unfold sItmL
    by_cases hc : (hd ts).1 = 6
    · rw [if_pos (decide_eq_true (by omega)), if_pos hc, rb_inr]
      exact fin
    rw [if_neg (by rw [decide_eq_false (by omega)]; decide), if_neg hc, rb_assoc]
    refine CR_g (rdr_o h.2.1) ?_
    have hPn : P'.2.1 = P.2.1 := hI.2.2.1
    -- the flag that is spoken of
    have hflag : ∀ f, f < P.2.1.length → ∃ fl g, (xs 4)[f]? = some fl ∧ P.2.1[f]? = some g := fun f hf => ⟨_, _, List.getElem?_eq_getElem (by rw [hP.2.1.1]; exact hf), List.getElem?_eq_getElem hf⟩
    have hcast : ∀ {Z : zY} {fl : Nat} {fs : List Value}, Z.1 fl = some (oB 0 fs) → ykC Z (some fl) 0 0 = true := by
      intro Z fl fs hz
      unfold ykC
      dsimp only
      rw [hz]
      show zasg 0 0 = true
      decide
    unfold sItm
    dsimp only
    by_cases h21 : (hd ts).1 = 21
    · rw [if_pos h21, rb_assoc]
      refine CR_b (te21 h hK.1 hl6 h21 hlen6 h100 (by omega)) hI.1 PS_rd hD ?_
      rintro ts1 v Y1 hS1 hf1 hf01 ⟨rfl, i1, i2, i3⟩
      have hI1 := LIP_t hI h hD hf1
      have hX1 := LYX_r1 hX hK h hf1
      have hm1 := LYm_k (more := []) (its := []) hm hf1.2.2 (fun I hI => by cases hI)
      rw [List.append_nil, List.append_nil] at hm1
      have hK1 := hI1.2.1
      refine CR_y (rdr_p hS1.2.1) (CR_y rfl (CR_y (yR_of (r := some (l 1)) hK1.1.1 rfl) (CR_g (rdr_o hS1.2.1) ?_)))
      rw [rb_assoc, hPn]
      refine CR_b (kw_ok hS1 (LSY_of (hK1.2.1.1 1 (by omega)) hK1.2.2.1.2.2.2.2.1) (lr 1 (by omega)) (by rw [List.length_map]; omega) hn (by omega)) hf01 PS_rd hD ?_
      rintro ⟨f, ts2⟩ v Y2 hS2 hf2 hf02 ⟨rfl, j1, j2, j3⟩
      dsimp only at hS2 j1 j2 j3 ⊢
      rw [List.length_map] at j1
      have hI2 := LIP_t hI1 hS1 hD hf2
      have hX2 := LYX_r1 hX1 hK1 hS1 hf2
      have hm2 := LYm_k (more := []) (its := []) hm1 hf2.2.2 (fun I hI => by cases hI)
      rw [List.append_nil, List.append_nil] at hm2
      have hK2 := hI2.2.1
      obtain ⟨fl, g, f1, f2⟩ := hflag f j1
      obtain ⟨c1, hKN, hcl, fs, hfs⟩ := LIP_f hP hR0 hI2 f1 f2
      have hl4 := hK2.2.1.1 4 (by omega)
      refine CR_y (rdr_p hS2.2.1) (CR_y rfl (CR_y (yR_of (r := some (l 4)) hK2.1.1 rfl) (CR_y rfl (CR_g (lsx_o hl4) (CR_y (lsx_g hl4 (by rw [hI2.2.2.2.2.2.2.2.1]; exact f1) (by omega)) (CR_g (hcast hfs) (CR_y (rEq_s (by omega) (by omega)) ?_)))))))
      rw [if_neg (by decide)]
      refine CR_y (rEq_s (by omega) (by omega)) ?_
      rw [if_neg (by decide), gtD f2]
      refine CR_g (rdr_o hS2.2.1) ?_
      refine ru_ok (P := P') (W := W) (f := f) (li := nI P.2.2.1.length) (k := g.2.1) (RS_le hS2 (by omega)) hK2 hKN hcl (by omega) i3 hn hE hI2.1 hD (PS_s (fun a ha => by
        rcases List.mem_cons.mp ha with d | ha
        · exact Or.inl d
        rcases List.mem_cons.mp ha with d | ha
        · exact Or.inr (Or.inl d)
        rcases List.mem_cons.mp ha with d | ha
        · exact Or.inr (Or.inr ⟨6, by omega, d⟩)
        · exact Or.inr (Or.inr ⟨7, by omega, List.mem_singleton.mp ha⟩))) ?_
      intro Y3 ts3 R sp q x7 r more hS3 hf3 hf03 hP3 hR1 hR2 hsp
      unfold cb107_283
      dsimp only
      rw [nI_1]
      obtain ⟨d1, d2, d3, d4, ⟨rs, d5, d5'⟩, ⟨its, d6, d6'⟩, ⟨mo, d7⟩, d8, d9, d10, d11⟩ := hI2
      have hS4 : okS rd pl l Y2 [rd, pl, l 6, l 7] := fun a ha => by
        rcases List.mem_cons.mp ha with d | ha
        · exact Or.inl d
        rcases List.mem_cons.mp ha with d | ha
        · exact Or.inr (Or.inl d)
        rcases List.mem_cons.mp ha with d | ha
        · exact Or.inr (Or.inr (Or.inl ⟨6, by omega, d⟩))
        · exact Or.inr (Or.inr (Or.inl ⟨7, by omega, List.mem_singleton.mp ha⟩))
      obtain ⟨q1, q2⟩ := LYX_ok hX2 hK2 hS2 hS4
      refine itl_ok hP hR0 h8 hn hE fu (i + 1) (P' := addR (setSp (setPt P' q) sp) R) (by omega) (by omega) hS3 ⟨hf03, hP3, d3, d4, ⟨rs ++ [R], ?_, ?_⟩, ⟨its, d6, d6'⟩, ⟨mo ++ more, ?_⟩, ?_, ?_, d10, d11⟩ ⟨er, ob, vs, LYX_k hX2 hf3 q1 q2, ?_, ?_⟩
      · show P'.2.2.2.1 ++ [R] = _
        rw [d5, List.append_assoc]
      · intro r' hr'
        rcases List.mem_append.mp hr' with d | d
        · exact d5' r' d
        · rw [List.mem_singleton.mp d]; exact ⟨by rw [hR1]; exact j1, hR2⟩
      · show sp = _
        rw [hsp, d7, List.append_assoc]
      · rw [upL_n (by omega), upL_n (by omega)]; exact d8
      · rw [upL_n (by omega), upL_n (by omega)]; exact d9
      · show LYm Y3 sp P'.2.2.2.2.1 P.2.2.1.length ob vs
        have := LYm_k (more := more) (its := []) hm2 hf3.2.2 (fun I hI => by cases hI)
        rw [List.append_nil, ← hsp] at this
        exact this
      · show RNG (P'.2.2.2.1 ++ [R]) _ fr (P'.2.2.2.1 ++ [R]).length
        exact RNG_grow hrng hR2
    rw [if_neg h21]
    by_cases h19 : (hd ts).1 = 19 ∨ (hd ts).1 = 24
    · rw [if_pos h19, rb_assoc]
      refine CR_b (te19 h hK.1 h19 h40 (by omega)) hI.1 PS_pl hD ?_
      rintro ts1 v Y1 hS1 hf1 hf01 ⟨rfl, p1, i1, i2, i3⟩
      have hPl : okS rd pl l Y' [rd, pl] := fun a ha => by
        rcases List.mem_cons.mp ha with d | ha
        · exact Or.inl d
        · exact Or.inr (Or.inl (List.mem_singleton.mp ha))
      have hX1 : LYX Y1 ly sa y.2 fr er ob vs := by
        obtain ⟨q1, q2⟩ := LYX_ok hX hK h hPl
        exact LYX_k hX hf1 q1 q2
      have hm1 := LYm_k (more := []) (its := []) hm hf1.2.2 (fun I hI => by cases hI)
      rw [List.append_nil, List.append_nil] at hm1
      have hK1 : ∀ I, PLK Y1 pl l rc sq (addI P' I) xs' (P.2.1.map (·.1)) (P.2.2.1.map (·.1) ++ [y.1]) := fun I => PLK_i hK h hf1 p1 i3
      have hK1' := hK1 (0, 0, none)
      refine CR_y (rdr_p hS1.2.1) (CR_y rfl (CR_y (yR_of (r := some (l 1)) hK1'.1.1 rfl) (CR_g (rdr_o hS1.2.1) ?_)))
      rw [rb_assoc, hPn]
      refine CR_b (kw_ok hS1 (LSY_of (hK1'.2.1.1 1 (by omega)) hK1'.2.2.1.2.2.2.2.1) (lr 1 (by omega)) (by rw [List.length_map]; omega) hn (by omega)) hf01 PS_rd hD ?_
      rintro ⟨f, ts2⟩ v Y2 hS2 hf2 hf02 ⟨rfl, j1, j2, j3⟩
      dsimp only at hS2 j1 j2 j3 ⊢
      rw [List.length_map] at j1
      obtain ⟨d1, d2, d3, d4, ⟨rs, d5, d5'⟩, ⟨its, d6, d6'⟩, ⟨mo, d7⟩, d8, d9, d10, d11⟩ := hI
      have hI2 : ∀ so, LIP Y Y2 rd pl l rc sq P (addI P' (P.2.2.1.length, f, so)) xs xs' y ly sa := fun so => ⟨hf02, PLK_r1 (hK1 _) hS1 hf2, d3, d4, ⟨rs, d5, d5'⟩, ⟨its ++ [(P.2.2.1.length, f, so)], by show P'.2.2.2.2.1 ++ _ = _; rw [d6, List.append_assoc], fun I hI => by
        rcases List.mem_append.mp hI with d | d
        · exact d6' I d
        · rw [List.mem_singleton.mp d]; exact ⟨rfl, j1⟩⟩, ⟨mo, d7⟩, d8, d9, d10, d11⟩
      have hX2 := LYX_r1 hX1 hK1' hS1 hf2
      have hm2 := LYm_k (more := []) (its := []) hm1 hf2.2.2 (fun I hI => by cases hI)
      rw [List.append_nil, List.append_nil] at hm2
      have hK2 := (hI2 none).2.1
      obtain ⟨fl, g, f1, f2⟩ := hflag f j1
      obtain ⟨c1, hKN, hcl, fs, hfs⟩ := LIP_f hP hR0 (hI2 none) f1 f2
      have hl4 := hK2.2.1.1 4 (by omega)
      refine CR_y (rdr_p hS2.2.1) (CR_y rfl (CR_y (yR_of (r := some (l 4)) hK2.1.1 rfl) (CR_y rfl (CR_g (lsx_o hl4) (CR_y (lsx_g hl4 (by rw [d8]; exact f1) (by omega)) (CR_g (hcast hfs) (CR_y (rEq_s (by omega) (by omega)) ?_)))))))
      dsimp only
      by_cases c19 : (hd ts).1 = 19
      · -- off
        rw [if_pos (decide_eq_true (by omega)), if_pos c19, rb_assoc]
        refine CR_y (yI_of hX2.1 rfl) (CR_y (yP_of hX2.1 hX2.2.2.2.1 rfl rfl) ?_)
        obtain ⟨Y3, hY3⟩ : ∃ Y3, Y3 = yu Y2 ly (some (oB 2 [.int y.2, .int (nI fr), .int (nI er), .int (ob ||| ((1 : Int32) <<< (nI f &&& 31))), .ref sa])) := ⟨_, rfl⟩
        rw [show yu Y2 ly (some (oB 2 (zs [.int y.2, .int (nI fr), .int (nI er), .int ob, .ref sa] 3 (.int (ob ||| ((1 : Int32) <<< (nI f &&& 31))))))) = Y3 by rw [hY3]; rfl]
        have hX3 : LYX Y3 ly sa y.2 fr er (ob ||| ((1 : Int32) <<< (nI f &&& 31))) vs := by
          rw [hY3]
          refine ⟨yu_s, ?_, hX2.2.2⟩
          rw [yu_n]
          · exact hX2.2.1
          · intro e; have := hX2.2.1; rw [e, hX2.1] at this; cases this
        have hfr3 : FR Y2 Y3 [ly] := by rw [hY3]; exact FR_u hX2.1 rfl
        have hS3 : RS rd pl (W - 300 - 300) Y3 ts2 := by rw [hY3]; exact RS_w hS2 hX2.1 rfl hlyr hX2.2.2.2.1
        have hI3 := LIP_c (hI2 none) hD hX2 hfr3 (fun a ha => Or.inl (List.mem_singleton.mp ha))
        have hm3 := LYm_k (more := []) (its := []) hm2 hfr3.2.2 (fun I hI => by cases hI)
        rw [List.append_nil, List.append_nil] at hm3
        rw [rb_eat]
        refine CR_g (rdr_o hS3.2.1) ?_
        refine CR_b (tk_ok (s := 9) hS3 (by omega) (by omega)) hI3.1 PS_rd hD ?_
        rintro ⟨t4, ts4⟩ v Y4 hS4 hf4 hf04 _
        dsimp only at hS4 ⊢
        unfold cb107_283
        rw [nI_1]
        have hm4 := LYm_k (more := []) (its := []) hm3 hf4.2.2 (fun I hI => by cases hI)
        rw [List.append_nil, List.append_nil] at hm4
        have hPe : ((P'.1, P.2.1, P'.2.2.1, P'.2.2.2.1, P'.2.2.2.2.1 ++ [(P.2.2.1.length, f, none)], P'.2.2.2.2.2) : Pln) = addI P' (P.2.2.1.length, f, none) := by unfold addI; rw [hPn]
        rw [rb_inr]
        dsimp only
        rw [hPe]
        exact itl_ok hP hR0 h8 hn hE fu (i + 1) (P' := addI P' (P.2.2.1.length, f, none)) (by omega) (by omega) (RS_le hS4 (by omega)) (LIP_t hI3 hS3 hD hf4) ⟨er, _, vs, LYX_r1 hX3 hI3.2.1 hS3 hf4, LYm_off hm4 (by omega), hrng⟩
      · -- set
        have c24 : (hd ts).1 = 24 := h19.resolve_left c19
        rw [if_neg (by rw [decide_eq_false (by omega)]; decide), if_neg c19]
        refine CR_y (rEq_s (by omega) (by omega)) ?_
        rw [if_pos (decide_eq_true (by omega)), rb_assoc, rb_eat]
        refine CR_g (rdr_o hS2.2.1) ?_
        refine CR_b (tk_ok (s := 12) hS2 (by omega) (by omega)) hf02 PS_rd hD ?_
        rintro ⟨t3, ts3⟩ v Y3 hS3 hf3 hf03 _
        dsimp only at hS3 ⊢
        have hI3 := fun so => LIP_t (hI2 so) hS2 hD hf3
        have hX3 := LYX_r1 hX2 hK2 hS2 hf3
        have hm3 := LYm_k (more := []) (its := []) hm2 hf3.2.2 (fun I hI => by cases hI)
        rw [List.append_nil, List.append_nil] at hm3
        obtain ⟨c1', hKN3, hcl3, fs3, hfs3⟩ := LIP_f hP hR0 (hI3 none) f1 f2
        have hK3 := (hI3 none).2.1
        have hSV : SVP Y3 pl l (P'.2.2.2.2.1 ++ [(P.2.2.1.length, f, none)]).length P'.2.2.2.2.2.2 rc sq fl c1' g.2.1 (xs' 7) P'.2.2.2.2.2.1 := ⟨hK3.1, hKN3, hK3.2.1.1 7 (by omega), hK3.2.2.1.2.2.2.1, hK3.2.2.2.2.2.2.1, hcl3 7 (by omega)⟩
        refine CR_g (rdr_o hS3.2.1) ?_
        rw [rb_assoc, gtD f2]
        refine CR_b (se_ok hS3 hSV hn (by omega)) hf03 (PS_s (fun a ha => by
          rcases List.mem_cons.mp ha with e | ha
          · exact Or.inl e
          · exact Or.inr (Or.inr ⟨7, by omega, List.mem_singleton.mp ha⟩))) hD ?_
        rintro ⟨sv, sp, ts4⟩ v Y4 hS4 hf4 hf04 ⟨za, x7, more, rfl, z1, z2, z3, z4, z5⟩
        dsimp only at hS4 z1 z3 z4 z5 ⊢
        have hS7 : okS rd pl l Y3 [rd, l 7] := fun a ha => by
          rcases List.mem_cons.mp ha with d | ha
          · exact Or.inl d
          · exact Or.inr (Or.inr (Or.inl ⟨7, by omega, List.mem_singleton.mp ha⟩))
        have hX4 : LYX Y4 ly sa y.2 fr er ob vs := by
          obtain ⟨q1, q2⟩ := LYX_ok hX3 hK3 hS3 hS7
          exact LYX_k hX3 hf4 q1 q2
        have hm4 := LYm_k (more := more) (its := []) hm3 hf4.2.2 (fun I hI => by cases hI)
        rw [List.append_nil, ← z4] at hm4
        have hI4 : LIP Y Y4 rd pl l rc sq P (setSp (addI P' (P.2.2.1.length, f, some sv)) sp) xs (upL xs' 7 x7) y ly sa := by
          have := PLK_s (hI3 (some sv)).2.1 hS3 hf4 z2 z3 z4 z5
          refine ⟨hf04, this, d3, d4, ⟨rs, d5, d5'⟩, (hI3 (some sv)).2.2.2.2.2.1, ⟨mo ++ more, ?_⟩, ?_, ?_, d10, d11⟩
          · show sp = _
            rw [z4, d7, List.append_assoc]
          · rw [upL_n (by omega)]; exact d8
          · rw [upL_n (by omega)]; exact d9
        obtain ⟨Y5, vs', b1, b2, b3, b4⟩ := as_ok (n := n) (f := f) hX4 hm4 (by omega) z1
        have hlyo : yisO Y4 ly 2 = true := yisO_of hX4.1
        refine CR_g hlyo (CR_y b1 ?_)
        dsimp only
        unfold cb107_283
        rw [nI_1]
        have hsar : sa ≠ rd := (LYX_ok hX4 hI4.2.1 hS4 (S := [rd]) (fun a ha => Or.inl (List.mem_singleton.mp ha))).2 ∘ (fun e => by rw [e]; simp)
        have hS5 : RS rd pl (W - 300 - 300 - 300 - 300) Y5 ts4 := by
          rcases b2 with e | e
          · rw [e]; exact hS4
          · rw [e]; exact RS_w hS4 hX4.2.1 rfl hsar hX4.2.2.2.2
        have hf5 : FR Y4 Y5 [sa] := by
          rcases b2 with e | e
          · rw [e]; exact FR_R
          · rw [e]; exact FR_u hX4.2.1 rfl
        have hI5 := LIP_c hI4 hD hX4 hf5 (fun a ha => Or.inr (List.mem_singleton.mp ha))
        have hkeep : ∀ x s', RSv Y4 sp x s' → RSv Y5 sp x s' := fun x s' hx => by
          have := RSv_k (more := []) hf5.2.2 hx
          rw [List.append_nil] at this
          exact this
        have hPe : ((P'.1, P.2.1, P'.2.2.1, P'.2.2.2.1, P'.2.2.2.2.1 ++ [(P.2.2.1.length, f, some sv)], sp, P'.2.2.2.2.2.2) : Pln) = setSp (addI P' (P.2.2.1.length, f, some sv)) sp := by unfold setSp addI; rw [hPn]
        rw [rb_inr]
        dsimp only
        rw [hPe]
        exact itl_ok hP hR0 h8 hn hE fu (i + 1) (P' := setSp (addI P' (P.2.2.1.length, f, some sv)) sp) (by omega) (by omega) (RS_le hS5 (sub4 W)) hI5 ⟨er, ob, vs', b3, b4 (hkeep _ _ z1) hkeep, hrng⟩
    · rw [if_neg h19, rb_inl]
      exact te0 h h21 h19 hI.1 (PS_m.mpr (Or.inl rfl)) hD (by omega)
/-- a layer's name and the layer are put to the plan -/
theorem PLK_y {q ly : Nat} (h : PLK Y pl l rc sq P xs fn ln) (hf1 : FR Y Y1 [l 2]) (hx1 : LSX Y1 (l 2) (xs 2 ++ [q])) (hf2 : FR Y1 Y2 [l 5]) (hx2 : LSX Y2 (l 5) (xs 5 ++ [ly])) (hw : RNm Y q w) (hl : ln.length < 8) : PLK Y2 pl l rc sq P (upL (upL xs 2 (xs 2 ++ [q])) 5 (xs 5 ++ [ly])) fn (ln ++ [w]) := by
  obtain ⟨h1, h2, h3, h4, h5, h6, h7, h8, h9, h10⟩ := h
  have hi : IMK Y Y2 := IMK_T hf1.2.2 hf2.2.2
  refine ⟨PLC_k (PLC_k h1 hf1 (by simpa using (LLS_pl h2 h1 (show 2 < 8 by omega)).symm)) hf2 (by simpa using (LLS_pl h2 h1 (show 5 < 8 by omega)).symm), LLS_1 (LLS_1 h2 hf1 (fun j hj hn => by simpa using fun e => hn (h2.2 j 2 hj (by omega) e)) hx1) hf2 (fun j hj hn => by simpa using fun e => hn (h2.2 j 5 hj (by omega) e)) hx2, ?_, h4, h5, h6, h7, h8, h9, by rw [List.length_append]; show ln.length + 1 ≤ 8; omega⟩
  obtain ⟨s1, s2, s3, s4, s5, s6⟩ := SEM_k hi h3
  refine ⟨?_, ?_, ?_, ?_, ?_, ?_⟩
  · rw [upL_n (by omega), upL_n (by omega)]; exact s1
  · rw [upL_n (by omega), upL_n (by omega)]; exact s2
  · rw [upL_n (by omega), upL_n (by omega)]; exact s3
  · rw [upL_n (by omega), upL_n (by omega)]; exact s4
  · rw [upL_n (by omega), upL_n (by omega)]; exact s5
  · rw [upL_n (by omega), upL_s]; exact AL_app s6 (RNm_k hi hw)
end
end ZKF

/-! THE CLASS READS: readLayer -/
section ZKG
section
variable {n : Nat} {Y Y0 Y1 Y2 Y' : zY} {a b s p m e r q rd pl W W2 WE lo hi x c i : Nat} {S S1 : List Nat} {t : Tk} {ts ts0 : List Tk} {of ob : Int32} {l : Nat → Nat} {rc sq ly sa fr er os : Nat} {k : Nat × List (List Int32)} {xs xs' : Nat → List Nat} {P P' : Pln} {bd : Nat → Nat} {vs : List Value} {w : List Int32} {fn ln : List (List Int32)} {spl : List Spl} {items : List Itm} {y : List Int32 × Int32}
/-- behind the layer's head -/
theorem ly_go {wa : Nat} {w : Tk} (hP : PLN Y pl l rc sq bd P xs) (hR0 : RS rd pl W2 Y ts0) (h8 : P.2.2.1.length < 8) (hn : 6002 ≤ n) (hE : W ≤ WE + 50) (h : RS rd pl W Y2 ts) (hf02 : FR Y Y2 (PS rd pl l)) (hK2 : PLK Y2 pl l rc sq P xs (P.2.1.map (·.1)) (P.2.2.1.map (·.1))) (hw : RTk Y2 wa w) (hw2 : w.1 = 2) : CR rd pl Y (PS rd pl l) W WE (cb107_63 n rd (some wa) of Y2) (rb (sEat 5 ts) fun ts => rb (sItmL P.2.2.1.length 6000 (P.1, P.2.1, P.2.2.1 ++ [(w.2.2.1, of)], P.2.2.2) ts) lyE) (fun z => z.2) (fun Y1 z _ => ∃ xs', PLN Y1 pl l rc sq bd z.1 xs') := by
  have hD := hR0.1.2
  have h231 := hD.1
  have hW := h.2.2
  have hlt := rdr_len h.2.1
  obtain ⟨pr, lr⟩ := PLK_rd hK2 h
  unfold cb107_63
  rw [rb_eat]
  refine CR_g (rdr_o h.2.1) ?_
  refine CR_b (tk_ok (s := 5) h (by omega) (by omega)) hf02 PS_rd hD ?_
  rintro ⟨t3, ts3⟩ v Y3 hS3 hf3 hf03 ⟨_, _, _, rfl, _, _, _, q7, q8⟩
  dsimp only at hS3 q7 q8 ⊢
  have hK3 := PLK_r1 hK2 h hf3
  have hw3 : RTk Y3 wa w := RTk_k hf3.2.2 hw
  have hfn : FR Y3 (yN Y3 2 5) [] := FR_a hS3.1.2
  have hRn := RDR_k hS3.2.1 hfn (by simp)
  have hKn : PLK (yN Y3 2 5) pl l rc sq P xs (P.2.1.map (·.1)) (P.2.2.1.map (·.1)) := PLK_k hK3 hfn (by simp) (fun _ _ => by simp)
  have hl6n := hKn.2.1.1 6 (by omega)
  have hlen6 := AL_len hKn.2.2.1.2.2.1
  refine CR_y (rdr_p hRn) (CR_y rfl (CR_y (yR_of (r := some (l 6)) hKn.1.1 rfl) (CR_y rfl (CR_g (lsx_o hl6n) (CR_y (lsx_n hl6n) ?_)))))
  dsimp only
  obtain ⟨Y4, e1, e2, e3, e4, e5, e6⟩ := ly_new (n := n) (of := of) (M := P.2.2.2.1.length) (y2 := nI (xs 6).length) hS3.1 (by rw [hlen6])
  refine CR_y e1 ?_
  dsimp only
  have hR4 := RDR_k hS3.2.1 e3 (by simp)
  have hK4 : PLK Y4 pl l rc sq P xs (P.2.1.map (·.1)) (P.2.2.1.map (·.1)) := PLK_k hK3 e3 (by simp) (fun _ _ => by simp)
  have hlY : ∀ j, j < 8 → l j < Y3.2.1 := fun j hj => by
    obtain ⟨⟨cap, x1, _⟩, _⟩ := hK3.2.1.1 j hj
    exact hS3.1.2.2 _ _ x1
  have hl2 := hK4.2.1.1 2 (by omega)
  obtain ⟨_, _, _, _, _, _, _, _, fsw, j8⟩ := tk_txt (RTk_k e3.2.2 hw3)
  have hlen2 := AL_len hK4.2.2.1.2.2.2.2.2
  have hlen5 := hP.2.2.1.1
  rw [List.length_map] at hlen2
  obtain ⟨Y5, d1, d2, d3, d4, d5⟩ := lsx_a (n := n) e2 hl2 j8 (by decide) (by omega)
  refine CR_y (rdr_p hR4) (CR_y rfl (CR_y (yR_of (r := some (l 2)) hK4.1.1 rfl) (CR_y rfl (CR_g (lsx_o hl2) (CR_y d1 ?_)))))
  have hne : l 5 ≠ l 2 := fun e => by have := hK4.2.1.2 5 2 (by omega) (by omega) e; omega
  have hR5 : RDR Y5 rd pl ts3 := RDR_k hR4 d3 (by simpa using (lr 2 (by omega)).symm)
  have hP5 : PLC Y5 pl l P.2.2.2.2.1.length P.2.2.2.2.2.2 rc sq := PLC_k hK4.1 d3 (by simpa using (LLS_pl hK4.2.1 hK4.1 (show 2 < 8 by omega)).symm)
  have hl5 : LSX Y5 (l 5) (xs 5) := LSX_k (hK4.2.1.1 5 (by omega)) d3 (by simpa using hne)
  have hX5 : LYX Y5 Y3.2.1 (Y3.2.1 + 1) of P.2.2.2.1.length P.2.2.2.1.length 0 (List.replicate 24 .null) := LYX_k e5 d3 (by have := hlY 2 (by omega); rw [List.mem_singleton]; omega) (by have := hlY 2 (by omega); rw [List.mem_singleton]; omega)
  obtain ⟨Y6, g1, g2, g3, g4, g5⟩ := lsx_a (n := n) d2 hl5 hX5.1 (by decide) (by omega)
  dsimp only
  refine CR_y (rdr_p hR5) (CR_y rfl (CR_y (yR_of (r := some (l 5)) hP5.1 rfl) (CR_y rfl (CR_g (lsx_o hl5) (CR_y g1 ?_)))))
  have hX6 : LYX Y6 Y3.2.1 (Y3.2.1 + 1) of P.2.2.2.1.length P.2.2.2.1.length 0 (List.replicate 24 .null) := LYX_k hX5 g3 (by have := hlY 5 (by omega); rw [List.mem_singleton]; omega) (by have := hlY 5 (by omega); rw [List.mem_singleton]; omega)
  have hK6 := PLK_y (w := w.2.2.1) hK4 d3 d5 g3 g5 ⟨w, RTk_k e3.2.2 hw3, by unfold ttx; rw [if_neg (by omega)]⟩ (by rw [List.length_map]; exact h8)
  have hf06 : FR Y Y6 (PS rd pl l) := FR_T (FR_T (FR_T hf03 e3 (fun a h => by cases h) hD) d3 (PS_l (by omega)) hD) g3 (PS_l (by omega)) hD
  have hS6 : RS rd pl W Y6 ts3 := ⟨g2, RDR_k hR5 g3 (by simpa using (lr 5 (by omega)).symm), by have := hS3.2.2; omega⟩
  have h23 : Y.2.1 ≤ Y3.2.1 := hf03.1
  have hlp := itl_ok (n := n) (W := W) (WE := WE) (l1 := some wa) (l2 := of) (y := (w.2.2.1, of)) (ly := Y3.2.1) (sa := Y3.2.1 + 1) (fr := P.2.2.2.1.length) hP hR0 h8 hn hE n 0 (P' := (P.1, P.2.1, P.2.2.1 ++ [(w.2.2.1, of)], P.2.2.2)) (xs' := upL (upL xs 2 (xs 2 ++ [wa])) 5 (xs 5 ++ [Y3.2.1])) (by omega) (by omega) hS6 ⟨hf06, PLK_c hK6 rfl rfl rfl rfl, rfl, rfl, ⟨[], by rw [List.append_nil], fun r hr => by cases hr⟩, ⟨[], by rw [List.append_nil], fun r hr => by cases hr⟩, ⟨[], by rw [List.append_nil]⟩, by rw [upL_n (by omega), upL_n (by omega)], upL_s, h23, by omega⟩ ⟨P.2.2.2.1.length, 0, _, hX6, LYm_0 (fun I hI e => by have := (hP.2.2.2.1.2 I hI).1; omega), RNG_none (fun r hr q => by
    rcases (hP.2.2.2.1.1 r hr).2 with d | ⟨j, hj, d⟩
    · rw [d] at q
      exact nI_m1 (k := P.2.2.1.length) (by omega) q.symm
    · rw [d] at q
      have := nI_jj (by omega) (by omega) q
      omega)⟩
  exact hlp
/-- readLayer -/
theorem ly_ok (h : RS rd pl W Y ts) (hP : PLN Y pl l rc sq bd P xs) (h22 : (hd ts).1 = 22) (hn : 6002 ≤ n) (hE : W ≤ WE + 50) : CR rd pl Y (PS rd pl l) W WE (c107 n rd Y) (sLay P ts) (fun z => z.2) (fun Y1 z _ => ∃ xs', PLN Y1 pl l rc sq bd z.1 xs') := by
  have hD := h.1.2
  have hW := h.2.2
  have hlt := rdr_len h.2.1
  have hK := hP.1
  obtain ⟨pr, lr⟩ := PLK_rd hK h
  have hl5 := hK.2.1.1 5 (by omega)
  have hlen5 := hP.2.2.1.1
  have hl8 : P.2.2.1.length ≤ 8 := by have := hK.2.2.2.2.2.2.2.2.2; rw [List.length_map] at this; exact this
  unfold c107 sLay
  refine CR_y (rdr_p h.2.1) (CR_y rfl (CR_y (yR_of (r := some (l 5)) hK.1.1 rfl) (CR_y rfl (CR_g (lsx_o hl5) (CR_y (lsx_n hl5) (CR_g (rdr_o h.2.1) ?_))))))
  dsimp only
  refine CR_b (fw_ok (hv := P.2.2.1.length) (mo := 8) h (by rw [hlen5]) rfl (by omega) (by omega) (by omega) (by omega)) FR_R PS_rd hD ?_
  rintro ts1 v Y1 hS1 hf1 hf01 ⟨i1, i2, i3⟩
  have hK1 := PLK_r1 hK h hf1
  refine CR_y (rdr_p hS1.2.1) (CR_y rfl (CR_y (yR_of (r := some (l 2)) hK1.1.1 rfl) (CR_g (rdr_o hS1.2.1) ?_)))
  refine CR_b (nw_ok hS1 (LSY_of (hK1.2.1.1 2 (by omega)) hK1.2.2.1.2.2.2.2.2) (lr 2 (by omega)) (by rw [List.length_map]; omega) hn (by omega)) hf01 PS_rd hD ?_
  rintro ⟨w, ts2⟩ v Y2 hS2 hf2 hf02 ⟨wa, rfl, w1, w2, w3, w4⟩
  dsimp only at hS2 w1 w2 w3 w4 ⊢
  have hK2 := PLK_r1 hK1 hS1 hf2
  refine cr_hd hS2.2.1 (by omega) fun _ => ?_
  by_cases h23 : (hd ts2).1 = 23
  · rw [if_pos (decide_eq_true (by omega)), if_pos h23, rb_assoc]
    refine CR_g (rdr_o hS2.2.1) ?_
    have htk := tk_any (n := n) (WE := WE) hS2 (by omega) (by omega)
    rw [h23] at htk
    refine CR_i htk hf02 PS_rd hD ?_
    rintro v Y3 hS3 hf3 hf03 ⟨va, ve, vn, rfl, q2, q3, q4, q5⟩
    dsimp only at hS3 q2 q3 q4 q5
    have hK3 := PLK_r1 hK2 hS2 hf3
    refine CR_y (rdr_p hS3.2.1) (CR_y rfl (CR_y (yR_of (r := some (l 2)) hK3.1.1 rfl) (CR_g (rdr_o hS3.2.1) ?_)))
    refine CR_b (kw_ok hS3 (LSY_of (hK3.2.1.1 2 (by omega)) hK3.2.2.1.2.2.2.2.2) (lr 2 (by omega)) (by rw [List.length_map]; omega) hn (by omega)) hf03 PS_rd hD ?_
    rintro ⟨f, ts4⟩ v Y4 hS4 hf4 hf04 ⟨rfl, j1, j2, j3⟩
    dsimp only at hS4 j1 j2 j3 ⊢
    rw [rb_inr]
    exact ly_go hP h i3 hn hE (RS_le hS4 (sub4 W)) hf04 (PLK_r1 hK3 hS3 hf4) (RTk_k (IMK_T hf3.2.2 hf4.2.2) w1) w2
  · rw [if_neg (by rw [decide_eq_false (by omega)]; decide), if_neg h23, rb_inr]
    exact ly_go hP h i3 hn hE (RS_le hS2 (by omega)) hf02 hK2 w1 w2
end
end ZKG

/-! THE CLASS READS: readFlag -/
section ZKC
section
variable {n : Nat} {Y Y0 Y1 Y2 Y' : zY} {a b s p m e r q rd pl W W2 WE lo hi x c i : Nat} {S S1 : List Nat} {t : Tk} {ts ts0 : List Tk} {off : Int32} {l : Nat → Nat} {rc sq fl kd st fr er : Nat} {k : Nat × List (List Int32)} {xs xs' : Nat → List Nat} {P P' : Pln} {bd : Nat → Nat} {A : Nat → Nat} {X : Nat → List Nat} {v4 v5 : List Value} {w : List Int32} {fn ln : List (List Int32)}
/-- a flag's name and the flag are put to the plan -/
theorem PLK_f {q fl : Nat} (h : PLK Y pl l rc sq P xs fn ln) (hf1 : FR Y Y1 [l 1]) (hx1 : LSX Y1 (l 1) (xs 1 ++ [q])) (hf2 : FR Y1 Y2 [l 4]) (hx2 : LSX Y2 (l 4) (xs 4 ++ [fl])) (hw : RNm Y q w) (hl : fn.length < 24) : PLK Y2 pl l rc sq P (upL (upL xs 1 (xs 1 ++ [q])) 4 (xs 4 ++ [fl])) (fn ++ [w]) ln := by
  obtain ⟨h1, h2, h3, h4, h5, h6, h7, h8, h9, h10⟩ := h
  have hi : IMK Y Y2 := IMK_T hf1.2.2 hf2.2.2
  refine ⟨PLC_k (PLC_k h1 hf1 (by simpa using (LLS_pl h2 h1 (show 1 < 8 by omega)).symm)) hf2 (by simpa using (LLS_pl h2 h1 (show 4 < 8 by omega)).symm), LLS_1 (LLS_1 h2 hf1 (fun j hj hn => by simpa using fun e => hn (h2.2 j 1 hj (by omega) e)) hx1) hf2 (fun j hj hn => by simpa using fun e => hn (h2.2 j 4 hj (by omega) e)) hx2, ?_, h4, h5, h6, h7, h8, by rw [List.length_append]; show fn.length + 1 ≤ 24; omega, h10⟩
  obtain ⟨s1, s2, s3, s4, s5, s6⟩ := SEM_k hi h3
  refine ⟨?_, ?_, ?_, ?_, ?_, ?_⟩
  · rw [upL_n (by omega), upL_n (by omega)]; exact s1
  · rw [upL_n (by omega), upL_n (by omega)]; exact s2
  · rw [upL_n (by omega), upL_n (by omega)]; exact s3
  · rw [upL_n (by omega), upL_n (by omega)]; exact s4
  · rw [upL_n (by omega), upL_s]; exact AL_app s5 (RNm_k hi hw)
  · rw [upL_n (by omega), upL_n (by omega)]; exact s6
/-- readFlag -/
theorem fg_ok (h : RS rd pl W Y ts) (hP : PLN Y pl l rc sq bd P xs) (h14 : (hd ts).1 = 14) (hn : 6002 ≤ n) (hE : W ≤ WE + 50) : CR rd pl Y (PS rd pl l) W WE (c90 n rd Y) (sFlg P ts) (fun z => z.2) (fun Y1 z _ => ∃ xs' bd', PLN Y1 pl l rc sq bd' z.1 xs') := by
  have hD := h.1.2
  have h231 := hD.1
  have hW := h.2.2
  have hlt := rdr_len h.2.1
  have hK := hP.1
  obtain ⟨pr, lr⟩ := PLK_rd hK h
  have hl4 := hK.2.1.1 4 (by omega)
  have hlen4 := hP.2.1.1
  have hlY : ∀ j, j < 8 → l j < Y.2.1 := fun j hj => by
    obtain ⟨⟨cap, x1, _⟩, _⟩ := hK.2.1.1 j hj
    exact hD.2 _ _ x1
  have hf24 : P.2.1.length ≤ 24 := by have := hK.2.2.2.2.2.2.2.2.1; rw [List.length_map] at this; exact this
  have h100 := hK.2.2.2.2.1
  have hlen6 := AL_len hK.2.2.1.2.2.1
  unfold c90 sFlg
  refine CR_y (rdr_p h.2.1) (CR_y rfl (CR_y (yR_of (r := some (l 4)) hK.1.1 rfl) (CR_y rfl (CR_g (lsx_o hl4) (CR_y (lsx_n hl4) (CR_g (rdr_o h.2.1) ?_))))))
  dsimp only
  refine CR_b (fw_ok (hv := P.2.1.length) (mo := 24) h (by rw [hlen4]) rfl (by omega) (by omega) (by omega) (by omega)) FR_R PS_rd hD ?_
  rintro ts1 v Y1 hS1 hf1 hf01 ⟨i1, i2, i3⟩
  have hK1 := PLK_r1 hK h hf1
  have hl41 := hK1.2.1.1 4 (by omega)
  refine CR_y (rdr_p hS1.2.1) (CR_y rfl (CR_y (yR_of (r := some (l 4)) hK1.1.1 rfl) (CR_y rfl (CR_g (lsx_o hl41) (CR_y (lsx_n hl41) ?_)))))
  dsimp only
  rw [hlen4]
  have hfn : FR Y1 (yN Y1 0 10) [] := FR_a hS1.1.2
  have hRn := RDR_k hS1.2.1 hfn (by simp)
  have hKn : PLK (yN Y1 0 10) pl l rc sq P xs (P.2.1.map (·.1)) (P.2.2.1.map (·.1)) := PLK_k hK1 hfn (by simp) (fun _ _ => by simp)
  have hl6n := hKn.2.1.1 6 (by omega)
  refine CR_y (rdr_p hRn) (CR_y rfl (CR_y (yR_of (r := some (l 6)) hKn.1.1 rfl) (CR_y rfl (CR_g (lsx_o hl6n) (CR_y (lsx_n hl6n) ?_)))))
  dsimp only
  obtain ⟨Y2, A, st0, e1, e2, e3, e4, e5, e6, e7⟩ := fl_new (n := n) (M := P.2.2.2.1.length) (y1 := nI (xs 6).length) hS1.1 (by rw [hlen6])
  refine CR_y e1 ?_
  dsimp only
  have hR2 := RDR_k hS1.2.1 e3 (by simp)
  have hK2 : PLK Y2 pl l rc sq P xs (P.2.1.map (·.1)) (P.2.2.1.map (·.1)) := PLK_k hK1 e3 (by simp) (fun _ _ => by simp)
  have hS2 : RS rd pl (W - 122) Y2 ts1 := ⟨e2, hR2, by have := hS1.2.2; omega⟩
  have hf02 : FR Y Y2 (PS rd pl l) := FR_T hf01 e3 (fun a h => by cases h) hD
  have hflY : Y.2.1 ≤ Y1.2.1 := hf1.1
  refine CR_y (rdr_p hR2) (CR_y rfl (CR_y (yR_of (r := some (l 1)) hK2.1.1 rfl) ?_))
  refine CR_y (rdr_p hR2) (CR_y rfl (CR_y (yR_of (r := some (l 1)) hK2.1.1 rfl) (CR_g (rdr_o hR2) ?_)))
  refine CR_b (nw_ok hS2 (LSY_of (hK2.2.1.1 1 (by omega)) hK2.2.2.1.2.2.2.2.1) (lr 1 (by omega)) (by rw [List.length_map]; omega) hn (by omega)) hf02 PS_rd hD ?_
  rintro ⟨w, ts3⟩ v Y3 hS3 hf3 hf03 ⟨wa, rfl, w1, w2, w3, w4⟩
  dsimp only at hS3 w1 w2 w3 w4 ⊢
  have hK3 := PLK_r1 hK2 hS2 hf3
  have hX3 := FLX_r1 e5 hR2 hf3
  have hl13 := hK3.2.1.1 1 (by omega)
  obtain ⟨_, _, _, _, _, _, _, _, fsw, j8⟩ := tk_txt w1
  have hlen1 := AL_len hK3.2.2.1.2.2.2.2.1
  rw [List.length_map] at hlen1
  obtain ⟨Y4, d1, d2, d3, d4, d5⟩ := lsx_a (n := n) hS3.1 hl13 j8 (by decide) (by omega)
  refine CR_y rfl (CR_g (lsx_o hl13) (CR_y d1 ?_))
  have hne41 : l 4 ≠ l 1 := fun e => by have := hK.2.1.2 4 1 (by omega) (by omega) e; omega
  have hR4 : RDR Y4 rd pl ts3 := RDR_k hS3.2.1 d3 (by simpa using (lr 1 (by omega)).symm)
  have hP4 : PLC Y4 pl l P.2.2.2.2.1.length P.2.2.2.2.2.2 rc sq := PLC_k hK3.1 d3 (by simpa using (LLS_pl hK3.2.1 hK3.1 (show 1 < 8 by omega)).symm)
  have hl44 : LSX Y4 (l 4) (xs 4) := LSX_k (hK3.2.1.1 4 (by omega)) d3 (by simpa using hne41)
  have hX4 : FLX Y4 Y1.2.1 A 16 st0 0 P.2.2.2.1.length P.2.2.2.1.length (fun _ => []) (List.replicate 4 (.int 0)) (List.replicate 4 (.int 0)) := FLX_k hX3 d3 (by have := hlY 1 (by omega); rw [List.mem_singleton]; omega) (fun j a b => by have := hlY 1 (by omega); have := (e7 j a b).1; rw [List.mem_singleton]; omega)
  obtain ⟨Y5, g1, g2, g3, g4, g5⟩ := lsx_a (n := n) d2 hl44 hX4.1 (by decide) (by omega)
  dsimp only
  refine CR_y (rdr_p hR4) (CR_y rfl (CR_y (yR_of (r := some (l 4)) hP4.1 rfl) (CR_y rfl (CR_g (lsx_o hl44) (CR_y g1 ?_)))))
  have hX5 : FLX Y5 Y1.2.1 A 16 st0 0 P.2.2.2.1.length P.2.2.2.1.length (fun _ => []) (List.replicate 4 (.int 0)) (List.replicate 4 (.int 0)) := FLX_k hX4 g3 (by have := hlY 4 (by omega); rw [List.mem_singleton]; omega) (fun j a b => by have := hlY 4 (by omega); have := (e7 j a b).1; rw [List.mem_singleton]; omega)
  have hK5 := PLK_f (w := w.2.2.1) hK3 d3 d5 g3 g5 ⟨w, w1, by unfold ttx; rw [if_neg (by omega)]⟩ (by rw [List.length_map]; exact i3)
  have hf05 : FR Y Y5 (PS rd pl l) := FR_T (FR_T hf03 d3 (PS_l (by omega)) hD) g3 (PS_l (by omega)) hD
  have hS5 : RS rd pl (W - 250) Y5 ts3 := ⟨g2, RDR_k hR4 g3 (by simpa using (lr 4 (by omega)).symm), by have := hS3.2.2; omega⟩
  have hI5 : FIP Y Y5 rd pl l rc sq P P xs (upL (upL xs 1 (xs 1 ++ [wa])) 4 (xs 4 ++ [Y1.2.1])) w.2.2.1 Y1.2.1 A := ⟨hf05, hK5, rfl, rfl, rfl, rfl, ⟨[], by rw [List.append_nil], fun r hr => by cases hr⟩, ⟨[], by rw [List.append_nil]⟩, upL_s, by rw [upL_n (by omega), upL_n (by omega)], by omega, fun j a b => by have := (e7 j a b).1; omega, fun j k a b hk => by have := (e7 j a (by omega)).1; have := hlY k hk; omega⟩
  clear hX4 hl44 hP4 hR4 d5 d4 d1 g1 g4 g5 hlen1 hl13 hX3 hK3 hK2 hS2 hR2 hl6n hKn hRn hfn e1 e4 hl41
  -- : kind
  rw [rb_eat]
  dsimp only
  refine CR_g (rdr_o hS5.2.1) ?_
  refine CR_b (tk_ok (s := 11) hS5 (by omega) (by omega)) hf05 PS_rd hD ?_
  rintro ⟨t6, ts6⟩ v Y6 hS6 hf6 hf06 ⟨_, _, _, rfl, _, _, _, q7, q8⟩
  dsimp only at hS6 q7 q8 ⊢
  have hI6 := FIP_t hI5 hS5 hD hf6
  have hX6 := FLX_r1 hX5 hS5.2.1 hf6
  refine CR_g (rdr_o hS6.2.1) ?_
  refine CR_b (kd_ok hS6 hX6 rfl hn (by omega)) hf06 (fun a ha => by
    rcases List.mem_cons.mp ha with e | ha
    · exact Or.inl (PS_m.mpr (Or.inl e))
    rcases List.mem_cons.mp ha with e | ha
    · exact Or.inr (by rw [e]; exact hI6.2.2.2.2.2.2.2.2.2.2.1)
    · exact Or.inr (by rw [List.mem_singleton.mp ha]; exact hI6.2.2.2.2.2.2.2.2.2.2.2.1 1 (by omega) (by omega))) hD ?_
  rintro ⟨kk, ts7⟩ v Y7 hS7 hf7 hf07 ⟨x1, a1, a2, a3, a4⟩
  dsimp only at hS7 a1 a2 a3 a4 ⊢
  have hI7 := FIP_c hI6 hS6 hD hX6 hf7 (fun a ha => by
    rcases List.mem_cons.mp ha with e | ha
    · exact Or.inl e
    rcases List.mem_cons.mp ha with e | ha
    · exact Or.inr (Or.inl e)
    · exact Or.inr (Or.inr ⟨1, by omega, by omega, List.mem_singleton.mp ha⟩))
  -- { default
  rw [rb_eat]
  refine CR_g (rdr_o hS7.2.1) ?_
  refine CR_b (tk_ok (s := 5) hS7 (by omega) (by omega)) hf07 PS_rd hD ?_
  rintro ⟨t8, ts8⟩ v Y8 hS8 hf8 hf08 ⟨_, _, _, rfl, _, _, _, q9, q10⟩
  dsimp only at hS8 q9 q10 ⊢
  have hI8 := FIP_t hI7 hS7 hD hf8
  have hX8 := FLX_r1 a1 hS7.2.1 hf8
  rw [rb_eat]
  refine CR_g (rdr_o hS8.2.1) ?_
  refine CR_b (tk_ok (s := 18) hS8 (by omega) (by omega)) hf08 PS_rd hD ?_
  rintro ⟨t9, ts9⟩ v Y9 hS9 hf9 hf09 ⟨_, _, _, rfl, _, _, _, q11, q12⟩
  dsimp only at hS9 q11 q12 ⊢
  have hI9 := FIP_t hI8 hS8 hD hf9
  have hX9 := FLX_r1 hX8 hS8.2.1 hf9
  have hi79 : IMK Y7 Y9 := IMK_T hf8.2.2 hf9.2.2
  have hKN9 : KN Y9 Y1.2.1 (A 1) kk := KN_of hX9 rfl (by rw [upL_s]; exact AL_imp (fun x y => RNm_k hi79) a2) a3 a4
  have hK9 := hI9.2.1
  -- the serve
  have hRS9 : RS rd pl (W - 300) Y9 ts9 := RS_le hS9 (by omega)
  refine CR_g (rdr_o hRS9.2.1) ?_
  have hSV : SVP Y9 pl l P.2.2.2.2.1.length P.2.2.2.2.2.2 rc sq Y1.2.1 (A 1) kk (xs 7) P.2.2.2.2.2.1 := by
    have h7 := hK9.2.1.1 7 (by omega)
    have h7' := hK9.2.2.1.2.2.2.1
    rw [upL_n (by omega), upL_n (by omega)] at h7 h7'
    exact ⟨hK9.1, hKN9, h7, h7', hK9.2.2.2.2.2.2.1, hI9.2.2.2.2.2.2.2.2.2.2.2.2 1 7 (by omega) (by omega) (by omega)⟩
  refine CR_b (se_ok hRS9 hSV hn (by omega)) hf09 (PS_s (fun a ha => by
    rcases List.mem_cons.mp ha with e | ha
    · exact Or.inl e
    · exact Or.inr (Or.inr ⟨7, by omega, List.mem_singleton.mp ha⟩))) hD ?_
  rintro ⟨sv, sp, ts10⟩ v Y10 hS10 hf10 hf010 ⟨za, x7, more, rfl, z1, z2, z3, z4, z5⟩
  dsimp only at hS10 z1 z3 z4 z5 ⊢
  have hK10 := PLK_s hK9 hRS9 hf10 z2 z3 z4 z5
  have hX10 := FLX_s hI9 hRS9 hX9 (fun a ha => by
    rcases List.mem_cons.mp ha with e | ha
    · exact Or.inl e
    · exact Or.inr (Or.inr (Or.inl ⟨7, by omega, List.mem_singleton.mp ha⟩))) hf10
  have hI10 : FIP Y Y10 rd pl l rc sq P (setSp P sp) xs (upL (upL (upL xs 1 (xs 1 ++ [wa])) 4 (xs 4 ++ [Y1.2.1])) 7 x7) w.2.2.1 Y1.2.1 A := by
    obtain ⟨c1, c2, c3, c4, c5, c6, c7, c8, c9, c10, c11, c12, c13⟩ := hI9
    exact ⟨hf010, hK10, rfl, rfl, rfl, rfl, ⟨[], by rw [List.append_nil]; rfl, fun r hr => by cases hr⟩, ⟨more, z4⟩, by rw [upL_n (by omega)]; exact c9, by rw [upL_n (by omega)]; exact c10, c11, c12, c13⟩
  refine CR_y (yP_of hX10.1 hX10.2.1 rfl rfl) ?_
  obtain ⟨Y11, hY11⟩ : ∃ Y11, Y11 = yu Y10 Y1.2.1 (some (oB 0 [.ref (kdA kk.1), .ref (A 1), .ref (A 2), .ref (A 3), .ref (A 4), .ref (A 5), .ref za, .int 0, .int (nI P.2.2.2.1.length), .int (nI P.2.2.2.1.length)])) := ⟨_, rfl⟩
  rw [show yu Y10 Y1.2.1 (some (oB 0 (zs [.ref (kdA kk.1), .ref (A 1), .ref (A 2), .ref (A 3), .ref (A 4), .ref (A 5), .ref st0, .int 0, .int (nI P.2.2.2.1.length), .int (nI P.2.2.2.1.length)] 6 (va_rf (some za))))) = Y11 by rw [hY11]; rfl]
  have hX11 : FLX Y11 Y1.2.1 A (kdA kk.1) za 0 P.2.2.2.1.length P.2.2.2.1.length (upL (fun _ => []) 1 x1) (List.replicate 4 (.int 0)) (List.replicate 4 (.int 0)) := by rw [hY11]; exact FLX_c hX10
  have hfr11 : FR Y10 Y11 [Y1.2.1] := by rw [hY11]; exact FR_u hX10.1 rfl
  have hflr := (FLX_rd hX10 hS10.2.1).1
  have hS11 : RS rd pl (W - 300 - 300) Y11 ts10 := by rw [hY11]; exact RS_w hS10 hX10.1 rfl hflr hX10.2.1
  have hI11 := FIP_c hI10 hS10 hD hX10 hfr11 (fun a ha => Or.inr (Or.inl (List.mem_singleton.mp ha)))
  -- off
  rw [rb_eat]
  refine CR_g (rdr_o hS11.2.1) ?_
  have hE11 : W - 300 - 300 ≤ WE + 250 := by omega
  refine CR_b (tk_ok (s := 19) hS11 (by omega) hE11) hI11.1 PS_rd hD ?_
  rintro ⟨t12, ts12⟩ v Y12 hS12 hf12 hf012 ⟨_, _, _, rfl, _, _, _, q13, q14⟩
  dsimp only at hS12 q13 q14 ⊢
  have hI12 := FIP_t hI11 hS11 hD hf12
  have hX12 := FLX_r1 hX11 hS11.2.1 hf12
  have hi712 : IMK Y7 Y12 := IMK_T hi79 (IMK_T hf10.2.2 (IMK_T hfr11.2.2 hf12.2.2))
  have hKN12 : KN Y12 Y1.2.1 (A 1) kk := KN_of hX12 rfl (by rw [upL_s]; exact AL_imp (fun x y => RNm_k hi712) a2) a3 a4
  refine CR_g (rdr_o hS12.2.1) ?_
  refine CR_b (vl_ok hS12 hKN12 hn (Nat.le_trans (Nat.sub_le _ _) hE11)) hf012 PS_rd hD ?_
  rintro ⟨_, ts13⟩ of Y13 hS13 hf13 hf013 ⟨rfl, _, _⟩
  dsimp only at hS13 ⊢
  have hI13 := FIP_t hI12 hS12 hD hf13
  have hX13 := FLX_r1 hX12 hS12.2.1 hf13
  refine CR_y (yP_of hX13.1 hX13.2.1 rfl rfl) ?_
  obtain ⟨Y14, hY14⟩ : ∃ Y14, Y14 = yu Y13 Y1.2.1 (some (oB 0 [.ref (kdA kk.1), .ref (A 1), .ref (A 2), .ref (A 3), .ref (A 4), .ref (A 5), .ref za, .int of, .int (nI P.2.2.2.1.length), .int (nI P.2.2.2.1.length)])) := ⟨_, rfl⟩
  rw [show yu Y13 Y1.2.1 (some (oB 0 (zs [.ref (kdA kk.1), .ref (A 1), .ref (A 2), .ref (A 3), .ref (A 4), .ref (A 5), .ref za, .int 0, .int (nI P.2.2.2.1.length), .int (nI P.2.2.2.1.length)] 7 (.int of)))) = Y14 by rw [hY14]; rfl]
  have hX14 : FLX Y14 Y1.2.1 A (kdA kk.1) za of P.2.2.2.1.length P.2.2.2.1.length (upL (fun _ => []) 1 x1) (List.replicate 4 (.int 0)) (List.replicate 4 (.int 0)) := by rw [hY14]; exact FLX_c hX13
  have hfr14 : FR Y13 Y14 [Y1.2.1] := by rw [hY14]; exact FR_u hX13.1 rfl
  have hflr13 := (FLX_rd hX13 hS13.2.1).1
  have hS14 : RS rd pl (W - 300 - 300 - 300 - 300) Y14 ts13 := by rw [hY14]; exact RS_w hS13 hX13.1 rfl hflr13 hX13.2.1
  have hI14 := FIP_c hI13 hS13 hD hX13 hfr14 (fun a ha => Or.inr (Or.inl (List.mem_singleton.mp ha)))
  rw [rb_eat]
  refine CR_g (rdr_o hS14.2.1) ?_
  have hS14' := RS_le hS14 (sub4 W)
  refine CR_b (tk_ok (s := 9) hS14' (by omega) (Nat.le_trans hE (Nat.add_le_add_left (by decide) _))) hI14.1 PS_rd hD ?_
  rintro ⟨t15, ts15⟩ v Y15 hS15 hf15 hf015 _
  dsimp only at hS15 ⊢
  have hI15 := FIP_t hI14 hS14' hD hf15
  have hX15 := FLX_r1 hX14 hS14.2.1 hf15
  have hi1015 : IMK Y10 Y15 := IMK_T hfr11.2.2 (IMK_T hf12.2.2 (IMK_T hf13.2.2 (IMK_T hfr14.2.2 hf15.2.2)))
  have hi715 : IMK Y7 Y15 := IMK_T hi79 (IMK_T hf10.2.2 hi1015)
  have hlp := ndl_ok (n := n) (W := W) (WE := WE) (P' := setSp P sp) (kk := kk) (d := sv) (of := of) (fr := P.2.2.2.1.length) hP h i3 hn hE n 0 (ns := []) (by omega) (by omega) (RS_le hS15 (Nat.sub_le _ _)) hI15 ⟨kdA kk.1, za, P.2.2.2.1.length, _, _, _, hX15, by rw [List.length_replicate], by rw [List.length_replicate], ⟨rfl, a4, by rw [upL_s]; exact AL_imp (fun x y => RNm_k hi715) a2, a3, by rw [upL_n (by omega)]; trivial, by rw [upL_n (by omega)]; trivial, by show 0 ≤ 4; omega, ?_⟩, ?_⟩
  · exact hlp
  · have := RSv_k (more := []) hi1015 z1
    rw [List.append_nil] at this
    exact this
  · exact RNG_none (fun r hr q => by have := (hP.2.2.2.1.1 r hr).1; omega)
end
end ZKC

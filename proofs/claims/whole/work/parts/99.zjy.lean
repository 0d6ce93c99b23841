/-! THE CLASS READS: segments -/
section ZJY
section
variable {n : Nat} {Y Y0 Y1 Y2 Ys Z : zY} {a b s p m e tp r q rd pl W W2 WE lo hi x c i : Nat} {S S1 F F1 F2 : List Nat} {t : Tk} {ts : List Tk} {v u off : Int32} {o o' : yO} {nx nm sa : Value} {l : Nat → Nat} {os rc sq fl c1 L ly : Nat} {k : Nat × List (List Int32)} {spl : List Spl} {xs xs' : Nat → List Nat} {P P' : Pln} {fn ln : List (List Int32)} {rules rs : List Rul} {items its : List Itm} {bd : Nat → Nat}
/-- what reading a text may write -/
def PS (rd pl : Nat) (l : Nat → Nat) : List Nat := rd :: pl :: (List.range 8).map l
theorem PS_m : a ∈ PS rd pl l ↔ a = rd ∨ a = pl ∨ ∃ j, j < 8 ∧ a = l j := by
  unfold PS
  rw [List.mem_cons, List.mem_cons, List.mem_map]
  refine or_congr Iff.rfl (or_congr Iff.rfl ⟨?_, ?_⟩)
  · rintro ⟨j, h1, h2⟩
    exact ⟨j, List.mem_range.mp h1, h2.symm⟩
  · rintro ⟨j, h1, h2⟩
    exact ⟨j, List.mem_range.mpr h1, h2.symm⟩
theorem PS_ok : okS rd pl l Y (PS rd pl l) := fun a h => by
  rcases PS_m.mp h with d | d | d
  · exact Or.inl d
  · exact Or.inr (Or.inl d)
  · exact Or.inr (Or.inr (Or.inl d))
theorem PS_s (h : ∀ a ∈ S1, a = rd ∨ a = pl ∨ ∃ j, j < 8 ∧ a = l j) : ∀ a ∈ S1, a ∈ PS rd pl l ∨ Y.2.1 ≤ a := fun a ha => Or.inl (PS_m.mpr (h a ha))
theorem PS_rd : ∀ a ∈ [rd], a ∈ PS rd pl l ∨ Y.2.1 ≤ a := PS_s (fun a h => Or.inl (List.mem_singleton.mp h))
theorem PS_pl : ∀ a ∈ [rd, pl], a ∈ PS rd pl l ∨ Y.2.1 ≤ a := PS_s (fun a h => by
  rcases List.mem_cons.mp h with e | e
  · exact Or.inl e
  · exact Or.inr (Or.inl (List.mem_singleton.mp e)))
theorem PS_l {j : Nat} (hj : j < 8) : ∀ a ∈ [l j], a ∈ PS rd pl l ∨ Y.2.1 ≤ a := PS_s (fun a h => Or.inr (Or.inr ⟨j, hj, List.mem_singleton.mp h⟩))
/-- arrays are kept -/
theorem arr_ok {vs : List Value} {tt : Nat} (h : Y.1 a = some (oA tt vs)) (hP : PLK Y pl l rc sq P xs fn ln) (hR : RS rd pl W Y ts) (hS : okS rd pl l Y S) : a ∉ S := fun e => by
  rcases hS _ e with d | d | ⟨j, hj, d⟩ | d
  · obtain ⟨_, ⟨⟨_, _, _, k1, _⟩, _⟩, _⟩ := hR
    rw [d, k1] at h; cases h
  · have := hP.1.1
    rw [d, this] at h; cases h
  · obtain ⟨⟨cap, x1, _⟩, _⟩ := hP.2.1.1 j hj
    rw [d, x1] at h; cases h
  · have := hR.1.2.2 _ _ h; omega
/-- flags and layers as they were -/
theorem PLN_of {more : List Spl} (h : PLN Y pl l rc sq bd P xs) (hR : RS rd pl W Y ts) (hS : okS rd pl l Y S) (hf : FR Y Y1 S) (hK : PLK Y1 pl l rc sq P' xs' (P.2.1.map (·.1)) (P.2.2.1.map (·.1))) (h1 : P'.2.1 = P.2.1) (h2 : P'.2.2.1 = P.2.2.1) (h3 : P'.2.2.2.1 = P.2.2.2.1 ++ rs) (h4 : P'.2.2.2.2.1 = P.2.2.2.2.1 ++ its) (h5 : P'.2.2.2.2.2.1 = P.2.2.2.2.2.1 ++ more) (hr1 : ∀ r ∈ rs, ¬ (r.1 < P.2.1.length ∧ r.2.1 = -1)) (hr2 : ∀ r ∈ rs, ∀ i, i < P.2.2.1.length → r.2.1 ≠ nI i) (hi : ∀ I ∈ its, ¬ I.1 < P.2.2.1.length) (h6 : xs' 4 = xs 4) (h7 : xs' 5 = xs 5) (h8 : RIV P') : PLN Y1 pl l rc sq bd P' xs' := by
  obtain ⟨g1, g2, g3, g4, ⟨vr, g5, g5'⟩, ⟨vq, g6, g6'⟩, g7, g8, g9, g10, g11, g12, g13⟩ := h
  refine ⟨by rw [h1, h2]; exact hK, ?_, ?_, h8, ⟨vr, FR_k hf g5 (arr_ok g5 g1 hR hS), g5'⟩, ⟨vq, FR_k hf g6 (arr_ok g6 g1 hR hS), g6'⟩, g7, g8, g9, g10, g11, by rw [h1]; exact g12, by rw [h1]; have := hf.1; omega⟩
  · rw [h1, h3, h5, h6]; exact FLs_k g2 g1 hR hS hf hr1
  · rw [h2, h3, h4, h5, h7]; exact LYs_k g3 g1 hR hS hf hr2 hi
/-- readSegment -/
theorem sg_ok2 (h : RS rd pl W Y ts) (hP : PLN Y pl l rc sq bd P xs) (h25 : (hd ts).1 = 25) (hn : 6002 ≤ n) (hE : W ≤ WE + 50) : CR rd pl Y (PS rd pl l) W WE (c67 n rd Y) (sSeg P ts) (fun z => z.2) (fun Y1 z _ => ∃ xs', PLN Y1 pl l rc sq bd z.1 xs') := by
  have hD := h.1.2
  have hW := h.2.2
  have hlt := rdr_len h.2.1
  have hK := hP.1
  obtain ⟨pr, lr⟩ := PLK_rd hK h
  have hl3 := hK.2.1.1 3 (by omega)
  have hlen3 := AL_len hK.2.2.1.2.1
  rw [List.length_map] at hlen3
  have hlen0 := AL_len hK.2.2.1.1
  rw [List.length_map] at hlen0
  have h12 := hK.2.2.2.1
  unfold c67 sSeg
  refine CR_y (rdr_p h.2.1) (CR_y rfl (CR_y (yR_of (r := some (l 3)) hK.1.1 rfl) (CR_y rfl (CR_g (lsx_o hl3) (CR_y (lsx_n hl3) (CR_g (rdr_o h.2.1) ?_))))))
  dsimp only
  refine CR_b (fw_ok (hv := P.1.length) (mo := 12) h (by rw [hlen3]) rfl (by omega) (by omega) (by omega) (by omega)) FR_R PS_rd hD ?_
  rintro ts1 v Y1 hS1 hf1 hf01 ⟨i1, i2, i3⟩
  have hK1 := PLK_r1 hK h hf1
  refine CR_y (rdr_p hS1.2.1) (CR_y rfl (CR_y (yR_of (r := some (l 0)) hK1.1.1 rfl) (CR_g (rdr_o hS1.2.1) ?_)))
  refine CR_b (nw_ok hS1 (LSY_of (hK1.2.1.1 0 (by omega)) hK1.2.2.1.1) (lr 0 (by omega)) (by rw [List.length_map]; omega) hn (by omega)) hf01 PS_rd hD ?_
  rintro ⟨w, ts2⟩ v Y2 hS2 hf2 hf02 ⟨wa, rfl, w1, w2, w3, w4⟩
  dsimp only at hS2 w1 w2 w3 w4 ⊢
  have hK2 := PLK_r1 hK1 hS1 hf2
  rw [rb_eat]
  refine CR_g (rdr_o hS2.2.1) ?_
  refine CR_b (tk_ok (s := 12) hS2 (by omega) (by omega)) hf02 PS_rd hD ?_
  rintro ⟨t3, ts3⟩ v Y3 hS3 hf3 hf03 ⟨_, _, _, rfl, _, _, _, b3, b4⟩
  dsimp only at hS3 b3 b4 ⊢
  have hK3 := PLK_r1 hK2 hS2 hf3
  refine CR_g (rdr_o hS3.2.1) ?_
  refine CR_b (exp_c hS3 (PLK_PE hK3) hn (by omega)) hf03 PS_pl hD ?_
  rintro ⟨φ, ts4, p4⟩ v Y4 hS4 hf4 hf04 ⟨za, Fz, rfl, z1, z2, z3, z4⟩
  dsimp only at hS4 z1 z3 z4 ⊢
  have hK4 := PLK_e hK3 hS3 hf4 z3 z4
  rw [rb_eat]
  refine CR_g (rdr_o hS4.2.1) ?_
  refine CR_b (tk_ok (s := 9) hS4 (by omega) (by omega)) hf04 PS_rd hD ?_
  rintro ⟨t5, ts5⟩ v Y5 hS5 hf5 hf05 _
  dsimp only at hS5 ⊢
  have hK5 := PLK_r1 hK4 hS4 hf5
  have hl0 := hK5.2.1.1 0 (by omega)
  have hw5 : RTk Y5 wa w := RTk_k (IMK_T hf3.2.2 (IMK_T hf4.2.2 hf5.2.2)) w1
  obtain ⟨_, _, _, _, _, _, _, _, fs, j8⟩ := tk_txt hw5
  obtain ⟨Y6, d1, d2, d3, d4, d5⟩ := lsx_a (n := n) hS5.1 hl0 j8 (by decide) (by omega)
  refine CR_y (rdr_p hS5.2.1) (CR_y rfl (CR_y (yR_of (r := some (l 0)) hK5.1.1 rfl) (CR_y rfl (CR_g (lsx_o hl0) (CR_y d1 ?_)))))
  have hR6 : RDR Y6 rd pl ts5 := RDR_k hS5.2.1 d3 (by simpa using (lr 0 (by omega)).symm)
  have hne30 : l 3 ≠ l 0 := fun e => by have := hK.2.1.2 3 0 (by omega) (by omega) e; omega
  have hl36 : LSX Y6 (l 3) (xs 3) := LSX_k (hK5.2.1.1 3 (by omega)) d3 (by simpa using hne30)
  have hP6 : PLC Y6 pl l P.2.2.2.2.1.length p4 rc sq := PLC_k hK5.1 d3 (by simpa using (LLS_pl hK5.2.1 hK5.1 (show 0 < 8 by omega)).symm)
  have hz5 : PRT Y5 43 za φ .null Fz := PRT_k hf5.2.2 z1
  obtain ⟨_, _, _, _, _, zc, _⟩ := PRT_c (PRT_k d3.2.2 hz5)
  obtain ⟨Y7, g1, g2, g3, g4, g5⟩ := lsx_a (n := n) d2 hl36 zc (by decide) (by omega)
  dsimp only
  refine CR_y (rdr_p hR6) (CR_y rfl (CR_y (yR_of (r := some (l 3)) hP6.1 rfl) (CR_y rfl (CR_g (lsx_o hl36) (CR_y g1 ?_)))))
  have hf07 : FR Y Y7 (PS rd pl l) := FR_T (FR_T hf05 d3 (PS_l (by omega)) hD) g3 (PS_l (by omega)) hD
  have hi57 : IMK Y5 Y7 := IMK_T d3.2.2 g3.2.2
  have hLL7 : LLS Y7 l (upL (upL xs 0 (xs 0 ++ [wa])) 3 (xs 3 ++ [za])) := LLS_1 (LLS_1 hK5.2.1 d3 (fun j hj hn => by simpa using fun e => hn (hK5.2.1.2 j 0 hj (by omega) e)) d5) g3 (fun j hj hn => by simpa using fun e => hn (hK5.2.1.2 j 3 hj (by omega) e)) g5
  have hSE : SEM Y7 (upL (upL xs 0 (xs 0 ++ [wa])) 3 (xs 3 ++ [za])) (P.1 ++ [(w.2.2.1, φ)], P.2.1, P.2.2.1, P.2.2.2.1, P.2.2.2.2.1, P.2.2.2.2.2.1, p4) (P.2.1.map (·.1)) (P.2.2.1.map (·.1)) := by
    obtain ⟨s1, s2, s3, s4, s5, s6⟩ := SEM_k hi57 hK5.2.2.1
    refine ⟨?_, ?_, ?_, ?_, ?_, ?_⟩
    · rw [upL_n (by omega), upL_s]
      show AL (RNm Y7) (xs 0 ++ [wa]) ((P.1 ++ [(w.2.2.1, φ)]).map (·.1))
      rw [List.map_append]
      exact AL_app s1 ⟨w, RTk_k hi57 hw5, by unfold ttx; rw [if_neg (by omega)]⟩
    · rw [upL_s]
      show AL (RSg Y7) (xs 3 ++ [za]) ((P.1 ++ [(w.2.2.1, φ)]).map (·.2))
      rw [List.map_append]
      exact AL_app s2 ⟨Fz, PRT_k hi57 hz5⟩
    · rw [upL_n (by omega), upL_n (by omega)]; exact s3
    · rw [upL_n (by omega), upL_n (by omega)]; exact s4
    · rw [upL_n (by omega), upL_n (by omega)]; exact s5
    · rw [upL_n (by omega), upL_n (by omega)]; exact s6
  have hK7 : PLK Y7 pl l rc sq (P.1 ++ [(w.2.2.1, φ)], P.2.1, P.2.2.1, P.2.2.2.1, P.2.2.2.2.1, P.2.2.2.2.2.1, p4) (upL (upL xs 0 (xs 0 ++ [wa])) 3 (xs 3 ++ [za])) (P.2.1.map (·.1)) (P.2.2.1.map (·.1)) := by
    refine ⟨PLC_k hP6 g3 (by simpa using (LLS_pl hK5.2.1 hK5.1 (show 3 < 8 by omega)).symm), hLL7, hSE, ?_⟩
    obtain ⟨b1, b2, b3, b4, b5, b6, b7⟩ := hK.2.2.2
    exact ⟨by show (P.1 ++ [(w.2.2.1, φ)]).length ≤ 12; rw [List.length_append]; show P.1.length + 1 ≤ 12; omega, b2, b3, b4, z4, b6, b7⟩
  refine CR_s (s := ((P.1 ++ [(w.2.2.1, φ)], P.2.1, P.2.2.1, P.2.2.2.1, P.2.2.2.2.1, P.2.2.2.2.2.1, p4), ts5)) ⟨g2, RDR_k hR6 g3 (by simpa using (lr 3 (by omega)).symm), ?_⟩ hf07 ⟨_, PLN_of (rs := []) (its := []) (more := []) hP h PS_ok hf07 hK7 rfl rfl (by rw [List.append_nil]) (by rw [List.append_nil]) (by rw [List.append_nil]) (fun r hr => by cases hr) (fun r hr => by cases hr) (fun r hr => by cases hr) ?_ ?_ hP.2.2.2.1⟩
  · have := hS5.2.2
    show wY Y7 + 300 * ts5.length ≤ W
    omega
  · rw [upL_n (by omega), upL_n (by omega)]
  · rw [upL_n (by omega), upL_n (by omega)]
end
end ZJY

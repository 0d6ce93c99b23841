/-! THE CLASS READS: readFlag -/
section ZKB
section
variable {n : Nat} {Y Y0 Y1 Y2 Y' : zY} {a b s p m e r q rd pl W W2 WE lo hi x c i : Nat} {S S1 : List Nat} {t : Tk} {ts ts0 : List Tk} {off : Int32} {l : Nat → Nat} {rc sq fl kd st fr er : Nat} {k : Nat × List (List Int32)} {xs xs' : Nat → List Nat} {P P' : Pln} {bd : Nat → Nat} {A : Nat → Nat} {X : Nat → List Nat} {v4 v5 : List Value} {w : List Int32} {ns : List (Tk × Tk)} {d : Srv}
/-- behind the rules of a flag -/
def fgE (P : Pln) (g : Flg) (x : Pln × List Tk) : RR (Pln × List Tk) := rb (sEat 6 x.2) fun ts => .inr ((x.1.1, P.2.1 ++ [g], x.1.2.2), ts)
/-- what is known of the flag that is read -/
def FST (Y' : zY) (fl : Nat) (A : Nat → Nat) (fr : Nat) (P P' : Pln) (g : Flg) : Prop := ∃ kd st er X v4 v5, FLX Y' fl A kd st g.2.2.2.2 fr er X v4 v5 ∧ v4.length = 4 ∧ v5.length = 4 ∧ FLm Y' P'.2.2.2.2.2.1 X kd st g ∧ RNG P'.2.2.2.1 (fun r => r.1 = P.2.1.length ∧ r.2.1 = -1) fr P'.2.2.2.1.length
theorem rll_ok {g : Flg} (hP : PLN Y pl l rc sq bd P xs) (hR0 : RS rd pl W2 Y ts0) (hw : g.1 = w) (h24 : P.2.1.length < 24) (hn : 6002 ≤ n) (hE : W ≤ WE + 50) : ∀ (fu i : Nat) {Y' : zY} {ts : List Tk} {P' : Pln} {xs' : Nat → List Nat}, i ≤ 101 → 101 - i < fu → RS rd pl W Y' ts → FIP Y Y' rd pl l rc sq P P' xs xs' w fl A → FST Y' fl A fr P P' g → CR rd pl Y (PS rd pl l) W WE (cf90_175 n fu rd (nI P.2.1.length) fl (nI i) Y') (rb (sRulL P.2.1.length g.2.1 (101 - i) P' ts) (fgE P g)) (fun z => z.2) (fun Y1 z _ => ∃ xs' bd', PLN Y1 pl l rc sq bd' z.1 xs')
  | 0, i, Y', ts, P', xs', _, h, _, _, _ => by omega
  | fu + 1, i, Y', ts, P', xs', hi, hfu, h, hI, hF => by
    have hD := hR0.1.2
    have hW := h.2.2
    have hlt := rdr_len h.2.1
    obtain ⟨kd, st, er, X, v4, v5, hX, hv4, hv5, hm, hrng⟩ := hF
    have hK := hI.2.1
    obtain ⟨pr, lr⟩ := PLK_rd hK h
    have hl6 := hK.2.1.1 6 (by omega)
    have hlen6 := AL_len hK.2.2.1.2.2.1
    have h100 := hK.2.2.2.2.1
    have fin : CR rd pl Y (PS rd pl l) W WE (cb90_260 n rd (nI P.2.1.length) fl (nI i) Y') (fgE P g (P', ts)) (fun z => z.2) (fun Y1 z _ => ∃ xs' bd', PLN Y1 pl l rc sq bd' z.1 xs') := by
      unfold cb90_260 fgE
      refine CR_y (rdr_p h.2.1) (CR_y rfl (CR_y (yR_of (r := some (l 6)) hK.1.1 rfl) (CR_y rfl (CR_g (lsx_o hl6) (CR_y (lsx_n hl6) (CR_y (yP_of hX.1 hX.2.1 rfl rfl) ?_))))))
      obtain ⟨Y1, hY1⟩ : ∃ Y1, Y1 = yu Y' fl (some (oB 0 [.ref kd, .ref (A 1), .ref (A 2), .ref (A 3), .ref (A 4), .ref (A 5), .ref st, .int g.2.2.2.2, .int (nI fr), .int (nI P'.2.2.2.1.length)])) := ⟨_, rfl⟩
      rw [show yu Y' fl (some (oB 0 (zs [.ref kd, .ref (A 1), .ref (A 2), .ref (A 3), .ref (A 4), .ref (A 5), .ref st, .int g.2.2.2.2, .int (nI fr), .int (nI er)] 9 (.int (nI (xs' 6).length))))) = Y1 by rw [hY1, hlen6]; rfl]
      have hX1 : FLX Y1 fl A kd st g.2.2.2.2 fr P'.2.2.2.1.length X v4 v5 := by rw [hY1]; exact FLX_c hX
      have hfr1 : FR Y' Y1 [fl] := by rw [hY1]; exact FR_u hX.1 rfl
      have hflr := (FLX_rd hX h.2.1).1
      have hS1 : RS rd pl W Y1 ts := by rw [hY1]; exact RS_w h hX.1 rfl hflr hX.2.1
      have hI1 := FIP_c hI h hD hX hfr1 (fun a ha => Or.inr (Or.inl (List.mem_singleton.mp ha)))
      have hm1 : FLm Y1 P'.2.2.2.2.2.1 X kd st g := by
        have := FLm_k (more := []) hm hfr1.2.2
        rw [List.append_nil] at this
        exact this
      dsimp only
      rw [rb_eat]
      refine CR_g (rdr_o hS1.2.1) ?_
      refine CR_b (tk_ok (s := 6) hS1 (by omega) (by omega)) hI1.1 PS_rd hD ?_
      rintro ⟨t2, ts2⟩ v Y2 hS2 hf2 hf02 _
      dsimp only at hS2 ⊢
      have hI2 := FIP_t hI1 hS1 hD hf2
      have hX2 := FLX_r1 hX1 hS1.2.1 hf2
      have hm2 : FLm Y2 P'.2.2.2.2.2.1 X kd st g := by
        have := FLm_k (more := []) hm1 hf2.2.2
        rw [List.append_nil] at this
        exact this
      exact CR_s (s := ((P'.1, P.2.1 ++ [g], P'.2.2), ts2)) (RS_le hS2 (by omega)) hf02 ⟨xs', _, fl_end hP hR0 hI2 hS2.1 hX2 hv4 hv5 hm2 hrng hw h24⟩
    show CR rd pl Y (PS rd pl l) W WE (cb90_175 n (cf90_175 n fu) rd (nI P.2.1.length) fl (nI i) Y') _ _ _
    unfold cb90_175
    by_cases hz : i = 101
    · rw [if_pos (show (100 : Int32) < nI i by rw [hz]; decide), hz, show 101 - 101 = 0 from rfl]
      rw [hz] at fin
      exact fin
    · rw [if_neg (show ¬ (100 : Int32) < nI i by rw [show (100 : Int32) = nI 100 from rfl, nI_ltI (by omega) (by omega)]; omega)]
      refine cr_hd h.2.1 (by omega) fun _ => ?_
      rw [show 101 - i = (101 - (i + 1)) + 1 by omega]
      unfold sRulL
      by_cases hc : (hd ts).1 = 21
      · rw [if_pos (decide_eq_true (by omega)), if_pos hc, rb_assoc]
        refine CR_y (rdr_p h.2.1) (CR_y rfl (CR_y (yR_of (r := some (l 6)) hK.1.1 rfl) (CR_y rfl (CR_g (lsx_o hl6) (CR_y (lsx_n hl6) (CR_g (rdr_o h.2.1) ?_))))))
        dsimp only
        refine CR_b (fw_ok (hv := P'.2.2.2.1.length) (mo := 100) h (by rw [hlen6]) rfl (by omega) (by omega) (by omega) (by omega)) hI.1 PS_rd hD ?_
        rintro ts1 v Y1 hS1 hf1 hf01 ⟨i1, i2, i3⟩
        have hI1 := FIP_t hI h hD hf1
        have hX1 := FLX_r1 hX h.2.1 hf1
        have hm1 : FLm Y1 P'.2.2.2.2.2.1 X kd st g := by
          have := FLm_k (more := []) hm hf1.2.2
          rw [List.append_nil] at this
          exact this
        have hKN : KN Y1 fl (A 1) g.2.1 := KN_of hX1 hm1.1 hm1.2.2.1 hm1.2.2.2.1 hm1.2.1
        refine CR_g (rdr_o hS1.2.1) ?_
        rw [rb_assoc]
        refine ru_ok (P := P') (W := W) (f := P.2.1.length) (li := -1) (k := g.2.1) (RS_le hS1 (by omega)) hI1.2.1 hKN (fun j hj => hI1.2.2.2.2.2.2.2.2.2.2.2.2 1 j (by omega) (by omega) hj) h24 i3 hn hE hI1.1 hD (PS_s (fun a ha => by
          rcases List.mem_cons.mp ha with d | ha
          · exact Or.inl d
          rcases List.mem_cons.mp ha with d | ha
          · exact Or.inr (Or.inl d)
          rcases List.mem_cons.mp ha with d | ha
          · exact Or.inr (Or.inr ⟨6, by omega, d⟩)
          · exact Or.inr (Or.inr ⟨7, by omega, List.mem_singleton.mp ha⟩))) ?_
        intro Y3 ts3 R sp q x7 r more hS3 hf3 hf03 hP3 hR1 hR2 hsp
        dsimp only
        rw [nI_1]
        obtain ⟨c1, c2, c3, c4, c5, c6, ⟨rs, c7, c7'⟩, ⟨mo, c8⟩, c9, c10, c11, c12, c13⟩ := hI1
        have hS4 : okS rd pl l Y1 [rd, pl, l 6, l 7] := fun a ha => by
          rcases List.mem_cons.mp ha with d | ha
          · exact Or.inl d
          rcases List.mem_cons.mp ha with d | ha
          · exact Or.inr (Or.inl d)
          rcases List.mem_cons.mp ha with d | ha
          · exact Or.inr (Or.inr (Or.inl ⟨6, by omega, d⟩))
          · exact Or.inr (Or.inr (Or.inl ⟨7, by omega, List.mem_singleton.mp ha⟩))
        obtain ⟨q1, q2⟩ := FLX_ok hX1 c13 c2 hS1 hS4
        refine rll_ok hP hR0 hw h24 hn hE fu (i + 1) (P' := addR (setSp (setPt P' q) sp) R) (by omega) (by omega) hS3 ⟨hf03, hP3, c3, c4, c5, c6, ⟨rs ++ [R], ?_, ?_⟩, ⟨mo ++ more, ?_⟩, ?_, ?_, c11, c12, c13⟩ ⟨kd, st, er, X, v4, v5, FLX_k hX1 hf3 q1 q2, hv4, hv5, ?_, ?_⟩
        · show P'.2.2.2.1 ++ [R] = _
          rw [c7, List.append_assoc]
        · intro r' hr'
          rcases List.mem_append.mp hr' with d | d
          · exact c7' r' d
          · rw [List.mem_singleton.mp d]; exact ⟨hR1, hR2⟩
        · show sp = _
          rw [hsp, c8, List.append_assoc]
        · rw [upL_n (by omega), upL_n (by omega)]; exact c9
        · rw [upL_n (by omega), upL_n (by omega)]; exact c10
        · show FLm Y3 sp X kd st g
          rw [hsp]
          exact FLm_k hm1 hf3.2.2
        · show RNG (P'.2.2.2.1 ++ [R]) _ fr (P'.2.2.2.1 ++ [R]).length
          exact RNG_grow hrng ⟨hR1, hR2⟩
      · rw [if_neg (by rw [decide_eq_false (by omega)]; decide), if_neg hc, rb_inr]
        exact fin
/-- needs, then rules -/
theorem ndl_ok {kk : Nat × List (List Int32)} {d : Srv} {of : Int32} (hP : PLN Y pl l rc sq bd P xs) (hR0 : RS rd pl W2 Y ts0) (h24 : P.2.1.length < 24) (hn : 6002 ≤ n) (hE : W ≤ WE + 50) : ∀ (fu i : Nat) {Y' : zY} {ts : List Tk} {ns : List (Tk × Tk)}, i ≤ 5 → 5 - i < fu → RS rd pl W Y' ts → FIP Y Y' rd pl l rc sq P P' xs xs' w fl A → FST Y' fl A fr P P' (w, kk, ns, d, of) → CR rd pl Y (PS rd pl l) W WE (cf90_144 n fu rd (nI P.2.1.length) fl (nI i) Y') (rb (sNedL (5 - i) ns ts) fun ns => rb (sRulL P.2.1.length kk 101 P' ns.2) (fgE P (w, kk, ns.1, d, of))) (fun z => z.2) (fun Y1 z _ => ∃ xs' bd', PLN Y1 pl l rc sq bd' z.1 xs')
  | 0, i, Y', ts, ns, _, h, _, _, _ => by omega
  | fu + 1, i, Y', ts, ns, hi, hfu, h, hI, hF => by
    have hD := hR0.1.2
    have hW := h.2.2
    have hlt := rdr_len h.2.1
    have fin : CR rd pl Y (PS rd pl l) W WE (cb90_173 n rd (nI P.2.1.length) fl (nI i) Y') (rb (sRulL P.2.1.length kk 101 P' ts) (fgE P (w, kk, ns, d, of))) (fun z => z.2) (fun Y1 z _ => ∃ xs' bd', PLN Y1 pl l rc sq bd' z.1 xs') := by
      unfold cb90_173
      exact rll_ok (g := (w, kk, ns, d, of)) hP hR0 rfl h24 hn hE n 0 (by omega) (by omega) h hI hF
    show CR rd pl Y (PS rd pl l) W WE (cb90_144 n (cf90_144 n fu) rd (nI P.2.1.length) fl (nI i) Y') _ _ _
    unfold cb90_144
    by_cases hz : i = 5
    · rw [if_pos (show (4 : Int32) < nI i by rw [hz]; decide), hz, show 5 - 5 = 0 from rfl]
      rw [hz] at fin
      exact fin
    · rw [if_neg (show ¬ (4 : Int32) < nI i by rw [show (4 : Int32) = nI 4 from rfl, nI_ltI (by omega) (by omega)]; omega)]
      refine cr_hd h.2.1 (by omega) fun _ => ?_
      rw [show 5 - i = (5 - (i + 1)) + 1 by omega]
      unfold sNedL
      by_cases hc : (hd ts).1 = 20
      · rw [if_pos (decide_eq_true (by omega)), if_pos hc, rb_assoc]
        obtain ⟨kd, st, er, X, v4, v5, hX, hv4, hv5, hm, hrng⟩ := hF
        obtain ⟨m1, m2, m3, m4, m5, m6, m7, m8⟩ := hm
        refine CR_g (rdr_o h.2.1) ?_
        refine CR_b (nd_ok h hX m5 m6 m7 hc (by omega)) hI.1 (fun a ha => by
          rcases List.mem_cons.mp ha with e | ha
          · exact Or.inl (PS_m.mpr (Or.inl e))
          rcases List.mem_cons.mp ha with e | ha
          · exact Or.inr (by rw [e]; exact hI.2.2.2.2.2.2.2.2.2.2.2.1 2 (by omega) (by omega))
          · exact Or.inr (by rw [List.mem_singleton.mp ha]; exact hI.2.2.2.2.2.2.2.2.2.2.2.1 3 (by omega) (by omega))) hD ?_
        rintro ⟨ns', ts1⟩ v Y1 hS1 hf1 hf01 ⟨x2, x3, b1, b2, b3, b4⟩
        dsimp only at hS1 b1 b2 b3 b4 ⊢
        have hI1 := FIP_c hI h hD hX hf1 (fun a ha => by
          rcases List.mem_cons.mp ha with e | ha
          · exact Or.inl e
          rcases List.mem_cons.mp ha with e | ha
          · exact Or.inr (Or.inr ⟨2, by omega, by omega, e⟩)
          · exact Or.inr (Or.inr ⟨3, by omega, by omega, List.mem_singleton.mp ha⟩))
        rw [nI_1]
        have hm8 : RSv Y1 P'.2.2.2.2.2.1 st d := by
          have := RSv_k (more := []) hf1.2.2 m8
          rw [List.append_nil] at this
          exact this
        refine ndl_ok hP hR0 h24 hn hE fu (i + 1) (by omega) (by omega) hS1 hI1 ⟨kd, st, er, _, v4, v5, b1, hv4, hv5, ⟨m1, m2, ?_, m4, ?_, ?_, b4, hm8⟩, hrng⟩
        · rw [upL_n (by omega), upL_n (by omega)]; exact AL_imp (fun x y => RNm_k hf1.2.2) m3
        · rw [upL_n (by omega), upL_s]; exact b2
        · rw [upL_s]; exact b3
      · rw [if_neg (by rw [decide_eq_false (by omega)]; decide), if_neg hc, rb_inr]
        exact fin
end
end ZKB

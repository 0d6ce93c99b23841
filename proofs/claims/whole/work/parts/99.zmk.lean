/-! THE LAW: the other four sorts, its step, its loop -/
section ZMK
section
variable {n w i : Nat} {xs : List Int32} {X : zX} {h : zH} {Y : zY} {s : St} {v : Int64} {r23 : Option Nat → Nat → Nat → Nat → Int32 → zH → Option (Int32 × zH)}
/-- between the calls, where no number is handed out -/
def WU (xs : List Int32) (h : zH) (s : St) (q : Out) (w : Nat) : Prop := ∃ Y X v, Rep (MM xs X) h Y ∧ CSt Y 139 q.2.2 ∧ RSt X s ∧ OUT Y 231 v ∧ wY Y ≤ w ∧ h.1.length ≤ 139 + h.2.1
theorem law_v {β : Type} {b : β} {q : Out} {F : zH → Option (β × zH)} {G : zX → Option (β × zX)} (hW : WU xs h s q w) (hG : ∀ X, RSt X s → ∃ X1, G X = some (b, X1) ∧ X1.1 0 = q.1 ∧ RSt X1 q.2.2) (hr : ∀ X p, Fx h → G X = some p → F (mq h X) = some (p.1, mq h p.2)) : ∃ (h2 : zH), isO h 159 11 = true ∧ F h = some (b, h2) ∧ isO h2 159 11 = true ∧ f183 n 159 h2 = some (q.1, h2) ∧ WS xs h2 q.2.2 w := by
  obtain ⟨Y, X, v, R1, c1, hX, o1, w1, l1⟩ := hW
  obtain ⟨X2, g1, g2, g3⟩ := hG X hX
  have hfx := rep_Fx R1
  have e := hr X _ hfx g1
  rw [rep_mq R1] at e
  have R2 : Rep (MM xs X2) (mq h X2) Y := rep_m R1
  refine ⟨mq h X2, isR R1, e, isR R2, ?_, Y, X2, v, R2, c1, g3, o1, w1, ?_⟩
  · have := r183 (n := n) (X := X2) (p := (X2.1 0, X2)) hfx rfl
    rw [this, g2]
  · rw [show (mq h X2).1.length = h.1.length from mp_len hfx.1]; exact l1
theorem law_w {q : Out} {F : zH → Option (Int32 × zH)} {G : zX → Option (Int32 × zX)} {K : zH → Option (Int32 × zH)} (hW : WU xs h s q w) (hG : ∀ X, RSt X s → RGv (G X) q) (hr : ∀ X p, Fx h → G X = some p → F (mq h X) = some (p.1, mq h p.2)) : ∃ h2, WS xs h2 q.2.2 w ∧ (zgd (isO h 159 11) <| (F h).bind fun p32 =>
      if q.2.1 = p32.1 then K p32.2 else some (0, p32.2)) = K h2 := by
  obtain ⟨h2, a1, a2, a3, a4, a5⟩ := law_v (n := 0) hW hG hr
  refine ⟨h2, a5, zgd_eq a1 (bnd_eq a2 ?_)⟩
  dsimp only
  rw [if_pos rfl]
theorem cls_o (hR : Rep (MM xs X) h Y) (hC : CSt Y 139 s) : isO h 139 10 = true := k_isO hR (CSt_is hC)
theorem go_load (hW : WS xs h s w) (hn : 6002 ≤ n) : GO xs w i s r23 (
      zgd (isO h 139 10) <|
      (f9 n 139 h).bind fun p58 =>
      zgd (isO p58.2 159 11) <|
      (f188 n 159 p58.2).bind fun p61 =>
      if p58.1 = p61.1 then
        b0_963 n r23 (some 0) 139 159 231 (nI i) p61.2
      else
        some (0, p61.2)) := by
  obtain ⟨Y, X, v, hR, hC, hX, ho, hw, hl⟩ := hW
  obtain ⟨Y1, e, c1, o1, w1, l1⟩ := ld_c (n := n) (ou := 231) hC hn
  have cst : wY Y1 ≤ w + 820 + 420 * s.1.length := by omega
  obtain ⟨h1, f1, R1⟩ := k9 hR e
  have hu := zC_uq (t9 (d := 80) (by omega) f1 rfl)
  have hW1 : WU xs h1 s (sLd s) (w + 820 + 420 * s.1.length) := by
    refine ⟨Y1, X, v, R1, c1, hX, o1 v ho, cst, ?_⟩
    · obtain ⟨p1, p2⟩ := hu
      dsimp only at p1 p2
      omega
  obtain ⟨h2, w2, e2⟩ := law_w (F := fun h => f188 n 159 h) (G := fun X => g188 n X) (K := fun h => b0_963 n r23 (some 0) 139 159 231 (nI i) h) hW1 (fun X hX => ld_r hX hn) (fun X p hf e => r188 hf e)
  refine ⟨h2, _, _, w2, ?_, ?_⟩
  · have := ld_ln (s := s)
    omega
  · exact zgd_eq (cls_o hR hC) (bnd_eq f1 e2)
theorem go_flt (hW : WS xs h s w) (hn : 6002 ≤ n) : GO xs w i s r23 (
      zgd (isO h 139 10) <|
      (f121 n 139 h).bind fun p58 =>
      zgd (isO p58.2 159 11) <|
      (f241 n 159 p58.2).bind fun p61 =>
      if p58.1 = p61.1 then
        b0_963 n r23 (some 0) 139 159 231 (nI i) p61.2
      else
        some (0, p61.2)) := by
  obtain ⟨Y, X, v, hR, hC, hX, ho, hw, hl⟩ := hW
  obtain ⟨Y1, e, c1, o1, w1⟩ : ∃ Y1, c121 n 139 Y = some (s.2.2.2.1, Y1) ∧ CSt Y1 139 s ∧ (∀ v, OUT Y 231 v → OUT Y1 231 v) ∧ wY Y1 ≤ w := ⟨Y, flt_c hC, hC, fun _ h => h, hw⟩
  have cst : wY Y1 ≤ w := w1
  obtain ⟨h1, f1, R1⟩ := k121 hR e
  have hu := zC_uq (t121 (d := 80) (by omega) f1 rfl)
  have hW1 : WU xs h1 s (((0, s.2.2.2.1, s) : Out)) (w) := by
    refine ⟨Y1, X, v, R1, c1, hX, o1 v ho, cst, ?_⟩
    · obtain ⟨p1, p2⟩ := hu
      dsimp only at p1 p2
      omega
  obtain ⟨h2, w2, e2⟩ := law_w (F := fun h => f241 n 159 h) (G := fun X => g241 n X) (K := fun h => b0_963 n r23 (some 0) 139 159 231 (nI i) h) hW1 (fun X hX => flt_r hX) (fun X p hf e => r241 hf e)
  refine ⟨h2, _, _, w2, ?_, ?_⟩
  · show w + 420 * s.1.length ≤ _
    omega
  · exact zgd_eq (cls_o hR hC) (bnd_eq f1 e2)
theorem go_fgt (hW : WS xs h s w) (hn : 6002 ≤ n) : GO xs w i s r23 (
      zgd (isO h 139 10) <|
      (f122 n 139 h).bind fun p58 =>
      zgd (isO p58.2 159 11) <|
      (f244 n 159 p58.2).bind fun p61 =>
      if p58.1 = p61.1 then
        b0_963 n r23 (some 0) 139 159 231 (nI i) p61.2
      else
        some (0, p61.2)) := by
  obtain ⟨Y, X, v, hR, hC, hX, ho, hw, hl⟩ := hW
  obtain ⟨Y1, e, c1, o1, w1, l1⟩ := fgt_c (n := n) (ou := 231) hC
  have cst : wY Y1 ≤ w := by omega
  obtain ⟨h1, f1, R1⟩ := k122 hR e
  have hu := zC_uq (t122 (d := 80) (by omega) f1 rfl)
  have hW1 : WU xs h1 s (sForget s) (w) := by
    refine ⟨Y1, X, v, R1, c1, hX, o1 v ho, cst, ?_⟩
    · obtain ⟨p1, p2⟩ := hu
      dsimp only at p1 p2
      omega
  obtain ⟨h2, w2, e2⟩ := law_w (F := fun h => f244 n 159 h) (G := fun X => g244 n X) (K := fun h => b0_963 n r23 (some 0) 139 159 231 (nI i) h) hW1 (fun X hX => fgt_r hX) (fun X p hf e => r244 hf e)
  refine ⟨h2, _, _, w2, ?_, ?_⟩
  · show w + 420 * s.1.length ≤ _
    omega
  · exact zgd_eq (cls_o hR hC) (bnd_eq f1 e2)
theorem go_end (hW : WS xs h s w) (hx : xs.length ≤ 3072) (hi : i + 6 ≤ xs.length) : GO xs w i s r23 (
      (aI h 0 (nI i + 1)).bind fun x42 =>
      (f127 n (some 139) x42 h).bind fun p45 =>
      (aI p45.2 0 (nI i + 1)).bind fun x46 =>
      zgd (isO p45.2 159 11) <|
      (f186 n 159 x46 p45.2).bind fun p50 =>
      zgd (isO p50.2 159 11) <|
      (f183 n 159 p50.2).bind fun p53 =>
      if p53.1 = p45.1 then
        b0_963 n r23 (some 0) 139 159 231 (nI i) p53.2
      else
        some (0, p53.2)) := by
  obtain ⟨Y, X, v, hR, hC, hX, ho, hw, hl⟩ := hW
  obtain ⟨Y1, e, c1, o1, w1, l1⟩ := end_c (n := n) (ou := 231) (y := xs.getD (i + 1) 0) hC
  obtain ⟨h1, f1, R1⟩ := k127 hR e
  have hu := zC_uq (t127 (d := 80) (by omega) f1 rfl)
  have hW1 : WU xs h1 s (sEnd (xs.getD (i + 1) 0) s) (w + 22) := by
    refine ⟨Y1, X, v, R1, c1, hX, o1 v ho, by omega, ?_⟩
    obtain ⟨p1, p2⟩ := hu
    dsimp only at p1 p2
    omega
  obtain ⟨h2, a1, a2, a3, a4, a5⟩ := law_v (n := n) (F := fun h => f186 n 159 (xs.getD (i + 1) 0) h) (G := fun X => g186 n (xs.getD (i + 1) 0) X) hW1 (fun X hX => end_r hX) (fun X p hf e => r186 hf e)
  refine ⟨h2, _, _, a5, ?_, ?_⟩
  · have : (sEnd (xs.getD (i + 1) 0) s).2.2.1.length ≤ s.1.length := by
      unfold sEnd
      refine ln_i (fun _ => ?_) (fun _ => Nat.le_refl _)
      show (s.1.take _).length ≤ _
      rw [List.length_take]
      omega
    omega
  · refine bnd_eq (sI1 hR hx hi) (bnd_eq f1 (bnd_eq (sI1 R1 hx hi) (zgd_eq a1 (bnd_eq a2 (zgd_eq a3 (bnd_eq a4 ?_))))))
    dsimp only
    rw [if_pos rfl]
    rfl
theorem go_none (hW : WS xs h s w) : GO xs w i s r23 (b0_963 n r23 (some 0) 139 159 231 (nI i) h) := ⟨h, s, w, hW, by omega, rfl⟩
theorem law_step (hW : WS xs h s w) (hx : xs.length ≤ 3072) (hi : i + 6 ≤ xs.length) (hn : 6002 ≤ n) (hm : h.1.length + 2 ≤ n) : GO xs w i s r23 (b0_23 n r23 (some 0) 139 159 231 (nI i) h) := by
  obtain ⟨Y, X, v, hR, hC, hX, ho, hw, hl⟩ := id hW
  unfold b0_23
  rw [Option.bind_some, scr_N hR, Option.bind_some, if_neg (show ¬ nI xs.length - 6 < nI i by rw [show (6 : Int32) = nI 6 from rfl, nI_sub_le (by omega)]; exact nI_nlt (by omega) (by omega)), sI0 hR hx hi, Option.bind_some]
  by_cases c0 : (xs.getD i 0 &&& 15) = 0
  · rw [if_pos c0]; exact go_feed hW hx hi hn hm
  rw [if_neg c0]
  by_cases c1 : (xs.getD i 0 &&& 15) = 1
  · rw [if_pos c1]; exact go_end hW hx hi
  rw [if_neg c1]
  by_cases c2 : (xs.getD i 0 &&& 15) = 2
  · rw [if_pos c2]; exact go_load hW hn
  rw [if_neg c2]
  by_cases c3 : (xs.getD i 0 &&& 15) = 3
  · rw [if_pos c3]; exact go_flt hW hn
  rw [if_neg c3]
  by_cases c4 : (xs.getD i 0 &&& 15) = 4
  · rw [if_pos c4]; exact go_cnt hW hx hi hn hm
  rw [if_neg c4]
  by_cases c5 : (xs.getD i 0 &&& 15) = 5
  · rw [if_pos c5]; exact go_know hW hx hi hn hm
  rw [if_neg c5]
  by_cases c6 : (xs.getD i 0 &&& 15) = 6
  · rw [if_pos c6]; exact go_fgt hW hn
  rw [if_neg c6]
  by_cases c7 : (xs.getD i 0 &&& 15) = 7
  · rw [if_pos c7]; exact go_find hW hx hi hn hm
  rw [if_neg c7]
  by_cases c8 : (xs.getD i 0 &&& 15) = 8
  · rw [if_pos c8]; exact go_name hW hx hi hn hm
  rw [if_neg c8]
  by_cases c9 : (xs.getD i 0 &&& 15) = 9
  · rw [if_pos c9]; exact go_flag hW hx hi hn hm
  rw [if_neg c9]
  by_cases c10 : (xs.getD i 0 &&& 15) = 10
  · rw [if_pos c10]; exact go_valu hW hx hi hn hm
  rw [if_neg c10]
  by_cases c11 : (xs.getD i 0 &&& 15) = 11
  · rw [if_pos c11]; exact go_why hW hx hi hn hm
  rw [if_neg c11]
  by_cases c12 : (xs.getD i 0 &&& 15) = 12
  · rw [if_pos c12]; exact go_isin hW hx hi hn hm
  rw [if_neg c12]
  by_cases c13 : (xs.getD i 0 &&& 15) = 13
  · rw [if_pos c13]; exact go_need hW hx hi hn hm
  rw [if_neg c13]
  by_cases c14 : (xs.getD i 0 &&& 15) = 14
  · rw [if_pos c14]; exact go_ordr hW hx hi hn hm
  rw [if_neg c14]
  by_cases c15 : (xs.getD i 0 &&& 15) = 15
  · rw [if_pos c15]; exact go_shar hW hx hi hn hm
  rw [if_neg c15]
  exact go_none hW
/-- the law's loop answers true, within the room -/
theorem law_l (hx : xs.length ≤ 3072) (hn : 1000000 ≤ n) : ∀ (fu i : Nat) (h : zH) (s : St) (w : Nat), WS xs h s w → w + 420 * s.1.length + 2010 * (xs.length - i) ≤ 7000000 → xs.length - i < fu → i ≤ xs.length → ∃ h' : zH, f0_23 n fu (some 0) 139 159 231 (nI i) h = some (1, h') ∧ h'.2.1 ≤ 601024 ∧ h'.2.2 ≤ 7293034
  | 0, i, h, s, w, _, _, hf, _ => by omega
  | fu + 1, i, h, s, w, hW, hc, hf, hi => by
    show ∃ h' : zH, b0_23 n (f0_23 n fu) (some 0) 139 159 231 (nI i) h = some (1, h') ∧ _
    obtain ⟨Y, X, v, hR, hC, hX, ho, hw, hl⟩ := id hW
    have hw2 : wY Y = 16 * h.2.1 + h.2.2 := by
      obtain ⟨own, r1, r2, _⟩ := hR
      unfold wY
      rw [r2]
    by_cases c : i + 6 ≤ xs.length
    · obtain ⟨h2, s2, w2, g1, g2, g3⟩ := law_step (n := n) (r23 := f0_23 n fu) hW hx c (by omega) (by omega)
      rw [g3, show nI i + 6 = nI (i + 6) from nI_add i 6]
      exact law_l hx hn fu (i + 6) h2 s2 w2 g1 (by omega) (by omega) c
    · refine ⟨h, ?_, by omega, by omega⟩
      unfold b0_23
      rw [Option.bind_some, scr_N hR, Option.bind_some, if_pos]
      rw [Int32.lt_iff_toInt_lt, nI_toInt (by omega), Int32.toInt_sub, nI_toInt (by omega), show (6 : Int32).toInt = 6 from rfl, Int.bmod_eq_of_le (by omega) (by omega)]
      omega
end
end ZMK

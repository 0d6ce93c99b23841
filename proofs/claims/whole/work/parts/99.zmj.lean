/-! THE LAW: its step, sort by sort -/
section ZMJ
section
variable {n w i : Nat} {xs : List Int32} {X : zX} {h : zH} {Y : zY} {s : St} {v : Int64} {r23 : Option Nat → Nat → Nat → Nat → Int32 → zH → Option (Int32 × zH)}
/-- the step goes on, and its cost -/
def GO (xs : List Int32) (w i : Nat) (s : St) (r23 : Option Nat → Nat → Nat → Nat → Int32 → zH → Option (Int32 × zH)) (o : Option (Int32 × zH)) : Prop := ∃ h2 s2 w2, WS xs h2 s2 w2 ∧ w2 + 420 * s2.1.length ≤ w + 420 * s.1.length + 12060 ∧ o = r23 (some 0) 139 159 231 (nI i + 6) h2
theorem sI1 (hR : Rep (MM xs X) h Y) (hx : xs.length ≤ 3072) (hi : i + 6 ≤ xs.length) : aI h 0 (nI i + 1) = some (xs.getD (i + 1) 0) := scr_I (j := 1) hR hx (by omega)
theorem sI2 (hR : Rep (MM xs X) h Y) (hx : xs.length ≤ 3072) (hi : i + 6 ≤ xs.length) : aI h 0 (nI i + 2) = some (xs.getD (i + 2) 0) := scr_I (j := 2) hR hx (by omega)
theorem sI3 (hR : Rep (MM xs X) h Y) (hx : xs.length ≤ 3072) (hi : i + 6 ≤ xs.length) : aI h 0 (nI i + 3) = some (xs.getD (i + 3) 0) := scr_I (j := 3) hR hx (by omega)
theorem sI4 (hR : Rep (MM xs X) h Y) (hx : xs.length ≤ 3072) (hi : i + 6 ≤ xs.length) : aI h 0 (nI i + 4) = some (xs.getD (i + 4) 0) := scr_I (j := 4) hR hx (by omega)
theorem sI5 (hR : Rep (MM xs X) h Y) (hx : xs.length ≤ 3072) (hi : i + 6 ≤ xs.length) : aI h 0 (nI i + 5) = some (xs.getD (i + 5) 0) := scr_I (j := 5) hR hx (by omega)
theorem sI0 (hR : Rep (MM xs X) h Y) (hx : xs.length ≤ 3072) (hi : i + 6 ≤ xs.length) : aI h 0 (nI i) = some (xs.getD i 0) := by
  have := scr_I (i := 0) (j := i) hR hx (by omega)
  rw [nI_add, Nat.zero_add] at this
  exact this
theorem ln_i {p : Prop} {d : Decidable p} {a b : Out} {k : Nat} (h1 : p → a.2.2.1.length ≤ k) (h2 : ¬ p → b.2.2.1.length ≤ k) : (@ite _ p d a b).2.2.1.length ≤ k := by
  by_cases h : p
  · rw [if_pos h]; exact h1 h
  · rw [if_neg h]; exact h2 h
theorem nam_ln {y1 y2 y3 : Int32} : (sName y1 y2 y3 s).2.2.1.length ≤ s.1.length := by
  unfold sName
  refine ln_i (fun _ => ln_i (fun _ => ?_) (fun _ => Nat.le_refl _)) (fun _ => Nat.le_refl _)
  unfold nmW
  exact ln_i (fun _ => Nat.le_refl _) (fun _ => ln_i (fun _ => Nat.le_refl _) (fun _ => Nat.le_refl _))
theorem kno_ln : (sKnow s).2.2.1.length = 0 := by
  unfold sKnow
  split
  · rfl
  · split <;> rfl
theorem ld_ln : (sLd s).2.2.1.length = 0 := by
  unfold sLd
  split <;> rfl
theorem go_feed (hW : WS xs h s w) (hx : xs.length ≤ 3072) (hi : i + 6 ≤ xs.length) (hn : 6002 ≤ n) (hm : h.1.length + 2 ≤ n) : GO xs w i s r23 (
      (aI h 0 (nI i + 1)).bind fun a1 =>
      (aI h 0 (nI i + 2)).bind fun a2 =>
      (aI h 0 (nI i + 3)).bind fun a3 =>
      (aI h 0 (nI i + 4)).bind fun a4 =>
      (aI h 0 (nI i + 5)).bind fun a5 =>
      (f124 n (some 139) a1 a2 a3 a4 a5 (some 231) h).bind fun p19 =>
      (aI p19.2 0 (nI i + 1)).bind fun b1 =>
      (aI p19.2 0 (nI i + 2)).bind fun b2 =>
      (aI p19.2 0 (nI i + 3)).bind fun b3 =>
      (aI p19.2 0 (nI i + 4)).bind fun b4 =>
      (aI p19.2 0 (nI i + 5)).bind fun b5 =>
      zgd (isO p19.2 159 11) <|
      (f184 n 159 b1 b2 b3 b4 b5 p19.2).bind fun p32 =>
      zgd (isO p32.2 159 11) <|
      (f183 n 159 p32.2).bind fun p35 =>
      if p35.1 = p19.1 then
        if p19.1 = 0 then
          (aJ p35.2 231 0).bind fun x38 =>
          if (lg_cmp x38 p32.1.toInt64) = 0 then
            b0_221 n r23 (some 0) 139 159 231 (nI i) p19.1 p32.1 p35.2
          else
            some (0, p35.2)
        else
          b0_221 n r23 (some 0) 139 159 231 (nI i) p19.1 p32.1 p35.2
      else
        some (0, p35.2)) := by
  obtain ⟨Y, X, v, hR, hC, hX, ho, hw, hl⟩ := hW
  have hN : Y.2.1 + 2 ≤ n := by rw [rep_n hR]; exact hm
  obtain ⟨h1, e1, w1⟩ := law_c (xs := xs) (F := fun h => f124 n (some 139) (xs.getD (i + 1) 0) (xs.getD (i + 2) 0) (xs.getD (i + 3) 0) (xs.getD (i + 4) 0) (xs.getD (i + 5) 0) (some 231) h) hX hw hl (feed_w hC ho hn) (fun p e => k124 hR e) (fun p e => zC_uq (t124 (d := 80) (by omega) e rfl))
  obtain ⟨h2, w2, e2⟩ := law_t (n := n) (F := fun h => f184 n 159 (xs.getD (i + 1) 0) (xs.getD (i + 2) 0) (xs.getD (i + 3) 0) (xs.getD (i + 4) 0) (xs.getD (i + 5) 0) h) (G := fun X => g184 n (xs.getD (i + 1) 0) (xs.getD (i + 2) 0) (xs.getD (i + 3) 0) (xs.getD (i + 4) 0) (xs.getD (i + 5) 0) X) (K := fun r h => b0_221 n r23 (some 0) 139 159 231 (nI i) (sFeed (xs.getD (i + 1) 0) (xs.getD (i + 2) 0) (xs.getD (i + 3) 0) (xs.getD (i + 4) 0) (xs.getD (i + 5) 0) s).1 r h) w1 (fun X hX => fd_r hX hn) (fun X p hf e => r184 hf e)
  obtain ⟨Y1, X1, v1, hR1, _⟩ := w1
  refine ⟨h2, _, _, w2, ?_, ?_⟩
  · have : (sFeed (xs.getD (i + 1) 0) (xs.getD (i + 2) 0) (xs.getD (i + 3) 0) (xs.getD (i + 4) 0) (xs.getD (i + 5) 0) s).2.2.1.length ≤ s.1.length + 20 := by
      unfold sFeed
      refine ln_i (fun _ => by show s.1.length ≤ _; omega) (fun _ => ?_)
      show (s.1 ++ fed _ _ _ _ _).length ≤ _
      rw [List.length_append]
      exact Nat.le_refl _
    omega
  · exact bnd_eq (sI1 hR hx hi) (bnd_eq (sI2 hR hx hi) (bnd_eq (sI3 hR hx hi) (bnd_eq (sI4 hR hx hi) (bnd_eq (sI5 hR hx hi) (bnd_eq e1 (bnd_eq (sI1 hR1 hx hi) (bnd_eq (sI2 hR1 hx hi) (bnd_eq (sI3 hR1 hx hi) (bnd_eq (sI4 hR1 hx hi) (bnd_eq (sI5 hR1 hx hi) (e2)))))))))))
theorem go_cnt (hW : WS xs h s w) (hx : xs.length ≤ 3072) (hi : i + 6 ≤ xs.length) (hn : 6002 ≤ n) (hm : h.1.length + 2 ≤ n) : GO xs w i s r23 (
      (aI h 0 (nI i + 1)).bind fun a1 =>
      (f129 n (some 139) a1 (some 231) h).bind fun p19 =>
      (aI p19.2 0 (nI i + 1)).bind fun b1 =>
      zgd (isO p19.2 159 11) <|
      (f242 n 159 b1 p19.2).bind fun p32 =>
      zgd (isO p32.2 159 11) <|
      (f183 n 159 p32.2).bind fun p35 =>
      if p35.1 = p19.1 then
        if p19.1 = 0 then
          (aJ p35.2 231 0).bind fun x38 =>
          if (lg_cmp x38 p32.1.toInt64) = 0 then
            b0_339 n r23 (some 0) 139 159 231 (nI i) p19.1 p32.1 p35.2
          else
            some (0, p35.2)
        else
          b0_339 n r23 (some 0) 139 159 231 (nI i) p19.1 p32.1 p35.2
      else
        some (0, p35.2)) := by
  obtain ⟨Y, X, v, hR, hC, hX, ho, hw, hl⟩ := hW
  have hN : Y.2.1 + 2 ≤ n := by rw [rep_n hR]; exact hm
  obtain ⟨h1, e1, w1⟩ := law_c (xs := xs) (F := fun h => f129 n (some 139) (xs.getD (i + 1) 0) (some 231) h) hX hw hl (cnt_w hC ho) (fun p e => k129 hR e) (fun p e => zC_uq (t129 (d := 80) (by omega) e rfl))
  obtain ⟨h2, w2, e2⟩ := law_t (n := n) (F := fun h => f242 n 159 (xs.getD (i + 1) 0) h) (G := fun X => g242 n (xs.getD (i + 1) 0) X) (K := fun r h => b0_339 n r23 (some 0) 139 159 231 (nI i) (sCount (xs.getD (i + 1) 0) s).1 r h) w1 (fun X hX => cnt_r hX) (fun X p hf e => r242 hf e)
  obtain ⟨Y1, X1, v1, hR1, _⟩ := w1
  refine ⟨h2, _, _, w2, ?_, ?_⟩
  · have : (sCount (xs.getD (i + 1) 0) s).2.2.1.length ≤ s.1.length := by
      unfold sCount
      exact ln_i (fun _ => Nat.le_refl _) (fun _ => Nat.le_refl _)
    omega
  · exact bnd_eq (sI1 hR hx hi) (bnd_eq e1 (bnd_eq (sI1 hR1 hx hi) (e2)))
theorem go_know (hW : WS xs h s w) (hx : xs.length ≤ 3072) (hi : i + 6 ≤ xs.length) (hn : 6002 ≤ n) (hm : h.1.length + 2 ≤ n) : GO xs w i s r23 (

      (f131 n (some 139)  (some 231) h).bind fun p19 =>

      zgd (isO p19.2 159 11) <|
      (f243 n 159  p19.2).bind fun p32 =>
      zgd (isO p32.2 159 11) <|
      (f183 n 159 p32.2).bind fun p35 =>
      if p35.1 = p19.1 then
        if p19.1 = 0 then
          (aJ p35.2 231 0).bind fun x38 =>
          if (lg_cmp x38 p32.1.toInt64) = 0 then
            b0_383 n r23 (some 0) 139 159 231 (nI i) p19.1 p32.1 p35.2
          else
            some (0, p35.2)
        else
          b0_383 n r23 (some 0) 139 159 231 (nI i) p19.1 p32.1 p35.2
      else
        some (0, p35.2)) := by
  obtain ⟨Y, X, v, hR, hC, hX, ho, hw, hl⟩ := hW
  have hN : Y.2.1 + 2 ≤ n := by rw [rep_n hR]; exact hm
  obtain ⟨h1, e1, w1⟩ := law_c (xs := xs) (F := fun h => f131 n (some 139)  (some 231) h) hX hw hl (know_w hC ho hn) (fun p e => k131 hR e) (fun p e => zC_uq (t131 (d := 80) (by omega) e rfl))
  obtain ⟨h2, w2, e2⟩ := law_t (n := n) (F := fun h => f243 n 159  h) (G := fun X => g243 n  X) (K := fun r h => b0_383 n r23 (some 0) 139 159 231 (nI i) (sKnow s).1 r h) w1 (fun X hX => kno_r hX hn) (fun X p hf e => r243 hf e)
  obtain ⟨Y1, X1, v1, hR1, _⟩ := w1
  refine ⟨h2, _, _, w2, ?_, ?_⟩
  · have := kno_ln (s := s)
    omega
  · exact bnd_eq e1 (e2)
theorem go_find (hW : WS xs h s w) (hx : xs.length ≤ 3072) (hi : i + 6 ≤ xs.length) (hn : 6002 ≤ n) (hm : h.1.length + 2 ≤ n) : GO xs w i s r23 (
      (aI h 0 (nI i + 1)).bind fun a1 =>
      (f136 n (some 139) a1 (some 231) h).bind fun p19 =>
      (aI p19.2 0 (nI i + 1)).bind fun b1 =>
      zgd (isO p19.2 159 11) <|
      (f245 n 159 b1 p19.2).bind fun p32 =>
      zgd (isO p32.2 159 11) <|
      (f183 n 159 p32.2).bind fun p35 =>
      if p35.1 = p19.1 then
        if p19.1 = 0 then
          (aJ p35.2 231 0).bind fun x38 =>
          if (lg_cmp x38 p32.1.toInt64) = 0 then
            b0_452 n r23 (some 0) 139 159 231 (nI i) p19.1 p32.1 p35.2
          else
            some (0, p35.2)
        else
          b0_452 n r23 (some 0) 139 159 231 (nI i) p19.1 p32.1 p35.2
      else
        some (0, p35.2)) := by
  obtain ⟨Y, X, v, hR, hC, hX, ho, hw, hl⟩ := hW
  have hN : Y.2.1 + 2 ≤ n := by rw [rep_n hR]; exact hm
  obtain ⟨h1, e1, w1⟩ := law_c (xs := xs) (F := fun h => f136 n (some 139) (xs.getD (i + 1) 0) (some 231) h) hX hw hl (find_w hC ho hn) (fun p e => k136 hR e) (fun p e => zC_uq (t136 (d := 80) (by omega) e rfl))
  obtain ⟨h2, w2, e2⟩ := law_t (n := n) (F := fun h => f245 n 159 (xs.getD (i + 1) 0) h) (G := fun X => g245 n (xs.getD (i + 1) 0) X) (K := fun r h => b0_452 n r23 (some 0) 139 159 231 (nI i) (sFind (xs.getD (i + 1) 0) s).1 r h) w1 (fun X hX => fnd_r hX hn) (fun X p hf e => r245 hf e)
  obtain ⟨Y1, X1, v1, hR1, _⟩ := w1
  refine ⟨h2, _, _, w2, ?_, ?_⟩
  · unfold sFind
    by_cases c : inB (xs.getD (i + 1) 0) 3 = true
    · rw [if_pos c]
      show w + (52 + 2 * s.1.length) + 420 * 0 ≤ _
      omega
    · rw [if_neg c]
      obtain ⟨_, _, _, _, _, _, _, _, ⟨_, _, _, _, _, hT, _⟩, _⟩ := hC
      show w + (52 + 2 * s.1.length) + 420 * s.1.length ≤ _
      omega
  · exact bnd_eq (sI1 hR hx hi) (bnd_eq e1 (bnd_eq (sI1 hR1 hx hi) (e2)))
theorem go_name (hW : WS xs h s w) (hx : xs.length ≤ 3072) (hi : i + 6 ≤ xs.length) (hn : 6002 ≤ n) (hm : h.1.length + 2 ≤ n) : GO xs w i s r23 (
      (aI h 0 (nI i + 1)).bind fun a1 =>
      (aI h 0 (nI i + 2)).bind fun a2 =>
      (aI h 0 (nI i + 3)).bind fun a3 =>
      (f141 n (some 139) a1 a2 a3 (some 231) h).bind fun p19 =>
      (aI p19.2 0 (nI i + 1)).bind fun b1 =>
      (aI p19.2 0 (nI i + 2)).bind fun b2 =>
      (aI p19.2 0 (nI i + 3)).bind fun b3 =>
      zgd (isO p19.2 159 11) <|
      (f246 n 159 b1 b2 b3 p19.2).bind fun p32 =>
      zgd (isO p32.2 159 11) <|
      (f183 n 159 p32.2).bind fun p35 =>
      if p35.1 = p19.1 then
        if p19.1 = 0 then
          (aJ p35.2 231 0).bind fun x38 =>
          if (lg_cmp x38 p32.1.toInt64) = 0 then
            b0_532 n r23 (some 0) 139 159 231 (nI i) p19.1 p32.1 p35.2
          else
            some (0, p35.2)
        else
          b0_532 n r23 (some 0) 139 159 231 (nI i) p19.1 p32.1 p35.2
      else
        some (0, p35.2)) := by
  obtain ⟨Y, X, v, hR, hC, hX, ho, hw, hl⟩ := hW
  have hN : Y.2.1 + 2 ≤ n := by rw [rep_n hR]; exact hm
  obtain ⟨h1, e1, w1⟩ := law_c (xs := xs) (F := fun h => f141 n (some 139) (xs.getD (i + 1) 0) (xs.getD (i + 2) 0) (xs.getD (i + 3) 0) (some 231) h) hX hw hl (name_w hC ho) (fun p e => k141 hR e) (fun p e => zC_uq (t141 (d := 80) (by omega) e rfl))
  obtain ⟨h2, w2, e2⟩ := law_t (n := n) (F := fun h => f246 n 159 (xs.getD (i + 1) 0) (xs.getD (i + 2) 0) (xs.getD (i + 3) 0) h) (G := fun X => g246 n (xs.getD (i + 1) 0) (xs.getD (i + 2) 0) (xs.getD (i + 3) 0) X) (K := fun r h => b0_532 n r23 (some 0) 139 159 231 (nI i) (sName (xs.getD (i + 1) 0) (xs.getD (i + 2) 0) (xs.getD (i + 3) 0) s).1 r h) w1 (fun X hX => nam_r hX) (fun X p hf e => r246 hf e)
  obtain ⟨Y1, X1, v1, hR1, _⟩ := w1
  refine ⟨h2, _, _, w2, ?_, ?_⟩
  · have := nam_ln (s := s) (y1 := xs.getD (i + 1) 0) (y2 := xs.getD (i + 2) 0) (y3 := xs.getD (i + 3) 0)
    omega
  · exact bnd_eq (sI1 hR hx hi) (bnd_eq (sI2 hR hx hi) (bnd_eq (sI3 hR hx hi) (bnd_eq e1 (bnd_eq (sI1 hR1 hx hi) (bnd_eq (sI2 hR1 hx hi) (bnd_eq (sI3 hR1 hx hi) (e2)))))))
theorem go_flag (hW : WS xs h s w) (hx : xs.length ≤ 3072) (hi : i + 6 ≤ xs.length) (hn : 6002 ≤ n) (hm : h.1.length + 2 ≤ n) : GO xs w i s r23 (
      (aI h 0 (nI i + 1)).bind fun a1 =>
      (aI h 0 (nI i + 2)).bind fun a2 =>
      (f143 n (some 139) a1 a2 (some 231) h).bind fun p19 =>
      (aI p19.2 0 (nI i + 1)).bind fun b1 =>
      (aI p19.2 0 (nI i + 2)).bind fun b2 =>
      zgd (isO p19.2 159 11) <|
      (f247 n 159 b1 b2 p19.2).bind fun p32 =>
      zgd (isO p32.2 159 11) <|
      (f183 n 159 p32.2).bind fun p35 =>
      if p35.1 = p19.1 then
        if p19.1 = 0 then
          (aJ p35.2 231 0).bind fun x38 =>
          if (lg_cmp x38 p32.1.toInt64) = 0 then
            b0_600 n r23 (some 0) 139 159 231 (nI i) p19.1 p32.1 p35.2
          else
            some (0, p35.2)
        else
          b0_600 n r23 (some 0) 139 159 231 (nI i) p19.1 p32.1 p35.2
      else
        some (0, p35.2)) := by
  obtain ⟨Y, X, v, hR, hC, hX, ho, hw, hl⟩ := hW
  have hN : Y.2.1 + 2 ≤ n := by rw [rep_n hR]; exact hm
  obtain ⟨h1, e1, w1⟩ := law_c (xs := xs) (F := fun h => f143 n (some 139) (xs.getD (i + 1) 0) (xs.getD (i + 2) 0) (some 231) h) hX hw hl (flag_w hC ho) (fun p e => k143 hR e) (fun p e => zC_uq (t143 (d := 80) (by omega) e rfl))
  obtain ⟨h2, w2, e2⟩ := law_t (n := n) (F := fun h => f247 n 159 (xs.getD (i + 1) 0) (xs.getD (i + 2) 0) h) (G := fun X => g247 n (xs.getD (i + 1) 0) (xs.getD (i + 2) 0) X) (K := fun r h => b0_600 n r23 (some 0) 139 159 231 (nI i) (sFlag (xs.getD (i + 1) 0) (xs.getD (i + 2) 0) s).1 r h) w1 (fun X hX => flg_r hX hn) (fun X p hf e => r247 hf e)
  obtain ⟨Y1, X1, v1, hR1, _⟩ := w1
  refine ⟨h2, _, _, w2, ?_, ?_⟩
  · have : (sFlag (xs.getD (i + 1) 0) (xs.getD (i + 2) 0) s).2.2.1.length ≤ s.1.length := by
      unfold sFlag
      exact ln_i (fun _ => Nat.le_refl _) (fun _ => Nat.le_refl _)
    omega
  · exact bnd_eq (sI1 hR hx hi) (bnd_eq (sI2 hR hx hi) (bnd_eq e1 (bnd_eq (sI1 hR1 hx hi) (bnd_eq (sI2 hR1 hx hi) (e2)))))
theorem go_valu (hW : WS xs h s w) (hx : xs.length ≤ 3072) (hi : i + 6 ≤ xs.length) (hn : 6002 ≤ n) (hm : h.1.length + 2 ≤ n) : GO xs w i s r23 (
      (aI h 0 (nI i + 1)).bind fun a1 =>
      (aI h 0 (nI i + 2)).bind fun a2 =>
      (f146 n (some 139) a1 a2 (some 231) h).bind fun p19 =>
      (aI p19.2 0 (nI i + 1)).bind fun b1 =>
      (aI p19.2 0 (nI i + 2)).bind fun b2 =>
      zgd (isO p19.2 159 11) <|
      (f250 n 159 b1 b2 p19.2).bind fun p32 =>
      zgd (isO p32.2 159 11) <|
      (f183 n 159 p32.2).bind fun p35 =>
      if p35.1 = p19.1 then
        if p19.1 = 0 then
          (aJ p35.2 231 0).bind fun x38 =>
          if (lg_cmp x38 p32.1.toInt64) = 0 then
            b0_668 n r23 (some 0) 139 159 231 (nI i) p19.1 p32.1 p35.2
          else
            some (0, p35.2)
        else
          b0_668 n r23 (some 0) 139 159 231 (nI i) p19.1 p32.1 p35.2
      else
        some (0, p35.2)) := by
  obtain ⟨Y, X, v, hR, hC, hX, ho, hw, hl⟩ := hW
  have hN : Y.2.1 + 2 ≤ n := by rw [rep_n hR]; exact hm
  obtain ⟨h1, e1, w1⟩ := law_c (xs := xs) (F := fun h => f146 n (some 139) (xs.getD (i + 1) 0) (xs.getD (i + 2) 0) (some 231) h) hX hw hl (valu_w hC ho hn hN) (fun p e => k146 hR e) (fun p e => zC_uq (t146 (d := 80) (by omega) e rfl))
  obtain ⟨h2, w2, e2⟩ := law_t (n := n) (F := fun h => f250 n 159 (xs.getD (i + 1) 0) (xs.getD (i + 2) 0) h) (G := fun X => g250 n (xs.getD (i + 1) 0) (xs.getD (i + 2) 0) X) (K := fun r h => b0_668 n r23 (some 0) 139 159 231 (nI i) (sValue (xs.getD (i + 1) 0) (xs.getD (i + 2) 0) s).1 r h) w1 (fun X hX => val_r hX (CSt_KB hC) hn) (fun X p hf e => r250 hf e)
  obtain ⟨Y1, X1, v1, hR1, _⟩ := w1
  refine ⟨h2, _, _, w2, ?_, ?_⟩
  · have : (sValue (xs.getD (i + 1) 0) (xs.getD (i + 2) 0) s).2.2.1.length ≤ s.1.length := by
      unfold sValue
      exact ln_i (fun _ => Nat.le_refl _) (fun _ => Nat.le_refl _)
    omega
  · exact bnd_eq (sI1 hR hx hi) (bnd_eq (sI2 hR hx hi) (bnd_eq e1 (bnd_eq (sI1 hR1 hx hi) (bnd_eq (sI2 hR1 hx hi) (e2)))))
theorem go_why (hW : WS xs h s w) (hx : xs.length ≤ 3072) (hi : i + 6 ≤ xs.length) (hn : 6002 ≤ n) (hm : h.1.length + 2 ≤ n) : GO xs w i s r23 (
      (aI h 0 (nI i + 1)).bind fun a1 =>
      (f171 n (some 139) a1 (some 231) h).bind fun p19 =>
      (aI p19.2 0 (nI i + 1)).bind fun b1 =>
      zgd (isO p19.2 159 11) <|
      (f266 n 159 b1 p19.2).bind fun p32 =>
      zgd (isO p32.2 159 11) <|
      (f183 n 159 p32.2).bind fun p35 =>
      if p35.1 = p19.1 then
        if p19.1 = 0 then
          (aJ p35.2 231 0).bind fun x38 =>
          if (lg_cmp x38 p32.1.toInt64) = 0 then
            b0_724 n r23 (some 0) 139 159 231 (nI i) p19.1 p32.1 p35.2
          else
            some (0, p35.2)
        else
          b0_724 n r23 (some 0) 139 159 231 (nI i) p19.1 p32.1 p35.2
      else
        some (0, p35.2)) := by
  obtain ⟨Y, X, v, hR, hC, hX, ho, hw, hl⟩ := hW
  have hN : Y.2.1 + 2 ≤ n := by rw [rep_n hR]; exact hm
  obtain ⟨h1, e1, w1⟩ := law_c (xs := xs) (F := fun h => f171 n (some 139) (xs.getD (i + 1) 0) (some 231) h) hX hw hl (why_w hC ho) (fun p e => k171 hR e) (fun p e => zC_uq (t171 (d := 80) (by omega) e rfl))
  obtain ⟨h2, w2, e2⟩ := law_t (n := n) (F := fun h => f266 n 159 (xs.getD (i + 1) 0) h) (G := fun X => g266 n (xs.getD (i + 1) 0) X) (K := fun r h => b0_724 n r23 (some 0) 139 159 231 (nI i) (sWhy (xs.getD (i + 1) 0) s).1 r h) w1 (fun X hX => why_r hX) (fun X p hf e => r266 hf e)
  obtain ⟨Y1, X1, v1, hR1, _⟩ := w1
  refine ⟨h2, _, _, w2, ?_, ?_⟩
  · have : (sWhy (xs.getD (i + 1) 0) s).2.2.1.length ≤ s.1.length := by
      unfold sWhy
      exact ln_i (fun _ => Nat.le_refl _) (fun _ => Nat.le_refl _)
    omega
  · exact bnd_eq (sI1 hR hx hi) (bnd_eq e1 (bnd_eq (sI1 hR1 hx hi) (e2)))
theorem go_isin (hW : WS xs h s w) (hx : xs.length ≤ 3072) (hi : i + 6 ≤ xs.length) (hn : 6002 ≤ n) (hm : h.1.length + 2 ≤ n) : GO xs w i s r23 (
      (aI h 0 (nI i + 1)).bind fun a1 =>
      (f173 n (some 139) a1 (some 231) h).bind fun p19 =>
      (aI p19.2 0 (nI i + 1)).bind fun b1 =>
      zgd (isO p19.2 159 11) <|
      (f267 n 159 b1 p19.2).bind fun p32 =>
      zgd (isO p32.2 159 11) <|
      (f183 n 159 p32.2).bind fun p35 =>
      if p35.1 = p19.1 then
        if p19.1 = 0 then
          (aJ p35.2 231 0).bind fun x38 =>
          if (lg_cmp x38 p32.1.toInt64) = 0 then
            b0_780 n r23 (some 0) 139 159 231 (nI i) p19.1 p32.1 p35.2
          else
            some (0, p35.2)
        else
          b0_780 n r23 (some 0) 139 159 231 (nI i) p19.1 p32.1 p35.2
      else
        some (0, p35.2)) := by
  obtain ⟨Y, X, v, hR, hC, hX, ho, hw, hl⟩ := hW
  have hN : Y.2.1 + 2 ≤ n := by rw [rep_n hR]; exact hm
  obtain ⟨h1, e1, w1⟩ := law_c (xs := xs) (F := fun h => f173 n (some 139) (xs.getD (i + 1) 0) (some 231) h) hX hw hl (isin_w hC ho hn hN) (fun p e => k173 hR e) (fun p e => zC_uq (t173 (d := 80) (by omega) e rfl))
  obtain ⟨h2, w2, e2⟩ := law_t (n := n) (F := fun h => f267 n 159 (xs.getD (i + 1) 0) h) (G := fun X => g267 n (xs.getD (i + 1) 0) X) (K := fun r h => b0_780 n r23 (some 0) 139 159 231 (nI i) (sIsIn (xs.getD (i + 1) 0) s).1 r h) w1 (fun X hX => isn_r hX hn) (fun X p hf e => r267 hf e)
  obtain ⟨Y1, X1, v1, hR1, _⟩ := w1
  refine ⟨h2, _, _, w2, ?_, ?_⟩
  · have : (sIsIn (xs.getD (i + 1) 0) s).2.2.1.length ≤ s.1.length := by
      unfold sIsIn
      exact ln_i (fun _ => Nat.le_refl _) (fun _ => Nat.le_refl _)
    omega
  · exact bnd_eq (sI1 hR hx hi) (bnd_eq e1 (bnd_eq (sI1 hR1 hx hi) (e2)))
theorem go_need (hW : WS xs h s w) (hx : xs.length ≤ 3072) (hi : i + 6 ≤ xs.length) (hn : 6002 ≤ n) (hm : h.1.length + 2 ≤ n) : GO xs w i s r23 (
      (aI h 0 (nI i + 1)).bind fun a1 =>
      (f175 n (some 139) a1 (some 231) h).bind fun p19 =>
      (aI p19.2 0 (nI i + 1)).bind fun b1 =>
      zgd (isO p19.2 159 11) <|
      (f268 n 159 b1 p19.2).bind fun p32 =>
      zgd (isO p32.2 159 11) <|
      (f183 n 159 p32.2).bind fun p35 =>
      if p35.1 = p19.1 then
        if p19.1 = 0 then
          (aJ p35.2 231 0).bind fun x38 =>
          if (lg_cmp x38 p32.1.toInt64) = 0 then
            b0_836 n r23 (some 0) 139 159 231 (nI i) p19.1 p32.1 p35.2
          else
            some (0, p35.2)
        else
          b0_836 n r23 (some 0) 139 159 231 (nI i) p19.1 p32.1 p35.2
      else
        some (0, p35.2)) := by
  obtain ⟨Y, X, v, hR, hC, hX, ho, hw, hl⟩ := hW
  have hN : Y.2.1 + 2 ≤ n := by rw [rep_n hR]; exact hm
  obtain ⟨h1, e1, w1⟩ := law_c (xs := xs) (F := fun h => f175 n (some 139) (xs.getD (i + 1) 0) (some 231) h) hX hw hl (need_w hC ho) (fun p e => k175 hR e) (fun p e => zC_uq (t175 (d := 80) (by omega) e rfl))
  obtain ⟨h2, w2, e2⟩ := law_t (n := n) (F := fun h => f268 n 159 (xs.getD (i + 1) 0) h) (G := fun X => g268 n (xs.getD (i + 1) 0) X) (K := fun r h => b0_836 n r23 (some 0) 139 159 231 (nI i) (sNds (xs.getD (i + 1) 0) s).1 r h) w1 (fun X hX => nds_r hX hn) (fun X p hf e => r268 hf e)
  obtain ⟨Y1, X1, v1, hR1, _⟩ := w1
  refine ⟨h2, _, _, w2, ?_, ?_⟩
  · have : (sNds (xs.getD (i + 1) 0) s).2.2.1.length ≤ s.1.length := by
      unfold sNds
      exact ln_i (fun _ => Nat.le_refl _) (fun _ => Nat.le_refl _)
    omega
  · exact bnd_eq (sI1 hR hx hi) (bnd_eq e1 (bnd_eq (sI1 hR1 hx hi) (e2)))
theorem go_ordr (hW : WS xs h s w) (hx : xs.length ≤ 3072) (hi : i + 6 ≤ xs.length) (hn : 6002 ≤ n) (hm : h.1.length + 2 ≤ n) : GO xs w i s r23 (
      (aI h 0 (nI i + 1)).bind fun a1 =>
      (f177 n (some 139) a1 (some 231) h).bind fun p19 =>
      (aI p19.2 0 (nI i + 1)).bind fun b1 =>
      zgd (isO p19.2 159 11) <|
      (f269 n 159 b1 p19.2).bind fun p32 =>
      zgd (isO p32.2 159 11) <|
      (f183 n 159 p32.2).bind fun p35 =>
      if p35.1 = p19.1 then
        if p19.1 = 0 then
          (aJ p35.2 231 0).bind fun x38 =>
          if (lg_cmp x38 p32.1.toInt64) = 0 then
            b0_892 n r23 (some 0) 139 159 231 (nI i) p19.1 p32.1 p35.2
          else
            some (0, p35.2)
        else
          b0_892 n r23 (some 0) 139 159 231 (nI i) p19.1 p32.1 p35.2
      else
        some (0, p35.2)) := by
  obtain ⟨Y, X, v, hR, hC, hX, ho, hw, hl⟩ := hW
  have hN : Y.2.1 + 2 ≤ n := by rw [rep_n hR]; exact hm
  obtain ⟨h1, e1, w1⟩ := law_c (xs := xs) (F := fun h => f177 n (some 139) (xs.getD (i + 1) 0) (some 231) h) hX hw hl (ordr_w hC ho) (fun p e => k177 hR e) (fun p e => zC_uq (t177 (d := 80) (by omega) e rfl))
  obtain ⟨h2, w2, e2⟩ := law_t (n := n) (F := fun h => f269 n 159 (xs.getD (i + 1) 0) h) (G := fun X => g269 n (xs.getD (i + 1) 0) X) (K := fun r h => b0_892 n r23 (some 0) 139 159 231 (nI i) (sOrder (xs.getD (i + 1) 0) s).1 r h) w1 (fun X hX => ord_r hX) (fun X p hf e => r269 hf e)
  obtain ⟨Y1, X1, v1, hR1, _⟩ := w1
  refine ⟨h2, _, _, w2, ?_, ?_⟩
  · have : (sOrder (xs.getD (i + 1) 0) s).2.2.1.length ≤ s.1.length := by
      unfold sOrder
      exact ln_i (fun _ => Nat.le_refl _) (fun _ => Nat.le_refl _)
    omega
  · exact bnd_eq (sI1 hR hx hi) (bnd_eq e1 (bnd_eq (sI1 hR1 hx hi) (e2)))
theorem go_shar (hW : WS xs h s w) (hx : xs.length ≤ 3072) (hi : i + 6 ≤ xs.length) (hn : 6002 ≤ n) (hm : h.1.length + 2 ≤ n) : GO xs w i s r23 (
      (aI h 0 (nI i + 1)).bind fun a1 =>
      (aI h 0 (nI i + 2)).bind fun a2 =>
      (f179 n (some 139) a1 a2 (some 231) h).bind fun p19 =>
      (aI p19.2 0 (nI i + 1)).bind fun b1 =>
      (aI p19.2 0 (nI i + 2)).bind fun b2 =>
      zgd (isO p19.2 159 11) <|
      (f270 n 159 b1 b2 p19.2).bind fun p32 =>
      zgd (isO p32.2 159 11) <|
      (f183 n 159 p32.2).bind fun p35 =>
      if p35.1 = p19.1 then
        if p19.1 = 0 then
          (aJ p35.2 231 0).bind fun x38 =>
          if (lg_cmp x38 p32.1.toInt64) = 0 then
            b0_960 n r23 (some 0) 139 159 231 (nI i) p19.1 p32.1 p35.2
          else
            some (0, p35.2)
        else
          b0_960 n r23 (some 0) 139 159 231 (nI i) p19.1 p32.1 p35.2
      else
        some (0, p35.2)) := by
  obtain ⟨Y, X, v, hR, hC, hX, ho, hw, hl⟩ := hW
  have hN : Y.2.1 + 2 ≤ n := by rw [rep_n hR]; exact hm
  obtain ⟨h1, e1, w1⟩ := law_c (xs := xs) (F := fun h => f179 n (some 139) (xs.getD (i + 1) 0) (xs.getD (i + 2) 0) (some 231) h) hX hw hl (shar_w hC ho hn) (fun p e => k179 hR e) (fun p e => zC_uq (t179 (d := 80) (by omega) e rfl))
  obtain ⟨h2, w2, e2⟩ := law_t (n := n) (F := fun h => f270 n 159 (xs.getD (i + 1) 0) (xs.getD (i + 2) 0) h) (G := fun X => g270 n (xs.getD (i + 1) 0) (xs.getD (i + 2) 0) X) (K := fun r h => b0_960 n r23 (some 0) 139 159 231 (nI i) (sShare (xs.getD (i + 1) 0) (xs.getD (i + 2) 0) s).1 r h) w1 (fun X hX => shr_r hX hn) (fun X p hf e => r270 hf e)
  obtain ⟨Y1, X1, v1, hR1, _⟩ := w1
  refine ⟨h2, _, _, w2, ?_, ?_⟩
  · have : (sShare (xs.getD (i + 1) 0) (xs.getD (i + 2) 0) s).2.2.1.length ≤ s.1.length := by
      unfold sShare
      exact ln_i (fun _ => Nat.le_refl _) (fun _ => Nat.le_refl _)
    omega
  · exact bnd_eq (sI1 hR hx hi) (bnd_eq (sI2 hR hx hi) (bnd_eq e1 (bnd_eq (sI1 hR1 hx hi) (bnd_eq (sI2 hR1 hx hi) (e2)))))
end
end ZMJ

/-! THE LAW: one step of it, with the class and the reference side by side -/
section ZMI
/-- what the law must find unchanged: the fixed objects, the reference -/
def MM (xs : List Int32) (X : zX) (a : Nat) : Option zO := if a < 139 then zg (zro0 xs) a else zg (mO X.1 X.2.1 X.2.2) (a - 159)
def WS (xs : List Int32) (h : zH) (s : St) (w : Nat) : Prop := ∃ Y X v, Rep (MM xs X) h Y ∧ CSt Y 139 s ∧ RSt X s ∧ OUT Y 231 v ∧ wY Y ≤ w ∧ h.1.length ≤ 139 + h.2.1
/-- between the class's call and the reference's -/
def WT (xs : List Int32) (h : zH) (s : St) (q : Out) (w : Nat) : Prop := ∃ Y X v, Rep (MM xs X) h Y ∧ CSt Y 139 q.2.2 ∧ RSt X s ∧ OUT Y 231 v ∧ (q.1 = 0 → v = q.2.1.toInt64) ∧ wY Y ≤ w ∧ h.1.length ≤ 139 + h.2.1
section
variable {n w w' i j : Nat} {xs : List Int32} {X X2 : zX} {h h1 : zH} {Y : zY} {s : St} {q : Out} {v : Int64}
theorem mq_at (hl : 231 ≤ h.1.length) (k : Nat) : zg (mq h X).1 k = if 159 ≤ k ∧ k ≤ 230 then zg (mO X.1 X.2.1 X.2.2) (k - 159) else zg h.1 k := by
  by_cases c : 159 ≤ k ∧ k ≤ 230
  · rw [if_pos c]; exact mp_at hl c.1 c.2
  · rw [if_neg c]; exact mp_oth hl (by omega)
theorem rep_mq (hR : Rep (MM xs X) h Y) : mq h X = h := by
  obtain ⟨own, r1, r2, r3, r4, _⟩ := hR
  refine Prod.ext (List.ext_getElem? fun k => ?_) rfl
  rw [← zg_eq, ← zg_eq, mq_at r3]
  by_cases c : 159 ≤ k ∧ k ≤ 230
  · rw [if_pos c, r4 k (Or.inr c)]
    unfold MM
    rw [if_neg (by omega)]
  · rw [if_neg c]
theorem rep_Fx (hR : Rep (MM xs X) h Y) : Fx h := by
  obtain ⟨own, r1, r2, r3, r4, _⟩ := hR
  refine ⟨r3, fun a ha => ?_⟩
  rw [r4 (a + 1) (Or.inl (by omega))]
  unfold MM
  rw [if_pos (by omega)]
  rfl
theorem rep_m (hR : Rep (MM xs X) h Y) : Rep (MM xs X2) (mq h X2) Y := by
  obtain ⟨own, r1, r2, r3, r4, r5, r6, r7, r8, r9, r10⟩ := hR
  have hl : (mq h X2).1.length = h.1.length := mp_len r3
  refine ⟨own, by rw [hl]; exact r1, r2, by rw [hl]; exact r3, fun a ha => ?_, fun a o ho => ⟨celO_tr (r5 a o ho).1 ?_ (fun hh => ?_) rfl, (r5 a o ho).2⟩, r6, r7, r8, r9, ?_⟩
  · rw [mq_at r3]
    unfold MM
    by_cases c : 159 ≤ a ∧ a ≤ 230
    · rw [if_pos c, if_neg (by omega)]
    · have : a < 139 := ha.resolve_right c
      rw [if_neg c, if_pos this, r4 a ha]
      unfold MM
      rw [if_pos this]
  · exact (mq_at r3 a).trans (if_neg (r5 a o ho).2)
  · exact (mq_at r3 (own a)).trans (if_neg (r6 a o ho hh).2)
  · rw [mq_at r3, if_neg (by omega)]; exact r10
theorem scr_at (hR : Rep (MM xs X) h Y) : zg h.1 0 = some (.inl (0, zI32 xs)) := by
  obtain ⟨own, r1, r2, r3, r4, _⟩ := hR
  rw [r4 0 (Or.inl (by omega))]
  rfl
theorem scr_N (hR : Rep (MM xs X) h Y) : aN h 0 = some (nI xs.length) := by
  unfold aN
  rw [scr_at hR]
  dsimp only
  rw [List.length_map]
theorem scr_I (hR : Rep (MM xs X) h Y) (hx : xs.length ≤ 3072) (hj : i + j < xs.length) : aI h 0 (nI i + nI j) = some (xs.getD (i + j) 0) := by
  rw [nI_add]
  unfold aI aL
  rw [scr_at hR]
  dsimp only
  rw [decide_eq_false (nI_pos (by omega)), nI_clamp (by omega)]
  show oI (zg (zI32 xs) (i + j)) = _
  rw [zg_I32 (v := xs.getD (i + j) 0) (by rw [zg_eq, List.getD_eq_getElem?_getD, List.getElem?_eq_getElem hj]; rfl)]
  rfl
theorem isR (hR : Rep (MM xs X) h Y) : isO h 159 11 = true := by
  have := m_isO (X := X) (rep_Fx hR)
  rw [rep_mq hR] at this
  exact this
theorem out_at (hR : Rep (MM xs X) h Y) (ho : OUT Y 231 v) : aJ h 231 0 = some v := by
  refine k_aJ hR ?_
  unfold yaJ yal
  rw [ho.1]
  rfl
/-- the class's call -/
theorem law_c {F : zH → Option (Int32 × zH)} {o : Option (Int32 × zY)} (hX : RSt X s) (hw : wY Y ≤ w) (hl : h.1.length ≤ 139 + h.2.1) (hg : CGv Y 139 231 w' o q) (hk : ∀ p, o = some p → ∃ kh1, F h = some (p.1, kh1) ∧ Rep (MM xs X) kh1 p.2) (hu : ∀ p, F h = some p → zUq h p.2) : ∃ h1, F h = some (q.1, h1) ∧ WT xs h1 s q (w + w') := by
  obtain ⟨Y1, v1, e, c1, o1, v2, w1, l1⟩ := hg
  obtain ⟨h1, f1, R1⟩ := hk _ e
  have := hu _ f1
  refine ⟨h1, f1, Y1, X, v1, R1, c1, hX, o1, v2, by omega, ?_⟩
  obtain ⟨p1, p2⟩ := this
  dsimp only at p1 p2
  omega
theorem lg_same : lg_cmp v v = 0 := by
  unfold lg_cmp
  rw [if_neg (by simp), if_pos rfl]
/-- the reference's call -/
theorem law_r {F : zH → Option (Int32 × zH)} {G : zX → Option (Int32 × zX)} (hW : WT xs h s q w) (hG : ∀ X, RSt X s → RGv (G X) q) (hr : ∀ X p, Fx h → G X = some p → F (mq h X) = some (p.1, mq h p.2)) : ∃ (X2 : zX) (h2 : zH), isO h 159 11 = true ∧ F h = some (q.2.1, h2) ∧ isO h2 159 11 = true ∧ X2.1 0 = q.1 ∧ f183 n 159 h2 = some (q.1, h2) ∧ (q.1 = 0 → aJ h2 231 0 = some q.2.1.toInt64) ∧ WS xs h2 q.2.2 w := by
  obtain ⟨Y, X, v, R1, c1, hX, o1, v2, w1, l1⟩ := hW
  obtain ⟨X2, g1, g2, g3⟩ := hG X hX
  have hfx := rep_Fx R1
  have e := hr X _ hfx g1
  rw [rep_mq R1] at e
  have R2 : Rep (MM xs X2) (mq h X2) Y := rep_m R1
  have hf2 := rep_Fx R2
  refine ⟨X2, mq h X2, isR R1, e, isR R2, g2, ?_, fun hq => ?_, Y, X2, v, R2, c1, g3, o1, w1, ?_⟩
  · have := r183 (n := n) (X := X2) (p := (X2.1 0, X2)) hfx rfl
    rw [this, g2]
  · rw [out_at R2 o1, v2 hq]
  · rw [show (mq h X2).1.length = h.1.length from mp_len hfx.1]; exact l1
/-- the reference's call, its fault and its number compared -/
theorem law_t {F : zH → Option (Int32 × zH)} {G : zX → Option (Int32 × zX)} {K : Int32 → zH → Option (Int32 × zH)} (hW : WT xs h s q w) (hG : ∀ X, RSt X s → RGv (G X) q) (hr : ∀ X p, Fx h → G X = some p → F (mq h X) = some (p.1, mq h p.2)) : ∃ h2, WS xs h2 q.2.2 w ∧ (zgd (isO h 159 11) <| (F h).bind fun p32 => zgd (isO p32.2 159 11) <| (f183 n 159 p32.2).bind fun p35 =>
      if p35.1 = q.1 then
        if q.1 = 0 then
          (aJ p35.2 231 0).bind fun x38 =>
          if (lg_cmp x38 p32.1.toInt64) = 0 then
            K p32.1 p35.2
          else
            some (0, p35.2)
        else
          K p32.1 p35.2
      else
        some (0, p35.2)) = K q.2.1 h2 := by
  obtain ⟨X2, h2, a1, a2, a3, a4, a5, a6, a7⟩ := law_r (n := n) hW hG hr
  refine ⟨h2, a7, zgd_eq a1 (bnd_eq a2 (zgd_eq a3 (bnd_eq a5 ?_)))⟩
  dsimp only
  rw [if_pos rfl]
  by_cases c : q.1 = 0
  · rw [if_pos c]
    refine bnd_eq (a6 c) ?_
    rw [if_pos lg_same]
  · rw [if_neg c]
/-- the reference's call, its number compared -/
theorem law_u {F : zH → Option (Int32 × zH)} {G : zX → Option (Int32 × zX)} {K : zH → Option (Int32 × zH)} (hW : WT xs h s q w) (hG : ∀ X, RSt X s → RGv (G X) q) (hr : ∀ X p, Fx h → G X = some p → F (mq h X) = some (p.1, mq h p.2)) : ∃ h2, WS xs h2 q.2.2 w ∧ (zgd (isO h 159 11) <| (F h).bind fun p32 =>
      if q.2.1 = p32.1 then K p32.2 else some (0, p32.2)) = K h2 := by
  obtain ⟨X2, h2, a1, a2, a3, a4, a5, a6, a7⟩ := law_r (n := 0) hW hG hr
  refine ⟨h2, a7, zgd_eq a1 (bnd_eq a2 ?_)⟩
  dsimp only
  rw [if_pos rfl]
end
end ZMI

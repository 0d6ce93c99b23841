/-! THE CLASS: new lists, new flags -/
section ZJZ
section
variable {n : Nat} {Y Y0 Y1 Y2 Z : zY} {a b s p m e fl c : Nat} {S S1 : List Nat} {o o' : yO} {fs : List Value} {v w : Value}
/-- a new list -/
theorem ls_new (hB : BY Y) : ∃ Y1, c6 n Y.2.1 (yN Y 14 3) = some ((), Y1) ∧ BY Y1 ∧ FR Y Y1 [] ∧ wY Y1 = wY Y + 19 ∧ LSX Y1 Y.2.1 [] ∧ Y1.2.1 = Y.2.1 + 1 := by
  have h231 := hB.2.1
  have hN : (yN Y 14 3).1 Y.2.1 = some (oB 14 (zdf 14)) := ya_s
  obtain ⟨Z, hZ⟩ : ∃ Z, Z = yu (yN Y 14 3) Y.2.1 (some (oB 14 [.int 0, .ref 48, .int 0])) := ⟨_, rfl⟩
  have e6 : c6v n Y.2.1 (yN Y 14 3) = some ((), Z) := by
    unfold c6v c7 c8
    dsimp only [Option.bind_some]
    first
      | (refine bnd_eq (x := ((), yu (yN Y 14 3) Y.2.1 (some (oB 14 [.int 0, .null, .int 0])))) ?_ ?_
         · refine bnd_eq (yP_of hN (by omega) rfl rfl) ?_
           rfl
         · refine bnd_eq (yP_of yu_s (by omega) rfl rfl) ?_
           rw [yu_yu, hZ]
           rfl)
  have hZc : Z.1 Y.2.1 = some (oB 14 [.int 0, .ref 48, .int 0]) := by rw [hZ]; exact yu_s
  refine ⟨yu Z Y.2.1 (some (oL [] 0)), ?_, ?_, ?_, ?_, ⟨⟨0, yu_s, by omega⟩, by omega⟩, by rw [hZ]; rfl⟩
  · unfold c6
    refine bnd_eq e6 ?_
    unfold yHL
    dsimp only
    rw [hZc]
    rfl
  · rw [hZ, yu_yu]; exact BY_u (BY_a hB) (by omega) (by show Y.2.1 < Y.2.1 + 1; omega)
  · rw [hZ, yu_yu]; exact FR_n (FR_a hB.2) hB.2 (Nat.le_refl _)
  · rw [hZ, yu_yu]
    show 16 * (Y.2.2.1 + 1) + (Y.2.2.2 + 3) = 16 * Y.2.2.1 + Y.2.2.2 + 19
    omega
/-- a new array of numbers -/
theorem ar_new {L : Nat} {y : Int32} (hB : BY Y) (hy : y = nI L) (hL : L ≤ 65536) : ∃ Y1, yA Y 0 y = some Y1 ∧ BY Y1 ∧ FR Y Y1 [] ∧ wY Y1 = wY Y + 16 + L ∧ Y1.1 Y.2.1 = some (oA 0 (List.replicate L (.int 0))) ∧ Y1.2.1 = Y.2.1 + 1 := by
  subst hy
  refine ⟨_, yA_of (by omega) hL, BY_a hB, FR_a hB.2, ?_, ya_s, rfl⟩
  show 16 * (Y.2.2.1 + 1) + (Y.2.2.2 + L) = 16 * Y.2.2.1 + Y.2.2.2 + 16 + L
  omega
/-- a field of the flag is set -/
theorem fp {k : Nat} (hB : BY Y) (h : Y.1 fl = some (oB 0 fs)) (ha : 139 ≤ fl) (hf : zfit (zty 0 k) v = true) (hk : zg fs k = some w) : ∃ Y1, yP Y fl 0 k v = some Y1 ∧ BY Y1 ∧ FR Y Y1 [fl] ∧ wY Y1 = wY Y ∧ Y1.1 fl = some (oB 0 (zs fs k v)) ∧ Y1.2.1 = Y.2.1 := ⟨_, yP_of h ha hf hk, BY_u hB ha (hB.2.2 _ _ h), FR_u h rfl, rfl, yu_s, rfl⟩
/-- a new flag -/
theorem fl_new {M : Nat} {y1 : Int32} (hB : BY Y) (hy : y1 = nI M) : ∃ Y1 A st, c91 n Y.2.1 y1 (yN Y 0 10) = some ((), Y1) ∧ BY Y1 ∧ FR Y Y1 [] ∧ wY Y1 = wY Y + 178 ∧ FLX Y1 Y.2.1 A 16 st 0 M M (fun _ => []) (List.replicate 4 (.int 0)) (List.replicate 4 (.int 0)) ∧ Y.2.1 < Y1.2.1 ∧ ∀ j, 1 ≤ j → j ≤ 5 → Y.2.1 ≤ A j ∧ A j < Y1.2.1 := by
  subst hy
  have h231 := hB.2.1
  generalize hz : Y.2.1 = z at *
  have hN : (yN Y 0 10).1 z = some (oB 0 (zdf 0)) := by rw [← hz]; exact ya_s
  have hB0 : BY (yN Y 0 10) := BY_a hB
  have hs0 : (yN Y 0 10).2.1 = z + 1 := by rw [← hz]; rfl
  have hw0 : wY (yN Y 0 10) = wY Y + 26 := by
    show 16 * (Y.2.2.1 + 1) + (Y.2.2.2 + 10) = 16 * Y.2.2.1 + Y.2.2.2 + 26
    omega
  have hfr0 : FR Y (yN Y 0 10) [] := FR_a hB.2
  have z139 : 139 ≤ z := by omega
  have hsub : ∀ {Q : zY}, ∀ a ∈ ([] : List Nat), a ∈ [z] ∨ Q.2.1 ≤ a := fun a h => by cases h
  have hsub1 : ∀ {Q : zY}, ∀ a ∈ [z], a ∈ [z] ∨ Q.2.1 ≤ a := fun a h => Or.inl h
  obtain ⟨Z1, a1, a2, a3, a4, a5, a6⟩ := fp (k := 0) (v := .ref 16) hB0 hN z139 rfl rfl
  obtain ⟨Z2, b1, b2, b3, b4, b5, b6⟩ := ls_new (n := n) a2
  have b7 : Z2.1 z = _ := FR_k b3 a5 (by simp)
  rw [a6, hs0] at b5 b1
  obtain ⟨Z3, c1, c2, c3, c4, c5, c6'⟩ := fp (k := 1) (v := .ref (z + 1)) b2 b7 z139 rfl rfl
  obtain ⟨Z4, d1, d2, d3, d4, d5, d6⟩ := ls_new (n := n) c2
  have d7 : Z4.1 z = _ := FR_k d3 c5 (by simp)
  have hs3 : Z3.2.1 = z + 2 := by omega
  rw [hs3] at d5 d1
  obtain ⟨Z5, e1, e2, e3, e4, e5, e6⟩ := fp (k := 2) (v := .ref (z + 2)) d2 d7 z139 rfl rfl
  obtain ⟨Z6, f1, f2, f3, f4, f5, f6⟩ := ls_new (n := n) e2
  have f7 : Z6.1 z = _ := FR_k f3 e5 (by simp)
  have hs5 : Z5.2.1 = z + 3 := by omega
  rw [hs5] at f5 f1
  obtain ⟨Z7, g1, g2, g3, g4, g5, g6⟩ := fp (k := 3) (v := .ref (z + 3)) f2 f7 z139 rfl rfl
  obtain ⟨Z8, i1, i2, i3, i4, i5, i6⟩ := ar_new (L := 4) (y := 4) g2 rfl (by omega)
  have i7 : Z8.1 z = _ := FR_k i3 g5 (by simp)
  have hs7 : Z7.2.1 = z + 4 := by omega
  rw [hs7] at i5
  obtain ⟨Z9, j1, j2, j3, j4, j5, j6⟩ := fp (k := 4) (v := .ref (z + 4)) i2 i7 z139 rfl rfl
  obtain ⟨Z10, k1, k2, k3, k4, k5, k6⟩ := ar_new (L := 4) (y := 4) j2 rfl (by omega)
  have k7 : Z10.1 z = _ := FR_k k3 j5 (by simp)
  have hs9 : Z9.2.1 = z + 5 := by omega
  rw [hs9] at k5
  obtain ⟨Z11, l1, l2, l3, l4, l5, l6⟩ := fp (k := 5) (v := .ref (z + 5)) k2 k7 z139 rfl rfl
  obtain ⟨Z12, m1, m2, m3, m4, m5, m6⟩ := sv_new (n := n) (o1 := none) (o2 := none) (y3 := 1) (L := 1) l2 rfl (Or.inl rfl)
  have m7 : Z12.1 z = _ := FR_k m3 l5 (by simp)
  have hs11 : Z11.2.1 = z + 6 := by omega
  rw [hs11] at m5 m1 m6
  obtain ⟨Z13, n1, n2, n3, n4, n5, n6⟩ := fp (k := 6) (v := .ref (z + 6)) m2 m7 z139 rfl rfl
  obtain ⟨Z14, o1, o2, o3, o4, o5, o6⟩ := fp (k := 7) (v := .int 0) n2 n5 z139 rfl rfl
  obtain ⟨Z15, p1, p2, p3, p4, p5, p6⟩ := fp (k := 8) (v := .int (nI M)) o2 o5 z139 rfl rfl
  obtain ⟨Z16, q1, q2, q3, q4, q5, q6⟩ := fp (k := 9) (v := .int (nI M)) p2 p5 z139 rfl rfl
  -- frames to the end
  have r15 : FR Z15 Z16 [z] := q3
  have r14 : FR Z14 Z16 [z] := FR_T p3 r15 hsub1 o2.2
  have r13 : FR Z13 Z16 [z] := FR_T o3 r14 hsub1 n2.2
  have r12 : FR Z12 Z16 [z] := FR_T n3 r13 hsub1 m2.2
  have r11 : FR Z11 Z16 [z] := FR_T (FR_M m3 (fun a h => by cases h)) r12 hsub1 l2.2
  have r10 : FR Z10 Z16 [z] := FR_T l3 r11 hsub1 k2.2
  have r9 : FR Z9 Z16 [z] := FR_T (FR_M k3 (fun a h => by cases h)) r10 hsub1 j2.2
  have r8 : FR Z8 Z16 [z] := FR_T j3 r9 hsub1 i2.2
  have r7 : FR Z7 Z16 [z] := FR_T (FR_M i3 (fun a h => by cases h)) r8 hsub1 g2.2
  have r6 : FR Z6 Z16 [z] := FR_T g3 r7 hsub1 f2.2
  have r5 : FR Z5 Z16 [z] := FR_T (FR_M f3 (fun a h => by cases h)) r6 hsub1 e2.2
  have r4 : FR Z4 Z16 [z] := FR_T e3 r5 hsub1 d2.2
  have r3 : FR Z3 Z16 [z] := FR_T (FR_M d3 (fun a h => by cases h)) r4 hsub1 c2.2
  have r2 : FR Z2 Z16 [z] := FR_T c3 r3 hsub1 b2.2
  have r1 : FR Z1 Z16 [z] := FR_T (FR_M b3 (fun a h => by cases h)) r2 hsub1 a2.2
  have r0 : FR (yN Y 0 10) Z16 [z] := FR_T a3 r1 hsub1 hB0.2
  have hfin : FR Y Z16 [] := FR_T hfr0 r0 (fun a h => Or.inr (by rw [List.mem_singleton.mp h, hz]; exact Nat.le_refl _)) hB.2
  refine ⟨Z16, fun j => z + j, z + 6, ?_, q2, hfin, ?_, ⟨?_, z139, ?_, by show z + 1 ≠ z + 2; omega, by show z + 1 ≠ z + 3; omega, by show z + 2 ≠ z + 3; omega, FR_k r8 i5 (show z + 4 ∉ [z] by rw [List.mem_singleton]; omega), FR_k r10 k5 (show z + 5 ∉ [z] by rw [List.mem_singleton]; omega), by show z + 4 ≠ z + 5; omega, by show 139 ≤ z + 4; omega, by show 139 ≤ z + 5; omega⟩, by omega, fun j h1 h2 => ⟨by show z ≤ z + j; omega, by show z + j < Z16.2.1; omega⟩⟩
  · unfold c91
    refine bnd_eq a1 ?_
    rw [a6, hs0]
    refine bnd_eq b1 ?_
    dsimp only
    refine bnd_eq c1 ?_
    rw [hs3]
    refine bnd_eq d1 ?_
    dsimp only
    refine bnd_eq e1 ?_
    rw [hs5]
    refine bnd_eq f1 ?_
    dsimp only
    refine bnd_eq g1 ?_
    refine bnd_eq i1 ?_
    rw [hs7]
    refine bnd_eq j1 ?_
    refine bnd_eq k1 ?_
    rw [hs9]
    refine bnd_eq l1 ?_
    rw [hs11]
    refine bnd_eq m1 ?_
    dsimp only
    refine bnd_eq n1 ?_
    refine bnd_eq o1 ?_
    refine bnd_eq p1 ?_
    refine bnd_eq q1 ?_
    rfl
  · omega
  · exact q5
  · intro j h1 h2
    have : j = 1 ∨ j = 2 ∨ j = 3 := by omega
    rcases this with e | e | e
    · subst e; exact LSX_k b5 r2 (show z + 1 ∉ [z] by rw [List.mem_singleton]; omega)
    · subst e; exact LSX_k d5 r4 (show z + 2 ∉ [z] by rw [List.mem_singleton]; omega)
    · subst e; exact LSX_k f5 r6 (show z + 3 ∉ [z] by rw [List.mem_singleton]; omega)
end
end ZJZ

/-! THE CALLS OF THE CLASS: a new plan, load -/
section ZMD
section
variable {n : Nat} {Y Y0 Y1 Y2 : zY} {a b jd k pl rc sq x tp ou w z rd W WE : Nat} {S : List Nat} {K : KL} {vI vW vY vs fs : List Value} {A : Nat → Nat} {ans : Int32} {bs : List Bool} {l : Nat → Nat} {xs : Nat → List Nat} {bd : Nat → Nat} {L : Ldd} {s : St} {T T' : List Int32} {y c v : Int32} {o : yO} {P : Pln} {ts : List Tk}
theorem pl_step (hB : BY Y) (h : Y.1 z = some (oB 4 fs)) (hz : 139 ≤ z) (hf : zfit (zty 4 k) (.ref Y.2.1) = true) (hk : ∃ u, zg fs k = some u) : ∃ Y1, (∀ {α : Type} (F : zY → Option α), ((c6 n Y.2.1 (yN Y 14 3)).bind fun p => (yP p.2 z 4 k (.ref Y.2.1)).bind F) = F Y1) ∧ BY Y1 ∧ FR Y Y1 [z] ∧ wY Y1 = wY Y + 19 ∧ Y1.1 z = some (oB 4 (zs fs k (.ref Y.2.1))) ∧ LSX Y1 Y.2.1 [] ∧ Y1.2.1 = Y.2.1 + 1 := by
  obtain ⟨u, hu⟩ := hk
  obtain ⟨Z, a1, a2, a3, a4, a5, a6⟩ := ls_new (n := n) hB
  have hz1 : Z.1 z = some (oB 4 fs) := FR_k a3 h (by simp)
  have hlt := hB.2.2 _ _ h
  have hf1 : FR Z (yu Z z (some (oB 4 (zs fs k (.ref Y.2.1))))) [z] := FR_u hz1 rfl
  refine ⟨yu Z z (some (oB 4 (zs fs k (.ref Y.2.1)))), fun F => bnd_eq a1 (bnd_eq (yP_of hz1 hz hf hu) rfl), BY_u a2 hz (by omega), FR_T (FR_M a3 (fun a h => by cases h)) hf1 (fun a h => Or.inl h) hB.2, a4, yu_s, LSX_k a5 hf1 (by simp; omega), a6⟩
/-- a new plan -/
theorem pln_new (hB : BY Y) : ∃ Y1 l rc sq bd, c5 n Y.2.1 (yN Y 4 12) = some ((), Y1) ∧ BY Y1 ∧ FR Y Y1 [] ∧ wY Y1 = wY Y + 260 ∧ PLN Y1 Y.2.1 l rc sq bd ([], [], [], [], [], [], 0) (fun _ => []) ∧ NOK ([], [], [], [], [], [], 0) [] ∧ Y.2.1 ≤ rc ∧ Y.2.1 ≤ sq ∧ (∀ j, j < 8 → Y.2.1 ≤ l j) ∧ Y.2.1 < Y1.2.1 ∧ Y1.2.1 = Y.2.1 + 11 := by
  have h231 := hB.2.1
  generalize hz : Y.2.1 = z at *
  have hN : (yN Y 4 12).1 z = some (oB 4 (zdf 4)) := by rw [← hz]; exact ya_s
  have hB0 : BY (yN Y 4 12) := BY_a hB
  have hs0 : (yN Y 4 12).2.1 = z + 1 := by rw [← hz]; rfl
  have hw0 : wY (yN Y 4 12) = wY Y + 28 := by
    show 16 * (Y.2.2.1 + 1) + (Y.2.2.2 + 12) = 16 * Y.2.2.1 + Y.2.2.2 + 28
    omega
  have hfr0 : FR Y (yN Y 4 12) [] := FR_a hB.2
  have z139 : 139 ≤ z := by omega
  obtain ⟨Z0, s0, b0, f0, w0, c0, l0, n0⟩ := pl_step (n := n) (k := 0) hB0 hN z139 rfl ⟨_, rfl⟩
  rw [hs0] at c0 l0 n0
  obtain ⟨Z1, s1, b1, f1, w1, c1, l1, n1⟩ := pl_step (n := n) (k := 1) b0 c0 z139 rfl ⟨_, rfl⟩
  rw [n0] at c1 l1 n1
  obtain ⟨Z2, s2, b2, f2, w2, c2, l2, n2⟩ := pl_step (n := n) (k := 2) b1 c1 z139 rfl ⟨_, rfl⟩
  rw [n1] at c2 l2 n2
  obtain ⟨Z3, s3, b3, f3, w3, c3, l3, n3⟩ := pl_step (n := n) (k := 3) b2 c2 z139 rfl ⟨_, rfl⟩
  rw [n2] at c3 l3 n3
  obtain ⟨Z4, s4, b4, f4, w4, c4, l4, n4⟩ := pl_step (n := n) (k := 4) b3 c3 z139 rfl ⟨_, rfl⟩
  rw [n3] at c4 l4 n4
  obtain ⟨Z5, s5, b5, f5, w5, c5', l5, n5⟩ := pl_step (n := n) (k := 5) b4 c4 z139 rfl ⟨_, rfl⟩
  rw [n4] at c5' l5 n5
  obtain ⟨Z6, s6, b6, f6, w6, c6', l6, n6⟩ := pl_step (n := n) (k := 6) b5 c5' z139 rfl ⟨_, rfl⟩
  rw [n5] at c6' l6 n6
  obtain ⟨Z7, s7, b7, f7, w7, c7', l7, n7⟩ := pl_step (n := n) (k := 7) b6 c6' z139 rfl ⟨_, rfl⟩
  rw [n6] at c7' l7 n7
  -- numbers
  obtain ⟨Z8, hZ8⟩ : ∃ Z8, Z8 = yu Z7 z (some (oB 4 [.ref (z + 1), .ref (z + 1 + 1), .ref (z + 1 + 1 + 1), .ref (z + 1 + 1 + 1 + 1), .ref (z + 1 + 1 + 1 + 1 + 1), .ref (z + 1 + 1 + 1 + 1 + 1 + 1), .ref (z + 1 + 1 + 1 + 1 + 1 + 1 + 1), .ref (z + 1 + 1 + 1 + 1 + 1 + 1 + 1 + 1), .int 0, .int 0, .null, .null])) := ⟨_, rfl⟩
  have hlt7 : z < Z7.2.1 := by omega
  have c7 : Z7.1 z = some (oB 4 [.ref (z + 1), .ref (z + 1 + 1), .ref (z + 1 + 1 + 1), .ref (z + 1 + 1 + 1 + 1), .ref (z + 1 + 1 + 1 + 1 + 1), .ref (z + 1 + 1 + 1 + 1 + 1 + 1), .ref (z + 1 + 1 + 1 + 1 + 1 + 1 + 1), .ref (z + 1 + 1 + 1 + 1 + 1 + 1 + 1 + 1), .int 0, .int 0, .null, .null]) := c7'
  have e8 : Z8 = Z7 := by rw [hZ8]; exact yu_id c7
  obtain ⟨Za, a1, a2, a3, a4, a5, a6⟩ := ar_new (L := 24) (y := 24) b7 rfl (by omega)
  have ca : Za.1 z = _ := FR_k a3 c7 (by simp)
  have na : Za.2.1 = z + 10 := by omega
  obtain ⟨Zb, hZb⟩ : ∃ Zb, Zb = yu Za z (some (oB 4 [.ref (z + 1), .ref (z + 1 + 1), .ref (z + 1 + 1 + 1), .ref (z + 1 + 1 + 1 + 1), .ref (z + 1 + 1 + 1 + 1 + 1), .ref (z + 1 + 1 + 1 + 1 + 1 + 1), .ref (z + 1 + 1 + 1 + 1 + 1 + 1 + 1), .ref (z + 1 + 1 + 1 + 1 + 1 + 1 + 1 + 1), .int 0, .int 0, .ref Z7.2.1, .null])) := ⟨_, rfl⟩
  have cb : Zb.1 z = some (oB 4 [.ref (z + 1), .ref (z + 1 + 1), .ref (z + 1 + 1 + 1), .ref (z + 1 + 1 + 1 + 1), .ref (z + 1 + 1 + 1 + 1 + 1), .ref (z + 1 + 1 + 1 + 1 + 1 + 1), .ref (z + 1 + 1 + 1 + 1 + 1 + 1 + 1), .ref (z + 1 + 1 + 1 + 1 + 1 + 1 + 1 + 1), .int 0, .int 0, .ref Z7.2.1, .null]) := by rw [hZb]; exact yu_s
  have bb : BY Zb := by rw [hZb]; exact BY_u a2 z139 (by omega)
  have fb' : FR Za Zb [z] := by rw [hZb]; exact FR_u ca rfl
  have nb : Zb.2 = Za.2 := by rw [hZb]; rfl
  obtain ⟨Zc, d1, d2, d3, d4, d5, d6⟩ := ar_new (L := 24) (y := 24) bb rfl (by omega)
  have cc : Zc.1 z = _ := FR_k d3 cb (by simp)
  have nb1 : Zb.2.1 = z + 10 := by rw [nb]; exact na
  have nc : Zc.2.1 = z + 11 := by omega
  obtain ⟨Zd, hZd⟩ : ∃ Zd, Zd = yu Zc z (some (oB 4 [.ref (z + 1), .ref (z + 1 + 1), .ref (z + 1 + 1 + 1), .ref (z + 1 + 1 + 1 + 1), .ref (z + 1 + 1 + 1 + 1 + 1), .ref (z + 1 + 1 + 1 + 1 + 1 + 1), .ref (z + 1 + 1 + 1 + 1 + 1 + 1 + 1), .ref (z + 1 + 1 + 1 + 1 + 1 + 1 + 1 + 1), .int 0, .int 0, .ref Z7.2.1, .ref Zb.2.1])) := ⟨_, rfl⟩
  have cd : Zd.1 z = some (oB 4 [.ref (z + 1), .ref (z + 1 + 1), .ref (z + 1 + 1 + 1), .ref (z + 1 + 1 + 1 + 1), .ref (z + 1 + 1 + 1 + 1 + 1), .ref (z + 1 + 1 + 1 + 1 + 1 + 1), .ref (z + 1 + 1 + 1 + 1 + 1 + 1 + 1), .ref (z + 1 + 1 + 1 + 1 + 1 + 1 + 1 + 1), .int 0, .int 0, .ref Z7.2.1, .ref Zb.2.1]) := by rw [hZd]; exact yu_s
  have bd' : BY Zd := by rw [hZd]; exact BY_u d2 z139 (by omega)
  have fd : FR Zc Zd [z] := by rw [hZd]; exact FR_u cc rfl
  have nd : Zd.2 = Zc.2 := by rw [hZd]; rfl
  -- frames to the end
  have hsub1 : ∀ {Q : zY}, ∀ a ∈ [z], a ∈ [z] ∨ Q.2.1 ≤ a := fun a h => Or.inl h
  have rb : FR Zb Zd [z] := FR_T (FR_M d3 (fun a h => by cases h)) fd hsub1 bb.2
  have ra : FR Za Zd [z] := FR_T fb' rb hsub1 a2.2
  have r7 : FR Z7 Zd [z] := FR_T (FR_M a3 (fun a h => by cases h)) ra hsub1 b7.2
  have r6 : FR Z6 Zd [z] := FR_T f7 r7 hsub1 b6.2
  have r5 : FR Z5 Zd [z] := FR_T f6 r6 hsub1 b5.2
  have r4 : FR Z4 Zd [z] := FR_T f5 r5 hsub1 b4.2
  have r3 : FR Z3 Zd [z] := FR_T f4 r4 hsub1 b3.2
  have r2 : FR Z2 Zd [z] := FR_T f3 r3 hsub1 b2.2
  have r1 : FR Z1 Zd [z] := FR_T f2 r2 hsub1 b1.2
  have r0 : FR Z0 Zd [z] := FR_T f1 r1 hsub1 b0.2
  have rN : FR (yN Y 4 12) Zd [z] := FR_T f0 r0 hsub1 hB0.2
  have rY : FR Y Zd [] := FR_T hfr0 rN (fun a h => Or.inr (by rw [List.mem_singleton.mp h]; omega)) hB.2
  have hlists : ∀ j, j < 8 → LSX Zd (z + 1 + j) [] := by
    intro j hj
    have h8 : j = 0 ∨ j = 1 ∨ j = 2 ∨ j = 3 ∨ j = 4 ∨ j = 5 ∨ j = 6 ∨ j = 7 := by omega
    rcases h8 with rfl | rfl | rfl | rfl | rfl | rfl | rfl | rfl
    · exact LSX_k l0 r0 (by simp)
    · exact LSX_k l1 r1 (by simp; omega)
    · exact LSX_k l2 r2 (by simp; omega)
    · exact LSX_k l3 r3 (by simp; omega)
    · exact LSX_k l4 r4 (by simp; omega)
    · exact LSX_k l5 r5 (by simp; omega)
    · exact LSX_k l6 r6 (by simp; omega)
    · exact LSX_k l7 r7 (by simp; omega)
  have hrc : Zd.1 Z7.2.1 = some (oA 0 (List.replicate 24 (.int 0))) := FR_k ra a5 (by simp; omega)
  have hsq : Zd.1 Zb.2.1 = some (oA 0 (List.replicate 24 (.int 0))) := FR_k fd d5 (by simp; omega)
  have n7' : Z7.2.1 = z + 9 := by omega
  have nd1 : Zd.2.1 = z + 11 := by rw [nd]; omega
  have hPK : PLK Zd z (fun j => z + 1 + j) Z7.2.1 Zb.2.1 ([], [], [], [], [], [], 0) (fun _ => []) [] [] := by
    refine ⟨⟨cd, z139⟩, ⟨hlists, fun i j _ _ e => ?_⟩, ⟨trivial, trivial, trivial, trivial, trivial, trivial⟩, ?_⟩
    · have e : z + 1 + i = z + 1 + j := e
      omega
    · exact ⟨(by show 0 ≤ 12; omega), (by show 0 ≤ 100; omega), (by show 0 ≤ 40; omega), (by show 0 ≤ 100; omega), (by show 0 ≤ 400; omega), (by show 0 ≤ 24; omega), (by show 0 ≤ 8; omega)⟩
  have hPL : PLN Zd z (fun j => z + 1 + j) Z7.2.1 Zb.2.1 (fun _ => Zd.2.1) ([], [], [], [], [], [], 0) (fun _ => []) := by
    refine ⟨hPK, ⟨rfl, fun i fl g h => ?_⟩, ⟨rfl, fun i fl g h => ?_⟩, ⟨fun r h => ?_, fun r h => ?_⟩, ⟨_, hrc, ?_⟩, ⟨_, hsq, ?_⟩, ?_, ?_, ?_, ?_, ?_, ?_, ?_⟩
    · cases h
    · cases h
    · cases h
    · cases h
    · rw [List.length_replicate]
    · rw [List.length_replicate]
    · omega
    · omega
    · omega
    · show Z7.2.1 < Zd.2.1; omega
    · show Zb.2.1 < Zd.2.1; omega
    · intro i h; exact Nat.le_refl _
    · exact Nat.le_refl _
  have hNO : NOK ([], [], [], [], [], [], 0) [] := by
    refine ⟨rfl, fun l h => ?_, (by show 0 ≤ 24; omega), fun i g ns h => ?_⟩
    · cases h
    · cases h
  refine ⟨Zd, fun j => z + 1 + j, Z7.2.1, Zb.2.1, fun _ => Zd.2.1, ?_, bd', rY, ?_, hPL, hNO, by omega, by omega, fun j _ => ?_, by omega, by omega⟩
  · unfold c5
    refine (s0 _).trans ?_
    refine (s1 _).trans ?_
    refine (s2 _).trans ?_
    refine (s3 _).trans ?_
    refine (s4 _).trans ?_
    refine (s5 _).trans ?_
    refine (s6 _).trans ?_
    refine (s7 _).trans ?_
    refine bnd_eq (yP_of c7 z139 rfl rfl) ?_
    show ((yP (yu Z7 z (some (oB 4 [.ref (z + 1), .ref (z + 1 + 1), .ref (z + 1 + 1 + 1), .ref (z + 1 + 1 + 1 + 1), .ref (z + 1 + 1 + 1 + 1 + 1), .ref (z + 1 + 1 + 1 + 1 + 1 + 1), .ref (z + 1 + 1 + 1 + 1 + 1 + 1 + 1), .ref (z + 1 + 1 + 1 + 1 + 1 + 1 + 1 + 1), .int 0, .int 0, .null, .null]))) z 4 9 (.int 0)).bind _) = _
    rw [yu_id c7]
    refine bnd_eq (yP_of c7 z139 rfl rfl) ?_
    show ((yA (yu Z7 z (some (oB 4 [.ref (z + 1), .ref (z + 1 + 1), .ref (z + 1 + 1 + 1), .ref (z + 1 + 1 + 1 + 1), .ref (z + 1 + 1 + 1 + 1 + 1), .ref (z + 1 + 1 + 1 + 1 + 1 + 1), .ref (z + 1 + 1 + 1 + 1 + 1 + 1 + 1), .ref (z + 1 + 1 + 1 + 1 + 1 + 1 + 1 + 1), .int 0, .int 0, .null, .null]))) 0 24).bind _) = _
    rw [yu_id c7]
    refine bnd_eq a1 (bnd_eq (yP_of ca z139 rfl rfl) ?_)
    show ((yA (yu Za z (some (oB 4 [.ref (z + 1), .ref (z + 1 + 1), .ref (z + 1 + 1 + 1), .ref (z + 1 + 1 + 1 + 1), .ref (z + 1 + 1 + 1 + 1 + 1), .ref (z + 1 + 1 + 1 + 1 + 1 + 1), .ref (z + 1 + 1 + 1 + 1 + 1 + 1 + 1), .ref (z + 1 + 1 + 1 + 1 + 1 + 1 + 1 + 1), .int 0, .int 0, .ref Z7.2.1, .null]))) 0 24).bind _) = _
    rw [← hZb]
    refine bnd_eq d1 (bnd_eq (yP_of cc z139 rfl rfl) ?_)
    rw [hZd, nb]
    rfl
  · have h1 : wY Zd = wY Zc := by unfold wY; rw [nd]
    have h2 : wY Zb = wY Za := by unfold wY; rw [nb]
    omega
  · show z ≤ z + 1 + j; omega
/-- a new reader -/
theorem rdr_new (hB : BY Y) (hr : Y.1 rd = some (oB 5 (zdf 5))) (hr139 : 139 ≤ rd) (hT : TKC Y ts a) : ∃ Y1 l rc sq bd, c64 n rd (some a) Y = some ((), Y1) ∧ RS rd Y.2.1 (wY Y + 260 + 300 * ts.length) Y1 ts ∧ FR Y Y1 [rd] ∧ wY Y1 = wY Y + 260 ∧ PLN Y1 Y.2.1 l rc sq bd ([], [], [], [], [], [], 0) (fun _ => []) ∧ Y.2.1 ≤ rc ∧ Y.2.1 ≤ sq ∧ (∀ j, j < 8 → Y.2.1 ≤ l j) ∧ Y.2.1 < Y1.2.1 := by
  obtain ⟨Y1, l, rc, sq, bd, e1, e2, e3, e4, e5, e6, e7, e8, e9, e10, e11⟩ := pln_new (n := n) hB
  have hr1 : Y1.1 rd = some (oB 5 (zdf 5)) := FR_k e3 hr (by simp)
  have hlt := hB.2.2 _ _ hr
  obtain ⟨Z, hZ⟩ : ∃ Z, Z = yu Y1 rd (some (oB 5 [.ref Y.2.1, .int 0, .int 0, .ref a])) := ⟨_, rfl⟩
  have hf1 : FR Y1 Z [rd] := by rw [hZ]; exact FR_u hr1 rfl
  have hZr : Z.1 rd = some (oB 5 [.ref Y.2.1, .int 0, .int 0, .ref a]) := by rw [hZ]; exact yu_s
  have hBZ : BY Z := by rw [hZ]; exact BY_u e2 hr139 (by omega)
  have hw : wY Z = wY Y1 := by rw [hZ]; rfl
  have hn : Z.2.1 = Y1.2.1 := by rw [hZ]; rfl
  have hfY : FR Y Z [rd] := FR_T (FR_M e3 (fun a h => by cases h)) hf1 (fun a h => Or.inl h) hB.2
  have hk : KPY rc sq Y1 Z := KPY_of hf1 (fun q hq => by
    rw [List.mem_singleton.mp hq]
    exact ⟨by omega, by omega, fun o ho => by rw [hr1] at ho; cases ho; rfl⟩)
  refine ⟨Z, l, rc, sq, bd, ?_, ⟨hBZ, ⟨⟨0, 0, a, hZr, TKC_k hfY.2.2 hT⟩, hr139⟩, by rw [hw, e4]; exact Nat.le_refl _⟩, hfY, by rw [hw, e4], PLN_p e5 hk, e7, e8, e9, by rw [hn]; exact e10⟩
  unfold c64
  refine bnd_eq e1 (bnd_eq (yP_of hr1 hr139 rfl rfl) (bnd_eq (yP_of yu_s hr139 rfl rfl) ?_))
  rw [yu_yu]
  refine bnd_eq (yP_of yu_s hr139 rfl rfl) ?_
  rw [yu_yu]
  refine bnd_eq (yP_of yu_s hr139 rfl rfl) ?_
  rw [yu_yu, hZ]
  rfl
/-- the tape is taken, a reader stands -/
theorem rd_go (h : CSt Y x s) (hx : Y.1 x = some (oB 10 [.ref tp, .ref jd, .ref pl, .int s.2.2.2.1])) (hn : 6002 ≤ n) : ∃ a Y2 Y3 l rc sq bd, (∀ {α : Type} {F : Unit × zY → Option α}, ((yR (yN Y 5 4) x 10 0).bind fun x1 => x1.bind fun a3 => zgd (yisO (yN Y 5 4) a3 8) <| (c10 n a3 (yN Y 5 4)).bind fun p6 => (c64 n Y.2.1 p6.1 p6.2).bind F) = F ((), Y3)) ∧ OF Y Y2 ∧ BY Y2 ∧ TAP Y2 tp [] ∧ Y2.1 x = some (oB 10 [.ref tp, .ref jd, .ref pl, .int s.2.2.2.1]) ∧ (∀ v, OUT Y ou v → OUT Y2 ou v) ∧ (∃ fs, Y2.1 Y.2.1 = some (oB 5 fs)) ∧ RS Y.2.1 Y2.2.1 (wY Y + 820 + 420 * s.1.length) Y3 (tks s.1) ∧ FR Y2 Y3 [Y.2.1] ∧ PLN Y3 Y2.2.1 l rc sq bd ([], [], [], [], [], [], 0) (fun _ => []) ∧ Y2.2.1 ≤ rc ∧ Y2.2.1 ≤ sq ∧ (∀ j, j < 8 → Y2.2.1 ≤ l j) ∧ a < Y2.2.1 := by
  obtain ⟨hB, h1, h2, h3, tp', jd', pl', hx', hT, hC⟩ := id h
  rw [hx] at hx'
  cases hx'
  have h231 := hB.2.1
  have hBr : BY (yN Y 5 4) := BY_a hB
  have hfr : FR Y (yN Y 5 4) [] := FR_a hB.2
  have hx1 : (yN Y 5 4).1 x = some (oB 10 [.ref tp, .ref jd, .ref pl, .int s.2.2.2.1]) := FR_k hfr hx (by simp)
  have hT1 : TAP (yN Y 5 4) tp s.1 := TAP_f hT hfr (fun a h => by cases h)
  have hrd : (yN Y 5 4).1 Y.2.1 = some (oB 5 (zdf 5)) := ya_s
  have hwr : wY (yN Y 5 4) = wY Y + 20 := by
    show 16 * (Y.2.2.1 + 1) + (Y.2.2.2 + 4) = 16 * Y.2.2.1 + Y.2.2.2 + 20
    omega
  obtain ⟨a, Y2, e1, e2, e3, e4, e5, e6⟩ := tkt_ok (n := n) hBr hT1 hn
  have htp : ∀ q ∈ [tp], ∀ o, (yN Y 5 4).1 q = some o → ∃ fs, o = oB 8 fs := by
    intro q hq o ho
    obtain ⟨ba, vs, k1, _⟩ := hT1
    rw [List.mem_singleton.mp hq, k1] at ho
    cases ho
    exact ⟨_, rfl⟩
  have hne : tp ≠ Y.2.1 := fun q => by
    obtain ⟨ba, vs, k1, _⟩ := hT1
    rw [q, hrd] at k1; cases k1
  have hnx : x ≠ tp := fun q => by
    obtain ⟨ba, vs, k1, _⟩ := hT1
    rw [← q, hx1] at k1; cases k1
  have hf2 : FR (yN Y 5 4) Y2 [tp] := FR_of e3 (fun q hq o ho => by obtain ⟨fs, rfl⟩ := htp q hq o ho; rfl)
  have hrd2 : Y2.1 Y.2.1 = some (oB 5 (zdf 5)) := FR_k hf2 hrd (by simp; exact fun q => hne q.symm)
  have hx2 : Y2.1 x = some (oB 10 [.ref tp, .ref jd, .ref pl, .int s.2.2.2.1]) := FR_k hf2 hx1 (by simpa using hnx)
  obtain ⟨Y3, l, rc, sq, bd, g1, g2, g3, g4, g5, g6, g7, g8, g9⟩ := rdr_new (n := n) e2 hrd2 (by omega) e4
  have hw2 := e3.2.1
  have hlen := e6
  refine ⟨a, Y2, Y3, l, rc, sq, bd, fun {α F} => bnd_eq (yR_of (r := some tp) hx1 rfl) (bnd_eq rfl (zgd_eq (tap_o hT1) (bnd_eq e1 (bnd_eq g1 rfl)))), OF_T (OF_of hfr (fun a h => by cases h)) (OF_of hf2 (fun q hq o ho => by obtain ⟨fs, rfl⟩ := htp q hq o ho; rfl)), e2, e5, hx2, fun v hv => ⟨FR_k hf2 (FR_k hfr hv.1 (by simp)) (fun q => ?_), hv.2⟩, ⟨_, hrd2⟩, ⟨g2.1, g2.2.1, ?_⟩, g3, g5, g6, g7, g8, ?_⟩
  · obtain ⟨ba, vs, k1, _⟩ := hT1
    have hh := FR_k hfr hv.1 (by simp)
    rw [List.mem_singleton.mp q, k1] at hh; cases hh
  · have := g2.2.2
    rw [g4]
    have h4 := e3.2.1
    rw [hwr] at h4
    omega
  · have hh : (tks s.1) ≠ [] := by
      intro q; rw [q] at e4; exact e4
    cases ht : tks s.1 with
    | nil => exact absurd ht hh
    | cons t ts =>
      rw [ht] at e4
      obtain ⟨e, nx, ⟨st, j1, _⟩, _⟩ := e4
      exact e2.2.2 _ _ j1
end
end ZMD

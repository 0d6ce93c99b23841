/-! THE REFERENCE: work -/
section ZWK
/-- the reasons that are kept -/
def WHY (X : zX) (y : Why) : Prop := X.1 86 = y.1 ∧ X.1 87 = y.2.1 ∧ X.1 88 = y.2.2.1 ∧ X.1 89 = y.2.2.2.1 ∧ X.1 90 = y.2.2.2.2
def bc (X : zX) (a c d e : Int32) : zX := xF (xF (xF (xF (xF X 86 a) 87 c) 88 d) 90 e) 89 (-1)
/-- what the flags are worth, as the reference has it -/
def WX (X : zX) (W : Nat → Int32) : Prop := ∀ g, g < 24 → cv X 70 g = W g
section
variable {n : Nat} {X X1 X2 : zX} {b f : Nat} {K : KL} {P : Pln} {l : List Bool} {a c d e off y2 : Int32}
theorem bc_eq : g260 n a c d e X = some ((), bc X a c d e) := rfl
theorem bc_W : WHY (bc X a c d e) (a, c, d, -1, e) := by
  unfold bc
  refine ⟨?_, ?_, ?_, ?_, ?_⟩
  · rw [xF_1, if_neg (by decide), xF_1, if_neg (by decide), xF_1, if_neg (by decide), xF_1, if_neg (by decide), xF_1, if_pos rfl]
  · rw [xF_1, if_neg (by decide), xF_1, if_neg (by decide), xF_1, if_neg (by decide), xF_1, if_pos rfl]
  · rw [xF_1, if_neg (by decide), xF_1, if_neg (by decide), xF_1, if_pos rfl]
  · rw [xF_1, if_pos rfl]
  · rw [xF_1, if_neg (by decide), xF_1, if_pos rfl]
theorem bc_O (hL : LN X) : OW X (bc X a c d e) := OW_T (OW_T (OW_T (OW_T (OW_F hL (by omega)) (OW_F hL (by omega))) (OW_F hL (by omega))) (OW_F hL (by omega))) (OW_F hL (by omega))
theorem SVR_240 {v : Int32} {s : Srv} {nq nv : Nat} (h : SVR X b nq nv v s) (hv : nv ≤ 240) : SVR X b nq 240 v s := by
  obtain ⟨q, q1, q2⟩ := h
  exact ⟨q, by omega, q2⟩
/-- because, and serve -/
theorem bcS {v : Int32} {s : Srv} (hE : EVX X b P K l) (hs : SVR X b P.2.2.2.2.2.1.length 240 v s) (hn : 6002 ≤ n) : ∃ X1, g262 n v (bc X a c d (-1)) = some ((byS K P s a c d).1, X1) ∧ OW X X1 ∧ WHY X1 (byS K P s a c d).2 := by
  have hL := EVX_L hE
  have hO : OW X (bc X a c d (-1)) := bc_O hL
  have hW : WHY (bc X a c d (-1)) (a, c, d, -1, -1) := bc_W
  obtain ⟨X1, e1, e2, e3, e4⟩ := srv_v (n := n) (X := bc X a c d (-1)) (EVX_O hE hO) (v := v) (s := s) hs hW.2.2.2.1 hn
  refine ⟨X1, e1, ⟨fun i hi => by rw [e4]; exact hL i hi, fun k hk => (e3 k (by omega)).trans (hO.2.1 k hk), fun i _ => by rw [e4]; rfl⟩, ?_⟩
  obtain ⟨w1, w2, w3, w4, w5⟩ := hW
  exact ⟨(e3 86 (by omega)).trans w1, (e3 87 (by omega)).trans w2, (e3 88 (by omega)).trans w3, e2, (e3 90 (by omega)).trans w5⟩
theorem RP_rul {r : Nat} {R : Rul} (hE : EVX X b P K l) (hR : P.2.2.2.1[r]? = some R) : SVR X b P.2.2.2.2.2.1.length 240 (cv X 34 (100 * b + r)) R.2.2.2 := by
  obtain ⟨h1, h2, ⟨D, nv, cb, h3, h0⟩, _⟩ := hE
  exact SVR_240 (h3.2.2.2.1.2.2 r R hR).2.2.2.2 h0
theorem nI_tn {j : Nat} (h : j < 1000) : (nI j).toInt.toNat = j := by rw [nI_toInt (by omega)]; omega
/-- by the layers -/
theorem wk_l (hE : EVX X b P K l) (hf : f < P.2.1.length) (hoff : off = (P.2.1.getD f fl0).2.2.2.2) (hwf : PWF P) (hn : 6002 ≤ n) : ∀ (k fu : Nat) (a : Int32) {Y : zX}, k ≤ fu → (a = -1 ∧ 1 ≤ k ∨ ∃ j, j < P.2.2.1.length ∧ a = nI j ∧ j + 2 ≤ k) → OW X Y → match byL K P (K, ins K P) f k a with
    | some x => ∃ X1, gf258_18 n fu (nI f) y2 off a Y = some (x.1, X1) ∧ OW X X1 ∧ WHY X1 x.2
    | none => ∃ X1, gf258_18 n fu (nI f) y2 off a Y = gf258_152 n n (nI f) y2 off 0 X1 ∧ OW X X1
  | 0, fu, a, Y, _, h, _ => by
    exfalso
    rcases h with h | ⟨j, _, _, h⟩ <;> omega
  | k + 1, 0, a, Y, h, _, _ => by omega
  | k + 1, fu + 1, a, Y, hkf, ha, hO => by
    have hEY := EVX_O hE hO
    have hL := hO.1
    obtain ⟨h1, h2, ⟨D, nv, cb, h3, h0⟩, _⟩ := id hEY
    have hfl := h3.2.1.2.1
    have hly := h3.2.2.1.2.1
    have h100 := h3.2.2.2.1.2.1
    have h40 := h3.2.2.2.2.1.2.1
    have hwI : ∀ I ∈ P.2.2.2.2.1, I.1 < 1000 := fun I hI => by have := (hwf.2.2 I hI).1; omega
    have e18 : gf258_18 n (fu + 1) (nI f) y2 off a Y = gb258_18 n (gf258_18 n fu) (nI f) y2 off a Y := rfl
    rw [e18]
    rcases ha with ⟨rfl, _⟩ | ⟨j, hj, rfl, hjk⟩
    · have : byL K P (K, ins K P) f (k + 1) (-1) = none := by unfold byL; rw [if_pos rfl]
      rw [this]
      refine ⟨Y, ?_, hO⟩
      unfold gb258_18
      rw [if_pos rfl]
    · have hby : byL K P (K, ins K P) f (k + 1) (nI j) = (if (itmO P f j false).isSome = true then some ((P.2.1.getD f fl0).2.2.2.2, (3, nI j, -1, -1, -1))
          else match rulO P (K, ins K P) f (nI j) with
            | some r => some (byS K P (P.2.2.2.1.getD r rl0).2.2.2 4 (nI j) (nI r))
            | none => match itmO P f j true with
              | some i => some (byS K P (((P.2.2.2.2.1.getD i (0, 0, none)).2.2).getD (.inl 0)) 5 (nI j) (-1))
              | none => byL K P (K, ins K P) f k (ofL P j)) := by
        show (if nI j = -1 then none else _) = _
        rw [if_neg (nI_m1 (by omega))]
        dsimp only
        rw [nI_tn (by omega)]
        rfl
      rw [hby]
      unfold gb258_18
      have ei0 : g259 n (nI f) (nI j) 0 Y = some (match itmO P f j false with | some j => nI (40 * b + j) | none => -1, Y) := itm_ok2 (st := false) hEY (by omega) (by omega) hwI hn
      rw [if_neg (nI_m1 (by omega)), ei0]
      dsimp only [Option.bind_some]
      cases h_i : itmO P f j false with
      | some i =>
        have hi := lt_of_get (itmO_lt h_i).choose_spec.1
        dsimp only
        rw [if_pos (show (some i).isSome = true from rfl), if_neg (nI_m1 (by omega)), bc_eq]
        refine ⟨bc Y 3 (nI j) (-1) (-1), by rw [hoff]; rfl, OW_T hO (bc_O hL), bc_W⟩
      | none =>
        dsimp only
        rw [if_neg (show ¬ (none : Option Nat).isSome = true by decide), if_pos rfl]
        obtain ⟨X1, e1, e2⟩ := rul_ok (n := n) (f := f) (a := nI j) hEY (by omega) hn
        have hO1 := OW_T hO (OW_68 e2)
        have hE1 := EVX_O hEY (OW_68 e2)
        have hL1 := e2.1
        have h31 : X1.1 3 = nI b := hE1.2.1
        rw [e1]
        dsimp only [Option.bind_some]
        cases h_r : rulO P (K, ins K P) f (nI j) with
        | some r =>
          have hr := rulO_lt h_r
          dsimp only
          have hR : P.2.2.2.1[r]? = some (P.2.2.2.1.getD r rl0) := getD_get hr
          obtain ⟨X2, s1, s2, s3⟩ := bcS (n := n) (a := 4) (c := nI j) (d := nI r) hE1 (RP_rul hE1 hR) hn
          rw [if_neg (nI_m1 (by omega)), bc_eq]
          dsimp only [Option.bind_some]
          refine ⟨X2, ?_, OW_T hO1 s2, s3⟩
          rw [show (bc X1 4 (nI j) (nI r) (-1)).1 3 = X1.1 3 from (bc_O (a := 4) (c := nI j) (d := nI r) (e := -1) hL1).2.1 3 (by omega), j3 (a := 100) (k := 100) h31 rfl, show rd ((bc X1 4 (nI j) (nI r) (-1)).2.2 34) (nI (100 * b + r)) = some (cv X1 34 (100 * b + r)) from rd_cv hL1 (by decide) (by show _ < 200; omega) (by omega)]
          dsimp only [Option.bind_some]
          rw [s1]
          rfl
        | none =>
          dsimp only
          have ei1 : g259 n (nI f) (nI j) 1 X1 = some (match itmO P f j true with | some j => nI (40 * b + j) | none => -1, X1) := itm_ok2 (st := true) hE1 (by omega) (by omega) hwI hn
          rw [if_pos rfl, ei1]
          dsimp only [Option.bind_some]
          cases h_s : itmO P f j true with
          | some i =>
            obtain ⟨I, hI, hIs⟩ := itmO_lt h_s
            have hi := lt_of_get hI
            dsimp only
            obtain ⟨_, _, ⟨D', nv', cb', h3', h0'⟩, _⟩ := id hE1
            have hIT := (h3'.2.2.2.2.1.2.2 i I hI).2.2.2
            have hId : P.2.2.2.2.1.getD i (0, 0, none) = I := by rw [List.getD_eq_getElem?_getD, hI]; rfl
            rw [hId]
            cases hIv : I.2.2 with
            | none => rw [hIv] at hIs; cases hIs
            | some s =>
              rw [hIv] at hIT
              have hIT : SVR X1 b P.2.2.2.2.2.1.length nv' (cv X1 38 (40 * b + i)) s := hIT
              obtain ⟨X2, s1, s2, s3⟩ := bcS (n := n) (a := 5) (c := nI j) (d := -1) hE1 (SVR_240 hIT h0') hn
              rw [if_neg (nI_m1 (by omega)), bc_eq]
              dsimp only [Option.bind_some]
              refine ⟨X2, ?_, OW_T hO1 s2, s3⟩
              rw [show rd ((bc X1 5 (nI j) (-1) (-1)).2.2 38) (nI (40 * b + i)) = some (cv X1 38 (40 * b + i)) from rd_cv hL1 (by decide) (by show _ < 80; omega) (by omega)]
              dsimp only [Option.bind_some]
              rw [s1]
              rfl
          | none =>
            dsimp only
            obtain ⟨L, hLy⟩ : ∃ L, P.2.2.1[j]? = some L := ⟨_, List.getElem?_eq_getElem hj⟩
            obtain ⟨_, _, ⟨D', nv', cb', h3', h0'⟩, _⟩ := id hE1
            obtain ⟨_, y2', y3⟩ := h3'.2.2.1.2.2 j L hLy
            have y2' : cv X1 27 (8 * b + j) = L.2 := y2'
            have hof : ofL P j = L.2 := by unfold ofL; rw [List.getD_eq_getElem?_getD, hLy]; rfl
            rw [if_pos rfl, j3 (a := 8) (k := 8) h31 rfl, rd_cv hL1 (by decide) (by show _ < 16; omega) (by omega), y2', hof]
            dsimp only [Option.bind_some]
            refine wk_l hE hf hoff hwf hn k fu L.2 (Y := X1) (by omega) ?_ hO1
            rcases y3 with y3 | ⟨j', hj', y3⟩
            · exact Or.inl ⟨y3, by omega⟩
            · exact Or.inr ⟨j', by omega, y3, by omega⟩
/-- by itself -/
theorem wk_n {N : List (List (Nat × Int32))} {W : Nat → Int32} {ns : List (Nat × Int32)} (hE : EVX X b P K l) (hf : f < P.2.1.length) (hoff : off = (P.2.1.getD f fl0).2.2.2.2) (hNR : NR X b N) (hNX : NX X b 0 N) (hns : N[f]? = some ns) (hW : WX X W) (hn : 6002 ≤ n) : ∀ (fu k : Nat), k ≤ ns.length → ns.length - k < fu → ∃ X1, gf258_152 n fu (nI f) y2 off (nI k) X = some ((match badN W (ns.drop k) with
      | some g => ((P.2.1.getD f fl0).2.2.2.2, (1, -1, -1, -1, nI g))
      | none => match rulO P (K, ins K P) f (-1) with
        | some r => byS K P (P.2.2.2.1.getD r rl0).2.2.2 2 (-1) (nI r)
        | none => byS K P (P.2.1.getD f fl0).2.2.2.1 0 (-1) (-1) : Int32 × Why).1, X1) ∧ OW X X1 ∧ WHY X1 (match badN W (ns.drop k) with
      | some g => ((P.2.1.getD f fl0).2.2.2.2, (1, -1, -1, -1, nI g))
      | none => match rulO P (K, ins K P) f (-1) with
        | some r => byS K P (P.2.2.2.1.getD r rl0).2.2.2 2 (-1) (nI r)
        | none => byS K P (P.2.1.getD f fl0).2.2.2.1 0 (-1) (-1) : Int32 × Why).2
  | 0, k, _, h => by omega
  | fu + 1, k, hk, hfu => by
    have hL := EVX_L hE
    obtain ⟨h1, h2, ⟨D, nv, cb, h3, h0⟩, _⟩ := id hE
    have hfl := h3.2.1.2.1
    obtain ⟨n1, n2, n3⟩ := hNR.2.2.2.2.2 f ns hns
    have e152 : gf258_152 n (fu + 1) (nI f) y2 off (nI k) X = gb258_152 n (gf258_152 n fu) (nI f) y2 off (nI k) X := rfl
    rw [e152]
    unfold gb258_152
    rw [j3 (a := 24) (k := 24) h2 rfl, rd_cv hL (by decide) (by show _ < 48; omega) (by omega), n1]
    dsimp only [Option.bind_some]
    by_cases hz : k = ns.length
    · have hb0 : badN W (ns.drop k) = none := by rw [List.drop_eq_nil_of_le (by omega)]; rfl
      rw [hb0, if_pos (by rw [hz]; exact Int32.le_refl _)]
      obtain ⟨X1, e1, e2⟩ := rul_ok (n := n) (f := f) (a := -1) hE (by omega) hn
      have hE1 := EVX_O hE (OW_68 e2)
      have hL1 := e2.1
      have h31 : X1.1 3 = nI b := hE1.2.1
      obtain ⟨_, _, ⟨D', nv', cb', h3', h0'⟩, _⟩ := id hE1
      have h100 := h3'.2.2.2.1.2.1
      rw [e1]
      dsimp only [Option.bind_some]
      unfold gb258_251 gb258_297
      cases h_r : rulO P (K, ins K P) f (-1) with
      | some r =>
        have hr := rulO_lt h_r
        dsimp only
        have hR : P.2.2.2.1[r]? = some (P.2.2.2.1.getD r rl0) := getD_get hr
        obtain ⟨X2, s1, s2, s3⟩ := bcS (n := n) (a := 2) (c := -1) (d := nI r) hE1 (RP_rul hE1 hR) hn
        refine ⟨X2, ?_, OW_T (OW_68 e2) s2, s3⟩
        rw [if_neg (nI_m1 (by omega)), bc_eq]
        dsimp only [Option.bind_some]
        rw [if_neg (nI_m1 (by omega)), show (bc X1 2 (-1) (nI r) (-1)).1 3 = X1.1 3 from (bc_O (a := 2) (c := -1) (d := nI r) (e := -1) hL1).2.1 3 (by omega), j3 (a := 100) (k := 100) h31 rfl, show rd ((bc X1 2 (-1) (nI r) (-1)).2.2 34) (nI (100 * b + r)) = some (cv X1 34 (100 * b + r)) from rd_cv hL1 (by decide) (by show _ < 200; omega) (by omega)]
        dsimp only [Option.bind_some]
        rw [s1]
        rfl
      | none =>
        dsimp only
        have hF : P.2.1[f]? = some (P.2.1.getD f fl0) := getD_get hf
        have hsv := SVR_240 (h3'.2.1.2.2 f _ hF).2.2.2.1 h0'
        have hsv : SVR X1 b P.2.2.2.2.2.1.length 240 (cv X1 14 (24 * b + f)) (P.2.1.getD f fl0).2.2.2.1 := hsv
        obtain ⟨X2, s1, s2, s3⟩ := bcS (n := n) (a := 0) (c := -1) (d := -1) hE1 hsv hn
        refine ⟨X2, ?_, OW_T (OW_68 e2) s2, s3⟩
        rw [if_pos rfl, bc_eq]
        dsimp only [Option.bind_some]
        rw [if_pos rfl, show (bc X1 0 (-1) (-1) (-1)).1 3 = X1.1 3 from (bc_O (a := 0) (c := -1) (d := -1) (e := -1) hL1).2.1 3 (by omega), j3 (a := 24) (k := 24) h31 rfl, show rd ((bc X1 0 (-1) (-1) (-1)).2.2 14) (nI (24 * b + f)) = some (cv X1 14 (24 * b + f)) from rd_cv hL1 (by decide) (by show _ < 48; omega) (by omega)]
        dsimp only [Option.bind_some]
        rw [s1]
        rfl
    · have hlt : k < ns.length := by omega
      obtain ⟨x, hx⟩ : ∃ x, ns[k]? = some x := ⟨_, List.getElem?_eq_getElem hlt⟩
      have hxl : x.1 < 24 := by
        have := hNR.2.2.2.2.1 ns (List.mem_of_getElem? hns) x (List.mem_of_getElem? hx)
        have := hNR.2.2.2.1
        omega
      have hx24 : cv X 24 (4 * (24 * b + f) + k) = x.2 := by
        have := (hNX f ns hns k x hx).2
        rw [Nat.zero_add, Nat.zero_add] at this
        exact this
      rw [if_neg (nI_ge hlt (by omega)), i4, rd_cv hL (by decide) (by show _ < 192; omega) (by omega), n3 k x hx]
      dsimp only [Option.bind_some]
      rw [rd_cv hL (by decide) (by show _ < 24; omega) (by omega), hW x.1 hxl]
      dsimp only [Option.bind_some]
      rw [rd_cv hL (by decide) (by show _ < 192; omega) (by omega), hx24, drop_get hx]
      dsimp only [Option.bind_some]
      unfold badN
      by_cases hv : W x.1 = x.2
      · rw [if_pos hv, List.find?_cons_of_neg (by simpa using hv), nI_1]
        exact wk_n hE hf hoff hNR hNX hns hW hn fu (k + 1) (by omega) (by omega)
      · rw [if_neg hv, List.find?_cons_of_pos (by simpa using hv), bc_eq]
        exact ⟨bc X 1 (-1) (-1) (nI x.1), by rw [hoff]; rfl, bc_O hL, bc_W⟩
end
end ZWK

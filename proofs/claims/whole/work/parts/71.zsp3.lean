/-! THE REFERENCE'S SPLITS: reading -/
section ZSP3
section
variable {n : Nat} {X X1 X2 : zX} {b f q : Nat} {T : List Int32} {fk : Int32} {ts : List Tk} {k : Nat × List (List Int32)} {sh : List (Int32 × Int32)}
theorem wst8 {α : Type} {F : zX → Option α} {R : Option α} {J v : Int32} {i j : Nat} (hL : LN X) (h4 : X.1 4 = nI b) (hb : b ≤ 1) (hi : i = 47 ∨ i = 48) (hq : q < 100) (hj : j < 8) (hJ : J = nI (8 * (100 * b + q) + j)) (nx : F (up X i (8 * (100 * b + q) + j) v) = R) : (zgd (bkO (X.1 4) i J) ((wr X i J v).bind F)) = R := by
  have e : 800 * b + (8 * q + j) = 8 * (100 * b + q) + j := by omega
  rcases hi with rfl | rfl
  · exact wst 800 (8 * q + j) hL h4 hb (by decide) rfl (by decide) (by omega) rfl (by decide) (by rw [hJ, e]) (by rw [e]; exact nx)
  · exact wst 800 (8 * q + j) hL h4 hb (by decide) rfl (by decide) (by omega) rfl (by decide) (by rw [hJ, e]) (by rw [e]; exact nx)
theorem LpK_nx (hL : LN X) (e : g190 n X = some ((), X1)) : LpK X X1 b q := LpK_w hL (w190 e) ((w190 e).1 4 rfl)
theorem spFin_brk {y : List (Int32 × Int32) × List Tk} (h : (hd y.2).1 = 1) : spFin y = .inl (1, (hd y.2).2.1) := by
  unfold spFin
  rw [if_neg (by omega), sEat_brk (by decide) _ h]
  rfl
theorem lp230 (hb : b ≤ 1) (hf : f < 24) (hq : q < 100) (hn : 6002 ≤ n) {l2 l3 l4 l5 : Int32} : ∀ (j fu : Nat) (sh : List (Int32 × Int32)) (ts : List Tk) {X : zX}, j + sh.length = 9 → sh.length ≤ 8 → j + 1 < fu → LN X → X.1 4 = nI b → KND X b f k → SHc X b q sh → RI X T fk (.inr ts) → ∃ v X1, gf230_301 n fu (nI (24 * b + f)) l2 l3 l4 l5 (nI q) (nI (100 * b + q)) (sumS sh) 1 X = some (v, X1) ∧ PO (fun x : List (Int32 × Int32) × List Tk => x.2) X1 T fk (fun x => v = nI q ∧ 1 ≤ x.1.length ∧ x.1.length ≤ 8 ∧ SHc X1 b q x.1 ∧ LpK X X1 b q) (rb (sShL k j sh ts) spFin)
  | 0, _, sh, ts, X, h1, h2, _, _, _, _, _, _ => by omega
  | j + 1, 0, sh, ts, X, _, _, h, _, _, _, _, _ => by omega
  | j + 1, fu + 1, sh, ts, X, hj, h8, hfu, hL, h4, hK, hS, hR => by
    show ∃ v X1, gb230_301 n (gf230_301 n fu) (nI (24 * b + f)) l2 l3 l4 l5 (nI q) (nI (100 * b + q)) (sumS sh) 1 X = some (v, X1) ∧ _
    unfold gb230_301
    rw [if_neg (show ¬ (1 : Int32) = 0 by decide)]
    by_cases hb1 : (hd ts).1 = 1
    · have h' := (ri_brk hR hb1).1
      rw [if_neg (ri_flt h'), f476 h']
      refine ⟨_, X, rfl, ?_⟩
      unfold sShL
      rw [sShr_brk ts hb1]
      exact h'
    · obtain ⟨a1, a2, a3, a4, a5, a6, a7⟩ := ri_hd hR hb1
      rw [if_pos a1]
      obtain ⟨v, X1, e1, e2⟩ := shr_ok (n := n) hR hb1
      rw [e1]
      dsimp only [Option.bind_some]
      rcases e2 with ⟨e, e3, e4⟩ | ⟨e3, e4, e5, e6⟩
      · rw [if_neg (ri_flt e3)]
        obtain ⟨X2, z1, z2⟩ := f345 (n := n) (fu := fu) (l1 := nI (24 * b + f)) (l2 := l2) (l3 := l3) (l4 := l4) (l5 := l5) (l6 := nI q) (l7 := nI (100 * b + q)) (l8 := sumS sh) (l9 := 1) (l10 := v) e3 (by omega) hn
        refine ⟨_, X2, z1, ?_⟩
        unfold sShL
        rw [e4]
        exact z2
      · subst e3
        subst e4
        rw [if_pos a1, rd_cv (j := 100 * b + q) hL (by decide) (by show _ < 200; omega) (by omega), hS.1]
        dsimp only [Option.bind_some]
        by_cases hz : sh.length = 8
        · rw [if_pos (by rw [hz]; rfl)]
          obtain ⟨X2, z1, z2⟩ := ri_bad (n := n) (k := 5) hR hb1
          rw [z1]
          dsimp only [Option.bind_some]
          obtain ⟨X3, y1, y2⟩ := f345 (n := n) (fu := fu) (l1 := nI (24 * b + f)) (l2 := l2) (l3 := l3) (l4 := l4) (l5 := l5) (l6 := nI q) (l7 := nI (100 * b + q)) (l8 := sumS sh) (l9 := 1) (l10 := (hd ts).2.2.2) z2 (by omega) hn
          refine ⟨_, X3, y1, ?_⟩
          unfold sShL
          rw [decide_eq_true (by omega), e6]
          exact y2
        · rw [if_neg (by rw [show (8 : Int32) = nI 8 from rfl, nI_eq (by omega) (by omega)]; exact hz)]
          unfold gb230_345
          obtain ⟨X2, n1, n2⟩ := ri_next hR hn
          rw [n1]
          dsimp only [Option.bind_some]
          obtain ⟨X3, p1, p2⟩ := ri_eat (n := n) (c := 58) (s := 11) rfl (by decide) n2 hn
          have p2 : RI X3 T fk (sEat 11 (adv ts)) := p2
          rw [p1]
          dsimp only [Option.bind_some]
          have hsp : sShL k (j + 1) sh ts = rb (sEat 11 (adv ts)) fun ts' => rb (sVal k ts') fun y => if (hd y.2).1 = 10 then sShL k j (sh ++ [((hd ts).2.2.2, y.1)]) (adv y.2) else .inr (sh ++ [((hd ts).2.2.2, y.1)], y.2) := by
            conv => lhs; unfold sShL
            rw [decide_eq_false (by omega), e5]
            rfl
          rw [hsp, rb_assoc]
          rcases ri_el (f := fun ts' => rb (rb (sVal k ts') fun y => if (hd y.2).1 = 10 then sShL k j (sh ++ [((hd ts).2.2.2, y.1)]) (adv y.2) else .inr (sh ++ [((hd ts).2.2.2, y.1)], y.2)) spFin) p2 (Brk_rb (Brk_rb sVal_brk)) with ⟨e, z1, z2⟩ | ⟨ts3, z0, z1, z2, z3⟩
          · rw [z2, if_neg (ri_flt z1), f372 z1 (by omega)]
            exact ⟨_, X3, rfl, z1⟩
          · rw [z3, if_pos (ri_hd z2 z1).1]
            have hk3 : LpK X1 X3 b q := LpK_T (LpK_nx hL n1) (LpK_w (LN_of hL (w190 n1)) (w208 p1) ((w208 p1).1 4 rfl))
            obtain ⟨v2, X4, y1, y2⟩ := val_ok (n := n) z2 z1 hk3.2.1 hb hf (KND_LpK hK hk3) hn
            rw [y1]
            dsimp only [Option.bind_some]
            rw [rb_assoc]
            rcases po_el (f := fun y : Int32 × List Tk => rb (if (hd y.2).1 = 10 then sShL k j (sh ++ [((hd ts).2.2.2, y.1)]) (adv y.2) else .inr (sh ++ [((hd ts).2.2.2, y.1)], y.2)) spFin) y2 (fun x hx => by
                have hx : (hd x.2).1 = 1 := hx
                rw [if_neg (by omega)]
                exact spFin_brk (y := (sh ++ [((hd ts).2.2.2, x.1)], x.2)) hx) with ⟨e, w1, w2⟩ | ⟨x, w0, w1, w2, w3, w4⟩
            · rw [w2, f372 w1 (by omega)]
              exact ⟨_, X4, rfl, w1⟩
            · rw [w4]
              obtain ⟨v3, ts4⟩ := x
              dsimp only at w1 w2 w3 ⊢
              subst w3
              have hk4 : LpK X1 X4 b q := LpK_T hk3 (LpK_w hk3.2.1 (w232 y1) ((w232 y1).1 4 rfl))
              have h44 : X4.1 4 = nI b := hk4.1.trans h4
              have hL4 := hk4.2.1
              have hS4 : SHc X4 b q sh := by
                refine SHc_of hS h8 (fun i j _ => cv_of ?_)
                rw [show X4.2.2 i = X3.2.2 i from (w232 y1).2.2.1 i (by simp), show X3.2.2 i = X2.2.2 i from (w208 p1).2.2.1 i (by simp), nx_arr n1]
              obtain ⟨X5, hX5⟩ : ∃ X5, X5 = up (up (up X4 47 (8 * (100 * b + q) + sh.length) (hd ts).2.2.2) 48 (8 * (100 * b + q) + sh.length) v2) 46 (100 * b + q) (nI (sh.length + 1)) := ⟨_, rfl⟩
              have hR5 : RI X5 T fk (.inr ts4) := by rw [hX5]; exact RI_up (RI_up (RI_up w2 (by decide)) (by decide)) (by decide)
              have hS5 : SHc X5 b q (sh ++ [((hd ts).2.2.2, v2)]) := by rw [hX5]; exact SHc_add (x := ((hd ts).2.2.2, v2)) hL4 hb hq hS4 (by omega)
              have hk5 : LpK X1 X5 b q := by rw [hX5]; exact LpK_T hk4 (LpK_add (x := ((hd ts).2.2.2, v2)) hL4 (by omega))
              have h45 : X5.1 4 = nI b := hk5.1.trans h4
              have hL5 := hk5.2.1
              -- the writes
              have hch : gb230_372 n (gf230_301 n fu) (nI (24 * b + f)) l2 l3 l4 l5 (nI q) (nI (100 * b + q)) (sumS sh) 1 (hd ts).2.2.2 v2 X4 = gb230_440 n (gf230_301 n fu) (nI (24 * b + f)) l2 l3 l4 l5 (nI q) (nI (100 * b + q)) (sumS (sh ++ [((hd ts).2.2.2, v2)])) 1 (hd ts).2.2.2 v2 X5 := by
                unfold gb230_372
                rw [if_pos (ri_hd w2 w1).1]
                refine rst (j := 100 * b + q) hL4 (by decide) (by show _ < 200; omega) (by omega) rfl ?_
                rw [hS4.1]
                refine wst8 hL4 h44 hb (Or.inl rfl) hq (by omega) i8 ?_
                refine rst (j := 100 * b + q) (LN_up hL4) (by decide) (by show _ < 200; omega) (by omega) rfl ?_
                rw [cv_ne (Or.inl (by decide)), hS4.1]
                refine wst8 (LN_up hL4) h44 hb (Or.inr rfl) hq (by omega) i8 ?_
                refine rst (j := 100 * b + q) (LN_up (LN_up hL4)) (by decide) (by show _ < 200; omega) (by omega) rfl ?_
                rw [cv_ne (Or.inl (by decide)), cv_ne (Or.inl (by decide)), hS4.1, nI_1]
                refine wst 100 q (LN_up (LN_up hL4)) h44 hb (by decide) rfl (by decide) hq rfl (by decide) rfl ?_
                rw [← hX5, sumS_app]
              rw [hch]
              unfold gb230_440
              rw [if_pos (ri_hd hR5 w1).1, is_tok (s := 10) rfl (by decide) hR5 w1]
              dsimp only [Option.bind_some]
              by_cases h10 : (hd ts4).1 = 10
              · rw [show ((hd ts4).1 == 10) = true by simpa using h10, if_neg (by decide), if_pos h10]
                unfold gb230_462 gb230_473
                rw [if_neg (by decide)]
                obtain ⟨X6, m1, m2⟩ := ri_next hR5 hn
                rw [m1]
                dsimp only [Option.bind_some]
                have hk6 : LpK X5 X6 b q := LpK_nx hL5 m1
                obtain ⟨v7, X7, g1, g2⟩ := lp230 hb hf hq hn (l2 := l2) (l3 := l3) (l4 := l4) (l5 := l5) j fu (sh ++ [((hd ts).2.2.2, v2)]) (adv ts4) (X := X6) (by rw [List.length_append]; show j + (sh.length + 1) = 9; omega) (by rw [List.length_append]; show sh.length + 1 ≤ 8; omega) (by omega) hk6.2.1 (hk6.1.trans h45) (KND_LpK (KND_LpK hK hk5) hk6) (SHc_of hS5 (by rw [List.length_append]; show sh.length + 1 ≤ 8; omega) (fun i j _ => cv_of (by rw [nx_arr m1]))) m2
                refine ⟨v7, X7, g1, ?_⟩
                have hk56 := LpK_T hk5 hk6
                generalize rb (sShL k j (sh ++ [((hd ts).2.2.2, v2)]) (adv ts4)) spFin = rr at g2
                cases rr with
                | inl e => exact g2
                | inr x =>
                  have g2 : if (hd x.2).1 = 1 then RI X7 T fk (.inl (1, (hd x.2).2.1)) else RI X7 T fk (.inr x.2) ∧ v7 = nI q ∧ 1 ≤ x.1.length ∧ x.1.length ≤ 8 ∧ SHc X7 b q x.1 ∧ LpK X6 X7 b q := g2
                  show if (hd x.2).1 = 1 then RI X7 T fk (.inl (1, (hd x.2).2.1)) else RI X7 T fk (.inr x.2) ∧ v7 = nI q ∧ 1 ≤ x.1.length ∧ x.1.length ≤ 8 ∧ SHc X7 b q x.1 ∧ LpK X1 X7 b q
                  split
                  · rename_i hh; rw [if_pos hh] at g2; exact g2
                  · rename_i hh
                    rw [if_neg hh] at g2
                    exact ⟨g2.1, g2.2.1, g2.2.2.1, g2.2.2.2.1, g2.2.2.2.2.1, LpK_T hk56 g2.2.2.2.2.2⟩
              · rw [show ((hd ts4).1 == 10) = false by simpa using h10, if_pos b2_f, if_neg h10]
                unfold gb230_461 gb230_462 gb230_473
                rw [if_pos rfl]
                obtain ⟨fu, rfl⟩ : ∃ m, fu = m + 1 := ⟨fu - 1, by omega⟩
                show ∃ v X1, gb230_301 n (gf230_301 n fu) (nI (24 * b + f)) l2 l3 l4 l5 (nI q) (nI (100 * b + q)) (sumS (sh ++ [((hd ts).2.2.2, v2)])) 0 X5 = some (v, X1) ∧ _
                unfold gb230_301
                rw [if_pos rfl]
                obtain ⟨X6, m1, m2⟩ := e476 (n := n) (l1 := nI (24 * b + f)) (l2 := l2) (l3 := l3) (l4 := l4) (l5 := l5) (l6 := nI q) (l7 := nI (100 * b + q)) (l9 := 0) (sh := sh ++ [((hd ts).2.2.2, v2)]) hR5 w1 hn
                refine ⟨_, X6, m1, ?_⟩
                show PO _ X6 T fk _ (spFin (sh ++ [((hd ts).2.2.2, v2)], ts4))
                generalize spFin (sh ++ [((hd ts).2.2.2, v2)], ts4) = rr at m2
                cases rr with
                | inl e => exact m2
                | inr x =>
                  have m2 : if (hd x.2).1 = 1 then RI X6 T fk (.inl (1, (hd x.2).2.1)) else RI X6 T fk (.inr x.2) ∧ x = (sh ++ [((hd ts).2.2.2, v2)], adv ts4) ∧ g190 n X5 = some ((), X6) := m2
                  show if (hd x.2).1 = 1 then RI X6 T fk (.inl (1, (hd x.2).2.1)) else RI X6 T fk (.inr x.2) ∧ nI q = nI q ∧ 1 ≤ x.1.length ∧ x.1.length ≤ 8 ∧ SHc X6 b q x.1 ∧ LpK X1 X6 b q
                  split
                  · rename_i hh; rw [if_pos hh] at m2; exact m2
                  · rename_i hh
                    rw [if_neg hh] at m2
                    obtain ⟨s1, s2, s3⟩ := m2
                    have hx1 : x.1 = sh ++ [((hd ts).2.2.2, v2)] := by rw [s2]
                    have hl : x.1.length = sh.length + 1 := by rw [hx1, List.length_append]; rfl
                    refine ⟨s1, rfl, by omega, by omega, ?_, LpK_T hk5 (LpK_nx hL5 s3)⟩
                    rw [hx1]
                    exact SHc_of hS5 (by rw [← hx1]; omega) (fun i j _ => cv_of (by rw [nx_arr s3]))
end
end ZSP3

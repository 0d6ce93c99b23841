/-! THE REFERENCE'S EXPRESSION: among -/
section ZRA2
section
variable {n : Nat} {X X1 : zX} {b m p q fm cb c : Nat} {S : List Fr} {D P L : List Pd} {Q : List Nat} {φ : Den} {U0 : List Nat} {T : List Int32} {fk : Int32} {ts : List Tk} {segs : List (List Int32)}
/-- next of a part in hand -/
theorem Inv_jq {y : Nat} {v : Int32} (h : Inv X b m fm cb S D p P L Q) (hy : y ∈ Q) : Inv (up X 56 (400 * b + y) v) b m fm cb S D p P L Q := by
  have hyD := opn_D h (q := y) (List.mem_append_left _ hy)
  obtain ⟨⟨a1, a2, a3⟩, ⟨b1, b2'⟩, ⟨c1, c2⟩, ⟨d1, c, d2, d3⟩, f, g, U, u1, u2, u3, u4, u5, u6, u7, u8⟩ := h
  have hyo : ∀ q' ∈ opn S, q' ≠ y := by
    intro q' hq' e
    rw [List.nodup_append] at u5
    have := u5.2.1
    rw [List.nodup_append] at this
    exact this.2.2 y hy q' hq' e.symm
  have hUy : ∀ u, U u → u ≠ y := fun u hu e => (u7 y (List.mem_append_left _ hy)).2 (by rw [← e]; exact hu)
  have hp : ∀ j x, j ≠ 56 ∨ x ≠ y → pv (up X 56 (400 * b + y) v) b j x = pv X b j x := fun j x hx => cv_ne (by omega)
  have hs : SKa b X (up X 56 (400 * b + y) v) := SKa_up (by decide) (by decide) (by decide)
  refine ⟨⟨LN_up a1, a2, a3⟩, ⟨by rw [cv_ne (by omega)]; exact b1, b2'⟩, ⟨by rw [cv_ne (by omega)]; exact c1, c2⟩, ⟨d1, c, by rw [cv_ne (by omega)]; exact d2, d3⟩, FRS_of f (fun t i _ _ _ => cv_ne (by omega)) (fun q' hq' => ⟨hp 50 q' (by omega), hp 55 q' (by omega)⟩) (fun x hx => hp 56 _ (Or.inr (hyD x (u3 x (List.mem_append_right _ (List.mem_append_right _ hx))).1))), fun i x hx => by rw [cv_ne (by omega)]; exact g i x hx, U, fun i x hx => PMn_of (u1 i x hx) (fun i' _ _ => hp i' _ (by omega)) (fun u hu => ⟨hp 56 u (Or.inr (hUy u hu)), fun i _ h2 => hp i u (by omega)⟩) hs (fun _ q => q) (fun _ q => q), u2, u3, u4, u5, fun x hx => by rw [hp 56 _ (Or.inr (hyD x (u3 x (List.mem_append_left _ hx)).1))]; exact u6 x hx, u7, fun q' hq' => by rw [hp 56 _ (Or.inr (hyo q' hq'))]; exact u8 q' hq'⟩
/-- the parts that an among has besides its first -/
def AMs (X : zX) (b q : Nat) (l : List Nat) (th : List Thg) : Prop := (l = [] ∧ pv X b 55 q = -1 ∨ CHN X b q l) ∧ l.length = th.length ∧ ∀ (i x : Nat) (o : Thg), l[i]? = some x → th[i]? = some o → THG X b x o
def lst (l : List Nat) : Int32 := if l = [] then -1 else nI (l.getLastD 0)
/-- what the loop of readAmong leaves -/
def AmP (X X1 : zX) (b m fm cb : Nat) (S : List Fr) (D : List Pd) (q : Nat) (o0 : Thg) (T : List Int32) (fk : Int32) (r : RR (List Thg × List Tk × Nat)) : Prop := match r with
  | .inl e => RI X1 T fk (.inl e)
  | .inr x => RI X1 T fk (.inr x.2.1) ∧ ∃ l th, x.1 = o0 :: th ∧ Inv X1 b m fm cb S D x.2.2 [] [] (q :: l.reverse) ∧ AMs X1 b q l th ∧ SKa b X X1 ∧ (∀ i, 50 ≤ i → i ≤ 54 → pv X1 b i q = pv X b i q) ∧ pv X1 b 56 q = pv X b 56 q
theorem am_end {l1 l2 : Int32} {r : RR (List Tk)} (h : RI X T fk r) (hn : 6002 ≤ n) : ∃ X1, gb219_109 n l1 l2 X = some ((), X1) ∧ RI X1 T fk (rb r (sEat 8)) ∧ g208 n 41 X = some ((), X1) := by
  obtain ⟨X1, e1, e2⟩ := ri_eat (n := n) (c := 41) (s := 8) rfl (by decide) h hn
  refine ⟨X1, ?_, e2, e1⟩
  unfold gb219_109
  rw [e1]
  rfl
/-- a fault stands: the loop ends -/
theorem am_flt {l1 l2 : Int32} {e : Er} (h : RI X T fk (.inl e)) (hn : 6002 ≤ n) {k : Nat} (hk : 0 < k) : ∃ X1, gf219_13 n k l1 l2 X = some ((), X1) ∧ RI X1 T fk (.inl e) := by
  obtain ⟨k, rfl⟩ : ∃ j, k = j + 1 := ⟨k - 1, by omega⟩
  obtain ⟨X1, e1, e2, e3⟩ := am_end (l1 := l1) (l2 := l2) h hn
  refine ⟨X1, ?_, e2⟩
  show gb219_13 n (gf219_13 n k) l1 l2 X = _
  unfold gb219_13
  rw [if_neg (ri_flt h), e1]
theorem am_l {o0 : Thg} (hn : 6002 ≤ n) : ∀ (k kk : Nat) (l : List Nat) (th : List Thg) (ts : List Tk) (p : Nat) {X : zX}, Inv X b m fm cb S D p [] [] (q :: l.reverse) → RI X T fk (.inr ts) → AMs X b q l th → gdT ts → ts.length < k → 400 < kk + p → ∃ X1, gf219_13 n k (nI (400 * b + q)) (lst l) X = some ((), X1) ∧ AmP X X1 b m fm cb S D q o0 T fk (rb (sAmgL kk (o0 :: th) ts p) fun x => rb (sEat 8 x.2.1) fun ts => .inr (x.1, ts, x.2.2))
  | 0, kk, l, th, ts, p, X, _, _, _, _, h, _ => by omega
  | k + 1, 0, l, th, ts, p, X, hI, _, _, _, _, h => by have := hI.2.1.2; omega
  | k + 1, kk + 1, l, th, ts, p, X, hI, hR, hA, hg, hk, hkk => by
    have hI0 := hI
    obtain ⟨⟨a1, a2, a3⟩, ⟨b1, b2'⟩, _, ⟨d1, c, d2, d3⟩, _⟩ := hI
    have hq4 : q < 400 := opn_lt hI0 (by simp)
    show ∃ X1, gb219_13 n (gf219_13 n k) (nI (400 * b + q)) (lst l) X = some ((), X1) ∧ _
    by_cases hbr : (hd ts).1 = 1
    · -- a broken token
      have h' := ri_of_brk hR hbr (k := 2)
      have hs : (rb (sAmgL (kk + 1) (o0 :: th) ts p) fun x => rb (sEat 8 x.2.1) fun ts => .inr (x.1, ts, x.2.2)) = .inl (sErr 2 (hd ts)) := by
        conv => lhs; unfold sAmgL
        rw [if_neg (by omega), rb_inr]
        show (rb (sEat 8 ts) fun ts => .inr (o0 :: th, ts, p)) = _
        unfold sEat sTake
        rw [if_neg (by omega)]
        rfl
      rw [hs]
      obtain ⟨X1, e1, e2, _⟩ := am_end (n := n) (l1 := nI (400 * b + q)) (l2 := lst l) h' hn
      refine ⟨X1, ?_, e2⟩
      unfold gb219_13
      rw [if_neg (ri_flt h'), e1]
    · obtain ⟨r1, r2, r3, r4, r5, r6, r7⟩ := ri_hd hR hbr
      unfold gb219_13
      rw [if_pos r1, is_tok (c := 44) (s := 10) rfl (by decide) hR hbr]
      dsimp only [Option.bind_some]
      obtain ⟨g1, g2, g3, g4⟩ := gd_adv hg
      by_cases hc : (hd ts).1 = 10
      · rw [show ((hd ts).1 == 10) = true by simpa using hc, if_neg (by decide)]
        have hal := g2 (by omega)
        obtain ⟨X2, e1, e2⟩ := ri_next hR hn
        rw [e1]
        dsimp only [Option.bind_some]
        have hI2 := Inv_nx hI0 e1
        have hun : sAmgL (kk + 1) (o0 :: th) ts p = rb (sOne (adv ts)) fun x => rb (sPrt p x.1) fun p => sAmgL kk (o0 :: th ++ [thg x.1]) x.2 p := by
          conv => lhs; unfold sAmgL
          rw [if_pos hc]
        rw [hun]
        -- where a fault comes
        have hfl : ∀ {X3 : zX} {e : Er} {l2 : Int32}, RI X3 T fk (.inl e) → ∃ X1, gb219_106 n (gf219_13 n k) (nI (400 * b + q)) (lst l) l2 X3 = some ((), X1) ∧ RI X1 T fk (.inl e) := by
          intro X3 e l2 h3
          unfold gb219_106
          exact am_flt h3 hn (by omega)
        have hflN : ∀ {X3 : zX} {e : Er} {v : Int32}, RI X3 T fk (.inl e) → ∃ X1, gb219_56 n (gf219_13 n k) (nI (400 * b + q)) (lst l) v X3 = some ((), X1) ∧ RI X1 T fk (.inl e) := by
          intro X3 e v h3
          unfold gb219_56
          rw [ri_needF h3]
          dsimp only [Option.bind_some]
          rw [newP_flt (ri_flt h3)]
          dsimp only [Option.bind_some]
          rw [if_neg (ri_flt h3)]
          exact hfl h3
        by_cases hb2 : (hd (adv ts)).1 = 1
        · have h' := ri_of_brk e2 hb2 (k := 2)
          have hs : sOne (adv ts) = .inl (sErr 2 (hd (adv ts))) := by
            unfold sOne sTake
            rw [if_neg (by rw [hb2]; decide)]
          rw [hs, rb_inl, rb_inl]
          unfold gb219_51
          split
          · exact hflN h'
          · split
            · exact hflN h'
            · exact hflN h'
        · obtain ⟨q1, q2, q3, q4, q5, q6, q7⟩ := ri_hd e2 hb2
          by_cases h34 : (hd (adv ts)).1 = 3 ∨ (hd (adv ts)).1 = 4
          · have hgo : (if (X2.1 69) = 2 then gb219_51 n (gf219_13 n k) (nI (400 * b + q)) (lst l) X2 else if (X2.1 69) = 3 then gb219_51 n (gf219_13 n k) (nI (400 * b + q)) (lst l) X2 else gb219_56 n (gf219_13 n k) (nI (400 * b + q)) (lst l) 0 X2) = gb219_56 n (gf219_13 n k) (nI (400 * b + q)) (lst l) 1 X2 := by
              rw [q4]
              rcases h34 with z | z
              · rw [z, if_pos (by decide)]; rfl
              · rw [z, if_neg (by decide), if_pos (by decide)]; rfl
            rw [hgo]
            have hso : sOne (adv ts) = .inr (hd (adv ts), adv (adv ts)) := by
              unfold sOne sTake
              rw [if_pos]
              rcases h34 with z | z
              · rw [z, if_pos rfl]
              · rw [z, if_neg (by decide)]
            rw [hso, rb_inr]
            unfold gb219_56
            rw [need_1]
            dsimp only [Option.bind_some]
            obtain ⟨k1, k2, k3, k4⟩ := gd_adv g1
            by_cases hp : p < 400
            · have hsp : sPrt p (hd (adv ts)) = .inr (p + 1) := by unfold sPrt; rw [if_neg (by omega)]
              rw [hsp, rb_inr]
              have hI2' := hI2
              obtain ⟨⟨m1, m2, m3⟩, ⟨m4, m5⟩, _⟩ := hI2
              rw [newP m1 m2 a3 q1 m4 hp]
              dsimp only [Option.bind_some]
              rw [if_pos (show (nP X2 b p 11).1 73 = -1 from q1)]
              have hI3 := Inv_new (k := 11) hI2' hp
              have own := nP_own (k := (11 : Int32)) m1 a3 hp
              have hR3 : RI (nP X2 b p 11) T fk (.inr (adv ts)) := RI_nP e2
              have hc3 : cv (nP X2 b p 11) 1 b = nI c := by
                rw [nP_cv (by omega) (by omega), cv_of (X := X) (X1 := X2) (by rw [nx_arr e1])]
                exact d2
              obtain ⟨X4, f1, f2⟩ := one_ok (n := n) hI3 hR3 hc3 (by omega) hn
              rw [hso] at f2
              obtain ⟨f2, f3, f4, ⟨c', f5, f6⟩, f7, f8⟩ := f2
              have hi4 : (400 : Int32) * (nP X2 b p 11).1 4 + nI p = nI (400 * b + p) := i400 m2
              rw [hi4, f1]
              dsimp only [Option.bind_some]
              have hf4 : X4.1 4 = nI b := f3.1.2.1
              have hsubq : nI (400 * b + q) - 400 * X4.1 4 = nI q := by
                rw [hf4, show (400 : Int32) = nI 400 from rfl, nI_mul, pk_sub (by omega)]
                congr 1
                omega
              rw [hsubq]
              -- facts of the chain so far, in X4
              have hpq : p ≠ q := by
                intro z
                have hh := hI3
                obtain ⟨_, _, _, _, _, _, U, u1, u2, u3, u4, u5, u6, u7, u8⟩ := hh
                rw [List.nodup_append] at u5
                have := u5.2.1
                rw [List.cons_append, List.nodup_cons] at this
                exact this.1 (by rw [z]; simp)
              have hndl : (l ++ []).Nodup ∧ p ∉ l := by
                have hh := hI3
                obtain ⟨_, _, _, _, _, _, U, u1, u2, u3, u4, u5, u6, u7, u8⟩ := hh
                rw [List.nodup_append] at u5
                have u9 := u5.2.1
                rw [List.cons_append, List.nodup_cons] at u9
                refine ⟨?_, fun hm => u9.1 (by simp [hm])⟩
                rw [List.append_nil]
                have := u9.2
                rw [List.cons_append, List.nodup_cons, List.nodup_append] at this
                exact (List.reverse_perm l).nodup_iff.mp this.2.1
              rw [List.append_nil] at hndl
              have hcl : ∀ i w, w ≠ p → 50 ≤ i → pv X4 b i w = pv X b i w := by
                intro i w hw hi
                rw [f8 i w (Or.inl hw) hi, nP_pv hw hi]
                exact cv_of (by rw [nx_arr e1])
              have h56p : pv X4 b 56 p = -1 := by
                rw [f8 56 p (by omega) (by omega)]
                exact own.2.2.2.2.2.2.1
              have hsk4 : SKa b X X4 := SKa_tr (SKa_nx e1) (SKa_tr nP_SK f7)
              have hlm : ∀ x ∈ l, x ≠ p := fun x hx z => hndl.2 (by rw [← z]; exact hx)
              obtain ⟨hA1, hA2, hA3⟩ := hA
              have hTH : ∀ (i x : Nat) (o : Thg), (l ++ [p])[i]? = some x → (th ++ [thg (hd (adv ts))])[i]? = some o → THG X4 b x o := by
                intro i x o hx ho
                rcases Nat.lt_or_ge i l.length with hi | hi
                · rw [List.getElem?_append_left hi] at hx
                  rw [List.getElem?_append_left (by omega)] at ho
                  have hxp := hlm x (List.mem_of_getElem? hx)
                  exact THG_of (hA3 i x o hx ho) (fun j h1 h2 => hcl j x hxp (by omega)) hsk4
                · rw [List.getElem?_append_right hi] at hx
                  rw [List.getElem?_append_right (by omega)] at ho
                  have hi0 : i - l.length = 0 := by
                    rcases Nat.eq_zero_or_pos (i - l.length) with z | z
                    · exact z
                    · rw [List.getElem?_eq_none (by show 1 ≤ _; omega)] at hx; cases hx
                  rw [hi0] at hx
                  rw [show i - th.length = 0 by omega] at ho
                  cases hx
                  cases ho
                  exact f4
              have hlast : lst (l ++ [p]) = nI p := by
                unfold lst
                rw [if_neg (by simp), List.getLastD_concat]
              have hgl : gdT (adv (adv ts)) := k1
              have hlen2 : (adv (adv ts)).length + 1 = (adv ts).length := k2 (by rcases h34 with z | z <;> omega)
              -- the join
              have hfin : ∀ {X5 : zX}, Inv X5 b m fm cb S D (p + 1) [] [] (q :: (l ++ [p]).reverse) → RI X5 T fk (.inr (adv (adv ts))) → AMs X5 b q (l ++ [p]) (th ++ [thg (hd (adv ts))]) → SKa b X X5 → (∀ i, 50 ≤ i → i ≤ 54 → pv X5 b i q = pv X b i q) → pv X5 b 56 q = pv X b 56 q → ∃ X1, gb219_106 n (gf219_13 n k) (nI (400 * b + q)) (nI p) (nI p) X5 = some ((), X1) ∧ AmP X X1 b m fm cb S D q o0 T fk (rb (sAmgL kk (o0 :: th ++ [thg (hd (adv ts))]) (adv (adv ts)) (p + 1)) fun x => rb (sEat 8 x.2.1) fun ts => .inr (x.1, ts, x.2.2)) := by
                intro X5 z1 z2 z3 z4 z5 z6
                obtain ⟨X1, w1, w2⟩ := am_l (o0 := o0) hn k kk (l ++ [p]) (th ++ [thg (hd (adv ts))]) (adv (adv ts)) (p + 1) z1 z2 z3 hgl (by omega) (by omega)
                rw [hlast] at w1
                refine ⟨X1, w1, ?_⟩
                rw [show o0 :: th ++ [thg (hd (adv ts))] = o0 :: (th ++ [thg (hd (adv ts))]) from rfl]
                revert w2
                generalize (rb (sAmgL kk (o0 :: (th ++ [thg (hd (adv ts))])) (adv (adv ts)) (p + 1)) fun x => rb (sEat 8 x.2.1) fun ts => .inr (x.1, ts, x.2.2)) = rr
                intro w2
                cases rr with
                | inl e => exact w2
                | inr x =>
                  obtain ⟨y1, l', th', y2, y3, y4, y5, y6, y7⟩ := w2
                  exact ⟨y1, l', th', y2, y3, y4, SKa_tr z4 y5, fun i h1 h2 => (y6 i h1 h2).trans (z5 i h1 h2), y7.trans z6⟩
              have hperm : (q :: (l ++ [p]).reverse ++ opn S).Perm (p :: q :: l.reverse ++ opn S) := by
                rw [List.reverse_append]
                exact List.Perm.swap p q _
              have hI4 := Inv_re (Q1 := q :: (l ++ [p]).reverse) f3 f3.2.2.2.2.1 hperm (List.Perm.refl _) (fun x hx => by cases hx) (Inv_o f3)
              rcases hA1 with ⟨hl0, h55⟩ | hch
              · subst hl0
                rw [show lst [] = -1 from rfl, join0 f3.1.1 hf4 a3 hq4]
                dsimp only [Option.bind_some]
                have hcell : ∀ i w, i ≠ 55 ∨ w ≠ q → pv (up X4 55 (400 * b + q) (nI p)) b i w = pv X4 b i w := fun i w h => cv_ne (by omega)
                refine hfin (Inv_j0 hI4) (RI_up f2 (by decide)) ⟨Or.inr ⟨by simp, cv_eq f3.1.1 (by decide) (by show 400 * b + q < 800; omega), ?_⟩, by rw [List.length_append, List.length_append, hA2]; rfl, fun i x o hx ho => THG_of (hTH i x o hx ho) (fun j _ h2 => hcell j x (by omega)) (SKa_up (by decide) (by decide) (by decide))⟩ (SKa_tr hsk4 (SKa_up (by decide) (by decide) (by decide))) (fun i h1 h2 => ?_) ?_
                · show pv _ b 56 p = -1
                  rw [hcell 56 p (by omega)]
                  exact h56p
                · rw [hcell i q (by omega)]
                  exact hcl i q (fun z => hpq z.symm) h1
                · rw [hcell 56 q (by omega)]
                  exact hcl 56 q (fun z => hpq z.symm) (by omega)
              · have hlne := hch.1
                obtain ⟨l0, y, hl⟩ : ∃ l0 y, l = l0 ++ [y] := ⟨l.dropLast, l.getLast hlne, (List.dropLast_concat_getLast hlne).symm⟩
                have hlsty : lst l = nI y := by
                  unfold lst
                  rw [if_neg hlne, hl, List.getLastD_concat]
                have hyl : y ∈ l := by rw [hl]; simp
                have hyQ : y ∈ q :: (l ++ [p]).reverse := by simp [hyl]
                have hy4 : y < 400 := opn_lt hI4 (List.mem_append_left _ hyQ)
                have hyq : y ≠ q := by
                  intro z
                  have hh := hI4
                  obtain ⟨_, _, _, _, _, _, U, u1, u2, u3, u4, u5, u6, u7, u8⟩ := hh
                  rw [List.nodup_append] at u5
                  have := u5.2.1
                  rw [List.cons_append, List.nodup_cons] at this
                  exact this.1 (by rw [← z]; simp [hyl])
                rw [hlsty, join1 f3.1.1 hf4 a3 hy4]
                dsimp only [Option.bind_some]
                have hcell : ∀ i w, i ≠ 56 ∨ w ≠ y → pv (up X4 56 (400 * b + y) (nI p)) b i w = pv X4 b i w := fun i w h => cv_ne (by omega)
                have hch4 : CHN X4 b q l := CHN_of hch (hcl 55 q (fun z => hpq z.symm) (by omega)) (fun x hx => hcl 56 x (hlm x hx) (by omega))
                refine hfin (Inv_jq hI4 hyQ) (RI_up f2 (by decide)) ⟨Or.inr ?_, by rw [List.length_append, List.length_append, hA2]; rfl, fun i x o hx ho => THG_of (hTH i x o hx ho) (fun j _ h2 => hcell j x (by omega)) (SKa_up (by decide) (by decide) (by decide))⟩ (SKa_tr hsk4 (SKa_up (by decide) (by decide) (by decide))) (fun i h1 h2 => ?_) ?_
                · rw [hl] at hch4 hndl ⊢
                  exact CHN_app hch4 hndl.1 h56p (fun z => hndl.2 (by rw [z]; simp)) (fun hm => hndl.2 (by simp [hm])) f3.1.1 (by omega)
                · rw [hcell i q (by omega)]
                  exact hcl i q (fun z => hpq z.symm) h1
                · rw [hcell 56 q (Or.inr (fun z => hyq z.symm))]
                  exact hcl 56 q (fun z => hpq z.symm) (by omega)
            · have hsp : sPrt p (hd (adv ts)) = .inl (sErr 5 (hd (adv ts))) := by unfold sPrt; rw [if_pos (by omega)]
              rw [hsp, rb_inl, rb_inl]
              obtain ⟨X3, f1, f2⟩ := new_flt (n := n) (k := 11) hI2 e2 hb2 hp
              rw [f1]
              dsimp only [Option.bind_some]
              rw [if_neg (ri_flt f2)]
              exact hfl f2
          · have hgo : (if (X2.1 69) = 2 then gb219_51 n (gf219_13 n k) (nI (400 * b + q)) (lst l) X2 else if (X2.1 69) = 3 then gb219_51 n (gf219_13 n k) (nI (400 * b + q)) (lst l) X2 else gb219_56 n (gf219_13 n k) (nI (400 * b + q)) (lst l) 0 X2) = gb219_56 n (gf219_13 n k) (nI (400 * b + q)) (lst l) 0 X2 := by
              have hk2 : kdO (hd (adv ts)).1 ≠ 2 ∧ kdO (hd (adv ts)).1 ≠ 3 := by
                generalize (hd (adv ts)).1 = s at h34
                unfold kdO
                constructor
                · intro z
                  repeat (split at z; first | exact absurd z (by decide) | omega)
                  exact absurd z (by decide)
                · intro z
                  repeat (split at z; first | exact absurd z (by decide) | omega)
                  exact absurd z (by decide)
              rw [q4, if_neg hk2.1, if_neg hk2.2]
            rw [hgo]
            have hso : sOne (adv ts) = .inl (sErr 2 (hd (adv ts))) := by
              unfold sOne sTake
              rw [if_neg]
              split <;> omega
            rw [hso, rb_inl, rb_inl]
            obtain ⟨X3, f1, f2⟩ := ri_need (n := n) (b := false) e2 hb2
            rw [if_neg (by decide)] at f2
            unfold gb219_56
            rw [show g200 n 0 X2 = some ((), X3) from f1]
            dsimp only [Option.bind_some]
            rw [newP_flt (ri_flt f2)]
            dsimp only [Option.bind_some]
            rw [if_neg (ri_flt f2)]
            exact hfl f2
      · rw [show ((hd ts).1 == 10) = false by simpa using hc, if_pos b2_f]
        have hun : sAmgL (kk + 1) (o0 :: th) ts p = .inr (o0 :: th, ts, p) := by
          conv => lhs; unfold sAmgL
          rw [if_neg hc]
        rw [hun, rb_inr]
        obtain ⟨X1, e1, e2, e3⟩ := am_end (n := n) (l1 := nI (400 * b + q)) (l2 := lst l) hR hn
        refine ⟨X1, e1, ?_⟩
        rw [show rb (.inr ts) (sEat 8) = sEat 8 ts from rfl] at e2
        have hw := w208 e3
        have ha : X1.2.2 = X.2.2 := funext fun i => hw.2.2.1 i (by simp)
        cases hs : sEat 8 ts with
        | inl e =>
          rw [hs] at e2
          exact e2
        | inr ts' =>
          rw [hs] at e2
          refine ⟨e2, l, th, rfl, Inv_tok hI0 ha (hw.1 4 rfl), ?_, SKa_of (by rw [ha]) (by rw [ha]) (by rw [ha]), fun i _ _ => cv_of (by rw [ha]), cv_of (by rw [ha])⟩
          obtain ⟨hA1, hA2, hA3⟩ := hA
          have hcv : ∀ i w, pv X1 b i w = pv X b i w := fun i w => cv_of (by rw [ha])
          refine ⟨?_, hA2, fun i x o hx ho => THG_of (hA3 i x o hx ho) (fun j _ _ => hcv j x) (SKa_of (by rw [ha]) (by rw [ha]) (by rw [ha]))⟩
          rcases hA1 with z | z
          · exact Or.inl ⟨z.1, by rw [hcv]; exact z.2⟩
          · exact Or.inr (CHN_of z (hcv 55 q) (fun w _ => hcv 56 w))
end
end ZRA2

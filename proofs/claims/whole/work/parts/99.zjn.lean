/-! THE CLASS READS: among -/
section ZJN
section
variable {n : Nat} {Y Y0 Y1 Y2 Z : zY} {a b s k p m e tp r q rd pl W W2 WE : Nat} {S S1 F F1 F2 : List Nat} {T : List Int32} {t : Tk} {ts : List Tk} {x v : Int32} {o o' : yO} {nx nx' vv : Value} {φ ψ : Den} {l : Nat → Nat} {os rc sq : Nat}
def amE (w : List Int32) (x : List Thg × List Tk × Nat) : RR (Den × List Tk × Nat) := rb (sEat 8 x.2.1) fun ts => .inr (dAmong w x.1, ts, x.2.2)
/-- the last of the ones -/
def AMl (Y : zY) (b : Nat) (Y0 : zY) (fi : Value) (ofs : List Tk) (la : Option Nat) (F : List Nat) : Prop :=
  (la = none ∧ fi = .null ∧ ofs = [] ∧ F = []) ∨ (∃ a c o' ofs' F', la = some a ∧ ofs = ofs' ++ [o'] ∧ AMC Y ofs' fi (.ref a) F' ∧ Y.1 a = some (oB 3 [.ref 42, .null, .ref c, .int (-1), .null, .null]) ∧ 139 ≤ a ∧ RTk Y c o' ∧ (o'.1 = 3 ∨ o'.1 = 4) ∧ a ∉ F' ∧ F = F' ++ [a])
theorem amc_l {w : List Int32} {wt ot : Nat} {o : Tk} (hD : DM Y0) (hb0 : Y0.2.1 ≤ b) (hr : rd ∈ S) (hpS : pl ∈ S) (hE : W ≤ WE + 250) : ∀ (fu i : Nat) {Y : zY} {ts : List Tk} {p : Nat} {fi : Value} {la : Option Nat} {ofs : List Tk} {F : List Nat}, i ≤ 401 → 401 - i < fu → RS rd pl W Y ts → FR Y0 Y S → PLC Y pl l os p rc sq → p ≤ 400 → Y.1 b = some (oB 3 [.ref 42, .ref wt, .ref ot, .int (-1), fi, .null]) → RNm Y wt w → RTk Y ot o → (o.1 = 3 ∨ o.1 = 4) → AMl Y b Y0 fi ofs la F → b ∉ F → (∀ c ∈ F, Y0.2.1 ≤ c) → CR rd pl Y0 S W WE (cf83_32 n fu rd (some b) la (nI i) Y) (rb (sAmgL (401 - i) (thg o :: ofs.map thg) ts p) (amE w)) (fun x => x.2.1) (fun Y1 x _ => (∃ F, PRT Y1 1 b x.1 .null F ∧ ∀ c ∈ F, Y0.2.1 ≤ c) ∧ PLC Y1 pl l os x.2.2 rc sq ∧ x.2.2 ≤ 400)
  | 0, i, Y, ts, p, fi, la, ofs, F, _, h, _, _, _, _, _, _, _, _, _, _, _ => by omega
  | fu + 1, i, Y, ts, p, fi, la, ofs, F, hi, hfu, h, hf, hP, hp, hb, hw, ho, hot, hA, hbF, hF0 => by
    have h231 := hD.1
    have hW := h.2.2
    have hlt := rdr_len h.2.1
    have hpr := pl_rd h hP
    have hbr : b ≠ rd := RS_ne h hb (by decide)
    have hb139 : 139 ≤ b := by omega
    have hs1 : ∀ a ∈ [rd], a ∈ S ∨ Y0.2.1 ≤ a := fun a h => Or.inl (by rw [List.mem_singleton.mp h]; exact hr)
    have hs2 : ∀ a ∈ [rd, pl], a ∈ S ∨ Y0.2.1 ≤ a := fun a h => Or.inl (by
      rcases List.mem_cons.mp h with e | e
      · rw [e]; exact hr
      · rw [List.mem_singleton.mp e]; exact hpS)
    -- the chain so far
    have hAM : AMC Y ofs fi .null F := by
      rcases hA with ⟨_, q2, q3, q4⟩ | ⟨a, c, o', ofs', F', _, q2, q3, q4, q5, q6, q7, q8, q9⟩
      · subst q3 q4; exact ⟨q2, rfl⟩
      · subst q2 q9; exact AMC_snoc q3 q4 q5 q6 q7
    have fin : CR rd pl Y0 S W WE (cb83_116 n rd (some b) la (nI i) Y) (amE w (thg o :: ofs.map thg, ts, p)) (fun x => x.2.1) (fun Y1 x _ => (∃ F, PRT Y1 1 b x.1 .null F ∧ ∀ c ∈ F, Y0.2.1 ≤ c) ∧ PLC Y1 pl l os x.2.2 rc sq ∧ x.2.2 ≤ 400) := by
      unfold cb83_116 amE
      rw [rb_eat]
      refine CR_g (rdr_o h.2.1) ?_
      refine CR_b (tk_ok (s := 8) h (by omega) hE) hf hs1 hD ?_
      rintro ⟨t, ts'⟩ v Y1 hS1 hf1 hf01 ⟨q, e, nx, rfl, q2, q3, q4, q5, q6⟩
      dsimp only at hS1 q2 q3 q4 q5 q6 ⊢
      refine CR_s (s := (dAmong w (thg o :: ofs.map thg), ts', p)) (RS_le hS1 (by omega)) hf01 ⟨⟨b :: F, ⟨41, .ref wt, .ref ot, -1, fi, F, rfl, hbF, hb139, FR_k hf1 hb (by simpa using hbr), ?_⟩, ?_⟩, PLC_k hP hf1 (by simpa using hpr), hp⟩
      · exact Or.inr (Or.inr (Or.inr (Or.inr ⟨w, wt, rfl, RNm_k hf1.2.2 hw, Or.inr (Or.inr ⟨rfl, ot, o, ofs, rfl, RTk_k hf1.2.2 ho, hot, AMC_k hf1.2.2 hAM, rfl⟩)⟩)))
      · intro c hc
        rcases List.mem_cons.mp hc with e | e
        · rw [e]; exact hb0
        · exact hF0 c e
    show CR rd pl Y0 S W WE (cb83_32 n (cf83_32 n fu) rd (some b) la (nI i) Y) _ _ _
    unfold cb83_32
    by_cases hz : i = 401
    · rw [if_pos (by rw [hz]; decide), hz, show 401 - 401 = 0 from rfl]
      rw [hz] at fin
      exact fin
    · rw [if_neg (by rw [show (400 : Int32) = nI 400 from rfl, nI_ltI (by omega) (by omega)]; omega)]
      refine cr_hd h.2.1 (by omega) fun _ => ?_
      rw [show 401 - i = (401 - (i + 1)) + 1 by omega]
      unfold sAmgL
      by_cases hc : (hd ts).1 = 10
      · rw [if_pos (decide_eq_true (by omega)), if_pos hc]
        refine CR_g (rdr_o h.2.1) ?_
        have ht := tk_any (n := n) h (by omega) hE
        rw [hc] at ht
        refine CR_i ht hf hs1 hD ?_
        rintro v Y1 hS1 hf1 hf01 ⟨q, e, nx, rfl, q2, q3, q4, q5⟩
        dsimp only at hS1 q2 q3 q4 q5
        obtain ⟨⟨g, g1, g2⟩, g3⟩ := on_ok (n := n) (WE := WE) hS1 (by omega)
        refine CR_g (rdr_o hS1.2.1) (CR_y g1 (CR_g (rdr_o hS1.2.1) ?_))
        rw [rb_assoc]
        refine CR_b (g3 g g2) hf01 hs1 hD ?_
        rintro ⟨o2, ts2⟩ v Y2 hS2 hf2 hf02 ⟨c, rfl, c2, c3, c4, c5⟩
        dsimp only at hS2 c2 c3 c4 c5 ⊢
        rw [rb_assoc]
        refine CR_g (rdr_o hS2.2.1) ?_
        have hP2 := PLC_k (PLC_k hP hf1 (by simpa using hpr)) hf2 (by simpa using hpr)
        have c2' := c2
        obtain ⟨e3, nx3, c2'⟩ := c2'
        refine CR_b (np_ok (s := 41) hS2 hP2.1 hP2.2 c2' (by omega) (by omega)) hf02 hs2 hD ?_
        rintro p' v Y3 hS3 hf3 hf03 ⟨d, rfl, d1, d2, d3, d4, d5, d6, d7⟩
        have hd0 : Y0.2.1 ≤ d := by have := hf02.1; omega
        have hdr : d ≠ rd := RS_ne hS3 d3 (by decide)
        refine CR_y rfl (CR_y (yP_of d3 (by omega) rfl rfl) ?_)
        obtain ⟨Y4, hY4⟩ : ∃ Y4, Y4 = yu Y3 d (some (oB 3 [.ref 42, .null, .ref c, .int (-1), .null, .null])) := ⟨_, rfl⟩
        rw [show yu Y3 d (some (oB 3 (zs [.ref (41 + 1), .null, .null, .int (-1), .null, .null] 2 (va_rf (some c))))) = Y4 by rw [hY4]; rfl]
        -- what stood in Y stands in Y3
        have hi3 : IMK Y Y3 := IMK_T hf1.2.2 (IMK_T hf2.2.2 hf3.2.2)
        have hi23 : IMK Y2 Y3 := hf3.2.2
        have hS4 : RS rd pl W Y4 ts2 := by rw [hY4]; exact RS_le (RS_w hS3 d3 rfl hdr (by omega)) (by omega)
        have hf4 : FR Y0 Y4 S := by rw [hY4]; exact FR_n hf03 hD hd0
        have hP4 : PLC Y4 pl l os p' rc sq := by rw [hY4]; exact PLC_u ⟨d4, hP.2⟩ d3 (by decide)
        have hd4 : Y4.1 d = some (oB 3 [.ref 42, .null, .ref c, .int (-1), .null, .null]) := by rw [hY4]; exact yu_s
        have hbY := h.1.2.2 _ _ hb
        have hY12 : Y.2.1 ≤ Y2.2.1 := Nat.le_trans hf1.1 hf2.1
        have hbd : b ≠ d := by omega
        have hb4 : Y4.1 b = some (oB 3 [.ref 42, .ref wt, .ref ot, .int (-1), fi, .null]) := by rw [hY4, yu_n hbd]; exact hi3 _ _ hb rfl
        have hw4 : RNm Y4 wt w := by rw [hY4]; exact RNm_t (RTk_w d3 rfl) (RNm_k hi3 hw)
        have ho4 : RTk Y4 ot o := by rw [hY4]; exact RTk_w d3 rfl _ _ (RTk_k hi3 ho)
        have hc4 : RTk Y4 c o2 := by rw [hY4]; exact RTk_w d3 rfl _ _ (RTk_k hi23 c2)
        have hFlt : ∀ x ∈ F, x ≠ d := by
          intro x hx
          have : ∀ {os : List Tk} {v nx : Value} {F : List Nat}, AMC Y os v nx F → ∀ x ∈ F, x < Y.2.1 := by
            intro os
            induction os with
            | nil => intro v nx F q x hx; rw [q.2] at hx; cases hx
            | cons o os ih =>
              intro v nx F q x hx
              obtain ⟨a, b, nx', F', h1, h2, h3, h4, h5, h6, h7⟩ := q
              rw [h7] at hx
              rcases List.mem_cons.mp hx with e | e
              · rw [e]; exact h.1.2.2 _ _ h2
              · exact ih h6 x e
          have := this hAM x hx
          omega
        have hdF : d ∉ F := fun e => hFlt d e rfl
        have hstep : ∀ {Y5 : zY} {fi5 : Value} {F5 : List Nat}, RS rd pl W Y5 ts2 → FR Y0 Y5 S → PLC Y5 pl l os p' rc sq → Y5.1 b = some (oB 3 [.ref 42, .ref wt, .ref ot, .int (-1), fi5, .null]) → RNm Y5 wt w → RTk Y5 ot o → AMl Y5 b Y0 fi5 (ofs ++ [o2]) (some d) F5 → b ∉ F5 → (∀ c ∈ F5, Y0.2.1 ≤ c) → CR rd pl Y0 S W WE (cb83_107 n (cf83_32 n fu) rd (some b) la (nI i) (some c) (some d) Y5) (rb (sAmgL (401 - (i + 1)) (thg o :: ofs.map thg ++ [thg o2]) ts2 p') (amE w)) (fun x => x.2.1) (fun Y1 x _ => (∃ F, PRT Y1 1 b x.1 .null F ∧ ∀ c ∈ F, Y0.2.1 ≤ c) ∧ PLC Y1 pl l os x.2.2 rc sq ∧ x.2.2 ≤ 400) := by
          intro Y5 fi5 F5 a1 a2 a3 a4 a5 a6 a7 a8 a9
          unfold cb83_107
          rw [nI_1]
          have := amc_l hD hb0 hr hpS hE fu (i + 1) (by omega) (by omega) a1 a2 a3 (by omega) a4 a5 a6 hot a7 a8 a9
          rw [show (ofs ++ [o2]).map thg = ofs.map thg ++ [thg o2] by rw [List.map_append]; rfl] at this
          exact this
        rcases hA with ⟨q1, q2, q3, q4⟩ | ⟨a, c', o', ofs', F', q1, q2, q3, q4, q5, q6, q7, q8, q9⟩
        · subst q1 q2 q3 q4
          dsimp only
          refine CR_y rfl (CR_y (yP_of hb4 hb139 rfl rfl) ?_)
          have hdb : Y4.1 b = some (oB 3 [.ref 42, .ref wt, .ref ot, .int (-1), .null, .null]) := hb4
          refine hstep (F5 := [d]) (RS_w hS4 hb4 rfl hbr hb139) (FR_n hf4 hD hb0) (PLC_u hP4 hb4 (by decide)) yu_s (RNm_t (RTk_w hb4 rfl) hw4) (RTk_w hb4 rfl _ _ ho4) (Or.inr ⟨d, c, o2, [], [], rfl, rfl, ⟨rfl, rfl⟩, ?_, by omega, RTk_w hb4 rfl _ _ hc4, c3, by simp, rfl⟩) (by simpa using hbd) (fun x hx => by rw [List.mem_singleton.mp hx]; exact hd0)
          rw [yu_n hbd.symm]; exact hd4
        · subst q1 q2 q9
          dsimp only
          have had : a ≠ d := hFlt a (by simp)
          have hab : b ≠ a := fun e => hbF (by rw [e]; simp)
          have hbF' : b ∉ F' := fun e => hbF (List.mem_append_left _ e)
          have ha4 : Y4.1 a = some (oB 3 [.ref 42, .null, .ref c', .int (-1), .null, .null]) := by rw [hY4, yu_n had]; exact hi3 _ _ q4 rfl
          refine CR_y (yP_of ha4 q5 rfl rfl) ?_
          have har : a ≠ rd := RS_ne hS4 ha4 (by decide)
          have ha0 : Y0.2.1 ≤ a := hF0 a (by simp)
          have hAMC4 : AMC Y4 ofs' fi (.ref a) F' := by rw [hY4]; exact AMC_u (AMC_k hi3 q3) d3 (fun e => hdF (List.mem_append_left _ e))
          obtain ⟨Y5, hY5⟩ : ∃ Y5, Y5 = yu Y4 a (some (oB 3 [.ref 42, .null, .ref c', .int (-1), .null, .ref d])) := ⟨_, rfl⟩
          rw [show yu Y4 a (some (oB 3 (zs [.ref 42, .null, .ref c', .int (-1), .null, .null] 5 (.ref d)))) = Y5 by rw [hY5]; rfl]
          have hA5 : AMC Y5 (ofs' ++ [o']) fi (.ref d) (F' ++ [a]) := by
            rw [hY5]
            exact AMC_snoc (AMC_u hAMC4 ha4 q8) yu_s q5 (RTk_w ha4 rfl _ _ (by rw [hY4]; exact RTk_w d3 rfl _ _ (RTk_k hi3 q6))) q7
          refine hstep (F5 := F' ++ [a] ++ [d]) (by rw [hY5]; exact RS_w hS4 ha4 rfl har q5) (by rw [hY5]; exact FR_n hf4 hD ha0) (by rw [hY5]; exact PLC_u hP4 ha4 (by decide)) (by rw [hY5, yu_n hab]; exact hb4) (by rw [hY5]; exact RNm_t (RTk_w ha4 rfl) hw4) (by rw [hY5]; exact RTk_w ha4 rfl _ _ ho4) (Or.inr ⟨d, c, o2, ofs' ++ [o'], F' ++ [a], rfl, rfl, hA5, by rw [hY5, yu_n had.symm]; exact hd4, by omega, by rw [hY5]; exact RTk_w ha4 rfl _ _ hc4, c3, hdF, rfl⟩) ?_ ?_
          · intro e
            rcases List.mem_append.mp e with e | e
            · exact hbF e
            · exact hbd (List.mem_singleton.mp e)
          · intro x hx
            rcases List.mem_append.mp hx with e | e
            · exact hF0 x e
            · rw [List.mem_singleton.mp e]; exact hd0
      · rw [if_neg (by rw [decide_eq_false (by omega)]; decide), if_neg hc, rb_inr]
        exact fin
theorem amc_ok {w : List Int32} {wt : Nat} (h : RS rd pl W Y ts) (hP : PLC Y pl l os p rc sq) (hp : p ≤ 400) (hf : FR Y0 Y S) (hD : DM Y0) (hb0 : Y0.2.1 ≤ b) (hb : Y.1 b = some (oB 3 [.ref ((hd ts).1 + 1), .ref wt, .null, .int (-1), .null, .null])) (hw : RNm Y wt w) (h41 : (hd ts).1 = 41) (hr : rd ∈ S) (hpS : pl ∈ S) (hn : 6002 ≤ n) (hE : W ≤ WE + 250) : CR rd pl Y0 S W WE (c83 n rd (some b) Y) (sT2 w ts p) (fun x => x.2.1) (fun Y1 x _ => (∃ F, PRT Y1 1 b x.1 .null F ∧ ∀ c ∈ F, Y0.2.1 ≤ c) ∧ PLC Y1 pl l os x.2.2 rc sq ∧ x.2.2 ≤ 400) := by
  have h231 := hD.1
  have hpr := pl_rd h hP
  have hbr : b ≠ rd := RS_ne h hb (by decide)
  have hs1 : ∀ a ∈ [rd], a ∈ S ∨ Y0.2.1 ≤ a := fun a h => Or.inl (by rw [List.mem_singleton.mp h]; exact hr)
  unfold c83 sT2
  rw [if_pos h41]
  refine CR_g (rdr_o h.2.1) ?_
  have ht := tk_any (n := n) h (by omega) hE
  rw [h41] at ht
  refine CR_i ht hf hs1 hD ?_
  rintro v Y1 hS1 hf1 hf01 ⟨q, e, nx, rfl, q2, q3, q4, q5⟩
  dsimp only at hS1 q2 q3 q4 q5
  rw [rb_eat]
  refine CR_g (rdr_o hS1.2.1) ?_
  refine CR_b (tk_ok (s := 7) hS1 (by omega) (by omega)) hf01 hs1 hD ?_
  rintro ⟨t2, ts2⟩ v Y2 hS2 hf2 hf02 ⟨_, _, _, rfl, _, _, _, q7, q8⟩
  dsimp only at hS2 q7 q8 ⊢
  obtain ⟨⟨g, g1, g2⟩, g3⟩ := on_ok (n := n) (WE := WE) hS2 (by omega)
  refine CR_g (rdr_o hS2.2.1) (CR_y g1 (CR_g (rdr_o hS2.2.1) ?_))
  refine CR_b (g3 g g2) hf02 hs1 hD ?_
  rintro ⟨o, ts3⟩ v Y3 hS3 hf3 hf03 ⟨c, rfl, c2, c3, c4, c5⟩
  dsimp only at hS3 c2 c3 c4 c5 ⊢
  have hi3 : IMK Y Y3 := IMK_T hf1.2.2 (IMK_T hf2.2.2 hf3.2.2)
  have hb3 : Y3.1 b = some (oB 3 [.ref ((hd ts).1 + 1), .ref wt, .null, .int (-1), .null, .null]) := hi3 _ _ hb rfl
  rw [h41] at hb3
  refine CR_y rfl (CR_y (yP_of hb3 (by omega) rfl rfl) ?_)
  have hP3 := PLC_k (PLC_k (PLC_k hP hf1 (by simpa using hpr)) hf2 (by simpa using hpr)) hf3 (by simpa using hpr)
  exact amc_l (n := n) (W := W) hD hb0 hr hpS hE n 0 (ofs := []) (F := []) (by omega) (by omega) (RS_le (RS_w hS3 hb3 rfl hbr (by omega)) (by omega)) (FR_n hf03 hD hb0) (PLC_u hP3 hb3 (by decide)) hp yu_s (RNm_t (RTk_w hb3 rfl) (RNm_k hi3 hw)) (RTk_w hb3 rfl _ _ c2) c3 (Or.inl ⟨rfl, rfl, rfl, rfl⟩) (by simp) (fun c hc => by cases hc)
end
end ZJN

/-! THE CLASS READS: expressions -/
section ZJO
section
variable {n : Nat} {Y Y0 Y1 Y2 Z : zY} {a b s k p m e tp r q rd pl W W2 WE : Nat} {S S1 F F1 F2 : List Nat} {T : List Int32} {t : Tk} {ts : List Tk} {x v : Int32} {o' : yO} {nx nx' vv : Value} {φ ψ : Den} {l : Nat → Nat} {os rc sq : Nat}
theorem AMC_lt (hD : DM Y) : ∀ {os : List Tk} {v nx : Value} {F : List Nat}, AMC Y os v nx F → ∀ x ∈ F, x < Y.2.1
  | [], _, _, _, q, x, hx => by rw [q.2] at hx; cases hx
  | o :: os, v, nx, F, q, x, hx => by
    obtain ⟨a, b, nx', F', h1, h2, h3, h4, h5, h6, h7⟩ := q
    rw [h7] at hx
    rcases List.mem_cons.mp hx with e | e
    · rw [e]; exact hD.2 _ _ h2
    · exact AMC_lt hD h6 x e
theorem PCH_lt {R : Nat → Den → Value → List Nat → Prop} (hR : ∀ a φ nx F, R a φ nx F → ∀ x ∈ F, x < m) : ∀ {ds : List Den} {v nx : Value} {F : List Nat}, PCH R ds v nx F → ∀ x ∈ F, x < m
  | [], _, _, _, q, x, hx => by rw [q.2] at hx; cases hx
  | d :: ds, v, nx, F, q, x, hx => by
    obtain ⟨a, nx', F1, F2, h1, h2, h3, h4⟩ := q
    rw [h4] at hx
    rcases List.mem_append.mp hx with e | e
    · exact hR _ _ _ _ h2 x e
    · exact PCH_lt hR h3 x e
theorem PRT_lt (hD : DM Y) : ∀ (k : Nat) {a : Nat} {φ : Den} {nx : Value} {F : List Nat}, PRT Y k a φ nx F → ∀ x ∈ F, x < Y.2.1
  | 0, _, _, _, _, h => h.elim
  | k + 1, a, φ, nx, F, h => by
    intro x hx
    obtain ⟨s, nm, on, sg, fi, F', h1, h2, h3, h4, h5⟩ := h
    rw [h1] at hx
    rcases List.mem_cons.mp hx with e | e
    · rw [e]; exact hD.2 _ _ h4
    · rcases h5 with ⟨_, c, _⟩ | ⟨_, c, _⟩ | ⟨_, c, ψ, _, h, _⟩ | ⟨_, ds, h, _⟩ | ⟨w, wt, _, _, g⟩
      · rw [c] at e; cases e
      · rw [c] at e; cases e
      · exact PRT_lt hD k h x e
      · exact PCH_lt (fun a φ nx F q => PRT_lt hD k q) h x e
      · rcases g with ⟨_, c, _⟩ | ⟨c, _⟩ | ⟨_, ot, o, os, _, _, _, g, _⟩
        · rw [c] at e; cases e
        · rw [c] at e; cases e
        · exact AMC_lt hD g x e
/-- what reading an expression gives -/
def QE (Y : zY) (pl : Nat) (l : Nat → Nat) (os rc sq h : Nat) (Y1 : zY) (x : Den × List Tk × Nat) (v : Option Nat) : Prop := ∃ a F, v = some a ∧ PRT Y1 h a x.1 .null F ∧ (∀ c ∈ F, Y.2.1 ≤ c) ∧ PLC Y1 pl l os x.2.2 rc sq ∧ x.2.2 ≤ 400
/-- where an expression is read -/
def PE (Y : zY) (pl : Nat) (l : Nat → Nat) (os rc sq p : Nat) (segs : List (List Int32)) : Prop := PLC Y pl l os p rc sq ∧ p ≤ 400 ∧ LSY Y (l 0) (RNm Y) segs ∧ segs.length ≤ 12
theorem PE_k {segs : List (List Int32)} {p' : Nat} (h : PE Y pl l os rc sq p segs) (hR : RDR Y rd pl ts) (hf : FR Y Y1 [rd, pl]) (hP : PLC Y1 pl l os p' rc sq) (hp : p' ≤ 400) : PE Y1 pl l os rc sq p' segs := by
  obtain ⟨h1, h2, h3, h4⟩ := h
  refine ⟨hP, hp, LSY_k h3 hf ?_ (fun x y => RNm_k hf.2.2), h4⟩
  obtain ⟨xs, cap, g1, _⟩ := h3
  obtain ⟨⟨_, _, _, j, _⟩, _⟩ := hR
  intro c
  rcases List.mem_cons.mp c with e | e
  · rw [e, j] at g1; cases g1
  · rw [List.mem_singleton.mp e, h1.1] at g1; cases g1
def cE (n k m rd : Nat) (o : Int32) (Y : zY) : Option ((Option Nat ⊕ Nat) × zY) := match m with
  | 0 => (cRP n k).1 rd (some 32) o Y
  | 1 => (cRP n k).1 rd (some 33) o Y
  | _ => (cRP n k).2 rd o Y
def hE (m o : Nat) : Nat := 2 * (20 - o) + 3 - m
/-- the loop over further members -/
theorem rw_l {mf : zY → Option ((Option Nat ⊕ Nat) × zY)} {ms : List Tk → Nat → RR (Den × List Tk × Nat)} {segs : List (List Int32)} {g77 : Nat → Option Nat → Int32 → zY → Option ((Option Nat ⊕ Nat) × zY)} {g78 : Nat → Int32 → zY → Option ((Option Nat ⊕ Nat) × zY)} {j : Nat} {l2 : Int32} {hk f : Nat} (hD : DM Y0) (hr : rd ∈ S) (hpS : pl ∈ S) (hE : W ≤ WE + 200) (hj : j = 31 ∨ j = 32) (hmf : ∀ Y, mf Y = if j = 31 then g77 rd (some 33) l2 Y else g78 rd l2 Y)
    (hM : ∀ {Y : zY} {W : Nat} {ts : List Tk} {p : Nat}, RS rd pl W Y ts → W ≤ WE + 200 → PE Y pl l os rc sq p segs → CR rd pl Y [rd, pl] W WE (mf Y) (ms ts p) (fun x => x.2.1) (QE Y pl l os rc sq hk)) (hr0 : Y0.2.1 ≤ r) :
    ∀ (fu i : Nat) {Y : zY} {ts : List Tk} {p la : Nat} {ds : List Den} {d : Den} {F Fl : List Nat}, i ≤ 401 → 401 - i < fu → (RS rd pl W Y ts ∨ (RS rd pl (W + 22) Y ts ∧ (hd ts).1 = j ∧ i ≤ 400)) → FR Y0 Y S → PE Y pl l os rc sq p segs → Y.1 r = some (oB 3 [.ref (j + 1), .null, .null, .int (-1), .ref f, .null]) → PCH (PRT Y hk) ds (.ref f) (.ref la) F → PRT Y hk la d .null Fl → (∀ c ∈ Fl, c ∉ F) → r ∉ F → r ∉ Fl → (∀ c ∈ F, Y0.2.1 ≤ c) → (∀ c ∈ Fl, Y0.2.1 ≤ c) →
    CR rd pl Y0 S W WE (cf77_60 n g77 g78 fu rd (some (j + 1)) l2 (some f) (some r) (some la) (nI i) Y) (rb (sRowL ms j (401 - i) (ds ++ [d]) ts p) fun y => .inr (if j = 31 then dOr y.1 else dAnd y.1, y.2)) (fun x => x.2.1) (QE Y0 pl l os rc sq (hk + 1))
  | 0, i, Y, ts, p, la, ds, d, F, Fl, _, h, _, _, _, _, _, _, _, _, _, _, _ => by omega
  | fu + 1, i, Y, ts, p, la, ds, d, F, Fl, hi, hfu, h, hf, hP, hrow, hC, hL, hdis, hrF, hrFl, hF0, hFl0 => by
    have h231 := hD.1
    have hBR : BY Y ∧ RDR Y rd pl ts ∧ wY Y + 300 * ts.length ≤ W + 22 := by
      rcases h with h | h
      · exact ⟨h.1, h.2.1, by have := h.2.2; omega⟩
      · exact h.1
    have hlt := rdr_len hBR.2.1
    have hpr := pl_rd (W := W + 22) hBR hP.1
    have hrr : r ≠ rd := RS_ne (W := W + 22) hBR hrow (by decide)
    have hs1 : ∀ a ∈ [rd], a ∈ S ∨ Y0.2.1 ≤ a := fun a h => Or.inl (by rw [List.mem_singleton.mp h]; exact hr)
    have hs2 : ∀ a ∈ [rd, pl], a ∈ S ∨ Y0.2.1 ≤ a := fun a h => Or.inl (by
      rcases List.mem_cons.mp h with e | e
      · rw [e]; exact hr
      · rw [List.mem_singleton.mp e]; exact hpS)
    have fin : RS rd pl W Y ts → CR rd pl Y0 S W WE (some (.inl (some r), Y)) (.inr (if j = 31 then dOr (ds ++ [d]) else dAnd (ds ++ [d]), ts, p)) (fun x => x.2.1) (QE Y0 pl l os rc sq (hk + 1)) := by
      intro h
      refine CR_s (s := (if j = 31 then dOr (ds ++ [d]) else dAnd (ds ++ [d]), ts, p)) h hf ⟨r, r :: (F ++ Fl), rfl, ⟨j, .null, .null, -1, .ref f, F ++ Fl, rfl, ?_, by omega, hrow, ?_⟩, ?_, hP.1, hP.2.1⟩
      · intro e
        rcases List.mem_append.mp e with e | e
        · exact hrF e
        · exact hrFl e
      · exact Or.inr (Or.inr (Or.inr (Or.inl ⟨hj, ds ++ [d], PCH_snoc hC hL, rfl⟩)))
      · intro c hc
        rcases List.mem_cons.mp hc with e | e
        · rw [e]; exact hr0
        · rcases List.mem_append.mp e with e | e
          · exact hF0 c e
          · exact hFl0 c e
    show CR rd pl Y0 S W WE (cb77_60 n g77 g78 (cf77_60 n g77 g78 fu) rd (some (j + 1)) l2 (some f) (some r) (some la) (nI i) Y) _ _ _
    unfold cb77_60
    by_cases hz : i = 401
    · rw [if_pos (by rw [hz]; decide), hz, show 401 - 401 = 0 from rfl]
      rcases h with h | h
      · exact fin h
      · omega
    · rw [if_neg (by rw [show (400 : Int32) = nI 400 from rfl, nI_ltI (by omega) (by omega)]; omega)]
      refine cr_hd hBR.2.1 (by omega) fun _ => ?_
      rw [show 401 - i = (401 - (i + 1)) + 1 by omega]
      unfold sRowL
      by_cases hc : (hd ts).1 = j
      · rw [if_pos (decide_eq_true (by omega)), if_pos hc]
        refine CR_g (rdr_o hBR.2.1) ?_
        have ht := tk_any (n := n) (W := W + 22) (WE := WE) hBR (by omega) (by omega)
        rw [hc] at ht
        refine CR_i ht hf hs1 hD ?_
        rintro v Y1 hS1 hf1 hf01 ⟨q, e, nx, rfl, q2, q3, q4, q5⟩
        dsimp only at hS1 q2 q3 q4 q5
        have hP1 : PE Y1 pl l os rc sq p segs := PE_k hP hBR.2.1 (FR_M hf1 (by simp)) (PLC_k hP.1 hf1 (by simpa using hpr)) hP.2.1
        have step : ∀ (v : Option Nat) (x : Den × List Tk × Nat) (Y2 : zY), RS rd pl (W + 22 - 300) Y2 x.2.1 → FR Y1 Y2 [rd, pl] → FR Y0 Y2 S → QE Y1 pl l os rc sq hk Y2 x v → CR rd pl Y0 S W WE (cb77_108 n g77 g78 (cf77_60 n g77 g78 fu) rd (some (j + 1)) l2 (some f) (some r) (some la) (nI i) v Y2) (rb (sRowL ms j (401 - (i + 1)) (ds ++ [d] ++ [x.1]) x.2.1 x.2.2) fun y => .inr (if j = 31 then dOr y.1 else dAnd y.1, y.2)) (fun x => x.2.1) (QE Y0 pl l os rc sq (hk + 1)) := by
          rintro v ⟨d2, ts2, p2⟩ Y2 hS2 hf2 hf02 ⟨b, Fb, rfl, b1, b2, b3, b4⟩
          dsimp only at hS2 b1 b3 b4 ⊢
          have hi2 : IMK Y Y2 := IMK_T hf1.2.2 hf2.2.2
          have hL2 := PRT_k hi2 hL
          obtain ⟨fs, fs0, c1, c2, c3, c4⟩ := PRT_nx (vv := .ref b) hL2 rfl
          obtain ⟨_, _, _, _, _, _, _, hlaF⟩ := PRT_c hL
          have hlaY : la < Y.2.1 := PRT_lt hBR.1.2 _ hL la hlaF
          have hY1 : Y.2.1 ≤ Y1.2.1 := hf1.1
          have hlaF' : la ∉ F := hdis la hlaF
          have hla0 : Y0.2.1 ≤ la := hFl0 la hlaF
          have hlab : la ∉ Fb := fun e => by have := b2 la e; omega
          have hrla : r ≠ la := fun e => hrFl (e ▸ hlaF)
          have hlar : la ≠ rd := RS_ne hS2 c2 (by decide)
          unfold cb77_108
          refine CR_y rfl (CR_y c1 ?_)
          rw [nI_1]
          have hP2 : PE (yu Y2 la (some (oB 3 fs))) pl l os rc sq p2 segs := by
            have := PE_k hP1 hS1.2.1 hf2 b3 b4
            obtain ⟨g1, g2, g3, g4⟩ := this
            refine ⟨PLC_u g1 c2 (by decide), g2, ?_, g4⟩
            obtain ⟨xs, cap, x1, x2, x3, x4⟩ := g3
            refine ⟨xs, cap, ?_, x2, AL_imp (fun x y => RNm_t (RTk_w c2 rfl)) x3, x4⟩
            rw [yu_n]
            · exact x1
            · intro e; rw [e, c2] at x1; cases x1
          have hpos : ∀ c ∈ F ++ Fl, c < Y.2.1 := by
            intro c hc
            rcases List.mem_append.mp hc with e | e
            · exact PCH_lt (fun a φ nx F q => PRT_lt hBR.1.2 _ q) hC c e
            · exact PRT_lt hBR.1.2 _ hL c e
          refine rw_l hD hr hpS hE hj hmf hM hr0 fu (i + 1) (by omega) (by omega) (Or.inl (RS_le (RS_w hS2 c2 rfl hlar c4) (by omega))) (FR_n hf02 hD hla0) hP2 (by rw [yu_n hrla]; exact hi2 _ _ hrow rfl) (PCH_snoc (PCH_u (PCH_k hi2 hC) c2 hlaF') c3) (PRT_u b1 c2 hlab) ?_ ?_ ?_ ?_ ?_
          · intro c hc e
            have := b2 c hc
            have := hpos c e
            omega
          · intro e
            rcases List.mem_append.mp e with e | e
            · exact hrF e
            · exact hrFl e
          · intro e
            have := b2 r e
            have := hBR.1.2.2 _ _ hrow
            omega
          · intro c hc
            rcases List.mem_append.mp hc with e | e
            · exact hF0 c e
            · exact hFl0 c e
          · intro c hc
            have := b2 c hc
            have := hf01.1
            omega
        have hM1 := hM hS1 (by omega) hP1
        rw [rb_assoc]
        rcases hj with hj | hj
        · refine CR_y (rEq_s (by omega) (by omega)) ?_
          rw [if_pos (decide_eq_true (by omega))]
          refine CR_g (rdr_o hS1.2.1) ?_
          rw [hmf, if_pos hj] at hM1
          refine CR_b hM1 hf01 hs2 hD ?_
          intro x v Y2 a1 a2 a3 a4
          exact step v x Y2 a1 a2 a3 a4
        · refine CR_y (rEq_s (by omega) (by omega)) ?_
          rw [if_neg (by rw [decide_eq_false (by omega)]; decide)]
          refine CR_g (rdr_o hS1.2.1) ?_
          rw [hmf, if_neg (by omega)] at hM1
          refine CR_b hM1 hf01 hs2 hD ?_
          intro x v Y2 a1 a2 a3 a4
          exact step v x Y2 a1 a2 a3 a4
      · rw [if_neg (by rw [decide_eq_false (by omega)]; decide), if_neg hc, rb_inr]
        rcases h with h | h
        · exact fin h
        · exact absurd h.2.1 hc
/-- a row -/
theorem row_ok {mf : zY → Option ((Option Nat ⊕ Nat) × zY)} {ms : List Tk → Nat → RR (Den × List Tk × Nat)} {segs : List (List Int32)} {g77 : Nat → Option Nat → Int32 → zY → Option ((Option Nat ⊕ Nat) × zY)} {g78 : Nat → Int32 → zY → Option ((Option Nat ⊕ Nat) × zY)} {j : Nat} {l2 : Int32} {hk : Nat} (hn : 6002 ≤ n) (hE : W ≤ WE + 200) (hj : j = 31 ∨ j = 32) (hmf : ∀ Y, mf Y = if j = 31 then g77 rd (some 33) l2 Y else g78 rd l2 Y)
    (hM : ∀ {Y : zY} {W : Nat} {ts : List Tk} {p : Nat}, RS rd pl W Y ts → W ≤ WE + 200 → PE Y pl l os rc sq p segs → CR rd pl Y [rd, pl] W WE (mf Y) (ms ts p) (fun x => x.2.1) (QE Y pl l os rc sq hk)) (h : RS rd pl W Y ts) (hP : PE Y pl l os rc sq p segs) :
    CR rd pl Y [rd, pl] W WE (cb77 n g77 g78 rd (some (j + 1)) l2 Y) (sRow ms j ts p) (fun x => x.2.1) (QE Y pl l os rc sq (hk + 1)) := by
  have hD := h.1.2
  have rest : ∀ (x : Den × List Tk × Nat) (v : Option Nat) (Y1 : zY), RS rd pl W Y1 x.2.1 → FR Y Y1 [rd, pl] → QE Y pl l os rc sq hk Y1 x v → CR rd pl Y [rd, pl] W WE (cb77_23 n g77 g78 rd (some (j + 1)) l2 v Y1) (if (hd x.2.1).1 = j then rb (sPrt x.2.2 (hd x.2.1)) fun p => rb (sRowL ms j 401 [x.1] x.2.1 p) fun y => .inr (if j = 31 then dOr y.1 else dAnd y.1, y.2) else .inr x) (fun x => x.2.1) (QE Y pl l os rc sq (hk + 1)) := by
    rintro ⟨d, ts1, p1⟩ v Y1 hS1 hf1 ⟨b, Fb, rfl, b1, b2, b3, b4⟩
    dsimp only at hS1 b1 b3 b4 ⊢
    have hpr := pl_rd hS1 b3
    unfold cb77_23
    obtain ⟨a, e, nx, k1, k2, k3, k4⟩ := rdr_t hS1.2.1
    refine CR_y k1 (CR_y rfl (CR_y k4 (CR_y (rEq_s (by omega) (by omega)) ?_)))
    by_cases hc : (hd ts1).1 = j
    · rw [if_pos (decide_eq_true (by omega)), if_pos hc]
      refine CR_y k1 (CR_g (rdr_o hS1.2.1) ?_)
      refine CR_b (np_ok (s := j) hS1 b3.1 b3.2 k2 (by omega) (by omega)) hf1 (fun a h => Or.inl h) hD ?_
      rintro p' v Y2 hS2 hf2 hf02 ⟨r, rfl, d1, d2, d3, d4, d5, d6, d7⟩
      have h231 := hD.1
      have hr0 : Y.2.1 ≤ r := by have := hf1.1; omega
      have hrr : r ≠ rd := RS_ne hS2 d3 (by decide)
      refine CR_y rfl (CR_y (yP_of d3 (by omega) rfl rfl) ?_)
      have hFb : ∀ c ∈ Fb, c < Y1.2.1 := PRT_lt hS1.1.2 _ b1
      have hrFb : r ∉ Fb := fun e => by have := hFb r e; omega
      have hP1 := PE_k hP h.2.1 hf1 b3 b4
      have hP2 : PE (yu Y2 r (some (oB 3 (zs [.ref (j + 1), .null, .null, .int (-1), .null, .null] 4 (va_rf (some b)))))) pl l os rc sq p' segs := by
        have := PE_k hP1 hS1.2.1 hf2 ⟨d4, hP.1.2⟩ (by omega)
        obtain ⟨g1, g2, g3, g4⟩ := this
        refine ⟨PLC_u g1 d3 (by decide), g2, ?_, g4⟩
        obtain ⟨xs, cap, x1, x2, x3, x4⟩ := g3
        refine ⟨xs, cap, ?_, x2, AL_imp (fun x y => RNm_t (RTk_w d3 rfl)) x3, x4⟩
        rw [yu_n]
        · exact x1
        · intro e; rw [e, d3] at x1; cases x1
      have := rw_l (n := n) (W := W) (S := [rd, pl]) (f := b) (r := r) hD (by simp) (by simp) hE hj hmf hM hr0 n 0 (ds := []) (d := d) (la := b) (F := []) (Fl := Fb) (by omega) (by omega) (Or.inr ⟨RS_w hS2 d3 rfl hrr (by omega), hc, by omega⟩) (FR_n hf02 hD hr0) hP2 yu_s ⟨rfl, rfl⟩ (PRT_u (PRT_k hf2.2.2 b1) d3 hrFb) (fun c _ e => by cases e) (by simp) hrFb (fun c e => by cases e) b2
      exact this
    · rw [if_neg (by rw [decide_eq_false (by omega)]; decide), if_neg hc]
      exact CR_s (s := (d, ts1, p1)) hS1 hf1 ⟨b, Fb, rfl, PRT_m1 _ b1, b2, b3, b4⟩
  unfold cb77 sRow
  have hM1 := hM h hE hP
  rcases hj with hj | hj
  · refine CR_y (rEq_s (by omega) (by omega)) ?_
    rw [if_pos (decide_eq_true (by omega))]
    refine CR_g (rdr_o h.2.1) ?_
    rw [hmf, if_pos hj] at hM1
    refine CR_b hM1 FR_R (fun a h => Or.inl h) hD ?_
    intro x v Y2 a1 a2 a3 a4
    exact rest x v Y2 a1 a3 a4
  · refine CR_y (rEq_s (by omega) (by omega)) ?_
    rw [if_neg (by rw [decide_eq_false (by omega)]; decide)]
    refine CR_g (rdr_o h.2.1) ?_
    rw [hmf, if_neg (by omega)] at hM1
    refine CR_b hM1 FR_R (fun a h => Or.inl h) hD ?_
    intro x v Y2 a1 a2 a3 a4
    exact rest x v Y2 a1 a3 a4
end
end ZJO

/-! THE REFERENCE LOOKS AT NEEDS -/
section ZLN
def NkP (X X1 : zX) (lo hi : Nat) : Prop := LN X1 ∧ X1.1 = X.1 ∧ (∀ i, i ≠ 19 → i ≠ 24 → X1.2.2 i = X.2.2 i) ∧ ∀ i j, (i = 19 ∨ i = 24) → j < lo ∨ hi ≤ j → cv X1 i j = cv X i j
/-- a flag's needs as they are settled -/
def NX1 (X : zX) (b f k : Nat) (l : List (Nat × Int32)) : Prop := ∀ i x, l[i]? = some x → cv X 19 (4 * (24 * b + f) + (k + i)) = nI x.1 ∧ cv X 24 (4 * (24 * b + f) + (k + i)) = x.2
section
variable {n : Nat} {X X1 X2 : zX} {b nv cb f g k J lo hi mi : Nat} {T : List Int32} {fk : Int32} {ts : List Tk} {r : RR (List Tk)} {P : Pln} {D : List Pd} {q2 : Int32 → zX → Option (Unit × zX)} {q17 : Int32 → Int32 → zX → Option (Unit × zX)} {l1 l2 l3 l4 l5 : Int32} {names : List (List Int32)} {w : List Int32}
theorem NkP_T (h1 : NkP X X1 lo hi) (h2 : NkP X1 X2 lo hi) : NkP X X2 lo hi := ⟨h2.1, h2.2.1.trans h1.2.1, fun i a c => (h2.2.2.1 i a c).trans (h1.2.2.1 i a c), fun i j a c => (h2.2.2.2 i j a c).trans (h1.2.2.2 i j a c)⟩
theorem NkP_M {lo' hi' : Nat} (h : NkP X X1 lo hi) (h1 : lo' ≤ lo) (h2 : hi ≤ hi') : NkP X X1 lo' hi' := ⟨h.1, h.2.1, h.2.2.1, fun i j a c => h.2.2.2 i j a (by omega)⟩
theorem NkP_up {i : Nat} {v : Int32} (hL : LN X) (hi' : i = 19 ∨ i = 24) (h1 : lo ≤ J) (h2 : J < hi) : NkP X (up X i J v) lo hi := ⟨LN_up hL, rfl, fun q a c => up_row (by omega), fun q j a c => cv_ne (by omega)⟩
theorem NkP_RP (h : RP X b P D nv cb) (hk : NkP X X1 lo hi) : RP X1 b P D nv cb := RP_same h (fun i _ _ h3 h4 => hk.2.2.1 i h3 h4) hk.1 (by rw [hk.2.1])
theorem NkP_RI (h : RI X T fk r) (hk : NkP X X1 lo hi) : RI X1 T fk r := RI_of h hk.2.1 (hk.2.2.1 0 (by decide) (by decide))
theorem ri_at {k : Int32} {p : Nat} (h : RI X T fk (.inr ts)) (hb1 : (hd ts).1 ≠ 1) (hp : p ≤ 6000) : ∃ X1, g196 n k (nI p) X = some ((), X1) ∧ RI X1 T fk (.inl (k, p)) := by
  have a1 := (ri_hd h hb1).1
  obtain ⟨t1, ⟨q, t2, t3⟩, t4⟩ := h
  refine ⟨xF (xF X 73 (nI p)) 64 k, ?_, TP_xF (TP_xF t1 (by decide)) (by decide), ⟨q, t2, ?_⟩, ?_, ?_, hp⟩
  · unfold g196 zlet
    rw [if_pos a1]
  · rw [xF_1, if_neg (by decide), xF_1, if_neg (by decide)]; exact t3
  · rw [xF_1, if_neg (by decide), xF_1, if_pos rfl]
  · rw [xF_1, if_pos rfl]
theorem fnd_nil : fnd [] w = none := rfl
theorem fnd_cons {a : List Int32} : fnd (a :: names) w = if a = w then some 0 else (fnd names w).map (· + 1) := by
  unfold fnd
  rw [List.findIdx?_cons]
  by_cases h : a = w
  · rw [if_pos h, show (a == w) = true by simpa using h]; rfl
  · rw [if_neg h, show (a == w) = false by simpa using h]; rfl
theorem fnd_mem {j : Nat} (h : fnd names w = some j) : j < names.length ∧ names[j]? = some w := by
  unfold fnd at h
  obtain ⟨h1, h2, _⟩ := List.findIdx?_eq_some_iff_getElem.mp h
  refine ⟨h1, ?_⟩
  rw [List.getElem?_eq_getElem h1]
  simp at h2
  rw [h2]
theorem fnd_none (h : w ∉ names) : fnd names w = none := by
  cases hf : fnd names w with
  | none => rfl
  | some j =>
    exact absurd (List.mem_of_getElem? (fnd_mem hf).2) h
def fndI (names : List (List Int32)) (w : List Int32) (h : Nat) (d : Int32) : Int32 := match fnd (names.drop h) w with
  | some j => nI (h + j)
  | none => d
theorem fndI_s {h : Nat} {d : Int32} {a : List Int32} (hn : names.Nodup) (ha : names[h]? = some a) : fndI names w h d = fndI names w (h + 1) (if a = w then nI h else d) := by
  have hl := lt_of_get ha
  have e : names.drop h = a :: names.drop (h + 1) := by
    rw [List.drop_eq_getElem_cons hl]
    rw [List.getElem?_eq_getElem hl] at ha
    rw [Option.some.inj ha]
  unfold fndI
  rw [e, fnd_cons]
  by_cases hw : a = w
  · rw [if_pos hw, if_pos hw]
    have hnd : (a :: names.drop (h + 1)).Nodup := by rw [← e]; exact hn.sublist (List.drop_sublist _ _)
    rw [fnd_none (by rw [← hw]; exact (List.nodup_cons.mp hnd).1)]
    rfl
  · rw [if_neg hw, if_neg hw]
    cases fnd (names.drop (h + 1)) w with
    | none => rfl
    | some j => show nI (h + (j + 1)) = nI (h + 1 + j); rw [show h + (j + 1) = h + 1 + j by omega]
theorem lp63 (hL : LN X) (h4 : X.1 4 = nI b) (hb : b ≤ 1) (h9 : cv X 9 b = nI names.length) (h24 : names.length ≤ 24) (hN : NML X b 10 (24 * b) names) (hJ : J < 192) (hw : SW X b (cv X 17 J) w) (hnd : names.Nodup) (hn : 6002 ≤ n) : ∀ (k h : Nat) (l4 : Int32), h ≤ names.length → names.length - h < k → gf237_63 n q2 q17 k l1 l2 (nI J) l4 (nI h) X = gf237_63 n q2 q17 1 l1 l2 (nI J) (fndI names w h l4) (nI names.length) X
  | 0, h, l4, _, hk => by omega
  | k + 1, h, l4, hh, hk => by
    by_cases hz : h = names.length
    · subst hz
      have : fndI names w names.length l4 = l4 := by unfold fndI; rw [List.drop_eq_nil_of_le (Nat.le_refl _), fnd_nil]
      rw [this]
      show gb237_63 n q2 q17 (gf237_63 n q2 q17 k) _ _ _ _ _ X = gb237_63 n q2 q17 (gf237_63 n q2 q17 0) _ _ _ _ _ X
      unfold gb237_63
      rw [h4, rd_cv hL (by decide) (by show _ < 2; omega) (by omega), h9]
      dsimp only [Option.bind_some]
      rw [if_pos (Int32.le_refl _), if_pos (Int32.le_refl _)]
    · have hl : h < names.length := by omega
      obtain ⟨a, ha⟩ : ∃ a, names[h]? = some a := ⟨_, List.getElem?_eq_getElem hl⟩
      rw [fndI_s hnd ha, ← lp63 hL h4 hb h9 h24 hN hJ hw hnd hn k (h + 1) _ (by omega) (by omega)]
      show gb237_63 n q2 q17 (gf237_63 n q2 q17 k) _ _ _ _ _ X = _
      unfold gb237_63
      rw [h4, rd_cv hL (by decide) (by show _ < 2; omega) (by omega), h9]
      dsimp only [Option.bind_some]
      rw [if_neg (nI_ge hl (by omega)), show (24 : Int32) = nI 24 from rfl, nI_mul, nI_add, rd_cv hL (by decide) (by show _ < 48; omega) (by omega)]
      dsimp only [Option.bind_some]
      rw [rd_cv hL (by decide) (by show _ < 192; omega) (by omega)]
      dsimp only [Option.bind_some]
      rw [alk_SW (hN h a ha) hw hb hn]
      dsimp only [Option.bind_some]
      unfold gb237_112
      rw [nI_1]
      by_cases he : a = w
      · rw [decide_eq_true he, if_neg (by decide), if_pos he]
      · rw [decide_eq_false he, if_pos b2_f, if_neg he]
theorem lp176 (hL : LN X) (h4 : X.1 4 = nI b) (hb : b ≤ 1) (hg : g < 24) (h12 : cv X 12 (24 * b + g) = nI names.length) (h8 : names.length ≤ 8) (hN : NML X b 13 (8 * (24 * b + g)) names) (hJ : J < 192) (hw : SW X b (cv X 22 J) w) (hnd : names.Nodup) (hn : 6002 ≤ n) : ∀ (k h : Nat) (l5 : Int32), h ≤ names.length → names.length - h < k → gf237_176 n q2 q17 k l1 l2 (nI J) (nI g) l5 (nI h) X = gb237_245 n q2 q17 l1 l2 (nI J) (nI g) (fndI names w h l5) X
  | 0, h, l5, _, hk => by omega
  | k + 1, h, l5, hh, hk => by
    show gb237_176 n q2 q17 (gf237_176 n q2 q17 k) _ _ _ _ _ _ X = _
    unfold gb237_176
    rw [h4, show (24 : Int32) = nI 24 from rfl, nI_mul, nI_add, rd_cv hL (by decide) (by show _ < 48; omega) (by omega), h12]
    dsimp only [Option.bind_some]
    by_cases hz : h = names.length
    · subst hz
      have : fndI names w names.length l5 = l5 := by unfold fndI; rw [List.drop_eq_nil_of_le (Nat.le_refl _), fnd_nil]
      rw [this, if_pos (Int32.le_refl _)]
    · have hl : h < names.length := by omega
      obtain ⟨a, ha⟩ : ∃ a, names[h]? = some a := ⟨_, List.getElem?_eq_getElem hl⟩
      rw [fndI_s hnd ha, ← lp176 hL h4 hb hg h12 h8 hN hJ hw hnd hn k (h + 1) _ (by omega) (by omega)]
      rw [if_neg (nI_ge hl (by omega)), i8, rd_cv hL (by decide) (by show _ < 384; omega) (by omega)]
      dsimp only [Option.bind_some]
      rw [rd_cv hL (by decide) (by show _ < 192; omega) (by omega)]
      dsimp only [Option.bind_some]
      rw [alk_SW (hN h a ha) hw hb hn]
      dsimp only [Option.bind_some]
      unfold gb237_237
      rw [nI_1]
      by_cases he : a = w
      · rw [decide_eq_true he, if_neg (by decide), if_pos he]
      · rw [decide_eq_false he, if_pos b2_f, if_neg he]
/-- names are told once -/
def PND (P : Pln) : Prop := (P.2.1.map (·.1)).Nodup ∧ ∀ F ∈ P.2.1, F.2.1.2.Nodup
/-- a need is settled -/
theorem set1 {wn wv : Tk} {F : Flg} (h : RP X b P D nv cb) (hp : PND P) (hf : f < 24) (hF : P.2.1[f]? = some F) (hk : F.2.2.1[k]? = some (wn, wv)) (hR : RI X T fk (.inr ts)) (hb1 : (hd ts).1 ≠ 1) (hn : 6002 ≤ n) : match sSet1 P f (wn, wv) with
    | .inl e => ∃ X1, gf237_63 n q2 q17 n (nI f) l2 (nI (4 * (24 * b + f) + k)) (-1) 0 X = some ((), X1) ∧ RI X1 T fk (.inl e)
    | .inr x => x.1 < P.2.1.length ∧ ∃ X1, gf237_63 n q2 q17 n (nI f) l2 (nI (4 * (24 * b + f) + k)) (-1) 0 X = q17 (nI f) (l2 + 1) X1 ∧ NkP X X1 (4 * (24 * b + f) + k) (4 * (24 * b + f) + k + 1) ∧ cv X1 19 (4 * (24 * b + f) + k) = nI x.1 ∧ cv X1 24 (4 * (24 * b + f) + k) = x.2 := by
  obtain ⟨c1, c2, c3, _⟩ := RP_b h
  obtain ⟨hN1, hN2, hN3⟩ := (h.2.1.2.2 f F hF).2.2.1
  obtain ⟨r1, r2, r3, r4, r5, r6, r7⟩ := hN3 k (wn, wv) hk
  have hk4 : k < 4 := by have := lt_of_get hk; omega
  have hfl := h.2.1.2.1
  have hlen : (P.2.1.map (·.1)).length = P.2.1.length := List.length_map ..
  have h9 := h.2.1.1
  have hst := lp63 (n := n) (q2 := q2) (q17 := q17) (l1 := nI f) (l2 := l2) (names := P.2.1.map (·.1)) (w := wn.2.2.1) (J := 4 * (24 * b + f) + k) c1 c2 c3 (by rw [hlen]; exact h9) (by omega) (RP_nmF h) (by omega) r4 hp.1 hn n 0 (-1) (by omega) (by omega)
  have h0 : fndI (P.2.1.map (·.1)) wn.2.2.1 0 (-1) = match fnd (P.2.1.map (·.1)) wn.2.2.1 with | some j => nI j | none => -1 := by
    unfold fndI
    rw [List.drop_zero]
    cases fnd (P.2.1.map (·.1)) wn.2.2.1 with
    | none => rfl
    | some j => show nI (0 + j) = _; rw [Nat.zero_add]
  rw [show (nI 0 : Int32) = 0 from rfl, h0] at hst
  have hexit : ∀ (G : Int32) R, (if G = (-1) then
      gb237_140 n  (nI f) l2 (nI (4 * (24 * b + f) + k)) G (nI P.2.1.length) (up X 19 (4 * (24 * b + f) + k) G)
    else
      if G = nI f then
        gb237_140 n  (nI f) l2 (nI (4 * (24 * b + f) + k)) G (nI P.2.1.length) (up X 19 (4 * (24 * b + f) + k) G)
      else
        if cv X 20 (4 * (24 * b + f) + k) = 2 then
          gf237_176 n q2 q17 n (nI f) l2 (nI (4 * (24 * b + f) + k)) G (-1) 0 (up X 19 (4 * (24 * b + f) + k) G)
        else
          gb237_245 n q2 q17 (nI f) l2 (nI (4 * (24 * b + f) + k)) G (cv X 21 (4 * (24 * b + f) + k)) (up X 19 (4 * (24 * b + f) + k) G)) = R → gf237_63 n q2 q17 1 (nI f) l2 (nI (4 * (24 * b + f) + k)) G (nI (P.2.1.map (·.1)).length) X = R := by
    intro G R hh
    show gb237_63 n q2 q17 (gf237_63 n q2 q17 0) _ _ _ _ _ X = _
    unfold gb237_63
    rw [c2, rd_cv c1 (by decide) (by show _ < 2; omega) (by omega), h9, hlen]
    dsimp only [Option.bind_some]
    rw [if_pos (Int32.le_refl _)]
    rw [← c2]
    refine wst4 (by omega) c1 c2 c3 hf hk4 rfl ?_
    rw [rd_cv (LN_up c1) (by decide) (by show _ < 192; omega) (by omega), rd_cv (LN_up c1) (by decide) (by show _ < 192; omega) (by omega), cv_ne (Or.inl (by decide)), cv_ne (Or.inl (by decide))]
    exact hh
  have bad140 : ∀ G : Int32, ∃ X1, gb237_140 n  (nI f) l2 (nI (4 * (24 * b + f) + k)) G (nI P.2.1.length) (up X 19 (4 * (24 * b + f) + k) G) = some ((), X1) ∧ RI X1 T fk (.inl (3, wn.2.1)) := by
    intro G
    obtain ⟨X1, e1, e2⟩ := ri_at (n := n) (k := 3) (p := wn.2.1) (RI_up (i := 19) (j := 4 * (24 * b + f) + k) (v := G) hR (by decide)) hb1 r2
    refine ⟨X1, ?_, e2⟩
    unfold gb237_140
    rw [rd_cv (LN_up c1) (by decide) (by show _ < 192; omega) (by omega), cv_ne (Or.inl (by decide)), r5]
    dsimp only [Option.bind_some]
    rw [e1]
    rfl
  have hE3 : sErr 3 wn = (3, wn.2.1) := by unfold sErr; rw [if_neg (by rw [r1]; decide)]
  rw [hst]
  unfold sSet1
  cases hfn : fnd (P.2.1.map (·.1)) wn.2.2.1 with
  | none =>
    obtain ⟨X1, e1, e2⟩ := bad140 (-1)
    show ∃ X1, gf237_63 n q2 q17 1 (nI f) l2 (nI (4 * (24 * b + f) + k)) (-1) (nI (P.2.1.map (·.1)).length) X = _ ∧ RI X1 T fk (.inl (sErr 3 wn))
    rw [hE3]
    exact ⟨X1, hexit _ _ (by rw [if_pos rfl]; exact e1), e2⟩
  | some g =>
    have hg := (fnd_mem hfn).1
    rw [hlen] at hg
    show match (if g = f then .inl (sErr 3 wn) else match wth (P.2.1.getD g ([], (0, []), [], .inl 0, 0)).2.1 wv with
      | none => .inl (sErr 2 wv)
      | some v => .inr (g, v) : RR (Nat × Int32)) with
      | .inl e => ∃ X1, gf237_63 n q2 q17 1 (nI f) l2 (nI (4 * (24 * b + f) + k)) (nI g) (nI (P.2.1.map (·.1)).length) X = some ((), X1) ∧ RI X1 T fk (.inl e)
      | .inr x => x.1 < P.2.1.length ∧ ∃ X1, gf237_63 n q2 q17 1 (nI f) l2 (nI (4 * (24 * b + f) + k)) (nI g) (nI (P.2.1.map (·.1)).length) X = q17 (nI f) (l2 + 1) X1 ∧ NkP X X1 (4 * (24 * b + f) + k) (4 * (24 * b + f) + k + 1) ∧ cv X1 19 (4 * (24 * b + f) + k) = nI x.1 ∧ cv X1 24 (4 * (24 * b + f) + k) = x.2
    by_cases hgf : g = f
    · rw [if_pos hgf]
      obtain ⟨X1, e1, e2⟩ := bad140 (nI g)
      show ∃ X1, _ ∧ RI X1 T fk (.inl (sErr 3 wn))
      rw [hE3]
      exact ⟨X1, hexit _ _ (by rw [if_neg (nI_m1 (by omega)), if_pos (by rw [hgf])]; exact e1), e2⟩
    · rw [if_neg hgf]
      obtain ⟨G, hG⟩ : ∃ G, P.2.1[g]? = some G := ⟨_, List.getElem?_eq_getElem hg⟩
      have hGd : P.2.1.getD g ([], (0, []), [], .inl 0, 0) = G := by rw [List.getD_eq_getElem?_getD, hG]; rfl
      rw [hGd]
      have hY := NkP_up (X := X) (i := 19) (J := 4 * (24 * b + f) + k) (v := nI g) (lo := 4 * (24 * b + f) + k) (hi := 4 * (24 * b + f) + k + 1) c1 (Or.inl rfl) (Nat.le_refl _) (by omega)
      obtain ⟨Y, hYd⟩ : ∃ Y, Y = up X 19 (4 * (24 * b + f) + k) (nI g) := ⟨_, rfl⟩
      rw [← hYd] at hY
      have hRY := NkP_RP h hY
      obtain ⟨d1, d2, d3, _⟩ := RP_b hRY
      obtain ⟨k1, k2, k3, k4, k5⟩ := RP_knd hRY hG
      have y20 : ∀ i, 20 ≤ i → i ≤ 23 → cv Y i (4 * (24 * b + f) + k) = cv X i (4 * (24 * b + f) + k) := fun i q1 q2 => cv_of (hY.2.2.1 i (by omega) (by omega))
      have hIY : RI Y T fk (.inr ts) := NkP_RI hR hY
      have y19 : cv Y 19 (4 * (24 * b + f) + k) = nI g := by rw [hYd, cv_eq c1 (by decide) (by show _ < 192; omega)]
      have good : ∀ (v : Int32) R, q17 (nI f) (l2 + 1) (up Y 24 (4 * (24 * b + f) + k) v) = R → gb237_297 n q2 q17 (nI f) l2 (nI (4 * (24 * b + f) + k)) (nI g) v Y = R := by
        intro v R hh
        unfold gb237_297
        exact wst4 (by omega) d1 d2 d3 hf hk4 rfl hh
      have bad : ∀ v : Int32, wv.1 ≠ 1 → ∃ X1, gb237_285 n (nI f) l2 (nI (4 * (24 * b + f) + k)) (nI g) v Y = some ((), X1) ∧ RI X1 T fk (.inl (sErr 2 wv)) := by
        intro v hv
        obtain ⟨X1, e1, e2⟩ := ri_at (n := n) (k := 2) (p := wv.2.1) hIY hb1 r3
        refine ⟨X1, ?_, by unfold sErr; rw [if_neg hv]; exact e2⟩
        unfold gb237_285
        rw [rd_cv d1 (by decide) (by show _ < 192; omega) (by omega), y20 23 (by omega) (by omega), r6]
        dsimp only [Option.bind_some]
        rw [e1]
        rfl
      -- the two ways to the look at the kinds
      have h245 : ∀ (v : Int32) R, (if cv X 20 (4 * (24 * b + f) + k) = nI G.2.1.1 then
          if cv X 20 (4 * (24 * b + f) + k) = 2 then
            if v = (-1) then
              gb237_285 n (nI f) l2 (nI (4 * (24 * b + f) + k)) (nI g) v Y
            else
              gb237_297 n q2 q17 (nI f) l2 (nI (4 * (24 * b + f) + k)) (nI g) v Y
          else
            gb237_297 n q2 q17 (nI f) l2 (nI (4 * (24 * b + f) + k)) (nI g) v Y
        else
          gb237_285 n (nI f) l2 (nI (4 * (24 * b + f) + k)) (nI g) v Y) = R → gb237_245 n q2 q17 (nI f) l2 (nI (4 * (24 * b + f) + k)) (nI g) v Y = R := by
        intro v R hh
        unfold gb237_245
        rw [rd_cv d1 (by decide) (by show _ < 192; omega) (by omega), y20 20 (by omega) (by omega)]
        dsimp only [Option.bind_some]
        rw [i12a (a := 24) (k := 24) d2 rfl, rd_cv d1 (by decide) (by show _ < 48; omega) (by omega), k1]
        exact hh
      have fin : ∀ v : Int32, wth G.2.1 wv = some v → gf237_63 n q2 q17 1 (nI f) l2 (nI (4 * (24 * b + f) + k)) (nI g) (nI (P.2.1.map (·.1)).length) X = q17 (nI f) (l2 + 1) (up Y 24 (4 * (24 * b + f) + k) v) → match (match wth G.2.1 wv with
          | none => .inl (sErr 2 wv)
          | some v => .inr (g, v) : RR (Nat × Int32)) with
          | .inl e => ∃ X1, gf237_63 n q2 q17 1 (nI f) l2 (nI (4 * (24 * b + f) + k)) (nI g) (nI (P.2.1.map (·.1)).length) X = some ((), X1) ∧ RI X1 T fk (.inl e)
          | .inr x => x.1 < P.2.1.length ∧ ∃ X1, gf237_63 n q2 q17 1 (nI f) l2 (nI (4 * (24 * b + f) + k)) (nI g) (nI (P.2.1.map (·.1)).length) X = q17 (nI f) (l2 + 1) X1 ∧ NkP X X1 (4 * (24 * b + f) + k) (4 * (24 * b + f) + k + 1) ∧ cv X1 19 (4 * (24 * b + f) + k) = nI x.1 ∧ cv X1 24 (4 * (24 * b + f) + k) = x.2 := by
        intro v hv he
        rw [hv]
        exact ⟨hg, _, he, NkP_T hY (NkP_up d1 (Or.inr rfl) (Nat.le_refl _) (by omega)), by rw [cv_ne (Or.inl (by decide))]; exact y19, by rw [cv_eq d1 (by decide) (by show _ < 192; omega)]⟩
      have fbad : wth G.2.1 wv = none → (∃ X1, gf237_63 n q2 q17 1 (nI f) l2 (nI (4 * (24 * b + f) + k)) (nI g) (nI (P.2.1.map (·.1)).length) X = some ((), X1) ∧ RI X1 T fk (.inl (sErr 2 wv))) → match (match wth G.2.1 wv with
          | none => .inl (sErr 2 wv)
          | some v => .inr (g, v) : RR (Nat × Int32)) with
          | .inl e => ∃ X1, gf237_63 n q2 q17 1 (nI f) l2 (nI (4 * (24 * b + f) + k)) (nI g) (nI (P.2.1.map (·.1)).length) X = some ((), X1) ∧ RI X1 T fk (.inl e)
          | .inr x => x.1 < P.2.1.length ∧ ∃ X1, gf237_63 n q2 q17 1 (nI f) l2 (nI (4 * (24 * b + f) + k)) (nI g) (nI (P.2.1.map (·.1)).length) X = q17 (nI f) (l2 + 1) X1 ∧ NkP X X1 (4 * (24 * b + f) + k) (4 * (24 * b + f) + k + 1) ∧ cv X1 19 (4 * (24 * b + f) + k) = nI x.1 ∧ cv X1 24 (4 * (24 * b + f) + k) = x.2 := by
        intro hv he
        rw [hv]
        exact he
      have hgo : ∀ R, (if cv X 20 (4 * (24 * b + f) + k) = 2 then
          gf237_176 n q2 q17 n (nI f) l2 (nI (4 * (24 * b + f) + k)) (nI g) (-1) 0 Y
        else
          gb237_245 n q2 q17 (nI f) l2 (nI (4 * (24 * b + f) + k)) (nI g) (cv X 21 (4 * (24 * b + f) + k)) Y) = R → gf237_63 n q2 q17 1 (nI f) l2 (nI (4 * (24 * b + f) + k)) (nI g) (nI (P.2.1.map (·.1)).length) X = R := by
        intro R hh
        refine hexit _ _ ?_
        rw [if_neg (nI_m1 (by omega)), if_neg (by rw [nI_eq (by omega) (by omega)]; exact hgf), ← hYd]
        exact hh
      have r7 : NDV X b (4 * (24 * b + f) + k) wv := r7
      have kk : ∀ q : Nat, q ≤ 2 → (cv X 20 (4 * (24 * b + f) + k) = nI q) → (cv X 20 (4 * (24 * b + f) + k) = nI G.2.1.1 ↔ G.2.1.1 = q) := by
        intro q hq e
        rw [e, nI_eq (by omega) (by omega)]
        exact eq_comm
      rcases r7 with ⟨t1, t2, t3⟩ | ⟨t1, t2, t3⟩ | ⟨t1, t2, t3⟩ | ⟨t1, t2, t3⟩
      · by_cases hk0 : G.2.1.1 = 0
        · refine fin 1 (by unfold wth; rw [if_pos hk0, if_pos t1]) (hgo _ ?_)
          rw [t2, if_neg (by decide)]
          refine h245 _ _ ?_
          rw [if_pos ((kk 0 (by omega) t2).mpr hk0), t2, if_neg (by decide), t3]
          exact good _ _ rfl
        · refine fbad (by unfold wth; rw [if_neg hk0, t1]; split <;> rfl) ?_
          obtain ⟨X1, e1, e2⟩ := bad (cv X 21 (4 * (24 * b + f) + k)) (by rw [t1]; decide)
          refine ⟨X1, hgo _ ?_, e2⟩
          rw [t2, if_neg (by decide)]
          refine h245 _ _ ?_
          rw [if_neg (fun q => hk0 ((kk 0 (by omega) t2).mp q))]
          exact e1
      · by_cases hk0 : G.2.1.1 = 0
        · refine fin 0 (by unfold wth; rw [if_pos hk0, t1]; rfl) (hgo _ ?_)
          rw [t2, if_neg (by decide)]
          refine h245 _ _ ?_
          rw [if_pos ((kk 0 (by omega) t2).mpr hk0), t2, if_neg (by decide), t3]
          exact good _ _ rfl
        · refine fbad (by unfold wth; rw [if_neg hk0, t1]; split <;> rfl) ?_
          obtain ⟨X1, e1, e2⟩ := bad (cv X 21 (4 * (24 * b + f) + k)) (by rw [t1]; decide)
          refine ⟨X1, hgo _ ?_, e2⟩
          rw [t2, if_neg (by decide)]
          refine h245 _ _ ?_
          rw [if_neg (fun q => hk0 ((kk 0 (by omega) t2).mp q))]
          exact e1
      · by_cases hk0 : G.2.1.1 = 1
        · refine fin wv.2.2.2 (by unfold wth; rw [if_neg (by omega), if_pos hk0, if_pos t1]) (hgo _ ?_)
          rw [t2, if_neg (by decide)]
          refine h245 _ _ ?_
          rw [if_pos ((kk 1 (by omega) t2).mpr hk0), t2, if_neg (by decide), t3]
          exact good _ _ rfl
        · refine fbad (by
            unfold wth
            rw [if_neg hk0, t1]
            split <;> rfl) ?_
          obtain ⟨X1, e1, e2⟩ := bad (cv X 21 (4 * (24 * b + f) + k)) (by rw [t1]; decide)
          refine ⟨X1, hgo _ ?_, e2⟩
          rw [t2, if_neg (by decide)]
          refine h245 _ _ ?_
          rw [if_neg (fun q => hk0 ((kk 1 (by omega) t2).mp q))]
          exact e1
      · have hsk : SKa b X Y := SKa_of (hY.2.2.1 1 (by decide) (by decide)) (hY.2.2.1 2 (by decide) (by decide)) (hY.2.2.1 3 (by decide) (by decide))
        have h176 := lp176 (n := n) (q2 := q2) (q17 := q17) (l1 := nI f) (l2 := l2) (g := g) (names := G.2.1.2) (w := wv.2.2.1) (J := 4 * (24 * b + f) + k) d1 d2 d3 (by omega) k3 k4 k5 (by omega) (by rw [y20 22 (by omega) (by omega)]; exact SW_kp t3 hsk) (hp.2 G (List.mem_of_getElem? hG)) hn n 0 (-1) (by omega) (by omega)
        have hfi : fndI G.2.1.2 wv.2.2.1 0 (-1) = match fnd G.2.1.2 wv.2.2.1 with | some j => nI j | none => -1 := by
          unfold fndI
          rw [List.drop_zero]
          cases fnd G.2.1.2 wv.2.2.1 with
          | none => rfl
          | some j => show nI (0 + j) = _; rw [Nat.zero_add]
        rw [show (nI 0 : Int32) = 0 from rfl, hfi] at h176
        by_cases hk0 : G.2.1.1 = 2
        · cases hfc : fnd G.2.1.2 wv.2.2.1 with
          | none =>
            rw [hfc] at h176
            refine fbad (by unfold wth; rw [if_neg (by omega), if_neg (by omega), if_pos t1, hfc]; rfl) ?_
            obtain ⟨X1, e1, e2⟩ := bad (-1) (by rw [t1]; decide)
            refine ⟨X1, hgo _ ?_, e2⟩
            rw [t2, if_pos rfl, h176]
            refine h245 _ _ ?_
            rw [if_pos ((kk 2 (by omega) t2).mpr hk0), t2, if_pos rfl, if_pos rfl]
            exact e1
          | some j =>
            rw [hfc] at h176
            have hj := (fnd_mem hfc).1
            refine fin (nI j) (by unfold wth; rw [if_neg (by omega), if_neg (by omega), if_pos t1, hfc]; rfl) (hgo _ ?_)
            rw [t2, if_pos rfl, h176]
            refine h245 _ _ ?_
            rw [if_pos ((kk 2 (by omega) t2).mpr hk0), t2, if_pos rfl, if_neg (nI_m1 (by omega))]
            exact good _ _ rfl
        · refine fbad (by unfold wth; rw [t1]; split; rfl; split; rfl; omega) ?_
          obtain ⟨X1, e1, e2⟩ := bad (match fnd G.2.1.2 wv.2.2.1 with | some j => nI j | none => -1) (by rw [t1]; decide)
          refine ⟨X1, hgo _ ?_, e2⟩
          rw [t2, if_pos rfl, h176]
          refine h245 _ _ ?_
          rw [if_neg (fun q => hk0 ((kk 2 (by omega) t2).mp q))]
          exact e1
end
end ZLN

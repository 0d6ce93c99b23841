/-! THE REFERENCE: isTrue, workSegments, ruleOf, itemOf -/
section ZIT3
section
variable {n : Nat} {X X1 X2 : zX} {b p m cb c fr to : Nat} {K : KL} {φ : Den} {E : Env} {D : List Pd} {l2 : Int32} {P : Pln} {nv : Nat}
theorem KNX_of (h : KNX X K) (h65 : X1.1 65 = X.1 65) (e : ∀ i, i = 2 ∨ i = 3 ∨ i = 60 ∨ i = 61 → X1.2.2 i = X.2.2 i) : KNX X1 K := by
  obtain ⟨h1, h2, h3⟩ := h
  refine ⟨h65.trans h1, h2, fun k x hx => ?_⟩
  obtain ⟨a, c, d, f⟩ := h3 k x hx
  exact ⟨SLT_of a (e 2 (by omega)) (e 3 (by omega)), by rw [cv_of (e 60 (by omega))]; exact c, fun q => by rw [cv_of (e 61 (by omega))]; exact d q, fun q => ⟨SLT_of (f q).1 (e 2 (by omega)) (e 3 (by omega)), (f q).2⟩⟩
theorem INS_of {l : List Bool} (h : INS X l) (e : X1.2.2 69 = X.2.2 69) : INS X1 l := ⟨h.1, fun j hj => by rw [cv_of e]; exact h.2 j hj⟩
theorem PMn_68 {DD : List Pd} {U : Nat → Prop} {q : Nat} (h : PMn X b m DD U q φ) (e : ∀ i, i ≠ 68 → X1.2.2 i = X.2.2 i) : PMn X1 b m DD U q φ :=
  PMn_of h (fun i h1 h2 => cv_of (e i (by omega))) (fun u _ => ⟨cv_of (e 56 (by decide)), fun i h1 h2 => cv_of (e i (by omega))⟩) (SKa_of (e 1 (by decide)) (e 2 (by decide)) (e 3 (by decide))) (fun _ h => h) (fun _ h => h)
theorem isT_l {fm e : Nat} {U : Nat → Prop} {l1 : Int32} (hb : b ≤ 1) (hm : m ≤ 12) (h3 : X.1 3 = nI b) (hK : KNX X K) (hI : INS X E.2) (hE : E.1 = K) (h4 : ∀ y ∈ D, y.1 < 400) (hU : ∀ u, U u → u < 400) (h57 : ∀ (i : Nat) (x : Pd), D[i]? = some x → cv X 57 (400 * b + (fm + i)) = nI x.1) (hp : ∀ (i : Nat) (x : Pd), D[i]? = some x → PMn X b m (D.take i) U x.1 x.2) (hnd : (D.map (·.1)).Nodup) (hfm : fm + D.length ≤ 400) (he : e ≤ D.length) (hc : (c, φ) ∈ D.take e) (hn : 6002 ≤ n) : ∀ (fu i : Nat) {Y : zX}, i ≤ e → e - i < fu → O68 X Y → (∀ y ∈ D.take i, cv Y 68 y.1 = b2 (y.2 E)) → ∃ X1, gf252_3 n fu (nI c) l1 (nI (fm + e)) (nI (fm + i)) Y = some (b2 (φ E), X1) ∧ O68 X X1
  | 0, i, Y, _, h, _, _ => by omega
  | fu + 1, i, Y, hi, hf, hO, hw => by
    have hc4 : c < 400 := h4 _ (List.mem_of_mem_take hc)
    show ∃ X1, gb252_3 n (gf252_3 n fu) (nI c) l1 (nI (fm + e)) (nI (fm + i)) Y = _ ∧ _
    by_cases hz : i = e
    · subst hz
      refine ⟨Y, ?_, hO⟩
      unfold gb252_3
      rw [if_pos (Int32.le_refl _), rd_cv hO.1 (by decide) (by show _ < 400; omega) (by omega), hw _ hc]
      dsimp only [Option.bind_some]
      cases φ E <;> rfl
    · have hlt : i < D.length := by omega
      obtain ⟨x, hx⟩ : ∃ x, D[i]? = some x := ⟨_, List.getElem?_eq_getElem hlt⟩
      have hst := one_p (n := n) (q3 := gf252_3 n fu) (l1 := nI c) (l2 := l1) (l3 := nI (fm + e)) (fm := fm) (E := E) hO.1 (by rw [hO.2.1]; exact h3) hb hm (KNX_of hK (by rw [hO.2.1]) (fun i hi => hO.2.2 i (by omega))) (INS_of hI (hO.2.2 69 (by decide))) hE h4 hU hx (by rw [cv_of (hO.2.2 57 (by decide))]; exact h57 i x hx) (by omega) (nI_ge (by omega) (by omega)) (PMn_68 (hp i x hx) hO.2.2) hw hn
      rw [hst]
      have hx4 := h4 x (List.mem_of_getElem? hx)
      refine isT_l hb hm h3 hK hI hE h4 hU h57 hp hnd hfm he hc hn fu (i + 1) (Y := up Y 68 x.1 (b2 (x.2 E))) (by omega) (by omega) ⟨LN_up hO.1, hO.2.1, fun j hj => (up_row hj).trans (hO.2.2 j hj)⟩ ?_
      intro y hy
      rw [List.take_add_one, hx] at hy
      rcases List.mem_append.mp hy with hy | hy
      · have hne : y.1 ≠ x.1 := by
          intro q
          obtain ⟨j, hj⟩ := List.mem_iff_getElem?.mp hy
          have hji : j < i := by
            have := lt_of_get hj
            rw [List.length_take] at this
            omega
          rw [List.getElem?_take_of_lt hji] at hj
          have h1 : (D.map (·.1))[j]? = some y.1 := by rw [List.getElem?_map, hj]; rfl
          have h2 : (D.map (·.1))[i]? = some x.1 := by rw [List.getElem?_map, hx]; rfl
          rw [q] at h1
          have := (List.getElem?_inj (i := j) (j := i) (lt_of_get h1) hnd).mp (h1.trans h2.symm)
          omega
        rw [cv_ne (Or.inr hne)]
        exact hw y hy
      · have : y = x := by simpa using hy
        rw [this, cv_eq hO.1 (by decide) (by show _ < 400; omega)]
theorem isT_ok (hb : b ≤ 1) (hm : m ≤ 12) (h3 : X.1 3 = nI b) (hK : KNX X K) (hI : INS X E.2) (hE : E.1 = K) (hx : EX (xF X 4 (nI b)) b m cb p D fr to c φ) (hn : 6002 ≤ n) : ∃ X1, g252 n (nI c) (nI fr) (nI to) X = some (b2 (φ E), X1) ∧ O68 X X1 := by
  obtain ⟨x1, x2, x3, x4⟩ := hx
  obtain ⟨⟨a1, a2, a3⟩, ⟨b1, b2'⟩, ⟨c1, c2⟩, ⟨d1, _⟩, _, g, U, u1, u2, u3, u4, u5, u6, u7, u8⟩ := x4
  have hL : LN X := a1
  simp only [List.append_nil, opn, List.length_nil, Nat.add_zero] at c2 u5
  have hU : ∀ u, U u → u < 400 := fun u hu => by have := u2 u hu; omega
  have h4 : ∀ y ∈ D.drop fr, y.1 < 400 := fun y hy => by
    obtain ⟨i, hi⟩ := List.mem_iff_getElem?.mp hy
    have := (g i y hi).2
    omega
  have hp : ∀ (i : Nat) (x : Pd), (D.drop fr)[i]? = some x → PMn X b m ((D.drop fr).take i) U x.1 x.2 := fun i x h => PMn_of (u1 i x h) (fun _ _ _ => rfl) (fun _ _ => ⟨rfl, fun _ _ _ => rfl⟩) (fun s w a c => ⟨a, c⟩) (fun _ h => h) (fun _ h => h)
  have hlen : (D.drop fr).length = D.length - fr := List.length_drop ..
  have hr := isT_l (n := n) (fm := fr) (e := to - fr) (l1 := nI fr) hb hm h3 hK hI hE h4 hU (fun i x h => (g i x h).1) hp u5 (by omega) (by omega) x3 hn n 0 (Y := X) (by omega) (by omega) (O68_R hL) (fun y hy => by
    rw [List.take_zero] at hy
    cases hy)
  unfold g252
  rw [show fr + (to - fr) = to by omega] at hr
  exact hr
/-! the segments -/
def O689 (X X1 : zX) : Prop := LN X1 ∧ X1.1 = X.1 ∧ ∀ i, i ≠ 68 → i ≠ 69 → X1.2.2 i = X.2.2 i
theorem getD_set {l : List Bool} {s j : Nat} {v : Bool} (hs : s < l.length) : (l.set s v).getD j false = if j = s then v else l.getD j false := by
  rw [List.getD_eq_getElem?_getD, List.getD_eq_getElem?_getD, List.getElem?_set]
  by_cases h : s = j
  · subst h
    rw [if_pos rfl, if_pos rfl, if_pos hs]
    rfl
  · rw [if_neg h, if_neg (fun e => h e.symm)]
theorem INS_set {l : List Bool} {s : Nat} {v : Bool} (hL : LN X) (h : INS X l) (hs : s < 12) : INS (up X 69 s (b2 v)) (l.set s v) := by
  refine ⟨by rw [List.length_set]; exact h.1, fun j hj => ?_⟩
  rw [getD_set (by rw [h.1]; exact hs)]
  by_cases q : j = s
  · rw [if_pos q, q, cv_eq hL (by decide) (by show _ < 12; omega)]
  · rw [if_neg q, cv_ne (Or.inr q)]
    exact h.2 j hj
theorem app_getD {l : List Bool} {v : Bool} {j : Nat} : (l ++ [v]).getD j false = if j = l.length then v else l.getD j false := by
  rw [List.getD_eq_getElem?_getD, List.getD_eq_getElem?_getD, List.getElem?_append]
  by_cases h : j < l.length
  · rw [if_pos h, if_neg (by omega)]
  · rw [if_neg h]
    by_cases q : j = l.length
    · rw [if_pos q, q, Nat.sub_self]
      rfl
    · rw [if_neg q, List.getElem?_eq_none (by show _ ≤ _; simp; omega), List.getElem?_eq_none (by omega)]
theorem seg_l (hb : b ≤ 1) (h3 : X.1 3 = nI b) (hP : RP (xF X 4 (nI b)) b P D nv cb) (hD : PDp P) (hK : KNX X K) (hn : 6002 ≤ n) : ∀ (fu s : Nat) (acc l : List Bool) {Y : zX}, acc.length = s → s ≤ P.1.length → P.1.length - s < fu → O689 X Y → INS Y l → (∀ j, j < s → l.getD j false = acc.getD j false) → ∃ X1 l1, gf251_2 n fu (nI s) Y = some ((), X1) ∧ O689 X X1 ∧ INS X1 l1 ∧ ∀ j, j < P.1.length → l1.getD j false = (insL K (P.1.drop s) acc).getD j false
  | 0, s, acc, l, Y, _, _, h, _, _, _ => by omega
  | fu + 1, s, acc, l, Y, ha, hs, hf, hO, hI, hj => by
    have h12 := hP.1.2.1
    have h3Y : Y.1 3 = nI b := by rw [hO.2.1]; exact h3
    have h4s : cv Y 4 b = nI P.1.length := by rw [cv_of (hO.2.2 4 (by decide) (by decide))]; exact hP.1.1
    show ∃ X1 l1, gb251_2 n (gf251_2 n fu) (nI s) Y = _ ∧ _
    unfold gb251_2
    rw [show rd (Y.2.2 4) (Y.1 3) = some (nI P.1.length) by rw [h3Y, rd_cv hO.1 (by decide) (by show _ < 2; omega) (by omega), h4s]]
    dsimp only [Option.bind_some]
    by_cases hz : s = P.1.length
    · rw [if_pos (by rw [hz]; exact Int32.le_refl _)]
      refine ⟨Y, l, rfl, hO, hI, fun j hjl => ?_⟩
      rw [List.drop_eq_nil_of_le (by omega)]
      exact hj j (by omega)
    · have hlt : s < P.1.length := by omega
      obtain ⟨x, hx⟩ : ∃ x, P.1[s]? = some x := ⟨_, List.getElem?_eq_getElem hlt⟩
      obtain ⟨_, c, fr, to, s2, s3, s4, s5⟩ := hP.1.2.2 s x hx
      have s2 : cv X 6 (12 * b + s) = nI c := s2
      have s3 : cv X 7 (12 * b + s) = nI fr := s3
      have s4 : cv X 8 (12 * b + s) = nI to := s4
      have hKY : KNX Y K := KNX_of hK (by rw [hO.2.1]) (fun i hi => hO.2.2 i (by omega) (by omega))
      have hxY : EX (xF Y 4 (nI b)) b P.1.length cb P.2.2.2.2.2.2 D fr to c x.2 := by
        obtain ⟨c1, c2, c3, _, ⟨cc, c5, c6⟩, _, c8, _⟩ := RP_b hP
        have := EX_g (X1 := xF Y 4 (nI b)) (m' := P.1.length) (cb' := cb) (p' := P.2.2.2.2.2.2) (D' := []) s5 (fun fm D0 hI => by
          rw [List.append_nil]
          exact Inv_tr hI hO.1 (by rw [xF_1, if_pos rfl, xF_1, if_pos rfl]) (fun i h1 h2 => hO.2.2 i (by omega) (by omega)) (SKa_of (hO.2.2 1 (by decide) (by decide)) (hO.2.2 2 (by decide) (by decide)) (hO.2.2 3 (by decide) (by decide))) ⟨cc, by rw [cv_of (show (xF Y 4 (nI b)).2.2 1 = (xF X 4 (nI b)).2.2 1 from hO.2.2 1 (by decide) (by decide))]; exact c5, c6⟩ c8 (Nat.le_refl _))
        rw [List.append_nil] at this
        exact this
      obtain ⟨X1, e1, e2⟩ := isT_ok (n := n) (E := (K, l)) hb h12 h3Y hKY hI rfl hxY hn
      have hdep : x.2 (K, l) = x.2 (K, acc) := hD.1 s x hx K l acc hj
      rw [hdep] at e1
      have hO1 : O689 X (up X1 69 s (b2 (x.2 (K, acc)))) := ⟨LN_up e2.1, e2.2.1.trans hO.2.1, fun i h1 h2 => by rw [up_row h2, e2.2.2 i h1]; exact hO.2.2 i h1 h2⟩
      obtain ⟨X2, l2, k1, k2, k3, k4⟩ := seg_l hb h3 hP hD hK hn fu (s + 1) (acc ++ [x.2 (K, acc)]) (l.set s (x.2 (K, acc))) (Y := up X1 69 s (b2 (x.2 (K, acc)))) (by rw [List.length_append, ha]; rfl) (by omega) (by omega) hO1 (INS_set e2.1 (INS_of hI (e2.2.2 69 (by decide))) (by omega)) (fun j hjs => by
        rw [getD_set (by rw [hI.1]; omega), app_getD, ha]
        by_cases q : j = s
        · rw [if_pos q, if_pos q]
        · rw [if_neg q, if_neg q]
          exact hj j (by omega))
      refine ⟨X2, l2, ?_, k2, k3, fun j hjl => ?_⟩
      · rw [if_neg (nI_ge hlt (by omega)), j3 (a := 12) (k := 12) h3Y rfl, rd_cv hO.1 (by decide) (by show _ < 24; omega) (by omega), cv_of (hO.2.2 6 (by decide) (by decide)), s2]
        dsimp only [Option.bind_some]
        rw [rd_cv hO.1 (by decide) (by show _ < 24; omega) (by omega), cv_of (hO.2.2 7 (by decide) (by decide)), s3]
        dsimp only [Option.bind_some]
        rw [rd_cv hO.1 (by decide) (by show _ < 24; omega) (by omega), cv_of (hO.2.2 8 (by decide) (by decide)), s4]
        dsimp only [Option.bind_some]
        rw [e1]
        dsimp only [Option.bind_some]
        rw [b2_and, nI_1]
        exact wst0 e2.1 (by decide) (by show _ < 12; omega) (by omega) rfl k1
      · rw [k4 j hjl, drop_get hx]
        rfl
/-- workSegments -/
theorem wseg_ok {l : List Bool} (hb : b ≤ 1) (h3 : X.1 3 = nI b) (hP : RP (xF X 4 (nI b)) b P D nv cb) (hD : PDp P) (hK : KNX X K) (hI : INS X l) (hn : 6002 ≤ n) : ∃ X1 l1, g251 n X = some ((), X1) ∧ O689 X X1 ∧ INS X1 l1 ∧ ∀ j, j < P.1.length → l1.getD j false = (ins K P).getD j false := by
  have h12 := hP.1.2.1
  have hL : LN X := (RP_b hP).1
  have := seg_l hb h3 hP hD hK hn n 0 [] l (Y := X) rfl (by omega) (by omega) ⟨hL, rfl, fun _ _ _ => rfl⟩ hI (fun j hj => by omega)
  rw [List.drop_zero] at this
  exact this
end
end ZIT3

/-! THE REFERENCE: what holds -/
section ZHO
section
variable {n : Nat} {X X1 X2 : zX} {b p s t m : Nat} {K : KL} {w u : List Int32} {o : Thg} {φ : Den} {U : Nat → Prop} {E : Env}
theorem j3 {k q : Nat} {a v : Int32} (hv : v = nI b) (ha : a = nI k) : a * v + nI q = nI (k * b + q) := by rw [hv, ha, nI_mul, nI_add]
theorem b2_and {v : Bool} : b2 v &&& 1 = b2 v := by cases v <;> rfl
theorem nxC_det : ∀ {a c : List Nat} {x : Nat}, (∀ y ∈ x :: a, y < 400) → (∀ y ∈ x :: c, y < 400) → nxC X b (x :: a) → nxC X b (x :: c) → a = c
  | [], [], _, _, _, _, _ => rfl
  | [], y :: c, x, h1, h2, e1, e2 => by
    have e1 : pv X b 56 x = -1 := e1
    have e2 : pv X b 56 x = nI y ∧ _ := e2
    rw [e1] at e2
    exact absurd e2.1.symm (nI_m1 (by have := h2 y (by simp); omega))
  | y :: a, [], x, h1, h2, e1, e2 => by
    have e2 : pv X b 56 x = -1 := e2
    have e1 : pv X b 56 x = nI y ∧ _ := e1
    rw [e2] at e1
    exact absurd e1.1.symm (nI_m1 (by have := h1 y (by simp); omega))
  | y :: a, z :: c, x, h1, h2, e1, e2 => by
    have e1 : pv X b 56 x = nI y ∧ nxC X b (y :: a) := e1
    have e2 : pv X b 56 x = nI z ∧ nxC X b (z :: c) := e2
    have hy := h1 y (by simp)
    have hz := h2 z (by simp)
    have : y = z := (nI_eq (by omega) (by omega)).mp (e1.1.symm.trans e2.1)
    subst this
    rw [nxC_det (fun q hq => h1 q (List.mem_cons_of_mem _ hq)) (fun q hq => h2 q (List.mem_cons_of_mem _ hq)) e1.2 e2.2]
theorem nxC_tl {x : Nat} : ∀ {l : List Nat}, nxC X b (x :: l) → nxC X b l
  | [], _ => trivial
  | _ :: _, h => h.2
theorem nxC_sfx {x : Nat} {c : List Nat} : ∀ {a : List Nat}, nxC X b (a ++ x :: c) → nxC X b (x :: c)
  | [], h => h
  | _ :: a, h => nxC_sfx (a := a) (nxC_tl h)
theorem nxC_nd : ∀ {l : List Nat}, (∀ y ∈ l, y < 400) → nxC X b l → l.Nodup
  | [], _, _ => List.nodup_nil
  | x :: l, h, e => by
    refine List.nodup_cons.mpr ⟨fun hx => ?_, nxC_nd (fun y hy => h y (List.mem_cons_of_mem _ hy)) (nxC_tl e)⟩
    obtain ⟨a, c, rfl⟩ := List.append_of_mem hx
    have e2 : nxC X b (x :: c) := nxC_sfx (a := x :: a) e
    have := nxC_det h (fun y hy => h y (by
      rcases List.mem_cons.mp hy with h | h
      · rw [h]; exact List.mem_cons_self
      · exact List.mem_cons_of_mem _ (List.mem_append_right _ (List.mem_cons_of_mem _ h)))) e e2
    have := congrArg List.length this
    rw [List.length_append] at this
    have : a.length + (c.length + 1) = c.length := this
    omega
theorem nd_len : ∀ (n : Nat) (l : List Nat), l.Nodup → (∀ x ∈ l, x < n) → l.length ≤ n
  | 0, [], _, _ => Nat.le_refl _
  | 0, a :: l, _, h => by have := h a List.mem_cons_self; omega
  | n + 1, l, hd, h => by
    by_cases q : n ∈ l
    · have := nd_len n (l.erase n) (hd.erase _) (fun x hx => by
        have h1 := List.mem_of_mem_erase hx
        have h2 := h x h1
        have : x ≠ n := fun e => by
          subst e
          exact (List.Nodup.not_mem_erase hd) hx
        omega)
      rw [List.length_erase_of_mem q] at this
      omega
    · have := nd_len n l hd (fun x hx => by
        have := h x hx
        have : x ≠ n := fun e => by subst e; exact q hx
        omega)
      omega
theorem nxC_len {l : List Nat} (h : ∀ y ∈ l, y < 400) (e : nxC X b l) : l.length ≤ 400 := nd_len 400 l (nxC_nd h e) h
/-- what a chain begins with -/
def hdI (l : List Nat) : Int32 := match l with
  | [] => -1
  | x :: _ => nI x
theorem nxC_nx {x : Nat} {l : List Nat} (h : nxC X b (x :: l)) : pv X b 56 x = hdI l := by
  cases l with
  | nil => exact h
  | cons y l => exact h.1
/-- among -/
theorem amg_l {k : Nat} {x : List Int32 × Thg} {l1 l3 : Int32} (hL : LN X) (h3 : X.1 3 = nI b) (hb : b ≤ 1) (hK : KNX X K) (hx : K[k]? = some x) (hn : 6002 ≤ n) : ∀ (l : List Nat) (os : List Thg) (fu : Nat) (v : Bool), l.length = os.length → (∀ y ∈ l, y < 400) → nxC X b l → (∀ (i y : Nat) (o' : Thg), l[i]? = some y → os[i]? = some o' → THG X b y o') → l.length < fu → gf253_261 n fu l1 (nI k) l3 (b2 v) (hdI l) X = some (b2 (v || os.any (fun o => same x.2 o)), X)
  | l, os, 0, v, _, _, _, _, h => by omega
  | [], [], fu + 1, v, _, _, _, _, _ => by
    show gb253_261 n (gf253_261 n fu) l1 (nI k) l3 (b2 v) (-1) X = _
    unfold gb253_261
    rw [if_pos rfl, List.any_nil, Bool.or_false]
    cases v <;> rfl
  | [], _ :: _, _, _, h, _, _, _, _ => by cases h
  | _ :: _, [], _, _, h, _, _, _, _ => by cases h
  | y :: l, o :: os, fu + 1, v, hl, h4, hc, ho, hf => by
    have hy := h4 y List.mem_cons_self
    have hrec := fun v => amg_l (l1 := l1) (l3 := l3) hL h3 hb hK hx hn l os fu v (by have : l.length + 1 = os.length + 1 := hl; omega) (fun z hz => h4 z (List.mem_cons_of_mem _ hz)) (nxC_tl hc) (fun i z o' h1 h2 => ho (i + 1) z o' h1 h2) (by have : l.length + 1 < fu + 1 := hf; omega)
    have hnx := nxC_nx hc
    unfold pv at hnx
    show gb253_261 n (gf253_261 n fu) l1 (nI k) l3 (b2 v) (nI y) X = _
    unfold gb253_261 gb253_291 gb253_296
    have e296 : ∀ v : Bool, ((rd (X.2.2 56) ((400 * (X.1 3)) + nI y)).bind fun x2 => gf253_261 n fu l1 (nI k) l3 (b2 v) x2 X) = gf253_261 n fu l1 (nI k) l3 (b2 v) (hdI l) X := by
      intro v
      rw [j3 (a := 400) (k := 400) h3 rfl, rd_cv hL (by decide) (by show _ < 800; omega) (by omega), hnx]
      rfl
    rw [if_neg (nI_m1 (by omega)), List.any_cons]
    cases v with
    | true =>
      rw [if_neg (show ¬ b2 true = 0 by decide)]
      show ((rd (X.2.2 56) ((400 * (X.1 3)) + nI y)).bind fun x2 => gf253_261 n fu l1 (nI k) l3 (b2 true) x2 X) = _
      rw [e296, hrec]
      simp
    | false =>
      rw [if_pos b2_f, j3 (a := 400) (k := 400) h3 rfl, one_is hL hK hx hb hy (ho 0 y o rfl rfl) hn]
      dsimp only [Option.bind_some]
      cases hs : same x.2 o with
      | true =>
        rw [if_neg (by decide)]
        show ((rd (X.2.2 56) ((400 * (X.1 3)) + nI y)).bind fun x2 => gf253_261 n fu l1 (nI k) l3 (b2 true) x2 X) = _
        rw [e296, hrec]
        simp
      | false =>
        rw [if_pos b2_f]
        show ((rd (X.2.2 56) ((400 * (X.1 3)) + nI y)).bind fun x2 => gf253_261 n fu l1 (nI k) l3 (b2 false) x2 X) = _
        rw [e296, hrec]
        simp
theorem i3008 {k : Nat} : (3008 : Int32) + nI k = nI (3008 + k) := by rw [show (3008 : Int32) = nI 3008 from rfl, nI_add]
theorem nI_sub_neg {a c : Nat} (h : a < c) (hc : c < 1000) : nI a - nI c < 0 := by
  rw [Int32.lt_iff_toInt_lt, Int32.toInt_sub, nI_toInt (by omega), nI_toInt (by omega)]
  show Int.bmod _ _ < 0
  rw [Int.bmod_eq_of_le (by omega) (by omega)]
  omega
theorem nI_sub_le {a c : Nat} (h : c ≤ a) : nI a - nI c = nI (a - c) := by
  have : nI a = nI (a - c) + nI c := by rw [nI_add, Nat.sub_add_cancel h]
  rw [this, Int32.add_sub_cancel]
theorem lt_of_le_neg {a c : Int32} : (¬ c ≤ a) ↔ a < c := Int32.not_le
/-- test -/
theorem tst_ok (hL : LN X) (h3 : X.1 3 = nI b) (hb : b ≤ 1) (hK : KNX X K) (hE : E.1 = K) (hp : p < 400) (hU : ∀ u, U u → u < 400) (h : TSTn X b U p φ) (hn : 6002 ≤ n) : g253 n (nI (400 * b + p)) X = some (b2 (φ E), X) := by
  obtain ⟨w, s, ⟨c, _, c2, c3, c4⟩, h51, hS, h⟩ := h
  unfold pv at h51
  unfold g253
  rw [rd_cv hL (by decide) (by show _ < 800; omega) (by omega), h51]
  dsimp only [Option.bind_some]
  rw [kof_ok hK hS (by omega) hn]
  dsimp only [Option.bind_some]
  cases hf : knf K w with
  | none =>
    have hk := knf_no hf
    have hφ : φ E = false := by
      rcases h with ⟨k, o, _, _, _, rfl⟩ | ⟨_, o, os, l, _, _, _, _, _, rfl⟩
      · unfold dTest; rw [hE, hk]
      · unfold dAmong; rw [hE, hk]
    rw [if_pos rfl, hφ]
    rfl
  | some k =>
    obtain ⟨x, hx, hxw, hkn⟩ := knf_lt hf
    have hk8 : k < 8 := by have := lt_of_get hx; have := hK.2.1; omega
    obtain ⟨k1, k2, k3, k4⟩ := hK.2.2 k x hx
    dsimp only
    rw [if_neg (nI_m1 (by omega)), rd_cv hL (by decide) (by show _ < 800; omega) (by omega)]
    dsimp only [Option.bind_some]
    rcases h with ⟨q, o, ht, h50, ho, rfl⟩ | ⟨h50, o, os, l, ho, hch, hl, hlo, hoo, rfl⟩
    · unfold pv at h50
      rw [h50]
      have hd : ∀ r : Bool, (∀ t : Thg, kn E.1 w = some t → dTest (q + 32) w o E = r) → dTest (q + 32) w o E = r := fun r hr => hr x.2 (by rw [hE]; exact hkn)
      have hdt : dTest (q + 32) w o E = (if q + 32 = 42 then true else if q + 32 = 35 then same x.2 o else if q + 32 = 36 then !x.2.1 && decide (x.2.2.1 < o.2.1) else if q + 32 = 37 then !x.2.1 && decide (o.2.1 < x.2.2.1) else if q + 32 = 38 then x.2.1 && std x.2.2.2 o.2.2 0 else if q + 32 = 39 then x.2.1 && (decide (o.2.2.length ≤ x.2.2.2.length) && std x.2.2.2 o.2.2 (x.2.2.2.length - o.2.2.length)) else x.2.1 && (List.range (x.2.2.2.length + 1)).any (fun k => std x.2.2.2 o.2.2 k)) := by
        unfold dTest
        rw [hE, hkn]
      rcases ht with (rfl | rfl) | ⟨rfl | rfl, hof⟩ | ⟨q1, q2, hot⟩
      · -- is
        rw [if_pos (by decide), one_is hL hK hx hb hp ho hn, hdt]
        dsimp only [Option.bind_some]
        cases same x.2 o <;> rfl
      · -- given
        rw [hdt]
        rfl
      · -- below
        have o2 := ho.2.1 hof
        unfold pv at o2
        rw [if_neg (by decide), if_pos (by decide), rd_cv hL (by decide) (by show _ < 8; omega) (by omega), k2, hdt]
        dsimp only [Option.bind_some]
        cases hxt : x.2.1 with
        | true => rw [if_neg (show ¬ b2 true = 0 by decide)]; rfl
        | false =>
          rw [if_pos b2_f, rd_cv hL (by decide) (by show _ < 8; omega) (by omega), k3 hxt]
          dsimp only [Option.bind_some]
          rw [rd_cv hL (by decide) (by show _ < 800; omega) (by omega), o2]
          dsimp only [Option.bind_some]
          by_cases hlt : x.2.2.1 < o.2.1
          · rw [if_neg (lt_of_le_neg.mpr hlt), decide_eq_true hlt]; rfl
          · rw [if_pos (Classical.byContradiction fun q => hlt (lt_of_le_neg.mp q)), decide_eq_false hlt]; rfl
      · -- above
        have o2 := ho.2.1 hof
        unfold pv at o2
        rw [if_neg (by decide), if_neg (by decide), if_pos (by decide), rd_cv hL (by decide) (by show _ < 8; omega) (by omega), k2, hdt]
        dsimp only [Option.bind_some]
        cases hxt : x.2.1 with
        | true => rw [if_neg (show ¬ b2 true = 0 by decide)]; rfl
        | false =>
          rw [if_pos b2_f, rd_cv hL (by decide) (by show _ < 8; omega) (by omega), k3 hxt]
          dsimp only [Option.bind_some]
          rw [rd_cv hL (by decide) (by show _ < 800; omega) (by omega), o2]
          dsimp only [Option.bind_some]
          by_cases hlt : o.2.1 < x.2.2.1
          · rw [if_neg (lt_of_le_neg.mpr hlt), decide_eq_true hlt]; rfl
          · rw [if_pos (Classical.byContradiction fun q => hlt (lt_of_le_neg.mp q)), decide_eq_false hlt]; rfl
      · obtain ⟨r, ⟨c', _, d2, d3, d4⟩, r2, r3⟩ := ho.2.2 hot
        unfold pv at r2
        have e54 : rd (X.2.2 54) (nI (400 * b + p)) = some (nI r) := by rw [rd_cv hL (by decide) (by show _ < 800; omega) (by omega), r2]
        have e60 : rd (X.2.2 60) (nI k) = some (b2 x.2.1) := by rw [rd_cv hL (by decide) (by show _ < 8; omega) (by omega), k2]
        have hq : q = 6 ∨ q = 7 ∨ q = 8 := by omega
        rcases hq with rfl | rfl | rfl
        · rw [if_neg (by decide), if_neg (by decide), if_neg (by decide), if_pos (by decide), e60, hdt]
          dsimp only [Option.bind_some]
          cases hxt : x.2.1 with
          | false => rw [if_pos b2_f]; rfl
          | true =>
            rw [if_neg (show ¬ b2 true = 0 by decide), e54]
            dsimp only [Option.bind_some]
            rw [i3008, show (0 : Int32) = nI 0 from rfl, sta_ok r3 (by omega) (k4 hxt).1 (by omega) (by omega) hn]
            dsimp only [Option.bind_some]
            cases hst : std x.2.2.2 o.2.2 0 with
            | true => rw [if_neg (show ¬ b2 true = nI 0 by decide)]; rfl
            | false => rw [if_pos (show b2 false = nI 0 from rfl)]; rfl
        · have hd7 : dTest (7 + 32) w o E = (x.2.1 && (decide (o.2.2.length ≤ x.2.2.2.length) && std x.2.2.2 o.2.2 (x.2.2.2.length - o.2.2.length))) := by rw [hdt]; rfl
          rw [if_neg (by decide), if_neg (by decide), if_neg (by decide), if_neg (by decide), if_pos (by decide), e60, hd7]
          dsimp only [Option.bind_some]
          cases hxt : x.2.1 with
          | false => rw [if_pos b2_f]; rfl
          | true =>
            have hkt := (k4 hxt).1
            rw [if_neg (show ¬ b2 true = 0 by decide), e54]
            dsimp only [Option.bind_some]
            rw [i3008, rd_nI (by omega), hkt.2.1]
            dsimp only [Option.bind_some]
            rw [rd_nI (by omega), r3.2.1]
            dsimp only [Option.bind_some]
            by_cases hle : o.2.2.length ≤ x.2.2.2.length
            · rw [nI_sub_le hle, sta_ok r3 (by omega) hkt (by omega) (by have := hkt.1; omega) hn]
              dsimp only [Option.bind_some]
              rw [decide_eq_true hle]
              cases hst : std x.2.2.2 o.2.2 (x.2.2.2.length - o.2.2.length) with
              | true => rw [if_neg (show ¬ b2 true = 0 by decide)]; rfl
              | false => rw [if_pos b2_f]; rfl
            · rw [sta_m r3 (by omega) (nI_sub_neg (by omega) (by have := r3.1; omega)) hn]
              dsimp only [Option.bind_some]
              rw [if_pos rfl, decide_eq_false hle]
              rfl
        · have hd8 : dTest (8 + 32) w o E = (x.2.1 && (List.range (x.2.2.2.length + 1)).any (fun k => std x.2.2.2 o.2.2 k)) := by rw [hdt]; rfl
          rw [if_neg (by decide), if_neg (by decide), if_neg (by decide), if_neg (by decide), if_neg (by decide), if_pos (by decide), e60, hd8]
          dsimp only [Option.bind_some]
          cases hxt : x.2.1 with
          | false => rw [if_pos b2_f]; rfl
          | true =>
            rw [if_neg (show ¬ b2 true = 0 by decide), e54]
            dsimp only [Option.bind_some]
            rw [i3008, hol_ok r3 (by omega) (k4 hxt).1 (by omega) hn]
            dsimp only [Option.bind_some]
            rw [Bool.true_and]
            cases hst : (List.range (x.2.2.2.length + 1)).any (fun k => std x.2.2.2 o.2.2 k) with
            | true => rw [if_neg (show ¬ b2 true = 0 by decide)]; rfl
            | false => rw [if_pos b2_f]; rfl
    · unfold pv at h50
      rw [h50, if_neg (by decide), if_neg (by decide), if_neg (by decide), if_neg (by decide), if_neg (by decide), if_neg (by decide), if_pos (by decide), one_is hL hK hx hb hp ho hn]
      dsimp only [Option.bind_some]
      have e55 : cv X 55 (400 * b + p) = hdI l := by
        rcases hch with ⟨rfl, h55⟩ | ⟨hne, h55, _⟩
        · exact h55
        · cases l with
          | nil => exact absurd rfl hne
          | cons y l => exact h55
      have hnx : nxC X b l := by
        rcases hch with ⟨rfl, _⟩ | ⟨_, _, h⟩
        · trivial
        · exact h
      have hl4 : ∀ y ∈ l, y < 400 := fun y hy => hU y (hl y hy)
      have hlen := nxC_len hl4 hnx
      rw [rd_cv hL (by decide) (by show _ < 800; omega) (by omega), e55]
      dsimp only [Option.bind_some]
      rw [amg_l hL h3 hb hK hx hn l os n _ hlo hl4 hnx hoo (by omega)]
      unfold dAmong
      rw [hE, hkn]
      rfl
end
end ZHO

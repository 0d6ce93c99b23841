/-! WHAT THE TEXT MAKES OF A PLAN -/
section ZPN
variable {P : Pln} {ts : List Tk} {names : List (List Int32)} {w : List Int32}
theorem fnd_nm (h : fnd names w = none) : w ∉ names := by
  unfold fnd at h
  rw [List.findIdx?_eq_none_iff] at h
  intro q
  have := h w q
  simp at this
theorem sNew_nm {x : Tk × List Tk} (h : sNew names ts = .inr x) : x.1.2.2.1 ∉ names := by
  unfold sNew at h
  obtain ⟨y, _, h⟩ := rb_inr_el h
  by_cases q : (fnd names y.1.2.2.1).isSome = true
  · rw [if_pos q] at h; cases h
  · rw [if_neg q] at h
    have h := Sum.inr.inj h
    rw [← h]
    refine fnd_nm ?_
    cases hf : fnd names y.1.2.2.1 with
    | none => rfl
    | some i => rw [hf] at q; exact absurd rfl q
theorem nd_one {α : Type} {a : α} : [a].Nodup := by simp
theorem nd_snoc {α : Type} {l : List α} {a : α} (h : l.Nodup) (ha : a ∉ l) : (l ++ [a]).Nodup := by
  rw [List.nodup_append]
  refine ⟨h, nd_one, fun x hx y hy => ?_⟩
  rw [List.mem_singleton] at hy
  subst hy
  intro q; subst q; exact ha hx
theorem sChoL_nd {most : Nat} : ∀ (k : Nat) (cs : List (List Int32)) (ts : List Tk) {y : List (List Int32) × List Tk}, cs.Nodup → sChoL most k cs ts = .inr y → y.1.Nodup
  | 0, cs, ts, y, h, e => by cases e; exact h
  | k + 1, cs, ts, y, h, e => by
    unfold sChoL at e
    by_cases q : (hd ts).1 = 10
    · rw [if_pos q] at e
      obtain ⟨x, hx, e⟩ := rb_inr_el e
      by_cases q2 : most ≤ cs.length
      · rw [if_pos q2] at e; cases e
      · rw [if_neg q2] at e
        exact sChoL_nd k _ _ (nd_snoc h (sNew_nm hx)) e
    · rw [if_neg q] at e; cases e; exact h
theorem sKind_nd {y : (Nat × List (List Int32)) × List Tk} (e : sKind ts = .inr y) : y.1.2.Nodup := by
  unfold sKind at e
  by_cases q : (hd ts).1 = 15
  · rw [if_pos q] at e; cases e; exact List.nodup_nil
  rw [if_neg q] at e
  by_cases q : (hd ts).1 = 16
  · rw [if_pos q] at e; cases e; exact List.nodup_nil
  rw [if_neg q] at e
  obtain ⟨_, _, e⟩ := rb_inr_el e
  obtain ⟨_, _, e⟩ := rb_inr_el e
  obtain ⟨x, _, e⟩ := rb_inr_el e
  obtain ⟨z, hz, e⟩ := rb_inr_el e
  obtain ⟨_, _, e⟩ := rb_inr_el e
  cases e
  exact sChoL_nd _ _ _ nd_one hz
/-- what stays of the plan when rules are read -/
theorem sRul_k {f : Nat} {l : Int32} {k : Nat × List (List Int32)} {x : Pln × List Tk} (e : sRul P f l k ts = .inr x) : x.1.1 = P.1 ∧ x.1.2.1 = P.2.1 ∧ x.1.2.2.1 = P.2.2.1 ∧ x.1.2.2.2.2.1 = P.2.2.2.2.1 ∧ ∃ φ s, x.1.2.2.2.1 = P.2.2.2.1 ++ [(f, l, φ, s)] := by
  unfold sRul at e
  obtain ⟨y, _, e⟩ := rb_inr_el e
  obtain ⟨_, _, e⟩ := rb_inr_el e
  obtain ⟨z, _, e⟩ := rb_inr_el e
  cases e
  exact ⟨rfl, rfl, rfl, rfl, _, _, rfl⟩
theorem sRulL_k {f : Nat} {k : Nat × List (List Int32)} : ∀ (n : Nat) (P : Pln) (ts : List Tk) {x : Pln × List Tk}, sRulL f k n P ts = .inr x → x.1.1 = P.1 ∧ x.1.2.1 = P.2.1 ∧ x.1.2.2.1 = P.2.2.1 ∧ x.1.2.2.2.2.1 = P.2.2.2.2.1 ∧ ∃ r, x.1.2.2.2.1 = P.2.2.2.1 ++ r ∧ ∀ R ∈ r, R.1 = f ∧ R.2.1 = -1
  | 0, P, ts, x, e => by cases e; exact ⟨rfl, rfl, rfl, rfl, [], by rw [List.append_nil], fun R h => by cases h⟩
  | n + 1, P, ts, x, e => by
    unfold sRulL at e
    by_cases q : (hd ts).1 = 21
    · rw [if_pos q] at e
      obtain ⟨_, _, e⟩ := rb_inr_el e
      obtain ⟨y, hy, e⟩ := rb_inr_el e
      obtain ⟨a1, a2, a3, a4, φ, s, a5⟩ := sRul_k hy
      obtain ⟨b1, b2, b3, b4, r, b5, b6⟩ := sRulL_k n y.1 y.2 e
      refine ⟨b1.trans a1, b2.trans a2, b3.trans a3, b4.trans a4, (f, -1, φ, s) :: r, by rw [b5, a5, List.append_assoc]; rfl, fun R hR => ?_⟩
      rcases List.mem_cons.mp hR with h | h
      · subst h; exact ⟨rfl, rfl⟩
      · exact b6 R h
    · rw [if_neg q] at e; cases e; exact ⟨rfl, rfl, rfl, rfl, [], by rw [List.append_nil], fun R h => by cases h⟩
theorem sItm_k {l : Nat} {x : Pln × List Tk} (e : sItm P l ts = .inr x) : x.1.1 = P.1 ∧ x.1.2.1 = P.2.1 ∧ x.1.2.2.1 = P.2.2.1 ∧ ((x.1.2.2.2.2.1 = P.2.2.2.2.1 ∧ ∃ R, x.1.2.2.2.1 = P.2.2.2.1 ++ [R] ∧ R.2.1 = nI l ∧ R.1 < P.2.1.length) ∨ x.1.2.2.2.1 = P.2.2.2.1 ∧ ∃ I, x.1.2.2.2.2.1 = P.2.2.2.2.1 ++ [I] ∧ I.1 = l ∧ I.2.1 < P.2.1.length) := by
  unfold sItm at e
  have hk : ∀ {ts : List Tk} {y : Nat × List Tk}, sKnw (P.2.1.map (·.1)) ts = .inr y → y.1 < P.2.1.length := by
    intro ts y h
    unfold sKnw at h
    obtain ⟨z, _, h⟩ := rb_inr_el h
    cases hf : fnd (P.2.1.map (·.1)) z.1.2.2.1 with
    | none => rw [hf] at h; cases h
    | some i =>
      rw [hf] at h
      cases h
      unfold fnd at hf
      have := (List.findIdx?_eq_some_iff_getElem.mp hf).1
      rw [List.length_map] at this
      exact this
  by_cases q : (hd ts).1 = 21
  · rw [if_pos q] at e
    obtain ⟨_, _, e⟩ := rb_inr_el e
    obtain ⟨y, hy, e⟩ := rb_inr_el e
    obtain ⟨a1, a2, a3, a4, φ, s, a5⟩ := sRul_k e
    exact ⟨a1, a2, a3, Or.inl ⟨a4, _, a5, rfl, hk hy⟩⟩
  rw [if_neg q] at e
  by_cases q2 : (hd ts).1 = 19 ∨ (hd ts).1 = 24
  · rw [if_pos q2] at e
    obtain ⟨_, _, e⟩ := rb_inr_el e
    obtain ⟨y, hy, e⟩ := rb_inr_el e
    by_cases q3 : (hd ts).1 = 19
    · rw [if_pos q3] at e
      obtain ⟨_, _, e⟩ := rb_inr_el e
      cases e
      exact ⟨rfl, rfl, rfl, Or.inr ⟨rfl, _, rfl, rfl, hk hy⟩⟩
    · rw [if_neg q3] at e
      obtain ⟨_, _, e⟩ := rb_inr_el e
      obtain ⟨_, _, e⟩ := rb_inr_el e
      cases e
      exact ⟨rfl, rfl, rfl, Or.inr ⟨rfl, _, rfl, rfl, hk hy⟩⟩
  · rw [if_neg q2] at e; cases e
theorem sItmL_k {l : Nat} : ∀ (n : Nat) (P : Pln) (ts : List Tk) {x : Pln × List Tk}, sItmL l n P ts = .inr x → x.1.1 = P.1 ∧ x.1.2.1 = P.2.1 ∧ x.1.2.2.1 = P.2.2.1 ∧ (∃ r, x.1.2.2.2.1 = P.2.2.2.1 ++ r ∧ ∀ R ∈ r, R.2.1 = nI l ∧ R.1 < P.2.1.length) ∧ ∃ r, x.1.2.2.2.2.1 = P.2.2.2.2.1 ++ r ∧ ∀ I ∈ r, I.1 = l ∧ I.2.1 < P.2.1.length
  | 0, P, ts, x, e => by cases e; exact ⟨rfl, rfl, rfl, ⟨[], by rw [List.append_nil], fun R h => by cases h⟩, [], by rw [List.append_nil], fun R h => by cases h⟩
  | n + 1, P, ts, x, e => by
    unfold sItmL at e
    by_cases q : (hd ts).1 = 6
    · rw [if_pos q] at e; cases e; exact ⟨rfl, rfl, rfl, ⟨[], by rw [List.append_nil], fun R h => by cases h⟩, [], by rw [List.append_nil], fun R h => by cases h⟩
    · rw [if_neg q] at e
      obtain ⟨y, hy, e⟩ := rb_inr_el e
      obtain ⟨a1, a2, a3, a4⟩ := sItm_k hy
      obtain ⟨b1, b2, b3, ⟨r, b4, b5⟩, r', b6, b7⟩ := sItmL_k n y.1 y.2 e
      rw [a2] at b5 b7
      refine ⟨b1.trans a1, b2.trans a2, b3.trans a3, ?_⟩
      rcases a4 with ⟨c1, R, c2, c3, c4⟩ | ⟨c1, I, c2, c3, c4⟩
      · refine ⟨⟨R :: r, by rw [b4, c2, List.append_assoc]; rfl, fun S hS => ?_⟩, r', by rw [b6, c1], b7⟩
        rcases List.mem_cons.mp hS with h | h
        · subst h; exact ⟨c3, c4⟩
        · exact b5 S h
      · refine ⟨⟨r, by rw [b4, c1], b5⟩, I :: r', by rw [b6, c2, List.append_assoc]; rfl, fun S hS => ?_⟩
        rcases List.mem_cons.mp hS with h | h
        · subst h; exact ⟨c3, c4⟩
        · exact b7 S h
theorem sLay_k {x : Pln × List Tk} (e : sLay P ts = .inr x) : x.1.1 = P.1 ∧ x.1.2.1 = P.2.1 ∧ (∃ L, x.1.2.2.1 = P.2.2.1 ++ [L]) ∧ (∃ r, x.1.2.2.2.1 = P.2.2.2.1 ++ r ∧ ∀ R ∈ r, R.2.1 = nI P.2.2.1.length ∧ R.1 < P.2.1.length) ∧ ∃ r, x.1.2.2.2.2.1 = P.2.2.2.2.1 ++ r ∧ ∀ I ∈ r, I.1 = P.2.2.1.length ∧ I.2.1 < P.2.1.length := by
  unfold sLay at e
  obtain ⟨_, _, e⟩ := rb_inr_el e
  obtain ⟨w, _, e⟩ := rb_inr_el e
  obtain ⟨o, _, e⟩ := rb_inr_el e
  obtain ⟨_, _, e⟩ := rb_inr_el e
  obtain ⟨y, hy, e⟩ := rb_inr_el e
  obtain ⟨_, _, e⟩ := rb_inr_el e
  cases e
  obtain ⟨b1, b2, b3, b4, b5⟩ := sItmL_k _ _ _ hy
  exact ⟨b1, b2, ⟨_, b3⟩, b4, b5⟩
theorem sFlg_k {x : Pln × List Tk} (e : sFlg P ts = .inr x) : x.1.1 = P.1 ∧ (∃ F, x.1.2.1 = P.2.1 ++ [F] ∧ F.1 ∉ P.2.1.map (·.1) ∧ F.2.1.2.Nodup) ∧ x.1.2.2.1 = P.2.2.1 ∧ (∃ r, x.1.2.2.2.1 = P.2.2.2.1 ++ r ∧ ∀ R ∈ r, R.1 = P.2.1.length ∧ R.2.1 = -1) ∧ x.1.2.2.2.2.1 = P.2.2.2.2.1 := by
  unfold sFlg at e
  obtain ⟨_, _, e⟩ := rb_inr_el e
  obtain ⟨w, hw, e⟩ := rb_inr_el e
  obtain ⟨_, _, e⟩ := rb_inr_el e
  obtain ⟨k, hk, e⟩ := rb_inr_el e
  obtain ⟨_, _, e⟩ := rb_inr_el e
  obtain ⟨_, _, e⟩ := rb_inr_el e
  obtain ⟨d, _, e⟩ := rb_inr_el e
  obtain ⟨_, _, e⟩ := rb_inr_el e
  obtain ⟨o, _, e⟩ := rb_inr_el e
  obtain ⟨_, _, e⟩ := rb_inr_el e
  obtain ⟨ns, _, e⟩ := rb_inr_el e
  obtain ⟨y, hy, e⟩ := rb_inr_el e
  obtain ⟨_, _, e⟩ := rb_inr_el e
  cases e
  obtain ⟨b1, b2, b3, b4, b5⟩ := sRulL_k _ _ _ hy
  exact ⟨b1, ⟨_, rfl, sNew_nm hw, sKind_nd hk⟩, b3, b5, b4⟩
/-- which rules belong to what -/
def PWF (P : Pln) : Prop := PND P ∧ (∀ R ∈ P.2.2.2.1, R.1 < P.2.1.length ∧ (R.2.1 = -1 ∨ ∃ l, l < P.2.2.1.length ∧ R.2.1 = nI l)) ∧ ∀ I ∈ P.2.2.2.2.1, I.1 < P.2.2.1.length ∧ I.2.1 < P.2.1.length
theorem PWF_0 : PWF ([], [], [], [], [], [], 0) := ⟨⟨List.nodup_nil, fun F h => by cases h⟩, fun R h => (by cases h), fun I h => (by cases h)⟩
theorem sTxtL_wf : ∀ (n : Nat) (P : Pln) (ts : List Tk) {x : Pln × List Tk}, PWF P → sTxtL n P ts = .inr x → PWF x.1
  | 0, P, ts, x, h, e => by cases e; exact h
  | n + 1, P, ts, x, h, e => by
    unfold sTxtL at e
    by_cases q : (hd ts).1 = 0
    · rw [if_pos q] at e; cases e; exact h
    rw [if_neg q] at e
    obtain ⟨y, hy, e⟩ := rb_inr_el e
    refine sTxtL_wf n y.1 y.2 ?_ e
    obtain ⟨⟨h1, h2⟩, h3, h4⟩ := h
    by_cases q1 : (hd ts).1 = 25
    · rw [if_pos q1] at hy
      obtain ⟨a1, a2, a3, a4, a5, a6⟩ := sSeg_len hy
      unfold PWF PND
      rw [a2, a3, a4, a5]
      exact ⟨⟨h1, h2⟩, h3, h4⟩
    rw [if_neg q1] at hy
    by_cases q2 : (hd ts).1 = 14
    · rw [if_pos q2] at hy
      obtain ⟨a1, ⟨F, a2, a3, a4⟩, a5, ⟨r, a6, a7⟩, a8⟩ := sFlg_k hy
      unfold PWF PND
      rw [a2, a5, a6, a8, List.map_append, List.length_append]
      refine ⟨⟨nd_snoc h1 a3, fun G hG => ?_⟩, fun R hR => ?_, fun I hI => ?_⟩
      · rcases List.mem_append.mp hG with g | g
        · exact h2 G g
        · rw [List.mem_singleton.mp g]; exact a4
      · rcases List.mem_append.mp hR with g | g
        · exact ⟨by have := (h3 R g).1; omega, (h3 R g).2⟩
        · exact ⟨by rw [(a7 R g).1]; show _ < _ + 1; omega, Or.inl (a7 R g).2⟩
      · exact ⟨(h4 I hI).1, by have := (h4 I hI).2; omega⟩
    rw [if_neg q2] at hy
    by_cases q3 : (hd ts).1 = 22
    · rw [if_pos q3] at hy
      obtain ⟨a1, a2, ⟨L, a3⟩, ⟨r, a4, a5⟩, r', a6, a7⟩ := sLay_k hy
      unfold PWF PND
      rw [a2, a3, a4, a6, List.length_append]
      refine ⟨⟨h1, h2⟩, fun R hR => ?_, fun I hI => ?_⟩
      · rcases List.mem_append.mp hR with g | g
        · refine ⟨(h3 R g).1, ?_⟩
          rcases (h3 R g).2 with q | ⟨l, q, q'⟩
          · exact Or.inl q
          · exact Or.inr ⟨l, by omega, q'⟩
        · exact ⟨(a5 R g).2, Or.inr ⟨_, by show _ < _ + 1; omega, (a5 R g).1⟩⟩
      · rcases List.mem_append.mp hI with g | g
        · exact ⟨by have := (h4 I g).1; omega, (h4 I g).2⟩
        · exact ⟨by rw [(a7 I g).1]; show _ < _ + 1; omega, (a7 I g).2⟩
    · rw [if_neg q3] at hy; cases hy
end ZPN
section ZPQ
variable {P : Pln} {ts : List Tk}
/-- the plan's bounds -/
def PBd (P : Pln) : Prop := P.1.length ≤ 12 ∧ P.2.1.length ≤ 24 ∧ P.2.2.1.length ≤ 8
theorem sFirst_lt {a m : Nat} {y : List Tk} (h : sFirst a m ts = .inr y) : a < m := by
  unfold sFirst at h
  by_cases q : m ≤ a
  · rw [if_pos q] at h; cases h
  · omega
theorem sTxtL_end : ∀ (n : Nat) (P : Pln) (ts : List Tk) {x : Pln × List Tk}, PBd P → 45 ≤ n + (P.1.length + P.2.1.length + P.2.2.1.length) → sTxtL n P ts = .inr x → (hd x.2).1 = 0 ∧ PBd x.1
  | 0, P, ts, x, h, hn, e => by
    obtain ⟨h1, h2, h3⟩ := h
    omega
  | n + 1, P, ts, x, h, hn, e => by
    unfold sTxtL at e
    by_cases q : (hd ts).1 = 0
    · rw [if_pos q] at e; cases e; exact ⟨q, h⟩
    rw [if_neg q] at e
    obtain ⟨y, hy, e⟩ := rb_inr_el e
    obtain ⟨h1, h2, h3⟩ := h
    by_cases q1 : (hd ts).1 = 25
    · rw [if_pos q1] at hy
      obtain ⟨a1, a2, a3, _⟩ := sSeg_len hy
      unfold sSeg at hy
      obtain ⟨_, hl, _⟩ := rb_inr_el hy
      have := sFirst_lt hl
      exact sTxtL_end n y.1 y.2 ⟨by omega, by rw [a2]; omega, by rw [a3]; omega⟩ (by rw [a1, a2, a3]; omega) e
    rw [if_neg q1] at hy
    by_cases q2 : (hd ts).1 = 14
    · rw [if_pos q2] at hy
      obtain ⟨a1, ⟨F, a2, _⟩, a3, _⟩ := sFlg_k hy
      unfold sFlg at hy
      obtain ⟨_, hl, _⟩ := rb_inr_el hy
      have := sFirst_lt hl
      have hl : y.1.2.1.length = P.2.1.length + 1 := by rw [a2, List.length_append]; rfl
      exact sTxtL_end n y.1 y.2 ⟨by rw [a1]; omega, by omega, by rw [a3]; omega⟩ (by rw [a1, hl, a3]; omega) e
    rw [if_neg q2] at hy
    by_cases q3 : (hd ts).1 = 22
    · rw [if_pos q3] at hy
      obtain ⟨a1, a2, ⟨L, a3⟩, _⟩ := sLay_k hy
      unfold sLay at hy
      obtain ⟨_, hl, _⟩ := rb_inr_el hy
      have := sFirst_lt hl
      have hl : y.1.2.2.1.length = P.2.2.1.length + 1 := by rw [a3, List.length_append]; rfl
      exact sTxtL_end n y.1 y.2 ⟨by rw [a1]; omega, by rw [a2]; omega, by omega⟩ (by rw [a1, a2, hl]; omega) e
    · rw [if_neg q3] at hy; cases hy
theorem sMap_get {α β : Type} {F : α → RR β} : ∀ {l : List α} {r : List β}, sMap F l = .inr r → r.length = l.length ∧ ∀ (i : Nat) (y : β), r[i]? = some y → ∃ a, l[i]? = some a ∧ F a = .inr y
  | [], r, e => by cases e; exact ⟨rfl, fun i y h => by cases h⟩
  | a :: l, r, e => by
    have e : (rb (F a) fun b => rb (sMap F l) fun bs => .inr (b :: bs)) = .inr r := e
    obtain ⟨b, hb, e⟩ := rb_inr_el e
    obtain ⟨bs, hs, e⟩ := rb_inr_el e
    cases e
    obtain ⟨h1, h2⟩ := sMap_get hs
    refine ⟨by show bs.length + 1 = l.length + 1; rw [h1], fun i y h => ?_⟩
    cases i with
    | zero => cases h; exact ⟨a, rfl, hb⟩
    | succ i => exact h2 i y h
theorem sSet1_r {i : Nat} {w : Tk × Tk} {x : Nat × Int32} (e : sSet1 P i w = .inr x) : x.1 ≠ i ∧ x.1 < P.2.1.length := by
  unfold sSet1 at e
  cases hf : fnd (P.2.1.map (·.1)) w.1.2.2.1 with
  | none => rw [hf] at e; cases e
  | some g =>
    rw [hf] at e
    have e : (if g = i then .inl (sErr 3 w.1) else match wth (P.2.1.getD g ([], (0, []), [], .inl 0, 0)).2.1 w.2 with
      | none => .inl (sErr 2 w.2)
      | some v => .inr (g, v) : RR (Nat × Int32)) = .inr x := e
    unfold fnd at hf
    have hg := (List.findIdx?_eq_some_iff_getElem.mp hf).1
    rw [List.length_map] at hg
    by_cases q : g = i
    · rw [if_pos q] at e; cases e
    · rw [if_neg q] at e
      cases hw : wth (P.2.1.getD g ([], (0, []), [], .inl 0, 0)).2.1 w.2 with
      | none => rw [hw] at e; cases e
      | some v => rw [hw] at e; cases e; exact ⟨q, hg⟩
/-- settled needs -/
theorem sSetN_r {N : List (List (Nat × Int32))} (e : sSetN P = .inr N) : N.length = P.2.1.length ∧ ∀ (f : Nat) (l : List (Nat × Int32)), N[f]? = some l → l.length = (P.2.1.getD f ([], (0, []), [], .inl 0, 0)).2.2.1.length ∧ ∀ x ∈ l, x.1 ≠ f ∧ x.1 < P.2.1.length := by
  obtain ⟨h1, h2⟩ := sMap_get e
  rw [List.length_range] at h1
  refine ⟨h1, fun f l hl => ?_⟩
  obtain ⟨a, ha, hf⟩ := h2 f l hl
  have : a = f := by
    have hlt := (List.getElem?_eq_some_iff.mp ha).1
    rw [List.getElem?_eq_getElem hlt, List.getElem_range] at ha
    cases ha; rfl
  subst this
  obtain ⟨g1, g2⟩ := sMap_get hf
  refine ⟨g1, fun x hx => ?_⟩
  obtain ⟨i, hi⟩ := List.mem_iff_getElem?.mp hx
  obtain ⟨w, _, hw⟩ := g2 i x hi
  exact sSet1_r hw
end ZPQ

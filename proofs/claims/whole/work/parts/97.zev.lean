/-! THE DOCUMENT AS FUNCTIONS: what a flag is worth -/
section ZEV
/-- a number as it is written -/
def dcN : Nat → Nat → List Int32
  | 0, _ => []
  | k + 1, m => if m < 10 then [nI (48 + m)] else dcN k (m / 10) ++ [nI (48 + m % 10)]
def dcI (v : Int32) : List Int32 := (if v < 0 then [45] else []) ++ dcN 11 v.toInt.natAbs
def mxB (h : Int64) (b : Int32) : Int64 := (h ^^^ b.toInt64) * 1099511628211
def thB (t : Thg) : List Int32 := if t.1 = true then t.2.2 else dcI t.2.1
def hsh (salt : List Int32) (t : Thg) : Int64 := (salt ++ (0 :: thB t)).foldl mxB (-3750763034362895579)
/-- the place of a thing: 0 to 9999 -/
def plc (salt : List Int32) (t : Thg) : Int32 :=
  let h := hsh salt t
  nI ((h.toUInt64 ^^^ (h.toUInt64 >>> 32)).toNat % 10000)
def lstV (sh : List (Int32 × Int32)) : Int32 := (sh.getLast?.getD (0, 0)).2
/-- which value has the place p, s before -/
def atV (p : Int32) (d : Int32) : Int32 → List (Int32 × Int32) → Int32
  | _, [] => d
  | s, x :: l => if s + x.1 ≤ p then atV p d (s + x.1) l else x.2
abbrev KL : Type := List (List Int32 × Thg)
/-- what is served: the value, the place -/
def srvV (K : KL) (spl : List Spl) (s : Srv) : Int32 × Int32 := match s with
  | .inl v => (v, -1)
  | .inr q =>
    let S := spl.getD q ([], [], [])
    match kn K S.1 with
    | none => (lstV S.2.2, -1)
    | some t => (atV (plc S.2.1 t) (lstV S.2.2) 0 S.2.2, plc S.2.1 t)
/-- which segments hold -/
def insL (K : KL) : List (List Int32 × Den) → List Bool → List Bool
  | [], acc => acc
  | s :: l, acc => insL K l (acc ++ [s.2 (K, acc)])
def ins (K : KL) (P : Pln) : List Bool := insL K P.1 []
/-- the first rule of f in a layer that holds -/
def rulO (P : Pln) (E : Env) (f : Nat) (l : Int32) : Option Nat := P.2.2.2.1.findIdx? (fun R => R.1 == f && R.2.1 == l && R.2.2.1 E)
def itmO (P : Pln) (f l : Nat) (st : Bool) : Option Nat := P.2.2.2.2.1.findIdx? (fun I => I.2.1 == f && I.1 == l && I.2.2.isSome == st)
/-- value; kind, layer, rule, place, flag -/
abbrev Why : Type := Int32 × Int32 × Int32 × Int32 × Int32
def rl0 : Rul := (0, 0, (fun _ => false), .inl 0)
def byS (K : KL) (P : Pln) (s : Srv) (k l r : Int32) : Int32 × Why := ((srvV K P.2.2.2.2.2.1 s).1, (k, l, r, (srvV K P.2.2.2.2.2.1 s).2, -1))
def ofL (P : Pln) (l : Nat) : Int32 := (P.2.2.1.getD l ([], -1)).2
/-- by the layers, from l on -/
def byL (K : KL) (P : Pln) (E : Env) (f : Nat) : Nat → Int32 → Option (Int32 × Why)
  | 0, _ => none
  | k + 1, l => if l = -1 then none else
    let n := l.toInt.toNat
    if (itmO P f n false).isSome = true then some ((P.2.1.getD f ([], (0, []), [], .inl 0, 0)).2.2.2.2, (3, l, -1, -1, -1))
    else match rulO P E f l with
      | some r => some (byS K P (P.2.2.2.1.getD r rl0).2.2.2 4 l (nI r))
      | none => match itmO P f n true with
        | some i => some (byS K P (((P.2.2.2.2.1.getD i (0, 0, none)).2.2).getD (.inl 0)) 5 l (-1))
        | none => byL K P E f k (ofL P n)
/-- the first need that is not met -/
def badN (W : Nat → Int32) (ns : List (Nat × Int32)) : Option Nat := (ns.find? (fun x => !(W x.1 == x.2))).map (·.1)
def byI (K : KL) (P : Pln) (N : List (List (Nat × Int32))) (E : Env) (W : Nat → Int32) (f : Nat) : Int32 × Why :=
  match badN W (N.getD f []) with
  | some g => ((P.2.1.getD f ([], (0, []), [], .inl 0, 0)).2.2.2.2, (1, -1, -1, -1, nI g))
  | none => match rulO P E f (-1) with
    | some r => byS K P (P.2.2.2.1.getD r rl0).2.2.2 2 (-1) (nI r)
    | none => byS K P (P.2.1.getD f ([], (0, []), [], .inl 0, 0)).2.2.2.1 0 (-1) (-1)
def wrk (L : Ldd) (K : KL) (W : Nat → Int32) (f : Nat) (l : Int32) : Int32 × Why :=
  match byL K L.1 (K, ins K L.1) f 9 l with
  | some x => x
  | none => byI K L.1 L.2.1 (K, ins K L.1) W f
def upW (W : Nat → Int32) (g : Nat) (v : Int32) (i : Nat) : Int32 := if i = g then v else W i
/-- what the flags of a row are worth, one after the other -/
def wrth (L : Ldd) (K : KL) (l : Int32) : List Nat → (Nat → Int32) → Nat → Int32
  | [], W => W
  | g :: r, W => wrth L K l r (upW W g (wrk L K W g l).1)
/-- value and reasons of a flag -/
def valS (L : Ldd) (K : KL) (f : Nat) (l : Int32) : Int32 × Why := wrk L K (wrth L K l L.2.2 (fun _ => 0)) f l
def shrS (S : Spl) (v : Int32) : Int32 := S.2.2.foldl (fun s x => if x.2 = v then s + x.1 else s) 0
end ZEV

section ZDP
variable {P : Pln} {ts : List Tk}
/-- what a meaning depends on: the first m segments -/
def Dep (m : Nat) (φ : Den) : Prop := ∀ (K : List (List Int32 × Thg)) (l l' : List Bool), (∀ j, j < m → l.getD j false = l'.getD j false) → φ (K, l) = φ (K, l')
theorem Dep_m {m m' : Nat} {φ : Den} (h : Dep m φ) (hm : m ≤ m') : Dep m' φ := fun K l l' hl => h K l l' (fun j hj => hl j (by omega))
theorem Dep_test {m s : Nat} {w : List Int32} {o : Thg} : Dep m (dTest s w o) := fun _ _ _ _ => rfl
theorem Dep_among {m : Nat} {w : List Int32} {os : List Thg} : Dep m (dAmong w os) := fun _ _ _ _ => rfl
theorem sTest_d {m p : Nat} {x : Den × List Tk × Nat} (e : sTest ts p = .inr x) : Dep m x.1 := by
  unfold sTest at e
  obtain ⟨w, _, e⟩ := rb_inr_el e
  obtain ⟨q, _, e⟩ := rb_inr_el e
  dsimp only at e
  by_cases h : (hd w.2).1 = 41
  · rw [if_pos h] at e
    obtain ⟨_, _, e⟩ := rb_inr_el e
    obtain ⟨_, _, e⟩ := rb_inr_el e
    obtain ⟨_, _, e⟩ := rb_inr_el e
    obtain ⟨_, _, e⟩ := rb_inr_el e
    cases e; exact Dep_among
  rw [if_neg h] at e
  by_cases h : (hd w.2).1 = 42
  · rw [if_pos h] at e; cases e; exact Dep_test
  rw [if_neg h] at e
  by_cases h : (hd w.2).1 = 35
  · rw [if_pos h] at e
    obtain ⟨_, _, e⟩ := rb_inr_el e
    cases e; exact Dep_test
  rw [if_neg h] at e
  by_cases h : (hd w.2).1 = 36 ∨ (hd w.2).1 = 37
  · rw [if_pos h] at e
    obtain ⟨_, _, e⟩ := rb_inr_el e
    cases e; exact Dep_test
  rw [if_neg h] at e
  by_cases h : (hd w.2).1 = 38 ∨ (hd w.2).1 = 39 ∨ (hd w.2).1 = 40
  · rw [if_pos h] at e
    obtain ⟨_, _, e⟩ := rb_inr_el e
    cases e; exact Dep_test
  rw [if_neg h] at e; cases e
theorem any_cong {α : Type} {f g : α → Bool} : ∀ {l : List α}, (∀ x ∈ l, f x = g x) → l.any f = l.any g
  | [], _ => rfl
  | a :: l, h => by rw [List.any_cons, List.any_cons, h a List.mem_cons_self, any_cong (fun x hx => h x (List.mem_cons_of_mem _ hx))]
theorem all_cong {α : Type} {f g : α → Bool} : ∀ {l : List α}, (∀ x ∈ l, f x = g x) → l.all f = l.all g
  | [], _ => rfl
  | a :: l, h => by rw [List.all_cons, List.all_cons, h a List.mem_cons_self, all_cong (fun x hx => h x (List.mem_cons_of_mem _ hx))]
theorem sRowL_d {m j : Nat} {f : List Tk → Nat → RR (Den × List Tk × Nat)} (hf : ∀ ts p x, f ts p = .inr x → Dep m x.1) : ∀ (k : Nat) (ds : List Den) (ts : List Tk) (p : Nat) {x : List Den × List Tk × Nat}, (∀ d ∈ ds, Dep m d) → sRowL f j k ds ts p = .inr x → ∀ d ∈ x.1, Dep m d
  | 0, ds, ts, p, x, h, e => by cases e; exact h
  | k + 1, ds, ts, p, x, h, e => by
    unfold sRowL at e
    by_cases q : (hd ts).1 = j
    · rw [if_pos q] at e
      obtain ⟨y, hy, e⟩ := rb_inr_el e
      refine sRowL_d hf k _ _ _ ?_ e
      intro d hd
      rcases List.mem_append.mp hd with h' | h'
      · exact h d h'
      · rw [List.mem_singleton.mp h']; exact hf _ _ _ hy
    · rw [if_neg q] at e; cases e; exact h
theorem sRow_d {m j p : Nat} {f : List Tk → Nat → RR (Den × List Tk × Nat)} (hf : ∀ ts p x, f ts p = .inr x → Dep m x.1) {x : Den × List Tk × Nat} (e : sRow f j ts p = .inr x) : Dep m x.1 := by
  unfold sRow at e
  obtain ⟨y, hy, e⟩ := rb_inr_el e
  by_cases q : (hd y.2.1).1 = j
  · rw [if_pos q] at e
    obtain ⟨_, _, e⟩ := rb_inr_el e
    obtain ⟨z, hz, e⟩ := rb_inr_el e
    have hd := sRowL_d hf _ _ _ _ (fun d hd => by rw [List.mem_singleton.mp hd]; exact hf _ _ _ hy) hz
    cases e
    show Dep m (if j = 31 then dOr z.1 else dAnd z.1)
    split
    · exact fun K l l' hl => any_cong (fun d h => hd d h K l l' hl)
    · exact fun K l l' hl => all_cong (fun d h => hd d h K l l' hl)
  · rw [if_neg q] at e; cases e; exact hf _ _ _ hy
theorem sKnw_lt {names : List (List Int32)} {y : Nat × List Tk} (h : sKnw names ts = .inr y) : y.1 < names.length := by
  unfold sKnw at h
  obtain ⟨z, _, h⟩ := rb_inr_el h
  cases hf : fnd names z.1.2.2.1 with
  | none => rw [hf] at h; cases h
  | some i =>
    rw [hf] at h
    cases h
    unfold fnd at hf
    exact (List.findIdx?_eq_some_iff_getElem.mp hf).1
theorem sE_d {segs : List (List Int32)} : ∀ (k m o : Nat) (ts : List Tk) (p : Nat) (x : Den × List Tk × Nat), sE segs k m o ts p = .inr x → Dep segs.length x.1
  | 0, _, _, _, _, x, e => by cases e
  | k + 1, 0, o, ts, p, x, e => by
    unfold sE at e
    exact sRow_d (fun ts p x => sE_d k 1 o ts p x) e
  | k + 1, 1, o, ts, p, x, e => by
    unfold sE at e
    exact sRow_d (fun ts p x => sE_d k 2 o ts p x) e
  | k + 1, m + 2, o, ts, p, x, e => by
    unfold sE at e
    dsimp only at e
    by_cases q : ((hd ts).1 = 7 ∨ (hd ts).1 = 30) ∧ 20 ≤ o
    · rw [if_pos q] at e; cases e
    rw [if_neg q] at e
    by_cases q : (hd ts).1 = 7
    · rw [if_pos q] at e
      obtain ⟨y, hy, e⟩ := rb_inr_el e
      obtain ⟨_, _, e⟩ := rb_inr_el e
      cases e
      exact sE_d k 0 _ _ _ y hy
    rw [if_neg q] at e
    by_cases q : (hd ts).1 = 30
    · rw [if_pos q] at e
      obtain ⟨_, _, e⟩ := rb_inr_el e
      obtain ⟨y, hy, e⟩ := rb_inr_el e
      cases e
      intro K l l' hl
      show (!y.1 (K, l)) = !y.1 (K, l')
      rw [sE_d k 2 _ _ _ y hy K l l' hl]
    rw [if_neg q] at e
    by_cases q : (hd ts).1 = 33 ∨ (hd ts).1 = 34
    · rw [if_pos q] at e
      obtain ⟨_, _, e⟩ := rb_inr_el e
      cases e
      exact fun _ _ _ _ => rfl
    rw [if_neg q] at e
    by_cases q : (hd ts).1 = 29
    · rw [if_pos q] at e
      obtain ⟨_, _, e⟩ := rb_inr_el e
      obtain ⟨i, hi, e⟩ := rb_inr_el e
      cases e
      exact fun K l l' hl => hl i.1 (sKnw_lt hi)
    rw [if_neg q] at e
    exact sTest_d e
theorem sExp_d {segs : List (List Int32)} {p : Nat} {x : Den × List Tk × Nat} (e : sExp segs ts p = .inr x) : Dep segs.length x.1 := sE_d _ _ _ _ _ _ e
theorem sRul_d {f : Nat} {l : Int32} {k : Nat × List (List Int32)} {x : Pln × List Tk} (e : sRul P f l k ts = .inr x) : ∀ R ∈ x.1.2.2.2.1, R ∈ P.2.2.2.1 ∨ Dep P.1.length R.2.2.1 := by
  unfold sRul at e
  obtain ⟨y, hy, e⟩ := rb_inr_el e
  obtain ⟨_, _, e⟩ := rb_inr_el e
  obtain ⟨z, _, e⟩ := rb_inr_el e
  cases e
  have hd := sExp_d hy
  rw [List.length_map] at hd
  intro R hR
  rcases List.mem_append.mp hR with h | h
  · exact Or.inl h
  · rw [List.mem_singleton.mp h]; exact Or.inr hd
theorem sRulL_d {f : Nat} {k : Nat × List (List Int32)} : ∀ (n : Nat) (P : Pln) (ts : List Tk) {x : Pln × List Tk}, sRulL f k n P ts = .inr x → ∀ R ∈ x.1.2.2.2.1, R ∈ P.2.2.2.1 ∨ Dep P.1.length R.2.2.1
  | 0, P, ts, x, e => by cases e; exact fun R h => Or.inl h
  | n + 1, P, ts, x, e => by
    unfold sRulL at e
    by_cases q : (hd ts).1 = 21
    · rw [if_pos q] at e
      obtain ⟨_, _, e⟩ := rb_inr_el e
      obtain ⟨y, hy, e⟩ := rb_inr_el e
      intro R hR
      rcases sRulL_d n y.1 y.2 e R hR with h | h
      · exact sRul_d hy R h
      · rw [(sRul_k hy).1] at h; exact Or.inr h
    · rw [if_neg q] at e; cases e; exact fun R h => Or.inl h
theorem sItm_d {l : Nat} {x : Pln × List Tk} (e : sItm P l ts = .inr x) : ∀ R ∈ x.1.2.2.2.1, R ∈ P.2.2.2.1 ∨ Dep P.1.length R.2.2.1 := by
  have hk := sItm_k e
  unfold sItm at e
  by_cases q : (hd ts).1 = 21
  · rw [if_pos q] at e
    obtain ⟨_, _, e⟩ := rb_inr_el e
    obtain ⟨y, hy, e⟩ := rb_inr_el e
    exact sRul_d e
  rw [if_neg q] at e
  by_cases q2 : (hd ts).1 = 19 ∨ (hd ts).1 = 24
  · rw [if_pos q2] at e
    obtain ⟨_, _, e⟩ := rb_inr_el e
    obtain ⟨y, hy, e⟩ := rb_inr_el e
    by_cases q3 : (hd ts).1 = 19
    · rw [if_pos q3] at e
      obtain ⟨_, _, e⟩ := rb_inr_el e
      cases e
      exact fun R h => Or.inl h
    · rw [if_neg q3] at e
      obtain ⟨_, _, e⟩ := rb_inr_el e
      obtain ⟨_, _, e⟩ := rb_inr_el e
      cases e
      exact fun R h => Or.inl h
  · rw [if_neg q2] at e; cases e
theorem sItmL_d {l : Nat} : ∀ (n : Nat) (P : Pln) (ts : List Tk) {x : Pln × List Tk}, sItmL l n P ts = .inr x → ∀ R ∈ x.1.2.2.2.1, R ∈ P.2.2.2.1 ∨ Dep P.1.length R.2.2.1
  | 0, P, ts, x, e => by cases e; exact fun R h => Or.inl h
  | n + 1, P, ts, x, e => by
    unfold sItmL at e
    by_cases q : (hd ts).1 = 6
    · rw [if_pos q] at e; cases e; exact fun R h => Or.inl h
    · rw [if_neg q] at e
      obtain ⟨y, hy, e⟩ := rb_inr_el e
      intro R hR
      rcases sItmL_d n y.1 y.2 e R hR with h | h
      · exact sItm_d hy R h
      · rw [(sItm_k hy).1] at h; exact Or.inr h
theorem sLay_d {x : Pln × List Tk} (e : sLay P ts = .inr x) : ∀ R ∈ x.1.2.2.2.1, R ∈ P.2.2.2.1 ∨ Dep P.1.length R.2.2.1 := by
  unfold sLay at e
  obtain ⟨_, _, e⟩ := rb_inr_el e
  obtain ⟨w, _, e⟩ := rb_inr_el e
  obtain ⟨o, _, e⟩ := rb_inr_el e
  obtain ⟨_, _, e⟩ := rb_inr_el e
  obtain ⟨y, hy, e⟩ := rb_inr_el e
  obtain ⟨_, _, e⟩ := rb_inr_el e
  cases e
  have h := sItmL_d _ _ _ hy
  exact h
theorem sFlg_d {x : Pln × List Tk} (e : sFlg P ts = .inr x) : ∀ R ∈ x.1.2.2.2.1, R ∈ P.2.2.2.1 ∨ Dep P.1.length R.2.2.1 := by
  unfold sFlg at e
  obtain ⟨_, _, e⟩ := rb_inr_el e
  obtain ⟨w, hw, e⟩ := rb_inr_el e
  obtain ⟨_, _, e⟩ := rb_inr_el e
  obtain ⟨k, hk, e⟩ := rb_inr_el e
  obtain ⟨_, _, e⟩ := rb_inr_el e
  obtain ⟨_, _, e⟩ := rb_inr_el e
  obtain ⟨d, _, e⟩ := rb_inr_el e
  obtain ⟨_, _, e⟩ := rb_inr_el e
  obtain ⟨o, _, e⟩ := rb_inr_el e
  obtain ⟨_, _, e⟩ := rb_inr_el e
  obtain ⟨ns, _, e⟩ := rb_inr_el e
  obtain ⟨y, hy, e⟩ := rb_inr_el e
  obtain ⟨_, _, e⟩ := rb_inr_el e
  cases e
  have h := sRulL_d _ _ _ hy
  exact h
theorem sSeg_d {x : Pln × List Tk} (e : sSeg P ts = .inr x) : ∃ s, x.1.1 = P.1 ++ [s] ∧ Dep P.1.length s.2 := by
  unfold sSeg at e
  obtain ⟨_, _, e⟩ := rb_inr_el e
  obtain ⟨w, _, e⟩ := rb_inr_el e
  obtain ⟨_, _, e⟩ := rb_inr_el e
  obtain ⟨y, hy, e⟩ := rb_inr_el e
  obtain ⟨_, _, e⟩ := rb_inr_el e
  cases e
  have hd := sExp_d hy
  rw [List.length_map] at hd
  exact ⟨_, rfl, hd⟩
/-- meanings look back only -/
def PDp (P : Pln) : Prop := (∀ (i : Nat) (s : List Int32 × Den), P.1[i]? = some s → Dep i s.2) ∧ ∀ R ∈ P.2.2.2.1, Dep P.1.length R.2.2.1
theorem sTxtL_dp : ∀ (n : Nat) (P : Pln) (ts : List Tk) {x : Pln × List Tk}, PDp P → sTxtL n P ts = .inr x → PDp x.1
  | 0, P, ts, x, h, e => by cases e; exact h
  | n + 1, P, ts, x, h, e => by
    unfold sTxtL at e
    by_cases q : (hd ts).1 = 0
    · rw [if_pos q] at e; cases e; exact h
    rw [if_neg q] at e
    obtain ⟨y, hy, e⟩ := rb_inr_el e
    refine sTxtL_dp n y.1 y.2 ?_ e
    obtain ⟨h1, h2⟩ := h
    by_cases q1 : (hd ts).1 = 25
    · rw [if_pos q1] at hy
      obtain ⟨a1, a2, a3, a4, a5, a6⟩ := sSeg_len hy
      obtain ⟨s, b1, b2⟩ := sSeg_d hy
      refine ⟨fun i t ht => ?_, fun R hR => ?_⟩
      · rw [b1] at ht
        rw [List.getElem?_append] at ht
        by_cases hi : i < P.1.length
        · rw [if_pos hi] at ht; exact h1 i t ht
        · rw [if_neg hi] at ht
          have hlt := (List.getElem?_eq_some_iff.mp ht).1
          have : i = P.1.length := by
            have : i - P.1.length < 1 := hlt
            omega
          subst this
          rw [Nat.sub_self] at ht
          cases ht
          exact b2
      · rw [a4] at hR
        rw [a1]
        exact Dep_m (h2 R hR) (by omega)
    rw [if_neg q1] at hy
    by_cases q2 : (hd ts).1 = 14
    · rw [if_pos q2] at hy
      have a1 := (sFlg_k hy).1
      refine ⟨by rw [a1]; exact h1, fun R hR => ?_⟩
      rw [a1]
      rcases sFlg_d hy R hR with h | h
      · exact h2 R h
      · exact h
    rw [if_neg q2] at hy
    by_cases q3 : (hd ts).1 = 22
    · rw [if_pos q3] at hy
      have a1 := (sLay_k hy).1
      refine ⟨by rw [a1]; exact h1, fun R hR => ?_⟩
      rw [a1]
      rcases sLay_d hy R hR with h | h
      · exact h2 R h
      · exact h
    · rw [if_neg q3] at hy; cases hy
end ZDP

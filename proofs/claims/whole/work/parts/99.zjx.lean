/-! THE CLASS READS: flags and layers that stand, segments -/
section ZJX
section
variable {n : Nat} {Y Y0 Y1 Y2 Ys Z : zY} {a b s p m e tp r q rd pl W W2 WE lo hi x c i : Nat} {S S1 F F1 F2 : List Nat} {t : Tk} {ts : List Tk} {v u off : Int32} {o o' : yO} {nx nm sa : Value} {l : Nat → Nat} {os rc sq fl c1 L ly : Nat} {k : Nat × List (List Int32)} {spl : List Spl} {xs : Nat → List Nat} {P : Pln} {fn ln : List (List Int32)} {A : Nat → Nat} {kd st fr er : Nat} {X : Nat → List Nat} {v4 v5 : List Value} {rules rs : List Rul} {items its : List Itm} {g : Flg} {y : List Int32 × Int32}
/-- which rules are meant -/
def RNG (rules : List Rul) (p : Rul → Prop) (fr er : Nat) : Prop := fr ≤ er ∧ er ≤ rules.length ∧ ∀ j r, rules[j]? = some r → (p r ↔ fr ≤ j ∧ j < er)
theorem RNG_app {p : Rul → Prop} : ∀ {rs : List Rul} {rules : List Rul}, RNG rules p fr er → (∀ r ∈ rs, ¬ p r) → RNG (rules ++ rs) p fr er := by
  intro rs rules h hr
  obtain ⟨h1, h2, h3⟩ := h
  refine ⟨h1, by rw [List.length_append]; omega, fun j r hj => ?_⟩
  rcases Nat.lt_or_ge j rules.length with d | d
  · rw [List.getElem?_append_left d] at hj
    exact h3 j r hj
  · rw [List.getElem?_append_right d] at hj
    have := hr r (List.mem_of_getElem? hj)
    exact ⟨fun q => absurd q this, fun q => by omega⟩
theorem RNG_grow {p : Rul → Prop} {r : Rul} (h : RNG rules p fr rules.length) (hr : p r) : RNG (rules ++ [r]) p fr (rules ++ [r]).length := by
  obtain ⟨h1, h2, h3⟩ := h
  rw [List.length_append]
  refine ⟨by show fr ≤ rules.length + 1; omega, Nat.le_of_eq (by rw [List.length_append]), fun j r' hj => ?_⟩
  rcases Nat.lt_or_ge j rules.length with d | d
  · rw [List.getElem?_append_left d] at hj
    have := h3 j r' hj
    refine ⟨fun q => ⟨(this.mp q).1, by show j < rules.length + 1; omega⟩, fun q => this.mpr ⟨q.1, d⟩⟩
  · rw [List.getElem?_append_right d] at hj
    have hj0 : j - rules.length = 0 := by
      rcases Nat.eq_zero_or_pos (j - rules.length) with e | e
      · exact e
      · obtain ⟨z, hz⟩ : ∃ z, j - rules.length = z + 1 := ⟨j - rules.length - 1, by omega⟩
        rw [hz] at hj
        cases hj
    rw [hj0] at hj
    cases hj
    exact ⟨fun _ => ⟨by omega, by show j < rules.length + 1; omega⟩, fun _ => hr⟩
theorem RNG_none {p : Rul → Prop} (h : ∀ r ∈ rules, ¬ p r) : RNG rules p rules.length rules.length := ⟨Nat.le_refl _, Nat.le_refl _, fun j r hj => ⟨fun q => absurd q (h r (List.mem_of_getElem? hj)), fun q => by omega⟩⟩
/-- what a flag's cells tell -/
def FLm (Y : zY) (spl : List Spl) (X : Nat → List Nat) (kd st : Nat) (g : Flg) : Prop := kd = kdA g.2.1.1 ∧ g.2.1.1 ≤ 2 ∧ AL (RNm Y) (X 1) g.2.1.2 ∧ g.2.1.2.length ≤ 8 ∧ AL (RTk Y) (X 2) (g.2.2.1.map (·.1)) ∧ AL (RTk Y) (X 3) (g.2.2.1.map (·.2)) ∧ g.2.2.1.length ≤ 4 ∧ RSv Y spl st g.2.2.2.1
theorem FLm_k {more : List Spl} (h : FLm Y spl X kd st g) (hf : IMK Y Y1) : FLm Y1 (spl ++ more) X kd st g := by
  obtain ⟨h1, h2, h3, h4, h5, h6, h7, h8⟩ := h
  exact ⟨h1, h2, AL_imp (fun x y => RNm_k hf) h3, h4, AL_imp (fun x y => RTk_k hf) h5, AL_imp (fun x y => RTk_k hf) h6, h7, RSv_k hf h8⟩
/-- flag i stands at fl -/
def FLG (Y : zY) (l : Nat → Nat) (spl : List Spl) (rules : List Rul) (lo hi i fl : Nat) (g : Flg) : Prop := ∃ A kd st fr er X v4 v5, FLX Y fl A kd st g.2.2.2.2 fr er X v4 v5 ∧ v4.length = 4 ∧ v5.length = 4 ∧ FLm Y spl X kd st g ∧ RNG rules (fun r => r.1 = i ∧ r.2.1 = -1) fr er ∧ (∀ j k, 1 ≤ j → j ≤ 3 → k < 8 → A j ≠ l k) ∧ lo ≤ fl ∧ fl < hi ∧ ∀ j, 1 ≤ j → j ≤ 5 → lo ≤ A j ∧ A j < hi
/-- what may be written in a text's reading -/
def okS (rd pl : Nat) (l : Nat → Nat) (Y : zY) (S : List Nat) : Prop := ∀ a ∈ S, a = rd ∨ a = pl ∨ (∃ j, j < 8 ∧ a = l j) ∨ Y.2.1 ≤ a
theorem FLX_ok (hX : FLX Y fl A kd st off fr er X v4 v5) (hl : ∀ j k, 1 ≤ j → j ≤ 3 → k < 8 → A j ≠ l k) (hP : PLK Y pl l rc sq P xs fn ln) (hR : RS rd pl W Y ts) (hS : okS rd pl l Y S) : fl ∉ S ∧ ∀ j, 1 ≤ j → j ≤ 5 → A j ∉ S := by
  obtain ⟨r1, r2⟩ := FLX_rd hX hR.2.1
  obtain ⟨g1, g2, g3, g4, g5, g6, g7, g8, g9, g10⟩ := hX
  have hpl := hP.1.1
  have hlk : ∀ k, k < 8 → ∃ zs cap, Y.1 (l k) = some (oL zs cap) := fun k hk => by
    obtain ⟨⟨cap, x1, _⟩, _⟩ := hP.2.1.1 k hk
    exact ⟨_, _, x1⟩
  refine ⟨fun e => ?_, fun j a b e => ?_⟩
  · rcases hS _ e with d | d | ⟨j, hj, d⟩ | d
    · exact r1 d
    · exact cls_ne g1 hpl (by decide) d
    · obtain ⟨zs, cap, x1⟩ := hlk j hj
      rw [d, x1] at g1; cases g1
    · have := hR.1.2.2 _ _ g1; omega
  · have hcell : ∃ ob, Y.1 (A j) = some ob ∧ (∀ c fs, ob ≠ oB c fs) := by
      rcases Nat.lt_or_ge j 4 with d | d
      · obtain ⟨⟨cap, x1, _⟩, _⟩ := g3 j a (by omega)
        exact ⟨_, x1, fun c fs h => by cases h⟩
      · rcases Nat.lt_or_ge j 5 with d' | d'
        · rw [show j = 4 by omega]; exact ⟨_, g7, fun c fs h => by cases h⟩
        · rw [show j = 5 by omega]; exact ⟨_, g8, fun c fs h => by cases h⟩
    obtain ⟨ob, ho1, ho2⟩ := hcell
    rcases hS _ e with d | d | ⟨k, hk, d⟩ | d
    · exact r2 j a b d
    · rw [d, hpl] at ho1; cases ho1; exact ho2 _ _ rfl
    · rcases Nat.lt_or_ge j 4 with d' | d'
      · exact hl j k a (by omega) hk d
      · obtain ⟨zs, cap, x1⟩ := hlk k hk
        rcases Nat.lt_or_ge j 5 with d'' | d''
        · rw [show j = 4 by omega] at d
          rw [d, x1] at g7; cases g7
        · rw [show j = 5 by omega] at d
          rw [d, x1] at g8; cases g8
    · have := hR.1.2.2 _ _ ho1; omega
theorem FLG_k {more : List Spl} (h : FLG Y l spl rules lo hi i fl g) (hP : PLK Y pl l rc sq P xs fn ln) (hR : RS rd pl W Y ts) (hS : okS rd pl l Y S) (hf : FR Y Y1 S) (hr : ∀ r ∈ rs, ¬ (r.1 = i ∧ r.2.1 = -1)) : FLG Y1 l (spl ++ more) (rules ++ rs) lo hi i fl g := by
  obtain ⟨A, kd, st, fr, er, X, v4, v5, h1, h2, h3, h4, h5, h6, h7⟩ := h
  obtain ⟨q1, q2⟩ := FLX_ok h1 h6 hP hR hS
  exact ⟨A, kd, st, fr, er, X, v4, v5, FLX_k h1 hf q1 q2, h2, h3, FLm_k h4 hf.2.2, RNG_app h5 hr, h6, h7⟩
/-- a layer's cells -/
def itB (items : List Itm) (f i : Nat) : Bool := items.any (fun I => I.2.1 == f && I.1 == i && I.2.2.isSome == false)
def LYm (Y : zY) (spl : List Spl) (items : List Itm) (i : Nat) (ob : Int32) (vs : List Value) : Prop := ob = bitsI (fun f => itB items f i) 24 ∧ ∀ f, f < 24 → match items.find? (fun I => I.2.1 == f && I.1 == i && I.2.2.isSome == true) with
  | none => vs[f]? = some .null
  | some I => ∃ za s, I.2.2 = some s ∧ vs[f]? = some (.ref za) ∧ RSv Y spl za s
def LYX (Y : zY) (ly sa : Nat) (of : Int32) (fr er : Nat) (ob : Int32) (vs : List Value) : Prop := Y.1 ly = some (oB 2 [.int of, .int (nI fr), .int (nI er), .int ob, .ref sa]) ∧ Y.1 sa = some (oA 12 vs) ∧ vs.length = 24 ∧ 139 ≤ ly ∧ 139 ≤ sa
def LYC (Y : zY) (spl : List Spl) (rules : List Rul) (items : List Itm) (i ly : Nat) (y : List Int32 × Int32) : Prop := ∃ fr er ob sa vs, LYX Y ly sa y.2 fr er ob vs ∧ LYm Y spl items i ob vs ∧ RNG rules (fun r => r.2.1 = nI i) fr er
theorem LYX_k {ob : Int32} {vs : List Value} {sa : Nat} {of : Int32} (h : LYX Y ly sa of fr er ob vs) (hf : FR Y Y1 S) (h1 : ly ∉ S) (h2 : sa ∉ S) : LYX Y1 ly sa of fr er ob vs := by
  obtain ⟨g1, g2, g3⟩ := h
  exact ⟨FR_k hf g1 h1, FR_k hf g2 h2, g3⟩
theorem LYX_ok {ob : Int32} {vs : List Value} {sa : Nat} {of : Int32} (h : LYX Y ly sa of fr er ob vs) (hP : PLK Y pl l rc sq P xs fn ln) (hR : RS rd pl W Y ts) (hS : okS rd pl l Y S) : ly ∉ S ∧ sa ∉ S := by
  obtain ⟨g1, g2, g3⟩ := h
  have hpl := hP.1.1
  have hrd : ∃ fs, Y.1 rd = some (oB 5 fs) := by obtain ⟨_, ⟨⟨_, _, _, j, _⟩, _⟩, _⟩ := hR; exact ⟨_, j⟩
  obtain ⟨frd, hrd⟩ := hrd
  have hlk : ∀ k, k < 8 → ∃ zs cap, Y.1 (l k) = some (oL zs cap) := fun k hk => by
    obtain ⟨⟨cap, x1, _⟩, _⟩ := hP.2.1.1 k hk
    exact ⟨_, _, x1⟩
  refine ⟨fun e => ?_, fun e => ?_⟩
  · rcases hS _ e with d | d | ⟨j, hj, d⟩ | d
    · exact cls_ne g1 hrd (by decide) d
    · exact cls_ne g1 hpl (by decide) d
    · obtain ⟨zs, cap, x1⟩ := hlk j hj
      rw [d, x1] at g1; cases g1
    · have := hR.1.2.2 _ _ g1; omega
  · rcases hS _ e with d | d | ⟨j, hj, d⟩ | d
    · rw [d, hrd] at g2; cases g2
    · rw [d, hpl] at g2; cases g2
    · obtain ⟨zs, cap, x1⟩ := hlk j hj
      rw [d, x1] at g2; cases g2
    · have := hR.1.2.2 _ _ g2; omega
theorem itB_app (h : ∀ I ∈ its, I.1 ≠ i) {f : Nat} : itB (items ++ its) f i = itB items f i := by
  unfold itB
  rw [List.any_append]
  have : its.any (fun I => I.2.1 == f && I.1 == i && I.2.2.isSome == false) = false := by
    rw [List.any_eq_false]
    intro I hI
    have := h I hI
    simp [this]
  rw [this, Bool.or_false]
theorem fnd_app (h : ∀ I ∈ its, I.1 ≠ i) {f : Nat} : (items ++ its).find? (fun I => I.2.1 == f && I.1 == i && I.2.2.isSome == true) = items.find? (fun I => I.2.1 == f && I.1 == i && I.2.2.isSome == true) := by
  rw [List.find?_append]
  have : its.find? (fun I => I.2.1 == f && I.1 == i && I.2.2.isSome == true) = none := by
    rw [List.find?_eq_none]
    intro I hI
    have := h I hI
    simp [this]
  rw [this, Option.or_none]
theorem LYm_k {more : List Spl} {ob : Int32} {vs : List Value} (h : LYm Y spl items i ob vs) (hf : IMK Y Y1) (hi : ∀ I ∈ its, I.1 ≠ i) : LYm Y1 (spl ++ more) (items ++ its) i ob vs := by
  obtain ⟨h1, h2⟩ := h
  refine ⟨by rw [h1]; congr 1; funext f; exact (itB_app hi).symm, fun f hf24 => ?_⟩
  rw [fnd_app hi]
  have := h2 f hf24
  cases hfd : items.find? (fun I => I.2.1 == f && I.1 == i && I.2.2.isSome == true) with
  | none => rw [hfd] at this; exact this
  | some I =>
    rw [hfd] at this
    obtain ⟨za, s, q1, q2, q3⟩ := this
    exact ⟨za, s, q1, q2, RSv_k hf q3⟩
theorem LYC_k {more : List Spl} (h : LYC Y spl rules items i ly y) (hP : PLK Y pl l rc sq P xs fn ln) (hR : RS rd pl W Y ts) (hS : okS rd pl l Y S) (hf : FR Y Y1 S) (hr : ∀ r ∈ rs, r.2.1 ≠ nI i) (hi : ∀ I ∈ its, I.1 ≠ i) : LYC Y1 (spl ++ more) (rules ++ rs) (items ++ its) i ly y := by
  obtain ⟨fr, er, ob, sa, vs, h1, h2, h3⟩ := h
  obtain ⟨q1, q2⟩ := LYX_ok h1 hP hR hS
  exact ⟨fr, er, ob, sa, vs, LYX_k h1 hf q1 q2, LYm_k h2 hf.2.2 hi, RNG_app h3 hr⟩
/-- all flags, all layers -/
def FLs (Y : zY) (l : Nat → Nat) (spl : List Spl) (rules : List Rul) (bd : Nat → Nat) (x4 : List Nat) (flags : List Flg) : Prop := x4.length = flags.length ∧ ∀ i fl g, x4[i]? = some fl → flags[i]? = some g → FLG Y l spl rules (bd i) (bd (i + 1)) i fl g
def LYs (Y : zY) (spl : List Spl) (rules : List Rul) (items : List Itm) (x5 : List Nat) (lays : List (List Int32 × Int32)) : Prop := x5.length = lays.length ∧ ∀ i ly y, x5[i]? = some ly → lays[i]? = some y → LYC Y spl rules items i ly y
theorem FLs_k {more : List Spl} {bd : Nat → Nat} {x4 : List Nat} {flags : List Flg} (h : FLs Y l spl rules bd x4 flags) (hP : PLK Y pl l rc sq P xs fn ln) (hR : RS rd pl W Y ts) (hS : okS rd pl l Y S) (hf : FR Y Y1 S) (hr : ∀ r ∈ rs, ¬ (r.1 < flags.length ∧ r.2.1 = -1)) : FLs Y1 l (spl ++ more) (rules ++ rs) bd x4 flags := ⟨h.1, fun i fl g h1 h2 => FLG_k (h.2 i fl g h1 h2) hP hR hS hf (fun r hr' q => hr r hr' ⟨by rw [q.1]; exact (List.getElem?_eq_some_iff.mp h2).1, q.2⟩)⟩
theorem LYs_k {more : List Spl} {x5 : List Nat} {lays : List (List Int32 × Int32)} (h : LYs Y spl rules items x5 lays) (hP : PLK Y pl l rc sq P xs fn ln) (hR : RS rd pl W Y ts) (hS : okS rd pl l Y S) (hf : FR Y Y1 S) (hr : ∀ r ∈ rs, ∀ i, i < lays.length → r.2.1 ≠ nI i) (hi : ∀ I ∈ its, ¬ I.1 < lays.length) : LYs Y1 (spl ++ more) (rules ++ rs) (items ++ its) x5 lays := ⟨h.1, fun i ly y h1 h2 => LYC_k (h.2 i ly y h1 h2) hP hR hS hf (fun r hr' => hr r hr' i (List.getElem?_eq_some_iff.mp h2).1) (fun I hI e => hi I hI (by rw [e]; exact (List.getElem?_eq_some_iff.mp h2).1))⟩
/-- which flags and layers rules and items speak of -/
def RIV (P : Pln) : Prop := (∀ r ∈ P.2.2.2.1, r.1 < P.2.1.length ∧ (r.2.1 = -1 ∨ ∃ j, j < P.2.2.1.length ∧ r.2.1 = nI j)) ∧ ∀ I ∈ P.2.2.2.2.1, I.1 < P.2.2.1.length ∧ I.2.1 < P.2.1.length
/-- the plan P stands at pl -/
def PLN (Y : zY) (pl : Nat) (l : Nat → Nat) (rc sq : Nat) (bd : Nat → Nat) (P : Pln) (xs : Nat → List Nat) : Prop := PLK Y pl l rc sq P xs (P.2.1.map (·.1)) (P.2.2.1.map (·.1)) ∧ FLs Y l P.2.2.2.2.2.1 P.2.2.2.1 bd (xs 4) P.2.1 ∧ LYs Y P.2.2.2.2.2.1 P.2.2.2.1 P.2.2.2.2.1 (xs 5) P.2.2.1 ∧ RIV P ∧ (∃ vr, Y.1 rc = some (oA 0 vr) ∧ vr.length = 24) ∧ (∃ vr, Y.1 sq = some (oA 0 vr) ∧ vr.length = 24) ∧ rc ≠ sq ∧ 139 ≤ rc ∧ 139 ≤ sq ∧ rc < bd 0 ∧ sq < bd 0 ∧ (∀ i, i < P.2.1.length → bd i ≤ bd (i + 1)) ∧ bd P.2.1.length ≤ Y.2.1
end
end ZJX

/-! THE CLASS READS: frames, results, the reader's steps -/
section ZJJ
/-- cells that are not written but where they are made: tokens, parts, rules, serves with their arrays, strings -/
def mto (o : yO) : Bool := match o with
  | .inl (c, _) => !(Nat.beq c 3 || Nat.beq c 6 || Nat.beq c 7 || Nat.beq c 9)
  | .inr (.inl (t, vs)) => !(Nat.beq t 0 && (Nat.beq vs.length 1 || Nat.beq vs.length 2 || Nat.beq vs.length 8))
  | .inr (.inr (.inl _)) => true
  | .inr (.inr (.inr _)) => false
def IMK (Y Y1 : zY) : Prop := ∀ a o, Y.1 a = some o → mto o = false → Y1.1 a = some o
def FR (Y Y1 : zY) (S : List Nat) : Prop := Y.2.1 ≤ Y1.2.1 ∧ (∀ a o, Y.1 a = some o → a ∈ S ∨ Y1.1 a = some o) ∧ IMK Y Y1
section
variable {n : Nat} {Y Y0 Y1 Y2 Z : zY} {a b s k p m e tp r w rd pl W W2 WE : Nat} {S S1 : List Nat} {T : List Int32} {t : Tk} {ts : List Tk} {x v : Int32} {o : yO} {nx : Value}
theorem IMK_R : IMK Y Y := fun _ _ h _ => h
theorem IMK_T (h1 : IMK Y Y1) (h2 : IMK Y1 Y2) : IMK Y Y2 := fun a o h q => h2 a o (h1 a o h q) q
theorem FR_R : FR Y Y S := ⟨Nat.le_refl _, fun _ _ h => Or.inr h, IMK_R⟩
theorem FR_T (h1 : FR Y Y1 S) (h2 : FR Y1 Y2 S1) (hs : ∀ a ∈ S1, a ∈ S ∨ Y.2.1 ≤ a) (hD : DM Y) : FR Y Y2 S := ⟨Nat.le_trans h1.1 h2.1, fun a o h => by
  rcases h1.2.1 a o h with q | q
  · exact Or.inl q
  · rcases h2.2.1 a o q with c | c
    · rcases hs a c with d | d
      · exact Or.inl d
      · have := hD.2 a o h; omega
    · exact Or.inr c, IMK_T h1.2.2 h2.2.2⟩
theorem FR_M (h : FR Y Y1 S) (hs : ∀ a ∈ S, a ∈ S1) : FR Y Y1 S1 := ⟨h.1, fun a o q => (h.2.1 a o q).imp (hs a) id, h.2.2⟩
theorem FR_k (h : FR Y Y1 S) (q : Y.1 a = some o) (ha : a ∉ S) : Y1.1 a = some o := (h.2.1 a o q).resolve_left ha
theorem FR_i (h : FR Y Y1 S) (q : Y.1 a = some o) (ha : mto o = false) : Y1.1 a = some o := h.2.2 a o q ha
theorem FR_of {w : Nat} (h : FRY Y Y1 S w) (hm : ∀ a ∈ S, ∀ o, Y.1 a = some o → mto o = true) : FR Y Y1 S := ⟨h.1, h.2.2, fun a o q c => (h.2.2 a o q).resolve_left (fun d => by rw [hm a d o q] at c; cases c)⟩
theorem FR_u {o' : yO} (h : Y.1 a = some o) (hm : mto o = true) : FR Y (yu Y a (some o')) [a] := FR_of (FRY_u [a] (by simp)) (fun q hq c hc => by rw [List.mem_singleton.mp hq, h] at hc; cases hc; exact hm)
theorem FR_a {ob : yO} {c : Nat} (hD : DM Y) : FR Y (ya Y ob c) S := FR_M (S := []) (FR_of (FRY_a hD) (fun a h => by cases h)) (fun a h => by cases h)
theorem FR_n {ob : yO} (h : FR Y Z S) (hD : DM Y) (ha : Y.2.1 ≤ a) : FR Y (yu Z a (some ob)) S := ⟨h.1, fun q o hq => by
  have := hD.2 q o hq
  rw [yu_n (by omega)]
  exact h.2.1 q o hq, fun q o hq c => by
  have := hD.2 q o hq
  rw [yu_n (by omega)]
  exact h.2.2 q o hq c⟩
theorem FR_th (h : FR Y Z S) : FR Y (thY Z) S := h
theorem BY_th (h : BY Y) : BY (thY Y) := h
theorem TKO_k {e : Nat} (h : TKO Y a t e nx) (hf : IMK Y Y1) : TKO Y1 a t e nx := by
  obtain ⟨s, h1, h2, h3⟩ := h
  exact ⟨s, hf _ _ h1 rfl, hf _ _ h2 rfl, h3⟩
theorem TKC_k (hf : IMK Y Y1) : ∀ {ts : List Tk} {a : Nat}, TKC Y ts a → TKC Y1 ts a
  | [], _, h => h
  | t :: ts, a, h => by
    obtain ⟨e, nx, h1, h2⟩ := h
    refine ⟨e, nx, TKO_k h1 hf, ?_⟩
    rcases h2 with c | ⟨c, b, d, g⟩
    · exact Or.inl c
    · exact Or.inr ⟨c, b, d, TKC_k hf g⟩
/-- the reader stands before the tokens ts -/
def RDR (Y : zY) (rd pl : Nat) (ts : List Tk) : Prop := (∃ fk fp a, Y.1 rd = some (oB 5 [.ref pl, .int fk, .int fp, .ref a]) ∧ TKC Y ts a) ∧ 139 ≤ rd
/-- a fault was told -/
def FLT (Y : zY) (rd : Nat) (e : Er) : Prop := ∃ p q, Y.1 rd = some (oB 5 [p, .int e.1, .int (nI e.2), q])
def RS (rd pl W : Nat) (Y : zY) (ts : List Tk) : Prop := BY Y ∧ RDR Y rd pl ts ∧ wY Y + 300 * ts.length ≤ W
/-- what a reading must give -/
def CR (rd pl : Nat) (Y : zY) (S : List Nat) (W WE : Nat) {α σ : Type} (o : Option ((α ⊕ Nat) × zY)) (r : RR σ) (L : σ → List Tk) (Q : zY → σ → α → Prop) : Prop := match r with
  | .inl e => ∃ Y1, o = some (.inr 18, Y1) ∧ BY Y1 ∧ FR Y Y1 S ∧ wY Y1 ≤ WE ∧ FLT Y1 rd e
  | .inr s => ∃ v Y1, o = some (.inl v, Y1) ∧ RS rd pl W Y1 (L s) ∧ FR Y Y1 S ∧ Q Y1 s v
theorem CR_b {α β σ τ : Type} {o : Option ((α ⊕ Nat) × zY)} {r : RR σ} {L : σ → List Tk} {Q : zY → σ → α → Prop} {f : α → zY → Option ((β ⊕ Nat) × zY)} {g : σ → RR τ} {L2 : τ → List Tk} {Q2 : zY → τ → β → Prop} (h : CR rd pl Y S1 W WE o r L Q) (hf : FR Y0 Y S) (hs : ∀ a ∈ S1, a ∈ S ∨ Y0.2.1 ≤ a) (hD : DM Y0) (k : ∀ s v Y1, RS rd pl W Y1 (L s) → FR Y Y1 S1 → FR Y0 Y1 S → Q Y1 s v → CR rd pl Y0 S W2 WE (f v Y1) (g s) L2 Q2) : CR rd pl Y0 S W2 WE (o.bind fun p => zth p f (fun x h => zgd (exOk x) <| some (.inr x, h))) (rb r g) L2 Q2 := by
  cases r with
  | inl e =>
    obtain ⟨Y1, h1, h2, h3, h4, h5⟩ := h
    rw [rb_inl]
    exact ⟨Y1, bnd_eq h1 rfl, h2, FR_T hf h3 hs hD, h4, h5⟩
  | inr s =>
    obtain ⟨v, Y1, h1, h2, h3, h4⟩ := h
    rw [rb_inr, h1]
    exact k s v Y1 h2 h3 (FR_T hf h3 hs hD) h4
theorem CR_y {α β σ : Type} {o : Option β} {x : β} {f : β → Option ((α ⊕ Nat) × zY)} {r : RR σ} {L : σ → List Tk} {Q : zY → σ → α → Prop} (h : o = some x) (k : CR rd pl Y S W WE (f x) r L Q) : CR rd pl Y S W WE (o.bind f) r L Q := by rw [h]; exact k
theorem CR_g {α σ : Type} {c : Bool} {o : Option ((α ⊕ Nat) × zY)} {r : RR σ} {L : σ → List Tk} {Q : zY → σ → α → Prop} (h : c = true) (k : CR rd pl Y S W WE o r L Q) : CR rd pl Y S W WE (zgd c o) r L Q := by rw [h]; exact k
theorem CR_e {α σ : Type} {o : Option ((α ⊕ Nat) × zY)} {r r' : RR σ} {L : σ → List Tk} {Q : zY → σ → α → Prop} (h : r = r') (k : CR rd pl Y S W WE o r' L Q) : CR rd pl Y S W WE o r L Q := by rw [h]; exact k
theorem CR_s {α σ : Type} {v : α} {s : σ} {L : σ → List Tk} {Q : zY → σ → α → Prop} (h1 : RS rd pl W Y1 (L s)) (h2 : FR Y Y1 S) (h3 : Q Y1 s v) : CR rd pl Y S W WE (some (.inl v, Y1)) (.inr s) L Q := ⟨v, Y1, rfl, h1, h2, h3⟩
/-- from a later start -/
theorem CR_r {α σ : Type} {o : Option ((α ⊕ Nat) × zY)} {r : RR σ} {L : σ → List Tk} {Q Q' : zY → σ → α → Prop} (h : CR rd pl Y S1 W WE o r L Q) (hf : FR Y0 Y S) (hs : ∀ a ∈ S1, a ∈ S ∨ Y0.2.1 ≤ a) (hD : DM Y0) (hW : W ≤ W2) (hQ : ∀ Y1 s v, RS rd pl W Y1 (L s) → FR Y Y1 S1 → Q Y1 s v → Q' Y1 s v) : CR rd pl Y0 S W2 WE o r L Q' := by
  cases r with
  | inl e =>
    obtain ⟨Y1, h1, h2, h3, h4, h5⟩ := h
    exact ⟨Y1, h1, h2, FR_T hf h3 hs hD, h4, h5⟩
  | inr s =>
    obtain ⟨v, Y1, h1, h2, h3, h4⟩ := h
    exact ⟨v, Y1, h1, ⟨h2.1, h2.2.1, by have := h2.2.2; omega⟩, FR_T hf h3 hs hD, hQ _ _ _ h2 h3 h4⟩
theorem rdr_o (h : RDR Y rd pl ts) : yisO Y rd 5 = true := by
  obtain ⟨⟨_, _, _, h1, _⟩, _⟩ := h
  exact yisO_of h1
theorem rdr_p (h : RDR Y rd pl ts) : yR Y rd 5 0 = some (some pl) := by
  obtain ⟨⟨_, _, _, h1, _⟩, _⟩ := h
  exact yR_of (r := some pl) h1 rfl
theorem rdr_t (h : RDR Y rd pl ts) : ∃ a e nx, yR Y rd 5 3 = some (some a) ∧ TKO Y a (hd ts) e nx ∧ 1 ≤ ts.length ∧ yR Y a 9 0 = some (some ((hd ts).1 + 1)) := by
  obtain ⟨⟨fk, fp, a, h1, h2⟩, _⟩ := h
  cases ts with
  | nil => exact h2.elim
  | cons t ts =>
    obtain ⟨e, nx, k1, k2⟩ := h2
    have k1' := k1
    obtain ⟨s, k3, _⟩ := k1'
    exact ⟨a, e, nx, yR_of (r := some a) h1 rfl, k1, by show 1 ≤ ts.length + 1; omega, yR_of (r := some (t.1 + 1)) k3 rfl⟩
theorem rdr_len (h : RDR Y rd pl ts) : 1 ≤ ts.length := by
  obtain ⟨_, _, _, _, _, h, _⟩ := rdr_t h
  exact h
/-- the sort of the token that is looked at -/
theorem cr_hd {α σ : Type} {j : Nat} {K : Nat → Bool → Option ((α ⊕ Nat) × zY)} {r : RR σ} {L : σ → List Tk} {Q : zY → σ → α → Prop} (h : RDR Y rd pl ts) (hj : 1 ≤ j) (k : ∀ a, CR rd pl Y0 S W WE (K a (decide ((hd ts).1 + 1 = j))) r L Q) : CR rd pl Y0 S W WE ((yR Y rd 5 3).bind fun x => x.bind fun a => (yR Y a 9 0).bind fun y => (rEq y (some j)).bind fun b => K a b) r L Q := by
  obtain ⟨a, e, nx, h1, h2, _, h3⟩ := rdr_t h
  refine CR_y h1 (CR_y rfl (CR_y h3 (CR_y (rEq_s (by omega) hj) (k a))))
theorem RDR_k (h : RDR Y rd pl ts) (hf : FR Y Y1 S) (hr : rd ∉ S) : RDR Y1 rd pl ts := by
  obtain ⟨⟨fk, fp, a, h1, h2⟩, h3⟩ := h
  exact ⟨⟨fk, fp, a, FR_k hf h1 hr, TKC_k hf.2.2 h2⟩, h3⟩
/-- a fault is told -/
theorem ref_ok {kd : Int32} (hB : BY Y) (hR : RDR Y rd pl ts) (hK : TKO Y a t e nx) : ∃ Y1, c70 n rd kd (some a) Y = some (.inr 18, Y1) ∧ BY Y1 ∧ FR Y Y1 [rd] ∧ wY Y1 = wY Y + 22 ∧ FLT Y1 rd (sErr kd t) := by
  obtain ⟨⟨fk, fp, q, h1, _⟩, h139⟩ := hR
  obtain ⟨s, k1, _⟩ := hK
  have hne : a ≠ rd := fun c => by rw [c, h1] at k1; cases k1
  have hgo : ∀ v : Int32, ∃ Y1, cb70_16 n rd kd (some a) v rd Y = some (.inr 18, Y1) ∧ BY Y1 ∧ FR Y Y1 [rd] ∧ wY Y1 = wY Y + 22 ∧ FLT Y1 rd (v, t.2.1) := by
    intro v
    unfold cb70_16
    obtain ⟨Z, hZ⟩ : ∃ Z, Z = yu Y rd (some (oB 5 [.ref pl, .int v, .int (nI t.2.1), .ref q])) := ⟨_, rfl⟩
    refine ⟨thY Z, ?_, ?_, ?_, ?_, ?_⟩
    · refine bnd_eq (yP_of h1 h139 rfl rfl) ?_
      dsimp only [Option.bind_some]
      refine bnd_eq (yI_of (by rw [yu_n hne]; exact k1) rfl) ?_
      refine bnd_eq (yP_of yu_s h139 rfl rfl) ?_
      rw [yu_yu, hZ]
      rfl
    · rw [hZ]; exact BY_th (BY_u hB h139 (hB.2.2 _ _ h1))
    · rw [hZ]; exact FR_th (FR_u h1 rfl)
    · rw [hZ]
      show 16 * (Y.2.2.1 + 1) + (Y.2.2.2 + 6) = 16 * Y.2.2.1 + Y.2.2.2 + 22
      omega
    · rw [hZ]; exact ⟨_, _, yu_s⟩
  unfold c70
  dsimp only [Option.bind_some]
  rw [yR_of (r := some (t.1 + 1)) k1 rfl]
  dsimp only [Option.bind_some]
  rw [rEq_s (by omega) (by omega)]
  dsimp only [Option.bind_some]
  unfold sErr
  by_cases h : t.1 = 1
  · rw [if_pos (decide_eq_true (by omega)), if_pos h]
    exact hgo 1
  · rw [if_neg (by rw [decide_eq_false (by omega)]; decide), if_neg h]
    exact hgo kd
theorem cr_ref {α σ : Type} {kd : Int32} {f : Unit → zY → Option ((α ⊕ Nat) × zY)} {L : σ → List Tk} {Q : zY → σ → α → Prop} (hB : BY Y) (hR : RDR Y rd pl ts) (hK : TKO Y a t e nx) (hf : FR Y0 Y S) (hs : rd ∈ S) (hD : DM Y0) (hW : wY Y + 22 ≤ WE) : CR rd pl Y0 S W WE ((c70 n rd kd (some a) Y).bind fun p => zth p f (fun x h => zgd (exOk x) <| some (.inr x, h))) (.inl (sErr kd t)) L Q := by
  obtain ⟨Y1, h1, h2, h3, h4, h5⟩ := ref_ok (n := n) (kd := kd) hB hR hK
  exact ⟨Y1, bnd_eq h1 rfl, h2, FR_T hf h3 (fun a h => by rw [List.mem_singleton.mp h]; exact Or.inl hs) hD, by omega, h5⟩
/-- the token that is looked at is taken -/
theorem tk_ok (h : RS rd pl W Y ts) (hs : 2 ≤ s) (hE : W ≤ WE + 250) : CR rd pl Y [rd] (W - 300) WE (c71 n rd (some (s + 1)) Y) (sTake s ts) (fun x => x.2) (fun Y1 x v => ∃ a e nx, v = some a ∧ TKO Y1 a x.1 e nx ∧ x.1 = hd ts ∧ x.1.1 = s ∧ x.2 = adv ts ∧ x.2.length + 1 = ts.length) := by
  obtain ⟨hB, hR, hW⟩ := h
  obtain ⟨a, e, nx, h1, h2, h3, h4⟩ := rdr_t hR
  have hO := rdr_o hR
  unfold c71
  refine CR_y h1 (CR_y rfl (CR_y h4 (CR_y (rEq_s (by omega) (by omega)) ?_)))
  unfold sTake
  by_cases c : (hd ts).1 = s
  · rw [if_pos (decide_eq_true (by omega)), if_pos c]
    unfold cb71_19
    obtain ⟨⟨fk, fp, q, k1, k2⟩, h139⟩ := hR
    have : q = a := by
      have := yR_of (r := some q) (k := 3) k1 rfl
      rw [h1] at this
      exact (Option.some.inj (Option.some.inj this)).symm
    subst this
    cases ts with
    | nil => exact k2.elim
    | cons t ts =>
      obtain ⟨e', nx', j1, j2⟩ := k2
      obtain ⟨st, j3, j4⟩ := j1
      have c : t.1 = s := c
      rcases j2 with ⟨_, _, d⟩ | ⟨_, b, d, g⟩
      · omega
      · subst d
        cases ts with
        | nil => exact g.elim
        | cons u us =>
          refine CR_y rfl (CR_y (yR_of (r := some b) j3 rfl) ?_)
          dsimp only
          refine CR_y (yR_of (r := some b) j3 rfl) (CR_y (yP_of k1 h139 rfl rfl) ?_)
          have hne : q ≠ rd := fun c => by rw [c, k1] at j3; cases j3
          have hf := FR_u (o' := oB 5 [.ref pl, .int fk, .int fp, .ref b]) k1 rfl
          have hlen : (u :: us).length + 1 = (t :: u :: us).length := rfl
          refine CR_s (s := (t, u :: us)) ⟨BY_u hB h139 (hB.2.2 _ _ k1), ⟨⟨fk, fp, b, yu_s, TKC_k hf.2.2 g⟩, h139⟩, ?_⟩ hf ⟨q, e', .ref b, rfl, TKO_k ⟨st, j3, j4⟩ hf.2.2, rfl, c, rfl, rfl⟩
          show wY Y + 300 * (u :: us).length ≤ W - 300
          have hW : wY Y + 300 * ((u :: us).length + 1) ≤ W := hW
          clear hlen
          generalize (u :: us).length = q at hW ⊢
          omega
  · rw [if_neg (by rw [decide_eq_false (by omega)]; decide), if_neg c]
    exact CR_g hO (cr_ref hB hR h2 FR_R (by simp) hB.2 (by omega))
/-- whatever it is -/
theorem tk_any (h : RS rd pl W Y ts) (hs : 2 ≤ (hd ts).1) (hE : W ≤ WE + 250) : CR rd pl Y [rd] (W - 300) WE (c71 n rd (some ((hd ts).1 + 1)) Y) (.inr (hd ts, adv ts)) (fun x => x.2) (fun Y1 x v => ∃ a e nx, v = some a ∧ TKO Y1 a x.1 e nx ∧ x.1 = hd ts ∧ x.2 = adv ts ∧ x.2.length + 1 = ts.length) := by
  have := tk_ok (n := n) h hs hE
  rw [show sTake (hd ts).1 ts = .inr (hd ts, adv ts) from if_pos rfl] at this
  obtain ⟨v, Y1, h1, h2, h3, a, e, nx, q1, q2, q3, q4, q5⟩ := this
  exact ⟨v, Y1, h1, h2, h3, a, e, nx, q1, q2, q3, q5⟩
end
end ZJJ

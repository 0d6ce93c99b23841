/-! THE PURE PART, first text: runs of the virtual machine, and their rules -/
section ZWP
/-- more steps do no harm -/
theorem zCall_mono {G : zG} {ih ih' : zIh} (hi : ∀ d m pc L st h r, ih d m pc L st h = some r → ih' d m pc L st h = some r) {thr : Bool} {d m pc a1 a3 : Nat} {L : List (Option Value)} {st : List Value} {h : zH} {r : zRs × zH} (hp : zCall G ih thr d m pc a1 a3 L st h = some r) : zCall G ih' thr d m pc a1 a3 L st h = some r := by
  unfold zCall at hp ⊢
  cases d with
  | zero => cases hp
  | succ d =>
    dsimp only at hp ⊢
    cases h1 : zTk (zGar G a1) st [] with
    | none => rw [h1] at hp; cases hp
    | some q =>
      obtain ⟨vs, st'⟩ := q
      rw [h1] at hp
      dsimp only at hp ⊢
      cases h2 : (zrcv a3 vs h && Nat.ble (zcat st') 8 && Nat.ble (zsl vs).length (zGmx G a1)) with
      | false => rw [h2] at hp; cases hp
      | true =>
        rw [h2] at hp
        dsimp only at hp ⊢
        cases h3 : ih d a1 0 (zent vs (zGmx G a1)) [] h with
        | none => rw [h3] at hp; cases hp
        | some q =>
          obtain ⟨o, h'⟩ := q
          rw [h3] at hp
          rw [hi _ _ _ _ _ _ _ h3]
          cases o with
          | inl v => exact hi _ _ _ _ _ _ _ hp
          | inr en =>
            dsimp only at hp ⊢
            cases thr with
            | false => exact hp
            | true =>
              dsimp only at hp ⊢
              split
              · rename_i hq
                rw [hq] at hp
                exact hi _ _ _ _ _ _ _ hp
              · rename_i hq
                rw [hq] at hp
                exact hp
              · rename_i hq
                rw [hq] at hp
                exact hp
theorem zB_mono {G : zG} {ih ih' : zIh} (hi : ∀ d m pc L st h r, ih d m pc L st h = some r → ih' d m pc L st h = some r) {d m pc : Nat} {L : List (Option Value)} {st : List Value} {h : zH} {r : zRs × zH} (hp : zB G ih d m pc L st h = some r) : zB G ih' d m pc L st h = some r := by
  unfold zB at hp ⊢
  split at hp
  · cases hp
  split at hp
  · exact hp
  split at hp
  · exact hi _ _ _ _ _ _ _ hp
  split at hp
  · split at hp <;> exact hi _ _ _ _ _ _ _ hp
  split at hp
  · exact hi _ _ _ _ _ _ _ hp
  split at hp
  · exact hi _ _ _ _ _ _ _ hp
  split at hp
  · exact hi _ _ _ _ _ _ _ hp
  split at hp
  · exact hp
  split at hp
  · split at hp
    · split at hp
      · exact hi _ _ _ _ _ _ _ hp
      · cases hp
    · cases hp
  split at hp
  · cases hp
  split at hp
  · exact zCall_mono hi hp
  · exact zCall_mono hi hp
  · split at hp
    · split at hp
      · exact hi _ _ _ _ _ _ _ hp
      · cases hp
    · cases hp
  · split at hp
    · exact hi _ _ _ _ _ _ _ hp
    · cases hp
theorem zEv_mono1 {G : zG} : ∀ (n d m pc : Nat) (L : List (Option Value)) (st : List Value) (h : zH) (r : zRs × zH), zEv G n d m pc L st h = some r → zEv G (n + 1) d m pc L st h = some r
  | 0, d, m, pc, L, st, h, r, hp => by rw [zEv_zero] at hp; cases hp
  | n + 1, d, m, pc, L, st, h, r, hp => by
    rw [zEv_succ] at hp ⊢
    exact zB_mono (zEv_mono1 n) hp
theorem zEv_mono {G : zG} {n k d m pc : Nat} {L : List (Option Value)} {st : List Value} {h : zH} {r : zRs × zH} (hk : n ≤ k) (hp : zEv G n d m pc L st h = some r) : zEv G k d m pc L st h = some r := by
  induction hk with
  | refl => exact hp
  | step _ ih => exact zEv_mono1 _ _ _ _ _ _ _ _ ih
/-- a run that ends, so that Q holds -/
def zW (d m pc : Nat) (L : List (Option Value)) (st : List Value) (h : zH) (Q : zRs → zH → Prop) : Prop := ∃ (n : Nat) (r : zRs) (h' : zH), zEv zGG n d m pc L st h = some (r, h') ∧ Q r h'
theorem zW.imp {d m pc : Nat} {L : List (Option Value)} {st : List Value} {h : zH} {Q Q' : zRs → zH → Prop} (hw : zW d m pc L st h Q) (hq : ∀ r h', Q r h' → Q' r h') : zW d m pc L st h Q' := by
  obtain ⟨n, r, h', h1, h2⟩ := hw
  exact ⟨n, r, h', h1, hq r h' h2⟩
/-- a method's call -/
def zC (d m : Nat) (vs : List Value) (h : zH) (Q : zRs → zH → Prop) : Prop := zW d m 0 (zent vs (zmx m)) [] h Q
theorem zC.imp {d m : Nat} {vs : List Value} {h : zH} {Q Q' : zRs → zH → Prop} (hw : zC d m vs h Q) (hq : ∀ r h', Q r h' → Q' r h') : zC d m vs h Q' := zW.imp hw hq
section
variable {d m pc : Nat} {L L' : List (Option Value)} {st st' : List Value} {h h' : zH} {Q : zRs → zH → Prop} {i : Instr} {a1 a2 a3 : Nat}
theorem zw_pure (hp : zprog m pc = some (i, a1, a2, a3)) (h3 : Nat.beq a3 1 = false) (he : zPure i L st = some (L', st')) (k : zW d m (pc + zlen i) L' st' h Q) : zW d m pc L st h Q := by
  obtain ⟨n, r, h9, e1, e2⟩ := k
  refine ⟨n + 1, r, h9, ?_, e2⟩
  rw [zEv_succ]
  unfold zB
  rw [show zGP zGG m pc = _ from hp]
  dsimp only
  rw [h3]
  dsimp only
  rw [he]
  exact e1
theorem zw_cnd {b : Bool} (hp : zprog m pc = some (i, a1, a2, a3)) (h3 : Nat.beq a3 1 = false) (h0 : zPure i L st = none) (he : zCnd i st = some (b, st')) (k1 : b = true → zW d m a1 L st' h Q) (k2 : b = false → zW d m (pc + 3) L st' h Q) : zW d m pc L st h Q := by
  have go : ∀ n r h9, (match b with | true => zEv zGG n d m a1 L st' h | false => zEv zGG n d m (pc + 3) L st' h) = some (r, h9) → zEv zGG (n + 1) d m pc L st h = some (r, h9) := by
    intro n r h9 e1
    rw [zEv_succ]
    unfold zB
    rw [show zGP zGG m pc = _ from hp]
    dsimp only
    rw [h3]
    dsimp only
    rw [h0]
    dsimp only
    rw [he]
    exact e1
  cases b with
  | true =>
    obtain ⟨n, r, h9, e1, e2⟩ := k1 rfl
    exact ⟨n + 1, r, h9, go n r h9 e1, e2⟩
  | false =>
    obtain ⟨n, r, h9, e1, e2⟩ := k2 rfl
    exact ⟨n + 1, r, h9, go n r h9 e1, e2⟩
theorem zw_heap (hp : zprog m pc = some (i, a1, a2, a3)) (h3 : Nat.beq a3 1 = false) (h0 : zPure i L st = none) (h1 : zCnd i st = none) (he : zHp zn0 zty zdf zasg i a1 a2 st h = some (st', h')) (k : zW d m (pc + zlen i) L st' h' Q) : zW d m pc L st h Q := by
  obtain ⟨n, r, h9, e1, e2⟩ := k
  refine ⟨n + 1, r, h9, ?_, e2⟩
  rw [zEv_succ]
  unfold zB
  rw [show zGP zGG m pc = _ from hp]
  dsimp only
  rw [h3]
  dsimp only
  rw [h0]
  dsimp only
  rw [h1]
  dsimp only
  rw [show zHp (zGn zGG) (zGty zGG) (zGdf zGG) (zGas zGG) i a1 a2 st h = _ from he]
  exact e1
theorem zw_const (hp : zprog m pc = some (i, a1, a2, a3)) (h3 : Nat.beq a3 1 = false) (h0 : zPure i L st = none) (h1 : zCnd i st = none) (h2 : zHp zn0 zty zdf zasg i a1 a2 st h = none) (he : zCs zkst i a1 st = some st') (k : zW d m (pc + zlen i) L st' h Q) : zW d m pc L st h Q := by
  obtain ⟨n, r, h9, e1, e2⟩ := k
  refine ⟨n + 1, r, h9, ?_, e2⟩
  rw [zEv_succ]
  unfold zB
  rw [show zGP zGG m pc = _ from hp]
  dsimp only
  rw [h3]
  dsimp only
  rw [h0]
  dsimp only
  rw [h1]
  dsimp only
  rw [show zHp (zGn zGG) (zGty zGG) (zGdf zGG) (zGas zGG) i a1 a2 st h = _ from h2]
  dsimp only
  rw [show zCs (zGk zGG) i a1 st = _ from he]
  exact e1
theorem zw_cast (hp : zprog m pc = some (i, a1, a2, a3)) (h3 : Nat.beq a3 1 = false) (h0 : zPure i L st = none) (h1 : zCnd i st = none) (h2 : zHp zn0 zty zdf zasg i a1 a2 st h = none) (h4 : zCs zkst i a1 st = none) (he : zCa zasg zn0 i a1 a2 st h = some st') (k : zW d m (pc + zlen i) L st' h Q) : zW d m pc L st h Q := by
  obtain ⟨n, r, h9, e1, e2⟩ := k
  refine ⟨n + 1, r, h9, ?_, e2⟩
  rw [zEv_succ]
  unfold zB
  rw [show zGP zGG m pc = _ from hp]
  dsimp only
  rw [h3]
  dsimp only
  rw [h0]
  dsimp only
  rw [h1]
  dsimp only
  rw [show zHp (zGn zGG) (zGty zGG) (zGdf zGG) (zGas zGG) i a1 a2 st h = _ from h2]
  dsimp only
  rw [show zCs (zGk zGG) i a1 st = _ from h4]
  dsimp only
  rw [show zCa (zGas zGG) (zGn zGG) i a1 a2 st h = _ from he]
  exact e1
theorem zw_ret {v : Option Value} (hp : zprog m pc = some (i, a1, a2, a3)) (h3 : Nat.beq a3 1 = false) (h0 : zPure i L st = none) (h1 : zCnd i st = none) (h2 : zHp zn0 zty zdf zasg i a1 a2 st h = none) (h4 : zCs zkst i a1 st = none) (h5 : zCa zasg zn0 i a1 a2 st h = none) (he : zRt (zrt m) i st = some v) (k : Q (.inl v) h) : zW d m pc L st h Q := by
  refine ⟨1, .inl v, h, ?_, k⟩
  rw [zEv_succ]
  unfold zB
  rw [show zGP zGG m pc = _ from hp]
  dsimp only
  rw [h3]
  dsimp only
  rw [h0]
  dsimp only
  rw [h1]
  dsimp only
  rw [show zHp (zGn zGG) (zGty zGG) (zGdf zGG) (zGas zGG) i a1 a2 st h = _ from h2]
  dsimp only
  rw [show zCs (zGk zGG) i a1 st = _ from h4]
  dsimp only
  rw [show zCa (zGas zGG) (zGn zGG) i a1 a2 st h = _ from h5]
  dsimp only
  rw [show zRt (zGrt zGG m) i st = _ from he]
theorem zw_throw (hp : zprog m pc = some (i, a1, a2, 1)) (k : Q (.inr a1) (h.1, h.2.1 + 1, h.2.2 + 6)) : zW d m pc L [] h Q := by
  refine ⟨1, .inr a1, _, ?_, k⟩
  rw [zEv_succ]
  unfold zB
  rw [show zGP zGG m pc = _ from hp]
theorem zw_switch {dflt lo hi : Int} {offs : Array Int} {x : Int32} {t : Nat} (hp : zprog m pc = some (.tableswitch dflt lo hi offs, a1, a2, a3)) (h3 : Nat.beq a3 1 = false) (he : zsw pc dflt lo hi offs x = some t) (k : zW d m t L st h Q) : zW d m pc L (.int x :: st) h Q := by
  obtain ⟨n, r, h9, e1, e2⟩ := k
  refine ⟨n + 1, r, h9, ?_, e2⟩
  rw [zEv_succ]
  unfold zB
  rw [show zGP zGG m pc = _ from hp]
  dsimp only
  rw [h3]
  simp only [zPure, zCnd, zHp, zCs, zCa, zRt]
  rw [he]
  exact e1
def zAf (ih : zIh) (thr : Bool) (d m pc : Nat) (L : List (Option Value)) (rest : List Value) (r : zRs) (h9 : zH) : Option (zRs × zH) := match r with
  | .inl v => ih d m (pc + 3) L (zpu v rest) h9
  | .inr en => match thr with
    | false => none
    | true => match zGhd zGG m pc en with
      | some (some hp) => ih d m hp L [.retAddr 0] h9
      | some none => some (.inr en, h9)
      | none => none
/-- after a call -/
def zAft (thr : Bool) (d m pc : Nat) (L : List (Option Value)) (rest : List Value) (Q : zRs → zH → Prop) : zRs → zH → Prop := fun r h => match r with
  | .inl v => zW d m (pc + 3) L (zpu v rest) h Q
  | .inr en => thr = true ∧ match zhd m pc en with
    | some (some hp) => zW d m hp L [.retAddr 0] h Q
    | some none => Q (.inr en) h
    | none => False
theorem zw_call {vs rest : List Value} {thr : Bool} (hi : zisInv i = true) (hp : zprog m pc = some (i, a1, a2, a3)) (h3 : Nat.beq a3 1 = false) (ha2 : (a2 = 0 ∧ thr = true) ∨ (a2 = 2 ∧ thr = false)) (htk : zTk (zar a1) st [] = some (vs, rest)) (hc : (zrcv a3 vs h && Nat.ble (zcat rest) 8 && Nat.ble (zsl vs).length (zmx a1)) = true)
    (k : zC d a1 vs h (zAft thr (d + 1) m pc L rest Q)) : zW (d + 1) m pc L st h Q := by
  obtain ⟨n, r, h9, e1, e2⟩ := k
  have red : ∀ k, zEv zGG (k + 1) (d + 1) m pc L st h = zCall zGG (zEv zGG k) thr (d + 1) m pc a1 a3 L st h := by
    intro k
    rw [zEv_succ]
    unfold zB
    rw [show zGP zGG m pc = _ from hp]
    dsimp only
    rw [h3]
    cases i <;> first
      | (cases hi; done)
      | (rcases ha2 with ⟨rfl, rfl⟩ | ⟨rfl, rfl⟩ <;> rfl)
  have body : ∀ k, n ≤ k → zCall zGG (zEv zGG k) thr (d + 1) m pc a1 a3 L st h = zAf (zEv zGG k) thr (d + 1) m pc L rest r h9 := by
    intro k hk
    unfold zCall
    dsimp only
    rw [show zTk (zGar zGG a1) st [] = _ from htk]
    dsimp only
    rw [show (zrcv a3 vs h && Nat.ble (zcat rest) 8 && Nat.ble (zsl vs).length (zGmx zGG a1)) = true from hc]
    dsimp only
    rw [show zEv zGG k d a1 0 (zent vs (zGmx zGG a1)) [] h = some (r, h9) from zEv_mono hk e1]
    cases r <;> rfl
  cases r with
  | inl v =>
    obtain ⟨n2, r2, h2, f1, f2⟩ := e2
    refine ⟨max n n2 + 1, r2, h2, ?_, f2⟩
    rw [red, body _ (Nat.le_max_left _ _)]
    exact zEv_mono (Nat.le_max_right _ _) f1
  | inr en =>
    obtain ⟨rfl, e2⟩ := e2
    split at e2
    · rename_i hp2 hh
      obtain ⟨n2, r2, h2, f1, f2⟩ := e2
      refine ⟨max n n2 + 1, r2, h2, ?_, f2⟩
      rw [red, body _ (Nat.le_max_left _ _)]
      unfold zAf
      dsimp only
      rw [show zGhd zGG m pc en = _ from hh]
      exact zEv_mono (Nat.le_max_right _ _) f1
    · rename_i hh
      refine ⟨n + 1, .inr en, h9, ?_, e2⟩
      rw [red, body _ (Nat.le_refl _)]
      unfold zAf
      dsimp only
      rw [show zGhd zGG m pc en = _ from hh]
    · exact absurd e2 (fun q => q)
theorem zw_obj {k : Nat} (hi : zisInv i = true) (hp : zprog m pc = some (i, a1, 1, a3)) (h3 : Nat.beq a3 1 = false) (hc : Nat.ble (zcat st) 8 = true) (kk : zW d m (pc + 3) L st h Q) : zW d m pc L (.ref k :: st) h Q := by
  obtain ⟨n, r, h9, e1, e2⟩ := kk
  refine ⟨n + 1, r, h9, ?_, e2⟩
  rw [zEv_succ]
  unfold zB
  rw [show zGP zGG m pc = _ from hp]
  dsimp only
  rw [h3]
  cases i <;> first
    | (cases hi; done)
    | (simp only [zPure, zCnd, zHp, zCs, zCa, zRt, zisInv, hc]; exact e1)
theorem zw_nat {a : Nat} (hi : zisInv i = true) (hp : zprog m pc = some (i, a1, a + 3, a3)) (h3 : Nat.beq a3 1 = false) (he : znt a1 st h = some (st', h')) (kk : zW d m (pc + 3) L st' h' Q) : zW d m pc L st h Q := by
  obtain ⟨n, r, h9, e1, e2⟩ := kk
  refine ⟨n + 1, r, h9, ?_, e2⟩
  rw [zEv_succ]
  unfold zB
  rw [show zGP zGG m pc = _ from hp]
  dsimp only
  rw [h3]
  cases i <;> first
    | (cases hi; done)
    | (simp only [zPure, zCnd, zHp, zCs, zCa, zRt, zisInv]; rw [show zGnt zGG a1 st h = _ from he]; exact e1)
end
end ZWP

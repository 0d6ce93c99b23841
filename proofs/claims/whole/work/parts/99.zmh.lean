/-! THE LAW: how many cells, and the calls of the class as the law makes them -/
section ZMH
/-- no more new cells than are counted -/
def zUq (h h' : zH) : Prop := h.2.1 ≤ h'.2.1 ∧ h'.1.length + h.2.1 ≤ h.1.length + h'.2.1
theorem zUq.rf (h : zH) : zUq h h := ⟨Nat.le_refl _, Nat.le_refl _⟩
theorem zUq.tr {a b c : zH} (h1 : zUq a b) (h2 : zUq b c) : zUq a c := by
  obtain ⟨p1, p2⟩ := h1
  obtain ⟨q1, q2⟩ := h2
  exact ⟨by omega, by omega⟩
theorem zUq_n {α : Type} {l : List α} {x : α} {k : Nat} : (l ++ [x]).length + k ≤ l.length + (k + 1) := by
  rw [List.length_append]; show l.length + 1 + k ≤ _; omega
theorem zald_uq {ok : Nat → Bool} {st st' : List Value} {h h' : zH} (hp : zald ok st h = some (st', h')) : zUq h h' := by
  unfold zald at hp
  repeat' split at hp
  all_goals first | (cases hp; exact zUq.rf _) | cases hp
theorem zast_uq {ok : Nat → Value → Option Value} {n0 : Nat} {st st' : List Value} {h h' : zH} (hp : zast ok n0 st h = some (st', h')) : zUq h h' := by
  unfold zast at hp
  repeat' split at hp
  all_goals first | (cases hp; exact ⟨Nat.le_refl _, by rw [zs_length]; exact Nat.le_refl _⟩) | cases hp
theorem zHp_uq {n0 : Nat} {tyv : Nat → Nat → FieldType} {dfv : Nat → List Value} {asg : Nat → Nat → Bool} {i : Instr} {a1 a2 : Nat} {st st' : List Value} {h h' : zH} (hp : zHp n0 tyv dfv asg i a1 a2 st h = some (st', h')) : zUq h h' := by
  unfold zHp at hp
  split at hp
  all_goals first
    | exact zald_uq hp
    | exact zast_uq hp
    | (repeat' split at hp
       all_goals first
         | (cases hp; exact zUq.rf _)
         | (cases hp; exact ⟨Nat.le_refl _, by rw [zs_length]; exact Nat.le_refl _⟩)
         | (cases hp; exact ⟨Nat.le_add_right _ _, zUq_n⟩)
         | cases hp)
theorem zCall_uq {G : zG} {ih : zIh} {thr : Bool} (hih : ∀ (d m pc : Nat) (L : List (Option Value)) (st : List Value) (h h' : zH) (o : zRs), ih d m pc L st h = some (o, h') → zUq h h') {d m pc a1 a3 : Nat} {L : List (Option Value)} {st : List Value} {h h' : zH} {o : zRs} (hp : zCall G ih thr d m pc a1 a3 L st h = some (o, h')) : zUq h h' := by
  unfold zCall at hp
  split at hp
  · cases hp
  split at hp
  · cases hp
  split at hp
  · cases hp
  split at hp
  · cases hp
  · rename_i hq
    exact (hih _ _ _ _ _ _ _ _ hq).tr (hih _ _ _ _ _ _ _ _ hp)
  · rename_i hq
    split at hp
    · cases hp
    split at hp
    · exact (hih _ _ _ _ _ _ _ _ hq).tr (hih _ _ _ _ _ _ _ _ hp)
    · cases hp
      exact hih _ _ _ _ _ _ _ _ hq
    · cases hp
theorem zB_uq {G : zG} {ih : zIh} (hnt : ∀ (k : Nat) (st st' : List Value) (h h' : zH), zGnt G k st h = some (st', h') → zUq h h')
    (hih : ∀ (d m pc : Nat) (L : List (Option Value)) (st : List Value) (h h' : zH) (o : zRs), ih d m pc L st h = some (o, h') → zUq h h') {d m pc : Nat} {L : List (Option Value)} {st : List Value} {h h' : zH} {o : zRs} (hp : zB G ih d m pc L st h = some (o, h')) : zUq h h' := by
  unfold zB at hp
  split at hp
  · cases hp
  split at hp
  · split at hp
    · cases hp
      exact ⟨Nat.le_add_right _ _, Nat.add_le_add_left (Nat.le_add_right _ _) _⟩
    · cases hp
  split at hp
  · exact hih _ _ _ _ _ _ _ _ hp
  split at hp
  · split at hp <;> exact hih _ _ _ _ _ _ _ _ hp
  split at hp
  · rename_i hq
    exact (zHp_uq hq).tr (hih _ _ _ _ _ _ _ _ hp)
  split at hp
  · exact hih _ _ _ _ _ _ _ _ hp
  split at hp
  · exact hih _ _ _ _ _ _ _ _ hp
  split at hp
  · cases hp
    exact zUq.rf _
  split at hp
  · split at hp
    · split at hp
      · exact hih _ _ _ _ _ _ _ _ hp
      · cases hp
    · cases hp
  split at hp
  · cases hp
  split at hp
  · exact zCall_uq hih hp
  · exact zCall_uq hih hp
  · split at hp
    · split at hp
      · exact hih _ _ _ _ _ _ _ _ hp
      · cases hp
    · cases hp
  · split at hp
    · rename_i hq
      exact (hnt _ _ _ _ _ hq).tr (hih _ _ _ _ _ _ _ _ hp)
    · cases hp
theorem zEv_uq {G : zG} (hnt : ∀ (k : Nat) (st st' : List Value) (h h' : zH), zGnt G k st h = some (st', h') → zUq h h') : ∀ (n d m pc : Nat) (L : List (Option Value)) (st : List Value) (h h' : zH) (o : zRs), zEv G n d m pc L st h = some (o, h') → zUq h h'
  | 0, _, _, _, _, _, _, _, _, hp => by rw [zEv_zero] at hp; cases hp
  | n + 1, _, _, _, _, _, _, _, _, hp => by rw [zEv_succ] at hp; exact zB_uq hnt (zEv_uq hnt n) hp
theorem zhnq (k : Nat) (st st' : List Value) (h h' : zH) (hp : zGnt zGG k st h = some (st', h')) : zUq h h' := by
  have hp : znt k st h = some (st', h') := hp
  unfold znt at hp
  split at hp
  · unfold zNcp at hp
    repeat' split at hp
    all_goals first
      | (cases hp; exact ⟨Nat.le_refl _, by rw [zs_length]; exact Nat.le_refl _⟩)
      | (cases hp; done)
  · unfold zNco at hp
    repeat' split at hp
    all_goals first
      | (cases hp; exact ⟨Nat.le_add_right _ _, zUq_n⟩)
      | (cases hp; done)
theorem zC_uq {d m : Nat} {vs : List Value} {h h1 : zH} (hC : zC d m vs h (fun _ h' => h' = h1)) : zUq h h1 := by
  obtain ⟨n, r, h', e1, e2⟩ := hC
  have := zEv_uq zhnq n _ _ _ _ _ _ _ _ e1
  rw [← e2]
  exact this
section
variable {n : Nat} {Y : zY} {x ou w : Nat} {s : St} {y y1 y2 y3 c : Int32} {v : Int64} {q : Out}
def O1 (q : Out) : Prop := q.1 = 0 ∨ q.1 = 1
theorem O1_i {p : Prop} {d : Decidable p} {a : Int32} {s s' : St} : O1 (@ite _ p d (0, a, s) (1, 0, s')) := by
  by_cases h : p
  · rw [if_pos h]; exact Or.inl rfl
  · rw [if_neg h]; exact Or.inr rfl
theorem hF20 (hq : O1 q) : ∀ Y' : zY, q.1 ≠ 0 → (fun (x6 : Nat) (h5 : zY) => if x6 = 20 then some ((1 : Int32), h5) else none) 20 Y' = some (q.1, Y') := by
  intro Y' h
  rcases hq with e | e
  · exact absurd e h
  · rw [e]; rfl
theorem nam_o1 : O1 (sName y1 y2 y3 s) := by
  unfold sName
  split
  · split
    · unfold nmW
      split
      · exact Or.inl rfl
      · exact O1_i
    · exact Or.inr rfl
  · exact Or.inr rfl
theorem feed_w {a b c d e : Int32} (h : CSt Y x s) (ho : OUT Y ou v) (hn : 6002 ≤ n) : CGv Y x ou 22 (c124 n (some x) a b c d e (some ou) Y) (sFeed a b c d e s) := by
  unfold c124
  refine wrap (v := v) h ho (fd_c h hn) (fun Y' hq => ?_)
  unfold sFeed at hq ⊢
  by_cases c1 : 5980 < s.1.length
  · rw [if_pos c1]; rfl
  · rw [if_neg c1] at hq; exact absurd rfl hq
theorem know_w (h : CSt Y x s) (ho : OUT Y ou v) (hn : 6002 ≤ n) : CGv Y x ou (842 + 420 * s.1.length) (c131 n (some x) (some ou) Y) (sKnow s) := by
  unfold c131
  obtain ⟨ex, h1, h2⟩ := knw_c (ou := ou) h hn
  refine wrap (v := v) h ho h1 (fun Y' hq => ?_)
  rcases h2 with e | ⟨e1, e2⟩ | ⟨e1, e2⟩
  · exact absurd e hq
  · rw [e1, e2]; rfl
  · rw [e1, e2]; rfl
theorem cnt_w (h : CSt Y x s) (ho : OUT Y ou v)  : CGv Y x ou 22 (c129 n (some x) y (some ou) Y) (sCount y s) := by
  unfold c129
  exact wrap (v := v) h ho (cnt_c h) (hF20 (by unfold sCount; exact O1_i))
theorem find_w (h : CSt Y x s) (ho : OUT Y ou v) (hn : 6002 ≤ n) : CGv Y x ou (52 + 2 * s.1.length) (c136 n (some x) y (some ou) Y) (sFind y s) := by
  unfold c136
  exact wrap (v := v) h ho (fnd_c h hn) (hF20 (by unfold sFind; exact O1_i))
theorem name_w (h : CSt Y x s) (ho : OUT Y ou v)  : CGv Y x ou 22 (c141 n (some x) y1 y2 y3 (some ou) Y) (sName y1 y2 y3 s) := by
  unfold c141
  exact wrap (v := v) h ho (nam_c h) (hF20 (nam_o1))
theorem flag_w (h : CSt Y x s) (ho : OUT Y ou v)  : CGv Y x ou 22 (c143 n (some x) y c (some ou) Y) (sFlag y c s) := by
  unfold c143
  exact wrap (v := v) h ho (flg_c h) (hF20 (by unfold sFlag; exact O1_i))
theorem valu_w (h : CSt Y x s) (ho : OUT Y ou v) (hn : 6002 ≤ n) (hN : Y.2.1 + 2 ≤ n) : CGv Y x ou 22 (c146 n (some x) y c (some ou) Y) (sValue y c s) := by
  unfold c146
  exact wrap (v := v) h ho (val_cc h hn hN) (hF20 (by unfold sValue; exact O1_i))
theorem why_w (h : CSt Y x s) (ho : OUT Y ou v)  : CGv Y x ou 22 (c171 n (some x) y (some ou) Y) (sWhy y s) := by
  unfold c171
  exact wrap (v := v) h ho (why_c h) (hF20 (by unfold sWhy; exact O1_i))
theorem isin_w (h : CSt Y x s) (ho : OUT Y ou v) (hn : 6002 ≤ n) (hN : Y.2.1 + 2 ≤ n) : CGv Y x ou 22 (c173 n (some x) y (some ou) Y) (sIsIn y s) := by
  unfold c173
  exact wrap (v := v) h ho (isn_c h hn hN) (hF20 (by unfold sIsIn; exact O1_i))
theorem need_w (h : CSt Y x s) (ho : OUT Y ou v)  : CGv Y x ou 22 (c175 n (some x) y (some ou) Y) (sNds y s) := by
  unfold c175
  exact wrap (v := v) h ho (nds_c h) (hF20 (by unfold sNds; exact O1_i))
theorem ordr_w (h : CSt Y x s) (ho : OUT Y ou v)  : CGv Y x ou 22 (c177 n (some x) y (some ou) Y) (sOrder y s) := by
  unfold c177
  exact wrap (v := v) h ho (ord_c h) (hF20 (by unfold sOrder; exact O1_i))
theorem shar_w (h : CSt Y x s) (ho : OUT Y ou v) (hn : 6002 ≤ n) : CGv Y x ou 22 (c179 n (some x) y c (some ou) Y) (sShare y c s) := by
  unfold c179
  exact wrap (v := v) h ho (shr_c h hn) (hF20 (by unfold sShare; exact O1_i))
/-- what is known is in range -/
theorem CSt_KB (h : CSt Y x s) : KB s.2.2.1 := by
  obtain ⟨_, _, _, _, tp, jd, pl, _, _, A, vI, vW, vY, ans, l0, rc0, sq0, bd0, xs0, bs, W0, hJ, _⟩ := h
  obtain ⟨_, _, ⟨v0, v1, _, _, hK⟩, _⟩ := hJ.2.1
  intro z hz hf
  obtain ⟨k, hk⟩ := List.getElem?_of_mem hz
  obtain ⟨wt, tt, t, _, _, _, ht, h34, hg⟩ := hK.2.2.2 k z hk
  rw [← hg]
  obtain ⟨_, _, _, _, _, _, _, hT, _⟩ := tk_txt ht
  exact hT.2.2
end
end ZMH

/-! THE VIRTUAL MACHINE, twelfth text: every step, and every method's contract -/
section ZALL
variable {G : zG} {D : va_G} {cl : List vw_C} {cnm : Nat → String} {K : List Nat → (Nat → Prop) → State → Prop} {l : Launch} {yv : Nat → MethodName} {byt : Nat → ByteArray} {own : Nat → String} {wv : Nat → List Cond} {tab : Nat → List (Nat × Nat × Nat × Nat)}
set_option maxHeartbeats 8000000 in
theorem zBody_succ {n : Nat} (hK : zKok K) (hap : zAp D cl) (hnt : ∀ (k : Nat) (st st' : List Value) (h h' : zH), zGnt G k st h = some (st', h') → zUp h h') (hmx : ∀ mj, zGmx G mj ≤ 41) (hB : zBodyP G D cl cnm K l yv byt own wv n) (hM : zMetP G D cl cnm K l yv wv n) : zBodyP G D cl cnm K l yv byt own wv (n + 1) := by
  intro d mi pc L st h o h' hp p e R s m args below meth c ad0 c0 z0 ad H locs cells slots ls rs hcx hrow hKs hAs hn0 hV hl hs hcl hsl
  obtain ⟨v1, v2, v3, v4, v5, v6, v7, v8⟩ := id hV
  obtain ⟨x1, x2, x3, x4, x5, x6, x7, x8⟩ := id hcx
  have hA : ∀ q : Nat, s.heap.size ≤ q → zA (zGn G) ad0 s.heap.size q := fun q h => Or.inr h
  rw [zEv_succ] at hp
  unfold zB at hp
  split at hp
  · cases hp
  rename_i i a1 a2 a3 hg
  obtain ⟨⟨len, hdec, hlen⟩, hthr, hoth⟩ := hrow pc (i, a1, a2, a3) hg
  dsimp only at hdec hlen hthr hoth
  split at hp
  · -- a throw
    rename_i h3
    have e3 := Nat.eq_of_beq_eq_true h3
    split at hp
    · cases hp
      rw [show rs = [] from hs]
      have hc1 : h.2.1 + 1 ≤ c0 + R.cells := hcl
      have hs1 : h.2.2 + 6 ≤ z0 + R.slots := hsl
      refine hthr e3 H locs cells slots _ _ ls _ _ _ v3 (by rw [hl.1, x4]) (by omega) (by omega) (fun t hal hz hq => ?_) v3.2.2 (by show cells + 1 ≤ h.2.1 + 1 - c0; omega) (by show slots + 6 ≤ h.2.2 + 6 - z0; omega)
      refine ⟨rfl, ad, v5, zRep.moved hal (v1.kept hq), v2, v6, ⟨Nat.le_trans v3.1 hz, fun q h1 h2 => ?_⟩⟩
      rw [hq q (Nat.lt_of_lt_of_le h1 v3.1)]
      exact v3.2.1 q h1 h2
    · cases hp
  rename_i h3
  have e3 : a3 ≠ 1 := fun q => by rw [q] at h3; cases h3
  obtain ⟨o1, o2, o3, o4, o5⟩ := hoth e3
  split at hp
  · -- locals and stack
    rename_i L' st' hq
    have hd : decode (byt mi) pc = .ok (i, zlen i) := by
      rcases hlen with hlen | hlen
      · cases i <;> first | (cases hlen; done) | (cases hq; done)
      · rw [hlen] at hdec; exact hdec
    exact zPure_sound x1 x2 hd hl hs hq fun ls' rs' q1 q2 => hB d mi (pc + zlen i) L' st' h o h' hp p e R s m args below meth c ad0 c0 z0 ad H locs cells slots ls' rs' hcx hrow hKs hAs hn0 hV q1 q2 hcl hsl
  split at hp
  · -- branches
    rename_i b st' hq
    have hd : decode (byt mi) pc = .ok (i, zlen i) := by
      rcases hlen with hlen | hlen
      · cases i <;> first | (cases hlen; done) | (cases hq; done)
      · rw [hlen] at hdec; exact hdec
    refine zCnd_sound x1 x2 hd (o1 _ _ hq) v2 hs hq fun rs' q2 => ?_
    cases b with
    | true => exact hB d mi a1 L st' h o h' hp p e R s m args below meth c ad0 c0 z0 ad H locs cells slots ls rs' hcx hrow hKs hAs hn0 hV hl q2 hcl hsl
    | false => exact hB d mi (pc + 3) L st' h o h' hp p e R s m args below meth c ad0 c0 z0 ad H locs cells slots ls rs' hcx hrow hKs hAs hn0 hV hl q2 hcl hsl
  split at hp
  · -- the heap
    rename_i st' h1 hq
    have hd : decode (byt mi) pc = .ok (i, zlen i) := by
      rcases hlen with hlen | hlen
      · cases i <;> first | (cases hlen; done) | (cases hq; done)
      · rw [hlen] at hdec; exact hdec
    have hu := zHp_up hq
    have hu2 := zEv_up hnt n _ _ _ _ _ _ _ _ hp
    have u1 := hu2.1
    have u2 := hu2.2.1
    exact zHp_sound x1 x2 hd x6 hap hAs o2 hA hn0 hV hs hq (by omega) (by omega) fun x H' locs' cells' slots' rs' q1 q2 => hB d mi (pc + zlen i) L st' h1 o h' hp p e R s m args below meth c ad0 c0 z0 (ad ++ x) H' locs' cells' slots' ls rs' hcx hrow hKs hAs (Nat.le_trans hn0 hu.2.2) q1 (hl.app x) q2 hcl hsl
  split at hp
  · -- constants
    rename_i st' hq
    exact zCs_sound (o3 _ _ hq) hV hs hq fun rs' q2 => hB d mi (pc + zlen i) L st' h o h' hp p e R s m args below meth c ad0 c0 z0 ad H locs cells slots ls rs' hcx hrow hKs hAs hn0 hV hl q2 hcl hsl
  split at hp
  · -- casts
    rename_i st' hq
    have hd : decode (byt mi) pc = .ok (i, zlen i) := by
      rcases hlen with hlen | hlen
      · cases i <;> first | (cases hlen; done) | (cases hq; done)
      · rw [hlen] at hdec; exact hdec
    exact zCa_sound x1 x2 hd x6 hAs o4 hV hs hq fun rs' q2 => hB d mi (pc + zlen i) L st' h o h' hp p e R s m args below meth c ad0 c0 z0 ad H locs cells slots ls rs' hcx hrow hKs hAs hn0 hV hl q2 hcl hsl
  split at hp
  · -- returns
    rename_i v hq
    cases hp
    have hd : decode (byt mi) pc = .ok (i, zlen i) := by
      rcases hlen with hlen | hlen
      · cases i <;> first | (cases hlen; done) | (cases hq; done)
      · rw [hlen] at hdec; exact hdec
    exact zRt_sound x1 x2 x3 x5 hd hV hs hq
  split at hp
  · -- a switch
    rename_i dflt lo hi offs
    split at hp
    · rename_i x st'
      split at hp
      · rename_i t ht
        obtain ⟨w, rs1, rfl, h1, h2⟩ := hs
        rw [show w = _ from h1]
        exact zsw_sound x1 x2 hdec ht (hB d mi t L _ h o h' hp p e R s m args below meth c ad0 c0 z0 ad H locs cells slots ls rs1 hcx hrow hKs hAs hn0 hV hl h2 hcl hsl)
      · cases hp
    · cases hp
  split at hp
  · cases hp
  rename_i hinv
  have o6 := o5 hinv
  have hd : decode (byt mi) pc = .ok (i, 3) := by
    rcases hlen with hlen | hlen
    · cases i <;> first | (cases hlen; done) | (cases hinv; done)
    · rw [hlen] at hdec
      cases i <;> first | exact hdec | (cases hinv; done)
  split at hp
  · exact zCall_sound hK hnt hmx hB hM hp hcx hrow hKs hAs hn0 hV hl hs hcl hsl o6.1 (fun _ => o6.2)
  · exact zCall_sound hK hnt hmx hB hM hp hcx hrow hKs hAs hn0 hV hl hs hcl hsl o6 (fun q => by cases q)
  · -- Object's constructor
    split at hp
    · rename_i k st'
      split at hp
      · rename_i hc
        have hcat := Nat.le_of_ble_eq_true hc
        obtain ⟨w, rs1, rfl, ⟨a, h1, rfl⟩, h2⟩ := hs
        have hrest : (rs1.map fun v => v.category).sum ≤ 8 := by rw [h2.cats, ← zcat_sum]; exact hcat
        have kk := hB d mi (pc + 3) L _ h o h' hp p e R s m args below meth c ad0 c0 z0 ad H locs cells slots ls rs1 hcx hrow hKs hAs hn0 hV hl h2 hcl hsl
        have o7 : zOkObj s args (own mi) i := o6
        unfold zOkObj at o7
        split at o7
        · obtain ⟨w1, w2, w3⟩ := o7
          exact W.objInit x1 x2 x6 w1 w2 w3 rfl (by show ls.size = _; rw [hl.1, x4]) rfl hd (by omega) (by show 2 * 0 + _ + 12 ≤ _; omega) kk
        · exact absurd o7 (fun q => q)
      · cases hp
    · cases hp
  · -- natives
    split at hp
    · rename_i st' h1 hq
      have hu := hnt _ _ _ _ _ hq
      have hu2 := zEv_up hnt n _ _ _ _ _ _ _ _ hp
      have u1 := hu2.1
      have u2 := hu2.2.1
      split at o6
      · exact absurd rfl (by assumption)
      · exact absurd rfl (by assumption)
      · exact absurd rfl (by assumption)
      · exact o6 c0 z0 ad st st' h h1 H locs cells slots rs ls _ hV (by rw [hl.1, x4]) hs hq hn0 (by omega) (by omega) fun x H' locs' cells' slots' rs' q1 q2 => hB d mi (pc + 3) L st' h1 o h' hp p e R s m args below meth c ad0 c0 z0 (ad ++ x) H' locs' cells' slots' ls rs' hcx hrow hKs hAs (Nat.le_trans hn0 hu.2.2) q1 (hl.app x) q2 hcl hsl
    · cases hp
/-- EVERY METHOD: what the virtual machine answers, the machine does -/
theorem zMet_all (hK : zKok K) (hap : zAp D cl) (hAs : ∀ ad A s, K ad A s → zAs D cnm (zGas G) s) (hnt : ∀ (k : Nat) (st st' : List Value) (h h' : zH), zGnt G k st h = some (st', h') → zUp h h') (hmx : ∀ mj, zGmx G mj ≤ 41)
    (hM : ∀ mi, (∃ row, zGP G mi 0 = some row) → zOkM G l yv byt own wv tab mi) (hR : zOkRows G D cl cnm K l yv byt own wv tab) : ∀ n : Nat, zBodyP G D cl cnm K l yv byt own wv n ∧ zMetP G D cl cnm K l yv wv n := by
  have hM' : ∀ n mi d, (∃ L st h r, zEv G n d mi 0 L st h = some r) → zOkM G l yv byt own wv tab mi := by
    rintro n mi d ⟨L, st, h, r, hr⟩
    cases n with
    | zero => rw [zEv_zero] at hr; cases hr
    | succ n =>
      refine hM mi ?_
      rw [zEv_succ] at hr
      unfold zB at hr
      split at hr
      · cases hr
      · rename_i hg; exact ⟨_, hg⟩
  intro n
  induction n with
  | zero =>
    have hb : zBodyP G D cl cnm K l yv byt own wv 0 := by
      intro d mi pc L st h o h' hp
      rw [zEv_zero] at hp
      cases hp
    exact ⟨hb, zMet_of_body G D cl cnm K l yv byt own wv tab (hM' 0) hR hAs hb⟩
  | succ n ih =>
    have hb := zBody_succ hK hap hnt hmx ih.1 ih.2
    exact ⟨hb, zMet_of_body G D cl cnm K l yv byt own wv tab (hM' (n + 1)) hR hAs hb⟩
end ZALL

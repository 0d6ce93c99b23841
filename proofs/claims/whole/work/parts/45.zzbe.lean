/-! THE EMPTY STRING THAT IS MADE -/
section ZEM
variable {n : Nat} {Mm : Nat → Option zO} {h kh : zH} {Y : zY} {a : Nat}
/-- a string of no letters becomes a string -/
def yE0 (Y : zY) (y0 : Nat) (y1 : Option Nat) : Option zY := match y1 with
  | some a1 => match Y.1 a1, Y.1 49, Y.1 y0 with
    | some (.inr (.inl (_, []))), some (.inr (.inr (.inr []))), some (.inl (c, [_, _])) => match Nat.beq c 12 && Nat.ble zn0 y0 with
      | true => some (yu Y y0 (some (oS [])))
      | false => none
    | _, _, _ => none
  | none => none
theorem k_E0 {y1 : Option Nat} {Y1 : zY} (hR : Rep Mm kh Y) (e : yE0 Y a y1 = some Y1) : ∃ kh1 : zH, f23 n a y1 kh = some ((), kh1) ∧ Rep Mm kh1 Y1 := by
  unfold yE0 at e
  split at e
  · rename_i a1
    split at e
    · rename_i t c v0 v1 h1 h49 h0
      split at e
      · rename_i hb
        cases e
        rw [Bool.and_eq_true] at hb
        have hc := Nat.eq_of_beq_eq_true hb.1
        subst hc
        have hn : 139 ≤ a := Nat.le_of_ble_eq_true hb.2
        obtain ⟨own, hR⟩ := hR
        have hR0 := hR
        obtain ⟨r1, r2, r3, r4, r5, r6, r7, r8, r9, r10⟩ := hR0
        have e1 : zg kh.1 a1 = some (.inl (t, [])) := (r5 a1 _ h1).1
        obtain ⟨s1, s2, s3, s4⟩ := (r5 49 _ h49).1
        have s2 : zg kh.1 (own 49) = some (.inl (1, [])) := s2
        obtain ⟨q1, q2⟩ := r6 49 _ h49 rfl
        have ea : zg kh.1 a = some (.inr (12, [v0, v1])) := (r5 a _ h0).1
        have hlt := zg_lt ea
        -- the two writes
        have p1 : pF kh a 12 0 (.ref (own 49)) = some (zs kh.1 a (.inr (12, [.ref (own 49), v1])), kh.2) := pF_ob ea hn rfl rfl
        have ea2 : zg (zs kh.1 a (.inr (12, [.ref (own 49), v1]))) a = some (.inr (12, [.ref (own 49), v1])) := zg_zs_eq hlt
        have p2 : pF (zs kh.1 a (.inr (12, [.ref (own 49), v1])), kh.2) a 12 1 (.int 0) = some (zs (zs kh.1 a (.inr (12, [.ref (own 49), v1]))) a (.inr (12, [.ref (own 49), .int 0])), kh.2) := pF_ob (h := (zs kh.1 a (.inr (12, [.ref (own 49), v1])), kh.2)) ea2 hn rfl rfl
        have hf : f23 n a (some a1) kh = some ((), (zs (zs kh.1 a (.inr (12, [.ref (own 49), v1]))) a (.inr (12, [.ref (own 49), .int 0])), kh.2)) := by
          unfold f23 f24
          have g1 : aN kh a1 = some 0 := by unfold aN; rw [e1]; rfl
          have g2 : gR kh 49 12 0 = some (some (own 49)) := by unfold gR gV; rw [s1]; rfl
          have g3 : gI (zs kh.1 a (.inr (12, [.ref (own 49), v1])), kh.2) 49 12 1 = some 0 := by
            unfold gI gV
            dsimp only
            rw [zg_zs_ne (by omega), s1]
            rfl
          dsimp only [Option.bind_some]
          rw [g1]
          dsimp only [Option.bind_some]
          rw [if_pos rfl, g2]
          dsimp only [Option.bind_some]
          rw [show va_rf (some (own 49)) = Value.ref (own 49) from rfl, p1]
          dsimp only [Option.bind_some]
          rw [g3]
          dsimp only [Option.bind_some]
          rw [p2]
          rfl
        refine ⟨_, hf, ?_⟩
        -- the object with its fields
        have hz1 := rep_upd (o' := oB 12 [.ref (own 49), v1]) (z' := .inr (12, [.ref (own 49), v1])) hR h0 hn rfl rfl (fun c fs q => by cases q; exact ⟨_, rfl⟩)
        have hz2 := rep_upd (a := a) (o := oB 12 [.ref (own 49), v1]) (o' := oB 12 [.ref (own 49), .int 0]) (z' := .inr (12, [.ref (own 49), .int 0])) hz1 (by rw [yu_1, if_pos rfl]) hn rfl rfl (fun c fs q => by cases q; exact ⟨_, rfl⟩)
        obtain ⟨t1, t2, t3, t4, t5, t6, t7, t8, t9, t10⟩ := hz2
        have na : own 49 ≠ a := by intro q; rw [q, h0] at q1; cases q1
        have hown : zg (zs (zs kh.1 a (.inr (12, [.ref (own 49), v1]))) a (.inr (12, [.ref (own 49), .int 0]))) (own 49) = some (.inl (1, [])) := by rw [zg_zs_ne na.symm, zg_zs_ne na.symm]; exact s2
        have eyy : ∀ i, (yu (yu Y a (some (oB 12 [.ref (own 49), v1]))) a (some (oB 12 [.ref (own 49), .int 0]))).1 i = if i = a then some (oB 12 [.ref (own 49), .int 0]) else Y.1 i := fun i => by
          rw [yu_1, yu_1]
          by_cases q : i = a
          · rw [if_pos q, if_pos q]
          · rw [if_neg q, if_neg q, if_neg q]
        have ey : ∀ i, (yu Y a (some (oS []))).1 i = if i = a then some (oS []) else Y.1 i := fun _ => rfl
        refine ⟨fun i => if i = a then own 49 else own i, t1, t2, t3, t4, ?_, ?_, ?_, ?_, by rw [ey, if_neg (by omega)]; exact r9, t10⟩
        · intro b ob hbb
          rw [ey] at hbb
          by_cases q : b = a
          · rw [if_pos q] at hbb
            cases hbb
            subst q
            refine ⟨⟨?_, ?_, by show 0 ≤ 65536; omega, fun b hb => (by cases hb)⟩, (r5 b _ h0).2⟩
            · dsimp only
              rw [if_pos rfl]
              exact zg_zs_eq (by rw [zs_length]; exact hlt)
            · dsimp only
              rw [if_pos rfl]
              exact hown
          · rw [if_neg q] at hbb
            have := t5 b ob (by rw [eyy, if_neg q]; exact hbb)
            exact ⟨celO_tr this.1 rfl (fun _ => rfl) (if_neg q), this.2⟩
        · intro b ob hbb hh
          rw [ey] at hbb
          show (yu Y a (some (oS []))).1 (if b = a then own 49 else own b) = none ∧ ¬ rgn (if b = a then own 49 else own b)
          by_cases q : b = a
          · rw [if_pos q, ey, if_neg na]
            exact ⟨q1, q2⟩
          · rw [if_neg q] at hbb
            rw [if_neg q, ey]
            have h6 := r6 b ob hbb hh
            rw [if_neg (by intro q'; rw [q', h0] at h6; cases h6.1)]
            exact h6
        · intro b b' xs ca ys cb hb1 hb2 hca he
          rw [ey] at hb1 hb2
          dsimp only at he
          by_cases q : b = a
          · rw [if_pos q] at hb1
            cases hb1
          · rw [if_neg q] at hb1 he
            by_cases q' : b' = a
            · rw [if_pos q'] at hb2
              cases hb2
            · rw [if_neg q'] at hb2 he
              exact r7 b b' xs ca ys cb hb1 hb2 hca he
        · intro b xs cap x hb1 hx
          rw [ey] at hb1
          by_cases q : b = a
          · rw [if_pos q] at hb1
            cases hb1
          · rw [if_neg q] at hb1
            obtain ⟨c, fs, k1, k2⟩ := r8 b xs cap x hb1 hx
            refine ⟨c, fs, ?_, k2⟩
            rw [ey, if_neg ?_]
            · exact k1
            · intro q'
              rw [q', h0] at k1
              cases k1
              exact absurd k2 (by decide)
      · cases e
    · cases e
  · cases e
end ZEM

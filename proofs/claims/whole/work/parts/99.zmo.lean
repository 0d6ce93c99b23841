/-! THE END: the law in the virtual machine, and the claim -/
section ZMO
section
variable {n : Nat} {xs : List Int32}
def hS (xs : List Int32) : zH := ((zro0 xs ++ clo) ++ (mO X0.1 X0.2.1 X0.2.2 ++ [.inl (4, [.long 0])]), 93, 79319)
theorem zro0_len : (zro0 xs).length = 139 := by show zroL.length + 1 = 139; rw [zro_len]
theorem clo_len : clo.length = 20 := rfl
theorem zc_len : (zro0 xs ++ clo).length = 159 := by rw [List.length_append, zro0_len, clo_len]
theorem hS_lo {a : Nat} (h : a < 139) : zg (hS xs).1 a = zg (zro0 xs) a := by
  show zg ((zro0 xs ++ clo) ++ _) a = _
  rw [zg_appL (by rw [zc_len]; omega), zg_appL (by rw [zro0_len]; exact h)]
theorem hS_cl {a : Nat} (h1 : 139 ≤ a) (h2 : a < 159) : zg (hS xs).1 a = zg clo (a - 139) := by
  show zg ((zro0 xs ++ clo) ++ _) a = _
  rw [zg_appL (by rw [zc_len]; omega), zg_appR (by rw [zro0_len]; exact h1), zro0_len]
theorem hS_mo {a : Nat} (h1 : 159 ≤ a) (h2 : a ≤ 230) : zg (hS xs).1 a = zg (mO X0.1 X0.2.1 X0.2.2) (a - 159) := by
  show zg ((zro0 xs ++ clo) ++ (mO X0.1 X0.2.1 X0.2.2 ++ _)) a = _
  rw [zg_appR (by rw [zc_len]; exact h1), zc_len, zg_appL (by rw [mO_len]; omega)]
theorem hS_ou : zg (hS xs).1 231 = some (.inl (4, [.long 0])) := by
  show zg ((zro0 xs ++ clo) ++ (mO X0.1 X0.2.1 X0.2.2 ++ _)) 231 = _
  rw [zg_appR (by rw [zc_len]; omega), zc_len, zg_appR (by rw [mO_len]; omega), mO_len]
  rfl
theorem hS_len : (hS xs).1.length = 232 := by
  show ((zro0 xs ++ clo) ++ (mO X0.1 X0.2.1 X0.2.2 ++ [_])).length = _
  rw [List.length_append, zc_len, List.length_append, mO_len]
  rfl
theorem Y0_L {a cap : Nat} {l : List Nat} (h : Y0.1 a = some (oL l cap)) : l = [] ∧ cap = 0 ∧ 139 ≤ a ∧ a < 159 := by
  rcases Y0_in h with ⟨_, h1⟩ | ⟨h1, h2, h3⟩ | ⟨_, h1⟩
  · obtain ⟨k, _, h | h | h⟩ := y0f_in h1
    · obtain ⟨fs, e, _⟩ := h; cases e
    · obtain ⟨t, vs, e, _⟩ := h; cases e
    · cases h.2
  · obtain ⟨z, _, e | e⟩ := PR_at PR_0 h3
    · cases e
    · cases e.1; exact ⟨rfl, rfl, h1, h2⟩
  · cases h1
theorem nB_lo {b : Int32} (h0 : 0 ≤ b) (h1 : b < 128) : nB b = b ∧ chr (nB b) = b := by
  have e0 : 0 ≤ b.toInt := Int32.le_iff_toInt_le.mp h0
  have e1 : b.toInt < 128 := Int32.lt_iff_toInt_lt.mp h1
  have e : b = nI b.toInt.toNat := nI_ij (by omega) (by omega)
  have hk : b.toInt.toNat < 128 := by omega
  have q1 := (by decide +kernel : ∀ k : Fin 128, nB (nI k.1) = nI k.1) ⟨_, hk⟩
  have q2 := chr_nB ⟨b.toInt.toNat, by omega⟩
  dsimp only at q1 q2
  rw [← e] at q1 q2
  exact ⟨q1, q2⟩
theorem rep_0 : Rep (MM xs X0) (hS xs) Y0 := by
  refine ⟨fun a => if a < 139 then a + 1 else 48, hS_len.symm, rfl, by rw [hS_len]; omega, fun a ha => ?_, fun a o ho => ?_, fun a o ho hh => ?_, fun a b l ca l' cb ha _ hc _ => absurd (Y0_L ha).2.1 hc, fun a l cap x ha hx => (by rw [(Y0_L ha).1] at hx; cases hx), rfl, by rw [hS_lo (by omega)]; rfl⟩
  · unfold MM
    rcases ha with ha | ha
    · rw [if_pos ha, hS_lo ha]
    · have h1 : 159 ≤ a := ha.1
      rw [if_neg (by omega), hS_mo ha.1 ha.2]
  · rcases Y0_in ho with ⟨h0, h1⟩ | ⟨h1, h2, h3⟩ | ⟨rfl, rfl⟩
    · refine ⟨?_, fun hr => by have : 159 ≤ a := hr.1; omega⟩
      obtain ⟨k, rfl, h | h | h⟩ := y0f_in h1
      · obtain ⟨fs, rfl, e⟩ := h
        show zg (hS xs).1 (k + 1) = _
        rw [hS_lo h0]
        exact e
      · obtain ⟨t, vs, rfl, e, _⟩ := h
        show zg (hS xs).1 (k + 1) = _
        rw [hS_lo h0]
        exact e
      · obtain ⟨hm, rfl⟩ := h
        obtain ⟨q1, q2, vs, q3, q4, q5, q6⟩ := kS_spec (fxs_kS _ hm)
        have q3 : zg zroL k = some (.inr (12, [.ref (k + 1 + 1), .int 0])) := q3
        have ec : cs (k + 1) = vs.map vI := by unfold cs; rw [q4]
        have hb : ∀ b ∈ cs (k + 1), nB b = b ∧ chr (nB b) = b := fun b hb => by
          rw [ec] at hb
          have := cs_vOk q5 hb
          exact nB_lo this.1 this.2
        have em : (cs (k + 1)).map nB = cs (k + 1) := by
          refine (List.map_congr_left (fun b h => (hb b h).1)).trans ?_
          exact List.map_id _
        refine ⟨?_, ?_, ?_, fun b h => (hb b h).2⟩
        · show zg (hS xs).1 (k + 1) = some (.inr (12, [.ref (if k + 1 < 139 then k + 1 + 1 else 48), .int 0]))
          rw [if_pos h0, hS_lo h0]
          exact q3
        · show zg (hS xs).1 (if k + 1 < 139 then k + 1 + 1 else 48) = _
          rw [if_pos h0, hS_lo (by omega), em, ec, zI32_vI q5]
          exact q4
        · rw [ec, List.length_map]; omega
    · refine ⟨?_, fun hr => by have : 159 ≤ a := hr.1; omega⟩
      obtain ⟨z, e1, e2 | ⟨rfl, rfl⟩⟩ := PR_at PR_0 h3
      · exact (celO_vis e2).mpr (by rw [hS_cl h1 h2]; exact e1)
      · refine ⟨⟨0, ?_⟩, ?_, Nat.le_refl _, by omega, fun _ => ?_, fun h => absurd rfl h⟩
        · show zg (hS xs).1 a = some (.inr (14, [.int 0, .ref (if a < 139 then a + 1 else 48), .int (nI 0)]))
          rw [if_neg (by omega), hS_cl h1 h2, e1]
          rfl
        · show zg (hS xs).1 (if a < 139 then a + 1 else 48) = _
          rw [if_neg (by omega), hS_lo (by omega)]
          rfl
        · show (if a < 139 then a + 1 else 48) = 48
          rw [if_neg (by omega)]
    · exact ⟨hS_ou, fun hr => by have : 231 ≤ 230 := hr.2; omega⟩
  · rcases Y0_in ho with ⟨h0, h1⟩ | ⟨h1, h2, h3⟩ | ⟨rfl, rfl⟩
    · obtain ⟨k, rfl, h | h | h⟩ := y0f_in h1
      · obtain ⟨fs, rfl, e⟩ := h; cases hh
      · obtain ⟨t, vs, rfl, e, _⟩ := h; cases hh
      · obtain ⟨hm, rfl⟩ := h
        obtain ⟨q1, q2, vs, q3, q4, q5, q6⟩ := kS_spec (fxs_kS _ hm)
        have := fxs_lt _ hm
        show Y0.1 (if k + 1 < 139 then k + 1 + 1 else 48) = none ∧ ¬ rgn (if k + 1 < 139 then k + 1 + 1 else 48)
        rw [if_pos h0]
        refine ⟨?_, fun hr => by have : 159 ≤ k + 1 + 1 := hr.1; omega⟩
        rw [Y0_lo (by omega)]
        show (match zg zroL (k + 1) with | some (.inr (c, fs)) => _ | some (.inl (t, vs)) => _ | none => none) = _
        rw [q4]
        dsimp only
        rw [if_neg (by omega)]
    · show Y0.1 (if a < 139 then a + 1 else 48) = none ∧ ¬ rgn (if a < 139 then a + 1 else 48)
      rw [if_neg (by omega)]
      exact ⟨rfl, fun hr => by have : 159 ≤ 48 := hr.1; omega⟩
    · cases hh
theorem ws_0 : WS xs (hS xs) s00 80807 := ⟨Y0, X0, 0, rep_0, CSt_00, RSt_00, ⟨rfl, by omega⟩, by show 16 * 93 + 79319 ≤ 80807; omega, by rw [hS_len]; show 232 ≤ 139 + 93; omega⟩
theorem nO_e {Z : List zO} {a b c m : Nat} : nO (Z, a, b) c m = (Z ++ [.inr (c, zdf c)], a + 1, b + m) := rfl
theorem f0_n {y : Option Nat} {Z Z1 Z2 : List zO} {a1 b1 a2 b2 : Nat} {h5 : zH} (e1 : f1 n Z.length (Z ++ [.inr (10, zdf 10)], 1, 4) = some ((), (Z1, a1, b1))) (e2 : f182 n Z1.length (Z1 ++ [.inr (11, zdf 11)], a1 + 1, b1 + 92) = some ((), (Z2, a2, b2))) (e3 : nA (Z2, a2, b2) 4 1 = some h5) : f0 n y (Z, 0, 0) = f0_23 n n y Z.length Z1.length Z2.length 0 h5 := by
  unfold f0
  exact bnd_eq e1 (bnd_eq e2 (bnd_eq e3 rfl))
/-- the law answers true -/
theorem f0_ok (hx : xs.length ≤ 3072) (hn : 1000000 ≤ n) : ∃ h' : zH, f0 n (some 0) (zro0 xs, 0, 0) = some (1, h') ∧ h'.2.1 ≤ 601024 ∧ h'.2.2 ≤ 7293034 := by
  obtain ⟨h', e1, e2, e3⟩ := law_l (xs := xs) (n := n) hx hn n 0 (hS xs) s00 80807 ws_0 (by show 80807 + 420 * 0 + 2010 * (xs.length - 0) ≤ 7000000; omega) (by omega) (by omega)
  refine ⟨h', ?_, e2, e3⟩
  have a1 : f1 n (zro0 xs).length (zro0 xs ++ [.inr (10, zdf 10)], 1, 4) = some ((), (zro0 xs ++ clo, 20, 6154)) := by
    rw [zro0_len]
    exact f1_ok zro0_len (by omega)
  have a2 : f182 n (zro0 xs ++ clo).length ((zro0 xs ++ clo) ++ [.inr (11, zdf 11)], 20 + 1, 6154 + 92) = some ((), ((zro0 xs ++ clo) ++ mO X0.1 X0.2.1 X0.2.2, 20 + 1 + 71, 6154 + 92 + 73072)) := by
    rw [zc_len]
    exact f182_ok (a := 20 + 1) (b := 6154 + 92) zc_len
  have a3 : nA ((zro0 xs ++ clo) ++ mO X0.1 X0.2.1 X0.2.2, 20 + 1 + 71, 6154 + 92 + 73072) 4 1 = some (hS xs) := oA' (m := 1) (by decide) (by decide)
  rw [f0_n a1 a2 a3, zro0_len, zc_len, List.length_append, zc_len, mO_len]
  exact e1
theorem zclaim : zClaim := by
  intro xs hx
  obtain ⟨m, hm⟩ : ∃ m, 1000000 ≤ m := ⟨1000000, Nat.le_refl _⟩
  obtain ⟨h', e1, e2, e3⟩ := f0_ok (n := m) hx hm
  obtain ⟨n, r, h2, q1, q2⟩ := t0 (d := 77) (Q := fun r h => r = eI 1 ∧ h = h') (Nat.le_refl _) e1 ⟨rfl, rfl⟩
  obtain ⟨rfl, rfl⟩ := q2
  exact ⟨n, 77, h2, by omega, q1, e2, e3⟩
end
theorem i_vc : Claimed_1_1 ∧ Claimed_1_2 := i_vc_of zclaim
end ZMO

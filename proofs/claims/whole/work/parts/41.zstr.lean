/-! STRINGS: length and charAt over the heap -/
section ZSTR
def chr (x : Int32) : Int32 := ((x &&& 255).toUInt32 % 65536).toInt32
theorem gV_ob {h : zH} {a c k : Nat} {fs : List Value} (e : zg h.1 a = some (.inr (c, fs))) : gV h a c k = zg fs k := by
  unfold gV
  rw [e]
  dsimp only
  rw [Nat.beq_refl]
theorem gI_ob {h : zH} {a c k : Nat} {fs : List Value} {v : Int32} (e : zg h.1 a = some (.inr (c, fs))) (ev : zg fs k = some (.int v)) : gI h a c k = some v := by
  unfold gI
  rw [gV_ob e, ev]
theorem gJ_ob {h : zH} {a c k : Nat} {fs : List Value} {v : Int64} (e : zg h.1 a = some (.inr (c, fs))) (ev : zg fs k = some (.long v)) : gJ h a c k = some v := by
  unfold gJ
  rw [gV_ob e, ev]
theorem gR_ob {h : zH} {a c k : Nat} {fs : List Value} {v : Option Nat} (e : zg h.1 a = some (.inr (c, fs))) (ev : zg fs k = some (va_rf v)) : gR h a c k = some v := by
  unfold gR
  rw [gV_ob e, ev]
  cases v <;> rfl
theorem isO_ob {h : zH} {a c : Nat} {fs : List Value} (e : zg h.1 a = some (.inr (c, fs))) : isO h a c = true := by
  unfold isO
  rw [e]
  exact Nat.beq_refl c
theorem aN_ar {h : zH} {a c : Nat} {vs : List Value} (e : zg h.1 a = some (.inl (c, vs))) : aN h a = some (nI vs.length) := by
  unfold aN
  rw [e]
theorem aB_ar {h : zH} {a : Nat} {bs : List Int32} {j x : Int32} (e : zg h.1 a = some (.inl (1, zI32 bs))) (er : rd bs j = some x) : aB h a j = some x := by
  obtain ⟨e1, e2⟩ := rd_some er
  unfold aB aL
  rw [e]
  dsimp only
  rw [decide_eq_false e1]
  show oI (zg (zI32 bs) _) = _
  rw [zg_I32 e2]
  rfl
theorem rd_lt {bs : List Int32} {j x : Int32} (er : rd bs j = some x) (hl : bs.length < 2 ^ 31) : ¬ j < 0 ∧ j < nI bs.length := by
  obtain ⟨e1, e2⟩ := rd_some er
  refine ⟨e1, ?_⟩
  obtain ⟨k, hk, rfl⟩ := nI_of e1
  rw [nI_clamp hk] at e2
  exact nI_lt (zg_lt e2) hl
theorem f56_ob {n a : Nat} {h : zH} {v : Value} (e : zg h.1 a = some (.inr (12, [v, .int 0]))) : f56 n a h = some (0, h) := by
  unfold f56
  rw [if_neg (by decide)]
  refine bnd_eq (gI_ob e rfl) ?_
  exact zgd_eq (by decide) rfl
theorem f55_STR {n a : Nat} {h : zH} {bs : List Int32} (hs : STR h a bs) : f55 n a h = some (nI bs.length, h) := by
  obtain ⟨v, e1, e2, e3⟩ := hs
  unfold f55
  refine bnd_eq (gR_ob (v := some v) e1 rfl) ?_
  refine bnd_eq rfl ?_
  refine bnd_eq (aN_ar e2) ?_
  refine zgd_eq (isO_ob e1) ?_
  refine bnd_eq (f56_ob e1) ?_
  rw [List.length_map, show ((0 : Int32) &&& 31) = 0 by decide, show nI bs.length >>> (0 : Int32) = nI bs.length by simp]
theorem f60_ob {n a : Nat} {h : zH} {v : Value} (e : zg h.1 a = some (.inr (12, [v, .int 0]))) : f60 n a h = some (1, h) := by
  unfold f60
  rw [if_neg (by decide)]
  refine bnd_eq (gI_ob e rfl) ?_
  rw [if_pos rfl]
theorem f63_ok {n : Nat} {h : zH} {i l : Int32} (h1 : ¬ i < 0) (h2 : i < l) : f63 n i l h = some (i, h) := by
  unfold f63
  rw [if_neg h1, if_pos h2]
theorem chr_k (x : Int32) : ∃ k : Fin 256, chr x = (UInt32.ofNat k.val % 65536).toInt32 := by
  have e : (x &&& 255).toUInt32.toNat ≤ 255 := by
    have e2 : (x &&& 255).toUInt32 = x.toUInt32 &&& 255 := rfl
    rw [e2, UInt32.toNat_and]
    exact Nat.and_le_right
  refine ⟨⟨(x &&& 255).toUInt32.toNat, by omega⟩, ?_⟩
  unfold chr
  rw [UInt32.ofNat_toNat]
theorem chrOk (x : Int32) : zrtn .char (chr x) = true := by
  obtain ⟨k, e⟩ := chr_k x
  rw [e]
  exact (by decide +kernel : ∀ k : Fin 256, zrtn .char ((UInt32.ofNat k.val % 65536).toInt32) = true) k
theorem f61_STR {n v : Nat} {h : zH} {bs : List Int32} {j x : Int32} (e2 : zg h.1 v = some (.inl (1, zI32 bs))) (hl : bs.length < 2 ^ 31) (er : rd bs j = some x) : f61 n (some v) j h = some (chr x, h) := by
  obtain ⟨h1, h2⟩ := rd_lt er hl
  unfold f61
  refine bnd_eq rfl ?_
  refine bnd_eq (aN_ar e2) ?_
  rw [List.length_map]
  have e62 : f62 n j (nI bs.length) h = some ((), h) := by
    unfold f62
    exact bnd_eq (f63_ok h1 h2) rfl
  refine bnd_eq e62 ?_
  refine bnd_eq (aB_ar e2 er) ?_
  exact zgd_eq (chrOk x) rfl
theorem f59_STR {n a : Nat} {h : zH} {bs : List Int32} {j x : Int32} (hs : STR h a bs) (er : rd bs j = some x) : f59 n a j h = some (chr x, h) := by
  obtain ⟨v, e1, e2, e3⟩ := hs
  unfold f59
  refine zgd_eq (isO_ob e1) ?_
  refine bnd_eq (f60_ob e1) ?_
  rw [if_neg (show ¬ (1 : Int32) = 0 by decide)]
  refine bnd_eq (gR_ob (v := some v) e1 rfl) ?_
  refine bnd_eq (f61_STR e2 (by omega) er) ?_
  exact zgd_eq (chrOk x) rfl
theorem chr_lo {x : Int32} (h0 : 0 ≤ x) (h1 : x < 128) : chr x = x := by
  obtain ⟨k, hk, rfl⟩ := nI_of (Int32.not_lt.mpr h0)
  have : k < 128 := (nI_ltI hk (by decide)).mp h1
  have := (by decide +kernel : ∀ k : Fin 128, chr (nI k.val) = nI k.val) ⟨k, this⟩
  exact this
section
variable {h0 : zH} {X : zX} {a n : Nat} {j v : Int32}
theorem m_len (hl : Fx h0) (h : kS a = true) : f55 n a (mq h0 X) = some (nI (cs a).length, mq h0 X) := f55_STR (m_str hl h)
theorem m_chr (hl : Fx h0) (h : kS a = true) (e : rd (cs a) j = some v) : f59 n a j (mq h0 X) = some (v, mq h0 X) := by
  rw [f59_STR (m_str hl h) e]
  obtain ⟨h1, h2, vs, e1, e2, e3, e4⟩ := kS_spec h
  have ec : cs a = vs.map vI := by unfold cs; rw [e2]
  obtain ⟨_, q⟩ := rd_some e
  have hm : v ∈ cs a := by rw [zg_eq] at q; exact List.mem_of_getElem? q
  rw [ec] at hm
  obtain ⟨k1, k2⟩ := cs_vOk e3 hm
  rw [chr_lo k1 k2]
end
end ZSTR

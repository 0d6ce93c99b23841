/-! THE CLASS JUDGES: places, serves, rules -/
section ZKP
theorem plc_eq2 (g : Int64) : ((((g.toUInt64 >>> ((1 : Int32).toInt64.toUInt64 &&& Int64.toUInt64 63)).toInt64 - (g.toUInt64 >>> ((1 : Int32).toInt64.toUInt64 &&& Int64.toUInt64 63)).toInt64 / (5000) * (5000)) * (2)) + (g &&& 1)).toInt32 = nI (g.toUInt64.toNat % 10000) := by
  have hs : ((1 : Int32).toInt64.toUInt64 &&& Int64.toUInt64 63) = 1 := by decide
  rw [hs]
  generalize hU : g.toUInt64.toNat = U
  have hU2 : U < 2 ^ 64 := by rw [← hU]; exact g.toUInt64.toNat_lt
  have hm : ((g.toUInt64 >>> 1).toInt64).toInt = (U / 2 : Nat) := by
    have h1 : (g.toUInt64 >>> 1).toNat = U / 2 := by
      rw [UInt64.toNat_shiftRight, hU]
      rfl
    have h2 : ((g.toUInt64 >>> 1).toInt64).toInt = ((g.toUInt64 >>> 1).toNat : Int) := by
      show (g.toUInt64 >>> 1).toBitVec.toInt = _
      rw [BitVec.toInt_eq_toNat_of_lt]
      · rfl
      · show 2 * (g.toUInt64 >>> 1).toNat < 2 ^ 64
        rw [h1]; omega
    rw [h2, h1]
  generalize (g.toUInt64 >>> 1).toInt64 = M at hm
  have hb : (g &&& 1).toInt = (U % 2 : Nat) := by
    have : (g &&& 1).toBitVec.toNat = U % 2 := by
      rw [Int64.toBitVec_and, BitVec.toNat_and]
      show g.toUInt64.toNat &&& 1 = U % 2
      rw [hU, Nat.and_one_is_mod]
    show (g &&& 1).toBitVec.toInt = _
    rw [BitVec.toInt_eq_toNat_of_lt, this]
    rw [this]; omega
  generalize (g &&& 1) = B at hb
  have hd : (M - M / 5000 * 5000).toInt = (U / 2 % 5000 : Nat) := by
    rw [Int64.toInt_sub, Int64.toInt_mul, Int64.toInt_div, hm]
    have e : ((U / 2 : Nat) : Int).tdiv (5000 : Int64).toInt = ((U / 2 / 5000 : Nat) : Int) := by
      show ((U / 2 : Nat) : Int).tdiv ((5000 : Nat) : Int) = _
      rw [← Int.ofNat_tdiv]
    rw [e]
    have hq : U / 2 / 5000 < 2 ^ 60 := by omega
    rw [show (5000 : Int64).toInt = 5000 from rfl]
    rw [Int.bmod_eq_of_le (n := ((U / 2 / 5000 : Nat) : Int)) (by omega) (by omega), Int.bmod_eq_of_le (n := ((U / 2 / 5000 : Nat) : Int) * 5000) (by omega) (by omega), Int.bmod_eq_of_le (by omega) (by omega)]
    omega
  generalize (M - M / 5000 * 5000) = R at hd
  have hS : (R * 2 + B).toInt = ((U % 10000 : Nat) : Int) := by
    rw [Int64.toInt_add, Int64.toInt_mul, hd, hb, show (2 : Int64).toInt = 2 from rfl]
    rw [Int.bmod_eq_of_le (n := ((U / 2 % 5000 : Nat) : Int) * 2) (by omega) (by omega), Int.bmod_eq_of_le (by omega) (by omega)]
    omega
  generalize (R * 2 + B) = S at hS
  apply nI_ij (by omega)
  rw [Int64.toInt_toInt32, hS]
  apply Int.bmod_eq_of_le
  · omega
  · omega
section
variable {n : Nat} {Y Y1 : zY} {a b s s2 jd k x lo L f : Nat} {t o : Tk} {K : KL} {w u salt : List Int32} {vI vW vY : List Value} {A : Nat → Nat} {ans p : Int32} {bs : List Bool} {nm sa : Value} {sh : List (Int32 × Int32)} {T : Thg}
theorem mxb_c {h : Int64} {v : Int32} : c167 n h v Y = some (mxB h v, Y) := rfl
theorem mxS_l {l0 : Int64} (hs : Y.1 s = some (oS w)) (hl : w.length ≤ 100) : ∀ (fu c : Nat) (h : Int64), c ≤ w.length → w.length - c < fu → cf166_5 n fu l0 (some s) h (nI c) Y = some ((w.drop c).foldl mxB h, Y)
  | 0, c, h, _, hf => by omega
  | fu + 1, c, h, hc, hf => by
    show cb166_5 n (cf166_5 n fu) l0 (some s) h (nI c) Y = _
    unfold cb166_5
    refine bnd_eq rfl (zgd_eq (isO_s hs) (bnd_eq (c55_of hs) ?_))
    by_cases hz : w.length ≤ c
    · rw [if_pos (nI_le hz (by omega)), List.drop_eq_nil_of_le hz]
      rfl
    · have hlt : c < w.length := by omega
      rw [if_neg (nI_ge hlt (by omega))]
      refine zgd_eq (isO_s hs) (bnd_eq (c59_of hs (by omega) (List.getElem?_eq_getElem hlt)) (bnd_eq mxb_c ?_))
      dsimp only
      rw [nI_1, List.drop_eq_getElem_cons hlt, List.foldl_cons]
      exact mxS_l hs hl fu (c + 1) _ (by omega) (by omega)
theorem mxS_ok {h : Int64} (hs : Y.1 s = some (oS w)) (hl : w.length ≤ 100) (hn : 6002 ≤ n) : c166 n h (some s) Y = some (w.foldl mxB h, Y) := by
  unfold c166
  have := mxS_l (n := n) (l0 := h) hs hl n 0 h (by omega) (by omega)
  rw [List.drop_zero] at this
  exact this
/-- placeOf -/
theorem pl_ok (h1 : Y.1 s = some (oS salt)) (h2 : Y.1 s2 = some (oS (thB T))) (l1 : salt.length ≤ 100) (l2 : (thB T).length ≤ 100) (hn : 6002 ≤ n) : c165 n (some s) (some s2) Y = some (plc salt T, Y) := by
  unfold c165
  refine bnd_eq (mxS_ok h1 l1 hn) (bnd_eq mxb_c (bnd_eq (mxS_ok h2 l2 hn) ?_))
  dsimp only
  have e : hsh salt T = (thB T).foldl mxB (mxB (salt.foldl mxB (-3750763034362895579)) 0) := by
    unfold hsh
    rw [List.foldl_append, List.foldl_cons]
  have e2 : ∀ g : Int64, (g ^^^ (g.toUInt64 >>> ((32 : Int32).toInt64.toUInt64 &&& Int64.toUInt64 63)).toInt64).toUInt64 = g.toUInt64 ^^^ (g.toUInt64 >>> 32) := by
    intro g
    rw [show ((32 : Int32).toInt64.toUInt64 &&& Int64.toUInt64 63) = 32 by decide]
    rfl
  rw [plc_eq2, e2, ← e]
  rfl
theorem ttx_B (h : t.1 = 3 ∨ t.1 = 4) : ttx t = thB (thg t) := by
  unfold ttx thB thg
  rcases h with h | h
  · rw [if_pos h, h]; rfl
  · rw [if_neg (by omega), h]; rfl
/-! serves -/
theorem sv_1 {f : Int32 × Int32 → Value} {z : Int32 × Int32} {i : Nat} (hz : sh[i]? = some z) : (sh.map f ++ List.replicate (L - sh.length) (Value.int 0))[i]? = some (f z) := by
  have hi := lt_of_get hz
  rw [List.getElem?_append_left (by rw [List.length_map]; exact hi), List.getElem?_map, hz]
  rfl
theorem sv_last (h : SVX Y lo x nm sa sh L) : c164 n x Y = some (lstV sh, Y) := by
  obtain ⟨a1, a2, h1, h2, h3, h4, h5, h6, h7, h8, h9, h10, h11, h12⟩ := h
  unfold c164
  refine bnd_eq (yI_of h1 rfl) (bnd_eq (yR_of (r := some a2) h1 rfl) (bnd_eq rfl (bnd_eq (yL_of h3) ?_)))
  rw [svl h4]
  cases hs : sh.length with
  | zero =>
    have : sh = [] := List.length_eq_zero_iff.mp hs
    subst this
    have : c13 n (nI 0 - 1) (nI L) Y = some (0, Y) := by
      unfold c13
      rw [if_pos (by decide)]
    exact bnd_eq this rfl
  | succ m =>
    have e : nI (m + 1) - 1 = nI m := by
      rw [show (1 : Int32) = nI 1 from rfl, nI_sub_le (by omega)]
      rfl
    rw [e]
    refine bnd_eq (bel (show m < L by omega) (by omega)) ?_
    dsimp only
    rw [if_neg (by decide)]
    obtain ⟨zm, hg⟩ : ∃ zm, sh[m]? = some zm := ⟨_, List.getElem?_eq_getElem (by omega)⟩
    refine bnd_eq (yR_of (r := some a2) h1 rfl) (bnd_eq (yI_of h1 rfl) (bnd_eq rfl ?_))
    rw [hs, e]
    refine bnd_eq (yaI_of h3 (by omega) (sv_1 (f := fun z => Value.int z.2) hg)) ?_
    have : lstV sh = zm.2 := by
      unfold lstV
      rw [List.getLast?_eq_getElem?, hs, show m + 1 - 1 = m by omega, hg]
      rfl
    rw [this]
theorem sv_at_l (h : SVX Y lo x nm sa sh L) : ∀ (fu i : Nat) (acc : Int32), i ≤ sh.length → sh.length - i < fu → cf168_4 n fu x p acc (nI i) Y = some (atV p (lstV sh) acc (sh.drop i), Y)
  | 0, i, acc, _, hf => by omega
  | fu + 1, i, acc, hi, hf => by
    have hl := sv_last (n := n) h
    have ho := sv_o h
    have h' := h
    obtain ⟨a1, a2, h1, h2, h3, h4, h5, h6, h7, h8, h9, h10, h11, h12⟩ := h
    show cb168_4 n (cf168_4 n fu) x p acc (nI i) Y = _
    unfold cb168_4
    refine bnd_eq (yI_of h1 rfl) ?_
    by_cases hz : sh.length ≤ i
    · rw [if_pos (nI_le hz (by omega)), List.drop_eq_nil_of_le hz]
      unfold cb168_57
      exact zgd_eq ho (bnd_eq hl rfl)
    · have hlt : i < sh.length := by omega
      have hg : sh[i]? = some sh[i] := List.getElem?_eq_getElem hlt
      rw [if_neg (nI_ge hlt (by omega))]
      refine bnd_eq (yR_of (r := some a1) h1 rfl) (bnd_eq rfl (bnd_eq (yL_of h2) ?_))
      rw [svl h4, if_neg (nI_ge (show i < L by omega) (by omega))]
      refine bnd_eq (yR_of (r := some a2) h1 rfl) (bnd_eq rfl (bnd_eq (yL_of h3) ?_))
      rw [svl h4, if_neg (nI_ge (show i < L by omega) (by omega))]
      refine bnd_eq (yR_of (r := some a1) h1 rfl) (bnd_eq rfl (bnd_eq (yaI_of h2 (by omega) (sv_1 (f := fun z => Value.int z.1) hg)) ?_))
      rw [List.drop_eq_getElem_cons hlt]
      show _ = some (if acc + sh[i].1 ≤ p then atV p (lstV sh) (acc + sh[i].1) (sh.drop (i + 1)) else sh[i].2, Y)
      by_cases hc : acc + sh[i].1 ≤ p
      · rw [if_pos hc, if_pos hc, nI_1]
        exact sv_at_l h' fu (i + 1) _ (by omega) (by omega)
      · rw [if_neg hc, if_neg hc]
        exact bnd_eq (yR_of (r := some a2) h1 rfl) (bnd_eq rfl (bnd_eq (yaI_of h3 (by omega) (sv_1 (f := fun z => Value.int z.2) hg)) rfl))
theorem sv_8 (h : SVX Y lo x nm sa sh L) : sh.length ≤ 8 := by
  obtain ⟨a1, a2, h1, h2, h3, h4, h5, h6, h7, h8, h9, h10, h11, h12⟩ := h
  omega
theorem sv_at (h : SVX Y lo x nm sa sh L) (hn : 6002 ≤ n) : c168 n x p Y = some (atV p (lstV sh) 0 sh, Y) := by
  unfold c168
  have := sv_at_l (n := n) (p := p) h n 0 0 (by omega) (by have := sv_8 h; omega)
  rw [List.drop_zero] at this
  exact this
theorem sv_sh_l (h : SVX Y lo x nm sa sh L) : ∀ (fu i : Nat) (acc : Int32), i ≤ sh.length → sh.length - i < fu → cf181_4 n fu x p acc (nI i) Y = some ((sh.drop i).foldl (fun s z => if z.2 = p then s + z.1 else s) acc, Y)
  | 0, i, acc, _, hf => by omega
  | fu + 1, i, acc, hi, hf => by
    have h' := h
    obtain ⟨a1, a2, h1, h2, h3, h4, h5, h6, h7, h8, h9, h10, h11, h12⟩ := h
    show cb181_4 n (cf181_4 n fu) x p acc (nI i) Y = _
    unfold cb181_4
    refine bnd_eq (yI_of h1 rfl) ?_
    by_cases hz : sh.length ≤ i
    · rw [if_pos (nI_le hz (by omega)), List.drop_eq_nil_of_le hz]
      rfl
    · have hlt : i < sh.length := by omega
      have hg : sh[i]? = some sh[i] := List.getElem?_eq_getElem hlt
      rw [if_neg (nI_ge hlt (by omega))]
      refine bnd_eq (yR_of (r := some a1) h1 rfl) (bnd_eq rfl (bnd_eq (yL_of h2) ?_))
      rw [svl h4, if_neg (nI_ge (show i < L by omega) (by omega))]
      refine bnd_eq (yR_of (r := some a2) h1 rfl) (bnd_eq rfl (bnd_eq (yL_of h3) ?_))
      rw [svl h4, if_neg (nI_ge (show i < L by omega) (by omega))]
      refine bnd_eq (yR_of (r := some a2) h1 rfl) (bnd_eq rfl (bnd_eq (yaI_of h3 (by omega) (sv_1 (f := fun z => Value.int z.2) hg)) ?_))
      rw [List.drop_eq_getElem_cons hlt, List.foldl_cons]
      unfold cb181_49
      by_cases hc : sh[i].2 = p
      · rw [if_pos hc, if_pos hc, nI_1]
        refine bnd_eq (yR_of (r := some a1) h1 rfl) (bnd_eq rfl (bnd_eq (yaI_of h2 (by omega) (sv_1 (f := fun z => Value.int z.1) hg)) ?_))
        exact sv_sh_l h' fu (i + 1) _ (by omega) (by omega)
      · rw [if_neg hc, if_neg hc, nI_1]
        exact sv_sh_l h' fu (i + 1) _ (by omega) (by omega)
/-- placesOf -/
theorem sv_sh (h : SVX Y lo x nm sa sh L) (hn : 6002 ≤ n) : c181 n x p Y = some (sh.foldl (fun s z => if z.2 = p then s + z.1 else s) 0, Y) := by
  unfold c181
  have := sv_sh_l (n := n) (p := p) h n 0 0 (by omega) (by have := sv_8 h; omega)
  rw [List.drop_zero] at this
  exact this
end
end ZKP

/-! THE CLASS: strings of the tape -/
section ZJB
theorem chr_b : ∀ k : Fin 256, ((nI k.1 &&& 255).toUInt32 % 65536).toInt32 = nI k.1 := by decide +kernel
theorem nrw_c : ∀ k : Fin 256, narrow .char (.int (nI k.1)) = .int (nI k.1) := by decide +kernel
theorem nrw_b : ∀ k : Fin 256, narrow .byte (.int (nI k.1).toInt8.toInt32) = .int (nB (nI k.1)) := by decide +kernel
theorem byV_b : ∀ k : Fin 256, byV (.int (nB (nI k.1))) = true := by decide +kernel
theorem chr_nB : ∀ k : Fin 256, chr (nB (nI k.1)) = nI k.1 := by decide +kernel
theorem le_255 : ∀ k : Fin 256, nI k.1 ≤ 255 := by decide +kernel
section
variable {n : Nat} {Y Y1 Y2 : zY} {a b c k e m : Nat} {fs : List Value} {v w : Value} {x : Int32} {T : List Int32} {tp : Nat}
theorem zs_mid {α : Type} {l r : List α} {x y : α} : zs (l ++ x :: r) l.length y = l ++ y :: r := by
  induction l with
  | nil => rfl
  | cons q l ih => show q :: zs (l ++ x :: r) l.length y = _; rw [ih]; rfl
theorem zg_mid {α : Type} {l r : List α} {x : α} : zg (l ++ x :: r) l.length = some x := by
  rw [zg_eq, List.getElem?_append_right (Nat.le_refl _), Nat.sub_self]
  rfl
theorem yS_of {ty j : Nat} {vs : List Value} {ok : Nat → Value → Option Value} {y u : Value} (h : Y.1 a = some (oA ty vs)) (ha : 139 ≤ a) (ho : ok ty v = some y) (hj : j < 2 ^ 31) (hk : zg vs j = some u) : yS ok Y a (nI j) v = some (yu Y a (some (oA ty (zs vs j y)))) := by
  unfold yS
  rw [h]
  dsimp only
  rw [ho]
  dsimp only
  have : (Nat.ble zn0 a && !decide (nI j < 0)) = true := by rw [show Nat.ble zn0 a = true from Nat.ble_eq_true_of_le ha, decide_eq_false (nI_pos hj)]; rfl
  rw [this]
  dsimp only
  rw [nI_clamp hj, hk]
theorem yal_of {ty j : Nat} {vs : List Value} {ok : Nat → Bool} (h : Y.1 a = some (oA ty vs)) (ho : ok ty = true) (hj : j < 2 ^ 31) : yal ok Y a (nI j) = zg vs j := by
  unfold yal
  rw [h]
  dsimp only
  have : (ok ty && !decide (nI j < 0)) = true := by rw [ho, decide_eq_false (nI_pos hj)]; rfl
  rw [this]
  dsimp only
  rw [nI_clamp hj]
theorem yL_of {ty : Nat} {vs : List Value} (h : Y.1 a = some (oA ty vs)) : yL Y a = some (nI vs.length) := by
  unfold yL
  rw [h]
/-- the fixed cells -/
def fxs : List Nat := [49, 57, 59, 61, 69, 71, 73, 75, 77, 79, 81, 83, 85, 87, 89, 91, 93, 95, 97, 99, 101, 103, 105, 107, 109, 111, 113, 115, 117, 119, 121, 123, 125, 127, 129, 131, 133, 135, 137]
def FXY (Y : zY) : Prop := (∀ (k : Nat) (c : Nat) (fs : List Value), zg zroL k = some (.inr (c, fs)) → c = 15 → Y.1 (k + 1) = some (oB 15 fs)) ∧ (∀ (k t : Nat) (vs : List Value), zg zroL k = some (.inl (t, vs)) → 43 ≤ k → k ≤ 46 → Y.1 (k + 1) = some (oA t vs)) ∧ ∀ a ∈ fxs, Y.1 a = some (oS (cs a))
theorem FXY_F {S : List Nat} {w : Nat} (h : FXY Y) (hf : FRY Y Y1 S w) (hS : ∀ a ∈ S, 139 ≤ a) : FXY Y1 := by
  obtain ⟨h1, h2, h3⟩ := h
  have hlen : zroL.length = 138 := by decide +kernel
  refine ⟨fun k c fs e hc => ?_, fun k t vs e k1 k2 => ?_, fun a ha => ?_⟩
  · rcases hf.2.2 _ _ (h1 k c fs e hc) with q | q
    · have := hS _ q
      have := zg_lt e
      omega
    · exact q
  · rcases hf.2.2 _ _ (h2 k t vs e k1 k2) with q | q
    · have := hS _ q
      omega
    · exact q
  · rcases hf.2.2 _ _ (h3 a ha) with q | q
    · have := hS _ q
      have : ∀ a ∈ fxs, a < 139 := by decide
      have := this a ha
      omega
    · exact q
/-- a state of the class -/
def BY (Y : zY) : Prop := FXY Y ∧ DM Y
/-- the letters are filled in -/
theorem fill_l (hT : TAP Y tp T) (hb : b ≠ tp) (h139 : 139 ≤ b) (hae : a + m ≤ T.length) : ∀ (fu i : Nat) {Z : zY}, i ≤ m → m - i < fu → TAP Z tp T → Z.1 b = some (oA 3 (((cut T a (a + i)).map fun x => Value.int x) ++ List.replicate (m - i) (.int 0))) → ∃ Z1, cf21_13 n fu tp (nI a) x b (nI i) Z = (c23 n Z1.2.1 (some b) (yN Z1 12 4)).bind (fun p5 => some ((some Z1.2.1), p5.2)) ∧ Z1 = yu Z b (some (oA 3 ((cut T a (a + m)).map fun x => Value.int x)))
  | 0, i, Z, _, h, _, _ => by omega
  | fu + 1, i, Z, hi, hf, hZ, hbz => by
    have h6 : T.length ≤ 6000 := by obtain ⟨_, _, _, _, _, h, _⟩ := hT; exact h
    have hlc : ∀ i, i ≤ m → (cut T a (a + i)).length = i := fun i hi => by unfold cut; rw [List.length_take, List.length_drop]; omega
    show ∃ Z1, cb21_13 n (cf21_13 n fu) tp (nI a) x b (nI i) Z = _ ∧ _
    unfold cb21_13
    have hL : yL Z b = some (nI m) := by rw [yL_of hbz, List.length_append, List.length_map, List.length_replicate, hlc i hi]; congr 2; omega
    rw [hL]
    dsimp only [Option.bind_some]
    by_cases hz : i = m
    · subst hz
      rw [if_pos (Int32.le_refl _)]
      refine ⟨Z, rfl, ?_⟩
      refine Prod.ext (funext fun q => ?_) rfl
      rw [yu_1]
      by_cases e : q = b
      · rw [if_pos e, e, hbz, Nat.sub_self]
        show some (oA 3 (_ ++ [])) = _
        rw [List.append_nil]
      · rw [if_neg e]
    · have hlt : i < m := by omega
      have hat : a + i < T.length := by omega
      rw [if_neg (nI_ge hlt (by omega)), tap_o hZ, nI_add, byt_at hZ (by omega)]
      show ∃ Z1, ((yS zsC Z b (nI i) (.int (((tAt T (a + i) &&& 255).toUInt32 % 65536).toInt32))).bind fun h9 => cf21_13 n fu tp (nI a) x b (nI i + 1) h9) = _ ∧ _
      have hby : byt (tAt T (a + i)) := by
        rw [tAt_lt hat]
        obtain ⟨_, _, _, _, _, _, _, h, _⟩ := hT
        exact h _ (List.getElem_mem hat)
      obtain ⟨q, hq, hqe⟩ := hby
      rw [hqe, chr_b ⟨q, hq⟩]
      have hrep : List.replicate (m - i) (Value.int 0) = .int 0 :: List.replicate (m - (i + 1)) (.int 0) := by
        rw [show m - i = (m - (i + 1)) + 1 by omega]; rfl
      have hlm : ((cut T a (a + i)).map fun x => Value.int x).length = i := by rw [List.length_map, hlc i hi]
      rw [hrep] at hbz
      have hst := yS_of (ok := zsC) (v := .int (nI q)) (y := .int (nI q)) (j := i) hbz h139 (by show some (narrow .char (.int (nI q))) = _; rw [nrw_c ⟨q, hq⟩]) (by omega) (by have := zg_mid (l := (cut T a (a + i)).map fun x => Value.int x) (x := Value.int 0) (r := List.replicate (m - (i + 1)) (.int 0)); rw [hlm] at this; exact this)
      rw [hst]
      dsimp only [Option.bind_some]
      have hzs := zs_mid (l := (cut T a (a + i)).map fun x => Value.int x) (x := Value.int 0) (y := Value.int (nI q)) (r := List.replicate (m - (i + 1)) (.int 0))
      rw [hlm] at hzs
      have hcut : (cut T a (a + (i + 1))).map (fun x => Value.int x) = (cut T a (a + i)).map (fun x => Value.int x) ++ [.int (nI q)] := by
        have : cut T a (a + (i + 1)) = cut T a (a + i) ++ [tAt T (a + i)] := by
          unfold cut
          rw [show a + (i + 1) - a = i + 1 by omega, show a + i - a = i by omega, List.take_add_one, List.getElem?_drop, List.getElem?_eq_getElem hat, tAt_lt hat]
          rfl
        rw [this, List.map_append, hqe]
        rfl
      rw [hzs, nI_1]
      have hZ' : TAP (yu Z b (some (oA 3 (((cut T a (a + i)).map fun x => Value.int x) ++ .int (nI q) :: List.replicate (m - (i + 1)) (.int 0))))) tp T := by
        obtain ⟨ba, vs, z1, z2, z3⟩ := hZ
        refine ⟨ba, vs, by rw [yu_n hb.symm]; exact z1, ?_, z3⟩
        rw [yu_n ?_]
        · exact z2
        · intro q'
          rw [q', hbz] at z2
          cases z2
      obtain ⟨Z1, e1, e2⟩ := fill_l hT hb h139 hae fu (i + 1) (Z := yu Z b (some (oA 3 (((cut T a (a + i)).map fun x => Value.int x) ++ .int (nI q) :: List.replicate (m - (i + 1)) (.int 0))))) (by omega) (by omega) hZ' (by rw [yu_s, hcut, List.append_assoc]; rfl)
      refine ⟨Z1, e1, ?_⟩
      rw [e2, yu_yu]
/-- letters become bytes -/
theorem cmp_l {bs : List Int32} (hb : b ≠ c) (h139 : 139 ≤ c) (hby : ∀ y ∈ bs, byt y) (hl : bs.length ≤ 6000) : ∀ (fu i : Nat) {Z : zY}, i ≤ bs.length → bs.length - i < fu → Z.1 b = some (oA 3 (bs.map fun x => Value.int x)) → Z.1 c = some (oA 1 (((bs.take i).map fun x => Value.int (nB x)) ++ List.replicate (bs.length - i) (.int 0))) → cf26_3 n fu (some b) (nI i) (some c) (nI i) (nI bs.length) (nI i) Z = some (nI bs.length, yu Z c (some (oA 1 (bs.map fun x => Value.int (nB x)))))
  | 0, i, Z, _, h, _, _ => by omega
  | fu + 1, i, Z, hi, hf, hbz, hcz => by
    show cb26_3 n (cf26_3 n fu) (some b) (nI i) (some c) (nI i) (nI bs.length) (nI i) Z = _
    unfold cb26_3
    by_cases hz : i = bs.length
    · rw [if_pos (by rw [hz]; exact Int32.le_refl _)]
      congr 2
      refine Prod.ext (funext fun q => ?_) rfl
      rw [yu_1]
      by_cases e : q = c
      · rw [if_pos e, e, hcz, hz, Nat.sub_self, List.take_length]
        show some (oA 1 (_ ++ [])) = _
        rw [List.append_nil]
      · rw [if_neg e]
    · have hlt : i < bs.length := by omega
      have hg : bs[i]? = some bs[i] := List.getElem?_eq_getElem hlt
      obtain ⟨q, hq, hqe⟩ := hby _ (List.getElem_mem hlt)
      rw [if_neg (nI_ge hlt (by omega))]
      dsimp only [Option.bind_some]
      have hC : yaC Z b (nI i) = some (nI q) := by
        unfold yaC
        rw [yal_of hbz rfl (by omega), zg_eq, List.getElem?_map, hg, hqe]
        rfl
      rw [hC]
      dsimp only [Option.bind_some]
      rw [if_pos (le_255 ⟨q, hq⟩)]
      have hrep : List.replicate (bs.length - i) (Value.int 0) = .int 0 :: List.replicate (bs.length - (i + 1)) (.int 0) := by
        rw [show bs.length - i = (bs.length - (i + 1)) + 1 by omega]; rfl
      have hlm : ((bs.take i).map fun x => Value.int (nB x)).length = i := by rw [List.length_map, List.length_take]; omega
      rw [hrep] at hcz
      have hst := yS_of (ok := zsB) (v := .int (nI q).toInt8.toInt32) (y := .int (nB (nI q))) (j := i) hcz h139 (by show some (narrow .byte (.int (nI q).toInt8.toInt32)) = _; rw [nrw_b ⟨q, hq⟩]) (by omega) (by have := zg_mid (l := (bs.take i).map fun x => Value.int (nB x)) (x := Value.int 0) (r := List.replicate (bs.length - (i + 1)) (.int 0)); rw [hlm] at this; exact this)
      rw [hst]
      dsimp only [Option.bind_some]
      have hzs := zs_mid (l := (bs.take i).map fun x => Value.int (nB x)) (x := Value.int 0) (y := Value.int (nB (nI q))) (r := List.replicate (bs.length - (i + 1)) (.int 0))
      rw [hlm] at hzs
      have hcut : (bs.take (i + 1)).map (fun x => Value.int (nB x)) = (bs.take i).map (fun x => Value.int (nB x)) ++ [.int (nB (nI q))] := by
        rw [List.take_add_one, hg, hqe, List.map_append]
        rfl
      rw [hzs, nI_1, cmp_l hb h139 hby hl fu (i + 1) (by omega) (by omega) (by rw [yu_n hb]; exact hbz) (by rw [yu_s, hcut, List.append_assoc]; rfl), yu_yu]
theorem all_byV {bs : List Int32} (h : ∀ y ∈ bs, byt y) : (bs.map fun x => Value.int (nB x)).all byV = true := by
  rw [List.all_eq_true]
  intro v hv
  obtain ⟨y, hy, rfl⟩ := List.mem_map.mp hv
  obtain ⟨q, hq, rfl⟩ := h y hy
  exact byV_b ⟨q, hq⟩
theorem map_chr {bs : List Int32} (h : ∀ y ∈ bs, byt y) : (bs.map fun x => Value.int (nB x)).map (fun v => chr (vI v)) = bs := by
  induction bs with
  | nil => rfl
  | cons y l ih =>
    show chr (nB y) :: _ = _
    rw [ih (fun z hz => h z (List.mem_cons_of_mem _ hz))]
    obtain ⟨q, hq, rfl⟩ := h y List.mem_cons_self
    rw [chr_nB ⟨q, hq⟩]
theorem yA_of {j : Nat} {t : Nat} (ht : t ≤ 4) (hj : j ≤ 65536) : yA Y t (nI j) = some (ya Y (oA t (List.replicate j (zdef t))) j) := by
  unfold yA
  have : (!decide (nI j < 0) && Nat.ble (nI j).toNatClampNeg 65536 && Nat.ble t 4) = true := by
    rw [decide_eq_false (nI_pos (by omega)), nI_clamp (by omega), show Nat.ble j 65536 = true from Nat.ble_eq_true_of_le hj, show Nat.ble t 4 = true from Nat.ble_eq_true_of_le ht]; rfl
  rw [this]
  dsimp only
  rw [nI_clamp (by omega)]
theorem DM_un (h : DM Y) : DM (yu Y a none) := ⟨h.1, fun b o hb => by
  by_cases q : b = a
  · rw [q, yu_s] at hb; cases hb
  · rw [yu_n q] at hb; exact h.2 b o hb⟩
/-- a String of letters -/
theorem str_ok {bs : List Int32} (hY : BY Y) (hb : Y.1 b = some (oA 3 (bs.map fun x => Value.int x))) (hby : ∀ y ∈ bs, byt y) (hl : bs.length ≤ 6000) (hn : 6002 ≤ n) : ∃ Y1, c23 n Y.2.1 (some b) (yN Y 12 4) = some ((), Y1) ∧ BY Y1 ∧ FRY Y Y1 [] (36 + bs.length) ∧ Y1.1 Y.2.1 = some (oS bs) ∧ Y.2.1 < Y1.2.1 := by
  obtain ⟨hF, hD⟩ := hY
  have hbl := hD.2 b _ hb
  have hbn : b ≠ Y.2.1 := by omega
  have h231 := hD.1
  have hN : (yN Y 12 4).1 Y.2.1 = some (oB 12 [.null, .int 0]) := ya_s
  have hNb : (yN Y 12 4).1 b = some (oA 3 (bs.map fun x => Value.int x)) := by rw [show (yN Y 12 4).1 b = Y.1 b from ya_n hbn]; exact hb
  have h49 : (yN Y 12 4).1 49 = some (oS []) := by
    rw [show (yN Y 12 4).1 49 = Y.1 49 from ya_n (by omega)]
    exact hF.2.2 49 (by decide)
  have hDN : DM (yN Y 12 4) := DM_a hD
  unfold c23
  cases bs with
  | nil =>
    have e : yE0 (yN Y 12 4) Y.2.1 (some b) = some (yu (yN Y 12 4) Y.2.1 (some (oS []))) := by
      unfold yE0
      dsimp only
      rw [hNb, h49, hN]
      show (match (Nat.beq 12 12 && Nat.ble zn0 Y.2.1) with
        | true => some (yu (yN Y 12 4) Y.2.1 (some (oS [])))
        | false => none) = _
      have : (Nat.beq 12 12 && Nat.ble zn0 Y.2.1) = true := by rw [show Nat.ble zn0 Y.2.1 = true from Nat.ble_eq_true_of_le (by show 139 ≤ _; omega)]; rfl
      rw [this]
    rw [e]
    have hf : FRY Y (yu (yN Y 12 4) Y.2.1 (some (oS []))) [] (36 + 0) := by
      refine ⟨by show Y.2.1 ≤ Y.2.1 + 1; omega, by show 16 * (Y.2.2.1 + 1) + (Y.2.2.2 + 4) ≤ 16 * Y.2.2.1 + Y.2.2.2 + (36 + 0); omega, fun q o hq => Or.inr ?_⟩
      have := hD.2 q o hq
      rw [yu_n (by omega), show (yN Y 12 4).1 q = Y.1 q from ya_n (by omega)]
      exact hq
    exact ⟨_, rfl, ⟨FXY_F hF hf (fun a ha => by cases ha), DM_u hDN (by show Y.2.1 < Y.2.1 + 1; omega)⟩, hf, yu_s, by show Y.2.1 < Y.2.1 + 1; omega⟩
  | cons y l =>
    have e : yE0 (yN Y 12 4) Y.2.1 (some b) = none := by
      unfold yE0
      dsimp only
      rw [hNb]
      rfl
    rw [e]
    dsimp only
    generalize hbs : y :: l = bs at hb hby hl hNb
    have hpos : 0 < bs.length := by rw [← hbs]; show 0 < l.length + 1; omega
    -- the bytes
    obtain ⟨Ya, hYa⟩ : ∃ Ya, Ya = ya (yN Y 12 4) (oA 1 (List.replicate bs.length (zdef 1))) bs.length := ⟨_, rfl⟩
    have hd : (yN Y 12 4).2.1 = Y.2.1 + 1 := rfl
    have hDa : DM Ya := by rw [hYa]; exact DM_a hDN
    have a1 : Ya.1 b = some (oA 3 (bs.map fun x => Value.int x)) := by rw [hYa, ya_n (by rw [hd]; omega)]; exact hNb
    have a2 : Ya.1 (Y.2.1 + 1) = some (oA 1 (List.replicate bs.length (.int 0))) := by rw [hYa]; exact ya_s
    have a3 : Ya.1 Y.2.1 = some (oB 12 [.null, .int 0]) := by rw [hYa, ya_n (by rw [hd]; omega)]; exact hN
    have hcm := cmp_l (n := n) (b := b) (c := Y.2.1 + 1) (by omega) (by omega) hby hl n 0 (Z := Ya) (by omega) (by omega) a1 (by rw [List.take_zero, List.map_nil, Nat.sub_zero, List.nil_append]; exact a2)
    obtain ⟨Yb, hYb⟩ : ∃ Yb, Yb = yu Ya (Y.2.1 + 1) (some (oA 1 (bs.map fun x => Value.int (nB x)))) := ⟨_, rfl⟩
    rw [← hYb] at hcm
    have b1 : Yb.1 (Y.2.1 + 1) = some (oA 1 (bs.map fun x => Value.int (nB x))) := by rw [hYb, yu_s]
    have b2 : Yb.1 Y.2.1 = some (oB 12 [.null, .int 0]) := by rw [hYb, yu_n (by omega)]; exact a3
    obtain ⟨Yc, hYc⟩ : ∃ Yc, Yc = yu Yb Y.2.1 (some (oB 12 [.ref (Y.2.1 + 1), .int 0])) := ⟨_, rfl⟩
    have hcv : c23v n Y.2.1 (some b) (yN Y 12 4) = some ((), Yc) := by
      unfold c23v c24 c25 c26 c27
      dsimp only [Option.bind_some]
      refine bnd_eq (by rw [yL_of hNb, List.length_map]) ?_
      rw [if_neg (nI_ne0 hpos (by omega)), if_neg (by decide)]
      rw [yA_of (by omega) (by omega), ← hYa]
      dsimp only [Option.bind_some]
      rw [show (0 : Int32) = nI 0 from rfl, show (yN Y 12 4).2.1 = Y.2.1 + 1 from rfl, hcm]
      dsimp only [Option.bind_some]
      rw [if_pos rfl]
      dsimp only [Option.bind_some]
      rw [show yL Yb (Y.2.1 + 1) = some (nI bs.length) by rw [yL_of b1, List.length_map]]
      dsimp only [Option.bind_some]
      rw [Int32.sub_self]
      refine bnd_eq (x := ((), Yc)) ?_ rfl
      refine bnd_eq (x := ((0 : Int32), Yb)) rfl ?_
      dsimp only
      refine bnd_eq (yP_of b2 (by omega) rfl rfl) ?_
      refine bnd_eq (yP_of yu_s (by omega) rfl rfl) ?_
      rw [yu_yu, hYc]
      rfl
    rw [hcv]
    dsimp only [Option.bind_some]
    have c1 : Yc.1 Y.2.1 = some (oB 12 [.ref (Y.2.1 + 1), .int 0]) := by rw [hYc, yu_s]
    have c2 : Yc.1 (Y.2.1 + 1) = some (oA 1 (bs.map fun x => Value.int (nB x))) := by rw [hYc, yu_n (by omega)]; exact b1
    have hHS : yHS Yc Y.2.1 = some (yu (yu Yc (Y.2.1 + 1) none) Y.2.1 (some (oS bs))) := by
      unfold yHS
      rw [c1]
      dsimp only
      rw [c2]
      dsimp only
      have : (Nat.beq 12 12 && (0 : Int32) == 0 && Nat.beq 1 1 && (bs.map fun x => Value.int (nB x)).all byV && Nat.ble (bs.map fun x => Value.int (nB x)).length 65536) = true := by
        rw [all_byV hby, List.length_map, show Nat.ble bs.length 65536 = true from Nat.ble_eq_true_of_le (by omega)]; rfl
      rw [this]
      dsimp only
      rw [map_chr hby]
    rw [hHS]
    dsimp only [Option.bind_some]
    have hY2 : (yu (yu Yc (Y.2.1 + 1) none) Y.2.1 (some (oS bs))).2 = (Y.2.1 + 2, Y.2.2.1 + 2, Y.2.2.2 + 4 + bs.length) := by
      rw [yu_2, yu_2, hYc, yu_2, hYb, yu_2, hYa]
      rfl
    have hf : FRY Y (yu (yu Yc (Y.2.1 + 1) none) Y.2.1 (some (oS bs))) [] (36 + bs.length) := by
      refine ⟨by rw [hY2]; show Y.2.1 ≤ Y.2.1 + 2; omega, by unfold wY; rw [hY2]; show 16 * (Y.2.2.1 + 2) + (Y.2.2.2 + 4 + bs.length) ≤ 16 * Y.2.2.1 + Y.2.2.2 + (36 + bs.length); omega, fun q o hq => Or.inr ?_⟩
      have := hD.2 q o hq
      rw [yu_n (by omega), yu_n (by omega), hYc, yu_n (by omega), hYb, yu_n (by omega), hYa, ya_n (by rw [hd]; omega), show (yN Y 12 4).1 q = Y.1 q from ya_n (by omega)]
      exact hq
    refine ⟨_, rfl, ⟨FXY_F hF hf (fun a ha => by cases ha), DM_u (DM_un ?_) ?_⟩, hf, yu_s, ?_⟩
    · rw [hYc, hYb]
      have h2 : Ya.2.1 = Y.2.1 + 2 := by rw [hYa]; rfl
      exact DM_u (DM_u hDa (by omega)) (by rw [yu_2]; omega)
    · rw [yu_2, hYc, yu_2, hYb, yu_2, hYa]
      show Y.2.1 < Y.2.1 + 2
      omega
    · rw [hY2]
      show Y.2.1 < Y.2.1 + 2
      omega
/-- textBetween -/
theorem txt_ok (hY : BY Y) (hT : TAP Y tp T) (hae : a + m ≤ T.length) (hn : 6002 ≤ n) : ∃ s Y1, c21 n tp (nI a) (nI (a + m)) Y = some (some s, Y1) ∧ BY Y1 ∧ FRY Y Y1 [] (52 + 2 * m) ∧ Y1.1 s = some (oS (cut T a (a + m))) ∧ Y.2.1 ≤ s ∧ s < Y1.2.1 := by
  obtain ⟨hF, hD⟩ := hY
  have h231 := hD.1
  have h6 : T.length ≤ 6000 := by obtain ⟨_, _, _, _, _, h, _⟩ := hT; exact h
  have hbyT : ∀ b ∈ T, byt b := by obtain ⟨_, _, _, _, _, _, _, h, _⟩ := hT; exact h
  have hlc : (cut T a (a + m)).length = m := by unfold cut; rw [List.length_take, List.length_drop]; omega
  obtain ⟨Ya, hYa⟩ : ∃ Ya, Ya = ya Y (oA 3 (List.replicate m (.int 0))) m := ⟨_, rfl⟩
  have hfa : FRY Y Ya [] (16 + m) := by rw [hYa]; exact FRY_a hD
  have hDa : DM Ya := by rw [hYa]; exact DM_a hD
  have hTa : TAP Ya tp T := TAP_F0 hT hfa
  have htp : tp < Y.2.1 := by obtain ⟨ba, vs, h1, _⟩ := hT; exact hD.2 tp _ h1
  have ha : Ya.1 Y.2.1 = some (oA 3 (List.replicate m (.int 0))) := by rw [hYa]; exact ya_s
  obtain ⟨Z1, e1, e2⟩ := fill_l (n := n) (x := nI (a + m)) (a := a) hTa (b := Y.2.1) (by omega) (by omega) hae n 0 (Z := Ya) (by omega) (by omega) hTa (by
    rw [ha, Nat.sub_zero]
    have : cut T a (a + 0) = [] := by unfold cut; rw [Nat.add_zero, Nat.sub_self, List.take_zero]
    rw [this]
    rfl)
  have hZ1 : Z1.1 Y.2.1 = some (oA 3 ((cut T a (a + m)).map fun x => Value.int x)) := by rw [e2, yu_s]
  have h2 : Ya.2.1 = Y.2.1 + 1 := by rw [hYa]; rfl
  have hfz : FRY Y Z1 [] (16 + m) := by
    refine ⟨by rw [e2, yu_2]; exact hfa.1, by unfold wY; rw [e2, yu_2]; exact hfa.2.1, fun q o hq => Or.inr ?_⟩
    have := hD.2 q o hq
    rw [e2, yu_n (by omega)]
    rcases hfa.2.2 q o hq with h | h
    · cases h
    · exact h
  have hBz : BY Z1 := ⟨FXY_F hF hfz (fun a ha => by cases ha), by rw [e2]; exact DM_u hDa (by omega)⟩
  obtain ⟨Y1, s1, s2, s3, s4, s5⟩ := str_ok (n := n) hBz hZ1 (fun y hy => hbyT y (List.mem_of_mem_drop (List.mem_of_mem_take hy))) (by omega) hn
  have hz2 : Z1.2.1 = Y.2.1 + 1 := by rw [e2, yu_2]; exact h2
  refine ⟨Z1.2.1, Y1, ?_, s2, FRY_M (FRY_T hfz s3) (fun _ h => h) (by rw [hlc]; omega), s4, by omega, s5⟩
  unfold c21 c22
  have hsub : nI (a + m) - nI a = nI m := by rw [nI_sub_le (by omega)]; congr 1; omega
  rw [hsub]
  have hmx : (if (0 : Int32) < nI m then some (nI m, Y) else some (0, Y)) = some (nI m, Y) := by
    by_cases q : m = 0
    · rw [q]; rfl
    · rw [if_pos (show (0 : Int32) < nI m from nI_lt (show 0 < m by omega) (by omega))]
  rw [hmx]
  dsimp only [Option.bind_some]
  rw [yA_of (by omega) (by omega)]
  dsimp only [Option.bind_some]
  rw [show zdef 3 = Value.int 0 from rfl, ← hYa, show (0 : Int32) = nI 0 from rfl, e1, s1]
  rfl
end
end ZJB

/-! THE CLASS READS: splits, rolls, serves -/
section ZJS
section
variable {n : Nat} {Y Y0 Y1 Y2 Ys Z : zY} {a b s p m e tp r q rd pl W W2 WE lo x : Nat} {S S1 F F1 F2 : List Nat} {T : List Int32} {t : Tk} {ts : List Tk} {v u : Int32} {o o' : yO} {nx nx' vv nm sa : Value} {l : Nat → Nat} {os rc sq fl c1 L : Nat} {k : Nat × List (List Int32)} {sh : List (Int32 × Int32)} {spl : List Spl}
theorem sub4 (w : Nat) : w - 300 - 300 - 300 - 300 ≤ w := by omega
theorem sv_sum_l (h : SVX Y lo x nm sa sh L) : ∀ (fu i : Nat) (acc : Int32), i ≤ sh.length → sh.length - i < fu → cf103_4 n fu x acc (nI i) Y = some ((sh.drop i).foldl (fun s z => s + z.1) acc, Y)
  | 0, i, acc, _, h => by omega
  | fu + 1, i, acc, hi, hf => by
    have h' := h
    obtain ⟨a1, a2, h1, h2, h3, h4, h5, h6, h7, h8, h9, h10, h11, h12⟩ := h'
    show cb103_4 n (cf103_4 n fu) x acc (nI i) Y = _
    unfold cb103_4
    refine bnd_eq (yI_of h1 rfl) ?_
    by_cases hz : sh.length ≤ i
    · rw [if_pos (nI_le hz (by omega)), List.drop_eq_nil_of_le hz]; rfl
    · have hlt : i < sh.length := by omega
      rw [if_neg (nI_ge hlt (by omega))]
      refine bnd_eq (yR_of (r := some a1) h1 rfl) (bnd_eq rfl (bnd_eq (yL_of h2) ?_))
      rw [svl h4, if_neg (nI_ge (by omega) (by omega))]
      refine bnd_eq (yR_of (r := some a1) h1 rfl) (bnd_eq rfl ?_)
      have hg : yaI Y a1 (nI i) = some sh[i].1 := by
        unfold yaI
        rw [yal_of h2 rfl (by omega), zg_eq, List.getElem?_append_left (by rw [List.length_map]; exact hlt), List.getElem?_map, List.getElem?_eq_getElem hlt]
        rfl
      refine bnd_eq hg ?_
      rw [nI_1, sv_sum_l h fu (i + 1) _ (by omega) (by omega), List.drop_eq_getElem_cons hlt]
      rfl
theorem sv_sum (h : SVX Y lo x nm sa sh L) (hn : 6002 ≤ n) : c103 n x Y = some (sumS sh, Y) := by
  have hl : sh.length ≤ 8 := by obtain ⟨a1, a2, h1, h2, h3, h4, h5, h6, h7, h8, h9, h10, h11, h12⟩ := h; omega
  unfold c103
  have := sv_sum_l (n := n) h n 0 0 (by omega) (by omega)
  exact this
/-- what may be written is kept, but the reader -/
def MK (rd : Nat) (Y Y1 : zY) : Prop := (∀ c o, Y.1 c = some o → mto o = true → c ≠ rd → Y1.1 c = some o) ∧ ∀ x t, RTk Y x t → RTk Y1 x t
theorem MK_R : MK rd Y Y := ⟨fun _ _ h _ _ => h, fun _ _ h => h⟩
theorem MK_T (h1 : MK rd Y Y1) (h2 : MK rd Y1 Y2) : MK rd Y Y2 := ⟨fun c o h m r => h2.1 c o (h1.1 c o h m r) m r, fun x t h => h2.2 x t (h1.2 x t h)⟩
theorem MK_f (h : FR Y Y1 [rd]) : MK rd Y Y1 := ⟨fun c o q _ r => FR_k h q (by simpa using r), fun x t q => RTk_k h.2.2 q⟩
theorem MK_s (h : SVC Y Y1) : MK rd Y Y1 := ⟨fun c o q m _ => h.2.1 c o q m, h.2.2⟩
theorem LSX_m {xs : List Nat} (h : LSX Y a xs) (hm : MK rd Y Y1) (ha : a ≠ rd) : LSX Y1 a xs := by
  obtain ⟨⟨cap, h1, h2⟩, h3⟩ := h
  exact ⟨⟨cap, hm.1 _ _ h1 rfl ha, h2⟩, h3⟩
/-- behind the shares of a split -/
def spE (w sa : List Int32) (y : List (Int32 × Int32) × List Tk) : RR (Spl × List Tk) := if (hd y.2).1 = 8 ∧ sumS y.1 ≠ 10000 then .inl (sErr 4 (hd y.2)) else rb (sEat 8 y.2) fun ts => .inr ((w, sa, y.1), ts)
theorem spe_ok {w sw : List Int32} {l1 l2 l3 : Option Nat} {l5 l6 : Int32} (h : RS rd pl W Y ts) (hf : FR Y0 Y S) (hD : DM Y0) (hr : rd ∈ S) (hX : SVX Y Y0.2.1 x nm sa sh 8) (hM : MK rd Ys Y) (hn : 6002 ≤ n) (hE : W ≤ WE + 250) : CR rd pl Y0 S W WE (cb96_154 n rd l1 l2 l3 x l5 l6 Y) (spE w sw (sh, ts)) (fun z => z.2) (fun Y1 z v => v = some x ∧ SVX Y1 Y0.2.1 x nm sa z.1.2.2 8 ∧ MK rd Ys Y1 ∧ z.1.1 = w ∧ z.1.2.1 = sw) := by
  have hs1 : ∀ a ∈ [rd], a ∈ S ∨ Y0.2.1 ≤ a := fun a h => Or.inl (by rw [List.mem_singleton.mp h]; exact hr)
  obtain ⟨a, e, nx, k1, k2, k3, k4⟩ := rdr_t h.2.1
  have fin : CR rd pl Y0 S W WE (cb96_187 n rd l1 l2 l3 x l5 l6 Y) (rb (sEat 8 ts) fun ts => .inr ((w, sw, sh), ts)) (fun z => z.2) (fun Y1 z v => v = some x ∧ SVX Y1 Y0.2.1 x nm sa z.1.2.2 8 ∧ MK rd Ys Y1 ∧ z.1.1 = w ∧ z.1.2.1 = sw) := by
    unfold cb96_187
    rw [rb_eat]
    refine CR_g (rdr_o h.2.1) ?_
    refine CR_b (tk_ok (s := 8) h (by omega) hE) hf hs1 hD ?_
    rintro ⟨t, ts'⟩ v Y1 hS1 hf1 hf01 _
    exact CR_s (s := ((w, sw, sh), ts')) (RS_le hS1 (by omega)) hf01 ⟨rfl, SVX_k hf1.2.2 hX, MK_T hM (MK_f hf1), rfl, rfl⟩
  unfold cb96_154 spE
  refine cr_hd h.2.1 (by omega) fun _ => ?_
  dsimp only
  by_cases h8 : (hd ts).1 = 8
  · rw [if_pos (decide_eq_true (by omega))]
    refine CR_g (sv_o hX) (CR_y (sv_sum hX hn) ?_)
    dsimp only
    by_cases hs : sumS sh = 10000
    · rw [if_pos hs, if_neg (fun q => q.2 hs)]
      exact fin
    · rw [if_neg hs, if_pos ⟨h8, hs⟩]
      exact CR_y k1 (CR_g (rdr_o h.2.1) (cr_ref h.1 h.2.1 k2 hf hr hD (by have := h.2.2; omega)))
  · rw [if_neg (by rw [decide_eq_false (by omega)]; decide), if_neg (fun q => h8 q.1)]
    exact fin
/-- the shares of a split -/
theorem shl_ok {w sw : List Int32} {l2 l3 : Option Nat} (hK : KN Y0 fl c1 k) (hfl : fl ∉ S) (hc1 : c1 ∉ S) (hD : DM Y0) (hr : rd ∈ S) (hn : 6002 ≤ n) (hE : W ≤ WE + 250) : ∀ (fu i : Nat) {Y : zY} {ts : List Tk} {sh : List (Int32 × Int32)}, i ≤ 8 → 10 - i < fu → sh.length = i → RS rd pl W Y ts → FR Y0 Y S → SVX Y Y0.2.1 x nm sa sh 8 → MK rd Ys Y → CR rd pl Y0 S W WE (cf96_72 n fu rd (some fl) l2 l3 x 1 (nI i) Y) (rb (sShL k (9 - i) sh ts) (spE w sw)) (fun z => z.2) (fun Y1 z v => v = some x ∧ SVX Y1 Y0.2.1 x nm sa z.1.2.2 8 ∧ MK rd Ys Y1 ∧ z.1.1 = w ∧ z.1.2.1 = sw)
  | 0, i, Y, ts, sh, _, h, _, _, _, _, _ => by omega
  | fu + 1, i, Y, ts, sh, hi, hfu, hsh, h, hf, hX, hM => by
    have hs1 : ∀ a ∈ [rd], a ∈ S ∨ Y0.2.1 ≤ a := fun a h => Or.inl (by rw [List.mem_singleton.mp h]; exact hr)
    have hW := h.2.2
    have hlt := rdr_len h.2.1
    show CR rd pl Y0 S W WE (cb96_72 n (cf96_72 n fu) rd (some fl) l2 l3 x 1 (nI i) Y) _ _ _
    unfold cb96_72
    rw [if_neg (show ¬ (8 : Int32) < nI i by rw [show (8 : Int32) = nI 8 from rfl, nI_ltI (by omega) (by omega)]; omega), if_neg (show ¬ (1 : Int32) = 0 by decide)]
    rw [show 9 - i = (8 - i) + 1 by omega]
    unfold sShL
    rw [rb_assoc]
    refine CR_g (sv_o hX) (CR_y (sv_len hX) (CR_g (rdr_o h.2.1) ?_))
    dsimp only
    refine CR_b (sr_ok (full := decide (8 ≤ sh.length)) rfl h hE) hf hs1 hD ?_
    rintro ⟨_, ts1⟩ u1 Y1 hS1 hf1 hf01 ⟨rfl, a2, a3, a4⟩
    dsimp only at hS1 a2 a3 ⊢
    have hX1 := SVX_k hf1.2.2 hX
    rw [rb_assoc, rb_eat]
    refine CR_g (rdr_o hS1.2.1) ?_
    refine CR_b (tk_ok (s := 11) hS1 (by omega) (by omega)) hf01 hs1 hD ?_
    rintro ⟨t2, ts2⟩ v Y2 hS2 hf2 hf02 ⟨_, _, _, rfl, _, _, _, b1, b2⟩
    dsimp only at hS2 b1 b2 ⊢
    have hX2 := SVX_k hf2.2.2 hX1
    rw [rb_assoc]
    refine CR_g (rdr_o hS2.2.1) ?_
    refine CR_b (vl_ok hS2 (KN_k hK hf02 hfl hc1) hn (by omega)) hf02 hs1 hD ?_
    rintro ⟨_, ts3⟩ v3 Y3 hS3 hf3 hf03 ⟨rfl, d1, d2⟩
    dsimp only at hS3 d1 d2 ⊢
    have hX3 := SVX_k hf3.2.2 hX2
    have hM3 : MK rd Ys Y3 := MK_T hM (MK_T (MK_f hf1) (MK_T (MK_f hf2) (MK_f hf3)))
    refine CR_g (sv_o hX3) ?_
    -- it was not full
    have hl8 : sh.length < 8 := by have := of_decide_eq_false a4; omega
    obtain ⟨Y4, e1, e2, e3, e4, e5⟩ := sv_add (n := n) (p1 := u1) (v1 := v3) hS3 hf03 hD hX3 hl8
    have hM4 : MK rd Ys Y4 := MK_T hM3 (MK_s e5)
    refine CR_y e1 ?_
    dsimp only
    refine cr_hd e2.2.1 (by omega) fun _ => ?_
    have hE4 : W - 300 - 300 - 300 ≤ WE + 250 := by omega
    by_cases h10 : (hd ts3).1 = 10
    · rw [if_pos (decide_eq_true (by omega)), if_pos h10]
      unfold cb96_133
      rw [if_neg (show ¬ (1 : Int32) = 0 by decide)]
      refine CR_g (rdr_o e2.2.1) ?_
      have ht := tk_any (n := n) e2 (by omega) hE4
      rw [h10] at ht
      refine CR_i ht e3 hs1 hD ?_
      rintro v Y5 hS5 hf5 hf05 ⟨q, e, nx, rfl, q2, q3, q4, q5⟩
      dsimp only at hS5 q2 q3 q4 q5
      unfold cb96_148
      rw [nI_1, show 8 - i = 9 - (i + 1) by omega]
      exact shl_ok hK hfl hc1 hD hr hn hE fu (i + 1) (by omega) (by omega) (by rw [List.length_append, hsh]; rfl) (RS_le hS5 (sub4 W)) hf05 (SVX_k hf5.2.2 e4) (MK_T hM4 (MK_f hf5))
    · rw [if_neg (by rw [decide_eq_false (by omega)]; decide), if_neg h10, rb_inr]
      unfold cb96_133
      rw [if_pos (show (0 : Int32) = 0 from rfl)]
      unfold cb96_148
      obtain ⟨fu', rfl⟩ : ∃ fu', fu = fu' + 1 := ⟨fu - 1, by omega⟩
      rw [nI_1]
      show CR rd pl Y0 S W WE (cb96_72 n (cf96_72 n fu') rd (some fl) l2 l3 x 0 (nI (i + 1)) Y4) _ _ _
      unfold cb96_72
      rw [if_neg (show ¬ (8 : Int32) < nI (i + 1) by rw [show (8 : Int32) = nI 8 from rfl, nI_ltI (by omega) (by omega)]; omega), if_pos (show (0 : Int32) = 0 from rfl)]
      exact spe_ok (RS_le e2 (by omega)) e3 hD hr e4 hM4 hn hE
end
end ZJS

/-! THE REFERENCE LOADS -/
section ZLD
/-- bank b holds what was loaded -/
def LDX (X : zX) (b : Nat) (L : Ldd) : Prop := (∃ D nv cb, RP (xF X 4 (nI b)) b L.1 D nv cb ∧ nv ≤ 240) ∧ NR X b L.2.1 ∧ NX X b 0 L.2.1 ∧ L.2.1.length = L.1.2.1.length ∧ L.2.2.length = L.1.2.1.length ∧ ∀ (i x : Nat), L.2.2[i]? = some x → x < L.1.2.1.length ∧ cv X 59 (24 * b + i) = nI x
section
variable {n : Nat} {X X1 X2 : zX} {b nv cb : Nat} {N : List (List (Nat × Int32))} {P : Pln} {D : List Pd} {T : List Int32} {fk : Int32} {ts : List Tk}
theorem NR_of (h : RP X b P D nv cb) (hs : sSetN P = .inr N) (hx : NX X b 0 N) : NR X b N ∧ NPl X b P N ∧ ∀ (f : Nat) (l : List (Nat × Int32)), N[f]? = some l → ∀ x ∈ l, x.1 ≠ f := by
  obtain ⟨s1, s2⟩ := sSetN_r hs
  obtain ⟨c1, c2, c3, _⟩ := RP_b h
  have hfl := h.2.1.2.1
  have hF : ∀ (f : Nat) (l : List (Nat × Int32)), N[f]? = some l → ∃ F, P.2.1[f]? = some F ∧ P.2.1.getD f fl0 = F ∧ l.length = F.2.2.1.length := by
    intro f l hl
    have hlt : f < P.2.1.length := by have := lt_of_get hl; omega
    have hg := getD_get (d := fl0) hlt
    exact ⟨_, hg, rfl, (s2 f l hl).1⟩
  refine ⟨⟨c1, c3, by rw [h.2.1.1, s1], by omega, ?_, fun f l hl => ?_⟩, fun f l hl k hk => ?_, fun f l hl x hx => ((s2 f l hl).2 x hx).1⟩
  · intro l hl x hx
    obtain ⟨f, hf⟩ := List.mem_iff_getElem?.mp hl
    rw [s1]
    exact ((s2 f l hf).2 x hx).2
  · obtain ⟨F, f1, f2, f3⟩ := hF f l hl
    obtain ⟨n1, n2, n3⟩ := (h.2.1.2.2 f F f1).2.2.1
    refine ⟨by rw [n1, f3], by omega, fun k x hk => ?_⟩
    have := (hx f l hl k x hk).1
    rw [Nat.zero_add, Nat.zero_add] at this
    exact this
  · obtain ⟨F, f1, f2, f3⟩ := hF f l hl
    obtain ⟨n1, n2, n3⟩ := (h.2.1.2.2 f F f1).2.2.1
    have hw : F.2.2.1[k]? = some (F.2.2.1.getD k (tk0, tk0)) := getD_get (by omega)
    obtain ⟨r1, r2, r3, r4, r5, _⟩ := n3 k _ hw
    unfold tkN
    rw [f2]
    exact ⟨r5, r1, r2⟩
/-- readAll -/
theorem rall_ok (hL : LN X) (h4 : X.1 4 = nI b) (hb : b ≤ 1) (hT : TP X T) (hn : 6002 ≤ n) : ∃ X1, g189 n X = some ((), X1) ∧ match sLoad T with
    | .inl e => RI X1 T 0 (.inl e)
    | .inr L => X1.1 73 = -1 ∧ X1.1 64 = 0 ∧ X1.1 4 = nI b ∧ LDX X1 b L := by
  obtain ⟨X0, i1, i2, i3⟩ := init_ok hL h4 hb hT hn
  obtain ⟨X1, e1, e2⟩ := lp119 (n := n) (b := b) hn 6000 n pl0 (tks T) (X := X0) (by show 47 ≤ 0 + 0 + 0 + 6000; omega) (by show 47 ≤ 0 + 0 + 0 + n; omega) i2 i3
  rw [i1, e1]
  have h207F : ∀ {Y : zX} {e : Er}, RI Y T 0 (.inl e) → gb189_207 n Y = some ((), Y) := fun h => by unfold gb189_207; rw [if_neg (ri_flt h)]
  have hF : ∀ {Y : zX} {e : Er}, RI Y T 0 (.inl e) → gb189_195 n Y = some ((), Y) := fun h => by unfold gb189_195; rw [if_neg (ri_flt h)]; exact h207F h
  unfold sLoad
  have e2 : PO (fun x : Pln × List Tk => x.2) X1 T 0 (TxQ X1 b) (sTxtL 6000 ([], [], [], [], [], [], 0) (tks T)) := e2
  cases hs : sTxtL 6000 ([], [], [], [], [], [], 0) (tks T) with
  | inl e =>
    rw [hs] at e2
    exact ⟨X1, hF e2, e2⟩
  | inr x =>
    rw [hs] at e2
    obtain ⟨h0, hbd⟩ := sTxtL_end 6000 _ _ ⟨by show 0 ≤ 12; omega, by show 0 ≤ 24; omega, by show 0 ≤ 8; omega⟩ (by show 45 ≤ 6000 + (0 + 0 + 0); omega) hs
    have hwf := sTxtL_wf 6000 _ _ PWF_0 hs
    have hb1 : (hd x.2).1 ≠ 1 := by omega
    have e2 : if (hd x.2).1 = 1 then _ else RI X1 T 0 (.inr x.2) ∧ TxQ X1 b x := e2
    rw [if_neg hb1] at e2
    obtain ⟨hR, D, nv, hP, hv⟩ := e2
    rw [rb_inr]
    have hl := lan_ok (n := n) hwf.1 hP hR hb1 hn
    have e195 : gb189_195 n X1 = (g237 n X1).bind fun p2 => gb189_207 n p2.2 := by unfold gb189_195; rw [if_pos (ri_hd hR hb1).1]
    rw [e195]
    cases hN : sSetN x.1 with
    | inl e =>
      rw [hN] at hl
      obtain ⟨X2, l1, l2⟩ := hl
      rw [l1]
      exact ⟨X2, h207F l2, l2⟩
    | inr N =>
      rw [hN] at hl
      obtain ⟨l1, l2, X2, l3, l4, l5⟩ := hl
      rw [l3, rb_inr]
      dsimp only [Option.bind_some]
      have hP2 := NkP_RP hP l4
      have hR2 := NkP_RI hR l4
      obtain ⟨c1, c2, c3, _⟩ := RP_b hP2
      obtain ⟨r1, r2, r3⟩ := NR_of hP2 hN l5
      have hr := rng_ok (n := n) r1 c2 r3 r2 hR2 hb1 hn
      have e207 : gb189_207 n X2 = (g239 n X2).bind fun p2 => some ((), p2.2) := by unfold gb189_207; rw [if_pos (ri_hd hR2 hb1).1]
      rw [e207]
      cases hg : sRing x.1 N with
      | inl e =>
        rw [hg] at hr
        obtain ⟨X3, k1, k2⟩ := hr
        rw [k1]
        exact ⟨X3, rfl, k2⟩
      | inr u =>
        rw [hg] at hr
        obtain ⟨X3, k1, ⟨k2, k3, k4⟩, k5, k6⟩ := hr
        rw [k1, rb_inr]
        obtain ⟨a1, a2, _⟩ := ri_hd hR2 hb1
        have hP3 : RP X3 b x.1 D nv _ := RP_same hP2 (fun i _ h2 _ _ => k4 i (by omega) (by omega)) k2 (by rw [k3])
        refine ⟨X3, rfl, by rw [k3]; exact a1, by rw [k3]; exact a2, by rw [k3]; exact c2, ⟨D, nv, _, RP_arr (X1 := xF X3 4 (nI b)) hP3 rfl ?_, by have := RB_nv (e0 := 0) hP hv (by omega); omega⟩, ?_, ?_, l1, by show (seqL N N.length []).length = _; rw [k5, l1], ?_⟩
        · rw [xF_1, if_pos rfl, k3]; exact c2.symm
        · obtain ⟨q1, q2, q3, q4, q5, q6⟩ := r1
          have e : ∀ i j, i ≠ 59 → i ≠ 62 → cv X3 i j = cv X2 i j := fun i j h1 h2 => cv_of (k4 i h1 h2)
          exact ⟨k2, q2, by rw [e 9 _ (by decide) (by decide)]; exact q3, q4, q5, fun f l hl => ⟨by rw [e 16 _ (by decide) (by decide)]; exact (q6 f l hl).1, (q6 f l hl).2.1, fun k y hy => by rw [e 19 _ (by decide) (by decide)]; exact (q6 f l hl).2.2 k y hy⟩⟩
        · intro i l hl k y hy
          have := l5 i l hl k y hy
          rw [cv_of (k4 19 (by decide) (by decide)), cv_of (k4 24 (by decide) (by decide))]
          exact this
        · intro i y hy
          rw [← l1]
          exact k6 i y hy
/-- load -/
theorem load_ok (hL : LN X) (h4 : X.1 4 = nI b) (hb : b ≤ 1) (hT : TP X T) (hn : 6002 ≤ n) : match sLoad T with
    | .inl e => ∃ X1, g188 n X = some (-1 - nI e.2, X1) ∧ X1.1 64 = e.1 ∧ X1.1 3 = X.1 3 ∧ X1.1 4 = nI b ∧ X1.1 2 = 0 ∧ X1.1 85 = X.1 85 ∧ X1.1 0 = 0
    | .inr L => ∃ X1, g188 n X = some (nI L.1.2.1.length, X1) ∧ X1.1 64 = 0 ∧ X1.1 3 = nI b ∧ X1.1 4 = 1 - nI b ∧ X1.1 2 = 0 ∧ X1.1 85 = 0 ∧ X1.1 0 = 0 ∧ LDX X1 b L := by
  obtain ⟨X1, e1, e2⟩ := rall_ok (n := n) (X := xF X 0 0) hL (by rw [xF_1, if_neg (by decide)]; exact h4) hb (TP_xF hT (by decide)) hn
  have hw := w189 e1
  have e188 : g188 n X = (let X5 := xF X1 2 0; if (X5.1 73) = (-1) then
      zlet (xF X5 3 (X5.1 4)) fun X8 =>
      zlet (xF X8 4 (1 - (X8.1 4))) fun X10 =>
      zlet (xF X10 85 0) fun X12 =>
      (rd (X12.2.2 9) (X12.1 3)).bind fun x15 =>
      some (x15, X12)
    else
      some (((-1) - (X5.1 73)), X5)) := by
    unfold g188
    show ((g189 n (xF X 0 0)).bind fun p3 => zlet (xF p3.2 2 0) _) = _
    rw [e1]
    rfl
  have f3 : X1.1 3 = X.1 3 := by rw [hw.1 3 rfl, xF_1, if_neg (by decide)]
  have f4 : X1.1 4 = nI b := by rw [hw.1 4 rfl, xF_1, if_neg (by decide)]; exact h4
  have f85 : X1.1 85 = X.1 85 := by rw [hw.1 85 rfl, xF_1, if_neg (by decide)]
  have f0 : X1.1 0 = 0 := by rw [hw.1 0 rfl, xF_1, if_pos rfl]
  rw [e188]
  cases hs : sLoad T with
  | inl e =>
    rw [hs] at e2
    obtain ⟨_, _, r1, r2, r3⟩ := e2
    refine ⟨xF X1 2 0, ?_, by rw [xF_1, if_neg (by decide)]; exact r2, by rw [xF_1, if_neg (by decide)]; exact f3, by rw [xF_1, if_neg (by decide)]; exact f4, by rw [xF_1, if_pos rfl], by rw [xF_1, if_neg (by decide)]; exact f85, by rw [xF_1, if_neg (by decide)]; exact f0⟩
    show (if (xF X1 2 0).1 73 = -1 then _ else some (((-1) - ((xF X1 2 0).1 73)), xF X1 2 0)) = _
    rw [xF_1, if_neg (show ¬ 73 = 2 by decide), r1, if_neg (nI_m1 r3)]
  | inr L =>
    rw [hs] at e2
    obtain ⟨r1, r2, r3, r4⟩ := e2
    obtain ⟨⟨D, nv, cb, q1, q0⟩, q2, q3, q4, q5, q6⟩ := r4
    refine ⟨xF (xF (xF (xF X1 2 0) 3 (nI b)) 4 (1 - nI b)) 85 0, ?_, ?_, ?_, ?_, ?_, ?_, ?_, ⟨D, nv, cb, RP_arr q1 rfl ?_, q0⟩, q2, q3, q4, q5, q6⟩
    · show (if (xF X1 2 0).1 73 = -1 then _ else _) = _
      rw [xF_1, if_neg (show ¬ 73 = 2 by decide), r1, if_pos rfl]
      show (rd (X1.2.2 9) ((xF (xF (xF (xF X1 2 0) 3 ((xF X1 2 0).1 4)) 4 (1 - ((xF (xF X1 2 0) 3 ((xF X1 2 0).1 4)).1 4))) 85 0).1 3)).bind (fun x15 => some (x15, xF (xF (xF (xF X1 2 0) 3 ((xF X1 2 0).1 4)) 4 (1 - ((xF (xF X1 2 0) 3 ((xF X1 2 0).1 4)).1 4))) 85 0)) = _
      have a1 : (xF X1 2 0).1 4 = nI b := by rw [xF_1, if_neg (by decide)]; exact f4
      have a2 : (xF (xF X1 2 0) 3 (nI b)).1 4 = nI b := by rw [xF_1, if_neg (by decide)]; exact a1
      rw [a1, a2]
      have a3 : (xF (xF (xF (xF X1 2 0) 3 (nI b)) 4 (1 - nI b)) 85 0).1 3 = nI b := by rw [xF_1, if_neg (by decide), xF_1, if_neg (by decide), xF_1, if_pos rfl]
      rw [a3, rd_cv q2.1 (by decide) (by show _ < 2; omega) (by omega), q2.2.2.1, q4]
      rfl
    · rw [xF_1, if_neg (by decide), xF_1, if_neg (by decide), xF_1, if_neg (by decide), xF_1, if_neg (by decide)]; exact r2
    · rw [xF_1, if_neg (by decide), xF_1, if_neg (by decide), xF_1, if_pos rfl]
    · rw [xF_1, if_neg (by decide), xF_1, if_pos rfl]
    · rw [xF_1, if_neg (by decide), xF_1, if_neg (by decide), xF_1, if_neg (by decide), xF_1, if_pos rfl]
    · rw [xF_1, if_pos rfl]
    · rw [xF_1, if_neg (by decide), xF_1, if_neg (by decide), xF_1, if_neg (by decide), xF_1, if_neg (by decide)]; exact f0
    · rw [xF_1, if_pos rfl, xF_1, if_pos rfl]
end
end ZLD

/-! THE CLASS JUDGES: a plan that stays; segments, rules -/
section ZKR
/-- what a plan's own cells are -/
def pk (o : yO) : Bool := match o with
  | .inl (c, _) => Nat.beq c 0 || Nat.beq c 2 || Nat.beq c 4
  | .inr (.inl (t, vs)) => (Nat.beq t 0 && Nat.beq vs.length 4) || Nat.beq t 12
  | .inr (.inr (.inl _)) => true
  | .inr (.inr (.inr _)) => true
def KPY (rc sq : Nat) (Y Y1 : zY) : Prop := Y.2.1 ≤ Y1.2.1 ∧ IMK Y Y1 ∧ (∀ a o, Y.1 a = some o → pk o = true → Y1.1 a = some o) ∧ (∀ o, Y.1 rc = some o → Y1.1 rc = some o) ∧ ∀ o, Y.1 sq = some o → Y1.1 sq = some o
section
variable {n : Nat} {Y Y0 Y1 Y2 : zY} {a b jd k pl rc sq fl ly sa i x f fr er kd st : Nat} {S : List Nat} {K : KL} {vI vI' vW vW' vY vY' vs vs' v4 v5 : List Value} {A : Nat → Nat} {ans ans' off : Int32} {bs : List Bool} {spl : List Spl} {l : Nat → Nat} {xs X : Nat → List Nat} {bd : Nat → Nat} {P : Pln} {L : Ldd} {N : List (List (Nat × Int32))} {o : yO} {g : Flg} {ns : List (Nat × Int32)}
theorem KPY_of (hf : FR Y Y1 S) (hS : ∀ a ∈ S, a ≠ rc ∧ a ≠ sq ∧ ∀ o, Y.1 a = some o → pk o = false) : KPY rc sq Y Y1 := by
  refine ⟨hf.1, hf.2.2, fun a o h hp => ?_, fun o h => ?_, fun o h => ?_⟩
  · rcases hf.2.1 a o h with d | d
    · have := (hS a d).2.2 o h
      rw [hp] at this; cases this
    · exact d
  · rcases hf.2.1 rc o h with d | d
    · exact absurd rfl (hS rc d).1
    · exact d
  · rcases hf.2.1 sq o h with d | d
    · exact absurd rfl (hS sq d).2.1
    · exact d
theorem KPY_R : KPY rc sq Y Y := ⟨Nat.le_refl _, IMK_R, fun _ _ h _ => h, fun _ h => h, fun _ h => h⟩
theorem KPY_T (h1 : KPY rc sq Y Y1) (h2 : KPY rc sq Y1 Y2) : KPY rc sq Y Y2 := ⟨Nat.le_trans h1.1 h2.1, IMK_T h1.2.1 h2.2.1, fun a o h q => h2.2.2.1 a o (h1.2.2.1 a o h q) q, fun o h => h2.2.2.2.1 o (h1.2.2.2.1 o h), fun o h => h2.2.2.2.2 o (h1.2.2.2.2 o h)⟩
theorem LSX_p {ys : List Nat} (h : LSX Y a ys) (hk : KPY rc sq Y Y1) : LSX Y1 a ys := by
  obtain ⟨⟨cap, x1, x2⟩, x3⟩ := h
  exact ⟨⟨cap, hk.2.2.1 _ _ x1 rfl, x2⟩, x3⟩
theorem pk_4 (h : vs.length = 4) : pk (oA 0 vs) = true := by
  show (Nat.beq 0 0 && Nat.beq vs.length 4 || Nat.beq 0 12) = true
  rw [h]
  rfl
theorem FLX_p (h : FLX Y fl A kd st off fr er X v4 v5) (h4 : v4.length = 4) (h5 : v5.length = 4) (hk : KPY rc sq Y Y1) : FLX Y1 fl A kd st off fr er X v4 v5 := by
  obtain ⟨g1, g2, g3, g4, g5, g6, g7, g8, g9⟩ := h
  exact ⟨hk.2.2.1 _ _ g1 rfl, g2, fun j a b => LSX_p (g3 j a b) hk, g4, g5, g6, hk.2.2.1 _ _ g7 (pk_4 h4), hk.2.2.1 _ _ g8 (pk_4 h5), g9⟩
theorem PLK_p {fn ln : List (List Int32)} (h : PLK Y pl l rc sq P xs fn ln) (hk : KPY rc sq Y Y1) : PLK Y1 pl l rc sq P xs fn ln :=
  ⟨⟨hk.2.2.1 _ _ h.1.1 rfl, h.1.2⟩, ⟨fun j hj => LSX_p (h.2.1.1 j hj) hk, h.2.1.2⟩, SEM_k hk.2.1 h.2.2.1, h.2.2.2⟩
theorem PLN_p (h : PLN Y pl l rc sq bd P xs) (hk : KPY rc sq Y Y1) : PLN Y1 pl l rc sq bd P xs := by
  obtain ⟨g1, g2, g3, g4, ⟨vr, g5, g5'⟩, ⟨vs, g6, g6'⟩, g7, g8, g9, g10, g11, g12, g13⟩ := h
  refine ⟨PLK_p g1 hk, ⟨g2.1, ?_⟩, ⟨g3.1, ?_⟩, g4, ⟨vr, hk.2.2.2.1 _ g5, g5'⟩, ⟨vs, hk.2.2.2.2 _ g6, g6'⟩, g7, g8, g9, g10, g11, g12, Nat.le_trans g13 hk.1⟩
  · intro i fl g q1 q2
    obtain ⟨A, kd, st, fr, er, X, v4, v5, h1, h2, h3, h4, h5, h6⟩ := g2.2 i fl g q1 q2
    refine ⟨A, kd, st, fr, er, X, v4, v5, FLX_p h1 h2 h3 hk, h2, h3, ?_, h5, h6⟩
    have := FLm_k (more := []) h4 hk.2.1
    rw [List.append_nil] at this
    exact this
  · intro i ly y q1 q2
    obtain ⟨fr, er, ob, sa, ws, h1, h2, h3⟩ := g3.2 i ly y q1 q2
    refine ⟨fr, er, ob, sa, ws, ⟨hk.2.2.1 _ _ h1.1 rfl, hk.2.2.1 _ _ h1.2.1 rfl, h1.2.2⟩, ?_, h3⟩
    have := LYm_k (more := []) (its := []) h2 hk.2.1 (fun I hI => by cases hI)
    rw [List.append_nil, List.append_nil] at this
    exact this
theorem STL_p (h : STL Y pl l rc sq bd P xs N) (hk : KPY rc sq Y Y1) : STL Y1 pl l rc sq bd P xs N := by
  refine ⟨PLN_p h.1 hk, fun j fl ns h1 h2 => ?_⟩
  obtain ⟨A, kd, st, off, fr, er, X, v4, v5, k1, k2, k3, k4⟩ := h.2 j fl ns h1 h2
  exact ⟨A, kd, st, off, fr, er, X, v4, v5, FLX_p k1 k2 k3 hk, k2, k3, k4⟩
theorem LDP_p (h : LDP Y pl l rc sq bd xs L) (hk : KPY rc sq Y Y1) : LDP Y1 pl l rc sq bd xs L := by
  obtain ⟨g1, g2, ⟨vr, g3, g4⟩, ⟨vs, g5, g6⟩⟩ := h
  exact ⟨STL_p g1 hk, g2, ⟨vr, hk.2.2.2.1 _ g3, g4⟩, ⟨vs, hk.2.2.2.2 _ g5, g6⟩⟩
/-- the judge keeps the plan -/
theorem JF_p (h : JDG Y jd A K vI vW vY ans) (h1 : A 4 ≠ rc) (h2 : A 4 ≠ sq) (hr : ∃ vr, Y.1 rc = some (oA 0 vr) ∧ vr.length = 24) (hs : ∃ vr, Y.1 sq = some (oA 0 vr) ∧ vr.length = 24) (hf : JF jd A Y Y1) : KPY rc sq Y Y1 := by
  obtain ⟨g1, g2, ⟨v0, v1, k1, k2, k3⟩, g4, g5, g6, g7, g8, g9, g10, g11, g12, g13, g14, g15⟩ := h
  obtain ⟨vr, r1, r2⟩ := hr
  obtain ⟨vs, s1, s2⟩ := hs
  refine KPY_of hf.2.1 (fun a ha => ?_)
  simp only [List.mem_cons, List.mem_nil_iff, or_false] at ha
  rcases ha with rfl | rfl | rfl | rfl
  · exact ⟨oBA_ne g1 r1, oBA_ne g1 s1, fun o h => by rw [g1] at h; cases h; rfl⟩
  · exact ⟨arr_ne g7 r1 (Or.inl (by decide)), arr_ne g7 s1 (Or.inl (by decide)), fun o h => by rw [g7] at h; cases h; rfl⟩
  · refine ⟨h1, h2, fun o h => ?_⟩
    rw [g10] at h; cases h
    show (Nat.beq 0 0 && Nat.beq vW.length 4 || Nat.beq 0 12) = false
    rw [g11]
    rfl
  · refine ⟨arr_ne g13 r1 (Or.inr (by omega)), arr_ne g13 s1 (Or.inr (by omega)), fun o h => ?_⟩
    rw [g13] at h; cases h
    show (Nat.beq 0 0 && Nat.beq vY.length 4 || Nat.beq 0 12) = false
    rw [g14]
    rfl
/-- what a judgement is about -/
def JCX (Y : zY) (jd : Nat) (A : Nat → Nat) (K : KL) (vI vW vY : List Value) (ans : Int32) (pl : Nat) (l : Nat → Nat) (rc sq : Nat) (bd : Nat → Nat) (xs : Nat → List Nat) (L : Ldd) : Prop := BY Y ∧ JDG Y jd A K vI vW vY ans ∧ LDP Y pl l rc sq bd xs L ∧ A 4 ≠ rc ∧ A 4 ≠ sq
theorem JCX_k (h : JCX Y jd A K vI vW vY ans pl l rc sq bd xs L) (hj : JDG Y1 jd A K vI' vW' vY' ans') (hf : JF jd A Y Y1) : JCX Y1 jd A K vI' vW' vY' ans' pl l rc sq bd xs L := by
  obtain ⟨g1, g2, g3, g4, g5⟩ := h
  obtain ⟨_, _, _, _, p5, p6, _⟩ := g3.1.1
  exact ⟨hf.1, hj, LDP_p g3 (JF_p g2 g4 g5 p5 p6 hf), g4, g5⟩
theorem b2_n {v : Bool} : narrow .boolean (.int (b2 v)) = .int (b2 v) := by cases v <;> decide
/-- lookAtSegments -/
theorem sgs_l (hD : PDp L.1) (hn : 6002 ≤ n) : ∀ (fu i : Nat) {Y : zY} {vI : List Value} {bs acc : List Bool}, i ≤ L.1.1.length → L.1.1.length - i < fu → Y.2.1 + 2 ≤ n → JCX Y jd A K vI vW vY ans pl l rc sq bd xs L → bs.length = 12 → INc vI bs → acc.length = i → (∀ j, j < i → bs.getD j false = acc.getD j false) → ∃ vI' bs', cf149_2 n fu jd (some pl) (nI i) Y = some ((), yu Y (A 3) (some (oA 2 vI'))) ∧ vI'.length = 12 ∧ bs'.length = 12 ∧ INc vI' bs' ∧ ∀ j, j < L.1.1.length → bs'.getD j false = (insL K (L.1.1.drop i) acc).getD j false
  | 0, i, Y, vI, bs, acc, _, hf, _, _, _, _, _, _ => by omega
  | fu + 1, i, Y, vI, bs, acc, hi, hf, hN, hJ, hb, hI, ha, hj => by
    obtain ⟨hB, hJD, hL, n1, n2⟩ := id hJ
    have hP := hL.1.1.1
    have h12 := hP.2.2.2.1
    have hx3 := hP.2.1.1 3 (by omega)
    have hA3 := hP.2.2.1.2.1
    have hlen : (xs 3).length = L.1.1.length := by rw [AL_len hA3, List.length_map]
    show ∃ vI' bs', cb149_2 n (cf149_2 n fu) jd (some pl) (nI i) Y = _ ∧ _
    unfold cb149_2
    have hpl := hP.1.1
    obtain ⟨g1, g2, _, _, _, _, g7, g8, g9, _⟩ := id hJD
    by_cases hz : L.1.1.length ≤ i
    · refine ⟨vI, bs, ?_, g8, hb, hI, fun j hjl => ?_⟩
      · refine bnd_eq rfl (bnd_eq (yR_of (r := some (l 3)) hpl rfl) (bnd_eq rfl (zgd_eq (lsx_o hx3) (bnd_eq (lsx_n hx3) ?_))))
        rw [hlen, if_pos (nI_le hz (by omega)), yu_id g7]
      · rw [List.drop_eq_nil_of_le hz]
        exact hj j (by omega)
    · have hlt : i < L.1.1.length := by omega
      obtain ⟨sg, hsg⟩ : ∃ sg, L.1.1[i]? = some sg := ⟨_, List.getElem?_eq_getElem hlt⟩
      obtain ⟨x, hx, F, hF⟩ := AL_get (i := i) (y := sg.2) hA3 (by rw [List.getElem?_map, hsg]; rfl)
      have hh := hld_ok (n := n) (bs := bs) hJD hI hB.1 hB.2 hn hN 43 (k := 64) (d := 0) hF (by omega) (by omega)
      have hdep : sg.2 (K, bs) = sg.2 (K, acc) := hD.1 i sg hsg K bs acc hj
      have hcell : ∃ fs, Y.1 x = some (oB 3 fs) := by
        obtain ⟨s, nm, on, sgm, fi, F', _, _, _, c1, _⟩ := hF
        exact ⟨_, c1⟩
      obtain ⟨fs, hcell⟩ := hcell
      have hyk : ykC Y (some x) 3 0 = true := by
        unfold ykC
        dsimp only
        rw [hcell]
        rfl
      have hvi : zg vI i = some (.int (b2 (bs.getD i false))) := by rw [zg_eq]; exact hI i (by omega)
      have hset := yS_of (ok := zsB) (v := .int (b2 (sg.2 (K, acc)))) (y := .int (b2 (sg.2 (K, acc)))) (j := i) g7 g9 (by show some (narrow .boolean (.int (b2 (sg.2 (K, acc))))) = _; rw [b2_n]) (by omega) hvi
      obtain ⟨hJ1, hF1⟩ := JDG_i (vI' := zs vI i (.int (b2 (sg.2 (K, acc))))) hB hJD (by rw [zs_length]; exact g8)
      obtain ⟨vI2, bs2, e1, e2, e3, e4, e5⟩ := sgs_l hD hn fu (i + 1) (Y := yu Y (A 3) (some (oA 2 (zs vI i (.int (b2 (sg.2 (K, acc)))))))) (bs := bs.set i (sg.2 (K, acc))) (acc := acc ++ [sg.2 (K, acc)]) (by omega) (by omega) hN (JCX_k hJ hJ1 hF1) (by rw [List.length_set]; exact hb) (fun j hj12 => by
        rw [← zg_eq, getD_set (by omega)]
        by_cases q : j = i
        · rw [if_pos q, q, zg_zs_eq (by omega)]
        · rw [if_neg q, zg_zs_ne (fun e => q e.symm), zg_eq]
          exact hI j hj12) (by rw [List.length_append, ha]; rfl) (fun j hjs => by
        rw [getD_set (by omega), app_getD, ha]
        by_cases q : j = i
        · rw [if_pos q, if_pos q]
        · rw [if_neg q, if_neg q]
          exact hj j (by omega))
      refine ⟨vI2, bs2, ?_, e2, e3, e4, fun j hjl => ?_⟩
      · refine bnd_eq rfl (bnd_eq (yR_of (r := some (l 3)) hpl rfl) (bnd_eq rfl (zgd_eq (lsx_o hx3) (bnd_eq (lsx_n hx3) ?_))))
        rw [hlen, if_neg (nI_ge hlt (by omega))]
        refine bnd_eq (yR_of (r := some (A 3)) g1 rfl) (bnd_eq rfl (bnd_eq (yL_of g7) ?_))
        rw [g8, if_neg (nI_ge (show i < 12 by omega) (by omega))]
        refine bnd_eq (yR_of (r := some (A 3)) g1 rfl) (bnd_eq (yR_of (r := some (l 3)) hpl rfl) (bnd_eq rfl (zgd_eq (lsx_o hx3) (bnd_eq (lsx_g hx3 hx (by omega)) (zgd_eq hyk (zgd_eq (jd_o hJD) ?_))))))
        refine bnd_eq hh (bnd_eq rfl ?_)
        dsimp only
        rw [hdep]
        refine bnd_eq hset ?_
        rw [nI_1, e1, yu_yu]
      · rw [e5 j hjl, drop_get hsg]
        rfl
/-- who is in which segments, as it was worked out -/
def INw (vI : List Value) (bs : List Bool) (K : KL) (P : Pln) : Prop := bs.length = 12 ∧ INc vI bs ∧ ∀ j, j < P.1.length → bs.getD j false = (ins K P).getD j false
theorem sgs_ok (hD : PDp L.1) (hn : 6002 ≤ n) (hN : Y.2.1 + 2 ≤ n) (hJ : JCX Y jd A K vI vW vY ans pl l rc sq bd xs L) (hb : bs.length = 12) (hI : INc vI bs) : ∃ Y1 vI' bs', c149 n jd (some pl) Y = some ((), Y1) ∧ JCX Y1 jd A K vI' vW vY ans pl l rc sq bd xs L ∧ JF jd A Y Y1 ∧ INw vI' bs' K L.1 := by
  have h12 := hJ.2.2.1.1.1.1.2.2.2.1
  obtain ⟨vI2, bs2, e1, e2, e3, e4, e5⟩ := sgs_l hD hn n 0 (acc := []) (by omega) (by omega) hN hJ hb hI rfl (fun j hj => by omega)
  obtain ⟨hJ1, hF1⟩ := JDG_i hJ.1 hJ.2.1 e2
  rw [List.drop_zero] at e5
  exact ⟨_, vI2, bs2, e1, JCX_k hJ hJ1 hF1, hF1, e3, e4, e5⟩
/-- firstTrueRule -/
theorem frl_l {E : Env} {p : Rul → Prop} {li : Int32} (hJ : JCX Y jd A K vI vW vY ans pl l rc sq bd xs L) (hD : PDp L.1) (hI : INw vI bs K L.1) (hE : E = (K, ins K L.1)) (hn : 6002 ≤ n) (hN : Y.2.1 + 2 ≤ n) (hr : RNG L.1.2.2.2.1 p fr er) (hp : ∀ r : Rul, (r.1 = f ∧ p r) ↔ (r.1 = f ∧ r.2.1 = li)) (hf24 : f < 24) : ∀ (fu i : Nat), fr ≤ i → i ≤ er → er - i < fu → cf162_7 n fu jd (some pl) (nI fr) (nI er) (nI f) (nI i) Y = some (ixI (((L.1.2.2.2.1.drop i).findIdx? (fun R => R.1 == f && R.2.1 == li && R.2.2.1 E)).map (fun j => i + j)), Y)
  | 0, i, _, _, hf => by omega
  | fu + 1, i, hif, hi, hf => by
    obtain ⟨hB, hJD, hL, n1, n2⟩ := id hJ
    have hP := hL.1.1.1
    have h100 := hP.2.2.2.2.1
    have hx6 := hP.2.1.1 6 (by omega)
    have hA6 := hP.2.2.1.2.2.1
    have hlen : (xs 6).length = L.1.2.2.2.1.length := AL_len hA6
    have hpl := hP.1.1
    have her := hr.2.1
    show cb162_7 n (cf162_7 n fu) jd (some pl) (nI fr) (nI er) (nI f) (nI i) Y = _
    unfold cb162_7
    by_cases hz : er ≤ i
    · rw [if_pos (nI_le hz (by omega))]
      have : (L.1.2.2.2.1.drop i).findIdx? (fun R => R.1 == f && R.2.1 == li && R.2.2.1 E) = none := by
        rw [List.findIdx?_eq_none_iff]
        intro R hR
        obtain ⟨j, hj⟩ := List.mem_iff_getElem?.mp hR
        rw [List.getElem?_drop] at hj
        have h2 := hr.2.2 (i + j) R hj
        cases hc : (R.1 == f && R.2.1 == li && R.2.2.1 E) with
        | false => rfl
        | true =>
          rw [Bool.and_eq_true, Bool.and_eq_true] at hc
          have := h2.mp ((hp R).mpr ⟨by simpa using hc.1.1, by simpa using hc.1.2⟩).2
          omega
      rw [this]
      rfl
    · have hlt : i < er := by omega
      rw [if_neg (nI_ge hlt (by omega))]
      refine bnd_eq rfl (bnd_eq (yR_of (r := some (l 6)) hpl rfl) (bnd_eq rfl (zgd_eq (lsx_o hx6) (bnd_eq (lsx_n hx6) ?_))))
      rw [hlen, if_neg (nI_ge (show i < L.1.2.2.2.1.length by omega) (by omega))]
      obtain ⟨R, hR⟩ : ∃ R, L.1.2.2.2.1[i]? = some R := ⟨_, List.getElem?_eq_getElem (by omega)⟩
      obtain ⟨x, hx, wa, sa, c1, ⟨F, c2⟩, c3, c4⟩ := AL_get hA6 hR
      have hyk : ykC Y (some x) 6 0 = true := by
        unfold ykC
        dsimp only
        rw [c1]
        rfl
      refine bnd_eq (yR_of (r := some (l 6)) hpl rfl) (bnd_eq rfl (zgd_eq (lsx_o hx6) (bnd_eq (lsx_g hx6 hx (by omega)) (zgd_eq hyk (bnd_eq rfl (bnd_eq (yI_of c1 rfl) ?_))))))
      have hrec := frl_l hJ hD hI hE hn hN hr hp hf24 fu (i + 1) (by omega) (by omega) (by omega)
      rw [drop_get hR, List.findIdx?_cons]
      have hskip : (R.1 == f && R.2.1 == li && R.2.2.1 E) = false → cb162_65 n (cf162_7 n fu) jd (some pl) (nI fr) (nI er) (nI f) (nI i) (some x) Y = some (ixI ((if (R.1 == f && R.2.1 == li && R.2.2.1 E) = true then some 0 else Option.map (fun i => i + 1) (List.findIdx? (fun R => R.1 == f && R.2.1 == li && R.2.2.1 E) (L.1.2.2.2.1.drop (i + 1)))).map (fun j => i + j)), Y) := by
        intro hc
        unfold cb162_65
        rw [nI_1, hrec, hc, if_neg (by decide)]
        cases (L.1.2.2.2.1.drop (i + 1)).findIdx? (fun R => R.1 == f && R.2.1 == li && R.2.2.1 E) with
        | none => rfl
        | some j => show some (nI (i + 1 + j), Y) = some (nI (i + (j + 1)), Y); rw [show i + 1 + j = i + (j + 1) by omega]
      have hpR := (hr.2.2 i R hR).mpr ⟨hif, hlt⟩
      by_cases hfl : R.1 = f
      · rw [if_pos (by rw [hfl])]
        have hli : R.2.1 = li := ((hp R).mp ⟨hfl, hpR⟩).2
        have hh := hld_ok (n := n) (bs := bs) hJD hI.2.1 hB.1 hB.2 hn hN 43 (k := 64) (d := 0) c2 (by omega) (by omega)
        have hdep : R.2.2.1 (K, bs) = R.2.2.1 E := by
          rw [hE]
          exact hD.2 R (List.mem_of_getElem? hR) K bs (ins K L.1) hI.2.2
        refine bnd_eq (yR_of (r := some wa) c1 rfl) (zgd_eq (jd_o hJD) (bnd_eq hh ?_))
        dsimp only
        rw [hdep]
        cases hc : R.2.2.1 E with
        | false =>
          rw [if_pos b2_f, ← hc]
          exact hskip (by rw [hc, Bool.and_false])
        | true =>
          rw [if_neg (by decide), hfl, hli]
          show _ = some (ixI ((if ((f == f) && (li == li) && true) = true then some 0 else _).map (fun j => i + j)), Y)
          rw [if_pos (by simp)]
          rfl
      · rw [if_neg (fun e => hfl (nI_jj (by omega) (by omega) e))]
        exact hskip (by rw [show (R.1 == f) = false by simpa using hfl]; rfl)
theorem fr_ok2 {E : Env} {p : Rul → Prop} {li : Int32} (hJ : JCX Y jd A K vI vW vY ans pl l rc sq bd xs L) (hD : PDp L.1) (hI : INw vI bs K L.1) (hE : E = (K, ins K L.1)) (hn : 6002 ≤ n) (hN : Y.2.1 + 2 ≤ n) (hr : RNG L.1.2.2.2.1 p fr er) (hp : ∀ r : Rul, (r.1 = f ∧ p r) ↔ (r.1 = f ∧ r.2.1 = li)) (hf24 : f < 24) : c162 n jd (some pl) (nI fr) (nI er) (nI f) Y = some (ixI (rulO L.1 E f li), Y) := by
  have h100 := hJ.2.2.1.1.1.1.2.2.2.2.1
  have her := hr.2.1
  have hfe := hr.1
  have h22 : c22 n 0 (nI fr) Y = some (nI fr, Y) := by
    unfold c22
    by_cases q : (0 : Int32) < nI fr
    · rw [if_pos q]
    · rw [if_neg q]
      have : fr = 0 := by
        rcases Nat.eq_zero_or_pos fr with e | e
        · exact e
        · exact absurd (nI_lt (show 0 < fr by omega) (by omega)) q
      rw [this]
      rfl
  unfold c162
  refine bnd_eq h22 ?_
  rw [frl_l hJ hD hI hE hn hN hr hp hf24 n fr (Nat.le_refl _) hfe (by omega)]
  have hfront : ∀ (m : Nat), m ≤ fr → (L.1.2.2.2.1.findIdx? (fun R => R.1 == f && R.2.1 == li && R.2.2.1 E)) = ((L.1.2.2.2.1.drop m).findIdx? (fun R => R.1 == f && R.2.1 == li && R.2.2.1 E)).map (fun j => m + j) := by
    intro m
    induction m with
    | zero =>
      intro _
      rw [List.drop_zero]
      cases L.1.2.2.2.1.findIdx? (fun R => R.1 == f && R.2.1 == li && R.2.2.1 E) with
      | none => rfl
      | some j => show some j = some (0 + j); rw [Nat.zero_add]
    | succ m ih =>
      intro hm
      rw [ih (by omega)]
      obtain ⟨R, hR⟩ : ∃ R, L.1.2.2.2.1[m]? = some R := ⟨_, List.getElem?_eq_getElem (by omega)⟩
      rw [drop_get hR, List.findIdx?_cons]
      have hc : (R.1 == f && R.2.1 == li && R.2.2.1 E) = false := by
        cases hc : (R.1 == f && R.2.1 == li && R.2.2.1 E) with
        | false => rfl
        | true =>
          rw [Bool.and_eq_true, Bool.and_eq_true] at hc
          have := (hr.2.2 m R hR).mp ((hp R).mpr ⟨by simpa using hc.1.1, by simpa using hc.1.2⟩).2
          omega
      rw [hc, if_neg (by decide)]
      cases (L.1.2.2.2.1.drop (m + 1)).findIdx? (fun R => R.1 == f && R.2.1 == li && R.2.2.1 E) with
      | none => rfl
      | some j => show some (m + (j + 1)) = some (m + 1 + j); rw [show m + (j + 1) = m + 1 + j by omega]
  unfold rulO
  rw [hfront fr (Nat.le_refl _)]
end
end ZKR

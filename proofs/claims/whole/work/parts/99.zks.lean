/-! THE CLASS JUDGES: by layers, by itself -/
section ZKS
theorem fnd_ix {α : Type} {p : α → Bool} : ∀ {l : List α}, (l.findIdx? p = none → l.find? p = none) ∧ ∀ i, l.findIdx? p = some i → ∃ x, l[i]? = some x ∧ l.find? p = some x
  | [] => ⟨fun _ => rfl, fun i h => by cases h⟩
  | a :: l => by
    obtain ⟨h1, h2⟩ := fnd_ix (p := p) (l := l)
    rw [List.findIdx?_cons, List.find?_cons]
    cases hp : p a with
    | true =>
      refine ⟨fun h => ?_, fun i h => ?_⟩
      · rw [if_pos rfl] at h; cases h
      · rw [if_pos rfl] at h
        cases h
        exact ⟨a, rfl, rfl⟩
    | false =>
      rw [if_neg (by decide)]
      refine ⟨fun h => ?_, fun i h => ?_⟩
      · cases hq : l.findIdx? p with
        | none => exact h1 hq
        | some j => rw [hq] at h; cases h
      · cases hq : l.findIdx? p with
        | none => rw [hq] at h; cases h
        | some j =>
          rw [hq] at h
          cases h
          obtain ⟨x, e1, e2⟩ := h2 j hq
          exact ⟨x, e1, e2⟩
/-- a layer is of one that was told before -/
def LOF (P : Pln) : Prop := ∀ (j : Nat) (y : List Int32 × Int32), P.2.2.1[j]? = some y → y.2 = -1 ∨ ∃ m, m < j ∧ y.2 = nI m
theorem LOF_e {P P' : Pln} (h : LOF P) (e : P'.2.2.1 = P.2.2.1) : LOF P' := by unfold LOF; rw [e]; exact h
theorem LOF_lay {P : Pln} {ts : List Tk} {x : Pln × List Tk} (h : LOF P) (e : sLay P ts = .inr x) : LOF x.1 := by
  unfold sLay at e
  obtain ⟨_, _, e⟩ := rb_inr_el e
  obtain ⟨w, _, e⟩ := rb_inr_el e
  obtain ⟨o, ho, e⟩ := rb_inr_el e
  obtain ⟨_, _, e⟩ := rb_inr_el e
  obtain ⟨y, hy, e⟩ := rb_inr_el e
  obtain ⟨_, _, e⟩ := rb_inr_el e
  cases e
  have hk : ∀ (n : Nat) (P : Pln) (ts : List Tk) {x : Pln × List Tk} {l : Nat}, sItmL l n P ts = .inr x → x.1.2.2.1 = P.2.2.1 := by
    intro n
    induction n with
    | zero => intro P ts x l e; cases e; rfl
    | succ n ih =>
      intro P ts x l e
      unfold sItmL at e
      by_cases q : (hd ts).1 = 6
      · rw [if_pos q] at e; cases e; rfl
      · rw [if_neg q] at e
        obtain ⟨z, hz, e⟩ := rb_inr_el e
        rw [ih _ _ e, (sItm_k hz).2.2.1]
  have hl := hk _ _ _ hy
  intro j u hu
  show u.2 = -1 ∨ _
  have hu : y.1.2.2.1[j]? = some u := hu
  rw [hl] at hu
  rcases get_app hu with hu | ⟨hz, rfl⟩
  · exact h j u hu
  · show o.1 = -1 ∨ _
    by_cases q : (hd w.2).1 = 23
    · rw [if_pos q] at ho
      obtain ⟨i, hi, ho⟩ := rb_inr_el ho
      cases ho
      have := sKnw_lt hi
      rw [List.length_map] at this
      exact Or.inr ⟨i.1, by omega, rfl⟩
    · rw [if_neg q] at ho
      cases ho
      exact Or.inl rfl
theorem sTxtL_of : ∀ (n : Nat) (P : Pln) (ts : List Tk) {x : Pln × List Tk}, LOF P → sTxtL n P ts = .inr x → LOF x.1
  | 0, P, ts, x, h, e => by cases e; exact h
  | n + 1, P, ts, x, h, e => by
    unfold sTxtL at e
    by_cases q : (hd ts).1 = 0
    · rw [if_pos q] at e; cases e; exact h
    rw [if_neg q] at e
    obtain ⟨y, hy, e⟩ := rb_inr_el e
    refine sTxtL_of n y.1 y.2 ?_ e
    by_cases q1 : (hd ts).1 = 25
    · rw [if_pos q1] at hy
      exact LOF_e h (sSeg_len hy).2.2.1
    rw [if_neg q1] at hy
    by_cases q2 : (hd ts).1 = 14
    · rw [if_pos q2] at hy
      exact LOF_e h (sFlg_k hy).2.2.1
    rw [if_neg q2] at hy
    by_cases q3 : (hd ts).1 = 22
    · rw [if_pos q3] at hy
      exact LOF_lay h hy
    · rw [if_neg q3] at hy; cases hy
theorem sLoad_of {T : List Int32} {L : Ldd} (h : sLoad T = .inr L) : LOF L.1 := by
  unfold sLoad at h
  obtain ⟨x, hx, h⟩ := rb_inr_el h
  obtain ⟨N, hN, h⟩ := rb_inr_el h
  obtain ⟨u, hu, h⟩ := rb_inr_el h
  cases h
  exact sTxtL_of 6000 _ _ (fun j y hy => by cases hy) hx
section
variable {n : Nat} {Y Y0 Y1 Y2 : zY} {a b jd k pl rc sq fl ly sa i x f fr er kd st : Nat} {S : List Nat} {K : KL} {vI vI' vW vW' vY vY' vs vs' v4 v5 : List Value} {A : Nat → Nat} {ans ans' off : Int32} {bs : List Bool} {spl : List Spl} {l : Nat → Nat} {xs X : Nat → List Nat} {bd : Nat → Nat} {P : Pln} {L : Ldd} {N : List (List (Nat × Int32))} {o : yO} {g : Flg} {ns : List (Nat × Int32)} {E : Env}
/-- what a telling leaves -/
def TLD (Y : zY) (jd : Nat) (A : Nat → Nat) (K : KL) (vI vW : List Value) (pl : Nat) (l : Nat → Nat) (rc sq : Nat) (bd : Nat → Nat) (xs : Nat → List Nat) (L : Ldd) (Y1 : zY) (x : Int32 × Why) : Prop := ∃ vY', JCX Y1 jd A K vI vW vY' x.1 pl l rc sq bd xs L ∧ WHc vY' x.2 ∧ JF jd A Y Y1
theorem itm_B {items : List Itm} : (items.findIdx? (fun I => I.2.1 == f && I.1 == i && I.2.2.isSome == false)).isSome = itB items f i := by
  unfold itB
  rw [List.findIdx?_isSome]
theorem yk2 {c : Nat} {fs : List Value} (h : Y.1 x = some (oB c fs)) (hc : zasg c c = true) : ykC Y (some x) c 0 = true := by
  unfold ykC
  dsimp only
  rw [h]
  exact hc
theorem ixI_s {r : Nat} (h : r < 1000) : ixI (some r) ≠ -1 := nI_m1 (k := r) (by omega)
/-- a rule serves -/
theorem rs_ok {r : Nat} {y1 y2 : Int32} {α : Type} {F : Unit × zY → Option α} (hJ : JCX Y jd A K vI vW vY ans pl l rc sq bd xs L) (hr : rulO L.1 E f off = some r) (hn : 6002 ≤ n) : ∃ Y1, ((yR Y pl 4 6).bind fun x43 => x43.bind fun a45 => zgd (yisO Y a45 14) <| (c74 n a45 (ixI (some r)) Y).bind fun p48 => zgd (ykC p48.2 p48.1 6 0) <| p48.1.bind fun a50 => (yR p48.2 a50 6 2).bind fun x52 => zgd (yisO p48.2 jd 1) <| (c163 n jd y1 y2 (ixI (some r)) x52 p48.2).bind F) = F ((), Y1) ∧ TLD Y jd A K vI vW pl l rc sq bd xs L Y1 (byS K L.1 (L.1.2.2.2.1.getD r rl0).2.2.2 y1 y2 (nI r)) := by
  obtain ⟨hB, hJD, hL, n1, n2⟩ := id hJ
  have hP := hL.1.1.1
  have h100 := hP.2.2.2.2.1
  have hx6 := hP.2.1.1 6 (by omega)
  have hA6 := hP.2.2.1.2.2.1
  have hrl := rulO_lt hr
  have hR : L.1.2.2.2.1[r]? = some (L.1.2.2.2.1.getD r rl0) := getD_get hrl
  obtain ⟨x, hx, wa, sa, c1, c2, c3, c4⟩ := AL_get hA6 hR
  obtain ⟨Y1, vY', e1, e2, e3, e4⟩ := ts_ok (n := n) (y1 := y1) (y2 := y2) (y3 := nI r) hB hJD c3 hn
  refine ⟨Y1, ?_, vY', JCX_k hJ e2 e4, e3, e4⟩
  exact bnd_eq (yR_of (r := some (l 6)) hP.1.1 rfl) (bnd_eq rfl (zgd_eq (lsx_o hx6) (bnd_eq (lsx_g hx6 hx (by omega)) (zgd_eq (yk2 c1 rfl) (bnd_eq rfl (bnd_eq (yR_of (r := some sa) c1 rfl) (zgd_eq (jd_o hJD) (bnd_eq e1 rfl))))))))
/-- isToldByLayers -/
theorem lyr_l {y3 : Int32} (hJ : JCX Y jd A K vI vW vY ans pl l rc sq bd xs L) (hD : PDp L.1) (hO : LOF L.1) (hI : INw vI bs K L.1) (hE : E = (K, ins K L.1)) (hf : f < L.1.2.1.length) (hn : 6002 ≤ n) (hN : Y.2.1 + 2 ≤ n) : ∀ (k fu i : Nat) (at_ : Int32), 9 - i ≤ fu → i ≤ 8 → (at_ = -1 ∧ 1 ≤ k ∨ ∃ j, j < L.1.2.2.1.length ∧ at_ = nI j ∧ j + 2 ≤ k ∧ j + i < 8) → match byL K L.1 E f k at_ with
    | some x => ∃ Y1, cf158_6 n fu jd (some pl) (nI f) y3 at_ (nI i) Y = some (1, Y1) ∧ TLD Y jd A K vI vW pl l rc sq bd xs L Y1 x
    | none => cf158_6 n fu jd (some pl) (nI f) y3 at_ (nI i) Y = some (0, Y)
  | 0, fu, i, at_, _, _, h => by
    exfalso
    rcases h with h | ⟨j, _, _, h, _⟩ <;> omega
  | k + 1, 0, i, at_, h, h8, _ => by omega
  | k + 1, fu + 1, i, at_, hfu, h8, ha => by
    obtain ⟨hB, hJD, hL, n1, n2⟩ := id hJ
    have hP := hL.1.1.1
    have hpl := hP.1.1
    obtain ⟨_, b2, b3, b4, _, b6, b7⟩ := hP.2.2.2
    rw [List.length_map] at b6 b7
    have hx4 := hP.2.1.1 4 (by omega)
    have hx5 := hP.2.1.1 5 (by omega)
    have hly := hL.1.1.2.2.1
    have hfls := hL.1.1.2.1
    have e6 : cf158_6 n (fu + 1) jd (some pl) (nI f) y3 at_ (nI i) Y = cb158_6 n (cf158_6 n fu) jd (some pl) (nI f) y3 at_ (nI i) Y := rfl
    rw [e6]
    rcases ha with ⟨rfl, _⟩ | ⟨j, hj, rfl, hjk, hji⟩
    · have hby : byL K L.1 E f (k + 1) (-1) = none := by unfold byL; rw [if_pos rfl]
      rw [hby]
      dsimp only
      unfold cb158_6
      by_cases q8 : i = 8
      · rw [if_pos (by rw [q8]; decide)]
      · rw [if_neg (show ¬ (8 : Int32) ≤ nI i from (nI_ge (show i < 8 by omega) (by omega) : ¬ nI 8 ≤ nI i))]
        have : ∀ {m : Nat}, c13 n (-1) (nI m) Y = some (0, Y) := fun {m} => by
          unfold c13
          rw [if_pos (by decide)]
        exact bnd_eq rfl (bnd_eq (yR_of (r := some (l 5)) hpl rfl) (bnd_eq rfl (zgd_eq (lsx_o hx5) (bnd_eq (lsx_n hx5) (bnd_eq this rfl)))))
    · have hby : byL K L.1 E f (k + 1) (nI j) = (if (itmO L.1 f j false).isSome = true then some ((L.1.2.1.getD f fl0).2.2.2.2, (3, nI j, -1, -1, -1))
          else match rulO L.1 E f (nI j) with
            | some r => some (byS K L.1 (L.1.2.2.2.1.getD r rl0).2.2.2 4 (nI j) (nI r))
            | none => match itmO L.1 f j true with
              | some i => some (byS K L.1 (((L.1.2.2.2.2.1.getD i (0, 0, none)).2.2).getD (.inl 0)) 5 (nI j) (-1))
              | none => byL K L.1 E f k (ofL L.1 j)) := by
        show (if nI j = -1 then none else _) = _
        rw [if_neg (nI_m1 (by omega))]
        dsimp only
        rw [nI_tn (by omega)]
        rfl
      rw [hby]
      obtain ⟨y, hy⟩ : ∃ y, L.1.2.2.1[j]? = some y := ⟨_, List.getElem?_eq_getElem hj⟩
      obtain ⟨ly, hlyj⟩ : ∃ ly, (xs 5)[j]? = some ly := ⟨_, List.getElem?_eq_getElem (by rw [hly.1]; exact hj)⟩
      obtain ⟨fr, er, ob, sa, vs, hX, hm, hr⟩ := hly.2 j ly y hlyj hy
      obtain ⟨c1, c2, c3, c4, c5⟩ := id hX
      have hxl : (xs 5).length = L.1.2.2.1.length := hly.1
      have hpre : ∀ {R : Option (Int32 × zY)}, ((c159 n ly (nI f) Y).bind fun p23 =>
          if p23.1 = 0 then
            (yI p23.2 ly 2 1).bind fun x25 =>
            (yI p23.2 ly 2 2).bind fun x27 =>
            zgd (yisO p23.2 jd 1) <|
            (c162 n jd (some pl) x25 x27 (nI f) p23.2).bind fun p31 =>
            if p31.1 = (-1) then
              zgd (yisO p31.2 ly 2) <|
              (c169 n ly (nI f) p31.2).bind fun p35 =>
              match p35.1 with
              | none =>
                (yI p35.2 ly 2 0).bind fun x38 =>
                cf158_6 n fu jd (some pl) (nI f) y3 x38 (nI i + 1) p35.2
              | some a36 =>
                zgd (yisO p35.2 jd 1) <|
                (c163 n jd 5 (nI j) (-1) (some a36) p35.2).bind fun p42 =>
                some (1, p42.2)
            else
              (yR p31.2 pl 4 6).bind fun x43 =>
              x43.bind fun a45 =>
              zgd (yisO p31.2 a45 14) <|
              (c74 n a45 p31.1 p31.2).bind fun p48 =>
              zgd (ykC p48.2 p48.1 6 0) <|
              p48.1.bind fun a50 =>
              (yR p48.2 a50 6 2).bind fun x52 =>
              zgd (yisO p48.2 jd 1) <|
              (c163 n jd 4 (nI j) p31.1 x52 p48.2).bind fun p56 =>
              some (1, p56.2)
          else
            (yR p23.2 pl 4 4).bind fun x57 =>
            x57.bind fun a59 =>
            zgd (yisO p23.2 a59 14) <|
            (c74 n a59 (nI f) p23.2).bind fun p62 =>
            zgd (ykC p62.2 p62.1 0 0) <|
            p62.1.bind fun a64 =>
            (yI p62.2 a64 0 7).bind fun x66 =>
            zgd (yisO p62.2 jd 1) <|
            (c160 n jd 3 (nI j) x66 p62.2).bind fun p70 =>
            some (1, p70.2)) = R → cb158_6 n (cf158_6 n fu) jd (some pl) (nI f) y3 (nI j) (nI i) Y = R := by
        intro R hR
        unfold cb158_6
        rw [if_neg (show ¬ (8 : Int32) ≤ nI i from (nI_ge (show i < 8 by omega) (by omega) : ¬ nI 8 ≤ nI i))]
        refine bnd_eq rfl (bnd_eq (yR_of (r := some (l 5)) hpl rfl) (bnd_eq rfl (zgd_eq (lsx_o hx5) (bnd_eq (lsx_n hx5) ?_))))
        rw [hxl]
        refine bnd_eq (bel hj (by omega)) ?_
        dsimp only
        rw [if_neg (by decide)]
        exact bnd_eq (yR_of (r := some (l 5)) hpl rfl) (bnd_eq rfl (zgd_eq (lsx_o hx5) (bnd_eq (lsx_g hx5 hlyj (by omega)) (zgd_eq (yk2 c1 rfl) (bnd_eq rfl (zgd_eq (yisO_of c1) hR))))))
      have e159 : c159 n ly (nI f) Y = some (if (itmO L.1 f j false).isSome = true then 1 else 0, Y) := by
        unfold c159
        refine bnd_eq (yI_of c1 rfl) ?_
        rw [tst1 (by omega), hm.1, bt_bits (by omega), decide_eq_true (show f < 24 by omega), Bool.true_and]
        have : (itmO L.1 f j false).isSome = itB L.1.2.2.2.2.1 f j := itm_B
        rw [this]
        cases itB L.1.2.2.2.2.1 f j with
        | true => rw [if_neg (show ¬ ((if true = true then (1 : Int32) else 0) = 0) by decide)]; rfl
        | false => rw [if_pos (show (if false = true then (1 : Int32) else 0) = 0 by decide)]; rfl
      cases hoff : (itmO L.1 f j false).isSome with
      | true =>
        rw [if_pos rfl]
        dsimp only
        rw [hoff, if_pos rfl] at e159
        have hg : L.1.2.1[f]? = some (L.1.2.1.getD f fl0) := getD_get hf
        obtain ⟨fl, A', kd, st, fr', er', X, v4, v5, k1, k2, _⟩ := PLN_g hL.1.1 hg
        obtain ⟨Y1, e1, e2, e3⟩ := to_ok (n := n) (y1 := 3) (y2 := nI j) (y3 := (L.1.2.1.getD f fl0).2.2.2.2) hB hJD
        refine ⟨Y1, hpre (bnd_eq e159 ?_), _, JCX_k hJ e2 e3, rfl, e3⟩
        dsimp only
        rw [if_neg (by decide)]
        exact bnd_eq (yR_of (r := some (l 4)) hpl rfl) (bnd_eq rfl (zgd_eq (lsx_o hx4) (bnd_eq (lsx_g hx4 k1 (by omega)) (zgd_eq (yk2 k2.1 rfl) (bnd_eq rfl (bnd_eq (yI_of k2.1 rfl) (zgd_eq (jd_o hJD) (bnd_eq e1 rfl))))))))
      | false =>
        rw [if_neg (by decide)]
        rw [hoff, if_neg (by decide)] at e159
        have e162 := fr_ok2 (n := n) (f := f) (li := nI j) (p := fun r => r.2.1 = nI j) hJ hD hI hE hn hN hr (fun r => Iff.rfl) (by omega)
        cases h_r : rulO L.1 E f (nI j) with
        | some r =>
          dsimp only
          rw [h_r] at e162
          have hrl := rulO_lt h_r
          obtain ⟨Y1, e1, e2⟩ := rs_ok (n := n) (y1 := 4) (y2 := nI j) (F := fun p56 => some ((1 : Int32), p56.2)) hJ h_r hn
          refine ⟨Y1, hpre (bnd_eq e159 ?_), e2⟩
          dsimp only
          rw [if_pos rfl]
          refine bnd_eq (yI_of c1 rfl) (bnd_eq (yI_of c1 rfl) (zgd_eq (jd_o hJD) (bnd_eq e162 ?_)))
          dsimp only
          rw [if_neg (ixI_s (by omega))]
          exact e1
        | none =>
          dsimp only
          rw [h_r] at e162
          have hm2 := hm.2 f (by omega)
          have hix := fnd_ix (p := fun I : Itm => I.2.1 == f && I.1 == j && I.2.2.isSome == true) (l := L.1.2.2.2.2.1)
          have hto : ∀ {R : Option (Int32 × zY)} {ov : Option Nat}, c169 n ly (nI f) Y = some (ov, Y) → (match ov with
              | none =>
                (yI Y ly 2 0).bind fun x38 =>
                cf158_6 n fu jd (some pl) (nI f) y3 x38 (nI i + 1) Y
              | some a36 =>
                zgd (yisO Y jd 1) <|
                (c163 n jd 5 (nI j) (-1) (some a36) Y).bind fun p42 =>
                some (1, p42.2)) = R → cb158_6 n (cf158_6 n fu) jd (some pl) (nI f) y3 (nI j) (nI i) Y = R := by
            intro R ov h169 hR
            refine hpre (bnd_eq e159 ?_)
            dsimp only
            rw [if_pos rfl]
            refine bnd_eq (yI_of c1 rfl) (bnd_eq (yI_of c1 rfl) (zgd_eq (jd_o hJD) (bnd_eq e162 ?_)))
            dsimp only
            rw [if_pos (show ixI none = -1 from rfl)]
            refine zgd_eq (yisO_of c1) (bnd_eq h169 ?_)
            exact hR
          have h169 : ∀ {ov : Option Nat}, vs[f]? = some (va_rf ov) → c169 n ly (nI f) Y = some (ov, Y) := by
            intro ov hv
            unfold c169
            refine bnd_eq (yR_of (r := some sa) c1 rfl) (bnd_eq rfl (bnd_eq (yL_of c2) ?_))
            rw [c3]
            refine bnd_eq (bel (show f < 24 by omega) (by omega)) ?_
            dsimp only
            rw [if_neg (by decide)]
            exact bnd_eq (yR_of (r := some sa) c1 rfl) (bnd_eq rfl (bnd_eq (yaR_of (r := ov) c2 rfl (by omega) hv) rfl))
          cases h_s : itmO L.1 f j true with
          | some q =>
            obtain ⟨I, i1, i2⟩ := hix.2 q h_s
            rw [i2] at hm2
            obtain ⟨za, s, z1, z2, z3⟩ := hm2
            dsimp only
            have hId : L.1.2.2.2.2.1.getD q (0, 0, none) = I := by rw [List.getD_eq_getElem?_getD, i1]; rfl
            rw [hId, z1]
            obtain ⟨Y1, vY', e1, e2, e3, e4⟩ := ts_ok (n := n) (y1 := 5) (y2 := nI j) (y3 := -1) hB hJD z3 hn
            refine ⟨Y1, hto (h169 (ov := some za) z2) ?_, vY', JCX_k hJ e2 e4, e3, e4⟩
            dsimp only
            exact zgd_eq (jd_o hJD) (bnd_eq e1 rfl)
          | none =>
            rw [hix.1 h_s] at hm2
            dsimp only
            have hof : ofL L.1 j = y.2 := by unfold ofL; rw [List.getD_eq_getElem?_getD, hy]; rfl
            rw [hof]
            have hrec := lyr_l (y3 := y3) hJ hD hO hI hE hf hn hN k fu (i + 1) y.2 (by omega) (by omega) (by
              rcases hO j y hy with e | ⟨m, hm, e⟩
              · exact Or.inl ⟨e, by omega⟩
              · exact Or.inr ⟨m, by omega, e, by omega, by omega⟩)
            have hgo : ∀ {R : Option (Int32 × zY)}, cf158_6 n fu jd (some pl) (nI f) y3 y.2 (nI (i + 1)) Y = R → cb158_6 n (cf158_6 n fu) jd (some pl) (nI f) y3 (nI j) (nI i) Y = R := by
              intro R hR
              refine hto (h169 (ov := none) hm2) ?_
              dsimp only
              refine bnd_eq (yI_of c1 rfl) ?_
              rw [nI_1]
              exact hR
            cases hb : byL K L.1 E f k y.2 with
            | some z =>
              rw [hb] at hrec
              obtain ⟨Y1, e1, e2⟩ := hrec
              exact ⟨Y1, hgo e1, e2⟩
            | none =>
              rw [hb] at hrec
              exact hgo hrec
end
end ZKS

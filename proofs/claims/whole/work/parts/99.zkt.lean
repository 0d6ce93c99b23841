/-! THE CLASS JUDGES: by itself, value -/
section ZKT
/-- what the flags are worth, as the class has it -/
def WXc (vW : List Value) (W : Nat → Int32) : Prop := ∀ g : Nat, g < 24 → vW[g]? = some (Value.int (W g))
section
variable {L : Ldd} {K : KL} {a : Int32} {W : Nat → Int32}
theorem wrth_k : ∀ (r : List Nat) (W : Nat → Int32) {g : Nat}, g ∉ r → wrth L K a r W g = W g
  | [], W, g, _ => rfl
  | q :: r, W, g, h => by
    have h1 : g ≠ q := fun e => h (by rw [e]; exact List.mem_cons_self)
    have h2 : g ∉ r := fun e => h (List.mem_cons_of_mem _ e)
    show wrth L K a r (upW W q (wrk L K W q a).1) g = W g
    rw [wrth_k r _ h2]
    unfold upW
    rw [if_neg h1]
theorem wrth_app : ∀ (p r : List Nat) (W : Nat → Int32), wrth L K a (p ++ r) W = wrth L K a r (wrth L K a p W)
  | [], r, W => rfl
  | q :: p, r, W => by
    show wrth L K a (p ++ r) (upW W q (wrk L K W q a).1) = _
    rw [wrth_app p r]
    rfl
/-- the worths hold together -/
theorem wrth_fix (hL : LOK L) {i g : Nat} (hg : L.2.2[i]? = some g) : wrth L K a L.2.2 W g = (wrk L K (wrth L K a L.2.2 W) g a).1 := by
  have hT := hL.2.2.2.2.2.2
  have hnd := TPO_nd hT
  have hi := lt_of_get hg
  have hs : L.2.2 = L.2.2.take i ++ g :: L.2.2.drop (i + 1) := by
    rw [← drop_get hg, List.take_append_drop]
  obtain ⟨p, hp⟩ : ∃ p, p = L.2.2.take i := ⟨_, rfl⟩
  obtain ⟨r, hr⟩ : ∃ r, r = L.2.2.drop (i + 1) := ⟨_, rfl⟩
  have hneed : ∀ x ∈ L.2.1.getD g [], x.1 ∈ p := fun x hx => by rw [hp]; exact LOK_TPW hL i g hg x hx
  rw [← hp, ← hr] at hs
  rw [hs] at hnd
  have hgr : g ∉ r := by
    have := (List.nodup_append.mp hnd).2.1
    exact (List.nodup_cons.mp this).1
  have hgp : ∀ x ∈ p, x ≠ g ∧ x ∉ r := fun x hx => by
    have := (List.nodup_append.mp hnd).2.2 x hx
    exact ⟨this g List.mem_cons_self, fun h => this x (List.mem_cons_of_mem _ h) rfl⟩
  have hV : ∀ {y : Nat}, wrth L K a L.2.2 W y = wrth L K a r (upW (wrth L K a p W) g (wrk L K (wrth L K a p W) g a).1) y := fun {y} => by
    conv => lhs; rw [hs]
    rw [wrth_app]
    rfl
  rw [hV, wrth_k r _ hgr]
  show (if g = g then _ else _) = _
  rw [if_pos rfl]
  refine congrArg Prod.fst (wrk_cong (fun x hx => ?_))
  have hxp := hneed x hx
  rw [hV, wrth_k r _ (hgp _ hxp).2]
  unfold upW
  rw [if_neg (hgp _ hxp).1]
end
section
variable {n : Nat} {Y Y0 Y1 Y2 : zY} {b jd k pl rc sq fl ly sa i x f fr er kd st : Nat} {S : List Nat} {K : KL} {vI vI' vW vW' vY vY' vs vs' v4 v5 : List Value} {A : Nat → Nat} {ans ans' off a : Int32} {bs : List Bool} {spl : List Spl} {l : Nat → Nat} {xs X : Nat → List Nat} {bd : Nat → Nat} {P : Pln} {L : Ldd} {N : List (List (Nat × Int32))} {o : yO} {g : Flg} {ns : List (Nat × Int32)} {E : Env} {W : Nat → Int32}
/-- what a flag is by itself, but for the first needs -/
def byI2 (K : KL) (P : Pln) (E : Env) (W : Nat → Int32) (f : Nat) (ns : List (Nat × Int32)) : Int32 × Why :=
  match badN W ns with
  | some g => ((P.2.1.getD f ([], (0, []), [], .inl 0, 0)).2.2.2.2, (1, -1, -1, -1, nI g))
  | none => match rulO P E f (-1) with
    | some r => byS K P (P.2.2.2.1.getD r rl0).2.2.2 2 (-1) (nI r)
    | none => byS K P (P.2.1.getD f ([], (0, []), [], .inl 0, 0)).2.2.2.1 0 (-1) (-1)
/-- tellByItself -/
theorem bis_l (hJ : JCX Y jd A K vI vW vY ans pl l rc sq bd xs L) (hD : PDp L.1) (hI : INw vI bs K L.1) (hE : E = (K, ins K L.1)) (hW : WXc vW W) (hn : 6002 ≤ n) (hN : Y.2.1 + 2 ≤ n) (hg : L.1.2.1[f]? = some g) (hns : L.2.1[f]? = some ns) (hfl : (xs 4)[f]? = some fl) : ∀ (fu i : Nat), i ≤ ns.length → ns.length - i < fu → ∃ Y1, cf170_15 n fu jd (some pl) (nI f) (some fl) (nI i) Y = some ((), Y1) ∧ TLD Y jd A K vI vW pl l rc sq bd xs L Y1 (byI2 K L.1 E W f (ns.drop i))
  | 0, i, _, hf => by omega
  | fu + 1, i, hi, hf => by
    obtain ⟨hB, hJD, hL, n1, n2⟩ := id hJ
    have hP := hL.1.1.1
    have hpl := hP.1.1
    have hO := hL.2.1
    obtain ⟨fl', A', kd, st, fr, er, X, v4, v5, k1, k2, k3, k4, k5⟩ := STL_g hL.1 hg hns
    have : fl' = fl := by rw [hfl] at k1; cases k1; rfl
    rw [this] at k2
    have hgd : L.1.2.1.getD f ([], (0, []), [], .inl 0, 0) = g := gtD hg
    have hX2 : (X 2).length = ns.length := by
      rw [AL_len k3.2.2.2.2.1, List.length_map, hO.2.2.2 f g ns hg hns]
    have h4 : ns.length ≤ 4 := by rw [hO.2.2.2 f g ns hg hns]; exact k3.2.2.2.2.2.2.1
    have hf24 : f < 24 := by have := lt_of_get hns; have := hO.2.2.1; omega
    obtain ⟨g1, g2, ⟨v0, v1, w1, w2, w3⟩, g4, g5, g6, g7, g8, g9, g10, g11, g12, g13, g14, g15⟩ := id hJD
    show ∃ Y1, cb170_15 n (cf170_15 n fu) jd (some pl) (nI f) (some fl) (nI i) Y = _ ∧ _
    have e112 : c112 n fl Y = some (nI ns.length, Y) := by rw [← hX2]; exact nc_ok k2 (by omega)
    by_cases hz : ns.length ≤ i
    · rw [List.drop_eq_nil_of_le hz]
      have hb : byI2 K L.1 E W f [] = match rulO L.1 E f (-1) with
        | some r => byS K L.1 (L.1.2.2.2.1.getD r rl0).2.2.2 2 (-1) (nI r)
        | none => byS K L.1 g.2.2.2.1 0 (-1) (-1) := by
        unfold byI2
        rw [hgd]
        rfl
      rw [hb]
      have e162 := fr_ok2 (n := n) (f := f) (li := -1) (p := fun r => r.1 = f ∧ r.2.1 = -1) hJ hD hI hE hn hN k4 (fun r => ⟨fun h => h.2, fun h => ⟨h.1, h⟩⟩) hf24
      have hpre : ∀ {R : Option (Unit × zY)} {iv : Int32}, c162 n jd (some pl) (nI fr) (nI er) (nI f) Y = some (iv, Y) → (if iv = (-1) then
          (yR Y fl 0 6).bind fun x14 =>
          zgd (yisO Y jd 1) <|
          (c163 n jd 0 (-1) (-1) x14 Y).bind fun p18 =>
          some ((), p18.2)
        else
          (yR Y pl 4 6).bind fun x20 =>
          x20.bind fun a22 =>
          zgd (yisO Y a22 14) <|
          (c74 n a22 iv Y).bind fun p25 =>
          zgd (ykC p25.2 p25.1 6 0) <|
          p25.1.bind fun a27 =>
          (yR p25.2 a27 6 2).bind fun x29 =>
          zgd (yisO p25.2 jd 1) <|
          (c163 n jd 2 (-1) iv x29 p25.2).bind fun p33 =>
          some ((), p33.2)) = R → (cb170_15 n (cf170_15 n fu) jd (some pl) (nI f) (some fl) (nI i) Y) = R := by
        intro R iv h162 hR
        unfold cb170_15
        refine bnd_eq rfl (zgd_eq (yisO_of k2.1) (bnd_eq e112 ?_))
        dsimp only
        rw [if_pos (nI_le hz (by omega))]
        refine bnd_eq (yI_of k2.1 rfl) (bnd_eq (yI_of k2.1 rfl) (zgd_eq (jd_o hJD) (bnd_eq h162 ?_)))
        exact hR
      cases h_r : rulO L.1 E f (-1) with
      | some r =>
        dsimp only
        rw [h_r] at e162
        have hrl := rulO_lt h_r
        have h100 := hP.2.2.2.2.1
        obtain ⟨Y1, e1, e2⟩ := rs_ok (n := n) (y1 := 2) (y2 := -1) (F := fun p33 => some ((), p33.2)) hJ h_r hn
        refine ⟨Y1, hpre e162 ?_, e2⟩
        rw [if_neg (ixI_s (by omega))]
        exact e1
      | none =>
        dsimp only
        rw [h_r] at e162
        obtain ⟨Y1, vY', e1, e2, e3, e4⟩ := ts_ok (n := n) (y1 := 0) (y2 := -1) (y3 := -1) hB hJD k3.2.2.2.2.2.2.2 hn
        refine ⟨Y1, hpre e162 ?_, vY', JCX_k hJ e2 e4, e3, e4⟩
        rw [if_pos (show ixI none = -1 from rfl)]
        exact bnd_eq (yR_of (r := some st) k2.1 rfl) (zgd_eq (jd_o hJD) (bnd_eq e1 rfl))
    · have hlt : i < ns.length := by omega
      have hx : ns[i]? = some ns[i] := List.getElem?_eq_getElem hlt
      obtain ⟨q4, q5⟩ := k5 i _ hx
      have h24 : ns[i].1 < 24 := by
        have := hO.2.1 ns (List.mem_of_getElem? hns) ns[i] (List.getElem_mem hlt)
        have := hO.2.2.1
        omega
      have hpre : ∀ {R : Option (Unit × zY)}, (if W ns[i].1 = ns[i].2 then
          cf170_15 n fu jd (some pl) (nI f) (some fl) (nI (i + 1)) Y
        else
          (yI Y fl 0 7).bind fun x50 =>
          zgd (yisO Y jd 1) <|
          (c160 n jd 1 (-1) x50 Y).bind fun p54 =>
          (yR p54.2 jd 1 5).bind fun x55 =>
          x55.bind fun a57 =>
          (yS zsI p54.2 a57 4 (.int (nI ns[i].1))).bind fun h58 =>
          some ((), h58)) = R → (cb170_15 n (cf170_15 n fu) jd (some pl) (nI f) (some fl) (nI i) Y) = R := by
        intro R hR
        unfold cb170_15
        refine bnd_eq rfl (zgd_eq (yisO_of k2.1) (bnd_eq e112 ?_))
        dsimp only
        rw [if_neg (nI_ge hlt (by omega))]
        refine bnd_eq (yR_of (r := some (A' 4)) k2.1 rfl) (bnd_eq rfl (bnd_eq (yaI_of k2.2.2.2.2.2.2.1 (by omega) q4) (bnd_eq (yR_of (r := some (A 4)) g1 rfl) (bnd_eq rfl (bnd_eq (yaI_of g10 (by omega) (hW _ h24)) (bnd_eq (yR_of (r := some (A' 5)) k2.1 rfl) (bnd_eq rfl (bnd_eq (yaI_of k2.2.2.2.2.2.2.2.1 (by omega) q5) ?_))))))))
        rw [nI_1]
        exact hR
      rw [List.drop_eq_getElem_cons hlt]
      have hbad : badN W (ns[i] :: ns.drop (i + 1)) = if W ns[i].1 = ns[i].2 then badN W (ns.drop (i + 1)) else some ns[i].1 := by
        unfold badN
        rw [List.find?_cons]
        by_cases c : W ns[i].1 = ns[i].2
        · rw [if_pos c, show (!(W ns[i].1 == ns[i].2)) = false by rw [c]; simp]
        · rw [if_neg c, show (!(W ns[i].1 == ns[i].2)) = true by simpa using c]
          rfl
      unfold byI2
      rw [hbad]
      by_cases c : W ns[i].1 = ns[i].2
      · rw [if_pos c]
        obtain ⟨Y1, e1, e2⟩ := bis_l hJ hD hI hE hW hn hN hg hns hfl fu (i + 1) (by omega) (by omega)
        refine ⟨Y1, hpre ?_, e2⟩
        rw [if_pos c]
        exact e1
      · rw [if_neg c]
        dsimp only
        rw [hgd]
        obtain ⟨Y1, e1, e2, e3⟩ := to_ok (n := n) (y1 := 1) (y2 := -1) (y3 := g.2.2.2.2) hB hJD
        obtain ⟨e4, e5⟩ := JDG_y (vY' := [.int 1, .int (-1), .int (-1), .int (-1), .int (nI ns[i].1)]) e3.1 e2 rfl
        refine ⟨_, hpre ?_, _, JCX_k hJ e4 (JF_T e3 e5), rfl, JF_T e3 e5⟩
        rw [if_neg c]
        refine bnd_eq (yI_of k2.1 rfl) (zgd_eq (jd_o hJD) (bnd_eq e1 ?_))
        exact kr_1 (j := 4) e2.1 rfl e2.2.2.2.2.2.2.2.2.2.2.2.2.1 g15 (by show 4 < 5; omega) (by show 5 ≤ 100; omega)
/-- a flag is told, with its layer -/
theorem tell_ok (hJ : JCX Y jd A K vI vW vY ans pl l rc sq bd xs L) (hok : LOK L) (hO : LOF L.1) (hI : INw vI bs K L.1) (hW : WXc vW W) (hf : f < L.1.2.1.length) (ha : a = -1 ∨ ∃ j, j < L.1.2.2.1.length ∧ a = nI j) (hn : 6002 ≤ n) (hN : Y.2.1 + 2 ≤ n) : ∃ Y1, (∀ {α : Type} {F : zY → Option α}, (zgd (yisO Y jd 1) <| (c158 n jd (some pl) (nI f) a Y).bind fun p19 =>
      if p19.1 = 0 then
        zgd (yisO p19.2 jd 1) <|
        (c170 n jd (some pl) (nI f) p19.2).bind fun p23 => F p23.2
      else F p19.2) = F Y1) ∧ TLD Y jd A K vI vW pl l rc sq bd xs L Y1 (wrk L K W f a) := by
  have hD := hok.2.1
  obtain ⟨hB, hJD, hL, n1, n2⟩ := id hJ
  have hP := hL.1.1.1
  have hpl := hP.1.1
  obtain ⟨_, b2, b3, b4, _, b6, b7⟩ := hP.2.2.2
  rw [List.length_map] at b6 b7
  have hl := lyr_l (n := n) (f := f) (y3 := a) hJ hD hO hI rfl hf hn hN 9 n 0 a (by omega) (by omega) (by
    rcases ha with ha | ⟨j, hj, ha⟩
    · exact Or.inl ⟨ha, by omega⟩
    · exact Or.inr ⟨j, hj, ha, by omega, by omega⟩)
  unfold wrk
  cases hb : byL K L.1 (K, ins K L.1) f 9 a with
  | some x =>
    rw [hb] at hl
    obtain ⟨Y1, e1, e2⟩ := hl
    refine ⟨Y1, fun {α F} => ?_, e2⟩
    refine zgd_eq (jd_o hJD) (bnd_eq (show c158 n jd (some pl) (nI f) a Y = some (1, Y1) from e1) ?_)
    dsimp only
    rw [if_neg (by decide)]
  | none =>
    rw [hb] at hl
    have hlN : L.2.1.length = L.1.2.1.length := hok.2.2.2.1
    obtain ⟨g, hg⟩ : ∃ g, L.1.2.1[f]? = some g := ⟨_, List.getElem?_eq_getElem hf⟩
    obtain ⟨ns, hns⟩ : ∃ ns, L.2.1[f]? = some ns := ⟨_, List.getElem?_eq_getElem (by omega)⟩
    obtain ⟨fl, A', kd, st, fr, er, X, v4, v5, k1, k2, _⟩ := PLN_g hL.1.1 hg
    have h4 : ns.length ≤ 4 := by
      obtain ⟨_, _, _, _, _, _, _, _, _, _, _, _, _, k3, _⟩ := PLN_g hL.1.1 hg
      rw [hL.2.1.2.2.2 f g ns hg hns]
      exact k3.2.2.2.2.2.2.1
    obtain ⟨Y1, e1, e2⟩ := bis_l (n := n) hJ hD hI rfl hW hn hN hg hns k1 n 0 (by omega) (by omega)
    rw [List.drop_zero] at e2
    have hgd : L.2.1.getD f [] = ns := gtD hns
    have hx4 := hP.2.1.1 4 (by omega)
    refine ⟨Y1, fun {α F} => ?_, ?_⟩
    · refine zgd_eq (jd_o hJD) (bnd_eq (show c158 n jd (some pl) (nI f) a Y = some (0, Y) from hl) ?_)
      dsimp only
      rw [if_pos rfl]
      refine zgd_eq (jd_o hJD) (bnd_eq (x := ((), Y1)) ?_ rfl)
      unfold c170
      exact bnd_eq rfl (bnd_eq (yR_of (r := some (l 4)) hpl rfl) (bnd_eq rfl (zgd_eq (lsx_o hx4) (bnd_eq (lsx_g hx4 k1 (by omega)) (zgd_eq (yk2 k2.1 rfl) e1)))))
    · show TLD Y jd A K vI vW pl l rc sq bd xs L Y1 (byI K L.1 L.2.1 (K, ins K L.1) W f)
      unfold byI
      rw [hgd]
      exact e2
end
end ZKT

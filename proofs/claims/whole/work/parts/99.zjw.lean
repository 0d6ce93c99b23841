/-! THE CLASS READS: rules, segments -/
section ZJW
section
variable {n : Nat} {Y Y0 Y1 Y2 Ys Z : zY} {a b s p m e tp r q rd pl W W2 WE lo x c : Nat} {S S1 F F1 F2 : List Nat} {T : List Int32} {t : Tk} {ts : List Tk} {v u off : Int32} {o o' : yO} {nx nm sa : Value} {l : Nat → Nat} {os rc sq fl c1 L : Nat} {k : Nat × List (List Int32)} {spl : List Spl} {sh : List (Int32 × Int32)} {xs : Nat → List Nat} {P : Pln} {fn ln : List (List Int32)} {fs : List Value}
theorem cls_ne {c c' : Nat} {fs fs' : List Value} (h : Y.1 a = some (oB c fs)) (h' : Y.1 b = some (oB c' fs')) (hc : c ≠ c') : a ≠ b := fun e => by
  rw [e, h'] at h
  exact hc (congrArg (fun o : Option yO => match o with | some (.inl (c, _)) => c | _ => 0) h).symm
theorem tkO_c (hc : c ≠ 9) : tkO (oB c fs) = false := by
  show Nat.beq c 9 = false
  cases h : Nat.beq c 9 with
  | false => rfl
  | true => exact absurd (Nat.eq_of_beq_eq_true h) hc
theorem PRT_w {φ : Den} {F : List Nat} {kk : Nat} (hq : Y.1 q = some (oB c fs)) (h3 : c ≠ 3) (h9 : c ≠ 9) (h : PRT Y kk a φ nx F) : PRT (yu Y q (some o')) kk a φ nx F := PRT_f (RTk_w hq (tkO_c h9)) kk (fun d _ fs' hd => (yu_n (cls_ne hd hq (fun e => h3 e.symm))).trans hd) h
theorem RSg_w {φ : Den} (hq : Y.1 q = some (oB c fs)) (h3 : c ≠ 3) (h9 : c ≠ 9) (h : RSg Y x φ) : RSg (yu Y q (some o')) x φ := by
  obtain ⟨F, h⟩ := h
  exact ⟨F, PRT_w hq h3 h9 h⟩
theorem SVX_w (hq : Y.1 q = some (oB c fs)) (h7 : c ≠ 7) (h : SVX Y lo x nm sa sh L) : SVX (yu Y q (some o')) lo x nm sa sh L := by
  obtain ⟨a1, a2, h1, h2, h3, h4⟩ := h
  refine ⟨a1, a2, (yu_n (cls_ne h1 hq (fun e => h7 e.symm))).trans h1, ?_, ?_, h4⟩
  · rw [yu_n]
    · exact h2
    · intro e; rw [e, hq] at h2; cases h2
  · rw [yu_n]
    · exact h3
    · intro e; rw [e, hq] at h3; cases h3
theorem RSp_w {sp : Spl} (hq : Y.1 q = some (oB c fs)) (h7 : c ≠ 7) (h9 : c ≠ 9) (h : RSp Y x sp) : RSp (yu Y q (some o')) x sp := by
  obtain ⟨wt, st, L, h1, h2, h3⟩ := h
  exact ⟨wt, st, L, SVX_w hq h7 h1, RNm_t (RTk_w hq (tkO_c h9)) h2, RNm_t (RTk_w hq (tkO_c h9)) h3⟩
theorem RSv_w {s : Srv} (hq : Y.1 q = some (oB c fs)) (h7 : c ≠ 7) (h9 : c ≠ 9) (h : RSv Y spl x s) : RSv (yu Y q (some o')) spl x s := by
  cases s with
  | inl v => exact SVX_w hq h7 h
  | inr i =>
    obtain ⟨sp, h1, h2⟩ := h
    exact ⟨sp, h1, RSp_w hq h7 h9 h2⟩
theorem RRl_w {R : Rul} (hq : Y.1 q = some (oB c fs)) (h3 : c ≠ 3) (h7 : c ≠ 7) (h9 : c ≠ 9) (hx : x ≠ q) (h : RRl Y spl x R) : RRl (yu Y q (some o')) spl x R := by
  obtain ⟨wa, sa, h1, h2, h3', h4⟩ := h
  exact ⟨wa, sa, (yu_n hx).trans h1, RSg_w hq h3 h9 h2, RSv_w hq h7 h9 h3', h4⟩
def setPt (P : Pln) (q : Nat) : Pln := (P.1, P.2.1, P.2.2.1, P.2.2.2.1, P.2.2.2.2.1, P.2.2.2.2.2.1, q)
def setSp (P : Pln) (sp : List Spl) : Pln := (P.1, P.2.1, P.2.2.1, P.2.2.2.1, P.2.2.2.2.1, sp, P.2.2.2.2.2.2)
def addR (P : Pln) (R : Rul) : Pln := (P.1, P.2.1, P.2.2.1, P.2.2.2.1 ++ [R], P.2.2.2.2.1, P.2.2.2.2.2.1, P.2.2.2.2.2.2)
theorem PLK_e {q : Nat} (h : PLK Y pl l rc sq P xs fn ln) (hR : RS rd pl W Y ts) (hf : FR Y Y1 [rd, pl]) (hP : PLC Y1 pl l P.2.2.2.2.1.length q rc sq) (hq : q ≤ 400) : PLK Y1 pl l rc sq (setPt P q) xs fn ln := by
  obtain ⟨g1, g2⟩ := PLK_rd h hR
  obtain ⟨h1, h2, h3, h4, h5, h6, h7, h8, h9⟩ := h
  exact ⟨hP, LLS_k h2 hf (fun j hj => by simpa using ⟨g2 j hj, LLS_pl h2 h1 hj⟩), SEM_k hf.2.2 h3, h4, h5, h6, h7, hq, h9⟩
theorem PLK_s {xs' : List Nat} {sp more : List Spl} (h : PLK Y pl l rc sq P xs fn ln) (hR : RS rd pl W Y ts) (hf : FR Y Y1 [rd, l 7]) (hx : LSX Y1 (l 7) xs') (hA : AL (RSp Y1) xs' sp) (hm : sp = P.2.2.2.2.2.1 ++ more) (hl : sp.length ≤ 100) : PLK Y1 pl l rc sq (setSp P sp) (upL xs 7 xs') fn ln := by
  obtain ⟨g1, g2⟩ := PLK_rd h hR
  obtain ⟨h1, h2, h3, h4, h5, h6, h7, h8, h9⟩ := h
  refine ⟨PLC_k h1 hf (by simpa using ⟨g1, (LLS_pl h2 h1 (show 7 < 8 by omega)).symm⟩), LLS_1 h2 hf (fun j hj hn => by simpa using ⟨g2 j hj, fun e => hn (h2.2 j 7 hj (by omega) e)⟩) hx, ?_, h4, h5, h6, hl, h8, h9⟩
  obtain ⟨s1, s2, s3, s4, s5, s6⟩ := h3
  refine ⟨?_, ?_, ?_, ?_, ?_, ?_⟩
  · rw [upL_n (by omega)]; exact AL_imp (fun x y => RNm_k hf.2.2) s1
  · rw [upL_n (by omega)]; exact AL_imp (fun x y => RSg_k hf.2.2) s2
  · rw [upL_n (by omega)]
    show AL (RRl Y1 sp) (xs 6) P.2.2.2.1
    rw [hm]
    exact AL_imp (fun x y => RRl_k hf.2.2) s3
  · rw [upL_s]; exact hA
  · rw [upL_n (by omega)]; exact AL_imp (fun x y => RNm_k hf.2.2) s5
  · rw [upL_n (by omega)]; exact AL_imp (fun x y => RNm_k hf.2.2) s6
theorem PLK_a {r : Nat} {R : Rul} (h : PLK Y pl l rc sq P xs fn ln) (hf : FR Y Y1 [l 6]) (hx : LSX Y1 (l 6) (xs 6 ++ [r])) (hr : RRl Y P.2.2.2.2.2.1 r R) (hl : P.2.2.2.1.length < 100) : PLK Y1 pl l rc sq (addR P R) (upL xs 6 (xs 6 ++ [r])) fn ln := by
  obtain ⟨h1, h2, h3, h4, h5, h6, h7, h8, h9⟩ := h
  refine ⟨PLC_k h1 hf (by simpa using (LLS_pl h2 h1 (show 6 < 8 by omega)).symm), LLS_1 h2 hf (fun j hj hn => by simpa using fun e => hn (h2.2 j 6 hj (by omega) e)) hx, ?_, h4, by show (P.2.2.2.1 ++ [R]).length ≤ 100; rw [List.length_append]; show P.2.2.2.1.length + 1 ≤ 100; omega, h6, h7, h8, h9⟩
  obtain ⟨s1, s2, s3, s4, s5, s6⟩ := SEM_k hf.2.2 h3
  have hr' : RRl Y1 P.2.2.2.2.2.1 r R := by
    have := RRl_k (more := []) hf.2.2 hr
    rw [List.append_nil] at this
    exact this
  refine ⟨?_, ?_, ?_, ?_, ?_, ?_⟩
  · rw [upL_n (by omega)]; exact s1
  · rw [upL_n (by omega)]; exact s2
  · rw [upL_s]; exact AL_app s3 hr'
  · rw [upL_n (by omega)]; exact s4
  · rw [upL_n (by omega)]; exact s5
  · rw [upL_n (by omega)]; exact s6
/-- another cell is written -/
theorem PLK_w (h : PLK Y pl l rc sq P xs fn ln) (hq : Y.1 q = some (oB c fs)) (h3 : c ≠ 3) (h4 : c ≠ 4) (h7 : c ≠ 7) (h9 : c ≠ 9) (hx : ∀ x ∈ xs 6, x ≠ q) : PLK (yu Y q (some o')) pl l rc sq P xs fn ln := by
  obtain ⟨g1, g2, g3, g4⟩ := h
  refine ⟨PLC_u g1 hq h4, ⟨fun j hj => ?_, g2.2⟩, ?_, g4⟩
  · obtain ⟨⟨cap, x1, x2⟩, x3⟩ := g2.1 j hj
    refine ⟨⟨cap, ?_, x2⟩, x3⟩
    rw [yu_n]
    · exact x1
    · intro e; rw [e, hq] at x1; cases x1
  · obtain ⟨s1, s2, s3, s4, s5, s6⟩ := g3
    have hT : ∀ x t, RTk Y x t → RTk (yu Y q (some o')) x t := RTk_w hq (tkO_c h9)
    refine ⟨AL_imp (fun x y => RNm_t hT) s1, AL_imp (fun x y => RSg_w hq h3 h9) s2, ?_, AL_imp (fun x y => RSp_w hq h7 h9) s4, AL_imp (fun x y => RNm_t hT) s5, AL_imp (fun x y => RNm_t hT) s6⟩
    have : ∀ {zs : List Nat} {rs : List Rul}, AL (RRl Y P.2.2.2.2.2.1) zs rs → (∀ x ∈ zs, x ≠ q) → AL (RRl (yu Y q (some o')) P.2.2.2.2.2.1) zs rs := by
      intro zs
      induction zs with
      | nil => intro rs; cases rs with
        | nil => intro _ _; trivial
        | cons a b => intro h; exact h.elim
      | cons z zs ih => intro rs; cases rs with
        | nil => intro h; exact h.elim
        | cons a b => intro h hz; exact ⟨RRl_w hq h3 h7 h9 (hz z List.mem_cons_self) h.1, ih h.2 (fun x hx => hz x (List.mem_cons_of_mem _ hx))⟩
    exact this s3 hx
theorem exp_c {segs : List (List Int32)} (h : RS rd pl W Y ts) (hP : PE Y pl l os rc sq p segs) (hn : 6002 ≤ n) (hE : W ≤ WE + 200) : CR rd pl Y [rd, pl] W WE (c77 n 64 rd (some 32) 0 Y) (sExp segs ts p) (fun x => x.2.1) (QE Y pl l os rc sq 43) := ex_all hn 64 0 0 (by omega) (by omega) (by omega) h hE hP
theorem KN_kk (h : KN Y fl c1 k) (hf : FR Y Y1 S) (hS : ∀ a ∈ S, a = rd ∨ a = pl ∨ (∃ j, j < 8 ∧ a = l j) ∨ Y.2.1 ≤ a) (hP : PLK Y pl l rc sq P xs fn ln) (hR : RS rd pl W Y ts) (hc : ∀ j, j < 8 → c1 ≠ l j) : KN Y1 fl c1 k := by
  obtain ⟨⟨rr, g1⟩, g2, g3⟩ := h
  have hfl : fl ∉ S := fun e => by
    rcases hS _ e with d | d | ⟨j, hj, d⟩ | d
    · exact RS_ne hR g1 (by decide) d
    · exact cls_ne g1 hP.1.1 (by decide) d
    · obtain ⟨⟨cap, x1, _⟩, _⟩ := hP.2.1.1 j hj
      rw [d, x1] at g1; cases g1
    · have := hR.1.2.2 _ _ g1; omega
  have hc1 : c1 ∉ S := fun e => by
    have g2' := g2
    obtain ⟨zs, cap, x1, _⟩ := g2'
    rcases hS _ e with d | d | ⟨j, hj, d⟩ | d
    · obtain ⟨_, ⟨⟨_, _, _, k1, _⟩, _⟩, _⟩ := hR
      rw [d, k1] at x1; cases x1
    · have := hP.1.1
      rw [d, this] at x1; cases x1
    · exact hc j hj d
    · have := hR.1.2.2 _ _ x1; omega
  exact ⟨⟨rr, FR_k hf g1 hfl⟩, LSY_k g2 hf hc1 (fun x y => RNm_k hf.2.2), g3⟩
/-- behind rule: when, then -/
theorem ru_ok {α σ : Type} {K : Int32 × zY → Option ((α ⊕ Nat) × zY)} {g : Pln × List Tk → RR σ} {LL : σ → List Tk} {Q : zY → σ → α → Prop} {f : Nat} {li : Int32} (h : RS rd pl W Y ts) (hP : PLK Y pl l rc sq P xs fn ln) (hK : KN Y fl c1 k) (hc : ∀ j, j < 8 → c1 ≠ l j) (hf24 : f < 24) (h100 : P.2.2.2.1.length < 100) (hn : 6002 ≤ n) (hE : W ≤ WE + 50) (hf0 : FR Y0 Y S) (hD0 : DM Y0) (hS : ∀ a ∈ [rd, pl, l 6, l 7], a ∈ S ∨ Y0.2.1 ≤ a)
    (kk : ∀ Y1 ts1 R sp q x7 r more, RS rd pl W Y1 ts1 → FR Y Y1 [rd, pl, l 6, l 7] → FR Y0 Y1 S → PLK Y1 pl l rc sq (addR (setSp (setPt P q) sp) R) (upL (upL xs 7 x7) 6 (xs 6 ++ [r])) fn ln → R.1 = f → R.2.1 = li → sp = P.2.2.2.2.2.1 ++ more → CR rd pl Y0 S W2 WE (K (1, Y1)) (g (addR (setSp (setPt P q) sp) R, ts1)) LL Q) :
    CR rd pl Y0 S W2 WE ((c77 n 64 rd (some 32) 0 Y).bind fun p30 => zth p30 (fun r27 h28 => zgd (yisO h28 rd 5) <| (c71 n rd (some 14) h28).bind fun p36 => zth p36 (fun r33 h34 => (yR h34 rd 5 0).bind fun x37 => x37.bind fun a39 => (yR h34 a39 4 6).bind fun x40 => zgd (yisO (yN h34 6 3) rd 5) <| (c95 n rd (some fl) (yN h34 6 3)).bind fun p47 => zth p47 (fun r44 h45 => (c106 n h34.2.1 (nI f) r27 r44 h45).bind fun p49 => x40.bind fun a50 => zgd (yisO p49.2 a50 14) <| (c86 n a50 (some h34.2.1) p49.2).bind K) (fun x46 h45 => zgd (exOk x46) <| some (.inr x46, h45))) (fun x35 h34 => zgd (exOk x35) <| some (.inr x35, h34))) (fun x29 h28 => zgd (exOk x29) <| some (.inr x29, h28))) (rb (sRul P f li k ts) g) LL Q := by
  have hD := h.1.2
  have h231 := hD.1
  have hW := h.2.2
  have hlt := rdr_len h.2.1
  obtain ⟨pr, lr⟩ := PLK_rd hP h
  have hBS : ∀ a ∈ [rd, pl], a ∈ S ∨ Y0.2.1 ≤ a := fun a h => hS a (by
    rcases List.mem_cons.mp h with e | e
    · rw [e]; simp
    · rw [List.mem_singleton.mp e]; simp)
  have hB1 : ∀ a ∈ [rd], a ∈ S ∨ Y0.2.1 ≤ a := fun a h => hBS a (by rw [List.mem_singleton.mp h]; simp)
  unfold sRul
  rw [rb_assoc]
  refine CR_b (exp_c h (PLK_PE hP) hn (by omega)) hf0 hBS hD0 ?_
  rintro ⟨φ, ts1, p1⟩ v Y1 hS1 hf1 hf01 ⟨wa, Fw, rfl, w1, w2, w3, w4⟩
  dsimp only at hS1 w1 w3 w4 ⊢
  have hP1 : PLK Y1 pl l rc sq (setPt P p1) xs fn ln := PLK_e hP h hf1 w3 w4
  rw [rb_assoc, rb_eat]
  refine CR_g (rdr_o hS1.2.1) ?_
  refine CR_b (tk_ok (s := 13) hS1 (by omega) (by omega)) hf01 hB1 hD0 ?_
  rintro ⟨t2, ts2⟩ v Y2 hS2 hf2 hf02 ⟨_, _, _, rfl, _, _, _, b3, b4⟩
  dsimp only at hS2 b3 b4 ⊢
  have hP2 := PLK_r1 hP1 hS1 hf2
  refine CR_y (rdr_p hS2.2.1) (CR_y rfl (CR_y (yR_of (r := some (l 6)) hP2.1.1 rfl) ?_))
  -- the new rule
  obtain ⟨Y3, hY3⟩ : ∃ Y3, Y3 = yN Y2 6 3 := ⟨_, rfl⟩
  rw [← hY3]
  have hB3 : BY Y3 := by rw [hY3]; exact BY_a hS2.1
  have hf3 : FR Y2 Y3 [] := by rw [hY3]; exact FR_a hS2.1.2
  have hr3 : Y3.1 Y2.2.1 = some (oB 6 [.int 0, .null, .null]) := by rw [hY3]; exact ya_s
  have hS3 : RS rd pl (W - 281) Y3 ts2 := ⟨hB3, RDR_k hS2.2.1 hf3 (by simp), by
    have e : wY Y3 = wY Y2 + 19 := by
      rw [hY3]
      show 16 * (Y2.2.2.1 + 1) + (Y2.2.2.2 + 3) = 16 * Y2.2.2.1 + Y2.2.2.2 + 19
      omega
    have := hS2.2.2
    omega⟩
  have hP3 : PLK Y3 pl l rc sq (setPt P p1) xs fn ln := PLK_k hP2 hf3 (by simp) (fun _ _ => by simp)
  have hf13 : FR Y Y3 [rd, pl] := FR_T (FR_T hf1 hf2 (fun a h => Or.inl (by rw [List.mem_singleton.mp h]; simp)) hD) hf3 (fun a h => by cases h) hD
  have hf03 : FR Y0 Y3 S := FR_T hf02 hf3 (fun a h => by cases h) hD0
  have hK3 : KN Y3 fl c1 k := KN_kk hK hf13 (fun a h => by
    rcases List.mem_cons.mp h with e | e
    · exact Or.inl e
    · exact Or.inr (Or.inl (List.mem_singleton.mp e))) hP h hc
  refine CR_g (rdr_o hS3.2.1) ?_
  rw [rb_assoc]
  have hSV : SVP Y3 pl l P.2.2.2.2.1.length p1 rc sq fl c1 k (xs 7) P.2.2.2.2.2.1 := ⟨hP3.1, hK3, hP3.2.1.1 7 (by omega), hP3.2.2.1.2.2.2.1, hP3.2.2.2.2.2.2.1, hc 7 (by omega)⟩
  have hB7 : ∀ a ∈ [rd, l 7], a ∈ S ∨ Y0.2.1 ≤ a := fun a h => hS a (by
    rcases List.mem_cons.mp h with e | e
    · rw [e]; simp
    · rw [List.mem_singleton.mp e]; simp)
  refine CR_b (se_ok hS3 hSV hn (by omega)) hf03 hB7 hD0 ?_
  rintro ⟨sv, sp, ts4⟩ v Y4 hS4 hf4 hf04 ⟨za, x7, more, rfl, z1, z2, z3, z4, z5⟩
  dsimp only at hS4 z1 z3 z4 z5 ⊢
  have hP4 : PLK Y4 pl l rc sq (setSp (setPt P p1) sp) (upL xs 7 x7) fn ln := PLK_s hP3 hS3 hf4 z2 z3 z4 z5
  have hr4 : Y4.1 Y2.2.1 = some (oB 6 [.int 0, .null, .null]) := hf4.2.2 _ _ hr3 rfl
  have hr139 : 139 ≤ Y2.2.1 := by have := hS2.1.2.1; omega
  obtain ⟨Y5, hY5⟩ : ∃ Y5, Y5 = yu Y4 Y2.2.1 (some (oB 6 [.int (nI f), .ref wa, .ref za])) := ⟨_, rfl⟩
  have e106 : c106 n Y2.2.1 (nI f) (some wa) (some za) Y4 = some ((), Y5) := by
    unfold c106
    refine bnd_eq (yP_of hr4 hr139 rfl rfl) ?_
    refine bnd_eq (yP_of yu_s hr139 rfl rfl) ?_
    rw [yu_yu]
    refine bnd_eq (yP_of yu_s hr139 rfl rfl) ?_
    rw [yu_yu, hY5]
    rfl
  have hrr : Y2.2.1 ≠ rd := RS_ne hS4 hr4 (by decide)
  have hx6 : ∀ x ∈ (upL xs 7 x7) 6, x ≠ Y2.2.1 := by
    rw [upL_n (by omega)]
    intro x hx e
    have hal := hP4.2.2.1.2.2.1
    rw [upL_n (by omega)] at hal
    have : ∀ {zs : List Nat} {rs : List Rul}, AL (RRl Y4 sp) zs rs → ∀ x ∈ zs, ∃ wa sa i, Y4.1 x = some (oB 6 [.int i, .ref wa, .ref sa]) := by
      intro zs
      induction zs with
      | nil => intro rs _ x hx; cases hx
      | cons z zs ih => intro rs; cases rs with
        | nil => intro h; exact h.elim
        | cons a b =>
          intro h x hx
          rcases List.mem_cons.mp hx with e | e
          · obtain ⟨wa, sa, g, _⟩ := h.1
            exact ⟨wa, sa, _, by rw [e]; exact g⟩
          · exact ih h.2 x e
    obtain ⟨wa', sa', i', g⟩ := this hal x hx
    rw [e, hr4] at g
    cases g
  have hP5 : PLK Y5 pl l rc sq (setSp (setPt P p1) sp) (upL xs 7 x7) fn ln := by rw [hY5]; exact PLK_w hP4 hr4 (by decide) (by decide) (by decide) (by decide) hx6
  have hS5 : RS rd pl (W - 281 - 300) Y5 ts4 := by rw [hY5]; exact RS_w hS4 hr4 rfl hrr hr139
  have hfY4 : FR Y Y4 [rd, pl, l 6, l 7] := FR_T (FR_M hf13 (by simp)) hf4 (fun a h => Or.inl (by
    rcases List.mem_cons.mp h with e | e
    · rw [e]; simp
    · rw [List.mem_singleton.mp e]; simp)) hD
  have hf5 : FR Y Y5 [rd, pl, l 6, l 7] := by rw [hY5]; exact FR_n hfY4 hD (by have := hf1.1; have := hf2.1; omega)
  have hf05 : FR Y0 Y5 S := by rw [hY5]; exact FR_n hf04 hD0 (by have := hf02.1; omega)
  refine CR_y e106 (CR_y rfl ?_)
  have hl6 := hP5.2.1.1 6 (by omega)
  have hlen6 := AL_len hP5.2.2.1.2.2.1
  rw [upL_n (by omega)] at hl6 hlen6
  have hlen6 : (xs 6).length = P.2.2.2.1.length := hlen6
  have hr5 : Y5.1 Y2.2.1 = some (oB 6 [.int (nI f), .ref wa, .ref za]) := by rw [hY5]; exact yu_s
  obtain ⟨Y6, d1, d2, d3, d4, d5⟩ := lsx_a (n := n) hS5.1 hl6 hr5 (by decide) (by omega)
  refine CR_g (lsx_o hl6) (CR_y d1 ?_)
  have hRR : RRl Y5 sp Y2.2.1 (f, li, φ, sv) := ⟨wa, za, hr5, by rw [hY5]; exact RSg_w hr4 (by decide) (by decide) (RSg_k (IMK_T hf2.2.2 (IMK_T hf3.2.2 hf4.2.2)) ⟨Fw, w1⟩), by rw [hY5]; exact RSv_w hr4 (by decide) (by decide) z1, hf24⟩
  have hP6 := PLK_a (r := Y2.2.1) (R := (f, li, φ, sv)) hP5 d3 (by rw [upL_n (by omega)]; exact d5) hRR h100
  rw [upL_n (show (6 : Nat) ≠ 7 by omega)] at hP6
  refine kk Y6 ts4 (f, li, φ, sv) sp p1 x7 Y2.2.1 more ⟨d2, RDR_k hS5.2.1 d3 (by simpa using (lr 6 (by omega)).symm), ?_⟩ (FR_T hf5 d3 (fun a h => Or.inl (by rw [List.mem_singleton.mp h]; simp)) hD) (FR_T hf05 d3 (fun a h => hS a (by rw [List.mem_singleton.mp h]; simp)) hD0) hP6 rfl rfl z4
  have := hS5.2.2
  omega
end
end ZJW

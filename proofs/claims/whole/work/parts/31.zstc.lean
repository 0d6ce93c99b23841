/-! THE START, fourth text: the classes, the constants' facts, the fixed objects (written by a program of the verifier's) -/
section ZSTC
theorem zmc {α : Type} {P : α → Prop} {a : α} {l : List α} (h : P a) (hl : ∀ w ∈ l, P w) : ∀ w ∈ a :: l, P w := fun w hw => (List.mem_cons.mp hw).elim (fun q => q ▸ h) (hl w)
theorem zmn {α : Type} {P : α → Prop} : ∀ w ∈ ([] : List α), P w := fun _ h => by cases h
variable {s : State} {b : Nat}
/-- all that is given at the start -/
def zGv (s : State) (b : Nat) : Prop := (∀ w ∈ lw_tbl, w.before #[Value.ref b] s = true) ∧ (∀ c ∈ flatC narrow_1_1, c.before #[Value.ref b] s = true) ∧ (∀ c ∈ flatC narrow_1_2, c.before #[Value.ref b] s = true) ∧ (∀ c ∈ flatC narrow_1_3, c.before #[Value.ref b] s = true) ∧ (∀ c ∈ flatC narrow_1_4, c.before #[Value.ref b] s = true)
theorem zGv_of (hts : ∀ w ∈ lw_tbl, w.before #[Value.ref b] s = true) (h : (Cond.and given_1 narrow_1).before #[Value.ref b] s = true) : zGv s b := by
  rw [Cond.before_and, Bool.and_eq_true] at h
  have h2 : (Cond.and (Cond.and narrow_1_1 narrow_1_2) (Cond.and narrow_1_3 narrow_1_4)).before #[Value.ref b] s = true := h.2
  rw [Cond.before_and, Cond.before_and, Cond.before_and, Bool.and_eq_true, Bool.and_eq_true, Bool.and_eq_true] at h2
  exact ⟨hts, flat_of_before _ h2.1.1, flat_of_before _ h2.1.2, flat_of_before _ h2.2.1, flat_of_before _ h2.2.2⟩
theorem zev_ex {t : Term} {C : String} (h : (Cond.exactly t C).before #[Value.ref b] s = true) : ∃ a, t.eval #[Value.ref b] s none [] s = some (.ref a) := by
  obtain ⟨a, c, cell, kc, q1, -⟩ := Cond.exactly_spec (args := #[.ref b]) (first := s) (o := none) (s := s) (idx := []) h
  exact ⟨a, q1⟩
theorem zev_len {t : Term} {z : Int32} (h : (Cond.eq (.length t) (.int z)).before #[Value.ref b] s = true) : ∃ a, t.eval #[Value.ref b] s none [] s = some (.ref a) := by
  obtain ⟨a, cell, q1, -⟩ := Term.length_spec (va_eqt h)
  exact ⟨a, q1⟩
theorem zev_rf {C n d : String} (h : (Cond.isRef (.static C n d)).before #[Value.ref b] s = true) : ∃ v, (Term.static C n d).eval #[Value.ref b] s none [] s = some v ∧ (v = .null ∨ ∃ a, v = .ref a) := by
  obtain ⟨v, h1, h2⟩ := Cond.isRef_spec h
  refine ⟨v, h1, ?_⟩
  cases v <;> first | exact Or.inl rfl | exact Or.inr ⟨_, rfl⟩ | (cases h2; done)
set_option maxRecDepth 100000 in
theorem zab_0 : (((flatC narrow_1_1).drop 22).take 43) = zelS (Term.static "FlagLayers$Sort" "ALL" "[LFlagLayers$Sort;") 0 zSrt := rfl
set_option maxRecDepth 100000 in
theorem zgv_0 (hg : zGv s b) : ((Cond.eq (Term.length (Term.static "FlagLayers$Sort" "ALL" "[LFlagLayers$Sort;")) (Term.int 43))).before #[Value.ref b] s = true := hg.2.1 _ (zg_mem (l := flatC narrow_1_1) (i := 20) rfl)
set_option maxRecDepth 100000 in
theorem zgv_1 (hg : zGv s b) : ((Cond.eq (Term.length (Term.static "java/util/ArrayList" "DEFAULTCAPACITY_EMPTY_ELEMENTDATA" "[Ljava/lang/Object;")) (Term.int 0))).before #[Value.ref b] s = true := hg.2.1 _ (zg_mem (l := flatC narrow_1_1) (i := 5) rfl)
set_option maxHeartbeats 4000000 in
set_option maxRecDepth 100000 in
theorem zevs (hg : zGv s b) : ∀ tm ∈ zroT, ∃ a, tm.eval #[Value.ref b] s none [] s = some (.ref a) := zmc (zev_ex ((zblk zeb_0 hg.2.1) _ List.mem_cons_self)) (zmc (zev_ex ((zblk zeb_1 hg.2.1) _ List.mem_cons_self)) (zmc (zev_ex ((zblk zeb_2 hg.2.1) _ List.mem_cons_self)) (zmc (zev_ex ((zblk zeb_3 hg.2.1) _ List.mem_cons_self)) (zmc (zev_ex ((zblk zeb_4 hg.2.1) _ List.mem_cons_self)) (zmc (zev_ex ((zblk zeb_5 hg.2.1) _ List.mem_cons_self)) (zmc (zev_ex ((zblk zeb_6 hg.2.2.1) _ List.mem_cons_self)) (zmc (zev_ex ((zblk zeb_7 hg.2.1) _ List.mem_cons_self)) (zmc (zev_ex ((zblk zeb_8 hg.2.1) _ List.mem_cons_self)) (zmc (zev_ex ((zblk zeb_9 hg.2.1) _ List.mem_cons_self)) (zmc (zev_ex ((zblk zeb_10 hg.2.1) _ List.mem_cons_self)) (zmc (zev_ex ((zblk zeb_11 hg.2.1) _ List.mem_cons_self)) (zmc (zev_ex ((zblk zeb_12 hg.2.1) _ List.mem_cons_self)) (zmc (zev_ex ((zblk zeb_13 hg.2.1) _ List.mem_cons_self)) (zmc (zev_ex ((zblk zeb_14 hg.2.2.1) _ List.mem_cons_self)) (zmc (zev_ex ((zblk zeb_15 hg.2.1) _ List.mem_cons_self)) (zmc (zev_ex ((zblk zeb_16 hg.2.1) _ List.mem_cons_self)) (zmc (zev_ex ((zblk zeb_17 hg.2.1) _ List.mem_cons_self)) (zmc (zev_ex ((zblk zeb_18 hg.2.1) _ List.mem_cons_self)) (zmc (zev_ex ((zblk zeb_19 hg.2.2.1) _ List.mem_cons_self)) (zmc (zev_ex ((zblk zeb_20 hg.2.2.1) _ List.mem_cons_self)) (zmc (zev_ex ((zblk zeb_21 hg.2.2.1) _ List.mem_cons_self)) (zmc (zev_ex ((zblk zeb_22 hg.2.2.1) _ List.mem_cons_self)) (zmc (zev_ex ((zblk zeb_23 hg.2.2.1) _ List.mem_cons_self)) (zmc (zev_ex ((zblk zeb_24 hg.2.2.1) _ List.mem_cons_self)) (zmc (zev_ex ((zblk zeb_25 hg.2.2.1) _ List.mem_cons_self)) (zmc (zev_ex ((zblk zeb_26 hg.2.1) _ List.mem_cons_self)) (zmc (zev_ex ((zblk zeb_27 hg.2.1) _ List.mem_cons_self)) (zmc (zev_ex ((zblk zeb_28 hg.2.1) _ List.mem_cons_self)) (zmc (zev_ex ((zblk zeb_29 hg.2.1) _ List.mem_cons_self)) (zmc (zev_ex ((zblk zeb_30 hg.2.1) _ List.mem_cons_self)) (zmc (zev_ex ((zblk zeb_31 hg.2.1) _ List.mem_cons_self)) (zmc (zev_ex ((zblk zeb_32 hg.2.1) _ List.mem_cons_self)) (zmc (zev_ex ((zblk zeb_33 hg.2.1) _ List.mem_cons_self)) (zmc (zev_ex ((zblk zeb_34 hg.2.1) _ List.mem_cons_self)) (zmc (zev_ex ((zblk zeb_35 hg.2.1) _ List.mem_cons_self)) (zmc (zev_ex ((zblk zeb_36 hg.2.2.1) _ List.mem_cons_self)) (zmc (zev_ex ((zblk zeb_37 hg.2.2.1) _ List.mem_cons_self)) (zmc (zev_ex ((zblk zeb_38 hg.2.2.1) _ List.mem_cons_self)) (zmc (zev_ex ((zblk zeb_39 hg.2.2.1) _ List.mem_cons_self)) (zmc (zev_ex ((zblk zeb_40 hg.2.2.1) _ List.mem_cons_self)) (zmc (zev_ex ((zblk zeb_41 hg.2.1) _ List.mem_cons_self)) (zmc (zev_ex ((zblk zeb_42 hg.2.1) _ List.mem_cons_self)) (zmc (zev_len (zgv_0 hg)) (zmc (zev_len ((zblk zwb_0 hg.2.1) _ (List.mem_cons_of_mem _ List.mem_cons_self))) (zmc (zev_len ((zblk zwb_1 hg.2.1) _ (List.mem_cons_of_mem _ List.mem_cons_self))) (zmc (zev_len ((zblk zwb_2 hg.2.1) _ (List.mem_cons_of_mem _ List.mem_cons_self))) (zmc (zev_len (zgv_1 hg)) (zmc (zev_ex ((zblk zsb_0 hg.2.2.2.2) _ List.mem_cons_self)) (zmc (zev_len ((zblk zsb_0 hg.2.2.2.2) _ (List.mem_cons_of_mem _ (List.mem_cons_of_mem _ (List.mem_cons_of_mem _ List.mem_cons_self))))) (zmc (zev_ex ((zblk zsb_1 hg.2.2.1) _ List.mem_cons_self)) (zmc (zev_len ((zblk zsb_1 hg.2.2.1) _ (List.mem_cons_of_mem _ (List.mem_cons_of_mem _ (List.mem_cons_of_mem _ List.mem_cons_self))))) (zmc (zev_ex ((zblk zsb_2 hg.2.2.2.1) _ List.mem_cons_self)) (zmc (zev_len ((zblk zsb_2 hg.2.2.2.1) _ (List.mem_cons_of_mem _ (List.mem_cons_of_mem _ (List.mem_cons_of_mem _ List.mem_cons_self))))) (zmc (zev_ex ((zblk zsb_3 hg.2.2.2.1) _ List.mem_cons_self)) (zmc (zev_len ((zblk zsb_3 hg.2.2.2.1) _ (List.mem_cons_of_mem _ (List.mem_cons_of_mem _ (List.mem_cons_of_mem _ List.mem_cons_self))))) (zmc (zev_ex ((zblk zsb_4 hg.2.2.2.2) _ List.mem_cons_self)) (zmc (zev_len ((zblk zsb_4 hg.2.2.2.2) _ (List.mem_cons_of_mem _ (List.mem_cons_of_mem _ (List.mem_cons_of_mem _ List.mem_cons_self))))) (zmc (zev_ex ((zblk zsb_5 hg.2.2.2.2) _ List.mem_cons_self)) (zmc (zev_len ((zblk zsb_5 hg.2.2.2.2) _ (List.mem_cons_of_mem _ (List.mem_cons_of_mem _ (List.mem_cons_of_mem _ List.mem_cons_self))))) (zmc (zev_ex ((zblk zsb_6 hg.2.2.2.2) _ List.mem_cons_self)) (zmc (zev_len ((zblk zsb_6 hg.2.2.2.2) _ (List.mem_cons_of_mem _ (List.mem_cons_of_mem _ (List.mem_cons_of_mem _ List.mem_cons_self))))) (zmc (zev_ex ((zblk zsb_7 hg.2.2.2.1) _ List.mem_cons_self)) (zmc (zev_len ((zblk zsb_7 hg.2.2.2.1) _ (List.mem_cons_of_mem _ (List.mem_cons_of_mem _ (List.mem_cons_of_mem _ List.mem_cons_self))))) (zmc (zev_ex ((zblk zsb_8 hg.2.2.2.1) _ List.mem_cons_self)) (zmc (zev_len ((zblk zsb_8 hg.2.2.2.1) _ (List.mem_cons_of_mem _ (List.mem_cons_of_mem _ (List.mem_cons_of_mem _ List.mem_cons_self))))) (zmc (zev_ex ((zblk zsb_9 hg.2.2.2.1) _ List.mem_cons_self)) (zmc (zev_len ((zblk zsb_9 hg.2.2.2.1) _ (List.mem_cons_of_mem _ (List.mem_cons_of_mem _ (List.mem_cons_of_mem _ List.mem_cons_self))))) (zmc (zev_ex ((zblk zsb_10 hg.2.2.2.2) _ List.mem_cons_self)) (zmc (zev_len ((zblk zsb_10 hg.2.2.2.2) _ (List.mem_cons_of_mem _ (List.mem_cons_of_mem _ (List.mem_cons_of_mem _ List.mem_cons_self))))) (zmc (zev_ex ((zblk zsb_11 hg.2.2.2.2) _ List.mem_cons_self)) (zmc (zev_len ((zblk zsb_11 hg.2.2.2.2) _ (List.mem_cons_of_mem _ (List.mem_cons_of_mem _ (List.mem_cons_of_mem _ List.mem_cons_self))))) (zmc (zev_ex ((zblk zsb_12 hg.2.2.2.2) _ List.mem_cons_self)) (zmc (zev_len ((zblk zsb_12 hg.2.2.2.2) _ (List.mem_cons_of_mem _ (List.mem_cons_of_mem _ (List.mem_cons_of_mem _ List.mem_cons_self))))) (zmc (zev_ex ((zblk zsb_13 hg.2.2.2.2) _ List.mem_cons_self)) (zmc (zev_len ((zblk zsb_13 hg.2.2.2.2) _ (List.mem_cons_of_mem _ (List.mem_cons_of_mem _ (List.mem_cons_of_mem _ List.mem_cons_self))))) (zmc (zev_ex ((zblk zsb_14 hg.2.2.2.2) _ List.mem_cons_self)) (zmc (zev_len ((zblk zsb_14 hg.2.2.2.2) _ (List.mem_cons_of_mem _ (List.mem_cons_of_mem _ (List.mem_cons_of_mem _ List.mem_cons_self))))) (zmc (zev_ex ((zblk zsb_15 hg.2.2.2.2) _ List.mem_cons_self)) (zmc (zev_len ((zblk zsb_15 hg.2.2.2.2) _ (List.mem_cons_of_mem _ (List.mem_cons_of_mem _ (List.mem_cons_of_mem _ List.mem_cons_self))))) (zmc (zev_ex ((zblk zsb_16 hg.2.2.2.2) _ List.mem_cons_self)) (zmc (zev_len ((zblk zsb_16 hg.2.2.2.2) _ (List.mem_cons_of_mem _ (List.mem_cons_of_mem _ (List.mem_cons_of_mem _ List.mem_cons_self))))) (zmc (zev_ex ((zblk zsb_17 hg.2.2.2.2) _ List.mem_cons_self)) (zmc (zev_len ((zblk zsb_17 hg.2.2.2.2) _ (List.mem_cons_of_mem _ (List.mem_cons_of_mem _ (List.mem_cons_of_mem _ List.mem_cons_self))))) (zmc (zev_ex ((zblk zsb_18 hg.2.2.2.2) _ List.mem_cons_self)) (zmc (zev_len ((zblk zsb_18 hg.2.2.2.2) _ (List.mem_cons_of_mem _ (List.mem_cons_of_mem _ (List.mem_cons_of_mem _ List.mem_cons_self))))) (zmc (zev_ex ((zblk zsb_19 hg.2.2.2.2) _ List.mem_cons_self)) (zmc (zev_len ((zblk zsb_19 hg.2.2.2.2) _ (List.mem_cons_of_mem _ (List.mem_cons_of_mem _ (List.mem_cons_of_mem _ List.mem_cons_self))))) (zmc (zev_ex ((zblk zsb_20 hg.2.2.2.2) _ List.mem_cons_self)) (zmc (zev_len ((zblk zsb_20 hg.2.2.2.2) _ (List.mem_cons_of_mem _ (List.mem_cons_of_mem _ (List.mem_cons_of_mem _ List.mem_cons_self))))) (zmc (zev_ex ((zblk zsb_21 hg.2.2.2.2) _ List.mem_cons_self)) (zmc (zev_len ((zblk zsb_21 hg.2.2.2.2) _ (List.mem_cons_of_mem _ (List.mem_cons_of_mem _ (List.mem_cons_of_mem _ List.mem_cons_self))))) (zmc (zev_ex ((zblk zsb_22 hg.2.2.2.2) _ List.mem_cons_self)) (zmc (zev_len ((zblk zsb_22 hg.2.2.2.2) _ (List.mem_cons_of_mem _ (List.mem_cons_of_mem _ (List.mem_cons_of_mem _ List.mem_cons_self))))) (zmc (zev_ex ((zblk zsb_23 hg.2.2.2.2) _ List.mem_cons_self)) (zmc (zev_len ((zblk zsb_23 hg.2.2.2.2) _ (List.mem_cons_of_mem _ (List.mem_cons_of_mem _ (List.mem_cons_of_mem _ List.mem_cons_self))))) (zmc (zev_ex ((zblk zsb_24 hg.2.2.2.2) _ List.mem_cons_self)) (zmc (zev_len ((zblk zsb_24 hg.2.2.2.2) _ (List.mem_cons_of_mem _ (List.mem_cons_of_mem _ (List.mem_cons_of_mem _ List.mem_cons_self))))) (zmc (zev_ex ((zblk zsb_25 hg.2.2.2.2) _ List.mem_cons_self)) (zmc (zev_len ((zblk zsb_25 hg.2.2.2.2) _ (List.mem_cons_of_mem _ (List.mem_cons_of_mem _ (List.mem_cons_of_mem _ List.mem_cons_self))))) (zmc (zev_ex ((zblk zsb_26 hg.2.2.2.2) _ List.mem_cons_self)) (zmc (zev_len ((zblk zsb_26 hg.2.2.2.2) _ (List.mem_cons_of_mem _ (List.mem_cons_of_mem _ (List.mem_cons_of_mem _ List.mem_cons_self))))) (zmc (zev_ex ((zblk zsb_27 hg.2.2.2.2) _ List.mem_cons_self)) (zmc (zev_len ((zblk zsb_27 hg.2.2.2.2) _ (List.mem_cons_of_mem _ (List.mem_cons_of_mem _ (List.mem_cons_of_mem _ List.mem_cons_self))))) (zmc (zev_ex ((zblk zsb_28 hg.2.2.2.2) _ List.mem_cons_self)) (zmc (zev_len ((zblk zsb_28 hg.2.2.2.2) _ (List.mem_cons_of_mem _ (List.mem_cons_of_mem _ (List.mem_cons_of_mem _ List.mem_cons_self))))) (zmc (zev_ex ((zblk zsb_29 hg.2.2.2.2) _ List.mem_cons_self)) (zmc (zev_len ((zblk zsb_29 hg.2.2.2.2) _ (List.mem_cons_of_mem _ (List.mem_cons_of_mem _ (List.mem_cons_of_mem _ List.mem_cons_self))))) (zmc (zev_ex ((zblk zsb_30 hg.2.2.2.2) _ List.mem_cons_self)) (zmc (zev_len ((zblk zsb_30 hg.2.2.2.2) _ (List.mem_cons_of_mem _ (List.mem_cons_of_mem _ (List.mem_cons_of_mem _ List.mem_cons_self))))) (zmc (zev_ex ((zblk zsb_31 hg.2.2.2.2) _ List.mem_cons_self)) (zmc (zev_len ((zblk zsb_31 hg.2.2.2.2) _ (List.mem_cons_of_mem _ (List.mem_cons_of_mem _ (List.mem_cons_of_mem _ List.mem_cons_self))))) (zmc (zev_ex ((zblk zsb_32 hg.2.2.2.2) _ List.mem_cons_self)) (zmc (zev_len ((zblk zsb_32 hg.2.2.2.2) _ (List.mem_cons_of_mem _ (List.mem_cons_of_mem _ (List.mem_cons_of_mem _ List.mem_cons_self))))) (zmc (zev_ex ((zblk zsb_33 hg.2.2.2.2) _ List.mem_cons_self)) (zmc (zev_len ((zblk zsb_33 hg.2.2.2.2) _ (List.mem_cons_of_mem _ (List.mem_cons_of_mem _ (List.mem_cons_of_mem _ List.mem_cons_self))))) (zmc (zev_ex ((zblk zsb_34 hg.2.2.2.2) _ List.mem_cons_self)) (zmc (zev_len ((zblk zsb_34 hg.2.2.2.2) _ (List.mem_cons_of_mem _ (List.mem_cons_of_mem _ (List.mem_cons_of_mem _ List.mem_cons_self))))) (zmc (zev_ex ((zblk zsb_35 hg.2.2.2.2) _ List.mem_cons_self)) (zmc (zev_len ((zblk zsb_35 hg.2.2.2.2) _ (List.mem_cons_of_mem _ (List.mem_cons_of_mem _ (List.mem_cons_of_mem _ List.mem_cons_self))))) (zmc (zev_ex ((zblk zsb_36 hg.2.2.2.2) _ List.mem_cons_self)) (zmc (zev_len ((zblk zsb_36 hg.2.2.2.2) _ (List.mem_cons_of_mem _ (List.mem_cons_of_mem _ (List.mem_cons_of_mem _ List.mem_cons_self))))) (zmc (zev_ex ((zblk zsb_37 hg.2.2.2.2) _ List.mem_cons_self)) (zmc (zev_len ((zblk zsb_37 hg.2.2.2.2) _ (List.mem_cons_of_mem _ (List.mem_cons_of_mem _ (List.mem_cons_of_mem _ List.mem_cons_self))))) (zmc (zev_ex ((zblk zsb_38 hg.2.2.2.2) _ List.mem_cons_self)) (zmc (zev_len ((zblk zsb_38 hg.2.2.2.2) _ (List.mem_cons_of_mem _ (List.mem_cons_of_mem _ (List.mem_cons_of_mem _ List.mem_cons_self))))) (zmc (zev_ex ((zblk zsb_39 hg.2.2.2.2) _ List.mem_cons_self)) (zmc (zev_len ((zblk zsb_39 hg.2.2.2.2) _ (List.mem_cons_of_mem _ (List.mem_cons_of_mem _ (List.mem_cons_of_mem _ List.mem_cons_self))))) (zmc (zev_ex ((zblk zsb_40 hg.2.2.2.2) _ List.mem_cons_self)) (zmc (zev_len ((zblk zsb_40 hg.2.2.2.2) _ (List.mem_cons_of_mem _ (List.mem_cons_of_mem _ (List.mem_cons_of_mem _ List.mem_cons_self))))) (zmc (zev_ex ((zblk zsb_41 hg.2.2.2.2) _ List.mem_cons_self)) (zmc (zev_len ((zblk zsb_41 hg.2.2.2.2) _ (List.mem_cons_of_mem _ (List.mem_cons_of_mem _ (List.mem_cons_of_mem _ List.mem_cons_self))))) (zmc (zev_ex ((zblk zsb_42 hg.2.2.2.2) _ List.mem_cons_self)) (zmc (zev_len ((zblk zsb_42 hg.2.2.2.2) _ (List.mem_cons_of_mem _ (List.mem_cons_of_mem _ (List.mem_cons_of_mem _ List.mem_cons_self))))) (zmc (zev_ex ((zblk zsb_43 hg.2.2.2.2) _ List.mem_cons_self)) (zmc (zev_len ((zblk zsb_43 hg.2.2.2.2) _ (List.mem_cons_of_mem _ (List.mem_cons_of_mem _ (List.mem_cons_of_mem _ List.mem_cons_self))))) (zmc (zev_ex ((zblk zsb_44 hg.2.2.2.2) _ List.mem_cons_self)) (zmc (zev_len ((zblk zsb_44 hg.2.2.2.2) _ (List.mem_cons_of_mem _ (List.mem_cons_of_mem _ (List.mem_cons_of_mem _ List.mem_cons_self))))) (zmn))))))))))))))))))))))))))))))))))))))))))))))))))))))))))))))))))))))))))))))))))))))))))))))))))))))))))))))))))))))))))))))))))))))))))
set_option maxRecDepth 100000 in
theorem zgv_2 (hg : zGv s b) : ((Cond.arrayOf (Term.static "FlagLayers$Sort" "ALL" "[LFlagLayers$Sort;") (FieldType.object "FlagLayers$Sort"))).before #[Value.ref b] s = true := hg.2.1 _ (zg_mem (l := flatC narrow_1_1) (i := 19) rfl)
set_option maxRecDepth 100000 in
theorem zgv_3 (hg : zGv s b) : ((Cond.arrayOf (Term.static "java/util/ArrayList" "DEFAULTCAPACITY_EMPTY_ELEMENTDATA" "[Ljava/lang/Object;") (FieldType.object "java/lang/Object"))).before #[Value.ref b] s = true := hg.2.1 _ (zg_mem (l := flatC narrow_1_1) (i := 3) rfl)
theorem zSrt_tm : ∀ (j : Nat) (q : String × Nat × Nat), zg zSrt j = some q → zg zroT j = some (.static "FlagLayers$Sort" q.1 "LFlagLayers$Sort;") := by
  intro j q h
  have h1 := zg_lt h
  have h1 : j < 43 := h1
  match j, h1, h with
  | 0, _, h => cases h; rfl
  | 1, _, h => cases h; rfl
  | 2, _, h => cases h; rfl
  | 3, _, h => cases h; rfl
  | 4, _, h => cases h; rfl
  | 5, _, h => cases h; rfl
  | 6, _, h => cases h; rfl
  | 7, _, h => cases h; rfl
  | 8, _, h => cases h; rfl
  | 9, _, h => cases h; rfl
  | 10, _, h => cases h; rfl
  | 11, _, h => cases h; rfl
  | 12, _, h => cases h; rfl
  | 13, _, h => cases h; rfl
  | 14, _, h => cases h; rfl
  | 15, _, h => cases h; rfl
  | 16, _, h => cases h; rfl
  | 17, _, h => cases h; rfl
  | 18, _, h => cases h; rfl
  | 19, _, h => cases h; rfl
  | 20, _, h => cases h; rfl
  | 21, _, h => cases h; rfl
  | 22, _, h => cases h; rfl
  | 23, _, h => cases h; rfl
  | 24, _, h => cases h; rfl
  | 25, _, h => cases h; rfl
  | 26, _, h => cases h; rfl
  | 27, _, h => cases h; rfl
  | 28, _, h => cases h; rfl
  | 29, _, h => cases h; rfl
  | 30, _, h => cases h; rfl
  | 31, _, h => cases h; rfl
  | 32, _, h => cases h; rfl
  | 33, _, h => cases h; rfl
  | 34, _, h => cases h; rfl
  | 35, _, h => cases h; rfl
  | 36, _, h => cases h; rfl
  | 37, _, h => cases h; rfl
  | 38, _, h => cases h; rfl
  | 39, _, h => cases h; rfl
  | 40, _, h => cases h; rfl
  | 41, _, h => cases h; rfl
  | 42, _, h => cases h; rfl
set_option maxHeartbeats 4000000 in
set_option maxRecDepth 100000 in
theorem zPl_0 {D : va_G} {ad : List Nat} (hg : zGv s b) (hfx : zFx s b ad) (hD : ∀ ci r, zg zclL ci = some r → zKn D s ci r) : zAll2 (fun k o => zPo D s ad k o) 0 ((zroL.drop 0).take 23) := ⟨zP_sort (o := 0) (i := 0) (k := 0) hfx (hD 15 _ rfl) (zblk zeb_0 hg.2.1) rfl rfl,
  zP_sort (o := 1) (i := 0) (k := 1) hfx (hD 15 _ rfl) (zblk zeb_1 hg.2.1) rfl rfl,
  zP_sort (o := 2) (i := 0) (k := 2) hfx (hD 15 _ rfl) (zblk zeb_2 hg.2.1) rfl rfl,
  zP_sort (o := 3) (i := 0) (k := 3) hfx (hD 15 _ rfl) (zblk zeb_3 hg.2.1) rfl rfl,
  zP_sort (o := 4) (i := 0) (k := 4) hfx (hD 15 _ rfl) (zblk zeb_4 hg.2.1) rfl rfl,
  zP_sort (o := 5) (i := 21) (k := 5) hfx (hD 15 _ rfl) (zblk zeb_5 hg.2.1) rfl rfl,
  zP_sort (o := 6) (i := 22) (k := 6) hfx (hD 15 _ rfl) (zblk zeb_6 hg.2.2.1) rfl rfl,
  zP_sort (o := 7) (i := 23) (k := 7) hfx (hD 15 _ rfl) (zblk zeb_7 hg.2.1) rfl rfl,
  zP_sort (o := 8) (i := 24) (k := 8) hfx (hD 15 _ rfl) (zblk zeb_8 hg.2.1) rfl rfl,
  zP_sort (o := 9) (i := 25) (k := 9) hfx (hD 15 _ rfl) (zblk zeb_9 hg.2.1) rfl rfl,
  zP_sort (o := 10) (i := 26) (k := 10) hfx (hD 15 _ rfl) (zblk zeb_10 hg.2.1) rfl rfl,
  zP_sort (o := 11) (i := 27) (k := 11) hfx (hD 15 _ rfl) (zblk zeb_11 hg.2.1) rfl rfl,
  zP_sort (o := 12) (i := 28) (k := 12) hfx (hD 15 _ rfl) (zblk zeb_12 hg.2.1) rfl rfl,
  zP_sort (o := 13) (i := 29) (k := 13) hfx (hD 15 _ rfl) (zblk zeb_13 hg.2.1) rfl rfl,
  zP_sort (o := 14) (i := 30) (k := 14) hfx (hD 15 _ rfl) (zblk zeb_14 hg.2.2.1) rfl rfl,
  zP_sort (o := 15) (i := 31) (k := 15) hfx (hD 15 _ rfl) (zblk zeb_15 hg.2.1) rfl rfl,
  zP_sort (o := 16) (i := 32) (k := 16) hfx (hD 15 _ rfl) (zblk zeb_16 hg.2.1) rfl rfl,
  zP_sort (o := 17) (i := 33) (k := 17) hfx (hD 15 _ rfl) (zblk zeb_17 hg.2.1) rfl rfl,
  zP_sort (o := 18) (i := 10) (k := 18) hfx (hD 15 _ rfl) (zblk zeb_18 hg.2.1) rfl rfl,
  zP_sort (o := 19) (i := 11) (k := 19) hfx (hD 15 _ rfl) (zblk zeb_19 hg.2.2.1) rfl rfl,
  zP_sort (o := 20) (i := 12) (k := 20) hfx (hD 15 _ rfl) (zblk zeb_20 hg.2.2.1) rfl rfl,
  zP_sort (o := 21) (i := 13) (k := 21) hfx (hD 15 _ rfl) (zblk zeb_21 hg.2.2.1) rfl rfl,
  zP_sort (o := 22) (i := 34) (k := 22) hfx (hD 15 _ rfl) (zblk zeb_22 hg.2.2.1) rfl rfl, trivial⟩
set_option maxHeartbeats 4000000 in
set_option maxRecDepth 100000 in
theorem zPl_1 {D : va_G} {ad : List Nat} (hg : zGv s b) (hfx : zFx s b ad) (hD : ∀ ci r, zg zclL ci = some r → zKn D s ci r) : zAll2 (fun k o => zPo D s ad k o) 23 ((zroL.drop 23).take 23) := ⟨zP_sort (o := 23) (i := 19) (k := 23) hfx (hD 15 _ rfl) (zblk zeb_23 hg.2.2.1) rfl rfl,
  zP_sort (o := 24) (i := 20) (k := 24) hfx (hD 15 _ rfl) (zblk zeb_24 hg.2.2.1) rfl rfl,
  zP_sort (o := 25) (i := 35) (k := 25) hfx (hD 15 _ rfl) (zblk zeb_25 hg.2.2.1) rfl rfl,
  zP_sort (o := 26) (i := 15) (k := 26) hfx (hD 15 _ rfl) (zblk zeb_26 hg.2.1) rfl rfl,
  zP_sort (o := 27) (i := 14) (k := 27) hfx (hD 15 _ rfl) (zblk zeb_27 hg.2.1) rfl rfl,
  zP_sort (o := 28) (i := 16) (k := 28) hfx (hD 15 _ rfl) (zblk zeb_28 hg.2.1) rfl rfl,
  zP_sort (o := 29) (i := 36) (k := 29) hfx (hD 15 _ rfl) (zblk zeb_29 hg.2.1) rfl rfl,
  zP_sort (o := 30) (i := 6) (k := 30) hfx (hD 15 _ rfl) (zblk zeb_30 hg.2.1) rfl rfl,
  zP_sort (o := 31) (i := 5) (k := 31) hfx (hD 15 _ rfl) (zblk zeb_31 hg.2.1) rfl rfl,
  zP_sort (o := 32) (i := 4) (k := 32) hfx (hD 15 _ rfl) (zblk zeb_32 hg.2.1) rfl rfl,
  zP_sort (o := 33) (i := 17) (k := 33) hfx (hD 15 _ rfl) (zblk zeb_33 hg.2.1) rfl rfl,
  zP_sort (o := 34) (i := 18) (k := 34) hfx (hD 15 _ rfl) (zblk zeb_34 hg.2.1) rfl rfl,
  zP_sort (o := 35) (i := 37) (k := 35) hfx (hD 15 _ rfl) (zblk zeb_35 hg.2.1) rfl rfl,
  zP_sort (o := 36) (i := 38) (k := 36) hfx (hD 15 _ rfl) (zblk zeb_36 hg.2.2.1) rfl rfl,
  zP_sort (o := 37) (i := 39) (k := 37) hfx (hD 15 _ rfl) (zblk zeb_37 hg.2.2.1) rfl rfl,
  zP_sort (o := 38) (i := 40) (k := 38) hfx (hD 15 _ rfl) (zblk zeb_38 hg.2.2.1) rfl rfl,
  zP_sort (o := 39) (i := 41) (k := 39) hfx (hD 15 _ rfl) (zblk zeb_39 hg.2.2.1) rfl rfl,
  zP_sort (o := 40) (i := 42) (k := 40) hfx (hD 15 _ rfl) (zblk zeb_40 hg.2.2.1) rfl rfl,
  zP_sort (o := 41) (i := 43) (k := 41) hfx (hD 15 _ rfl) (zblk zeb_41 hg.2.1) rfl rfl,
  zP_sort (o := 42) (i := 44) (k := 42) hfx (hD 15 _ rfl) (zblk zeb_42 hg.2.1) rfl rfl,
  zP_all (ty := 20) (N := 43) (L := zSrt) (k := 43) rfl (by decide) hfx (zgv_2 hg) (zgv_0 hg) (zblk zab_0 hg.2.1) rfl zSrt_tm,
  zP_arr (ty := 0) (vs := zSw) (k := 44) (by decide) hfx (zblk zwb_0 hg.2.1) rfl,
  zP_arr (ty := 1) (vs := zD1) (k := 45) (by decide) hfx (zblk zwb_1 hg.2.1) rfl, trivial⟩
set_option maxHeartbeats 4000000 in
set_option maxRecDepth 100000 in
theorem zPl_2 {D : va_G} {ad : List Nat} (hg : zGv s b) (hfx : zFx s b ad) (hD : ∀ ci r, zg zclL ci = some r → zKn D s ci r) : zAll2 (fun k o => zPo D s ad k o) 46 ((zroL.drop 46).take 23) := ⟨zP_arr (ty := 1) (vs := zD10) (k := 46) (by decide) hfx (zblk zwb_2 hg.2.1) rfl,
  zP_nil (ty := 21) (k := 47) hfx (zgv_3 hg) (zgv_1 hg) rfl,
  (zP_str (k := 48) (by decide) hfx (hD 12 _ rfl) (zblk zsb_0 hg.2.2.2.2) rfl rfl).1,
  (zP_str (k := 48) (by decide) hfx (hD 12 _ rfl) (zblk zsb_0 hg.2.2.2.2) rfl rfl).2,
  (zP_str (k := 50) (by decide) hfx (hD 12 _ rfl) (zblk zsb_1 hg.2.2.1) rfl rfl).1,
  (zP_str (k := 50) (by decide) hfx (hD 12 _ rfl) (zblk zsb_1 hg.2.2.1) rfl rfl).2,
  (zP_str (k := 52) (by decide) hfx (hD 12 _ rfl) (zblk zsb_2 hg.2.2.2.1) rfl rfl).1,
  (zP_str (k := 52) (by decide) hfx (hD 12 _ rfl) (zblk zsb_2 hg.2.2.2.1) rfl rfl).2,
  (zP_str (k := 54) (by decide) hfx (hD 12 _ rfl) (zblk zsb_3 hg.2.2.2.1) rfl rfl).1,
  (zP_str (k := 54) (by decide) hfx (hD 12 _ rfl) (zblk zsb_3 hg.2.2.2.1) rfl rfl).2,
  (zP_str (k := 56) (by decide) hfx (hD 12 _ rfl) (zblk zsb_4 hg.2.2.2.2) rfl rfl).1,
  (zP_str (k := 56) (by decide) hfx (hD 12 _ rfl) (zblk zsb_4 hg.2.2.2.2) rfl rfl).2,
  (zP_str (k := 58) (by decide) hfx (hD 12 _ rfl) (zblk zsb_5 hg.2.2.2.2) rfl rfl).1,
  (zP_str (k := 58) (by decide) hfx (hD 12 _ rfl) (zblk zsb_5 hg.2.2.2.2) rfl rfl).2,
  (zP_str (k := 60) (by decide) hfx (hD 12 _ rfl) (zblk zsb_6 hg.2.2.2.2) rfl rfl).1,
  (zP_str (k := 60) (by decide) hfx (hD 12 _ rfl) (zblk zsb_6 hg.2.2.2.2) rfl rfl).2,
  (zP_str (k := 62) (by decide) hfx (hD 12 _ rfl) (zblk zsb_7 hg.2.2.2.1) rfl rfl).1,
  (zP_str (k := 62) (by decide) hfx (hD 12 _ rfl) (zblk zsb_7 hg.2.2.2.1) rfl rfl).2,
  (zP_str (k := 64) (by decide) hfx (hD 12 _ rfl) (zblk zsb_8 hg.2.2.2.1) rfl rfl).1,
  (zP_str (k := 64) (by decide) hfx (hD 12 _ rfl) (zblk zsb_8 hg.2.2.2.1) rfl rfl).2,
  (zP_str (k := 66) (by decide) hfx (hD 12 _ rfl) (zblk zsb_9 hg.2.2.2.1) rfl rfl).1,
  (zP_str (k := 66) (by decide) hfx (hD 12 _ rfl) (zblk zsb_9 hg.2.2.2.1) rfl rfl).2,
  (zP_str (k := 68) (by decide) hfx (hD 12 _ rfl) (zblk zsb_10 hg.2.2.2.2) rfl rfl).1, trivial⟩
set_option maxHeartbeats 4000000 in
set_option maxRecDepth 100000 in
theorem zPl_3 {D : va_G} {ad : List Nat} (hg : zGv s b) (hfx : zFx s b ad) (hD : ∀ ci r, zg zclL ci = some r → zKn D s ci r) : zAll2 (fun k o => zPo D s ad k o) 69 ((zroL.drop 69).take 23) := ⟨(zP_str (k := 68) (by decide) hfx (hD 12 _ rfl) (zblk zsb_10 hg.2.2.2.2) rfl rfl).2,
  (zP_str (k := 70) (by decide) hfx (hD 12 _ rfl) (zblk zsb_11 hg.2.2.2.2) rfl rfl).1,
  (zP_str (k := 70) (by decide) hfx (hD 12 _ rfl) (zblk zsb_11 hg.2.2.2.2) rfl rfl).2,
  (zP_str (k := 72) (by decide) hfx (hD 12 _ rfl) (zblk zsb_12 hg.2.2.2.2) rfl rfl).1,
  (zP_str (k := 72) (by decide) hfx (hD 12 _ rfl) (zblk zsb_12 hg.2.2.2.2) rfl rfl).2,
  (zP_str (k := 74) (by decide) hfx (hD 12 _ rfl) (zblk zsb_13 hg.2.2.2.2) rfl rfl).1,
  (zP_str (k := 74) (by decide) hfx (hD 12 _ rfl) (zblk zsb_13 hg.2.2.2.2) rfl rfl).2,
  (zP_str (k := 76) (by decide) hfx (hD 12 _ rfl) (zblk zsb_14 hg.2.2.2.2) rfl rfl).1,
  (zP_str (k := 76) (by decide) hfx (hD 12 _ rfl) (zblk zsb_14 hg.2.2.2.2) rfl rfl).2,
  (zP_str (k := 78) (by decide) hfx (hD 12 _ rfl) (zblk zsb_15 hg.2.2.2.2) rfl rfl).1,
  (zP_str (k := 78) (by decide) hfx (hD 12 _ rfl) (zblk zsb_15 hg.2.2.2.2) rfl rfl).2,
  (zP_str (k := 80) (by decide) hfx (hD 12 _ rfl) (zblk zsb_16 hg.2.2.2.2) rfl rfl).1,
  (zP_str (k := 80) (by decide) hfx (hD 12 _ rfl) (zblk zsb_16 hg.2.2.2.2) rfl rfl).2,
  (zP_str (k := 82) (by decide) hfx (hD 12 _ rfl) (zblk zsb_17 hg.2.2.2.2) rfl rfl).1,
  (zP_str (k := 82) (by decide) hfx (hD 12 _ rfl) (zblk zsb_17 hg.2.2.2.2) rfl rfl).2,
  (zP_str (k := 84) (by decide) hfx (hD 12 _ rfl) (zblk zsb_18 hg.2.2.2.2) rfl rfl).1,
  (zP_str (k := 84) (by decide) hfx (hD 12 _ rfl) (zblk zsb_18 hg.2.2.2.2) rfl rfl).2,
  (zP_str (k := 86) (by decide) hfx (hD 12 _ rfl) (zblk zsb_19 hg.2.2.2.2) rfl rfl).1,
  (zP_str (k := 86) (by decide) hfx (hD 12 _ rfl) (zblk zsb_19 hg.2.2.2.2) rfl rfl).2,
  (zP_str (k := 88) (by decide) hfx (hD 12 _ rfl) (zblk zsb_20 hg.2.2.2.2) rfl rfl).1,
  (zP_str (k := 88) (by decide) hfx (hD 12 _ rfl) (zblk zsb_20 hg.2.2.2.2) rfl rfl).2,
  (zP_str (k := 90) (by decide) hfx (hD 12 _ rfl) (zblk zsb_21 hg.2.2.2.2) rfl rfl).1,
  (zP_str (k := 90) (by decide) hfx (hD 12 _ rfl) (zblk zsb_21 hg.2.2.2.2) rfl rfl).2, trivial⟩
set_option maxHeartbeats 4000000 in
set_option maxRecDepth 100000 in
theorem zPl_4 {D : va_G} {ad : List Nat} (hg : zGv s b) (hfx : zFx s b ad) (hD : ∀ ci r, zg zclL ci = some r → zKn D s ci r) : zAll2 (fun k o => zPo D s ad k o) 92 ((zroL.drop 92).take 23) := ⟨(zP_str (k := 92) (by decide) hfx (hD 12 _ rfl) (zblk zsb_22 hg.2.2.2.2) rfl rfl).1,
  (zP_str (k := 92) (by decide) hfx (hD 12 _ rfl) (zblk zsb_22 hg.2.2.2.2) rfl rfl).2,
  (zP_str (k := 94) (by decide) hfx (hD 12 _ rfl) (zblk zsb_23 hg.2.2.2.2) rfl rfl).1,
  (zP_str (k := 94) (by decide) hfx (hD 12 _ rfl) (zblk zsb_23 hg.2.2.2.2) rfl rfl).2,
  (zP_str (k := 96) (by decide) hfx (hD 12 _ rfl) (zblk zsb_24 hg.2.2.2.2) rfl rfl).1,
  (zP_str (k := 96) (by decide) hfx (hD 12 _ rfl) (zblk zsb_24 hg.2.2.2.2) rfl rfl).2,
  (zP_str (k := 98) (by decide) hfx (hD 12 _ rfl) (zblk zsb_25 hg.2.2.2.2) rfl rfl).1,
  (zP_str (k := 98) (by decide) hfx (hD 12 _ rfl) (zblk zsb_25 hg.2.2.2.2) rfl rfl).2,
  (zP_str (k := 100) (by decide) hfx (hD 12 _ rfl) (zblk zsb_26 hg.2.2.2.2) rfl rfl).1,
  (zP_str (k := 100) (by decide) hfx (hD 12 _ rfl) (zblk zsb_26 hg.2.2.2.2) rfl rfl).2,
  (zP_str (k := 102) (by decide) hfx (hD 12 _ rfl) (zblk zsb_27 hg.2.2.2.2) rfl rfl).1,
  (zP_str (k := 102) (by decide) hfx (hD 12 _ rfl) (zblk zsb_27 hg.2.2.2.2) rfl rfl).2,
  (zP_str (k := 104) (by decide) hfx (hD 12 _ rfl) (zblk zsb_28 hg.2.2.2.2) rfl rfl).1,
  (zP_str (k := 104) (by decide) hfx (hD 12 _ rfl) (zblk zsb_28 hg.2.2.2.2) rfl rfl).2,
  (zP_str (k := 106) (by decide) hfx (hD 12 _ rfl) (zblk zsb_29 hg.2.2.2.2) rfl rfl).1,
  (zP_str (k := 106) (by decide) hfx (hD 12 _ rfl) (zblk zsb_29 hg.2.2.2.2) rfl rfl).2,
  (zP_str (k := 108) (by decide) hfx (hD 12 _ rfl) (zblk zsb_30 hg.2.2.2.2) rfl rfl).1,
  (zP_str (k := 108) (by decide) hfx (hD 12 _ rfl) (zblk zsb_30 hg.2.2.2.2) rfl rfl).2,
  (zP_str (k := 110) (by decide) hfx (hD 12 _ rfl) (zblk zsb_31 hg.2.2.2.2) rfl rfl).1,
  (zP_str (k := 110) (by decide) hfx (hD 12 _ rfl) (zblk zsb_31 hg.2.2.2.2) rfl rfl).2,
  (zP_str (k := 112) (by decide) hfx (hD 12 _ rfl) (zblk zsb_32 hg.2.2.2.2) rfl rfl).1,
  (zP_str (k := 112) (by decide) hfx (hD 12 _ rfl) (zblk zsb_32 hg.2.2.2.2) rfl rfl).2,
  (zP_str (k := 114) (by decide) hfx (hD 12 _ rfl) (zblk zsb_33 hg.2.2.2.2) rfl rfl).1, trivial⟩
set_option maxHeartbeats 4000000 in
set_option maxRecDepth 100000 in
theorem zPl_5 {D : va_G} {ad : List Nat} (hg : zGv s b) (hfx : zFx s b ad) (hD : ∀ ci r, zg zclL ci = some r → zKn D s ci r) : zAll2 (fun k o => zPo D s ad k o) 115 ((zroL.drop 115).take 23) := ⟨(zP_str (k := 114) (by decide) hfx (hD 12 _ rfl) (zblk zsb_33 hg.2.2.2.2) rfl rfl).2,
  (zP_str (k := 116) (by decide) hfx (hD 12 _ rfl) (zblk zsb_34 hg.2.2.2.2) rfl rfl).1,
  (zP_str (k := 116) (by decide) hfx (hD 12 _ rfl) (zblk zsb_34 hg.2.2.2.2) rfl rfl).2,
  (zP_str (k := 118) (by decide) hfx (hD 12 _ rfl) (zblk zsb_35 hg.2.2.2.2) rfl rfl).1,
  (zP_str (k := 118) (by decide) hfx (hD 12 _ rfl) (zblk zsb_35 hg.2.2.2.2) rfl rfl).2,
  (zP_str (k := 120) (by decide) hfx (hD 12 _ rfl) (zblk zsb_36 hg.2.2.2.2) rfl rfl).1,
  (zP_str (k := 120) (by decide) hfx (hD 12 _ rfl) (zblk zsb_36 hg.2.2.2.2) rfl rfl).2,
  (zP_str (k := 122) (by decide) hfx (hD 12 _ rfl) (zblk zsb_37 hg.2.2.2.2) rfl rfl).1,
  (zP_str (k := 122) (by decide) hfx (hD 12 _ rfl) (zblk zsb_37 hg.2.2.2.2) rfl rfl).2,
  (zP_str (k := 124) (by decide) hfx (hD 12 _ rfl) (zblk zsb_38 hg.2.2.2.2) rfl rfl).1,
  (zP_str (k := 124) (by decide) hfx (hD 12 _ rfl) (zblk zsb_38 hg.2.2.2.2) rfl rfl).2,
  (zP_str (k := 126) (by decide) hfx (hD 12 _ rfl) (zblk zsb_39 hg.2.2.2.2) rfl rfl).1,
  (zP_str (k := 126) (by decide) hfx (hD 12 _ rfl) (zblk zsb_39 hg.2.2.2.2) rfl rfl).2,
  (zP_str (k := 128) (by decide) hfx (hD 12 _ rfl) (zblk zsb_40 hg.2.2.2.2) rfl rfl).1,
  (zP_str (k := 128) (by decide) hfx (hD 12 _ rfl) (zblk zsb_40 hg.2.2.2.2) rfl rfl).2,
  (zP_str (k := 130) (by decide) hfx (hD 12 _ rfl) (zblk zsb_41 hg.2.2.2.2) rfl rfl).1,
  (zP_str (k := 130) (by decide) hfx (hD 12 _ rfl) (zblk zsb_41 hg.2.2.2.2) rfl rfl).2,
  (zP_str (k := 132) (by decide) hfx (hD 12 _ rfl) (zblk zsb_42 hg.2.2.2.2) rfl rfl).1,
  (zP_str (k := 132) (by decide) hfx (hD 12 _ rfl) (zblk zsb_42 hg.2.2.2.2) rfl rfl).2,
  (zP_str (k := 134) (by decide) hfx (hD 12 _ rfl) (zblk zsb_43 hg.2.2.2.2) rfl rfl).1,
  (zP_str (k := 134) (by decide) hfx (hD 12 _ rfl) (zblk zsb_43 hg.2.2.2.2) rfl rfl).2,
  (zP_str (k := 136) (by decide) hfx (hD 12 _ rfl) (zblk zsb_44 hg.2.2.2.2) rfl rfl).1,
  (zP_str (k := 136) (by decide) hfx (hD 12 _ rfl) (zblk zsb_44 hg.2.2.2.2) rfl rfl).2, trivial⟩
theorem zAll2_app {α : Type} {P : Nat → α → Prop} : ∀ {l r : List α} {i : Nat}, zAll2 P i l → zAll2 P (i + l.length) r → zAll2 P i (l ++ r)
  | [], r, i, _, h => h
  | a :: l, r, i, h1, h2 => ⟨h1.1, zAll2_app h1.2 (by rw [show i + 1 + l.length = i + (a :: l).length by rw [List.length_cons]; omega]; exact h2)⟩
set_option maxRecDepth 100000 in
theorem zro_cat : zroL = ((zroL.drop 0).take 23 ++ ((zroL.drop 23).take 23 ++ ((zroL.drop 46).take 23 ++ ((zroL.drop 69).take 23 ++ ((zroL.drop 92).take 23 ++ ((zroL.drop 115).take 23)))))) := rfl
set_option maxRecDepth 100000 in
theorem zPl {D : va_G} {ad : List Nat} (hg : zGv s b) (hfx : zFx s b ad) (hD : ∀ ci r, zg zclL ci = some r → zKn D s ci r) (k : Nat) (o : zO) (h : zg zroL k = some o) : zPo D s ad k o := by
  have h2 : zAll2 (fun k o => zPo D s ad k o) 0 zroL := by
    rw [zro_cat]
    exact zAll2_app (zPl_0 hg hfx hD) (zAll2_app (zPl_1 hg hfx hD) (zAll2_app (zPl_2 hg hfx hD) (zAll2_app (zPl_3 hg hfx hD) (zAll2_app (zPl_4 hg hfx hD) (zPl_5 hg hfx hD)))))
  have h3 := zAll2_get h2 h
  rw [Nat.zero_add] at h3
  exact h3
theorem zKn_of {C : String} {T : u_T} {N ci : Nat} {q : ClassId × (Nat → Nat)} (h : u_Kn s C T N q.1 q.2) : zKn ((fun _ => q.1), fun _ => q.2) s ci (C, T, N) := by
  obtain ⟨h1, h2, kv, h3, h4⟩ := h
  exact ⟨h1, h2, kv, h3, fun _ => h4⟩
set_option maxRecDepth 100000 in
theorem zDk_0 {args : Array Value} (hts : ∀ w ∈ zT, w.before args s = true) : ∃ q : ClassId × (Nat → Nat), u_Kn s "FlagLayers$Flag" zN_0 10 q.1 q.2 := by
  obtain ⟨c, f, h⟩ := u_known hts zin_0 (hts _ (zT_mem (zt_4 206 rfl) rfl))
  exact ⟨(c, f), h⟩
set_option maxRecDepth 100000 in
theorem zDk_1 {args : Array Value} (hts : ∀ w ∈ zT, w.before args s = true) : ∃ q : ClassId × (Nat → Nat), u_Kn s "FlagLayers$Judge" zN_1 7 q.1 q.2 := by
  obtain ⟨c, f, h⟩ := u_known hts zin_1 (hts _ (zT_mem (zt_1 61 rfl) rfl))
  exact ⟨(c, f), h⟩
set_option maxRecDepth 100000 in
theorem zDk_2 {args : Array Value} (hts : ∀ w ∈ zT, w.before args s = true) : ∃ q : ClassId × (Nat → Nat), u_Kn s "FlagLayers$Layer" zN_2 5 q.1 q.2 := by
  obtain ⟨c, f, h⟩ := u_known hts zin_2 (hts _ (zT_mem (zt_5 164 rfl) rfl))
  exact ⟨(c, f), h⟩
set_option maxRecDepth 100000 in
theorem zDk_3 {args : Array Value} (hts : ∀ w ∈ zT, w.before args s = true) : ∃ q : ClassId × (Nat → Nat), u_Kn s "FlagLayers$Part" zN_3 6 q.1 q.2 := by
  obtain ⟨c, f, h⟩ := u_known hts zin_3 (hts _ (zT_mem (zt_4 76 rfl) rfl))
  exact ⟨(c, f), h⟩
set_option maxRecDepth 100000 in
theorem zDk_4 {args : Array Value} (hts : ∀ w ∈ zT, w.before args s = true) : ∃ q : ClassId × (Nat → Nat), u_Kn s "FlagLayers$Plan" zN_4 12 q.1 q.2 := by
  obtain ⟨c, f, h⟩ := u_known hts zin_4 (hts _ (zT_mem (zt_1 98 rfl) rfl))
  exact ⟨(c, f), h⟩
set_option maxRecDepth 100000 in
theorem zDk_5 {args : Array Value} (hts : ∀ w ∈ zT, w.before args s = true) : ∃ q : ClassId × (Nat → Nat), u_Kn s "FlagLayers$Reader" zN_5 4 q.1 q.2 := by
  obtain ⟨c, f, h⟩ := u_known hts zin_5 (hts _ (zT_mem (zt_1 211 rfl) rfl))
  exact ⟨(c, f), h⟩
set_option maxRecDepth 100000 in
theorem zDk_6 {args : Array Value} (hts : ∀ w ∈ zT, w.before args s = true) : ∃ q : ClassId × (Nat → Nat), u_Kn s "FlagLayers$Rule" zN_6 3 q.1 q.2 := by
  obtain ⟨c, f, h⟩ := u_known hts zin_6 (hts _ (zT_mem (zt_5 137 rfl) rfl))
  exact ⟨(c, f), h⟩
set_option maxRecDepth 100000 in
theorem zDk_7 {args : Array Value} (hts : ∀ w ∈ zT, w.before args s = true) : ∃ q : ClassId × (Nat → Nat), u_Kn s "FlagLayers$Serve" zN_7 5 q.1 q.2 := by
  obtain ⟨c, f, h⟩ := u_known hts zin_7 (hts _ (zT_mem (zt_4 216 rfl) rfl))
  exact ⟨(c, f), h⟩
set_option maxRecDepth 100000 in
theorem zDk_8 {args : Array Value} (hts : ∀ w ∈ zT, w.before args s = true) : ∃ q : ClassId × (Nat → Nat), u_Kn s "FlagLayers$Tape" zN_8 2 q.1 q.2 := by
  obtain ⟨c, f, h⟩ := u_known hts zin_8 (hts _ (zT_mem (zt_1 46 rfl) rfl))
  exact ⟨(c, f), h⟩
set_option maxRecDepth 100000 in
theorem zDk_9 {args : Array Value} (hts : ∀ w ∈ zT, w.before args s = true) : ∃ q : ClassId × (Nat → Nat), u_Kn s "FlagLayers$Token" zN_9 6 q.1 q.2 := by
  obtain ⟨c, f, h⟩ := u_known hts zin_9 (hts _ (zT_mem (zt_1 231 rfl) rfl))
  exact ⟨(c, f), h⟩
set_option maxRecDepth 100000 in
theorem zDk_10 {args : Array Value} (hts : ∀ w ∈ zT, w.before args s = true) : ∃ q : ClassId × (Nat → Nat), u_Kn s "FlagLayers" zN_10 4 q.1 q.2 := by
  obtain ⟨c, f, h⟩ := u_known hts zin_10 (hts _ (zT_mem (zt_1 38 rfl) rfl))
  exact ⟨(c, f), h⟩
set_option maxRecDepth 100000 in
theorem zDk_11 {args : Array Value} (hts : ∀ w ∈ zT, w.before args s = true) : ∃ q : ClassId × (Nat → Nat), u_Kn s "FlagLayersModel" zN_11 92 q.1 q.2 := by
  obtain ⟨c, f, h⟩ := u_known hts zin_11 (hts _ (zT_mem (zt_7 83 rfl) rfl))
  exact ⟨(c, f), h⟩
set_option maxRecDepth 100000 in
theorem zDk_12 {args : Array Value} (hts : ∀ w ∈ zT, w.before args s = true) : ∃ q : ClassId × (Nat → Nat), u_Kn s "java/lang/String" zN_12 2 q.1 q.2 := by
  obtain ⟨c, f, h⟩ := u_known hts zin_12 (hts _ (zT_mem (zt_2 60 rfl) rfl))
  exact ⟨(c, f), h⟩
set_option maxRecDepth 100000 in
theorem zDk_13 {args : Array Value} (hts : ∀ w ∈ zT, w.before args s = true) : ∃ q : ClassId × (Nat → Nat), u_Kn s "java/lang/StringBuilder" zN_13 4 q.1 q.2 := by
  obtain ⟨c, f, h⟩ := u_known hts zin_13 (hts _ (zT_mem (zt_2 161 rfl) rfl))
  exact ⟨(c, f), h⟩
set_option maxRecDepth 100000 in
theorem zDk_14 {args : Array Value} (hts : ∀ w ∈ zT, w.before args s = true) : ∃ q : ClassId × (Nat → Nat), u_Kn s "java/util/ArrayList" zN_14 3 q.1 q.2 := by
  obtain ⟨c, f, h⟩ := u_known hts zin_14 (hts _ (zT_mem (zt_1 104 rfl) rfl))
  exact ⟨(c, f), h⟩
theorem zDk_15 (hg : zGv s b) : ∃ q : ClassId × (Nat → Nat), zKn ((fun _ => q.1), fun _ => q.2) s 15 ("FlagLayers$Sort", zN_15, 2) := by
  have hb := (zblk zeb_0 hg.2.1)
  obtain ⟨a, c, cell, kc, q1, q2, q3, q4, q5, q6, -⟩ := Cond.exactly_spec (args := #[.ref b]) (first := s) (o := none) (s := s) (idx := []) (hb _ List.mem_cons_self)
  have e1 := va_eqt (hb _ (List.mem_cons_of_mem _ List.mem_cons_self))
  obtain ⟨a2, g2⟩ := zev_ex (b := b) (s := s) ((zblk zsb_0 hg.2.2.2.2) _ List.mem_cons_self)
  have e2 := zeqL (hb _ (List.mem_cons_of_mem _ (List.mem_cons_of_mem _ List.mem_cons_self))) g2
  obtain ⟨cf, k, i, f, cell1, f1, -⟩ := vk_OFof (A := fun _ => False) q1 e1 (fun _ _ q => q)
  obtain ⟨cf2, k2, i2, f2, cell2, f3, -⟩ := vk_OFof (A := fun _ => False) q1 e2 (fun _ _ q => q)
  refine ⟨(c, fun k => match k with | 0 => f.slot | _ => f2.slot), fun k hk => ?_, q2, kc, q4, fun h => absurd rfl h⟩
  match k, hk with
  | 0, _ => exact ⟨_, _, _, _, f1, rfl⟩
  | 1, _ => exact ⟨_, _, _, _, f3, rfl⟩
theorem zD_of (hg : zGv s b) (hts : ∀ w ∈ zT, w.before #[Value.ref b] s = true) : ∃ D : va_G, ∀ ci r, zg zclL ci = some r → zKn D s ci r := by
  have h : ∀ ci : Nat, ∃ q : ClassId × (Nat → Nat), ∀ r, zg zclL ci = some r → zKn ((fun _ => q.1), fun _ => q.2) s ci r := by
    intro ci
    by_cases hc : ci < 16
    · match ci, hc with
      | 0, _ => obtain ⟨q, h⟩ := zDk_0 hts; exact ⟨q, fun r hr => by cases hr; exact zKn_of h⟩
      | 1, _ => obtain ⟨q, h⟩ := zDk_1 hts; exact ⟨q, fun r hr => by cases hr; exact zKn_of h⟩
      | 2, _ => obtain ⟨q, h⟩ := zDk_2 hts; exact ⟨q, fun r hr => by cases hr; exact zKn_of h⟩
      | 3, _ => obtain ⟨q, h⟩ := zDk_3 hts; exact ⟨q, fun r hr => by cases hr; exact zKn_of h⟩
      | 4, _ => obtain ⟨q, h⟩ := zDk_4 hts; exact ⟨q, fun r hr => by cases hr; exact zKn_of h⟩
      | 5, _ => obtain ⟨q, h⟩ := zDk_5 hts; exact ⟨q, fun r hr => by cases hr; exact zKn_of h⟩
      | 6, _ => obtain ⟨q, h⟩ := zDk_6 hts; exact ⟨q, fun r hr => by cases hr; exact zKn_of h⟩
      | 7, _ => obtain ⟨q, h⟩ := zDk_7 hts; exact ⟨q, fun r hr => by cases hr; exact zKn_of h⟩
      | 8, _ => obtain ⟨q, h⟩ := zDk_8 hts; exact ⟨q, fun r hr => by cases hr; exact zKn_of h⟩
      | 9, _ => obtain ⟨q, h⟩ := zDk_9 hts; exact ⟨q, fun r hr => by cases hr; exact zKn_of h⟩
      | 10, _ => obtain ⟨q, h⟩ := zDk_10 hts; exact ⟨q, fun r hr => by cases hr; exact zKn_of h⟩
      | 11, _ => obtain ⟨q, h⟩ := zDk_11 hts; exact ⟨q, fun r hr => by cases hr; exact zKn_of h⟩
      | 12, _ => obtain ⟨q, h⟩ := zDk_12 hts; exact ⟨q, fun r hr => by cases hr; exact zKn_of h⟩
      | 13, _ => obtain ⟨q, h⟩ := zDk_13 hts; exact ⟨q, fun r hr => by cases hr; exact zKn_of h⟩
      | 14, _ => obtain ⟨q, h⟩ := zDk_14 hts; exact ⟨q, fun r hr => by cases hr; exact zKn_of h⟩
      | 15, _ => obtain ⟨q, h⟩ := zDk_15 hg; exact ⟨q, fun r hr => by cases hr; exact h⟩
      | n + 16, hc => exact absurd hc (by omega)
    · refine ⟨(0, fun _ => 0), fun r hr => ?_⟩
      have := zg_lt hr
      exact absurd this hc
  obtain ⟨f, hf⟩ := Classical.axiomOfChoice h
  exact ⟨(fun ci => (f ci).1, fun ci => (f ci).2), fun ci r hr => hf ci r hr⟩
theorem znm_0 : ∀ a, a < 10 → ∀ b, b < 10 → a ≠ b → (zN_0 a).2.1 ≠ (zN_0 b).2.1 := by decide +kernel
theorem znm_1 : ∀ a, a < 7 → ∀ b, b < 7 → a ≠ b → (zN_1 a).2.1 ≠ (zN_1 b).2.1 := by decide +kernel
theorem znm_2 : ∀ a, a < 5 → ∀ b, b < 5 → a ≠ b → (zN_2 a).2.1 ≠ (zN_2 b).2.1 := by decide +kernel
theorem znm_3 : ∀ a, a < 6 → ∀ b, b < 6 → a ≠ b → (zN_3 a).2.1 ≠ (zN_3 b).2.1 := by decide +kernel
theorem znm_4 : ∀ a, a < 12 → ∀ b, b < 12 → a ≠ b → (zN_4 a).2.1 ≠ (zN_4 b).2.1 := by decide +kernel
theorem znm_5 : ∀ a, a < 4 → ∀ b, b < 4 → a ≠ b → (zN_5 a).2.1 ≠ (zN_5 b).2.1 := by decide +kernel
theorem znm_6 : ∀ a, a < 3 → ∀ b, b < 3 → a ≠ b → (zN_6 a).2.1 ≠ (zN_6 b).2.1 := by decide +kernel
theorem znm_7 : ∀ a, a < 5 → ∀ b, b < 5 → a ≠ b → (zN_7 a).2.1 ≠ (zN_7 b).2.1 := by decide +kernel
theorem znm_8 : ∀ a, a < 2 → ∀ b, b < 2 → a ≠ b → (zN_8 a).2.1 ≠ (zN_8 b).2.1 := by decide +kernel
theorem znm_9 : ∀ a, a < 6 → ∀ b, b < 6 → a ≠ b → (zN_9 a).2.1 ≠ (zN_9 b).2.1 := by decide +kernel
theorem znm_10 : ∀ a, a < 4 → ∀ b, b < 4 → a ≠ b → (zN_10 a).2.1 ≠ (zN_10 b).2.1 := by decide +kernel
theorem znm_11 : ∀ a, a < 92 → ∀ b, b < 92 → a ≠ b → (zN_11 a).2.1 ≠ (zN_11 b).2.1 := by decide +kernel
theorem znm_12 : ∀ a, a < 2 → ∀ b, b < 2 → a ≠ b → (zN_12 a).2.1 ≠ (zN_12 b).2.1 := by decide +kernel
theorem znm_13 : ∀ a, a < 4 → ∀ b, b < 4 → a ≠ b → (zN_13 a).2.1 ≠ (zN_13 b).2.1 := by decide +kernel
theorem znm_14 : ∀ a, a < 3 → ∀ b, b < 3 → a ≠ b → (zN_14 a).2.1 ≠ (zN_14 b).2.1 := by decide +kernel
theorem zapart {C : String} {T : u_T} {N ci : Nat} {D : va_G} {args : Array Value} (hts : ∀ w ∈ zT, w.before args s = true) (hin : ∀ w ∈ u_ws C T N, w ∈ zT) (ty : Nat → FieldType) (hty : ∀ k, k < N → parseFieldDescriptor (T k).2.2.1 = some (ty k)) (hnm : ∀ a, a < N → ∀ b, b < N → a ≠ b → (T a).2.1 ≠ (T b).2.1) (hK : zKn D s ci (C, T, N)) : ∀ x y, x < N → y < N → x ≠ y → D.2 ci x ≠ D.2 ci y := by
  intro x y hx hy hne
  obtain ⟨hS, -⟩ := hK
  obtain ⟨_, _, _, fa, hia, ea⟩ := hS x hx
  obtain ⟨_, _, _, fb, hib, eb⟩ := hS y hy
  rw [← ea, ← eb]
  refine u_apart (u_lays hts hin hx) (u_lays hts hin hy) hia hib ?_
  rw [(State.fieldFound?_type hia (hty x hx)).1, (State.fieldFound?_type hib (hty y hy)).1]
  exact hnm x hx y hy hne
theorem zap_of {D : va_G} {ad : List Nat} (hts : ∀ w ∈ zT, w.before #[Value.ref b] s = true) (hD : ∀ ci r, zg zclL ci = some r → zKn D s ci r) (hP : ∀ k o, zg zroL k = some o → zPo D s ad k o) : zAp D zclL := by
  intro ci x y r hr hx hy hne
  have hc : ci < 16 := zg_lt hr
  match ci, hc, hr with
  | 0, _, hr => cases hr; exact zapart hts zin_0 (fun k => zty 0 k) ztk_0 znm_0 (hD 0 _ rfl) x y hx hy hne
  | 1, _, hr => cases hr; exact zapart hts zin_1 (fun k => zty 1 k) ztk_1 znm_1 (hD 1 _ rfl) x y hx hy hne
  | 2, _, hr => cases hr; exact zapart hts zin_2 (fun k => zty 2 k) ztk_2 znm_2 (hD 2 _ rfl) x y hx hy hne
  | 3, _, hr => cases hr; exact zapart hts zin_3 (fun k => zty 3 k) ztk_3 znm_3 (hD 3 _ rfl) x y hx hy hne
  | 4, _, hr => cases hr; exact zapart hts zin_4 (fun k => zty 4 k) ztk_4 znm_4 (hD 4 _ rfl) x y hx hy hne
  | 5, _, hr => cases hr; exact zapart hts zin_5 (fun k => zty 5 k) ztk_5 znm_5 (hD 5 _ rfl) x y hx hy hne
  | 6, _, hr => cases hr; exact zapart hts zin_6 (fun k => zty 6 k) ztk_6 znm_6 (hD 6 _ rfl) x y hx hy hne
  | 7, _, hr => cases hr; exact zapart hts zin_7 (fun k => zty 7 k) ztk_7 znm_7 (hD 7 _ rfl) x y hx hy hne
  | 8, _, hr => cases hr; exact zapart hts zin_8 (fun k => zty 8 k) ztk_8 znm_8 (hD 8 _ rfl) x y hx hy hne
  | 9, _, hr => cases hr; exact zapart hts zin_9 (fun k => zty 9 k) ztk_9 znm_9 (hD 9 _ rfl) x y hx hy hne
  | 10, _, hr => cases hr; exact zapart hts zin_10 (fun k => zty 10 k) ztk_10 znm_10 (hD 10 _ rfl) x y hx hy hne
  | 11, _, hr => cases hr; exact zapart hts zin_11 (fun k => zty 11 k) ztk_11 znm_11 (hD 11 _ rfl) x y hx hy hne
  | 12, _, hr => cases hr; exact zapart hts zin_12 (fun k => zty 12 k) ztk_12 znm_12 (hD 12 _ rfl) x y hx hy hne
  | 13, _, hr => cases hr; exact zapart hts zin_13 (fun k => zty 13 k) ztk_13 znm_13 (hD 13 _ rfl) x y hx hy hne
  | 14, _, hr => cases hr; exact zapart hts zin_14 (fun k => zty 14 k) ztk_14 znm_14 (hD 14 _ rfl) x y hx hy hne
  | 15, _, hr =>
    cases hr
    obtain ⟨a, cell, h1, h2, -, -, -, r, h3, h4, h5⟩ := hP 0 _ rfl
    obtain ⟨w1, q1, q2⟩ := h5 0 _ rfl
    obtain ⟨w2, q3, a2, -, q4⟩ := h5 1 _ rfl
    have hxy : (x = 0 ∧ y = 1) ∨ (x = 1 ∧ y = 0) := by
      have hx : x < 2 := hx
      have hy : y < 2 := hy
      omega
    have hd : D.2 15 0 ≠ D.2 15 1 := by
      intro q
      rw [q, q3] at q1
      cases q1
      rw [show w1 = _ from q2] at q4
      cases q4
    rcases hxy with ⟨rfl, rfl⟩ | ⟨rfl, rfl⟩
    · exact hd
    · exact fun q => hd q.symm
set_option maxRecDepth 100000 in
theorem zgv_4 (hg : zGv s b) : ((Cond.eq (Term.static "java/lang/String" "COMPACT_STRINGS" "Z") (Term.int 1))).before #[Value.ref b] s = true := hg.2.1 _ (zg_mem (l := flatC narrow_1_1) (i := 12) rfl)
set_option maxRecDepth 100000 in
theorem zgv_5 (hg : zGv s b) : ((Cond.isRef (Term.static "jdk/internal/util/Preconditions" "SIOOBE_FORMATTER" "Ljava/util/function/BiFunction;"))).before #[Value.ref b] s = true := hg.2.1 _ (zg_mem (l := flatC narrow_1_1) (i := 16) rfl)
set_option maxRecDepth 100000 in
theorem zgv_6 (hg : zGv s b) : ((Cond.eq (Term.string "FlagLayers$Tape" 56) (Term.string "FlagLayers$Sort" 174))).before #[Value.ref b] s = true := hg.2.2.2.2 _ (zg_mem (l := flatC narrow_1_4) (i := 83) rfl)
set_option maxRecDepth 100000 in
theorem zgv_7 (hg : zGv s b) : ((Cond.eq (Term.string "java/lang/String" 7) (Term.string "FlagLayers$Sort" 174))).before #[Value.ref b] s = true := hg.2.2.2.2 _ (zg_mem (l := flatC narrow_1_4) (i := 84) rfl)
set_option maxRecDepth 100000 in
theorem zgv_8 (hg : zGv s b) : ((Cond.eq (Term.string "FlagLayersModel" 456) (Term.string "FlagLayers$Sort" 265))).before #[Value.ref b] s = true := hg.2.2.2.2 _ (zg_mem (l := flatC narrow_1_4) (i := 110) rfl)
set_option maxRecDepth 100000 in
theorem zgv_9 (hg : zGv s b) : ((Cond.eq (Term.string "FlagLayersModel" 461) (Term.string "FlagLayers$Sort" 262))).before #[Value.ref b] s = true := hg.2.2.2.2 _ (zg_mem (l := flatC narrow_1_4) (i := 102) rfl)
set_option maxRecDepth 100000 in
theorem zgv_10 (hg : zGv s b) : ((Cond.eq (Term.string "FlagLayersModel" 469) (Term.string "FlagLayers$Sort" 259))).before #[Value.ref b] s = true := hg.2.2.2.2 _ (zg_mem (l := flatC narrow_1_4) (i := 123) rfl)
set_option maxRecDepth 100000 in
theorem zgv_11 (hg : zGv s b) : ((Cond.eq (Term.string "FlagLayersModel" 373) (Term.string "FlagLayers$Sort" 223))).before #[Value.ref b] s = true := hg.2.2.2.2 _ (zg_mem (l := flatC narrow_1_4) (i := 234) rfl)
set_option maxRecDepth 100000 in
theorem zgv_12 (hg : zGv s b) : ((Cond.eq (Term.string "FlagLayersModel" 382) (Term.string "FlagLayers$Sort" 226))).before #[Value.ref b] s = true := hg.2.2.2.2 _ (zg_mem (l := flatC narrow_1_4) (i := 270) rfl)
set_option maxRecDepth 100000 in
theorem zgv_13 (hg : zGv s b) : ((Cond.eq (Term.string "FlagLayersModel" 387) (Term.string "FlagLayers$Sort" 229))).before #[Value.ref b] s = true := hg.2.2.2.2 _ (zg_mem (l := flatC narrow_1_4) (i := 280) rfl)
set_option maxRecDepth 100000 in
theorem zgv_14 (hg : zGv s b) : ((Cond.eq (Term.string "FlagLayersModel" 392) (Term.string "FlagLayers$Sort" 232))).before #[Value.ref b] s = true := hg.2.2.2.2 _ (zg_mem (l := flatC narrow_1_4) (i := 289) rfl)
set_option maxRecDepth 100000 in
theorem zgv_15 (hg : zGv s b) : ((Cond.eq (Term.string "FlagLayersModel" 412) (Term.string "FlagLayers$Sort" 250))).before #[Value.ref b] s = true := hg.2.2.2.2 _ (zg_mem (l := flatC narrow_1_4) (i := 253) rfl)
set_option maxRecDepth 100000 in
theorem zgv_16 (hg : zGv s b) : ((Cond.eq (Term.string "FlagLayersModel" 414) (Term.string "FlagLayers$Sort" 247))).before #[Value.ref b] s = true := hg.2.2.2.2 _ (zg_mem (l := flatC narrow_1_4) (i := 244) rfl)
set_option maxRecDepth 100000 in
theorem zgv_17 (hg : zGv s b) : ((Cond.eq (Term.string "FlagLayersModel" 423) (Term.string "FlagLayers$Sort" 253))).before #[Value.ref b] s = true := hg.2.2.2.2 _ (zg_mem (l := flatC narrow_1_4) (i := 262) rfl)
set_option maxRecDepth 100000 in
theorem zgv_18 (hg : zGv s b) : ((Cond.eq (Term.string "FlagLayersModel" 397) (Term.string "FlagLayers$Sort" 268))).before #[Value.ref b] s = true := hg.2.2.2.2 _ (zg_mem (l := flatC narrow_1_4) (i := 137) rfl)
set_option maxRecDepth 100000 in
theorem zgv_19 (hg : zGv s b) : ((Cond.eq (Term.string "FlagLayersModel" 399) (Term.string "FlagLayers$Sort" 271))).before #[Value.ref b] s = true := hg.2.2.2.2 _ (zg_mem (l := flatC narrow_1_4) (i := 147) rfl)
set_option maxRecDepth 100000 in
theorem zgv_20 (hg : zGv s b) : ((Cond.eq (Term.string "FlagLayersModel" 404) (Term.string "FlagLayers$Sort" 238))).before #[Value.ref b] s = true := hg.2.2.2.2 _ (zg_mem (l := flatC narrow_1_4) (i := 301) rfl)
set_option maxRecDepth 100000 in
theorem zgv_21 (hg : zGv s b) : ((Cond.eq (Term.string "FlagLayersModel" 406) (Term.string "FlagLayers$Sort" 241))).before #[Value.ref b] s = true := hg.2.2.2.2 _ (zg_mem (l := flatC narrow_1_4) (i := 309) rfl)
set_option maxRecDepth 100000 in
theorem zgv_22 (hg : zGv s b) : ((Cond.exactly (Term.string "FlagLayers$Reader" 420) "java/lang/String")).before #[Value.ref b] s = true := hg.2.2.1 _ (zg_mem (l := flatC narrow_1_2) (i := 132) rfl)
set_option maxRecDepth 100000 in
theorem zgv_23 (hg : zGv s b) : ((Cond.exactly (Term.string "FlagLayers" 39) "java/lang/String")).before #[Value.ref b] s = true := hg.2.2.1 _ (zg_mem (l := flatC narrow_1_2) (i := 156) rfl)
set_option maxRecDepth 100000 in
theorem zgv_24 (hg : zGv s b) : ((Cond.exactly (Term.string "FlagLayers" 139) "java/lang/String")).before #[Value.ref b] s = true := hg.2.2.1 _ (zg_mem (l := flatC narrow_1_2) (i := 260) rfl)
set_option maxRecDepth 100000 in
theorem zgv_25 (hg : zGv s b) : ((Cond.exactly (Term.string "FlagLayers" 50) "java/lang/String")).before #[Value.ref b] s = true := hg.2.2.1 _ (zg_mem (l := flatC narrow_1_2) (i := 202) rfl)
set_option maxRecDepth 100000 in
theorem zgv_26 (hg : zGv s b) : ((Cond.exactly (Term.string "FlagLayers" 106) "java/lang/String")).before #[Value.ref b] s = true := hg.2.2.1 _ (zg_mem (l := flatC narrow_1_2) (i := 230) rfl)
set_option maxRecDepth 100000 in
theorem zgv_27 (hg : zGv s b) : ((Cond.exactly (Term.string "FlagLayers" 152) "java/lang/String")).before #[Value.ref b] s = true := hg.2.2.1 _ (zg_mem (l := flatC narrow_1_2) (i := 292) rfl)
set_option maxRecDepth 100000 in
theorem zgv_28 (hg : zGv s b) : ((Cond.exactly (Term.string "FlagLayers" 170) "java/lang/String")).before #[Value.ref b] s = true := hg.2.2.1 _ (zg_mem (l := flatC narrow_1_2) (i := 317) rfl)
set_option maxRecDepth 100000 in
theorem zgv_29 (hg : zGv s b) : ((Cond.exactly (Term.string "FlagLayers" 180) "java/lang/String")).before #[Value.ref b] s = true := hg.2.2.1 _ (zg_mem (l := flatC narrow_1_2) (i := 333) rfl)
set_option maxRecDepth 100000 in
theorem zgv_30 (hg : zGv s b) : ((Cond.exactly (Term.string "FlagLayers" 186) "java/lang/String")).before #[Value.ref b] s = true := hg.2.2.1 _ (zg_mem (l := flatC narrow_1_2) (i := 349) rfl)
set_option maxRecDepth 100000 in
theorem zgv_31 (hg : zGv s b) : ((Cond.exactly (Term.string "FlagLayers" 208) "java/lang/String")).before #[Value.ref b] s = true := hg.2.2.1 _ (zg_mem (l := flatC narrow_1_2) (i := 365) rfl)
set_option maxRecDepth 100000 in
theorem zgv_32 (hg : zGv s b) : ((Cond.exactly (Term.string "FlagLayers" 210) "java/lang/String")).before #[Value.ref b] s = true := hg.2.2.2.1 _ (zg_mem (l := flatC narrow_1_3) (i := 2) rfl)
set_option maxRecDepth 100000 in
theorem zgv_33 (hg : zGv s b) : ((Cond.exactly (Term.string "FlagLayers" 220) "java/lang/String")).before #[Value.ref b] s = true := hg.2.2.2.1 _ (zg_mem (l := flatC narrow_1_3) (i := 27) rfl)
set_option maxRecDepth 100000 in
theorem zgv_34 (hg : zGv s b) : ((Cond.exactly (Term.string "FlagLayers" 222) "java/lang/String")).before #[Value.ref b] s = true := hg.2.2.2.1 _ (zg_mem (l := flatC narrow_1_3) (i := 65) rfl)
set_option maxRecDepth 100000 in
theorem zgv_35 (hg : zGv s b) : ((Cond.exactly (Term.string "FlagLayers" 237) "java/lang/String")).before #[Value.ref b] s = true := hg.2.2.2.1 _ (zg_mem (l := flatC narrow_1_3) (i := 84) rfl)
set_option maxRecDepth 100000 in
theorem zst_0 {ad : List Nat} {A : Nat → Prop} (hg : zGv s b) (hfx : zFx s b ad) (hA : ∀ a : Nat, a < s.heap.size → ¬ A a) : ∃ w, zr ad (.ref 48) w ∧ va_Z "java/util/ArrayList" "DEFAULTCAPACITY_EMPTY_ELEMENTDATA" "[Ljava/lang/Object;" w A s s.heap := by obtain ⟨a, h1, h2⟩ := hfx.2.2 47 _ rfl; exact ⟨.ref a, ⟨a, h1, rfl⟩, va_Zof (hg.1 _ (zt_1 116 rfl)) (hg.1 _ (zt_1 8 rfl)) h2 hA⟩
set_option maxRecDepth 100000 in
theorem zst_1 {ad : List Nat} {A : Nat → Prop} (hg : zGv s b) (hfx : zFx s b ad) (hA : ∀ a : Nat, a < s.heap.size → ¬ A a) : ∃ w, zr ad (.ref 1) w ∧ va_Z "FlagLayers$Sort" "END" "LFlagLayers$Sort;" w A s s.heap := by obtain ⟨a, h1, h2⟩ := hfx.2.2 0 _ rfl; exact ⟨.ref a, ⟨a, h1, rfl⟩, va_Zof (hg.1 _ (zt_1 233 rfl)) (hg.1 _ (zt_1 18 rfl)) h2 hA⟩
set_option maxRecDepth 100000 in
theorem zst_2 {ad : List Nat} {A : Nat → Prop} (hg : zGv s b) (hfx : zFx s b ad) (hA : ∀ a : Nat, a < s.heap.size → ¬ A a) : ∃ w, zr ad (.ref 2) w ∧ va_Z "FlagLayers$Sort" "BROKEN" "LFlagLayers$Sort;" w A s s.heap := by obtain ⟨a, h1, h2⟩ := hfx.2.2 1 _ rfl; exact ⟨.ref a, ⟨a, h1, rfl⟩, va_Zof (hg.1 _ (zt_2 51 rfl)) (hg.1 _ (zt_1 18 rfl)) h2 hA⟩
set_option maxRecDepth 100000 in
theorem zst_3 {ad : List Nat} {A : Nat → Prop} (hg : zGv s b) (hfx : zFx s b ad) (hA : ∀ a : Nat, a < s.heap.size → ¬ A a) : ∃ w, zr ad (.int 1) w ∧ va_Z "java/lang/String" "COMPACT_STRINGS" "Z" w A s s.heap := ⟨_, rfl, va_Zof (hg.1 _ (zt_2 70 rfl)) (hg.1 _ (zt_1 20 rfl)) (va_eqt (zgv_4 hg)) hA⟩
set_option maxRecDepth 100000 in
theorem zst_4 {ad : List Nat} {A : Nat → Prop} (hg : zGv s b) (hfx : zFx s b ad) (hA : ∀ a : Nat, a < s.heap.size → ¬ A a) : ∃ w, zr ad (.ref 44) w ∧ va_Z "FlagLayers$Sort" "ALL" "[LFlagLayers$Sort;" w A s s.heap := by obtain ⟨a, h1, h2⟩ := hfx.2.2 43 _ rfl; exact ⟨.ref a, ⟨a, h1, rfl⟩, va_Zof (hg.1 _ (zt_2 136 rfl)) (hg.1 _ (zt_1 18 rfl)) h2 hA⟩
set_option maxRecDepth 100000 in
theorem zst_5 {ad : List Nat} {A : Nat → Prop} (hg : zGv s b) (hfx : zFx s b ad) (hA : ∀ a : Nat, a < s.heap.size → ¬ A a) : ∃ w, zr ad (.ref 3) w ∧ va_Z "FlagLayers$Sort" "NAME" "LFlagLayers$Sort;" w A s s.heap := by obtain ⟨a, h1, h2⟩ := hfx.2.2 2 _ rfl; exact ⟨.ref a, ⟨a, h1, rfl⟩, va_Zof (hg.1 _ (zt_2 146 rfl)) (hg.1 _ (zt_1 18 rfl)) h2 hA⟩
set_option maxRecDepth 100000 in
theorem zst_6 {ad : List Nat} {A : Nat → Prop} (hg : zGv s b) (hfx : zFx s b ad) (hA : ∀ a : Nat, a < s.heap.size → ¬ A a) : ∃ w, zr ad (.ref 5) w ∧ va_Z "FlagLayers$Sort" "TEXT" "LFlagLayers$Sort;" w A s s.heap := by obtain ⟨a, h1, h2⟩ := hfx.2.2 4 _ rfl; exact ⟨.ref a, ⟨a, h1, rfl⟩, va_Zof (hg.1 _ (zt_2 155 rfl)) (hg.1 _ (zt_1 18 rfl)) h2 hA⟩
set_option maxRecDepth 100000 in
theorem zst_7 {ad : List Nat} {A : Nat → Prop} (hg : zGv s b) (hfx : zFx s b ad) (hA : ∀ a : Nat, a < s.heap.size → ¬ A a) : ∃ w, zr ad (.ref 4) w ∧ va_Z "FlagLayers$Sort" "NUMBER" "LFlagLayers$Sort;" w A s s.heap := by obtain ⟨a, h1, h2⟩ := hfx.2.2 3 _ rfl; exact ⟨.ref a, ⟨a, h1, rfl⟩, va_Zof (hg.1 _ (zt_3 173 rfl)) (hg.1 _ (zt_1 18 rfl)) h2 hA⟩
set_option maxRecDepth 100000 in
theorem zst_8 {ad : List Nat} {A : Nat → Prop} (hg : zGv s b) (hfx : zFx s b ad) (hA : ∀ a : Nat, a < s.heap.size → ¬ A a) : ∃ w, zr ad (.ref 46) w ∧ va_Z "java/lang/Integer" "DigitOnes" "[B" w A s s.heap := by obtain ⟨a, h1, h2⟩ := hfx.2.2 45 _ rfl; exact ⟨.ref a, ⟨a, h1, rfl⟩, va_Zof (hg.1 _ (zt_2 236 rfl)) (hg.1 _ (zt_1 26 rfl)) h2 hA⟩
set_option maxRecDepth 100000 in
theorem zst_9 {ad : List Nat} {A : Nat → Prop} (hg : zGv s b) (hfx : zFx s b ad) (hA : ∀ a : Nat, a < s.heap.size → ¬ A a) : ∃ w, zr ad (.ref 47) w ∧ va_Z "java/lang/Integer" "DigitTens" "[B" w A s s.heap := by obtain ⟨a, h1, h2⟩ := hfx.2.2 46 _ rfl; exact ⟨.ref a, ⟨a, h1, rfl⟩, va_Zof (hg.1 _ (zt_2 238 rfl)) (hg.1 _ (zt_1 26 rfl)) h2 hA⟩
set_option maxRecDepth 100000 in
theorem zst_10 {ad : List Nat} {A : Nat → Prop} (hg : zGv s b) (hfx : zFx s b ad) (hA : ∀ a : Nat, a < s.heap.size → ¬ A a) : ∃ w, zr ad (.ref 14) w ∧ va_Z "FlagLayers$Sort" "ARROW" "LFlagLayers$Sort;" w A s s.heap := by obtain ⟨a, h1, h2⟩ := hfx.2.2 13 _ rfl; exact ⟨.ref a, ⟨a, h1, rfl⟩, va_Zof (hg.1 _ (zt_3 179 rfl)) (hg.1 _ (zt_1 18 rfl)) h2 hA⟩
set_option maxRecDepth 100000 in
theorem zst_11 {ad : List Nat} {A : Nat → Prop} (hg : zGv s b) (hfx : zFx s b ad) (hA : ∀ a : Nat, a < s.heap.size → ¬ A a) : ∃ w, zr ad (.retAddr 0) w ∧ va_Z "jdk/internal/util/Preconditions" "SIOOBE_FORMATTER" "Ljava/util/function/BiFunction;" w A s s.heap := by obtain ⟨v, h1, h2⟩ := zev_rf (zgv_5 hg); exact ⟨v, h2, va_Zof (hg.1 _ (zt_2 112 rfl)) (hg.1 _ (zt_1 22 rfl)) h1 hA⟩
set_option maxRecDepth 100000 in
theorem zst_12 {ad : List Nat} {A : Nat → Prop} (hg : zGv s b) (hfx : zFx s b ad) (hA : ∀ a : Nat, a < s.heap.size → ¬ A a) : ∃ w, zr ad (.ref 45) w ∧ va_Z "FlagLayers$1" "$SwitchMap$FlagLayers$Sort" "[I" w A s s.heap := by obtain ⟨a, h1, h2⟩ := hfx.2.2 44 _ rfl; exact ⟨.ref a, ⟨a, h1, rfl⟩, va_Zof (hg.1 _ (zt_3 237 rfl)) (hg.1 _ (zt_1 29 rfl)) h2 hA⟩
set_option maxRecDepth 100000 in
theorem zst_13 {ad : List Nat} {A : Nat → Prop} (hg : zGv s b) (hfx : zFx s b ad) (hA : ∀ a : Nat, a < s.heap.size → ¬ A a) : ∃ w, zr ad (.ref 13) w ∧ va_Z "FlagLayers$Sort" "EQUALS" "LFlagLayers$Sort;" w A s s.heap := by obtain ⟨a, h1, h2⟩ := hfx.2.2 12 _ rfl; exact ⟨.ref a, ⟨a, h1, rfl⟩, va_Zof (hg.1 _ (zt_4 52 rfl)) (hg.1 _ (zt_1 18 rfl)) h2 hA⟩
set_option maxRecDepth 100000 in
theorem zst_14 {ad : List Nat} {A : Nat → Prop} (hg : zGv s b) (hfx : zFx s b ad) (hA : ∀ a : Nat, a < s.heap.size → ¬ A a) : ∃ w, zr ad (.ref 32) w ∧ va_Z "FlagLayers$Sort" "OR" "LFlagLayers$Sort;" w A s s.heap := by obtain ⟨a, h1, h2⟩ := hfx.2.2 31 _ rfl; exact ⟨.ref a, ⟨a, h1, rfl⟩, va_Zof (hg.1 _ (zt_4 54 rfl)) (hg.1 _ (zt_1 18 rfl)) h2 hA⟩
set_option maxRecDepth 100000 in
theorem zst_15 {ad : List Nat} {A : Nat → Prop} (hg : zGv s b) (hfx : zFx s b ad) (hA : ∀ a : Nat, a < s.heap.size → ¬ A a) : ∃ w, zr ad (.ref 10) w ∧ va_Z "FlagLayers$Sort" "SEMICOLON" "LFlagLayers$Sort;" w A s s.heap := by obtain ⟨a, h1, h2⟩ := hfx.2.2 9 _ rfl; exact ⟨.ref a, ⟨a, h1, rfl⟩, va_Zof (hg.1 _ (zt_4 149 rfl)) (hg.1 _ (zt_1 18 rfl)) h2 hA⟩
set_option maxRecDepth 100000 in
theorem zst_16 {ad : List Nat} {A : Nat → Prop} (hg : zGv s b) (hfx : zFx s b ad) (hA : ∀ a : Nat, a < s.heap.size → ¬ A a) : ∃ w, zr ad (.ref 33) w ∧ va_Z "FlagLayers$Sort" "AND" "LFlagLayers$Sort;" w A s s.heap := by obtain ⟨a, h1, h2⟩ := hfx.2.2 32 _ rfl; exact ⟨.ref a, ⟨a, h1, rfl⟩, va_Zof (hg.1 _ (zt_4 60 rfl)) (hg.1 _ (zt_1 18 rfl)) h2 hA⟩
set_option maxRecDepth 100000 in
theorem zst_17 {ad : List Nat} {A : Nat → Prop} (hg : zGv s b) (hfx : zFx s b ad) (hA : ∀ a : Nat, a < s.heap.size → ¬ A a) : ∃ w, zr ad (.ref 8) w ∧ va_Z "FlagLayers$Sort" "OPEN" "LFlagLayers$Sort;" w A s s.heap := by obtain ⟨a, h1, h2⟩ := hfx.2.2 7 _ rfl; exact ⟨.ref a, ⟨a, h1, rfl⟩, va_Zof (hg.1 _ (zt_4 66 rfl)) (hg.1 _ (zt_1 18 rfl)) h2 hA⟩
set_option maxRecDepth 100000 in
theorem zst_18 {ad : List Nat} {A : Nat → Prop} (hg : zGv s b) (hfx : zFx s b ad) (hA : ∀ a : Nat, a < s.heap.size → ¬ A a) : ∃ w, zr ad (.ref 31) w ∧ va_Z "FlagLayers$Sort" "NOT" "LFlagLayers$Sort;" w A s s.heap := by obtain ⟨a, h1, h2⟩ := hfx.2.2 30 _ rfl; exact ⟨.ref a, ⟨a, h1, rfl⟩, va_Zof (hg.1 _ (zt_4 68 rfl)) (hg.1 _ (zt_1 18 rfl)) h2 hA⟩
set_option maxRecDepth 100000 in
theorem zst_19 {ad : List Nat} {A : Nat → Prop} (hg : zGv s b) (hfx : zFx s b ad) (hA : ∀ a : Nat, a < s.heap.size → ¬ A a) : ∃ w, zr ad (.ref 9) w ∧ va_Z "FlagLayers$Sort" "CLOSE" "LFlagLayers$Sort;" w A s s.heap := by obtain ⟨a, h1, h2⟩ := hfx.2.2 8 _ rfl; exact ⟨.ref a, ⟨a, h1, rfl⟩, va_Zof (hg.1 _ (zt_4 70 rfl)) (hg.1 _ (zt_1 18 rfl)) h2 hA⟩
set_option maxRecDepth 100000 in
theorem zst_20 {ad : List Nat} {A : Nat → Prop} (hg : zGv s b) (hfx : zFx s b ad) (hA : ∀ a : Nat, a < s.heap.size → ¬ A a) : ∃ w, zr ad (.ref 34) w ∧ va_Z "FlagLayers$Sort" "TRUE" "LFlagLayers$Sort;" w A s s.heap := by obtain ⟨a, h1, h2⟩ := hfx.2.2 33 _ rfl; exact ⟨.ref a, ⟨a, h1, rfl⟩, va_Zof (hg.1 _ (zt_4 113 rfl)) (hg.1 _ (zt_1 18 rfl)) h2 hA⟩
set_option maxRecDepth 100000 in
theorem zst_21 {ad : List Nat} {A : Nat → Prop} (hg : zGv s b) (hfx : zFx s b ad) (hA : ∀ a : Nat, a < s.heap.size → ¬ A a) : ∃ w, zr ad (.ref 35) w ∧ va_Z "FlagLayers$Sort" "FALSE" "LFlagLayers$Sort;" w A s s.heap := by obtain ⟨a, h1, h2⟩ := hfx.2.2 34 _ rfl; exact ⟨.ref a, ⟨a, h1, rfl⟩, va_Zof (hg.1 _ (zt_4 115 rfl)) (hg.1 _ (zt_1 18 rfl)) h2 hA⟩
set_option maxRecDepth 100000 in
theorem zst_22 {ad : List Nat} {A : Nat → Prop} (hg : zGv s b) (hfx : zFx s b ad) (hA : ∀ a : Nat, a < s.heap.size → ¬ A a) : ∃ w, zr ad (.ref 30) w ∧ va_Z "FlagLayers$Sort" "IN" "LFlagLayers$Sort;" w A s s.heap := by obtain ⟨a, h1, h2⟩ := hfx.2.2 29 _ rfl; exact ⟨.ref a, ⟨a, h1, rfl⟩, va_Zof (hg.1 _ (zt_4 117 rfl)) (hg.1 _ (zt_1 18 rfl)) h2 hA⟩
set_option maxRecDepth 100000 in
theorem zst_23 {ad : List Nat} {A : Nat → Prop} (hg : zGv s b) (hfx : zFx s b ad) (hA : ∀ a : Nat, a < s.heap.size → ¬ A a) : ∃ w, zr ad (.ref 42) w ∧ va_Z "FlagLayers$Sort" "AMONG" "LFlagLayers$Sort;" w A s s.heap := by obtain ⟨a, h1, h2⟩ := hfx.2.2 41 _ rfl; exact ⟨.ref a, ⟨a, h1, rfl⟩, va_Zof (hg.1 _ (zt_4 127 rfl)) (hg.1 _ (zt_1 18 rfl)) h2 hA⟩
set_option maxRecDepth 100000 in
theorem zst_24 {ad : List Nat} {A : Nat → Prop} (hg : zGv s b) (hfx : zFx s b ad) (hA : ∀ a : Nat, a < s.heap.size → ¬ A a) : ∃ w, zr ad (.ref 11) w ∧ va_Z "FlagLayers$Sort" "COMMA" "LFlagLayers$Sort;" w A s s.heap := by obtain ⟨a, h1, h2⟩ := hfx.2.2 10 _ rfl; exact ⟨.ref a, ⟨a, h1, rfl⟩, va_Zof (hg.1 _ (zt_4 139 rfl)) (hg.1 _ (zt_1 18 rfl)) h2 hA⟩
set_option maxRecDepth 100000 in
theorem zst_25 {ad : List Nat} {A : Nat → Prop} (hg : zGv s b) (hfx : zFx s b ad) (hA : ∀ a : Nat, a < s.heap.size → ¬ A a) : ∃ w, zr ad (.ref 43) w ∧ va_Z "FlagLayers$Sort" "GIVEN" "LFlagLayers$Sort;" w A s s.heap := by obtain ⟨a, h1, h2⟩ := hfx.2.2 42 _ rfl; exact ⟨.ref a, ⟨a, h1, rfl⟩, va_Zof (hg.1 _ (zt_4 145 rfl)) (hg.1 _ (zt_1 18 rfl)) h2 hA⟩
set_option maxRecDepth 100000 in
theorem zst_26 {ad : List Nat} {A : Nat → Prop} (hg : zGv s b) (hfx : zFx s b ad) (hA : ∀ a : Nat, a < s.heap.size → ¬ A a) : ∃ w, zr ad (.ref 36) w ∧ va_Z "FlagLayers$Sort" "IS" "LFlagLayers$Sort;" w A s s.heap := by obtain ⟨a, h1, h2⟩ := hfx.2.2 35 _ rfl; exact ⟨.ref a, ⟨a, h1, rfl⟩, va_Zof (hg.1 _ (zt_4 147 rfl)) (hg.1 _ (zt_1 18 rfl)) h2 hA⟩
set_option maxRecDepth 100000 in
theorem zst_27 {ad : List Nat} {A : Nat → Prop} (hg : zGv s b) (hfx : zFx s b ad) (hA : ∀ a : Nat, a < s.heap.size → ¬ A a) : ∃ w, zr ad (.ref 12) w ∧ va_Z "FlagLayers$Sort" "COLON" "LFlagLayers$Sort;" w A s s.heap := by obtain ⟨a, h1, h2⟩ := hfx.2.2 11 _ rfl; exact ⟨.ref a, ⟨a, h1, rfl⟩, va_Zof (hg.1 _ (zt_5 52 rfl)) (hg.1 _ (zt_1 18 rfl)) h2 hA⟩
set_option maxRecDepth 100000 in
theorem zst_28 {ad : List Nat} {A : Nat → Prop} (hg : zGv s b) (hfx : zFx s b ad) (hA : ∀ a : Nat, a < s.heap.size → ¬ A a) : ∃ w, zr ad (.ref 6) w ∧ va_Z "FlagLayers$Sort" "OPEN_BRACE" "LFlagLayers$Sort;" w A s s.heap := by obtain ⟨a, h1, h2⟩ := hfx.2.2 5 _ rfl; exact ⟨.ref a, ⟨a, h1, rfl⟩, va_Zof (hg.1 _ (zt_5 67 rfl)) (hg.1 _ (zt_1 18 rfl)) h2 hA⟩
set_option maxRecDepth 100000 in
theorem zst_29 {ad : List Nat} {A : Nat → Prop} (hg : zGv s b) (hfx : zFx s b ad) (hA : ∀ a : Nat, a < s.heap.size → ¬ A a) : ∃ w, zr ad (.ref 19) w ∧ va_Z "FlagLayers$Sort" "DEFAULT" "LFlagLayers$Sort;" w A s s.heap := by obtain ⟨a, h1, h2⟩ := hfx.2.2 18 _ rfl; exact ⟨.ref a, ⟨a, h1, rfl⟩, va_Zof (hg.1 _ (zt_5 69 rfl)) (hg.1 _ (zt_1 18 rfl)) h2 hA⟩
set_option maxRecDepth 100000 in
theorem zst_30 {ad : List Nat} {A : Nat → Prop} (hg : zGv s b) (hfx : zFx s b ad) (hA : ∀ a : Nat, a < s.heap.size → ¬ A a) : ∃ w, zr ad (.ref 20) w ∧ va_Z "FlagLayers$Sort" "OFF" "LFlagLayers$Sort;" w A s s.heap := by obtain ⟨a, h1, h2⟩ := hfx.2.2 19 _ rfl; exact ⟨.ref a, ⟨a, h1, rfl⟩, va_Zof (hg.1 _ (zt_5 126 rfl)) (hg.1 _ (zt_1 18 rfl)) h2 hA⟩
set_option maxRecDepth 100000 in
theorem zst_31 {ad : List Nat} {A : Nat → Prop} (hg : zGv s b) (hfx : zFx s b ad) (hA : ∀ a : Nat, a < s.heap.size → ¬ A a) : ∃ w, zr ad (.ref 21) w ∧ va_Z "FlagLayers$Sort" "NEEDS" "LFlagLayers$Sort;" w A s s.heap := by obtain ⟨a, h1, h2⟩ := hfx.2.2 20 _ rfl; exact ⟨.ref a, ⟨a, h1, rfl⟩, va_Zof (hg.1 _ (zt_5 128 rfl)) (hg.1 _ (zt_1 18 rfl)) h2 hA⟩
set_option maxRecDepth 100000 in
theorem zst_32 {ad : List Nat} {A : Nat → Prop} (hg : zGv s b) (hfx : zFx s b ad) (hA : ∀ a : Nat, a < s.heap.size → ¬ A a) : ∃ w, zr ad (.ref 22) w ∧ va_Z "FlagLayers$Sort" "RULE" "LFlagLayers$Sort;" w A s s.heap := by obtain ⟨a, h1, h2⟩ := hfx.2.2 21 _ rfl; exact ⟨.ref a, ⟨a, h1, rfl⟩, va_Zof (hg.1 _ (zt_5 134 rfl)) (hg.1 _ (zt_1 18 rfl)) h2 hA⟩
set_option maxRecDepth 100000 in
theorem zst_33 {ad : List Nat} {A : Nat → Prop} (hg : zGv s b) (hfx : zFx s b ad) (hA : ∀ a : Nat, a < s.heap.size → ¬ A a) : ∃ w, zr ad (.ref 7) w ∧ va_Z "FlagLayers$Sort" "CLOSE_BRACE" "LFlagLayers$Sort;" w A s s.heap := by obtain ⟨a, h1, h2⟩ := hfx.2.2 6 _ rfl; exact ⟨.ref a, ⟨a, h1, rfl⟩, va_Zof (hg.1 _ (zt_5 156 rfl)) (hg.1 _ (zt_1 18 rfl)) h2 hA⟩
set_option maxRecDepth 100000 in
theorem zst_34 {ad : List Nat} {A : Nat → Prop} (hg : zGv s b) (hfx : zFx s b ad) (hA : ∀ a : Nat, a < s.heap.size → ¬ A a) : ∃ w, zr ad (.ref 16) w ∧ va_Z "FlagLayers$Sort" "BOOL" "LFlagLayers$Sort;" w A s s.heap := by obtain ⟨a, h1, h2⟩ := hfx.2.2 15 _ rfl; exact ⟨.ref a, ⟨a, h1, rfl⟩, va_Zof (hg.1 _ (zt_4 212 rfl)) (hg.1 _ (zt_1 18 rfl)) h2 hA⟩
set_option maxRecDepth 100000 in
theorem zst_35 {ad : List Nat} {A : Nat → Prop} (hg : zGv s b) (hfx : zFx s b ad) (hA : ∀ a : Nat, a < s.heap.size → ¬ A a) : ∃ w, zr ad (.ref 17) w ∧ va_Z "FlagLayers$Sort" "NUM" "LFlagLayers$Sort;" w A s s.heap := by obtain ⟨a, h1, h2⟩ := hfx.2.2 16 _ rfl; exact ⟨.ref a, ⟨a, h1, rfl⟩, va_Zof (hg.1 _ (zt_5 59 rfl)) (hg.1 _ (zt_1 18 rfl)) h2 hA⟩
set_option maxRecDepth 100000 in
theorem zst_36 {ad : List Nat} {A : Nat → Prop} (hg : zGv s b) (hfx : zFx s b ad) (hA : ∀ a : Nat, a < s.heap.size → ¬ A a) : ∃ w, zr ad (.ref 18) w ∧ va_Z "FlagLayers$Sort" "CHOICE" "LFlagLayers$Sort;" w A s s.heap := by obtain ⟨a, h1, h2⟩ := hfx.2.2 17 _ rfl; exact ⟨.ref a, ⟨a, h1, rfl⟩, va_Zof (hg.1 _ (zt_5 61 rfl)) (hg.1 _ (zt_1 18 rfl)) h2 hA⟩
set_option maxRecDepth 100000 in
theorem zst_37 {ad : List Nat} {A : Nat → Prop} (hg : zGv s b) (hfx : zFx s b ad) (hA : ∀ a : Nat, a < s.heap.size → ¬ A a) : ∃ w, zr ad (.ref 27) w ∧ va_Z "FlagLayers$Sort" "SPLIT" "LFlagLayers$Sort;" w A s s.heap := by obtain ⟨a, h1, h2⟩ := hfx.2.2 26 _ rfl; exact ⟨.ref a, ⟨a, h1, rfl⟩, va_Zof (hg.1 _ (zt_5 75 rfl)) (hg.1 _ (zt_1 18 rfl)) h2 hA⟩
set_option maxRecDepth 100000 in
theorem zst_38 {ad : List Nat} {A : Nat → Prop} (hg : zGv s b) (hfx : zFx s b ad) (hA : ∀ a : Nat, a < s.heap.size → ¬ A a) : ∃ w, zr ad (.ref 28) w ∧ va_Z "FlagLayers$Sort" "ROLL" "LFlagLayers$Sort;" w A s s.heap := by obtain ⟨a, h1, h2⟩ := hfx.2.2 27 _ rfl; exact ⟨.ref a, ⟨a, h1, rfl⟩, va_Zof (hg.1 _ (zt_5 118 rfl)) (hg.1 _ (zt_1 18 rfl)) h2 hA⟩
set_option maxRecDepth 100000 in
theorem zst_39 {ad : List Nat} {A : Nat → Prop} (hg : zGv s b) (hfx : zFx s b ad) (hA : ∀ a : Nat, a < s.heap.size → ¬ A a) : ∃ w, zr ad (.ref 29) w ∧ va_Z "FlagLayers$Sort" "ELSE" "LFlagLayers$Sort;" w A s s.heap := by obtain ⟨a, h1, h2⟩ := hfx.2.2 28 _ rfl; exact ⟨.ref a, ⟨a, h1, rfl⟩, va_Zof (hg.1 _ (zt_5 124 rfl)) (hg.1 _ (zt_1 18 rfl)) h2 hA⟩
set_option maxRecDepth 100000 in
theorem zst_40 {ad : List Nat} {A : Nat → Prop} (hg : zGv s b) (hfx : zFx s b ad) (hA : ∀ a : Nat, a < s.heap.size → ¬ A a) : ∃ w, zr ad (.ref 24) w ∧ va_Z "FlagLayers$Sort" "OF" "LFlagLayers$Sort;" w A s s.heap := by obtain ⟨a, h1, h2⟩ := hfx.2.2 23 _ rfl; exact ⟨.ref a, ⟨a, h1, rfl⟩, va_Zof (hg.1 _ (zt_5 162 rfl)) (hg.1 _ (zt_1 18 rfl)) h2 hA⟩
set_option maxRecDepth 100000 in
theorem zst_41 {ad : List Nat} {A : Nat → Prop} (hg : zGv s b) (hfx : zFx s b ad) (hA : ∀ a : Nat, a < s.heap.size → ¬ A a) : ∃ w, zr ad (.ref 25) w ∧ va_Z "FlagLayers$Sort" "SET" "LFlagLayers$Sort;" w A s s.heap := by obtain ⟨a, h1, h2⟩ := hfx.2.2 24 _ rfl; exact ⟨.ref a, ⟨a, h1, rfl⟩, va_Zof (hg.1 _ (zt_5 197 rfl)) (hg.1 _ (zt_1 18 rfl)) h2 hA⟩
set_option maxRecDepth 100000 in
theorem zsr_0 {ad : List Nat} (hg : zGv s b) (hfx : zFx s b ad) : ∃ a, zg ad 49 = some a ∧ vk_R "FlagLayers$Tape" 56 "" a s := by obtain ⟨a, h1, h2⟩ := hfx.2.2 48 _ rfl; exact ⟨a, h1, vk_R.of (hg.1 _ (zt_1 234 rfl)) (zeqL (zgv_6 hg) h2)⟩
set_option maxRecDepth 100000 in
theorem zsr_1 {ad : List Nat} (hg : zGv s b) (hfx : zFx s b ad) : ∃ a, zg ad 49 = some a ∧ vk_R "java/lang/String" 7 "" a s := by obtain ⟨a, h1, h2⟩ := hfx.2.2 48 _ rfl; exact ⟨a, h1, vk_R.of (hg.1 _ (zt_2 68 rfl)) (zeqL (zgv_7 hg) h2)⟩
set_option maxRecDepth 100000 in
theorem zsr_2 {ad : List Nat} (hg : zGv s b) (hfx : zFx s b ad) : ∃ a, zg ad 51 = some a ∧ vk_R "java/util/Arrays" 337 " > " a s := by obtain ⟨a, h1, h2⟩ := hfx.2.2 50 _ rfl; exact ⟨a, h1, vk_R.of (hg.1 _ (zt_3 94 rfl)) h2⟩
set_option maxRecDepth 100000 in
theorem zsr_3 {ad : List Nat} (hg : zGv s b) (hfx : zFx s b ad) : ∃ a, zg ad 53 = some a ∧ vk_R "FlagLayersModel" 330 "segment flag layer" a s := by obtain ⟨a, h1, h2⟩ := hfx.2.2 52 _ rfl; exact ⟨a, h1, vk_R.of (hg.1 _ (zt_8 186 rfl)) h2⟩
set_option maxRecDepth 100000 in
theorem zsr_4 {ad : List Nat} (hg : zGv s b) (hfx : zFx s b ad) : ∃ a, zg ad 55 = some a ∧ vk_R "FlagLayersModel" 308 "flag bool num choice default off needs rule layer of set segment split roll else in not or and true false is below above begins ends holds among given" a s := by obtain ⟨a, h1, h2⟩ := hfx.2.2 54 _ rfl; exact ⟨a, h1, vk_R.of (hg.1 _ (zt_8 209 rfl)) h2⟩
set_option maxRecDepth 100000 in
theorem zsr_5 {ad : List Nat} (hg : zGv s b) (hfx : zFx s b ad) : ∃ a, zg ad 57 = some a ∧ vk_R "FlagLayersModel" 456 "and" a s := by obtain ⟨a, h1, h2⟩ := hfx.2.2 56 _ rfl; exact ⟨a, h1, vk_R.of (hg.1 _ (zt_9 49 rfl)) (zeqL (zgv_8 hg) h2)⟩
set_option maxRecDepth 100000 in
theorem zsr_6 {ad : List Nat} (hg : zGv s b) (hfx : zFx s b ad) : ∃ a, zg ad 59 = some a ∧ vk_R "FlagLayersModel" 461 "or" a s := by obtain ⟨a, h1, h2⟩ := hfx.2.2 58 _ rfl; exact ⟨a, h1, vk_R.of (hg.1 _ (zt_9 58 rfl)) (zeqL (zgv_9 hg) h2)⟩
set_option maxRecDepth 100000 in
theorem zsr_7 {ad : List Nat} (hg : zGv s b) (hfx : zFx s b ad) : ∃ a, zg ad 61 = some a ∧ vk_R "FlagLayersModel" 469 "not" a s := by obtain ⟨a, h1, h2⟩ := hfx.2.2 60 _ rfl; exact ⟨a, h1, vk_R.of (hg.1 _ (zt_9 6 rfl)) (zeqL (zgv_10 hg) h2)⟩
set_option maxRecDepth 100000 in
theorem zsr_8 {ad : List Nat} (hg : zGv s b) (hfx : zFx s b ad) : ∃ a, zg ad 63 = some a ∧ vk_R "FlagLayersModel" 474 "true false in" a s := by obtain ⟨a, h1, h2⟩ := hfx.2.2 62 _ rfl; exact ⟨a, h1, vk_R.of (hg.1 _ (zt_9 19 rfl)) h2⟩
set_option maxRecDepth 100000 in
theorem zsr_9 {ad : List Nat} (hg : zGv s b) (hfx : zFx s b ad) : ∃ a, zg ad 65 = some a ∧ vk_R "FlagLayersModel" 479 "is below above begins ends holds among given" a s := by obtain ⟨a, h1, h2⟩ := hfx.2.2 64 _ rfl; exact ⟨a, h1, vk_R.of (hg.1 _ (zt_9 28 rfl)) h2⟩
set_option maxRecDepth 100000 in
theorem zsr_10 {ad : List Nat} (hg : zGv s b) (hfx : zFx s b ad) : ∃ a, zg ad 67 = some a ∧ vk_R "FlagLayersModel" 368 "bool num choice" a s := by obtain ⟨a, h1, h2⟩ := hfx.2.2 66 _ rfl; exact ⟨a, h1, vk_R.of (hg.1 _ (zt_9 67 rfl)) h2⟩
set_option maxRecDepth 100000 in
theorem zsr_11 {ad : List Nat} (hg : zGv s b) (hfx : zFx s b ad) : ∃ a, zg ad 69 = some a ∧ vk_R "FlagLayersModel" 373 "default" a s := by obtain ⟨a, h1, h2⟩ := hfx.2.2 68 _ rfl; exact ⟨a, h1, vk_R.of (hg.1 _ (zt_9 72 rfl)) (zeqL (zgv_11 hg) h2)⟩
set_option maxRecDepth 100000 in
theorem zsr_12 {ad : List Nat} (hg : zGv s b) (hfx : zFx s b ad) : ∃ a, zg ad 71 = some a ∧ vk_R "FlagLayersModel" 382 "off" a s := by obtain ⟨a, h1, h2⟩ := hfx.2.2 70 _ rfl; exact ⟨a, h1, vk_R.of (hg.1 _ (zt_9 98 rfl)) (zeqL (zgv_12 hg) h2)⟩
set_option maxRecDepth 100000 in
theorem zsr_13 {ad : List Nat} (hg : zGv s b) (hfx : zFx s b ad) : ∃ a, zg ad 73 = some a ∧ vk_R "FlagLayersModel" 387 "needs" a s := by obtain ⟨a, h1, h2⟩ := hfx.2.2 72 _ rfl; exact ⟨a, h1, vk_R.of (hg.1 _ (zt_9 99 rfl)) (zeqL (zgv_13 hg) h2)⟩
set_option maxRecDepth 100000 in
theorem zsr_14 {ad : List Nat} (hg : zGv s b) (hfx : zFx s b ad) : ∃ a, zg ad 75 = some a ∧ vk_R "FlagLayersModel" 392 "rule" a s := by obtain ⟨a, h1, h2⟩ := hfx.2.2 74 _ rfl; exact ⟨a, h1, vk_R.of (hg.1 _ (zt_9 104 rfl)) (zeqL (zgv_14 hg) h2)⟩
set_option maxRecDepth 100000 in
theorem zsr_15 {ad : List Nat} (hg : zGv s b) (hfx : zFx s b ad) : ∃ a, zg ad 77 = some a ∧ vk_R "FlagLayersModel" 412 "roll" a s := by obtain ⟨a, h1, h2⟩ := hfx.2.2 76 _ rfl; exact ⟨a, h1, vk_R.of (hg.1 _ (zt_9 81 rfl)) (zeqL (zgv_15 hg) h2)⟩
set_option maxRecDepth 100000 in
theorem zsr_16 {ad : List Nat} (hg : zGv s b) (hfx : zFx s b ad) : ∃ a, zg ad 79 = some a ∧ vk_R "FlagLayersModel" 414 "split" a s := by obtain ⟨a, h1, h2⟩ := hfx.2.2 78 _ rfl; exact ⟨a, h1, vk_R.of (hg.1 _ (zt_9 82 rfl)) (zeqL (zgv_16 hg) h2)⟩
set_option maxRecDepth 100000 in
theorem zsr_17 {ad : List Nat} (hg : zGv s b) (hfx : zFx s b ad) : ∃ a, zg ad 81 = some a ∧ vk_R "FlagLayersModel" 423 "else" a s := by obtain ⟨a, h1, h2⟩ := hfx.2.2 80 _ rfl; exact ⟨a, h1, vk_R.of (hg.1 _ (zt_9 97 rfl)) (zeqL (zgv_17 hg) h2)⟩
set_option maxRecDepth 100000 in
theorem zsr_18 {ad : List Nat} (hg : zGv s b) (hfx : zFx s b ad) : ∃ a, zg ad 83 = some a ∧ vk_R "FlagLayersModel" 397 "true" a s := by obtain ⟨a, h1, h2⟩ := hfx.2.2 82 _ rfl; exact ⟨a, h1, vk_R.of (hg.1 _ (zt_9 95 rfl)) (zeqL (zgv_18 hg) h2)⟩
set_option maxRecDepth 100000 in
theorem zsr_19 {ad : List Nat} (hg : zGv s b) (hfx : zFx s b ad) : ∃ a, zg ad 85 = some a ∧ vk_R "FlagLayersModel" 399 "false" a s := by obtain ⟨a, h1, h2⟩ := hfx.2.2 84 _ rfl; exact ⟨a, h1, vk_R.of (hg.1 _ (zt_9 96 rfl)) (zeqL (zgv_19 hg) h2)⟩
set_option maxRecDepth 100000 in
theorem zsr_20 {ad : List Nat} (hg : zGv s b) (hfx : zFx s b ad) : ∃ a, zg ad 87 = some a ∧ vk_R "FlagLayersModel" 404 "of" a s := by obtain ⟨a, h1, h2⟩ := hfx.2.2 86 _ rfl; exact ⟨a, h1, vk_R.of (hg.1 _ (zt_9 113 rfl)) (zeqL (zgv_20 hg) h2)⟩
set_option maxRecDepth 100000 in
theorem zsr_21 {ad : List Nat} (hg : zGv s b) (hfx : zFx s b ad) : ∃ a, zg ad 89 = some a ∧ vk_R "FlagLayersModel" 406 "set" a s := by obtain ⟨a, h1, h2⟩ := hfx.2.2 88 _ rfl; exact ⟨a, h1, vk_R.of (hg.1 _ (zt_9 114 rfl)) (zeqL (zgv_21 hg) h2)⟩
set_option maxRecDepth 100000 in
theorem zsh_0 (hg : zGv s b) : ∃ a, vk_R "FlagLayers$Reader" 420 "the text has a fault" a s := by obtain ⟨a, h2⟩ := zev_ex (zgv_22 hg); exact ⟨a, vk_R.of (hg.1 _ (zt_4 22 rfl)) h2⟩
set_option maxRecDepth 100000 in
theorem zsh_1 (hg : zGv s b) : ∃ a, vk_R "FlagLayers" 39 "the tape has no room for twenty bytes more" a s := by obtain ⟨a, h2⟩ := zev_ex (zgv_23 hg); exact ⟨a, vk_R.of (hg.1 _ (zt_6 42 rfl)) h2⟩
set_option maxRecDepth 100000 in
theorem zsh_2 (hg : zGv s b) : ∃ a, vk_R "FlagLayers" 139 "eight other things are known" a s := by obtain ⟨a, h2⟩ := zev_ex (zgv_24 hg); exact ⟨a, vk_R.of (hg.1 _ (zt_6 108 rfl)) h2⟩
set_option maxRecDepth 100000 in
theorem zsh_3 (hg : zGv s b) : ∃ a, vk_R "FlagLayers" 50 "the tape has no such end" a s := by obtain ⟨a, h2⟩ := zev_ex (zgv_25 hg); exact ⟨a, vk_R.of (hg.1 _ (zt_6 61 rfl)) h2⟩
set_option maxRecDepth 100000 in
theorem zsh_4 (hg : zGv s b) : ∃ a, vk_R "FlagLayers" 106 "nothing of that is counted" a s := by obtain ⟨a, h2⟩ := zev_ex (zgv_26 hg); exact ⟨a, vk_R.of (hg.1 _ (zt_6 80 rfl)) h2⟩
set_option maxRecDepth 100000 in
theorem zsh_5 (hg : zGv s b) : ∃ a, vk_R "FlagLayers" 152 "no such kind of names" a s := by obtain ⟨a, h2⟩ := zev_ex (zgv_27 hg); exact ⟨a, vk_R.of (hg.1 _ (zt_6 124 rfl)) h2⟩
set_option maxRecDepth 100000 in
theorem zsh_6 (hg : zGv s b) : ∃ a, vk_R "FlagLayers" 170 "no such name" a s := by obtain ⟨a, h2⟩ := zev_ex (zgv_28 hg); exact ⟨a, vk_R.of (hg.1 _ (zt_6 142 rfl)) h2⟩
set_option maxRecDepth 100000 in
theorem zsh_7 (hg : zGv s b) : ∃ a, vk_R "FlagLayers" 180 "no such byte" a s := by obtain ⟨a, h2⟩ := zev_ex (zgv_29 hg); exact ⟨a, vk_R.of (hg.1 _ (zt_6 144 rfl)) h2⟩
set_option maxRecDepth 100000 in
theorem zsh_8 (hg : zGv s b) : ∃ a, vk_R "FlagLayers" 186 "no such flag" a s := by obtain ⟨a, h2⟩ := zev_ex (zgv_30 hg); exact ⟨a, vk_R.of (hg.1 _ (zt_6 153 rfl)) h2⟩
set_option maxRecDepth 100000 in
theorem zsh_9 (hg : zGv s b) : ∃ a, vk_R "FlagLayers" 208 "nothing of that is told of a flag" a s := by obtain ⟨a, h2⟩ := zev_ex (zgv_31 hg); exact ⟨a, vk_R.of (hg.1 _ (zt_6 159 rfl)) h2⟩
set_option maxRecDepth 100000 in
theorem zsh_10 (hg : zGv s b) : ∃ a, vk_R "FlagLayers" 210 "no such flag or layer" a s := by obtain ⟨a, h2⟩ := zev_ex (zgv_32 hg); exact ⟨a, vk_R.of (hg.1 _ (zt_6 167 rfl)) h2⟩
set_option maxRecDepth 100000 in
theorem zsh_11 (hg : zGv s b) : ∃ a, vk_R "FlagLayers" 220 "nothing of that is told of a value" a s := by obtain ⟨a, h2⟩ := zev_ex (zgv_33 hg); exact ⟨a, vk_R.of (hg.1 _ (zt_7 44 rfl)) h2⟩
set_option maxRecDepth 100000 in
theorem zsh_12 (hg : zGv s b) : ∃ a, vk_R "FlagLayers" 222 "no such segment" a s := by obtain ⟨a, h2⟩ := zev_ex (zgv_34 hg); exact ⟨a, vk_R.of (hg.1 _ (zt_7 52 rfl)) h2⟩
set_option maxRecDepth 100000 in
theorem zsh_13 (hg : zGv s b) : ∃ a, vk_R "FlagLayers" 237 "no such split or roll" a s := by obtain ⟨a, h2⟩ := zev_ex (zgv_35 hg); exact ⟨a, vk_R.of (hg.1 _ (zt_7 76 rfl)) h2⟩
set_option maxRecDepth 100000 in
theorem zgv_36 (hg : zGv s b) : ((Cond.isRef (Term.static "java/lang/Throwable" "UNASSIGNED_STACK" "[Ljava/lang/StackTraceElement;"))).before #[Value.ref b] s = true := hg.2.1 _ (zg_mem (l := flatC narrow_1_1) (i := 277) rfl)
set_option maxRecDepth 100000 in
theorem zgv_37 (hg : zGv s b) : ((Cond.isRef (Term.static "java/lang/Throwable" "SUPPRESSED_SENTINEL" "Ljava/util/List;"))).before #[Value.ref b] s = true := hg.2.1 _ (zg_mem (l := flatC narrow_1_1) (i := 278) rfl)
set_option maxRecDepth 100000 in
theorem zgv_38 (hg : zGv s b) : ((Cond.not (Cond.castable "java/lang/IllegalStateException" "java/lang/IllegalArgumentException"))).before #[Value.ref b] s = true := hg.2.2.1 _ (zg_mem (l := flatC narrow_1_2) (i := 48) rfl)
set_option maxRecDepth 100000 in
theorem zgv_39 (hg : zGv s b) : ((Cond.isRef (Term.mirror "[Ljava/lang/Object;"))).before #[Value.ref b] s = true := hg.2.2.1 _ (zg_mem (l := flatC narrow_1_2) (i := 115) rfl)
theorem zAll2_of {α : Type} {P : α → Prop} : ∀ {l : List α}, (∀ w ∈ l, P w) → ∀ (k : Nat) (q : α), zg l k = some q → P q := fun h k q hk => h q (zg_mem hk)
theorem zsf_of {D : va_G} (hg : zGv s b) (hD : ∀ ci r, zg zclL ci = some r → zKn D s ci r) : (∃ (cf fi : Nat) (kf : Class) (f : Field), s.fieldFound? "java/lang/Enum" "ordinal" "I" = some (cf, kf, fi, f) ∧ f.isStatic = false ∧ f.slot = D.2 15 0) ∧ ∃ (cf fi : Nat) (kf : Class) (f : Field), s.fieldFound? "FlagLayers$Sort" "spelling" "Ljava/lang/String;" = some (cf, kf, fi, f) ∧ f.isStatic = false ∧ f.slot = D.2 15 1 := by
  have hb := (zblk zeb_0 hg.2.1)
  obtain ⟨a, c, cell, kc, q1, q2, q3, q4, q5, q6, -⟩ := Cond.exactly_spec (args := #[.ref b]) (first := s) (o := none) (s := s) (idx := []) (hb _ List.mem_cons_self)
  have e1 := va_eqt (hb _ (List.mem_cons_of_mem _ List.mem_cons_self))
  obtain ⟨a2, g2⟩ := zev_ex (b := b) (s := s) ((zblk zsb_0 hg.2.2.2.2) _ List.mem_cons_self)
  have e2 := zeqL (hb _ (List.mem_cons_of_mem _ (List.mem_cons_of_mem _ List.mem_cons_self))) g2
  obtain ⟨cf, k, i, f, cell1, f1, f1s, -⟩ := vk_OFof (A := fun _ => False) q1 e1 (fun _ _ q => q)
  obtain ⟨cf2, k2, i2, f2, cell2, f3, f3s, -⟩ := vk_OFof (A := fun _ => False) q1 e2 (fun _ _ q => q)
  obtain ⟨_, _, _, fa, h1, h2⟩ := (hD 15 _ rfl).1 0 (by decide)
  obtain ⟨_, _, _, fb, h3, h4⟩ := (hD 15 _ rfl).1 1 (by decide)
  cases f1.symm.trans h1
  cases f3.symm.trans h3
  exact ⟨⟨_, _, _, _, f1, f1s, h2⟩, _, _, _, _, f3, f3s, h4⟩
set_option maxHeartbeats 4000000 in
set_option maxRecDepth 100000 in
theorem zK2_of {D : va_G} {ad : List Nat} {A : Nat → Prop} (hg : zGv s b) (hfx : zFx s b ad) (hD : ∀ ci r, zg zclL ci = some r → zKn D s ci r) (hA : ∀ a : Nat, a < s.heap.size → ¬ A a) : zK2 D ad A s := by
  refine ⟨⟨hD, zAll2_of ?_, zAll2_of ?_, ?_, fun w hw => ?_, ?_, ?_, ?_, ?_⟩, va_Mi.of (zgv_39 hg)⟩
  · exact zmc (zst_0 hg hfx hA) (zmc (zst_1 hg hfx hA) (zmc (zst_2 hg hfx hA) (zmc (zst_3 hg hfx hA) (zmc (zst_4 hg hfx hA) (zmc (zst_5 hg hfx hA) (zmc (zst_6 hg hfx hA) (zmc (zst_7 hg hfx hA) (zmc (zst_8 hg hfx hA) (zmc (zst_9 hg hfx hA) (zmc (zst_10 hg hfx hA) (zmc (zst_11 hg hfx hA) (zmc (zst_12 hg hfx hA) (zmc (zst_13 hg hfx hA) (zmc (zst_14 hg hfx hA) (zmc (zst_15 hg hfx hA) (zmc (zst_16 hg hfx hA) (zmc (zst_17 hg hfx hA) (zmc (zst_18 hg hfx hA) (zmc (zst_19 hg hfx hA) (zmc (zst_20 hg hfx hA) (zmc (zst_21 hg hfx hA) (zmc (zst_22 hg hfx hA) (zmc (zst_23 hg hfx hA) (zmc (zst_24 hg hfx hA) (zmc (zst_25 hg hfx hA) (zmc (zst_26 hg hfx hA) (zmc (zst_27 hg hfx hA) (zmc (zst_28 hg hfx hA) (zmc (zst_29 hg hfx hA) (zmc (zst_30 hg hfx hA) (zmc (zst_31 hg hfx hA) (zmc (zst_32 hg hfx hA) (zmc (zst_33 hg hfx hA) (zmc (zst_34 hg hfx hA) (zmc (zst_35 hg hfx hA) (zmc (zst_36 hg hfx hA) (zmc (zst_37 hg hfx hA) (zmc (zst_38 hg hfx hA) (zmc (zst_39 hg hfx hA) (zmc (zst_40 hg hfx hA) (zmc (zst_41 hg hfx hA) (zmn))))))))))))))))))))))))))))))))))))))))))
  · exact zmc (zsr_0 hg hfx) (zmc (zsr_1 hg hfx) (zmc (zsr_2 hg hfx) (zmc (zsr_3 hg hfx) (zmc (zsr_4 hg hfx) (zmc (zsr_5 hg hfx) (zmc (zsr_6 hg hfx) (zmc (zsr_7 hg hfx) (zmc (zsr_8 hg hfx) (zmc (zsr_9 hg hfx) (zmc (zsr_10 hg hfx) (zmc (zsr_11 hg hfx) (zmc (zsr_12 hg hfx) (zmc (zsr_13 hg hfx) (zmc (zsr_14 hg hfx) (zmc (zsr_15 hg hfx) (zmc (zsr_16 hg hfx) (zmc (zsr_17 hg hfx) (zmc (zsr_18 hg hfx) (zmc (zsr_19 hg hfx) (zmc (zsr_20 hg hfx) (zmc (zsr_21 hg hfx) (zmn))))))))))))))))))))))
  · exact zmc (zsh_0 hg) (zmc (zsh_1 hg) (zmc (zsh_2 hg) (zmc (zsh_3 hg) (zmc (zsh_4 hg) (zmc (zsh_5 hg) (zmc (zsh_6 hg) (zmc (zsh_7 hg) (zmc (zsh_8 hg) (zmc (zsh_9 hg) (zmc (zsh_10 hg) (zmc (zsh_11 hg) (zmc (zsh_12 hg) (zmc (zsh_13 hg) (zmn))))))))))))))
  · have h := List.mem_filter.mp hw
    exact va_Nw.of (zisNw_tab h.2) (hg.1 w (List.mem_append_right _ h.1))
  · obtain ⟨q1, q2⟩ := zsf_of hg hD
    exact zmc q1 (zmc q2 zmn)
  · exact zmc (vx_Zqof (hg.1 _ (zt_3 77 rfl)) (hg.1 _ (zt_1 10 rfl)) (zgv_36 hg) hA) (zmc (vx_Zqof (hg.1 _ (zt_3 79 rfl)) (hg.1 _ (zt_1 10 rfl)) (zgv_37 hg) hA) (zmn))
  · exact zmc (va_Nc.of (zgv_38 hg)) zmn
  · exact zmc (va_AO.of (hg.1 _ (zt_1 67 rfl))) (zmc (va_AO.of (hg.1 _ (zt_4 197 rfl))) (zmc (va_AO.of (hg.1 _ (zt_5 170 rfl))) (zmn)))
end ZSTC

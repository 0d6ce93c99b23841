/-! WHAT THE ROWS OWE, by kinds: constants, throws, catches -/
section ZOBM
def zisNw : Cond → Bool
  | .castable _ _ | .declares _ | .methodLinkNest _ _ _ _ | .fieldLinkNest _ _ _ _ _ _ => true
  | _ => false
def znwL : List Cond := tables_1.filter zisNw
theorem zisNw_tab {w : Cond} (h : zisNw w = true) : w.onTables = true := by
  cases w <;> first | rfl | (cases h; done)
theorem znw_ok : ∀ w ∈ znwL, zNwok w := by
  intro w hw s U hW hZ
  have h := (List.mem_filter.mp hw).2
  cases w <;> first | exact va_Nw.warmC hW hZ | exact va_Nw.warmD hW hZ | exact va_Nw.warmM hW hZ | exact va_Nw.warmF hW hZ | (cases h; done)
theorem znw_mem {w : Cond} (h : w ∈ tables_1) (hn : zisNw w = true) : w ∈ znwL := List.mem_filter.mpr ⟨h, hn⟩
theorem zhat {L : List Cond} {args : Array Value} {s : State} (h : ∀ w ∈ L, w ∈ tables_1) (hg : L.all (fun w => goodWord w || zisNw w) = true) (hts : ∀ w ∈ zT, w.before args s = true) (hnw : ∀ w ∈ znwL, va_Nw w s) : ∀ w ∈ L, w.before args s = true := by
  intro w hw
  have q := List.all_eq_true.mp hg w hw
  rw [Bool.or_eq_true] at q
  rcases q with q2 | q2
  · exact hts w (zT_mem (List.mem_append_right _ (h w hw)) q2)
  · exact va_Nw.use (zisNw_tab q2) (hnw w (znw_mem (h w hw) q2))
theorem zposs {L big : List Cond} (ps : List Nat) (hp : L = ps.filterMap (fun i => zg big i)) : ∀ w ∈ L, w ∈ big := by
  intro w hw
  rw [hp] at hw
  obtain ⟨i, -, hi⟩ := List.mem_filterMap.mp hw
  exact zg_mem hi
variable {D : va_G} {l : Launch} {p : Program} {e : Env} {R : Room} {s : State} {m : MethodId} {args : Array Value} {below : List Frame} {meth : Method} {c : Code} {mi d pc idx : Nat} {A : Nat → Prop} {ad0 : List Nat}
theorem zk_int {v : Int32} (hcx : zCx zGG zby zown p R s m meth c mi d) (hts : ∀ w ∈ zT, w.before args s = true) (w1 : Cond.constant (zown mi) idx v ∈ zT) (hdec : decode (zby mi) pc = .ok (.ldc idx, 2)) : zOkCs p l e R s m args below meth c A ad0 pc (.ldc idx) (.int v) :=
  ⟨.int v, rfl, fun H locs cells slots Q ls rest hS k => lv_ldc hcx.1 hcx.2.1 hcx.2.2.2.2.2.1 (hts _ w1) hdec k⟩
theorem zk_intw {v : Int32} (hcx : zCx zGG zby zown p R s m meth c mi d) (hts : ∀ w ∈ zT, w.before args s = true) (w1 : Cond.constant (zown mi) idx v ∈ zT) (hdec : decode (zby mi) pc = .ok (.ldc_w idx, 3)) : zOkCs p l e R s m args below meth c A ad0 pc (.ldc_w idx) (.int v) :=
  ⟨.int v, rfl, fun H locs cells slots Q ls rest hS k => lv_ldcw hcx.1 hcx.2.1 hcx.2.2.2.2.2.1 (hts _ w1) hdec k⟩
theorem zk_long {v : Int64} (hcx : zCx zGG zby zown p R s m meth c mi d) (hts : ∀ w ∈ zT, w.before args s = true) (w1 : Cond.constantLong (zown mi) idx v ∈ zT) (hdec : decode (zby mi) pc = .ok (.ldc2_w idx, 3)) : zOkCs p l e R s m args below meth c A ad0 pc (.ldc2_w idx) (.long v) :=
  ⟨.long v, rfl, fun H locs cells slots Q ls rest hS k => lv_ldc2 hcx.1 hcx.2.1 hcx.2.2.2.2.2.1 (hts _ w1) hdec k⟩
theorem zk_str {tx : String} {k : Nat} (hcx : zCx zGG zby zown p R s m meth c mi d) (hz : ∃ a, zg ad0 k = some a ∧ vk_R (zown mi) idx tx a s) (hdec : decode (zby mi) pc = .ok (.ldc idx, 2)) : zOkCs p l e R s m args below meth c A ad0 pc (.ldc idx) (.ref k) := by
  obtain ⟨a, h1, h2⟩ := hz
  exact ⟨.ref a, ⟨a, h1, rfl⟩, fun H locs cells slots Q ls rest hS k => va_ldcS hcx.1 hcx.2.1 hcx.2.2.2.2.2.1 h2 hdec k⟩
theorem zk_strw {tx : String} {k : Nat} (hcx : zCx zGG zby zown p R s m meth c mi d) (hz : ∃ a, zg ad0 k = some a ∧ vk_R (zown mi) idx tx a s) (hdec : decode (zby mi) pc = .ok (.ldc_w idx, 3)) : zOkCs p l e R s m args below meth c A ad0 pc (.ldc_w idx) (.ref k) := by
  obtain ⟨a, h1, h2⟩ := hz
  refine ⟨.ref a, ⟨a, h1, rfl⟩, fun H locs cells slots Q ls rest hS k => ?_⟩
  intro T hT X
  obtain ⟨t, a1, b1⟩ := k T hT X
  exact ⟨t, X.ldcStringW hcx.1 hcx.2.2.2.2.2.1 (text := tx) (a := a) h2.1 h2.2 (g := F0 m pc ls rest) rfl (by rw [hcx.2.1]; exact hdec) t a1, b1⟩
theorem zk_st {C n dd ref : String} {v : Value} (hcx : zCx zGG zby zown p R s m meth c mi d) (hts : ∀ w ∈ zT, w.before args s = true) (hz : ∃ w, zr ad0 v w ∧ va_Z C n dd w A s s.heap) (w1 : Cond.fieldLink (zown mi) idx ref n dd ∈ zT) (hr : ref = C) (hdec : decode (zby mi) pc = .ok (.getstatic idx, 3)) : zOkCs p l e R s m args below meth c A ad0 pc (.getstatic idx) v := by
  obtain ⟨w, h1, h2⟩ := hz
  subst hr
  exact ⟨w, h1, fun H locs cells slots Q ls rest hS k => va_gets hcx.1 hcx.2.1 h2 hS hcx.2.2.2.2.2.1 (hts _ w1) (fun _ h => h) hdec k⟩
/-- 'throw new E("text")' where no handler of its own stands -/
theorem zk_throw {cls text : String} {ik is ic : Nat} (hl : l.stackTraces = false) (hcx : zCx zGG zby zown p R s m meth c mi d) (hout : c.exceptionTable.toList = []) (hcls : Bundle.fit cls = true)
    (hat : ∀ w ∈ Cond.classLink (zown mi) ik cls :: Cond.initialized cls :: vx_atS (zown mi) ic cls ["java/lang/RuntimeException", "java/lang/Exception"], w.before args s = true) (h2 : (Cond.classLink (zown mi) ik cls :: Cond.initialized cls :: vx_atS (zown mi) ic cls ["java/lang/RuntimeException", "java/lang/Exception"]).all vx_ot = true)
    (hstr : ∃ a, vk_R (zown mi) is text a s) (hU : vx_Zq Bundle.tN "UNASSIGNED_STACK" Bundle.steD A s s.heap) (hN : vx_Zq Bundle.tN "SUPPRESSED_SENTINEL" Bundle.listD A s s.heap)
    (d0 : decode (zby mi) pc = .ok (.new ik, 3)) (d3 : decode (zby mi) (pc + 3) = .ok (.dup, 1)) (d4 : (decode (zby mi) (pc + 4) = .ok (.ldc is, 2) ∧ decode (zby mi) (pc + 6) = .ok (.invokespecial ic, 3) ∧ decode (zby mi) (pc + 9) = .ok (.athrow, 1)) ∨ (decode (zby mi) (pc + 4) = .ok (.ldc_w is, 3) ∧ decode (zby mi) (pc + 7) = .ok (.invokespecial ic, 3) ∧ decode (zby mi) (pc + 10) = .ok (.athrow, 1))) :
    zOkThrow l p e R s m args below meth c A pc cls := by
  obtain ⟨x1, x2, x3, x4, x5, x6, x7, x8⟩ := hcx
  intro H locs cells slots mc ms ls Qc XC free hS hls hc1 hs1 hx hf hc2 hs2
  obtain ⟨sa, hsa⟩ := hstr
  have hgood : ∀ w ∈ Cond.classLink (zown mi) ik cls :: Cond.initialized cls :: vx_atS (zown mi) ic cls ["java/lang/RuntimeException", "java/lang/Exception"], vx_ot w = true := List.all_eq_true.mp h2
  have hno : ∀ q, ∀ x ∈ c.exceptionTable.toList, covers x q = false := fun q x hx => by rw [hout] at hx; cases hx
  have hfit : ∀ n ∈ ["java/lang/RuntimeException", "java/lang/Exception"], Bundle.fit n = true := by decide +kernel
  rcases d4 with ⟨d4, d6, d9⟩ | ⟨d4, d7, d10⟩
  · exact vx_throwS (names := ["java/lang/RuntimeException", "java/lang/Exception"]) x1 x2 hl x6 hcls hfit (hat _ List.mem_cons_self) (hat _ (List.mem_cons_of_mem _ List.mem_cons_self)) hsa (fun w hw => hat w (List.mem_cons_of_mem _ (List.mem_cons_of_mem _ hw))) hgood hU hN hS hls d0 d3 d4 d6 d9 (hno _) (by show 2 + 3 < _; omega) (by show 0 + _ ≤ _; show 0 + (13 * (2 + 1) + 43) ≤ _; omega) hc1 hs1 x5 hx hf hc2 hs2
  · exact vx_throwSW (names := ["java/lang/RuntimeException", "java/lang/Exception"]) x1 x2 hl x6 hcls hfit (hat _ List.mem_cons_self) (hat _ (List.mem_cons_of_mem _ List.mem_cons_self)) hsa (fun w hw => hat w (List.mem_cons_of_mem _ (List.mem_cons_of_mem _ hw))) hgood hU hN hS hls d0 d3 d4 d7 d10 (hno _) (by show 2 + 3 < _; omega) (by show 0 + _ ≤ _; show 0 + (13 * (2 + 1) + 43) ≤ _; omega) hc1 hs1 x5 hx hf hc2 hs2
/-- no handlers: it goes on to the caller -/
theorem zk_out {E : String} (hcx : zCx zGG zby zown p R s m meth c mi d) (hout : c.exceptionTable.toList = []) : zOkExc l p e R s m args below meth c pc E none := by
  intro H locs cells slots mc ms ls rest Qc XC free q ce h1 h2 h3 hx hf hc hs
  exact vx_out (fun x hx => by rw [hout] at hx; cases hx) hcx.2.2.2.2.1 h1 h2 h3 hx hf hc hs
/-- caught by the table's first row, or by its second where the first names another class -/
theorem zk_catch1 {E : String} {x : ExceptionTableEntry} {suf : List ExceptionTableEntry} (hcx : zCx zGG zby zown p R s m meth c mi d) (hts : ∀ w ∈ zT, w.before args s = true) (ht : c.exceptionTable.toList = x :: suf) (hc : covers x pc = true) (h0 : x.catchType ≠ 0) (w1 : Cond.classLink (zown mi) x.catchType E ∈ zT) (w2 : va_Nw (Cond.castable E E) s) : zOkExc l p e R s m args below meth c pc E (some x.handlerPc) := by
  intro H locs cells slots Q ls rest q ce h1 h2 h3 kk
  exact vx_catch hcx.2.2.2.2.2.1 [] x suf (by rw [ht]; rfl) (fun z hz => by cases hz) hc h0 (hts _ w1) (va_Nw.use rfl w2) h1 h2 h3 kk
theorem zk_catch2 {E nm : String} {y x : ExceptionTableEntry} {suf : List ExceptionTableEntry} (hcx : zCx zGG zby zown p R s m meth c mi d) (hts : ∀ w ∈ zT, w.before args s = true) (ht : c.exceptionTable.toList = y :: x :: suf) (hy0 : y.catchType ≠ 0) (wy : Cond.classLink (zown mi) y.catchType nm ∈ zT) (hnc : va_Nc E nm s) (hc : covers x pc = true) (h0 : x.catchType ≠ 0) (w1 : Cond.classLink (zown mi) x.catchType E ∈ zT) (w2 : va_Nw (Cond.castable E E) s) : zOkExc l p e R s m args below meth c pc E (some x.handlerPc) := by
  intro H locs cells slots Q ls rest q ce h1 h2 h3 kk
  exact vx_catch hcx.2.2.2.2.2.1 [y] x suf (by rw [ht]; rfl) (fun z hz => by rw [List.mem_singleton.mp hz]; exact Or.inr ⟨hy0, nm, hts _ wy, hnc⟩) hc h0 (hts _ w1) (va_Nw.use rfl w2) h1 h2 h3 kk
end ZOBM

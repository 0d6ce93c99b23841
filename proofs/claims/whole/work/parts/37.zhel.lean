/-! THE PURE PART, fourth text: the heap's operations as functions that may fail, and their rules -/
section ZHEL
def gV (h : zH) (a ci k : Nat) : Option Value := match zg h.1 a with
  | some (.inr (c, fs)) => match Nat.beq c ci with
    | true => zg fs k
    | false => none
  | _ => none
def gI (h : zH) (a ci k : Nat) : Option Int32 := match gV h a ci k with
  | some (.int x) => some x
  | _ => none
def gJ (h : zH) (a ci k : Nat) : Option Int64 := match gV h a ci k with
  | some (.long x) => some x
  | _ => none
def gR (h : zH) (a ci k : Nat) : Option (Option Nat) := match gV h a ci k with
  | some (.ref x) => some (some x)
  | some .null => some none
  | _ => none
def pF (h : zH) (a ci k : Nat) (v : Value) : Option zH := match zg h.1 a with
  | some (.inr (c, fs)) => match Nat.beq c ci && Nat.ble zn0 a && zfit (zty ci k) v with
    | true => match zg fs k with
      | some _ => some (zs h.1 a (.inr (c, zs fs k v)), h.2)
      | none => none
    | false => none
  | _ => none
def nO (h : zH) (ci n : Nat) : zH := (h.1 ++ [.inr (ci, zdf ci)], h.2.1 + 1, h.2.2 + n)
def nA (h : zH) (c : Nat) (j : Int32) : Option zH := match !decide (j < 0) && Nat.ble j.toNatClampNeg 65536 && Nat.ble c 4 with
  | true => some (h.1 ++ [.inl (c, List.replicate j.toNatClampNeg (zdef c))], h.2.1 + 1, h.2.2 + j.toNatClampNeg)
  | false => none
def nV (h : zH) (ci : Nat) (j : Int32) : Option zH := match !decide (j < 0) && Nat.ble j.toNatClampNeg 65536 with
  | true => some (h.1 ++ [.inl (ci + 5, List.replicate j.toNatClampNeg .null)], h.2.1 + 1, h.2.2 + j.toNatClampNeg)
  | false => none
def aN (h : zH) (a : Nat) : Option Int32 := match zg h.1 a with
  | some (.inl (_, vs)) => some (nI vs.length)
  | _ => none
def aL (ok : Nat → Bool) (h : zH) (a : Nat) (j : Int32) : Option Value := match zg h.1 a with
  | some (.inl (ty, vs)) => match ok ty && !decide (j < 0) with
    | true => zg vs j.toNatClampNeg
    | false => none
  | _ => none
def oI (v : Option Value) : Option Int32 := match v with
  | some (.int x) => some x
  | _ => none
def oJ (v : Option Value) : Option Int64 := match v with
  | some (.long x) => some x
  | _ => none
def oR (v : Option Value) : Option (Option Nat) := match v with
  | some (.ref x) => some (some x)
  | some .null => some none
  | _ => none
def aI (h : zH) (a : Nat) (j : Int32) : Option Int32 := oI (aL (fun ty => Nat.beq ty 0) h a j)
def aB (h : zH) (a : Nat) (j : Int32) : Option Int32 := oI (aL (fun ty => Nat.beq ty 1 || Nat.beq ty 2) h a j)
def aC (h : zH) (a : Nat) (j : Int32) : Option Int32 := oI (aL (fun ty => Nat.beq ty 3) h a j)
def aJ (h : zH) (a : Nat) (j : Int32) : Option Int64 := oJ (aL (fun ty => Nat.beq ty 4) h a j)
def aR (h : zH) (a : Nat) (j : Int32) : Option (Option Nat) := oR (aL (fun ty => Nat.ble 5 ty) h a j)
def aS (ok : Nat → Value → Option Value) (h : zH) (a : Nat) (j : Int32) (v : Value) : Option zH := match zast ok zn0 [v, .int j, .ref a] h with
  | some (_, h') => some h'
  | none => none
def kC (h : zH) (r : Option Nat) (k a2 : Nat) : Bool := match zCa zasg zn0 (.checkcast 0) k a2 [va_rf r] h with
  | some _ => true
  | none => false
def iO (h : zH) (r : Option Nat) (k : Nat) : Option Int32 := match zCa zasg zn0 (.instanceof 0) k 0 [va_rf r] h with
  | some (.int x :: _) => some x
  | _ => none
def isO (h : zH) (a n : Nat) : Bool := match zg h.1 a with
  | some (.inr (ci, _)) => Nat.beq ci n
  | _ => false
def rEq (p q : Option Nat) : Option Bool := zreq (va_rf p) (va_rf q)
def nt0 (h : zH) (k0 : Nat) (sp : Int32) (k1 : Nat) (dp n : Int32) : Option zH := match zNcp [.int n, .int dp, .ref k1, .int sp, .ref k0] h with
  | some (_, h') => some h'
  | none => none
def nt1 (h : zH) (k0 : Nat) (n : Int32) : Option zH := match zNco [.int n, .ref k0] h with
  | some (_, h') => some h'
  | none => none
def exOk (e : Nat) : Bool := Nat.ble 18 e && Nat.ble e 20
theorem zc1_rf (r : Option Nat) : zc1 (va_rf r) = true := by cases r <;> rfl
section
variable {d m pc a1 a2 a3 x ci k a n : Nat} {L L' : List (Option Value)} {st : List Value} {h h' : zH} {Q : zRs → zH → Prop} {v : Value} {j y : Int32} {r p q : Option Nat}
theorem gV_spec (e : gV h a ci k = some v) : ∃ fs, zg h.1 a = some (.inr (ci, fs)) ∧ zg fs k = some v := by
  unfold gV at e
  split at e
  · rename_i c fs ho
    split at e
    · rename_i hb
      rw [Nat.eq_of_beq_eq_true hb] at ho
      exact ⟨fs, ho, e⟩
    · cases e
  · cases e
theorem gI_spec (e : gI h a ci k = some y) : gV h a ci k = some (.int y) := by
  unfold gI at e
  split at e
  · rename_i z hz; cases e; exact hz
  · cases e
theorem gJ_spec {y : Int64} (e : gJ h a ci k = some y) : gV h a ci k = some (.long y) := by
  unfold gJ at e
  split at e
  · rename_i z hz; cases e; exact hz
  · cases e
theorem gR_spec (e : gR h a ci k = some r) : gV h a ci k = some (va_rf r) := by
  unfold gR at e
  split at e
  · rename_i z hz; cases e; exact hz
  · rename_i hz; cases e; exact hz
  · cases e
theorem zy_getV (hp : zprog m pc = some (.getfield x, ci, k, a3)) (h3 : Nat.beq a3 1 = false) (e : gV h a ci k = some v) (kk : zW d m (pc + 3) L (v :: st) h Q) : zW d m pc L (.ref a :: st) h Q := by
  obtain ⟨fs, h1, h2⟩ := gV_spec e
  exact zx_getf hp h3 h1 h2 kk
theorem zy_getI (hp : zprog m pc = some (.getfield x, ci, k, a3)) (h3 : Nat.beq a3 1 = false) (e : gI h a ci k = some y) (kk : zW d m (pc + 3) L (.int y :: st) h Q) : zW d m pc L (.ref a :: st) h Q := zy_getV hp h3 (gI_spec e) kk
theorem zy_getJ {y : Int64} (hp : zprog m pc = some (.getfield x, ci, k, a3)) (h3 : Nat.beq a3 1 = false) (e : gJ h a ci k = some y) (kk : zW d m (pc + 3) L (.long y :: st) h Q) : zW d m pc L (.ref a :: st) h Q := zy_getV hp h3 (gJ_spec e) kk
theorem zy_getR (hp : zprog m pc = some (.getfield x, ci, k, a3)) (h3 : Nat.beq a3 1 = false) (e : gR h a ci k = some r) (kk : zW d m (pc + 3) L (va_rf r :: st) h Q) : zW d m pc L (.ref a :: st) h Q := zy_getV hp h3 (gR_spec e) kk
theorem zy_put (hp : zprog m pc = some (.putfield x, ci, k, a3)) (h3 : Nat.beq a3 1 = false) (e : pF h a ci k v = some h') (kk : zW d m (pc + 3) L st h' Q) : zW d m pc L (v :: .ref a :: st) h Q := by
  refine zw_heap (h' := h') (st' := st) hp h3 rfl rfl ?_ kk
  unfold pF at e
  show (match zg h.1 a with | some (.inr (ci', fs)) => _ | _ => _) = _
  split at e
  · rename_i c fs ho
    try rw [ho]
    try dsimp only
    split at e
    · rename_i hb
      try rw [hb]
      try dsimp only
      split at e
      · rename_i w hw
        try rw [hw]
        cases e
        try rfl
      · cases e
    · cases e
  · cases e
theorem zy_new (hp : zprog m pc = some (.new x, ci, n, a3)) (h3 : Nat.beq a3 1 = false) (kk : zW d m (pc + 3) L (.ref h.1.length :: st) (nO h ci n) Q) : zW d m pc L st h Q := zx_new hp h3 kk
theorem zy_newarr {t : ArrayType} {c : Nat} (hp : zprog m pc = some (.newarray t, a1, a2, a3)) (h3 : Nat.beq a3 1 = false) (hc : zcode t = c) (e : nA h c j = some h') (kk : zW d m (pc + 2) L (.ref h.1.length :: st) h' Q) : zW d m pc L (.int j :: st) h Q := by
  refine zw_heap (h' := h') (st' := .ref h.1.length :: st) hp h3 rfl rfl ?_ kk
  unfold nA at e
  show (match !decide (j < 0) && Nat.ble j.toNatClampNeg 65536 && Nat.ble (zcode t) 4 with | true => _ | false => _) = _
  rw [hc]
  split at e
  · rename_i hb
    try rw [hb]
    cases e
    try rfl
  · cases e
theorem zy_anewarr (hp : zprog m pc = some (.anewarray x, ci, a2, a3)) (h3 : Nat.beq a3 1 = false) (e : nV h ci j = some h') (kk : zW d m (pc + 3) L (.ref h.1.length :: st) h' Q) : zW d m pc L (.int j :: st) h Q := by
  refine zw_heap (h' := h') (st' := .ref h.1.length :: st) hp h3 rfl rfl ?_ kk
  unfold nV at e
  show (match !decide (j < 0) && Nat.ble j.toNatClampNeg 65536 with | true => _ | false => _) = _
  split at e
  · rename_i hb
    try rw [hb]
    cases e
    try rfl
  · cases e
theorem zy_alen (hp : zprog m pc = some (.arraylength, a1, a2, a3)) (h3 : Nat.beq a3 1 = false) (e : aN h a = some y) (kk : zW d m (pc + 1) L (.int y :: st) h Q) : zW d m pc L (.ref a :: st) h Q := by
  unfold aN at e
  split at e
  · rename_i ty vs ho
    cases e
    exact zx_alen hp h3 ho kk
  · cases e
theorem oI_spec {v : Option Value} (e : oI v = some y) : v = some (.int y) := by
  unfold oI at e
  split at e
  · cases e; rfl
  · cases e
theorem oJ_spec {v : Option Value} {y : Int64} (e : oJ v = some y) : v = some (.long y) := by
  unfold oJ at e
  split at e
  · cases e; rfl
  · cases e
theorem oR_spec {v : Option Value} (e : oR v = some r) : v = some (va_rf r) := by
  unfold oR at e
  split at e
  · cases e; rfl
  · cases e; rfl
  · cases e
theorem aL_spec {ok : Nat → Bool} (e : aL ok h a j = some v) : zald ok (.int j :: .ref a :: st) h = some (v :: st, h) := by
  unfold aL at e
  unfold zald
  split at e
  · rename_i ty vs ho
    try dsimp only
    try rw [ho]
    try dsimp only
    split at e
    · rename_i hb
      try rw [hb]
      try dsimp only
      rw [e]
    · cases e
  · cases e
theorem zy_aI (hp : zprog m pc = some (.iaload, a1, a2, a3)) (h3 : Nat.beq a3 1 = false) (e : aI h a j = some y) (kk : zW d m (pc + 1) L (.int y :: st) h Q) : zW d m pc L (.int j :: .ref a :: st) h Q := zw_heap hp h3 rfl rfl (aL_spec (oI_spec e)) kk
theorem zy_aB (hp : zprog m pc = some (.baload, a1, a2, a3)) (h3 : Nat.beq a3 1 = false) (e : aB h a j = some y) (kk : zW d m (pc + 1) L (.int y :: st) h Q) : zW d m pc L (.int j :: .ref a :: st) h Q := zw_heap hp h3 rfl rfl (aL_spec (oI_spec e)) kk
theorem zy_aC (hp : zprog m pc = some (.caload, a1, a2, a3)) (h3 : Nat.beq a3 1 = false) (e : aC h a j = some y) (kk : zW d m (pc + 1) L (.int y :: st) h Q) : zW d m pc L (.int j :: .ref a :: st) h Q := zw_heap hp h3 rfl rfl (aL_spec (oI_spec e)) kk
theorem zy_aJ {y : Int64} (hp : zprog m pc = some (.laload, a1, a2, a3)) (h3 : Nat.beq a3 1 = false) (e : aJ h a j = some y) (kk : zW d m (pc + 1) L (.long y :: st) h Q) : zW d m pc L (.int j :: .ref a :: st) h Q := zw_heap hp h3 rfl rfl (aL_spec (oJ_spec e)) kk
theorem zy_aR (hp : zprog m pc = some (.aaload, a1, a2, a3)) (h3 : Nat.beq a3 1 = false) (e : aR h a j = some r) (kk : zW d m (pc + 1) L (va_rf r :: st) h Q) : zW d m pc L (.int j :: .ref a :: st) h Q := zw_heap hp h3 rfl rfl (aL_spec (oR_spec e)) kk
theorem zast_rest {ok : Nat → Value → Option Value} {s0 : List Value} (e : zast ok zn0 [v, .int j, .ref a] h = some (s0, h')) : zast ok zn0 (v :: .int j :: .ref a :: st) h = some (st, h') := by
  unfold zast at e ⊢
  dsimp only at e ⊢
  split at e
  · rename_i ty vs ho
    try rw [ho]
    try dsimp only
    split at e
    · rename_i y hy
      try rw [hy]
      try dsimp only
      split at e
      · rename_i hb
        try rw [hb]
        try dsimp only
        split at e
        · rename_i w hw
          try rw [hw]
          cases e
          try rfl
        · cases e
      · cases e
    · cases e
  · cases e
theorem aS_spec {ok : Nat → Value → Option Value} (e : aS ok h a j v = some h') : zast ok zn0 (v :: .int j :: .ref a :: st) h = some (st, h') := by
  unfold aS at e
  split at e
  · rename_i s0 h9 hz
    cases e
    exact zast_rest hz
  · cases e
theorem zy_sI (hp : zprog m pc = some (.iastore, a1, a2, a3)) (h3 : Nat.beq a3 1 = false) (e : aS zsI h a j v = some h') (kk : zW d m (pc + 1) L st h' Q) : zW d m pc L (v :: .int j :: .ref a :: st) h Q := zw_heap hp h3 rfl rfl (aS_spec e) kk
theorem zy_sB (hp : zprog m pc = some (.bastore, a1, a2, a3)) (h3 : Nat.beq a3 1 = false) (e : aS zsB h a j v = some h') (kk : zW d m (pc + 1) L st h' Q) : zW d m pc L (v :: .int j :: .ref a :: st) h Q := zw_heap hp h3 rfl rfl (aS_spec e) kk
theorem zy_sC (hp : zprog m pc = some (.castore, a1, a2, a3)) (h3 : Nat.beq a3 1 = false) (e : aS zsC h a j v = some h') (kk : zW d m (pc + 1) L st h' Q) : zW d m pc L (v :: .int j :: .ref a :: st) h Q := zw_heap hp h3 rfl rfl (aS_spec e) kk
theorem zy_sJ (hp : zprog m pc = some (.lastore, a1, a2, a3)) (h3 : Nat.beq a3 1 = false) (e : aS zsL h a j v = some h') (kk : zW d m (pc + 1) L st h' Q) : zW d m pc L (v :: .int j :: .ref a :: st) h Q := zw_heap hp h3 rfl rfl (aS_spec e) kk
theorem zy_sR (hp : zprog m pc = some (.aastore, a1, a2, a3)) (h3 : Nat.beq a3 1 = false) (e : aS (zsA zasg h.1) h a j v = some h') (kk : zW d m (pc + 1) L st h' Q) : zW d m pc L (v :: .int j :: .ref a :: st) h Q := zw_heap hp h3 rfl rfl (aS_spec e) kk
theorem zy_cast (hp : zprog m pc = some (.checkcast x, k, a2, a3)) (h3 : Nat.beq a3 1 = false) (e : kC h r k a2 = true) (kk : zW d m (pc + 3) L (va_rf r :: st) h Q) : zW d m pc L (va_rf r :: st) h Q := by
  refine zw_cast (st' := va_rf r :: st) hp h3 rfl rfl rfl rfl ?_ kk
  unfold kC at e
  cases r with
  | none => rfl
  | some a =>
    show zCa zasg zn0 (.checkcast x) k a2 (.ref a :: st) h = some (.ref a :: st)
    have e : (match zCa zasg zn0 (.checkcast 0) k a2 [.ref a] h with | some _ => true | none => false) = true := e
    unfold zCa at e ⊢
    dsimp only at e ⊢
    split at e
    · rename_i hz
      split at hz
      · rename_i ho
        try rw [ho]
        try dsimp only
        split at hz
        · rename_i hb; (try rw [hb]); (try rfl)
        · cases hz
      · rename_i ho
        try rw [ho]
        try dsimp only
        split at hz
        · rename_i hb; (try rw [hb]); (try rfl)
        · cases hz
      · cases hz
    · cases e
theorem zy_inst (hp : zprog m pc = some (.instanceof x, k, a2, a3)) (h3 : Nat.beq a3 1 = false) (e : iO h r k = some y) (kk : zW d m (pc + 3) L (.int y :: st) h Q) : zW d m pc L (va_rf r :: st) h Q := by
  refine zw_cast (st' := .int y :: st) hp h3 rfl rfl rfl rfl ?_ kk
  unfold iO at e
  cases r with
  | none =>
    have e : some (0 : Int32) = some y := e
    cases e
    try rfl
  | some a =>
    show zCa zasg zn0 (.instanceof x) k a2 (.ref a :: st) h = some (.int y :: st)
    have e : (match zCa zasg zn0 (.instanceof 0) k 0 [.ref a] h with | some (.int x :: _) => some x | _ => none) = some y := e
    unfold zCa at e ⊢
    dsimp only at e ⊢
    split at e
    · rename_i z hz
      cases e
      split at hz
      · rename_i ho
        try rw [ho]
        try dsimp only
        split at hz
        · rename_i hb
          try rw [hb]
          cases hz
          try rfl
        · cases hz
      · cases hz
    · cases e
theorem zrcv_isO {vs : List Value} (e : isO h a n = true) : zrcv (n + 3) (.ref a :: vs) h = true := e
theorem zy_rload {k : Nat} (hp : zprog m pc = some (.aload k, a1, a2, a3)) (h3 : Nat.beq a3 1 = false) (hv : zg L k = some (some (va_rf r))) (kk : zW d m (pc + 2) L (va_rf r :: st) h Q) : zW d m pc L st h Q := by
  cases r with
  | none => exact zx_nload hp h3 hv kk
  | some a => exact zx_aload hp h3 hv kk
theorem zy_rload_n {k : Fin 4} (hp : zprog m pc = some (.aload_n k, a1, a2, a3)) (h3 : Nat.beq a3 1 = false) (hv : zg L k.val = some (some (va_rf r))) (kk : zW d m (pc + 1) L (va_rf r :: st) h Q) : zW d m pc L st h Q := by
  cases r with
  | none => exact zx_nload_n hp h3 hv kk
  | some a => exact zx_aload_n hp h3 hv kk
theorem zy_rstore {k : Nat} (hp : zprog m pc = some (.astore k, a1, a2, a3)) (h3 : Nat.beq a3 1 = false) (hv : zput L k (va_rf r) = some L') (kk : zW d m (pc + 2) L' st h Q) : zW d m pc L (va_rf r :: st) h Q := by
  cases r with
  | none => exact zx_nstore hp h3 hv kk
  | some a => exact zx_astore hp h3 hv kk
theorem zy_rstore_n {k : Fin 4} (hp : zprog m pc = some (.astore_n k, a1, a2, a3)) (h3 : Nat.beq a3 1 = false) (hv : zput L k.val (va_rf r) = some L') (kk : zW d m (pc + 1) L' st h Q) : zW d m pc L (va_rf r :: st) h Q := by
  cases r with
  | none => exact zx_nstore_n hp h3 hv kk
  | some a => exact zx_astore_n hp h3 hv kk
theorem zy_aeq {f : Int} {b : Bool} (hp : zprog m pc = some (.if_acmp .eq f, a1, a2, a3)) (h3 : Nat.beq a3 1 = false) (e : rEq p q = some b) (k1 : b = true → zW d m a1 L st h Q) (k2 : b = false → zW d m (pc + 3) L st h Q) : zW d m pc L (va_rf q :: va_rf p :: st) h Q :=
  zw_cnd (b := b) hp h3 rfl (by show (match zreq (va_rf p) (va_rf q) with | some b => _ | none => _) = _; rw [show zreq (va_rf p) (va_rf q) = _ from e]) k1 k2
theorem zy_ane {f : Int} {b : Bool} (hp : zprog m pc = some (.if_acmp .ne f, a1, a2, a3)) (h3 : Nat.beq a3 1 = false) (e : rEq p q = some b) (k1 : b = false → zW d m a1 L st h Q) (k2 : b = true → zW d m (pc + 3) L st h Q) : zW d m pc L (va_rf q :: va_rf p :: st) h Q :=
  zw_cnd (b := !b) hp h3 rfl (by show (match zreq (va_rf p) (va_rf q) with | some b => _ | none => _) = _; rw [show zreq (va_rf p) (va_rf q) = _ from e]) (fun z => k1 (by cases b; rfl; cases z)) (fun z => k2 (by cases b; cases z; rfl))
theorem zy_areturn {ty : FieldType} (hp : zprog m pc = some (.areturn, a1, a2, a3)) (h3 : Nat.beq a3 1 = false) (ht : zrt m = some ty) (hty : (match ty with | .object _ => true | .array _ => true | _ => false) = true) (kk : Q (.inl (some (va_rf r))) h) : zW d m pc L [va_rf r] h Q := by
  refine zx_areturn (v := va_rf r) hp h3 ?_ kk
  rw [ht]
  cases ty <;> first | (cases hty; done) | (cases r <;> rfl)
theorem zy_nat0 {i : Instr} {k0 k1 b : Nat} {sp dp : Int32} {y : Int32} (hi : zisInv i = true) (hp : zprog m pc = some (i, 0, b + 3, a3)) (h3 : Nat.beq a3 1 = false) (e : nt0 h k0 sp k1 dp y = some h') (kk : zW d m (pc + 3) L [] h' Q) : zW d m pc L [.int y, .int dp, .ref k1, .int sp, .ref k0] h Q := by
  unfold nt0 at e
  split at e
  · rename_i s0 h9 hz
    cases e
    have hs : s0 = [] := by
      unfold zNcp at hz
      dsimp only at hz
      split at hz
      · split at hz
        · cases hz; rfl
        · cases hz
      · cases hz
    rw [hs] at hz
    exact zw_nat hi hp h3 hz kk
  · cases e
theorem zy_nat1 {i : Instr} {k0 b : Nat} {y : Int32} (hi : zisInv i = true) (hp : zprog m pc = some (i, 1, b + 3, a3)) (h3 : Nat.beq a3 1 = false) (hc : Nat.ble (zcat st) 8 = true) (e : nt1 h k0 y = some h') (kk : zW d m (pc + 3) L (.ref h.1.length :: st) h' Q) : zW d m pc L (.int y :: .ref k0 :: st) h Q := by
  unfold nt1 at e
  split at e
  · rename_i s0 h9 hz
    cases e
    refine zw_nat (st' := .ref h.1.length :: st) hi hp h3 ?_ kk
    rw [show znt 1 (.int y :: .ref k0 :: st) h = zNco (.int y :: .ref k0 :: st) h from rfl]
    unfold zNco at hz ⊢
    dsimp only at hz ⊢
    split at hz
    · rename_i v0 ho
      try rw [ho]
      try dsimp only
      split at hz
      · rename_i hb
        simp only [Bool.and_eq_true] at hb
        rw [hb.1.1.1.1.1, hb.1.1.1.1.2, hb.1.1.1.2, hb.1.1.2, hb.1.2, hc]
        cases hz
        try rfl
      · cases hz
    · cases hz
  · cases e
end
end ZHEL

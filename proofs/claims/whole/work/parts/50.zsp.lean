/-! THE DOCUMENT AS FUNCTIONS (in the class's order of looking) -/
section ZSP
/-- a token: its sort (0 END, 1 BROKEN, 2 NAME, 3 NUMBER, 4 TEXT, then signs and words), its place, its bytes, its number -/
abbrev Tk : Type := Nat × Nat × List Int32 × Int32
/-- a fault: its kind and its place -/
abbrev Er : Type := Int32 × Nat
abbrev RR (α : Type) : Type := Er ⊕ α
def rb {α β : Type} (r : RR α) (f : α → RR β) : RR β := match r with
  | .inl e => .inl e
  | .inr a => f a
theorem rb_inl {α β : Type} {e : Er} {f : α → RR β} : rb (.inl e) f = .inl e := rfl
theorem rb_inr {α β : Type} {a : α} {f : α → RR β} : rb (.inr a) f = f a := rfl
theorem rb_assoc {α β γ : Type} {r : RR α} {f : α → RR β} {g : β → RR γ} : rb (rb r f) g = rb r (fun a => rb (f a) g) := by
  cases r <;> rfl
/-! bytes -/
def tAt (T : List Int32) (p : Nat) : Int32 := (zg T p).getD (-1)
def dIn (c l h : Int32) : Bool := !decide (c < l) && !decide (h < c)
def dDig (c : Int32) : Bool := dIn c 48 57
def dLet (c : Int32) : Bool := dIn c 97 122 || dIn c 65 90
def dWrd (c : Int32) : Bool := dLet c || dDig c || c == 95
def dBlk (c : Int32) : Bool := c == 9 || c == 10 || c == 13 || c == 32
def dTxt (c : Int32) : Bool := dIn c 32 126 && !(c == 39)
/-- how many bytes from p on are such -/
def spn (f : Int32 → Bool) (T : List Int32) (p : Nat) : Nat := ((T.drop p).takeWhile f).length
def cut (T : List Int32) (a e : Nat) : List Int32 := (T.drop a).take (e - a)
/-- words that are no names, with their sorts -/
def wrds : List (List Int32 × Nat) := [(cs 109, 14), (cs 111, 15), (cs 113, 16), (cs 115, 17), (cs 69, 18), (cs 71, 19), (cs 73, 20), (cs 75, 21), (cs 117, 22), (cs 87, 23), (cs 89, 24), (cs 119, 25), (cs 79, 26), (cs 77, 27), (cs 81, 28), (cs 121, 29), (cs 61, 30), (cs 59, 31), (cs 57, 32), (cs 83, 33), (cs 85, 34), (cs 123, 35), (cs 125, 36), (cs 127, 37), (cs 129, 38), (cs 131, 39), (cs 133, 40), (cs 135, 41), (cs 137, 42)]
def wsort (w : List Int32) : Nat := match wrds.find? (fun x => x.1 == w) with
  | some x => x.2
  | none => 2
def gsort (c : Int32) : Nat := if c = 123 then 5 else if c = 125 then 6 else if c = 40 then 7 else if c = 41 then 8 else if c = 59 then 9 else if c = 44 then 10 else if c = 58 then 11 else if c = 61 then 12 else 1
/-- the number that d digits from p on tell -/
def dgn (T : List Int32) (p : Nat) : Nat → Int32
  | 0 => 0
  | d + 1 => 10 * dgn T p d + tAt T (p + d) - 48
/-- a token and where it ends -/
def tokA (T : List Int32) (a : Nat) : Tk × Nat :=
  let c := tAt T a
  if T.length ≤ a then ((0, a, [], 0), a)
  else if dLet c = true then
    let e := a + spn dWrd T a
    if 16 < e - a then ((1, a, [], 0), a) else ((wsort (cut T a e), a, cut T a e, 0), e)
  else if c = 39 then
    let e := a + 1 + spn dTxt T (a + 1)
    if tAt T e = 39 ∧ e - (a + 1) ≤ 16 then ((4, a, cut T (a + 1) e, 0), e + 1) else ((1, a, [], 0), a)
  else if dDig c = true ∨ (c = 45 ∧ tAt T (a + 1) ≠ 62) then
    let s := if c = 45 then a + 1 else a
    let d := min 9 (spn dDig T s)
    if d = 0 ∨ dWrd (tAt T (s + d)) = true then ((1, a, [], 0), a)
    else ((3, a, [], if c = 45 then -dgn T s d else dgn T s d), s + d)
  else if c = 45 then ((13, a, [], 0), a + 2)
  else ((gsort c, a, [], 0), a + 1)
def tokB (T : List Int32) (p : Nat) : Tk × Nat := tokA T (p + spn dBlk T p)
/-- the tokens from p on, to the first END or BROKEN -/
def tksF (T : List Int32) : Nat → Nat → List Tk
  | 0, _ => []
  | k + 1, p => if (tokB T p).1.1 ≤ 1 then [(tokB T p).1] else (tokB T p).1 :: tksF T k (tokB T p).2
def tks (T : List Int32) : List Tk := tksF T 6001 0
/-! reading -/
def hd (ts : List Tk) : Tk := ts.headD (0, 0, [], 0)
def adv (ts : List Tk) : List Tk := match ts with
  | _ :: b :: r => b :: r
  | l => l
def sErr (k : Int32) (t : Tk) : Er := (if t.1 = 1 then 1 else k, t.2.1)
def sTake (s : Nat) (ts : List Tk) : RR (Tk × List Tk) := if (hd ts).1 = s then .inr (hd ts, adv ts) else .inl (sErr 2 (hd ts))
def sEat (s : Nat) (ts : List Tk) : RR (List Tk) := rb (sTake s ts) fun x => .inr x.2
def sFirst (have_ most : Nat) (ts : List Tk) : RR (List Tk) := if most ≤ have_ then .inl (sErr 5 (hd ts)) else .inr (adv ts)
def fnd (names : List (List Int32)) (w : List Int32) : Option Nat := names.findIdx? (fun x => x == w)
def sNew (names : List (List Int32)) (ts : List Tk) : RR (Tk × List Tk) := rb (sTake 2 ts) fun x => if (fnd names x.1.2.2.1).isSome = true then .inl (sErr 3 x.1) else .inr x
def sKnw (names : List (List Int32)) (ts : List Tk) : RR (Nat × List Tk) := rb (sTake 2 ts) fun x => match fnd names x.1.2.2.1 with
  | none => .inl (sErr 3 x.1)
  | some i => .inr (i, x.2)
def sPrt (parts : Nat) (t : Tk) : RR Nat := if 400 ≤ parts then .inl (sErr 5 t) else .inr (parts + 1)
def sOne (ts : List Tk) : RR (Tk × List Tk) := sTake (if (hd ts).1 = 3 then 3 else 4) ts
/-! what is known, what an expression means -/
/-- a text?, the number, the text -/
abbrev Thg : Type := Bool × Int32 × List Int32
abbrev Env : Type := List (List Int32 × Thg) × List Bool
abbrev Den : Type := Env → Bool
def kn (K : List (List Int32 × Thg)) (w : List Int32) : Option Thg := (K.find? fun x => x.1 == w).map fun x => x.2
def thg (t : Tk) : Thg := (t.1 == 4, t.2.2.2, t.2.2.1)
def same (a b : Thg) : Bool := a.1 == b.1 && (if b.1 = true then a.2.2 == b.2.2 else a.2.1 == b.2.1)
/-- piece stands in whole at k -/
def std (whole piece : List Int32) (k : Nat) : Bool := decide (k + piece.length ≤ whole.length) && (whole.drop k).take piece.length == piece
def dTest (s : Nat) (w : List Int32) (o : Thg) (E : Env) : Bool := match kn E.1 w with
  | none => false
  | some t =>
    if s = 42 then true
    else if s = 35 then same t o
    else if s = 36 then !t.1 && decide (t.2.1 < o.2.1)
    else if s = 37 then !t.1 && decide (o.2.1 < t.2.1)
    else if s = 38 then t.1 && std t.2.2 o.2.2 0
    else if s = 39 then t.1 && (decide (o.2.2.length ≤ t.2.2.length) && std t.2.2 o.2.2 (t.2.2.length - o.2.2.length))
    else t.1 && (List.range (t.2.2.length + 1)).any (fun k => std t.2.2 o.2.2 k)
def dAmong (w : List Int32) (os : List Thg) (E : Env) : Bool := match kn E.1 w with
  | none => false
  | some t => os.any (fun o => same t o)
def sAmgL : Nat → List Thg → List Tk → Nat → RR (List Thg × List Tk × Nat)
  | 0, os, ts, p => .inr (os, ts, p)
  | k + 1, os, ts, p => if (hd ts).1 = 10 then rb (sOne (adv ts)) fun x => rb (sPrt p x.1) fun p => sAmgL k (os ++ [thg x.1]) x.2 p else .inr (os, ts, p)
def sTest (ts : List Tk) (p : Nat) : RR (Den × List Tk × Nat) :=
  rb (sTake 2 ts) fun w => rb (sPrt p w.1) fun p =>
  let ts := w.2
  let s := (hd ts).1
  if s = 41 then rb (sEat 7 (adv ts)) fun ts => rb (sOne ts) fun o => rb (sAmgL 401 [thg o.1] o.2 p) fun x => rb (sEat 8 x.2.1) fun ts => .inr (dAmong w.1.2.2.1 x.1, ts, x.2.2)
  else if s = 42 then .inr (dTest 42 w.1.2.2.1 (false, 0, []), adv ts, p)
  else if s = 35 then rb (sOne (adv ts)) fun o => .inr (dTest 35 w.1.2.2.1 (thg o.1), o.2, p)
  else if s = 36 ∨ s = 37 then rb (sTake 3 (adv ts)) fun o => .inr (dTest s w.1.2.2.1 (thg o.1), o.2, p)
  else if s = 38 ∨ s = 39 ∨ s = 40 then rb (sTake 4 (adv ts)) fun o => .inr (dTest s w.1.2.2.1 (thg o.1), o.2, p)
  else .inl (sErr 2 (hd ts))
/-- further members of a row -/
def sRowL (m : List Tk → Nat → RR (Den × List Tk × Nat)) (j : Nat) : Nat → List Den → List Tk → Nat → RR (List Den × List Tk × Nat)
  | 0, ds, ts, p => .inr (ds, ts, p)
  | k + 1, ds, ts, p => if (hd ts).1 = j then rb (m (adv ts) p) fun x => sRowL m j k (ds ++ [x.1]) x.2.1 x.2.2 else .inr (ds, ts, p)
def dOr (ds : List Den) (E : Env) : Bool := ds.any (fun d => d E)
def dAnd (ds : List Den) (E : Env) : Bool := ds.all (fun d => d E)
def sRow (m : List Tk → Nat → RR (Den × List Tk × Nat)) (j : Nat) (ts : List Tk) (p : Nat) : RR (Den × List Tk × Nat) :=
  rb (m ts p) fun x => if (hd x.2.1).1 = j then rb (sPrt x.2.2 (hd x.2.1)) fun p => rb (sRowL m j 401 [x.1] x.2.1 p) fun y => .inr (if j = 31 then dOr y.1 else dAnd y.1, y.2) else .inr x
/-- an expression: a row of or (m = 0), a row of and (1), a part (2); o: how many are open -/
def sE (segs : List (List Int32)) : Nat → Nat → Nat → List Tk → Nat → RR (Den × List Tk × Nat)
  | 0, _, _, _, _ => .inl (0, 0)
  | k + 1, 0, o, ts, p => sRow (sE segs k 1 o) 31 ts p
  | k + 1, 1, o, ts, p => sRow (sE segs k 2 o) 32 ts p
  | k + 1, _ + 2, o, ts, p =>
    let s := (hd ts).1
    if (s = 7 ∨ s = 30) ∧ 20 ≤ o then .inl (sErr 5 (hd ts))
    else if s = 7 then rb (sE segs k 0 (o + 1) (adv ts) p) fun x => rb (sEat 8 x.2.1) fun ts => .inr (x.1, ts, x.2.2)
    else if s = 30 then rb (sPrt p (hd ts)) fun p => rb (sE segs k 2 (o + 1) (adv ts) p) fun x => .inr (fun E => !x.1 E, x.2)
    else if s = 33 ∨ s = 34 then rb (sPrt p (hd ts)) fun p => .inr (fun _ => s == 33, adv ts, p)
    else if s = 29 then rb (sPrt p (hd ts)) fun p => rb (sKnw segs (adv ts)) fun i => .inr (fun E => E.2.getD i.1 false, i.2, p)
    else sTest ts p
def sExp (segs : List (List Int32)) (ts : List Tk) (p : Nat) : RR (Den × List Tk × Nat) := sE segs 64 0 0 ts p
/-! the plan -/
/-- a value, or the number of a split -/
abbrev Srv : Type := Int32 ⊕ Nat
/-- a split: name, salt, shares with their values -/
abbrev Spl : Type := List Int32 × List Int32 × List (Int32 × Int32)
/-- a flag: name, kind, choices; needs as they stand (name's and value's tokens), serve by default, off -/
abbrev Flg : Type := List Int32 × (Nat × List (List Int32)) × List (Tk × Tk) × Srv × Int32
/-- a rule: flag, layer, when, then -/
abbrev Rul : Type := Nat × Int32 × Den × Srv
/-- an off or a set: layer, flag, serve -/
abbrev Itm : Type := Nat × Nat × Option Srv
/-- segments, flags, layers (name, of), rules, offs and sets, splits, parts -/
abbrev Pln : Type := List (List Int32 × Den) × List Flg × List (List Int32 × Int32) × List Rul × List Itm × List Spl × Nat
def sChoL (most : Nat) : Nat → List (List Int32) → List Tk → RR (List (List Int32) × List Tk)
  | 0, cs, ts => .inr (cs, ts)
  | k + 1, cs, ts => if (hd ts).1 = 10 then rb (sNew cs (adv ts)) fun x => if most ≤ cs.length then .inl (sErr 5 x.1) else sChoL most k (cs ++ [x.1.2.2.1]) x.2 else .inr (cs, ts)
def sKind (ts : List Tk) : RR ((Nat × List (List Int32)) × List Tk) :=
  if (hd ts).1 = 15 then .inr ((0, []), adv ts)
  else if (hd ts).1 = 16 then .inr ((1, []), adv ts)
  else rb (sEat 17 ts) fun ts => rb (sEat 7 ts) fun ts => rb (sNew [] ts) fun x => rb (sChoL 8 8 [x.1.2.2.1] x.2) fun y => rb (sEat 8 y.2) fun ts => .inr ((2, y.1), ts)
/-- what a token is worth for a flag of this kind -/
def wth (k : Nat × List (List Int32)) (t : Tk) : Option Int32 :=
  if k.1 = 0 then (if t.1 = 33 then some 1 else if t.1 = 34 then some 0 else none)
  else if k.1 = 1 then (if t.1 = 3 then some t.2.2.2 else none)
  else (if t.1 = 2 then (fnd k.2 t.2.2.1).map (fun i => nI i) else none)
def sVal (k : Nat × List (List Int32)) (ts : List Tk) : RR (Int32 × List Tk) := match wth k (hd ts) with
  | none => .inl (sErr 2 (hd ts))
  | some v => .inr (v, adv ts)
def sShr (full : Bool) (ts : List Tk) : RR (Int32 × List Tk) := rb (sTake 3 ts) fun x =>
  if x.1.2.2.2 < 0 ∨ 10000 < x.1.2.2.2 then .inl (sErr 4 x.1) else if full = true then .inl (sErr 5 x.1) else .inr (x.1.2.2.2, x.2)
def sShL (k : Nat × List (List Int32)) : Nat → List (Int32 × Int32) → List Tk → RR (List (Int32 × Int32) × List Tk)
  | 0, sh, ts => .inr (sh, ts)
  | n + 1, sh, ts => rb (sShr (decide (8 ≤ sh.length)) ts) fun x => rb (sEat 11 x.2) fun ts => rb (sVal k ts) fun y =>
    if (hd y.2).1 = 10 then sShL k n (sh ++ [(x.1, y.1)]) (adv y.2) else .inr (sh ++ [(x.1, y.1)], y.2)
def sumS (sh : List (Int32 × Int32)) : Int32 := sh.foldl (fun s x => s + x.1) 0
def sSpl (k : Nat × List (List Int32)) (spl : List Spl) (ts : List Tk) : RR (Spl × List Tk) :=
  rb (sFirst spl.length 100 ts) fun ts => rb (sTake 2 ts) fun w => rb (sTake 4 w.2) fun s => rb (sEat 7 s.2) fun ts => rb (sShL k 9 [] ts) fun y =>
  if (hd y.2).1 = 8 ∧ sumS y.1 ≠ 10000 then .inl (sErr 4 (hd y.2)) else rb (sEat 8 y.2) fun ts => .inr ((w.1.2.2.1, s.1.2.2.1, y.1), ts)
def sRol (k : Nat × List (List Int32)) (spl : List Spl) (ts : List Tk) : RR (Spl × List Tk) :=
  rb (sFirst spl.length 100 ts) fun ts => rb (sShr false ts) fun a => rb (sTake 2 a.2) fun w => rb (sTake 4 w.2) fun s => rb (sVal k s.2) fun x => rb (sEat 28 x.2) fun ts => rb (sVal k ts) fun y =>
  .inr ((w.1.2.2.1, s.1.2.2.1, [(a.1, x.1), (10000 - a.1, y.1)]), y.2)
/-- without the ; behind it -/
def sSrv0 (k : Nat × List (List Int32)) (spl : List Spl) (ts : List Tk) : RR (Srv × List Spl × List Tk) :=
  if (hd ts).1 = 26 then rb (sSpl k spl ts) fun x => .inr (.inr spl.length, spl ++ [x.1], x.2)
  else if (hd ts).1 = 27 then rb (sRol k spl ts) fun x => .inr (.inr spl.length, spl ++ [x.1], x.2)
  else rb (sVal k ts) fun x => .inr (.inl x.1, spl, x.2)
def sSrv (k : Nat × List (List Int32)) (spl : List Spl) (ts : List Tk) : RR (Srv × List Spl × List Tk) := rb (sSrv0 k spl ts) fun x => rb (sEat 9 x.2.2) fun ts => .inr (x.1, x.2.1, ts)
def sSeg (P : Pln) (ts : List Tk) : RR (Pln × List Tk) :=
  rb (sFirst P.1.length 12 ts) fun ts => rb (sNew (P.1.map (·.1)) ts) fun w => rb (sEat 12 w.2) fun ts => rb (sExp (P.1.map (·.1)) ts P.2.2.2.2.2.2) fun x => rb (sEat 9 x.2.1) fun ts =>
  .inr ((P.1 ++ [(w.1.2.2.1, x.1)], P.2.1, P.2.2.1, P.2.2.2.1, P.2.2.2.2.1, P.2.2.2.2.2.1, x.2.2), ts)
def sNeed (ns : List (Tk × Tk)) (ts : List Tk) : RR (List (Tk × Tk) × List Tk) :=
  rb (sFirst ns.length 4 ts) fun ts => rb (sTake 2 ts) fun w => rb (sEat 12 w.2) fun ts =>
  if (hd ts).1 = 33 ∨ (hd ts).1 = 34 ∨ (hd ts).1 = 2 ∨ (hd ts).1 = 3 then rb (sEat 9 (adv ts)) fun ts' => .inr (ns ++ [(w.1, hd ts)], ts') else .inl (sErr 2 (hd ts))
def sNedL : Nat → List (Tk × Tk) → List Tk → RR (List (Tk × Tk) × List Tk)
  | 0, ns, ts => .inr (ns, ts)
  | k + 1, ns, ts => if (hd ts).1 = 20 then rb (sNeed ns ts) fun x => sNedL k x.1 x.2 else .inr (ns, ts)
/-- behind rule: when -> then; -/
def sRul (P : Pln) (f : Nat) (l : Int32) (k : Nat × List (List Int32)) (ts : List Tk) : RR (Pln × List Tk) :=
  rb (sExp (P.1.map (·.1)) ts P.2.2.2.2.2.2) fun x => rb (sEat 13 x.2.1) fun ts => rb (sSrv k P.2.2.2.2.2.1 ts) fun y =>
  .inr ((P.1, P.2.1, P.2.2.1, P.2.2.2.1 ++ [(f, l, x.1, y.1)], P.2.2.2.2.1, y.2.1, x.2.2), y.2.2)
def sRulL (f : Nat) (k : Nat × List (List Int32)) : Nat → Pln → List Tk → RR (Pln × List Tk)
  | 0, P, ts => .inr (P, ts)
  | n + 1, P, ts => if (hd ts).1 = 21 then rb (sFirst P.2.2.2.1.length 100 ts) fun ts => rb (sRul P f (-1) k ts) fun x => sRulL f k n x.1 x.2 else .inr (P, ts)
def sFlg (P : Pln) (ts : List Tk) : RR (Pln × List Tk) :=
  rb (sFirst P.2.1.length 24 ts) fun ts => rb (sNew (P.2.1.map (·.1)) ts) fun w => rb (sEat 11 w.2) fun ts => rb (sKind ts) fun k => rb (sEat 5 k.2) fun ts => rb (sEat 18 ts) fun ts =>
  rb (sSrv k.1 P.2.2.2.2.2.1 ts) fun d => rb (sEat 19 d.2.2) fun ts => rb (sVal k.1 ts) fun o => rb (sEat 9 o.2) fun ts => rb (sNedL 5 [] ts) fun ns =>
  rb (sRulL P.2.1.length k.1 101 (P.1, P.2.1, P.2.2.1, P.2.2.2.1, P.2.2.2.2.1, d.2.1, P.2.2.2.2.2.2) ns.2) fun x => rb (sEat 6 x.2) fun ts =>
  .inr ((x.1.1, P.2.1 ++ [(w.1.2.2.1, k.1, ns.1, d.1, o.1)], x.1.2.2), ts)
def sItm (P : Pln) (l : Nat) (ts : List Tk) : RR (Pln × List Tk) :=
  let s := (hd ts).1
  if s = 21 then rb (sFirst P.2.2.2.1.length 100 ts) fun ts => rb (sKnw (P.2.1.map (·.1)) ts) fun f => sRul P f.1 (nI l) (P.2.1.getD f.1 ([], (0, []), [], .inl 0, 0)).2.1 f.2
  else if s = 19 ∨ s = 24 then rb (sFirst P.2.2.2.2.1.length 40 ts) fun ts => rb (sKnw (P.2.1.map (·.1)) ts) fun f =>
    if s = 19 then rb (sEat 9 f.2) fun ts => .inr ((P.1, P.2.1, P.2.2.1, P.2.2.2.1, P.2.2.2.2.1 ++ [(l, f.1, none)], P.2.2.2.2.2), ts)
    else rb (sEat 12 f.2) fun ts => rb (sSrv (P.2.1.getD f.1 ([], (0, []), [], .inl 0, 0)).2.1 P.2.2.2.2.2.1 ts) fun y => .inr ((P.1, P.2.1, P.2.2.1, P.2.2.2.1, P.2.2.2.2.1 ++ [(l, f.1, some y.1)], y.2.1, P.2.2.2.2.2.2), y.2.2)
  else .inl (sErr 2 (hd ts))
def sItmL (l : Nat) : Nat → Pln → List Tk → RR (Pln × List Tk)
  | 0, P, ts => .inr (P, ts)
  | n + 1, P, ts => if (hd ts).1 = 6 then .inr (P, ts) else rb (sItm P l ts) fun x => sItmL l n x.1 x.2
def sLay (P : Pln) (ts : List Tk) : RR (Pln × List Tk) :=
  rb (sFirst P.2.2.1.length 8 ts) fun ts => rb (sNew (P.2.2.1.map (·.1)) ts) fun w =>
  rb (if (hd w.2).1 = 23 then rb (sKnw (P.2.2.1.map (·.1)) (adv w.2)) fun i => .inr (nI i.1, i.2) else .inr (-1, w.2)) fun o => rb (sEat 5 o.2) fun ts =>
  rb (sItmL P.2.2.1.length 6000 (P.1, P.2.1, P.2.2.1 ++ [(w.1.2.2.1, o.1)], P.2.2.2) ts) fun x => rb (sEat 6 x.2) fun ts => .inr (x.1, ts)
def sTxtL : Nat → Pln → List Tk → RR (Pln × List Tk)
  | 0, P, ts => .inr (P, ts)
  | n + 1, P, ts => if (hd ts).1 = 0 then .inr (P, ts) else rb (if (hd ts).1 = 25 then sSeg P ts else if (hd ts).1 = 14 then sFlg P ts else if (hd ts).1 = 22 then sLay P ts else .inl (sErr 2 (hd ts))) fun x => sTxtL n x.1 x.2
/-- a need: which flag, what it must be worth -/
def sSet1 (P : Pln) (i : Nat) (w : Tk × Tk) : RR (Nat × Int32) := match fnd (P.2.1.map (·.1)) w.1.2.2.1 with
  | none => .inl (sErr 3 w.1)
  | some g => if g = i then .inl (sErr 3 w.1) else match wth (P.2.1.getD g ([], (0, []), [], .inl 0, 0)).2.1 w.2 with
    | none => .inl (sErr 2 w.2)
    | some v => .inr (g, v)
def sMap {α β : Type} (f : α → RR β) : List α → RR (List β)
  | [] => .inr []
  | a :: l => rb (f a) fun b => rb (sMap f l) fun bs => .inr (b :: bs)
def sSetN (P : Pln) : RR (List (List (Nat × Int32))) := sMap (fun i => sMap (sSet1 P i) (P.2.1.getD i ([], (0, []), [], .inl 0, 0)).2.2.1) (List.range P.2.1.length)
/-- from a flag to another by needs, in at least one step -/
def edge (N : List (List (Nat × Int32))) (i j : Nat) : Bool := (N.getD i []).any (fun x => x.1 == j)
def pathN (N : List (List (Nat × Int32))) : Nat → Nat → Nat → Bool
  | 0, i, j => edge N i j
  | k + 1, i, j => pathN N k i j || (pathN N k i k && pathN N k k j)
def rchB (N : List (List (Nat × Int32))) (i j : Nat) : Bool := pathN N N.length i j
/-- bits as a number -/
def bitsI (f : Nat → Bool) : Nat → Int32
  | 0 => 0
  | k + 1 => if f k = true then bitsI f k ||| ((1 : Int32) <<< (nI k &&& 31)) else bitsI f k
def sRing (P : Pln) (N : List (List (Nat × Int32))) : RR Unit := match ((List.range N.length).flatMap fun i => (List.range (N.getD i []).length).filterMap fun k => if rchB N ((N.getD i []).getD k (0, 0)).1 i = true then some (((P.2.1.getD i ([], (0, []), [], .inl 0, 0)).2.2.1.getD k ((0, 0, [], 0), (0, 0, [], 0))).1) else none).head? with
  | none => .inr ()
  | some t => .inl (sErr 6 t)
def ready (N : List (List (Nat × Int32))) (done : List Nat) (i : Nat) : Bool := !done.contains i && (List.range N.length).all (fun j => !rchB N i j || done.contains j)
def seqL (N : List (List (Nat × Int32))) : Nat → List Nat → List Nat
  | 0, done => done
  | k + 1, done => seqL N k (done ++ [((List.range N.length).find? (fun i => ready N done i)).getD 0])
/-- what is loaded: the plan, the needs, the order -/
abbrev Ldd : Type := Pln × List (List (Nat × Int32)) × List Nat
def sLoad (T : List Int32) : RR Ldd := rb (sTxtL 6000 ([], [], [], [], [], [], 0) (tks T)) fun x => rb (sSetN x.1) fun N => rb (sRing x.1 N) fun _ => .inr (x.1, N, seqL N N.length [])
end ZSP

/-! LOOKING AT CODE, as a function of a module: types are rows of bytes -/
abbrev Ty : Type := List Nat
/-- a function: flags, what it takes, gives, further locals -/
abbrev Fn : Type := Nat × List Ty × List Ty × List Ty
/-- a module: (number, own structures, all structures), abilities, fields, identities, element types, (own functions, all functions, functions), whom a function is of (identity), code (operation, operands) -/
abbrev Md : Type := (Nat × Nat × Nat) × (Nat → Nat) × (Nat → List Ty) × (Nat → Nat) × List Ty × (Nat × Nat × (Nat → Fn)) × (Nat → Nat) × (Nat → List (Nat × Int64 × Int64))
/-- a slot as looking knows it: type, origins, inside -/
abbrev SS : Type := Ty × Int64 × Bool
/-- stack; which locals are there, their origins, whether inside -/
abbrev Lks : Type := (Nat × (Nat → SS)) × (Nat → Bool) × (Nat → Int64) × (Nat → Bool)
def hdT (t : Ty) : Nat := t.headD 0
def isR (t : Ty) : Bool := hdT t == 8 || hdT t == 9
def endS : Ty → Option Nat
  | [] => none
  | [_] => none
  | [a, s] => if a = 6 then some s else none
  | _ :: t => endS t
def abT (U : Md) (t : Ty) : Nat := if isR t then 3 else (match endS t with
  | some s => if hdT t = 7 then U.2.1 s % 8 else U.2.1 s
  | none => 7)
def hasC (U : Md) (t : Ty) : Bool := abT U t % 2 == 1
def hasD (U : Md) (t : Ty) : Bool := abT U t / 2 % 2 == 1
def hasK (U : Md) (t : Ty) : Bool := abT U t / 8 % 2 == 1
def fnOf (U : Md) (f : Nat) : Fn := U.2.2.2.2.2.1.2.2 f
def tksOf (U : Md) (f : Nat) : List Ty := (fnOf U f).2.1
def gvsOf (U : Md) (f : Nat) : List Ty := (fnOf U f).2.2.1
def locOf (U : Md) (f : Nat) : List Ty := (fnOf U f).2.1 ++ (fnOf U f).2.2.2
def resOf (U : Md) (f : Nat) : Bool := (fnOf U f).1 / 4 % 2 == 1
def fdsOf (U : Md) (s : Nat) : List Ty := U.2.2.1 s
def elsOf (U : Md) : List Ty := U.2.2.2.2.1
def codeOf (U : Md) (f : Nat) : List (Nat × Int64 × Int64) := U.2.2.2.2.2.2.2 f
abbrev Px (α : Type) : Type := Except Nat α
def nd_ (b : Bool) (w : Nat) : Px Unit := if b then .ok () else .error w
def lTake (L : Lks) : Px (SS × Lks) := if L.1.1 = 0 then .error 1 else .ok (L.1.2 (L.1.1 - 1), (L.1.1 - 1, L.1.2), L.2)
def lTakeT (t : Ty) (L : Lks) : Px Lks := lTake L >>= fun q => nd_ (q.1.1 == t) 3 >>= fun _ => .ok q.2
def lPush (s : SS) (L : Lks) : Px Lks := if 64 ≤ L.1.1 then .error 2 else .ok ((L.1.1 + 1, fun k => if k = L.1.1 then s else L.1.2 k), L.2)
/-- a reference is taken: to what, and does it have to write -/
def lTakeR (to : Option Ty) (w : Bool) (L : Lks) : Px (SS × Lks) := lTake L >>= fun q => nd_ (isR q.1.1 && (match to with
  | none => true
  | some t => q.1.1.tail == t)) 3 >>= fun _ => nd_ (!w || hdT q.1.1 == 9) 7 >>= fun _ => .ok q
/-- does a live reference (a writing one) have an origin -/
def lPt (ls : List Ty) (L : Lks) (b : Nat) (w : Bool) : Bool := (List.range L.1.1).any (fun k => ob (L.1.2 k).2.1 b && (!w || hdT (L.1.2 k).1 == 9)) || (List.range ls.length).any (fun k => L.2.1 k && ob (L.2.2.1 k) b && (!w || hdT (ls.getD k []) == 9))
def mtB (a b : Int64) : Bool := (a &&& b) != 0
def lSole (ls : List Ty) (L : Lks) (o : Int64) : Bool := (List.range L.1.1).all (fun k => !mtB (L.1.2 k).2.1 o || (hdT (L.1.2 k).1 == 9 && !(L.1.2 k).2.2)) && (List.range ls.length).all (fun k => !(L.2.1 k && mtB (L.2.2.1 k) o) || (hdT (ls.getD k []) == 9 && !L.2.2.2 k))
def lSetL (L : Lks) (k : Nat) (t : Bool) (o : Int64) (i : Bool) : Lks := (L.1, (fun j => if j = k then t else L.2.1 j), (fun j => if j = k then o else L.2.2.1 j), fun j => if j = k then i else L.2.2.2 j)
def rO (t : Ty) (o : Int64) : Int64 := if isR t then o else 0
def rI (t : Ty) (i : Bool) : Bool := isR t && i
def bitO (b : Nat) : Int64 := 1 <<< lN b
def aLocal (U : Md) (ls : List Ty) (o a : Nat) (L : Lks) : Px Lks :=
  let t := ls.getD a []
  let plain := !isR t
  if o = 13 then lTake L >>= fun q => nd_ (q.1.1 == t) 3 >>= fun _ => nd_ (!L.2.1 a || hasD U t) 4 >>= fun _ => nd_ (!plain || !lPt ls q.2 a false) 6 >>= fun _ => .ok (lSetL q.2 a true (rO t q.1.2.1) (rI t q.1.2.2))
  else nd_ (L.2.1 a) 5 >>= fun _ => if o = 11 then nd_ (hasC U t) 4 >>= fun _ => nd_ (!plain || !lPt ls L a true) 6 >>= fun _ => lPush (t, rO t (L.2.2.1 a), rI t (L.2.2.2 a)) L
  else if o = 12 then nd_ (!plain || !lPt ls L a false) 6 >>= fun _ => lPush (t, rO t (L.2.2.1 a), rI t (L.2.2.2 a)) L >>= fun L => .ok (lSetL L a false 0 false)
  else nd_ plain 3 >>= fun _ => nd_ (!lPt ls L a (o == 14)) 6 >>= fun _ => lPush ((if o = 14 then 8 else 9) :: t, bitO a, false) L
def aRef (U : Md) (ls : List Ty) (o a b : Nat) (L : Lks) : Px Lks :=
  if o = 16 ∨ o = 17 then lTakeR (some [6, a]) (o == 17) L >>= fun q => lPush ((if o = 17 then 9 else 8) :: (fdsOf U a).getD b [], q.1.2.1, true) q.2
  else if o = 18 then lTakeR none false L >>= fun q => nd_ (hasC U q.1.1.tail) 4 >>= fun _ => lPush (q.1.1.tail, 0, false) q.2
  else if o = 19 then lTakeR none true L >>= fun q => lTakeT q.1.1.tail q.2 >>= fun L => nd_ (hasD U q.1.1.tail) 4 >>= fun _ => nd_ (lSole ls L q.1.2.1) 6 >>= fun _ => .ok L
  else lTakeR none true L >>= fun q => lPush (8 :: q.1.1.tail, q.1.2.1, q.1.2.2) q.2
/-- types are taken, the first of the row topmost -/
def aTakes : List Ty → Lks → Px Lks
  | [], L => .ok L
  | t :: ts, L => lTakeT t L >>= aTakes ts
def aGives : List SS → Lks → Px Lks
  | [], L => .ok L
  | s :: ss, L => lPush s L >>= aGives ss
def aPack (U : Md) (o a : Nat) (L : Lks) : Px Lks := if o = 21 then aTakes (fdsOf U a).reverse L >>= lPush ([6, a], 0, false) else lTakeT [6, a] L >>= aGives ((fdsOf U a).map (fun t => (t, 0, false)))
def orO : List SS → Int64
  | [] => 0
  | s :: ss => s.2.1 ||| orO ss
def aCall (U : Md) (ls : List Ty) (f a : Nat) (L : Lks) : Px Lks := aTakes (tksOf U a).reverse L >>= fun M =>
  let n := (tksOf U a).length
  let args := (List.range n).map (fun k => L.1.2 (M.1.1 + k))
  nd_ (!resOf U a || resOf U f) 15 >>= fun _ => nd_ ((List.range n).all (fun k => hdT (L.1.2 (M.1.1 + k)).1 != 9 || (lSole ls M (L.1.2 (M.1.1 + k)).2.1 && (List.range n).all (fun j => j == k || !mtB (L.1.2 (M.1.1 + j)).2.1 (L.1.2 (M.1.1 + k)).2.1)))) 6 >>= fun _ => nd_ (!resOf U a || !((List.range 15).any (fun b => ob (orO args) (48 + b) || lPt ls M (48 + b) false) || ob (orO args) 63)) 6 >>= fun _ => aGives ((gvsOf U a).map (fun t => (t, rO t (if hdT t = 9 then orO (args.filter (fun s => hdT s.1 == 9)) else orO args), rI t true))) M
def isN (t : Ty) : Bool := t == [2] || t == [3] || t == [4]
def aNum (U : Md) (o : Nat) (L : Lks) : Px Lks :=
  if o < 32 then lTake L >>= fun q => nd_ (isN q.1.1 || (decide (28 < o) && q.1.1 == [1])) 3 >>= fun _ => lTakeT q.1.1 q.2 >>= lPush (q.1.1, 0, false)
  else if o < 34 then lTakeT [2] L >>= fun L => lTake L >>= fun q => nd_ (isN q.1.1) 3 >>= fun _ => lPush (q.1.1, 0, false) q.2
  else if o = 34 then lTakeT [1] L >>= lPush ([1], 0, false)
  else if o < 38 then lTake L >>= fun q => nd_ (!isR q.1.1) 3 >>= fun _ => lTakeT q.1.1 q.2 >>= fun L => nd_ (hasD U q.1.1) 4 >>= fun _ => lPush ([1], 0, false) L
  else if o < 42 then lTake L >>= fun q => nd_ (isN q.1.1) 3 >>= fun _ => lTakeT q.1.1 q.2 >>= lPush ([1], 0, false)
  else lTake L >>= fun q => nd_ (isN q.1.1) 3 >>= fun _ => lPush ([o - 40], 0, false) q.2
def aRes (U : Md) (ls : List Ty) (f o a : Nat) (L : Lks) : Px Lks := lTakeT (if o = 47 then [6, a] else [5]) L >>= fun L => nd_ (resOf U f) 15 >>= fun _ => nd_ (hasK U [6, a]) 4 >>= fun _ => nd_ (!(o == 48 || o == 51) || !lPt ls L (48 + a % 15) false) 6 >>= fun _ => nd_ (!(o == 50) || !lPt ls L (48 + a % 15) true) 6 >>= fun _ => if o = 48 then lPush ([6, a], 0, false) L else if o = 49 then lPush ([1], 0, false) L else if o = 47 then .ok L else lPush ((if o = 50 then 8 else 9) :: [6, a], bitO (48 + a % 15), false) L
def aVec (U : Md) (ls : List Ty) (o a b : Nat) (L : Lks) : Px Lks :=
  if o = 59 then lTakeT [7, 2] L >>= lPush ([7, 2], 0, false)
  else
    let e := (elsOf U).getD a []
    if o = 52 then aTakes (List.replicate b e) L >>= lPush (7 :: e, 0, false)
    else (if o = 54 ∨ o = 55 ∨ o = 58 then lTakeT [3] L else .ok L) >>= fun L => (if o = 58 then lTakeT [3] L else .ok L) >>= fun L => (if o = 56 then lTakeT e L else .ok L) >>= fun L => lTakeR (some (7 :: e)) (decide (54 < o)) L >>= fun q => nd_ (!decide (55 < o) || lSole ls q.2 q.1.2.1) 6 >>= fun _ => if o = 53 then lPush ([3], 0, false) q.2 else if o = 57 then lPush (e, 0, false) q.2 else if o < 56 then lPush ((if o = 55 then 9 else 8) :: e, q.1.2.1, true) q.2 else .ok q.2
def aBack (U : Md) (f : Nat) (ls : List Ty) (L : Lks) : Px Lks := nd_ (L.1.1 == (gvsOf U f).length && (List.range L.1.1).all (fun k => (L.1.2 k).1 == (gvsOf U f).getD k [])) 12 >>= fun _ => nd_ ((List.range L.1.1).all (fun k => (L.1.2 k).2.1 &&& (-280375465082881 : Int64) == 0)) 14 >>= fun _ => nd_ ((List.range ls.length).all (fun k => !L.2.1 k || hasD U (ls.getD k []))) 13 >>= fun _ => .ok L
/-- one operation -/
def aOp (U : Md) (f : Nat) (o a b : Nat) (L : Lks) : Px Lks :=
  let ls := locOf U f
  if o = 0 then lTake L >>= fun q => nd_ (hasD U q.1.1) 4 >>= fun _ => .ok q.2
  else if o = 1 then aBack U f ls L
  else if o < 5 then (if 2 < o then lTakeT [1] L else .ok L) >>= fun L => nd_ (L.1.1 == 0) 8 >>= fun _ => .ok L
  else if o < 11 then lPush (if o < 8 then [o - 3] else if o < 10 then [1] else [5], 0, false) L
  else if o < 16 then aLocal U ls o a L
  else if o < 21 then aRef U ls o a b L
  else if o < 23 then aPack U o a L
  else if o = 23 then aCall U ls f a L
  else if o = 35 then .ok L
  else if o < 45 then aNum U o L
  else if o = 45 then lTakeT [3] L
  else if o = 46 then lPush ([5], 0, false) L
  else if o < 52 then aRes U ls f o a L
  else aVec U ls o a b L
/-- what was known of locals comes to an instruction: less is known there -/
def leL (n : Nat) (L L' : Lks) : Prop := L.1.1 = L'.1.1 ∧ (∀ k, k < L.1.1 → L.1.2 k = L'.1.2 k) ∧ ∀ k, k < n → L'.2.1 k = true → L.2.1 k = true ∧ (∀ b, ob (L.2.2.1 k) b = true → ob (L'.2.2.1 k) b = true) ∧ (L.2.2.2 k = true → L'.2.2.2 k = true)
/-- and what is no longer known to be there may be dropped -/
def leD (U : Md) (ls : List Ty) (L L' : Lks) : Prop := leL ls.length L L' ∧ ∀ k, k < ls.length → L.2.1 k = true → L'.2.1 k = false → hasD U (ls.getD k []) = true
/-- a certificate: what looking knew at each instruction -/
def Cert (U : Md) (f : Nat) (C : Nat → Lks) : Prop := 0 < (codeOf U f).length ∧ (C 0).1.1 = 0 ∧ (∀ k, k < (locOf U f).length → (C 0).2.1 k = decide (k < (tksOf U f).length) ∧ ((C 0).2.1 k = true → isR ((locOf U f).getD k []) = true → (C 0).2.2.1 k = bitO (40 + k) ∧ (C 0).2.2.2 k = false)) ∧ ∀ (i : Nat) (o : Nat) (x y : Int64), (codeOf U f)[i]? = some (o, x, y) → ∃ L', aOp U f o x.toInt.toNat y.toInt.toNat (C i) = .ok L' ∧ (o ≠ 1 → o ≠ 2 → o ≠ 45 → i + 1 < (codeOf U f).length ∧ leD U (locOf U f) L' (C (i + 1))) ∧ (2 ≤ o → o < 5 → x.toInt.toNat < (codeOf U f).length ∧ leD U (locOf U f) L' (C x.toInt.toNat))

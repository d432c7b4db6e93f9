/-! what a template's text reads as -/
abbrev PR (α : Type) : Type := Sum (α × Nat) Nat
def bnd {α β : Type} (x : PR α) (f : α → Nat → PR β) : PR β :=
  match x with
  | .inl a => f a.1 a.2
  | .inr q => .inr q
theorem bnd_l {α β : Type} (a : α) (p : Nat) (f : α → Nat → PR β) : bnd (.inl (a, p)) f = f a p := rfl
theorem bnd_r {α β : Type} (q : Nat) (f : α → Nat → PR β) : bnd (.inr q : PR α) f = .inr q := rfl
def hereL (L : List Int32) (p : Nat) : Int32 := if p < L.length then L.getD p 0 else -1
/-- the line of a place -/
def lnAt (L : List Int32) : Nat → Nat
  | 0 => 1
  | p + 1 => lnAt L p + (if L.getD p 0 = 10 then 1 else 0)
def pSign (L : List Int32) (c : Int32) (p : Nat) : PR Unit := if hereL L p = c then .inl ((), p + 1) else .inr p
def pOne (L : List Int32) (lo n : Nat) (p : Nat) : PR Nat := if (lo : Int) ≤ (hereL L p).toInt ∧ (hereL L p).toInt < (lo + n : Nat) then .inl ((hereL L p).toInt.toNat - lo, p + 1) else .inr p
def isF (c : Int32) : Bool := decide (48 ≤ c.toInt ∧ c.toInt ≤ 57)
def isL (c : Int32) : Bool := decide (97 ≤ c.toInt ∧ c.toInt ≤ 122)
def figs (L : List Int32) : Nat → Nat → Nat → Nat × Nat
  | 0, p, acc => (acc, p)
  | d + 1, p, acc => if isF (hereL L p) = true then figs L d (p + 1) (acc * 10 + ((hereL L p).toInt.toNat - 48)) else (acc, p)
def pFigs (L : List Int32) (p : Nat) : PR Nat := if isF (hereL L p) = true then .inl (figs L 5 p 0) else .inr p
/-- how many small letters stand from a place on -/
def runL (L : List Int32) : Nat → Nat → Nat
  | 0, _ => 0
  | d + 1, p => if isL (hereL L p) = true then runL L d (p + 1) + 1 else 0
def wordL (L : List Int32) (p n : Nat) : List Int32 := (List.range n).map fun i => L.getD (p + i) 0
/-- the filter of a name, by the reference's order -/
def fnd (w : List Int32) : Option Nat := (List.range 18).find? fun q => decide (sWl.getD (fa q - 1) [] = w)
def pFil (L : List Int32) (p : Nat) : PR (Nat × Nat) :=
  match fnd (wordL L p (runL L 160 p)) with
  | none => .inr p
  | some q => if q < 13 then .inl ((q, 0), p + runL L 160 p) else bnd (pSign L 58 (p + runL L 160 p)) fun _ p1 => bnd (pFigs L p1) fun m p2 => .inl ((q, m), p2)
def pFils (L : List Int32) : Nat → Nat → PR (List (Nat × Nat))
  | 0, p => .inr p
  | n + 1, p => bnd (pFil L p) fun f p1 => if hereL L p1 = 124 then bnd (pFils L n (p1 + 1)) fun fs p2 => .inl (f :: fs, p2) else .inl ([f], p1)
/-- a text's sign -/
def isT (c : Int32) : Bool := decide (0 < c.toInt ∧ c ≠ 39 ∧ c ≠ 123 ∧ c ≠ 125)
def runT (L : List Int32) : Nat → Nat → Nat
  | 0, _ => 0
  | d + 1, p => if isT (hereL L p) = true then runT L d (p + 1) + 1 else 0
/-- an expression: its kind (0: a value, 1: a variable, 2: the loop's count), the variable, the value, the filters -/
abbrev EX : Type := Nat × Nat × vT × List (Nat × Nat)
def eN : EX := (0, 0, vN, [])
def pAtom (L : List Int32) (p : Nat) : PR EX :=
  if 97 ≤ (hereL L p).toInt ∧ (hereL L p).toInt < 105 then .inl ((1, (hereL L p).toInt.toNat - 97, vN, []), p + 1)
  else if hereL L p = 35 then .inl ((2, 0, vN, []), p + 1)
  else if hereL L p = 39 then bnd (pSign L 39 (p + 1 + runT L 16 (p + 1))) fun _ p1 => .inl ((0, 0, (3, 0, 0, runT L 16 (p + 1), fun i => L.getD (p + 1 + i) 0), []), p1)
  else if hereL L p = 45 then bnd (pFigs L (p + 1)) fun m p1 => .inl ((0, 0, vI (-iN m), []), p1)
  else bnd (pFigs L p) fun m p1 => .inl ((0, 0, vI (iN m), []), p1)
def pExpr (L : List Int32) (p : Nat) : PR EX :=
  bnd (pAtom L p) fun e p1 => if hereL L p1 = 124 then bnd (pFils L 161 (p1 + 1)) fun fs p2 => .inl ((e.1, e.2.1, e.2.2.1, fs), p2) else .inl (e, p1)
/-- pieces, one behind the other: kind, line, number, condition's sort, expressions, what is inside, what else -/
abbrev PD (X : Type) : Type := Nat × Nat × Int32 × Nat × EX × EX × X × X
def TY : Nat → Type
  | 0 => Unit
  | m + 1 => List (PD (TY m))
def tyN : (m : Nat) → TY m
  | 0 => ()
  | _ + 1 => []
/-- a condition: its sort (0: true, 1: not, 2: less, 3: the same) -/
def pCond (L : List Int32) (p : Nat) : PR (Nat × EX × EX) :=
  if hereL L p = 33 then bnd (pExpr L (p + 1)) fun e p1 => .inl ((1, e, eN), p1)
  else bnd (pExpr L p) fun e p1 =>
    if hereL L p1 = 60 then bnd (pExpr L (p1 + 1)) fun e2 p2 => .inl ((2, e, e2), p2)
    else if hereL L p1 = 61 then bnd (pExpr L (p1 + 1)) fun e2 p2 => .inl ((3, e, e2), p2)
    else .inl ((0, e, eN), p1)
abbrev pRec : Type := (m : Nat) → Bool → Bool → Nat → PR (TY m × Bool)
def pBoth (L : List Int32) (rc : pRec) (m : Nat) (blk : Bool) (p : Nat) : PR (TY m × TY m) :=
  bnd (pSign L 125 p) fun _ p1 => bnd (rc m blk true p1) fun t p2 =>
    if t.2 = true then bnd (rc m blk false p2) fun o p3 => .inl ((t.1, o.1), p3) else .inl ((t.1, tyN m), p2)
/-- one piece; m: how many levels are left for what is inside -/
def pPiece (L : List Int32) (rc : pRec) (m : Nat) (blk : Bool) (p : Nat) : PR (PD (TY m)) :=
  if hereL L p = 123 then
    if hereL L (p + 1) = 42 then
      if 1 ≤ m then bnd (pOne L 97 8 (p + 2)) fun v p1 => bnd (pSign L 32 p1) fun _ p2 => bnd (pExpr L p2) fun e p3 => bnd (pBoth L rc m blk p3) fun io p4 => .inl ((3, lnAt L p, iN v, 0, e, eN, io.1, io.2), p4)
      else .inr (p + 1)
    else if hereL L (p + 1) = 61 then
      if 1 ≤ m then bnd (pOne L 65 4 (p + 2)) fun b p1 => bnd (pSign L 125 p1) fun _ p2 => bnd (rc m true false p2) fun t p3 => .inl ((4, lnAt L p, iN b, 0, eN, eN, t.1, tyN m), p3)
      else .inr (p + 1)
    else if hereL L (p + 1) = 62 then bnd (pOne L 48 6 (p + 2)) fun k p1 => bnd (pSign L 125 p1) fun _ p2 => .inl ((6, lnAt L p, iN k, 0, eN, eN, tyN m, tyN m), p2)
    else if hereL L (p + 1) = 63 then
      if 1 ≤ m then bnd (pCond L (p + 2)) fun c p1 => bnd (pBoth L rc m blk p1) fun io p2 => .inl ((2, lnAt L p, 0, c.1, c.2.1, c.2.2, io.1, io.2), p2)
      else .inr (p + 1)
    else if hereL L (p + 1) = 64 then bnd (pOne L 97 8 (p + 2)) fun v p1 => bnd (pSign L 61 p1) fun _ p2 => bnd (pExpr L p2) fun e p3 => bnd (pSign L 125 p3) fun _ p4 => .inl ((7, lnAt L p, iN v, 0, e, eN, tyN m, tyN m), p4)
    else if hereL L (p + 1) = 94 then
      if blk = true then bnd (pSign L 125 (p + 2)) fun _ p1 => .inl ((5, lnAt L p, 0, 0, eN, eN, tyN m, tyN m), p1) else .inr (p + 1)
    else bnd (pExpr L (p + 1)) fun e p1 => bnd (pSign L 125 p1) fun _ p2 => .inl ((1, lnAt L p, 0, 0, e, eN, tyN m, tyN m), p2)
  else if hereL L p = 125 then .inr p
  else .inl ((0, lnAt L p, hereL L p, 0, eN, eN, tyN m, tyN m), p + 1)
def pAllB (L : List Int32) (rc : pRec) (m : Nat) (blk els : Bool) (p : Nat) : PR (List (PD (TY m)) × Bool) :=
  if L.length ≤ p then (if m = 4 then .inl (([], false), p) else .inr p)
  else if hereL L p = 123 ∧ hereL L (p + 1) = 47 ∧ m ≠ 4 then bnd (pSign L 125 (p + 2)) fun _ q => .inl (([], false), q)
  else if hereL L p = 123 ∧ hereL L (p + 1) = 58 ∧ els = true then bnd (pSign L 125 (p + 2)) fun _ q => .inl (([], true), q)
  else bnd (pPiece L rc m blk p) fun pc q => bnd (rc (m + 1) blk els q) fun r q2 => .inl ((pc :: r.1, r.2), q2)
def pAll (L : List Int32) : Nat → pRec
  | 0 => fun _ _ _ p => .inr p
  | n + 1 => fun m => match m with
    | 0 => fun _ _ p => .inr p
    | m + 1 => pAllB L (pAll L n) m
/-- a whole text: what it goes behind (or nothing), the tree -/
def pTop (L : List Int32) : PR (Option Nat × TY 5) :=
  if hereL L 0 = 123 ∧ hereL L 1 = 60 then bnd (pOne L 48 6 2) fun k p1 => bnd (pSign L 125 p1) fun _ p2 => bnd (pAll L 161 5 false false p2) fun r q => .inl ((some k, r.1), q)
  else bnd (pAll L 161 5 false false 0) fun r q => .inl ((none, r.1), q)
/-- how many nodes -/
def nodesT : (m : Nat) → TY m → Nat
  | 0, _ => 0
  | m + 1, t => List.foldr (fun (pc : PD (TY m)) a => (if pc.1 = 0 then 0 else 1 + nodesT m pc.2.2.2.2.2.2.1 + nodesT m pc.2.2.2.2.2.2.2) + a) 0 t
/-- the masks of the variables and the parts -/
def bitN (k : Int32) : Int32 := (1 : Int32) <<< (k &&& 31)
def varsE (e : EX) : Int32 := if e.1 = 1 then bitN (iN e.2.1) else 0
def varsT : (m : Nat) → TY m → Int32
  | 0, _ => 0
  | m + 1, t => List.foldr (fun (pc : PD (TY m)) a => ((if pc.1 = 3 ∨ pc.1 = 7 then bitN pc.2.2.1 else 0) ||| varsE pc.2.2.2.2.1 ||| varsE pc.2.2.2.2.2.1 ||| varsT m pc.2.2.2.2.2.2.1 ||| varsT m pc.2.2.2.2.2.2.2) ||| a) 0 t
def partsT : (m : Nat) → TY m → Int32
  | 0, _ => 0
  | m + 1, t => List.foldr (fun (pc : PD (TY m)) a => ((if pc.1 = 6 then bitN pc.2.2.1 else 0) ||| partsT m pc.2.2.2.2.2.2.1 ||| partsT m pc.2.2.2.2.2.2.2) ||| a) 0 t
/-- all blocks, an outer one before the inner ones: their names, what is inside (by the levels left) -/
def blksT : (m : Nat) → TY m → List (Int32 × Nat × (Σ q : Nat, TY q))
  | 0, _ => []
  | m + 1, t => List.foldr (fun (pc : PD (TY m)) a => ((if pc.1 = 4 then [(pc.2.2.1, pc.2.1, ⟨m, pc.2.2.2.2.2.2.1⟩)] else []) ++ blksT m pc.2.2.2.2.2.2.1 ++ blksT m pc.2.2.2.2.2.2.2) ++ a) [] t

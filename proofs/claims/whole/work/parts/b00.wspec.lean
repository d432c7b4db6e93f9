/-! what a walk does, on trees -/
abbrev Lk : Type := Nat × Nat × Nat
abbrev St : Type := (Nat → vT) × Nat × List Int32 × Nat
abbrev Ot : Type := Sum St (Nat × List Lk)
/-- the links before, the chain, the place in it, the block's letter, the loop's count -/
abbrev Rh : Type := List Lk × List Nat × Nat × Option Nat × Option Nat
abbrev Tp : Type := Nat → Option (List Int32 × Option Nat × TY 5)
def bsL (c : List Nat) (j : Nat) : List Lk := (c.take j).map fun k => (k, 1, 11)
def lks (ρ : Rh) (ln s : Nat) : List Lk := ρ.1 ++ bsL ρ.2.1 ρ.2.2.1 ++ [(ρ.2.1.getD ρ.2.2.1 0, ln, s)]
def ftW (ρ : Rh) (σ : St) (ln s : Nat) : Ot := .inr (σ.2.2.2, lks ρ ln s)
def bO (x : Ot) (f : St → Ot) : Ot :=
  match x with
  | .inl σ => f σ
  | .inr e => .inr e
theorem bO_l (σ : St) (f : St → Ot) : bO (.inl σ) f = f σ := rfl
theorem bO_r (e : Nat × List Lk) (f : St → Ot) : bO (.inr e) f = .inr e := rfl
def upV (vs : Nat → vT) (n : Nat) (V : vT) : Nat → vT := fun u => if u = n then V else vs u
/-- the context behind a byte -/
def behW (c : Nat) (x : Int32) : Nat := if c = 0 then (if x = 60 then 1 else if x = 96 then 3 else 0) else if c = 1 then (if x = 62 then 0 else if x = 34 then 2 else 1) else if c = 2 then (if x = 34 then 1 else 2) else (if x = 96 then 0 else 3)
def plnW (x : Int32) : Bool := decide ((48 ≤ x.toInt ∧ x.toInt ≤ 57) ∨ (97 ≤ x.toInt ∧ x.toInt ≤ 122) ∨ (65 ≤ x.toInt ∧ x.toInt ≤ 90))
/-- what is put for a byte that a value shows -/
def escW (c : Nat) (x : Int32) : List Int32 :=
  if c = 1 then [if plnW x = true then x else 95]
  else if c = 3 then (if x = 96 ∨ x = 92 then [92, x] else [x])
  else if x = 60 then [38, 108, 59]
  else if x = 38 then [38, 97, 59]
  else if c = 2 ∧ x = 34 then [38, 113, 59]
  else [x]
def apF : List (Nat × Nat) → vT → Nat × vT
  | [], V => (0, V)
  | f :: fs, V => if (fltS f.1 (iN f.2) V).1 = 0 then apF fs (fltS f.1 (iN f.2) V).2 else fltS f.1 (iN f.2) V
/-- what an expression gives: the fault's sort (0: none), the value -/
def bsE (vs : Nat → vT) (trn : Option Nat) (e : EX) : vT := if e.1 = 1 then vs e.2.1 else if e.1 = 2 then vI (iN (trn.getD 0)) else e.2.2.1
def evE (vs : Nat → vT) (trn : Option Nat) (e : EX) : Nat × vT := if e.1 = 2 ∧ trn = none then (9, vN) else apF e.2.2.2 (bsE vs trn e)
/-- whether a condition holds, or the fault's sort -/
def cvE (vs : Nat → vT) (trn : Option Nat) (ts : Nat) (e1 e2 : EX) : Sum Bool Nat :=
  if (evE vs trn e1).1 ≠ 0 then .inr (evE vs trn e1).1
  else if ts = 0 then .inl (decide (trS (evE vs trn e1).2 ≠ 0))
  else if ts = 1 then .inl (decide (trS (evE vs trn e1).2 = 0))
  else if (evE vs trn e2).1 ≠ 0 then .inr (evE vs trn e2).1
  else match cmS (evE vs trn e1).2 (evE vs trn e2).2 with
    | none => .inr 2
    | some x => if ts = 2 then .inl (decide (x < 0)) else .inl (decide (x = 0))
def putW (lim : Nat) (ρ : Rh) (ln : Nat) (x : Int32) (σ : St) : Ot := if lim ≤ σ.2.2.1.length then ftW ρ σ ln 5 else .inl (σ.1, σ.2.1, σ.2.2.1 ++ [x], σ.2.2.2)
def putL (lim : Nat) (ρ : Rh) (ln : Nat) : List Int32 → St → Ot
  | [], σ => .inl σ
  | x :: xs, σ => bO (putW lim ρ ln x σ) (putL lim ρ ln xs)
def putV (lim : Nat) (ρ : Rh) (ln : Nat) : List Int32 → St → Ot
  | [], σ => .inl σ
  | x :: xs, σ => bO (putL lim ρ ln (escW σ.2.1 x) σ) (putV lim ρ ln xs)
/-- one round behind the other -/
def rnds (f : Nat → St → Ot) : Nat → Nat → St → Ot
  | 0, _, σ => .inl σ
  | d + 1, i, σ => bO (f i σ) (rnds f d (i + 1))
/-- {>k}, {=B}, {^} by kind, number, line -/
abbrev Ew : Type := Nat → Int32 → Nat → Rh → St → Ot
/-- looking: lk; cc: contexts are looked at -/
def wPc (lk cc : Bool) (lim : Nat) (E : Ew) {X : Type} (wI : X → Rh → St → Ot) (pc : PD X) (ρ : Rh) (σ : St) : Ot :=
  if pc.1 = 0 then (if lk = true then .inl (σ.1, behW σ.2.1 pc.2.2.1, σ.2.2) else bO (putW lim ρ pc.2.1 pc.2.2.1 σ) fun σ' => .inl (σ'.1, behW σ'.2.1 pc.2.2.1, σ'.2.2))
  else if 300 ≤ σ.2.2.2 then ftW ρ σ pc.2.1 6
  else if pc.1 = 1 then (
    if lk = true then .inl (σ.1, σ.2.1, σ.2.2.1, σ.2.2.2 + 1)
    else if (evE σ.1 ρ.2.2.2.2 pc.2.2.2.2.1).1 ≠ 0 then ftW ρ (σ.1, σ.2.1, σ.2.2.1, σ.2.2.2 + 1) pc.2.1 (evE σ.1 ρ.2.2.2.2 pc.2.2.2.2.1).1
    else putV lim ρ pc.2.1 (shV (evE σ.1 ρ.2.2.2.2 pc.2.2.2.2.1).2) (σ.1, σ.2.1, σ.2.2.1, σ.2.2.2 + 1))
  else if pc.1 = 7 then (
    if lk = true then .inl (σ.1, σ.2.1, σ.2.2.1, σ.2.2.2 + 1)
    else if (evE σ.1 ρ.2.2.2.2 pc.2.2.2.2.1).1 ≠ 0 then ftW ρ (σ.1, σ.2.1, σ.2.2.1, σ.2.2.2 + 1) pc.2.1 (evE σ.1 ρ.2.2.2.2 pc.2.2.2.2.1).1
    else .inl (upV σ.1 pc.2.2.1.toNatClampNeg (evE σ.1 ρ.2.2.2.2 pc.2.2.2.2.1).2, σ.2.1, σ.2.2.1, σ.2.2.2 + 1))
  else if pc.1 = 2 then (
    if lk = true then bO (wI pc.2.2.2.2.2.2.1 ρ (σ.1, σ.2.1, σ.2.2.1, σ.2.2.2 + 1)) fun σ1 => bO (wI pc.2.2.2.2.2.2.2 ρ (σ1.1, σ.2.1, σ1.2.2)) fun σ2 => if σ2.2.1 = σ1.2.1 then .inl σ2 else ftW ρ σ2 pc.2.1 3
    else match cvE σ.1 ρ.2.2.2.2 pc.2.2.2.1 pc.2.2.2.2.1 pc.2.2.2.2.2.1 with
      | .inr s => ftW ρ (σ.1, σ.2.1, σ.2.2.1, σ.2.2.2 + 1) pc.2.1 s
      | .inl b => if b = true then wI pc.2.2.2.2.2.2.1 ρ (σ.1, σ.2.1, σ.2.2.1, σ.2.2.2 + 1) else wI pc.2.2.2.2.2.2.2 ρ (σ.1, σ.2.1, σ.2.2.1, σ.2.2.2 + 1))
  else if pc.1 = 3 then (
    if lk = true then bO (wI pc.2.2.2.2.2.2.1 ρ (σ.1, σ.2.1, σ.2.2.1, σ.2.2.2 + 1)) fun σ1 => if σ1.2.1 = σ.2.1 then (bO (wI pc.2.2.2.2.2.2.2 ρ σ1) fun σ2 => if σ2.2.1 = σ.2.1 then .inl σ2 else ftW ρ σ2 pc.2.1 3) else ftW ρ σ1 pc.2.1 3
    else if (evE σ.1 ρ.2.2.2.2 pc.2.2.2.2.1).1 ≠ 0 then ftW ρ (σ.1, σ.2.1, σ.2.2.1, σ.2.2.2 + 1) pc.2.1 (evE σ.1 ρ.2.2.2.2 pc.2.2.2.2.1).1
    else if (evE σ.1 ρ.2.2.2.2 pc.2.2.2.2.1).2.1 ≠ 4 then ftW ρ (σ.1, σ.2.1, σ.2.2.1, σ.2.2.2 + 1) pc.2.1 2
    else if (evE σ.1 ρ.2.2.2.2 pc.2.2.2.2.1).2.2.2.2.1 = 0 then wI pc.2.2.2.2.2.2.2 ρ (σ.1, σ.2.1, σ.2.2.1, σ.2.2.2 + 1)
    else rnds (fun i τ => bO (wI pc.2.2.2.2.2.2.1 (ρ.1, ρ.2.1, ρ.2.2.1, ρ.2.2.2.1, some i) (upV τ.1 pc.2.2.1.toNatClampNeg (vI ((evE σ.1 ρ.2.2.2.2 pc.2.2.2.2.1).2.2.2.2.2 i)), τ.2)) fun τ' => .inl (τ.1, τ'.2)) (evE σ.1 ρ.2.2.2.2 pc.2.2.2.2.1).2.2.2.2.1 0 (σ.1, σ.2.1, σ.2.2.1, σ.2.2.2 + 1))
  else E pc.1 pc.2.2.1 pc.2.1 ρ (σ.1, σ.2.1, σ.2.2.1, σ.2.2.2 + 1)
def wL {X : Type} (f : PD X → St → Ot) : List (PD X) → St → Ot
  | [], σ => .inl σ
  | pc :: ps, σ => bO (f pc σ) (wL f ps)
def wTr (lk cc : Bool) (lim : Nat) (E : Ew) : (m : Nat) → TY m → Rh → St → Ot
  | 0, _, _, σ => .inl σ
  | m + 1, t, ρ, σ => bO (wL (X := TY m) (fun pc => wPc lk cc lim E (wTr lk cc lim E m) pc ρ) t σ) fun σ' => .inl (σ.1, σ'.2)
/-- a template's chain: its places and the last one's tree, or the places, the line and the sort of the fault -/
def chW (tp : Tp) : Nat → Nat → List Nat → Sum (List Nat × TY 5) (List Nat × Nat × Nat)
  | 0, _, c => .inr (c, 1, 7)
  | n + 1, k, c =>
    match tp k with
    | none => .inr (c ++ [k], 0, 1)
    | some x =>
      match x.2.1 with
      | none => .inl (c ++ [k], x.2.2)
      | some k' => chW tp n k' (c ++ [k])
def wTp (lk cc : Bool) (lim : Nat) (tp : Tp) (E : Ew) (k : Nat) (pre : List Lk) (trn : Option Nat) (σ : St) : Ot :=
  match chW tp 6 k [] with
  | .inr x => ftW (pre, x.1, x.1.length - 1, none, trn) σ x.2.1 x.2.2
  | .inl x => bO (wTr lk cc lim E 5 x.2 (pre, x.1, x.1.length - 1, none, trn) σ) fun σ' => if cc = true ∧ σ'.2.1 ≠ σ.2.1 then ftW (pre, x.1, 0, none, trn) σ' 0 3 else .inl σ'
/-- the first of a chain, from a place on, that has a block -/
def fdB (tp : Tp) (b : Nat) : List Nat → Nat → Option (Nat × (Σ q : Nat, TY q))
  | [], _ => none
  | k :: c, j =>
    match tp k with
    | none => fdB tp b c (j + 1)
    | some x =>
      match fB (blksT 5 x.2.2) b with
      | none => fdB tp b c (j + 1)
      | some y => some (j, y.2.2)
def wBk (lk cc : Bool) (lim : Nat) (tp : Tp) (E : Ew) (b from_ ln : Nat) (ρ : Rh) (σ : St) : Ot :=
  match fdB tp b (ρ.2.1.drop from_) from_ with
  | none => ftW ρ σ ln 8
  | some x => bO (wTr lk cc lim E x.2.1 x.2.2 (ρ.1, ρ.2.1, x.1, some b, ρ.2.2.2.2) σ) fun σ' => if cc = true ∧ σ'.2.1 ≠ σ.2.1 then ftW ρ σ' ln 3 else .inl σ'
def wE (lk cc : Bool) (lim : Nat) (tp : Tp) : Nat → Ew
  | 0 => fun _ _ ln ρ σ => ftW ρ σ ln 7
  | d + 1 => fun kd sg ln ρ σ =>
    if kd = 6 then wTp lk cc lim tp (wE lk cc lim tp d) sg.toNatClampNeg (lks ρ ln 10) ρ.2.2.2.2 σ
    else if kd = 4 then wBk lk cc lim tp (wE lk cc lim tp d) sg.toNatClampNeg 0 ln ρ σ
    else match ρ.2.2.2.1 with
      | none => ftW ρ σ ln 8
      | some b => wBk lk cc lim tp (wE lk cc lim tp d) b (ρ.2.2.1 + 1) ln ρ σ
/-! a look that went well: printed, contexts need no look -/
/-- two ways of printing: alike, and behind it the context is as looked -/
def agW (x y : Ot) (c : Nat) : Prop := x = y ∧ ∀ σ, x = .inl σ → σ.2.1 = c
theorem agW.bd {x y : Ot} {c c' : Nat} {f g : St → Ot} (a : agW x y c) (b : ∀ σ, σ.2.1 = c → agW (f σ) (g σ) c') : agW (bO x f) (bO y g) c' := by
  obtain ⟨a1, a2⟩ := a
  subst a1
  cases x with
  | inl σ => exact b σ (a2 σ rfl)
  | inr e => exact ⟨rfl, fun σ h => by cases h⟩
theorem agW.ft (ρ : Rh) (σ : St) (ln s c : Nat) : agW (ftW ρ σ ln s) (ftW ρ σ ln s) c := ⟨rfl, fun σ h => by cases h⟩
theorem bO_i {x : Ot} {f : St → Ot} {σ : St} (e : bO x f = .inl σ) : ∃ τ, x = .inl τ ∧ f τ = .inl σ := by
  cases x with
  | inl τ => exact ⟨τ, rfl, e⟩
  | inr r => cases e
theorem putW_c {lim : Nat} {ρ : Rh} {ln : Nat} {x : Int32} {σ τ : St} (e : putW lim ρ ln x σ = .inl τ) : τ.2.1 = σ.2.1 := by
  unfold putW at e
  by_cases c : lim ≤ σ.2.2.1.length
  · rw [if_pos c] at e; cases e
  · rw [if_neg c] at e
    rw [← Sum.inl.inj e]
theorem putL_c {lim : Nat} {ρ : Rh} {ln : Nat} : ∀ (xs : List Int32) (σ τ : St), putL lim ρ ln xs σ = .inl τ → τ.2.1 = σ.2.1 := by
  intro xs
  induction xs with
  | nil => intro σ τ e; rw [← Sum.inl.inj e]
  | cons x xs ih =>
    intro σ τ e
    obtain ⟨σ1, a, b⟩ := bO_i (x := putW lim ρ ln x σ) (f := putL lim ρ ln xs) e
    rw [ih σ1 τ b, putW_c a]
theorem putV_c {lim : Nat} {ρ : Rh} {ln : Nat} : ∀ (xs : List Int32) (σ τ : St), putV lim ρ ln xs σ = .inl τ → τ.2.1 = σ.2.1 := by
  intro xs
  induction xs with
  | nil => intro σ τ e; rw [← Sum.inl.inj e]
  | cons x xs ih =>
    intro σ τ e
    obtain ⟨σ1, a, b⟩ := bO_i (x := putL lim ρ ln (escW σ.2.1 x) σ) (f := putV lim ρ ln xs) e
    rw [ih σ1 τ b, putL_c _ _ _ a]
/-- the environment of the look: all alike but the loop's count -/
def eqR (ρ ρ' : Rh) : Prop := ρ.2.1 = ρ'.2.1 ∧ ρ.2.2.1 = ρ'.2.2.1 ∧ ρ.2.2.2.1 = ρ'.2.2.2.1
def EwA (lim : Nat) (E Et Ef : Ew) : Prop := ∀ kd sg ln ρ ρ' σ σ' τ, eqR ρ ρ' → E kd sg ln ρ' σ' = .inl τ → σ.2.1 = σ'.2.1 → agW (Et kd sg ln ρ σ) (Ef kd sg ln ρ σ) τ.2.1
def wIA {X : Type} (w wt wf : X → Rh → St → Ot) : Prop := ∀ t ρ ρ' σ σ' τ, eqR ρ ρ' → w t ρ' σ' = .inl τ → σ.2.1 = σ'.2.1 → agW (wt t ρ σ) (wf t ρ σ) τ.2.1
theorem rnds_a {f g : Nat → St → Ot} {c : Nat} (h : ∀ i σ, σ.2.1 = c → agW (f i σ) (g i σ) c) : ∀ (d i : Nat) (σ : St), σ.2.1 = c → agW (rnds f d i σ) (rnds g d i σ) c := by
  intro d
  induction d with
  | zero => intro i σ e; exact ⟨rfl, fun τ h => by rw [← Sum.inl.inj h]; exact e⟩
  | succ d ih => intro i σ e; exact (h i σ e).bd fun τ e2 => ih (i + 1) τ e2
theorem wPc_a {lim : Nat} {E Et Ef : Ew} {X : Type} {w wt wf : X → Rh → St → Ot} (hE : EwA lim E Et Ef) (hw : wIA w wt wf) (pc : PD X) (ρ ρ' : Rh) (σ σ' τ : St) (hρ : eqR ρ ρ') (e : wPc true true lim E w pc ρ' σ' = .inl τ) (hc : σ.2.1 = σ'.2.1) : agW (wPc false true lim Et wt pc ρ σ) (wPc false false lim Ef wf pc ρ σ) τ.2.1 := by
  unfold wPc at e ⊢
  rw [if_neg (show ¬ false = true by decide)] at *
  by_cases c0 : pc.1 = 0
  · rw [if_pos c0, if_pos rfl] at e
    rw [if_pos c0, if_pos c0]
    have e' := Sum.inl.inj e
    refine agW.bd (c := σ.2.1) ⟨rfl, fun τ h => putW_c h⟩ fun τ1 h1 => ⟨rfl, fun τ2 h2 => ?_⟩
    rw [← Sum.inl.inj h2, ← e', h1, hc]
  rw [if_neg c0] at e
  rw [if_neg c0, if_neg c0]
  by_cases cs : 300 ≤ σ.2.2.2
  · rw [if_pos cs, if_pos cs]; exact agW.ft _ _ _ _ _
  rw [if_neg cs, if_neg cs]
  by_cases cs' : 300 ≤ σ'.2.2.2
  · rw [if_pos cs'] at e; cases e
  rw [if_neg cs'] at e
  by_cases c1 : pc.1 = 1
  · rw [if_pos c1, if_pos rfl] at e
    rw [if_pos c1, if_pos c1]
    have e' := Sum.inl.inj e
    have et : τ.2.1 = σ.2.1 := by rw [← e', hc]
    by_cases z : (evE σ.1 ρ.2.2.2.2 pc.2.2.2.2.1).1 ≠ 0
    · rw [if_pos z]; exact agW.ft _ _ _ _ _
    · rw [if_neg z]
      exact ⟨rfl, fun τ2 h2 => by rw [putV_c _ _ _ h2, et]⟩
  rw [if_neg c1] at e
  rw [if_neg c1, if_neg c1]
  by_cases c7 : pc.1 = 7
  · rw [if_pos c7, if_pos rfl] at e
    rw [if_pos c7, if_pos c7]
    have e' := Sum.inl.inj e
    have et : τ.2.1 = σ.2.1 := by rw [← e', hc]
    by_cases z : (evE σ.1 ρ.2.2.2.2 pc.2.2.2.2.1).1 ≠ 0
    · rw [if_pos z]; exact agW.ft _ _ _ _ _
    · rw [if_neg z]
      exact ⟨rfl, fun τ2 h2 => by rw [← Sum.inl.inj h2, et]⟩
  rw [if_neg c7] at e
  rw [if_neg c7, if_neg c7]
  by_cases c2 : pc.1 = 2
  · rw [if_pos c2, if_pos rfl] at e
    rw [if_pos c2, if_pos c2]
    obtain ⟨σ1, a1, e⟩ := bO_i e
    obtain ⟨σ2, a2, e⟩ := bO_i e
    by_cases z : σ2.2.1 = σ1.2.1
    · rw [if_pos z] at e
      have e' := Sum.inl.inj e
      subst e'
      cases cvE σ.1 ρ.2.2.2.2 pc.2.2.2.1 pc.2.2.2.2.1 pc.2.2.2.2.2.1 with
      | inr s => exact agW.ft _ _ _ _ _
      | inl b =>
        cases b with
        | true =>
          rw [z]
          exact hw _ _ _ _ _ _ hρ a1 hc
        | false =>
          exact hw _ _ _ _ _ _ hρ a2 hc
    · rw [if_neg z] at e; cases e
  rw [if_neg c2] at e
  rw [if_neg c2, if_neg c2]
  by_cases c3 : pc.1 = 3
  · rw [if_pos c3, if_pos rfl] at e
    rw [if_pos c3, if_pos c3]
    obtain ⟨σ1, a1, e⟩ := bO_i e
    by_cases z1 : σ1.2.1 = σ'.2.1
    · rw [if_pos z1] at e
      obtain ⟨σ2, a2, e⟩ := bO_i e
      by_cases z2 : σ2.2.1 = σ'.2.1
      · rw [if_pos z2] at e
        have e' := Sum.inl.inj e
        subst e'
        by_cases y1 : (evE σ.1 ρ.2.2.2.2 pc.2.2.2.2.1).1 ≠ 0
        · rw [if_pos y1, if_pos y1]; exact agW.ft _ _ _ _ _
        rw [if_neg y1, if_neg y1]
        by_cases y2 : (evE σ.1 ρ.2.2.2.2 pc.2.2.2.2.1).2.1 ≠ 4
        · rw [if_pos y2, if_pos y2]; exact agW.ft _ _ _ _ _
        rw [if_neg y2, if_neg y2]
        by_cases y3 : (evE σ.1 ρ.2.2.2.2 pc.2.2.2.2.1).2.2.2.2.1 = 0
        · rw [if_pos y3, if_pos y3]
          have := hw _ ρ ρ' (σ.1, σ.2.1, σ.2.2.1, σ.2.2.2 + 1) σ1 σ2 hρ a2 (by show σ.2.1 = _; rw [hc, z1])
          exact this
        · rw [if_neg y3, if_neg y3, z2]
          refine rnds_a (c := σ'.2.1) (fun i τ' ht => ?_) _ _ _ hc
          have := hw _ (ρ.1, ρ.2.1, ρ.2.2.1, ρ.2.2.2.1, some i) ρ' (upV τ'.1 pc.2.2.1.toNatClampNeg (vI ((evE σ.1 ρ.2.2.2.2 pc.2.2.2.2.1).2.2.2.2.2 i)), τ'.2) (σ'.1, σ'.2.1, σ'.2.2.1, σ'.2.2.2 + 1) σ1 hρ a1 ht
          rw [z1] at this
          exact this.bd fun τ2 h2 => ⟨rfl, fun τ3 h3 => by rw [← Sum.inl.inj h3]; exact h2⟩
      · rw [if_neg z2] at e; cases e
    · rw [if_neg z1] at e; cases e
  rw [if_neg c3] at e
  rw [if_neg c3, if_neg c3]
  exact hE _ _ _ _ _ _ _ _ hρ e hc
theorem wL_a {X : Type} {f ft ff : PD X → St → Ot} (h : ∀ pc σ σ' τ, f pc σ' = .inl τ → σ.2.1 = σ'.2.1 → agW (ft pc σ) (ff pc σ) τ.2.1) : ∀ (ps : List (PD X)) (σ σ' τ : St), wL f ps σ' = .inl τ → σ.2.1 = σ'.2.1 → agW (wL ft ps σ) (wL ff ps σ) τ.2.1 := by
  intro ps
  induction ps with
  | nil => intro σ σ' τ e hc; exact ⟨rfl, fun τ2 h2 => by rw [← Sum.inl.inj h2, hc, Sum.inl.inj e]⟩
  | cons pc ps ih =>
    intro σ σ' τ e hc
    obtain ⟨σ1, a, b⟩ := bO_i (x := f pc σ') (f := wL f ps) e
    exact (h pc σ σ' σ1 a hc).bd fun τ1 h1 => ih τ1 σ1 τ b h1
theorem wTr_a {lim : Nat} {E Et Ef : Ew} (hE : EwA lim E Et Ef) : ∀ m, wIA (wTr true true lim E m) (wTr false true lim Et m) (wTr false false lim Ef m) := by
  intro m
  induction m with
  | zero => intro t ρ ρ' σ σ' τ _ e hc; exact ⟨rfl, fun τ2 h2 => by rw [← Sum.inl.inj h2, hc, Sum.inl.inj e]⟩
  | succ m ih =>
    intro t ρ ρ' σ σ' τ hρ e hc
    obtain ⟨σ1, a, b⟩ := bO_i (x := wL (X := TY m) (fun pc => wPc true true lim E (wTr true true lim E m) pc ρ') t σ') e
    have b' := Sum.inl.inj b
    subst b'
    exact (wL_a (fun pc s s' t' e' hc' => wPc_a hE ih pc ρ ρ' s s' t' hρ e' hc') t σ σ' σ1 a hc).bd fun τ1 h1 => ⟨rfl, fun τ2 h2 => by rw [← Sum.inl.inj h2]; exact h1⟩
theorem wTp_a {lim : Nat} {tp : Tp} {E Et Ef : Ew} (hE : EwA lim E Et Ef) (k : Nat) (pre pre' : List Lk) (trn trn' : Option Nat) (σ σ' τ : St) (e : wTp true true lim tp E k pre' trn' σ' = .inl τ) (hc : σ.2.1 = σ'.2.1) : agW (wTp false true lim tp Et k pre trn σ) (wTp false false lim tp Ef k pre trn σ) τ.2.1 := by
  unfold wTp at e ⊢
  cases hx : chW tp 6 k [] with
  | inr x => exact agW.ft _ _ _ _ _
  | inl x =>
    rw [hx] at e
    obtain ⟨σ1, a, b⟩ := bO_i (x := wTr true true lim E 5 x.2 (pre', x.1, x.1.length - 1, none, trn') σ') e
    by_cases z : σ1.2.1 = σ'.2.1
    · rw [if_neg (fun q => q.2 z)] at b
      have b' := Sum.inl.inj b
      subst b'
      refine (wTr_a hE 5 x.2 (pre, x.1, x.1.length - 1, none, trn) (pre', x.1, x.1.length - 1, none, trn') σ σ' σ1 ⟨rfl, rfl, rfl⟩ a hc).bd fun τ1 h1 => ?_
      rw [if_neg (fun q => q.2 (by rw [h1, z, hc])), if_neg (fun q => by cases q.1)]
      exact ⟨rfl, fun τ2 h2 => by rw [← Sum.inl.inj h2]; exact h1⟩
    · rw [if_pos ⟨rfl, z⟩] at b; cases b
theorem wBk_a {lim : Nat} {tp : Tp} {E Et Ef : Ew} (hE : EwA lim E Et Ef) (b fr ln : Nat) (ρ ρ' : Rh) (σ σ' τ : St) (hρ : eqR ρ ρ') (e : wBk true true lim tp E b fr ln ρ' σ' = .inl τ) (hc : σ.2.1 = σ'.2.1) : agW (wBk false true lim tp Et b fr ln ρ σ) (wBk false false lim tp Ef b fr ln ρ σ) τ.2.1 := by
  unfold wBk at e ⊢
  rw [← hρ.1] at e
  cases hx : fdB tp b (ρ.2.1.drop fr) fr with
  | none => rw [hx] at e; cases e
  | some x =>
    rw [hx] at e
    obtain ⟨σ1, a, b'⟩ := bO_i (x := wTr true true lim E x.2.1 x.2.2 (ρ'.1, ρ.2.1, x.1, some b, ρ'.2.2.2.2) σ') e
    by_cases z : σ1.2.1 = σ'.2.1
    · rw [if_neg (fun q => q.2 z)] at b'
      have b2' := Sum.inl.inj b'
      subst b2'
      refine (wTr_a hE x.2.1 x.2.2 (ρ.1, ρ.2.1, x.1, some b, ρ.2.2.2.2) (ρ'.1, ρ.2.1, x.1, some b, ρ'.2.2.2.2) σ σ' σ1 ⟨rfl, rfl, rfl⟩ a hc).bd fun τ1 h1 => ?_
      rw [if_neg (fun q => q.2 (by rw [h1, z, hc])), if_neg (fun q => by cases q.1)]
      exact ⟨rfl, fun τ2 h2 => by rw [← Sum.inl.inj h2]; exact h1⟩
    · rw [if_pos ⟨rfl, z⟩] at b'; cases b'
theorem wE_a (lim : Nat) (tp : Tp) : ∀ d, EwA lim (wE true true lim tp d) (wE false true lim tp d) (wE false false lim tp d) := by
  intro d
  induction d with
  | zero => intro kd sg ln ρ ρ' σ σ' τ _ e; cases e
  | succ d ih =>
    intro kd sg ln ρ ρ' σ σ' τ hρ e hc
    unfold wE at e ⊢
    by_cases c6 : kd = 6
    · rw [if_pos c6] at e
      rw [if_pos c6, if_pos c6]
      exact wTp_a ih _ _ _ _ _ _ _ _ e hc
    rw [if_neg c6] at e
    rw [if_neg c6, if_neg c6]
    by_cases c4 : kd = 4
    · rw [if_pos c4] at e
      rw [if_pos c4, if_pos c4]
      exact wBk_a ih _ _ _ _ _ _ _ _ hρ e hc
    rw [if_neg c4] at e
    rw [if_neg c4, if_neg c4]
    rw [← hρ.2.2, ← hρ.2.1] at e
    cases hb : ρ.2.2.2.1 with
    | none => rw [hb] at e; cases e
    | some b =>
      rw [hb] at e
      exact wBk_a ih _ _ _ _ _ _ _ _ hρ e hc

/-! the class's reader: variables, expressions -/
def KE (o tp x k : Nat) : Prop := KO o x k ∨ (x = tp ∧ k = 7)
def ES (o tp : Nat) (h h' : hp) (a b : Nat) : Prop := FG (KE o tp) h h' ∧ ZH h' ∧ hN h' ≤ hN h + a ∧ hL h' ≤ hL h + b
theorem ES.tr {o tp a b c d : Nat} {h h1 h2 : hp} (x : ES o tp h h1 a b) (y : ES o tp h1 h2 c d) : ES o tp h h2 (a + c) (b + d) :=
  ⟨x.1.tr y.1, y.2.1, by have := x.2.2.1; have := y.2.2.1; omega, by have := x.2.2.2; have := y.2.2.2; omega⟩
theorem SS.es {o tp a b : Nat} {h h1 : hp} (x : SS o h h1 a b) : ES o tp h h1 a b := ⟨x.1.up fun _ _ q => .inl q, x.2.1, x.2.2.1, x.2.2.2⟩
theorem ES.rd {o tp bx a b : Nat} {h h1 : hp} {L : List Int32} (x : ES o tp h h1 a b) (R : RD h o tp bx L) : RD h1 o tp bx L :=
  R.fg (x.1.up fun _ _ q => by
    rcases q with q | q
    · exact .inl q
    · exact .inr (.inl ⟨q.1, .inr (.inr q.2)⟩))
theorem SS.tp {o tp bx a b : Nat} {h h1 : hp} {L : List Int32} (x : SS o h h1 a b) (R : RD h o tp bx L) (k : Nat) : hI h1 tp k = hI h tp k :=
  (x.1.2.2.2 tp k R.2.2.2.2.2.2.2.2.2.1.2 (fun q => R.2.2.2.2.2.2.2.2.2.2.2.1.1 q.1.symm)).1
theorem pvar_e {h : hp} {o tp bx : Nat} {L : List Int32} (R : RD h o tp bx L) (z : ZH h) (v : Int32) : ES o tp h (pI h tp 7 v) 0 0 := ⟨FG.pI (.inr ⟨rfl, rfl⟩), z.pI 7 v R.2.2.2.2.2.2.2.2.2.1.2, Nat.le_refl _, Nat.le_refl _⟩
theorem var_o {h : hp} {o tp bx p : Nat} {L : List Int32} (R : RD h o tp bx L) (z : ZH h) (r : RO h o tp L p) :
    (∃ k, k < 8 ∧ pOne L 97 8 p = .inl (k, p + 1) ∧ ∃ h', fX7_readVariable o h = some (iN k, h') ∧ ES o tp h h' 0 0 ∧ RO h' o tp L (p + 1) ∧ hI h' tp 7 = hI h tp 7 ||| bitN (iN k)) ∨
    (pOne L 97 8 p = .inr p ∧ ∃ v h', fX7_readVariable o h = some (v, h') ∧ ES o tp h h' 0 0 ∧ RG h' o p) := by
  have ne := R.2.2.2.2.2.2.2.2.2.2.2.1.1
  unfold fX7_readVariable
  rw [ckO R, Option.bind_some]
  rcases one_o R z r (lo := 97) (n := 8) (by decide) (by decide) with ⟨k, k1, s, h', e, S, r'⟩ | ⟨s, h', e, S, g'⟩
  · have R' := S.rd R
    rw [show fX7_readOneOf o 97 8 h = _ from e, bd2_s, gOR R', Option.bind_some, Option.bind_some, R'.2.2.2.1, gTp R', Option.bind_some, pTp R', Option.bind_some]
    refine .inl ⟨k, k1, s, _, rfl, S.es.tr (pvar_e R' S.2.1 _), ⟨by rw [hI_pI, if_neg (by omega)]; exact r'.1, by rw [hI_pI, if_neg (by omega)]; exact r'.2.1, by rw [hI_pI, if_neg (by omega)]; exact r'.2.2.1, r'.2.2.2⟩, ?_⟩
    rw [hI_pI, if_pos ⟨rfl, rfl⟩, S.tp R]; rfl
  · have R' := S.rd R
    rw [show fX7_readOneOf o 97 8 h = _ from e, bd2_s, gOR R', Option.bind_some, Option.bind_some, R'.2.2.2.1, gTp R', Option.bind_some, pTp R', Option.bind_some]
    exact .inr ⟨s, _, _, rfl, S.es.tr (pvar_e R' S.2.1 _), by rw [hI_pI, if_neg (by omega)]; exact g'.1, g'.2⟩
theorem var_g {h : hp} {o tp bx f : Nat} {L : List Int32} (R : RD h o tp bx L) (z : ZH h) (g : RG h o f) : ∃ v h', fX7_readVariable o h = some (v, h') ∧ ES o tp h h' 0 0 ∧ RG h' o f := by
  have ne := R.2.2.2.2.2.2.2.2.2.2.2.1.1
  unfold fX7_readVariable
  rw [ckO R, Option.bind_some]
  obtain ⟨v, h', e, S, g'⟩ := one_g R z g 97 8
  have R' := S.rd R
  rw [e, bd2_s, gOR R', Option.bind_some, Option.bind_some, R'.2.2.2.1, gTp R', Option.bind_some, pTp R', Option.bind_some]
  exact ⟨_, _, rfl, S.es.tr (pvar_e R' S.2.1 _), by rw [hI_pI, if_neg (by omega)]; exact g'.1, g'.2⟩
theorem RepV.fg {P : Nat → Nat → Prop} {h h' : hp} {lo hi lo' hi' a : Nat} {c : vT} (H : RepV h lo hi a c) (f : FG P h h') (hh : hi ≤ 64 + hN h) (hP : ∀ x k, lo ≤ x → x < hi → ¬ P x k) (h1 : lo' ≤ lo) (h2 : hi ≤ hi') : RepV h' lo' hi' a c := by
  obtain ⟨b, b1, b2, b3, b4, C, g⟩ := H
  exact ⟨b, by omega, by omega, by omega, by omega, C.fg f (by omega) (by omega) (fun k => hP _ k b1 b2) (fun k => hP _ k b3 b4), g⟩
theorem RepF.fg {P : Nat → Nat → Prop} {h h' : hp} {lo hi lo' hi' v : Nat} {fs : List (Nat × Nat)} (H : RepF h lo hi fs v) (f : FG P h h') (hh : hi ≤ 64 + hN h) (hP : ∀ x k, lo ≤ x → x < hi → ¬ P x k) (h1 : lo' ≤ lo) (h2 : hi ≤ hi') : RepF h' lo' hi' fs v :=
  RepF.wd h1 h2 fs v (RepF.fr (fun x x1 x2 => ⟨f.2.2.1 x (by omega), fun k => ⟨(f.2.2.2 x k (by omega) (hP x k x1 x2)).1, (f.2.2.2 x k (by omega) (hP x k x1 x2)).2.2⟩⟩) fs v H)
/-- an expression in the heap -/
def RepE (h : hp) (lo hi v : Nat) (e : EX) : Prop := lo ≤ v ∧ v < hi ∧ hT h v = (1, 4) ∧ e.1 ≤ 2 ∧ hI h v 0 = iN e.1 ∧ (e.1 = 1 → hI h v 1 = iN e.2.1 ∧ e.2.1 < 8) ∧ (e.1 = 0 → RepV h lo hi (hR h v 2) e.2.2.1) ∧ RepF h lo hi e.2.2.2 (hR h v 3)
theorem RepE.fg {P : Nat → Nat → Prop} {h h' : hp} {lo hi lo' hi' v : Nat} {e : EX} (H : RepE h lo hi v e) (f : FG P h h') (hh : hi ≤ 64 + hN h) (hP : ∀ x k, lo ≤ x → x < hi → ¬ P x k) (h1 : lo' ≤ lo) (h2 : hi ≤ hi') : RepE h' lo' hi' v e := by
  obtain ⟨e1, e2, e3, e4, e5, e6, e7, e8⟩ := H
  have q := fun k => f.2.2.2 v k (by omega) (hP v k e1 e2)
  refine ⟨by omega, by omega, by rw [f.2.2.1 v (by omega)]; exact e3, e4, by rw [(q 0).1]; exact e5, fun x => by rw [(q 1).1]; exact e6 x, fun x => ?_, ?_⟩
  · rw [(q 2).2.2]; exact (e7 x).fg f hh hP h1 h2
  · rw [(q 3).2.2]; exact e8.fg f hh hP h1 h2

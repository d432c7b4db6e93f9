/-! the class's reader: variables, expressions -/
def KE (o tp x k : Nat) : Prop := KO o x k ∨ (x = tp ∧ k = 7)
def ES (o tp : Nat) (h h' : hp) (a b : Nat) : Prop := FG (KE o tp) h h' ∧ ZH h' ∧ hN h' ≤ hN h + a ∧ hL h' ≤ hL h + b
theorem ES.tr {o tp a b c d : Nat} {h h1 h2 : hp} (x : ES o tp h h1 a b) (y : ES o tp h1 h2 c d) : ES o tp h h2 (a + c) (b + d) :=
  ⟨x.1.tr y.1, y.2.1, by have := x.2.2.1; have := y.2.2.1; omega, by have := x.2.2.2; have := y.2.2.2; omega⟩
theorem SS.es {o tp a b : Nat} {h h1 : hp} (x : SS o h h1 a b) : ES o tp h h1 a b := ⟨x.1.up fun _ _ q => .inl q, x.2.1, x.2.2.1, x.2.2.2⟩
theorem ES.rd {o tp bx a b : Nat} {h h1 : hp} {L : List Int32} (x : ES o tp h h1 a b) (R : RD h o tp bx L) : RD h1 o tp bx L :=
  R.fg (x.1.up fun _ _ q => by
    rcases q with q | q
    · exact .inl q
    · exact .inr (.inl ⟨q.1, .inr (.inr q.2)⟩))
theorem SS.tp {o tp bx a b : Nat} {h h1 : hp} {L : List Int32} (x : SS o h h1 a b) (R : RD h o tp bx L) (k : Nat) : hI h1 tp k = hI h tp k :=
  (x.1.2.2.2 tp k R.2.2.2.2.2.2.2.2.2.1.2 (fun q => R.2.2.2.2.2.2.2.2.2.2.2.1.1 q.1.symm)).1
theorem pvar_e {h : hp} {o tp bx : Nat} {L : List Int32} (R : RD h o tp bx L) (z : ZH h) (v : Int32) : ES o tp h (pI h tp 7 v) 0 0 := ⟨FG.pI (.inr ⟨rfl, rfl⟩), z.pI 7 v R.2.2.2.2.2.2.2.2.2.1.2, Nat.le_refl _, Nat.le_refl _⟩
theorem var_o {h : hp} {o tp bx p : Nat} {L : List Int32} (R : RD h o tp bx L) (z : ZH h) (r : RO h o tp L p) :
    (∃ k, k < 8 ∧ pOne L 97 8 p = .inl (k, p + 1) ∧ ∃ h', fX7_readVariable o h = some (iN k, h') ∧ ES o tp h h' 0 0 ∧ RO h' o tp L (p + 1) ∧ hI h' tp 7 = hI h tp 7 ||| bitN (iN k)) ∨
    (pOne L 97 8 p = .inr p ∧ ∃ v h', fX7_readVariable o h = some (v, h') ∧ ES o tp h h' 0 0 ∧ RG h' o p) := by
  have ne := R.2.2.2.2.2.2.2.2.2.2.2.1.1
  unfold fX7_readVariable
  rw [ckO R, Option.bind_some]
  rcases one_o R z r (lo := 97) (n := 8) (by decide) (by decide) with ⟨k, k1, s, h', e, S, r'⟩ | ⟨s, h', e, S, g'⟩
  · have R' := S.rd R
    rw [show fX7_readOneOf o 97 8 h = _ from e, bd2_s, gOR R', Option.bind_some, Option.bind_some, R'.2.2.2.1, gTp R', Option.bind_some, pTp R', Option.bind_some]
    refine .inl ⟨k, k1, s, _, rfl, S.es.tr (pvar_e R' S.2.1 _), ⟨by rw [hI_pI, if_neg (by omega)]; exact r'.1, by rw [hI_pI, if_neg (by omega)]; exact r'.2.1, by rw [hI_pI, if_neg (by omega)]; exact r'.2.2.1, r'.2.2.2⟩, ?_⟩
    rw [hI_pI, if_pos ⟨rfl, rfl⟩, S.tp R]; rfl
  · have R' := S.rd R
    rw [show fX7_readOneOf o 97 8 h = _ from e, bd2_s, gOR R', Option.bind_some, Option.bind_some, R'.2.2.2.1, gTp R', Option.bind_some, pTp R', Option.bind_some]
    exact .inr ⟨s, _, _, rfl, S.es.tr (pvar_e R' S.2.1 _), by rw [hI_pI, if_neg (by omega)]; exact g'.1, g'.2⟩
theorem var_g {h : hp} {o tp bx f : Nat} {L : List Int32} (R : RD h o tp bx L) (z : ZH h) (g : RG h o f) : ∃ v h', fX7_readVariable o h = some (v, h') ∧ ES o tp h h' 0 0 ∧ RG h' o f := by
  have ne := R.2.2.2.2.2.2.2.2.2.2.2.1.1
  unfold fX7_readVariable
  rw [ckO R, Option.bind_some]
  obtain ⟨v, h', e, S, g'⟩ := one_g R z g 97 8
  have R' := S.rd R
  rw [e, bd2_s, gOR R', Option.bind_some, Option.bind_some, R'.2.2.2.1, gTp R', Option.bind_some, pTp R', Option.bind_some]
  exact ⟨_, _, rfl, S.es.tr (pvar_e R' S.2.1 _), by rw [hI_pI, if_neg (by omega)]; exact g'.1, g'.2⟩
theorem RepV.fg {P : Nat → Nat → Prop} {h h' : hp} {lo hi lo' hi' a : Nat} {c : vT} (H : RepV h lo hi a c) (f : FG P h h') (hh : hi ≤ 64 + hN h) (hP : ∀ x k, lo ≤ x → x < hi → ¬ P x k) (h1 : lo' ≤ lo) (h2 : hi ≤ hi') : RepV h' lo' hi' a c := by
  obtain ⟨b, b1, b2, b3, b4, C, g⟩ := H
  exact ⟨b, by omega, by omega, by omega, by omega, C.fg f (by omega) (by omega) (fun k => hP _ k b1 b2) (fun k => hP _ k b3 b4), g⟩
theorem RepF.fg {P : Nat → Nat → Prop} {h h' : hp} {lo hi lo' hi' v : Nat} {fs : List (Nat × Nat)} (H : RepF h lo hi fs v) (f : FG P h h') (hh : hi ≤ 64 + hN h) (hP : ∀ x k, lo ≤ x → x < hi → ¬ P x k) (h1 : lo' ≤ lo) (h2 : hi ≤ hi') : RepF h' lo' hi' fs v :=
  RepF.wd h1 h2 fs v (RepF.fr (fun x x1 x2 => ⟨f.2.2.1 x (by omega), fun k => ⟨(f.2.2.2 x k (by omega) (hP x k x1 x2)).1, (f.2.2.2 x k (by omega) (hP x k x1 x2)).2.2⟩⟩) fs v H)
/-- an expression in the heap -/
def RepE (h : hp) (lo hi v : Nat) (e : EX) : Prop := lo ≤ v ∧ v < hi ∧ hT h v = (1, 4) ∧ e.1 ≤ 2 ∧ hI h v 0 = iN e.1 ∧ (e.1 = 1 → hI h v 1 = iN e.2.1 ∧ e.2.1 < 8) ∧ (e.1 = 0 → RepV h lo hi (hR h v 2) e.2.2.1) ∧ RepF h lo hi e.2.2.2 (hR h v 3)
theorem RepE.fg {P : Nat → Nat → Prop} {h h' : hp} {lo hi lo' hi' v : Nat} {e : EX} (H : RepE h lo hi v e) (f : FG P h h') (hh : hi ≤ 64 + hN h) (hP : ∀ x k, lo ≤ x → x < hi → ¬ P x k) (h1 : lo' ≤ lo) (h2 : hi ≤ hi') : RepE h' lo' hi' v e := by
  obtain ⟨e1, e2, e3, e4, e5, e6, e7, e8⟩ := H
  have q := fun k => f.2.2.2 v k (by omega) (hP v k e1 e2)
  refine ⟨by omega, by omega, by rw [f.2.2.1 v (by omega)]; exact e3, e4, by rw [(q 0).1]; exact e5, fun x => by rw [(q 1).1]; exact e6 x, fun x => ?_, ?_⟩
  · rw [(q 2).2.2]; exact (e7 x).fg f hh hP h1 h2
  · rw [(q 3).2.2]; exact e8.fg f hh hP h1 h2
def t94 (o v1 : Nat) (h : hp) : Option (Nat × hp) :=
  (gfI h o 6 4).bind fun v14 =>
  if 0 ≤ v14 then (
    some (v1, h)
  ) else (
    (ckT h o 6).bind fun _ =>
    bd2 (fX7_peek o h) fun v17 h18 =>
    if v17 = 124 then (
      (gfI h18 o 6 2).bind fun v20 =>
      (pfI h18 o 6 2 (v20 + 1)).bind fun h22 =>
      (ckT h22 o 6).bind fun _ =>
      bd2 (fX7_readFilters o h22) fun v25 h26 =>
      (pfR h26 v1 1 3 v25).bind fun h28 =>
      some (v1, h28)
    ) else (
      some (v1, h18)
    )
  )
theorem t94_g {h : hp} {o tp bx f : Nat} {L : List Int32} (R : RD h o tp bx L) (g : RG h o f) (v : Nat) : t94 o v h = some (v, h) := by
  unfold t94
  rw [gO R, Option.bind_some, if_pos g.le]
theorem t94_o {h hh : hp} {o tp bx p1 : Nat} {L : List Int32} {e : EX} (R0 : RD h o tp bx L) (F0 : FG (KE o tp) h hh) (R : RD hh o tp bx L) (z : ZH hh) (r : RO hh o tp L p1) (hN1 : 65 + hN h ≤ 64 + hN hh) (E : RepE hh (64 + hN h) (64 + hN hh) (64 + hN h) (e.1, e.2.1, e.2.2.1, [])) :
    (∃ fs p' h', (if hereL L p1 = 124 then bnd (pFils L 161 (p1 + 1)) fun fs p2 => .inl ((e.1, e.2.1, e.2.2.1, fs), p2) else .inl ((e.1, e.2.1, e.2.2.1, []), p1) : PR EX) = .inl ((e.1, e.2.1, e.2.2.1, fs), p') ∧ t94 o (64 + hN h) hh = some (64 + hN h, h') ∧ FG (KE o tp) h h' ∧ ZH h' ∧ hN h' ≤ hN hh + (p' - p1) ∧ hL h' ≤ hL hh + 3 * (p' - p1) ∧ RO h' o tp L p' ∧ p1 ≤ p' ∧ RepE h' (64 + hN h) (64 + hN h') (64 + hN h) (e.1, e.2.1, e.2.2.1, fs) ∧ hI h' tp 7 = hI hh tp 7) ∨
    (∃ f v h', (if hereL L p1 = 124 then bnd (pFils L 161 (p1 + 1)) fun fs p2 => .inl ((e.1, e.2.1, e.2.2.1, fs), p2) else .inl ((e.1, e.2.1, e.2.2.1, []), p1) : PR EX) = .inr f ∧ p1 ≤ f ∧ f ≤ 160 ∧ t94 o (64 + hN h) hh = some (v, h') ∧ FG (KE o tp) h h' ∧ ZH h' ∧ hN h' ≤ hN hh + (f - p1) ∧ hL h' ≤ hL hh + 3 * (f - p1) ∧ RG h' o f) := by
  have hl := r.lt R
  have ho := R0.2.2.2.2.2.2.2.2.1
  have htp := R0.2.2.2.2.2.2.2.2.2.1
  have ne := R0.2.2.2.2.2.2.2.2.2.2.2.1
  have hw := R0.1.2.2
  unfold t94
  rw [gO R, Option.bind_some, r.2.2.1, if_neg n0_le, ckO R, Option.bind_some, peek_p R (by omega) r.1, bd2_s]
  by_cases c : hereL L p1 = 124
  · obtain ⟨l1, l2⟩ := here_lt c (by decide)
    rw [if_pos c, if_pos c, gO R, Option.bind_some, pO R, Option.bind_some, r.1, i_succ]
    have S1 := SS.pO R z (k := 2) (iN (p1 + 1)) (by decide)
    have R1 := S1.rd R
    rw [ckO R1, Option.bind_some]
    rcases filters_o R1 S1.2.1 (r.step l1 (by rw [l2]; decide)) with ⟨fs, p', v, h2, i1, i2, i3, i4, i5, i6, i7, i8, i9⟩ | ⟨f, v, h2, i1, i2, i3, i4, i5, i6, i7, i8, i9⟩
    · have F2 : FG (KO o) hh h2 := S1.1.tr i3
      have t2 : hT h2 (64 + hN h) = (1, 4) := by rw [F2.2.2.1 _ (by omega)]; exact E.2.2.1
      have pf : pfR h2 (64 + hN h) 1 3 v = some (pR h2 (64 + hN h) 3 v) := by unfold pfR; rw [t2]; rfl
      have F2n := F2.1
      rw [i2, bd2_s, pf, Option.bind_some]
      rw [hN_pI] at i7 i9
      rw [hL_pI] at i8
      have F3 : FG (KE o tp) h (pR h2 (64 + hN h) 3 v) := fgRn (F0.tr (F2.up fun _ _ q => .inl q)) 3 v (Nat.le_refl _)
      have nE : ¬ KO o (64 + hN h) 2 ∧ ¬ KO o (64 + hN h) 0 ∧ ¬ KO o (64 + hN h) 1 := ⟨fun q => by have := q.1; omega, fun q => by have := q.1; omega, fun q => by have := q.1; omega⟩
      have E2 : RepE h2 (64 + hN h) (64 + hN hh) (64 + hN h) (e.1, e.2.1, e.2.2.1, []) := E.fg F2 (Nat.le_refl _) (fun x k h1 h2 q => by have := q.1; omega) (Nat.le_refl _) (Nat.le_refl _)
      obtain ⟨e1, e2, e3, e4, e5, e6, e7, e8⟩ := E2
      refine .inl ⟨fs, p', pR h2 (64 + hN h) 3 v, by rw [i1]; rfl, rfl, F3, i4.pR 3 v (by omega), by rw [hN_pR]; omega, by rw [hL_pR]; omega, ⟨i5.1, i5.2.1, i5.2.2.1, i5.2.2.2⟩, by omega, ⟨Nat.le_refl _, by rw [hN_pR]; omega, t2, e4, e5, e6, fun x => ?_, ?_⟩, ?_⟩
      · have b := e7 x
        have b2 : hR (pR h2 (64 + hN h) 3 v) (64 + hN h) 2 = hR h2 (64 + hN h) 2 := by rw [hR_pR, if_neg (by omega)]
        rw [b2]
        obtain ⟨y, b1, b2, b3, b4, C, g⟩ := b
        refine ⟨y, b1, by rw [hN_pR]; omega, b3, by rw [hN_pR]; omega, ?_, g⟩
        have na : hR h2 (64 + hN h) 2 ≠ 64 + hN h := fun q => by
          have t := C.1.1
          rw [q, t2] at t
          exact absurd (congrArg Prod.fst t) (by decide)
        obtain ⟨V, C'⟩ := C
        exact ⟨⟨V.1, V.2.1, by rw [hR_pR, if_neg (by omega)]; exact V.2.2.1, V.2.2.2⟩, C'⟩
      · have b2 : hR (pR h2 (64 + hN h) 3 v) (64 + hN h) 3 = v := by rw [hR_pR, if_pos ⟨rfl, rfl⟩]
        rw [b2]
        have f4 : RepF (pR h2 (64 + hN h) 3 v) (64 + hN hh) (64 + hN h2) fs v := i9.fg (P := fun x k => x = 64 + hN h ∧ k = 3) (fgR1 ⟨rfl, rfl⟩) (Nat.le_refl _) (fun x k h1 _ q => by have := q.1; omega) (Nat.le_refl _) (Nat.le_refl _)
        exact f4.wd (by omega) (by rw [hN_pR]; omega)
      · show hI h2 tp 7 = _
        have e1 := (i3.2.2.2 tp 7 (by rw [hN_pI]; exact R.2.2.2.2.2.2.2.2.2.1.2) (fun q => ne.1 q.1.symm)).1
        rw [e1, S1.tp R]
    · have F2 : FG (KO o) hh h2 := S1.1.tr i5
      have t2 : hT h2 (64 + hN h) = (1, 4) := by rw [F2.2.2.1 _ (by omega)]; exact E.2.2.1
      have pf : pfR h2 (64 + hN h) 1 3 v = some (pR h2 (64 + hN h) 3 v) := by unfold pfR; rw [t2]; rfl
      have F2n := F2.1
      rw [i4, bd2_s, pf, Option.bind_some]
      rw [hN_pI] at i7
      rw [hL_pI] at i8
      have F3 : FG (KE o tp) h (pR h2 (64 + hN h) 3 v) := fgRn (F0.tr (F2.up fun _ _ q => .inl q)) 3 v (Nat.le_refl _)
      exact .inr ⟨f, 64 + hN h, pR h2 (64 + hN h) 3 v, by rw [i1]; rfl, by omega, i3, rfl, F3, i6.pR 3 v (by omega), by rw [hN_pR]; omega, by rw [hL_pR]; omega, i9⟩
  · rw [if_neg c, if_neg c]
    exact .inl ⟨[], p1, hh, rfl, rfl, F0, z, by omega, by omega, r, Nat.le_refl _, E, rfl⟩

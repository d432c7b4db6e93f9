/-! the class's reader: a whole template -/
def KQ (o tp bx x k : Nat) : Prop := KP o tp bx x k ∨ (x = tp ∧ (k = 2 ∨ k = 3 ∨ k = 5))
def oB (b : Option Nat) : Int32 := match b with
  | none => -1
  | some k => iN k
/-- a template in the heap -/
def TO (h : hp) (lo hi T : Nat) (L : List Int32) (b : Option Nat) (t : TY 5) : Prop := 204 ≤ lo ∧ lo ≤ T ∧ T < hi ∧ hi ≤ 64 + hN h ∧ hT h T = (9, 8) ∧ (∃ bx, hR h T 1 = bx ∧ lo ≤ bx ∧ bx < hi ∧ hT h bx = (103, 4) ∧ ∀ j, j < 4 → BO h lo hi (fB (blksT 5 t) j) (hR h bx j)) ∧ hI h T 0 = iN L.length ∧ hI h T 3 = oB b ∧ hI h T 4 = iN ((if b = none then 0 else 1) + nodesT 5 t) ∧ hI h T 5 = iN (lnAt L L.length) ∧ hI h T 6 = partsT 5 t ∧ hI h T 7 = varsT 5 t ∧ RepT h lo hi 5 t (hR h T 2)
theorem BO.fx {P : Nat → Nat → Prop} {h h' : hp} {lo hi x : Nat} {b : Option (Int32 × Nat × (Σ q : Nat, TY q))} (H : BO h lo hi b x) (f : FG P h h') (hh : hi ≤ 64 + hN h) (hP : ∀ y k, lo ≤ y → y < hi → ¬ P y k) : BO h' lo hi b x := H.fg f hh (fun y k a c q => (hP y k a c q).elim) (Nat.le_refl _) (Nat.le_refl _)
theorem TO.fg {P : Nat → Nat → Prop} {h h' : hp} {lo hi T : Nat} {L : List Int32} {b : Option Nat} {t : TY 5} (H : TO h lo hi T L b t) (f : FG P h h') (hP : ∀ x k, lo ≤ x → x < hi → ¬ P x k) : TO h' lo hi T L b t := by
  obtain ⟨a1, a2, a3, a4, a5, ⟨bx, c1, c2, c3, c4, c5⟩, a6, a7, a8, a9, a10, a11, a12⟩ := H
  have e := fun k => f.2.2.2 T k (by omega) (hP T k a2 a3)
  have eb := fun k => f.2.2.2 bx k (by omega) (hP bx k c2 c3)
  have f1 := f.1
  refine ⟨a1, a2, a3, by omega, by rw [f.2.2.1 T (by omega)]; exact a5, ⟨bx, by rw [(e 1).2.2]; exact c1, c2, c3, by rw [f.2.2.1 bx (by omega)]; exact c4, fun j hj => ?_⟩, by rw [(e 0).1]; exact a6, by rw [(e 3).1]; exact a7, by rw [(e 4).1]; exact a8, by rw [(e 5).1]; exact a9, by rw [(e 6).1]; exact a10, by rw [(e 7).1]; exact a11, ?_⟩
  · rw [(eb j).2.2]; exact (c5 j hj).fx f a4 hP
  · rw [(e 2).2.2]; exact RepT.fg f a4 hP (Nat.le_refl _) (Nat.le_refl _) _ _ _ a12
def kR60 (o : Nat) (h60j : hp) : Option (Nat × hp) :=
  (gfR h60j o 6 1).bind fun v7 =>
  (ckT h60j o 6).bind fun _ =>
  bd2 (fX7_readAll o 0 0 0 h60j) fun v10 h11 =>
  (pfR h11 v7 9 2 v10).bind fun h13 =>
  (gfR h13 o 6 1).bind fun v15 =>
  (gfI h13 o 6 3).bind fun v17 =>
  (pfI h13 v15 9 5 v17).bind fun h19 =>
  (gfI h19 o 6 4).bind fun v21 =>
  if 0 ≤ v21 then (
    some (0, h19)
  ) else (
    (gfR h19 o 6 1).bind fun v23 =>
    some (v23, h19)
  )
theorem KQ.rd {h h' : hp} {o tp bx : Nat} {L : List Int32} (R : RD h o tp bx L) (f : FG (KQ o tp bx) h h') : RD h' o tp bx L := R.fgP f fun x k q => by
  have := R.2.2.2.2.2.2.2.2.1
  have := R.2.2.2.2.2.2.2.2.2.1
  have := R.2.2.2.2.2.2.2.2.2.2.1
  have := R.2.2.2.2.2.2.2.2.2.2.2.1
  unfold KQ KP at q
  omega
theorem k60_g {h : hp} {o tp bx f : Nat} {L : List Int32} (R : RD h o tp bx L) (z : ZH h) (g : RG h o f) : ∃ h', kR60 o h = some (0, h') ∧ FG (KQ o tp bx) h h' ∧ ZH h' ∧ hN h' ≤ hN h ∧ hL h' ≤ hL h ∧ hI h' o 4 = iN f := by
  have ne := R.2.2.2.2.2.2.2.2.2.2.2.1
  have htp := R.2.2.2.2.2.2.2.2.2.1
  obtain ⟨h1, e1, S1, g1⟩ := all_g R z g 119 0 0 0
  have R1 := S1.rd R
  have p1 : pfR h1 tp 9 2 0 = some (pR h1 tp 2 0) := by unfold pfR; rw [R1.2.2.2.2.1]; rfl
  have n1 := S1.1.1
  have F2 : FG (KQ o tp bx) h (pR h1 tp 2 0) := (S1.1.up fun _ _ q => .inl (.inl q)).tr (fgR1 (.inr ⟨rfl, .inl rfl⟩))
  have R2 := KQ.rd R F2
  have F3 := F2.tr (FG.pI (P := KQ o tp bx) (h := pR h1 tp 2 0) (a := tp) (k := 5) (v := hI (pR h1 tp 2 0) o 3) (.inr ⟨rfl, .inr (.inr rfl)⟩))
  have R3 := KQ.rd R F3
  have g3 : 0 ≤ hI (pI (pR h1 tp 2 0) tp 5 (hI (pR h1 tp 2 0) o 3)) o 4 := by
    rw [hI_pI, if_neg (by omega)]; exact g1.le
  refine ⟨pI (pR h1 tp 2 0) tp 5 (hI (pR h1 tp 2 0) o 3), ?_, F3, (S1.2.1.pR 2 0 (by omega)).pI 5 _ (by rw [hN_pR]; omega), S1.2.2.1, S1.2.2.2, by rw [hI_pI, if_neg (by omega)]; exact g1.1⟩
  unfold kR60
  rw [gOR R, Option.bind_some, ckO R, Option.bind_some, show fX7_readAll o 0 0 0 h = some (0, h1) from e1, bd2_s, R.2.2.2.1, p1, Option.bind_some, gOR R2, Option.bind_some, gO R2, Option.bind_some, R2.2.2.2.1, pTp R2, Option.bind_some, gO R3, Option.bind_some, if_pos g3]
theorem k60_o {h : hp} {o tp bx p lo : Nat} {L : List Int32} {b : Option Nat} (R : RD h o tp bx L) (z : ZH h) (r : RO h o tp L p) (i0 : hI h tp 0 = iN L.length) (i3 : hI h tp 3 = oB b) (i4 : hI h tp 4 = iN (if b = none then 0 else 1)) (i6 : hI h tp 6 = 0) (i7 : hI h tp 7 = 0) (b0 : ∀ j, hR h bx j = 0) (hlo : 204 ≤ lo ∧ lo ≤ tp ∧ lo ≤ bx) :
    (∃ t p' h', pAll L 161 5 false false p = .inl (t, p') ∧ kR60 o h = some (tp, h') ∧ FG (KQ o tp bx) h h' ∧ ZH h' ∧ hN h' ≤ hN h + 960 ∧ hL h' ≤ hL h + 9600 ∧ (p' = L.length → TO h' lo (64 + hN h') tp L b t.1)) ∨
    (∃ f h', pAll L 161 5 false false p = .inr f ∧ f ≤ 160 ∧ kR60 o h = some (0, h') ∧ FG (KQ o tp bx) h h' ∧ ZH h' ∧ hN h' ≤ hN h + 980 ∧ hL h' ≤ hL h + 9800 ∧ hI h' o 4 = iN f) := by
  have ho := R.2.2.2.2.2.2.2.2.1
  have htp := R.2.2.2.2.2.2.2.2.2.1
  have hbx := R.2.2.2.2.2.2.2.2.2.2.1
  have ne := R.2.2.2.2.2.2.2.2.2.2.2.1
  have hlen := R.len
  have hl := r.lt R
  -- behind the pieces
  have st : ∀ v h1, fX7_readAll o 0 0 0 h = some (v, h1) → FG (KP o tp bx) h h1 → ZH h1 → kR60 o h = (if 0 ≤ hI h1 o 4 then some (0, pI (pR h1 tp 2 v) tp 5 (hI h1 o 3)) else some (tp, pI (pR h1 tp 2 v) tp 5 (hI h1 o 3))) ∧ FG (KQ o tp bx) h (pI (pR h1 tp 2 v) tp 5 (hI h1 o 3)) ∧ ZH (pI (pR h1 tp 2 v) tp 5 (hI h1 o 3)) := by
    intro v h1 e1 f1 z1
    have R1 := R.fg f1
    have n1 := f1.1
    have p1 : pfR h1 tp 9 2 v = some (pR h1 tp 2 v) := by unfold pfR; rw [R1.2.2.2.2.1]; rfl
    have F2 : FG (KQ o tp bx) h (pR h1 tp 2 v) := (f1.up fun _ _ q => .inl q).tr (fgR1 (.inr ⟨rfl, .inl rfl⟩))
    have R2 := KQ.rd R F2
    have F3 := F2.tr (FG.pI (P := KQ o tp bx) (h := pR h1 tp 2 v) (a := tp) (k := 5) (v := hI (pR h1 tp 2 v) o 3) (.inr ⟨rfl, .inr (.inr rfl)⟩))
    have R3 := KQ.rd R F3
    have e4 : hI (pI (pR h1 tp 2 v) tp 5 (hI (pR h1 tp 2 v) o 3)) o 4 = hI h1 o 4 := by rw [hI_pI, if_neg (by omega)]; rfl
    refine ⟨?_, F3, (z1.pR 2 v (by omega)).pI 5 _ (by rw [hN_pR]; omega)⟩
    unfold kR60
    rw [gOR R, Option.bind_some, ckO R, Option.bind_some, e1, bd2_s, R.2.2.2.1, p1, Option.bind_some, gOR R2, Option.bind_some, gO R2, Option.bind_some, R2.2.2.2.1, pTp R2, Option.bind_some, gO R3, Option.bind_some, e4]
    by_cases c : 0 ≤ hI h1 o 4
    · rw [if_pos c, if_pos c]; rfl
    · rw [if_neg c, if_neg c, gOR R3, Option.bind_some, R3.2.2.2.1]; rfl
  rcases all_o 161 4 118 false false h p (by decide) (by decide) R z r (by omega) with ⟨t, tn, p', h1, v, s, e, Q, r', hq, T, _, K⟩ | ⟨f, h1, v, s, q1, q2, e, Q, g⟩
  · obtain ⟨k1, k2, k3⟩ := st v h1 e Q.1 Q.2.1
    rw [r'.2.2.1, if_neg n0_le] at k1
    have i1 := Q.1.1
    have hp2 := r'.2.2.2
    refine .inl ⟨(t, tn), p', _, s, k1, k2, k3, by rw [hN_pI, hN_pR]; have := Q.2.2.1; omega, by rw [hL_pI, hL_pR]; have := Q.2.2.2; omega, fun he => ?_⟩
    obtain ⟨c1, c2, c3, c4⟩ := K
    have R1 := R.fg Q.1
    have tpe : ∀ k, k ≠ 5 → hI (pI (pR h1 tp 2 v) tp 5 (hI h1 o 3)) tp k = hI h1 tp k := fun k hk => by rw [hI_pI, if_neg (fun q => hk q.2)]; rfl
    have old : ∀ k, k ≠ 4 → k ≠ 6 → k ≠ 7 → hI h1 tp k = hI h tp k := fun k a1 a2 a3 => (Q.1.2.2.2 tp k htp.2 (fun q => by unfold KP at q; omega)).1
    have FF : FG (fun x _ => x = tp) h1 (pI (pR h1 tp 2 v) tp 5 (hI h1 o 3)) := (fgR1 (P := fun x _ => x = tp) rfl).tr (FG.pI rfl)
    refine ⟨hlo.1, hlo.2.1, by rw [hN_pI, hN_pR]; omega, Nat.le_refl _, R1.2.2.2.2.1, ⟨bx, ?_, hlo.2.2, by rw [hN_pI, hN_pR]; omega, R1.2.2.2.2.2.2.1, fun j hj => ?_⟩, by rw [tpe 0 (by decide), old 0 (by decide) (by decide) (by decide)]; exact i0, by rw [tpe 3 (by decide), old 3 (by decide) (by decide) (by decide)]; exact i3, by rw [tpe 4 (by decide), c1, i4, i_add], ?_, by rw [tpe 6 (by decide), c3, i6, Int32.zero_or], by rw [tpe 7 (by decide), c2, i7, Int32.zero_or], ?_⟩
    · rw [hR_pI, hR_pR, if_neg (by omega)]; exact R1.2.2.2.2.2.1
    · rw [hR_pI, hR_pR, if_neg (by omega), hN_pI, hN_pR]
      exact ((c4 j hj).2 (b0 j)).fg FF (Nat.le_refl _) (fun y k a c q => by omega) (by omega) (Nat.le_refl _)
    · rw [hI_pI, if_pos ⟨rfl, rfl⟩, r'.2.1, he]
    · rw [hR_pI, hR_pR, if_pos ⟨rfl, rfl⟩, hN_pI, hN_pR]
      exact RepT.fg FF (Nat.le_refl _) (fun x k a c q => by omega) (by omega) (Nat.le_refl _) _ _ _ T
  · obtain ⟨k1, k2, k3⟩ := st v h1 e Q.1 Q.2.1
    rw [if_pos g.le] at k1
    exact .inr ⟨f, _, s, q2, k1, k2, k3, by rw [hN_pI, hN_pR]; have := Q.2.2.1; omega, by rw [hL_pI, hL_pR]; have := Q.2.2.2; omega, by rw [hI_pI, if_neg (by omega)]; exact g.1⟩
theorem tmpl_o {h : hp} {o tp bx lo : Nat} {L : List Int32} (R : RD h o tp bx L) (z : ZH h) (r : RO h o tp L 0) (i0 : hI h tp 0 = iN L.length) (i3 : hI h tp 3 = -1) (i4 : hI h tp 4 = 0) (i6 : hI h tp 6 = 0) (i7 : hI h tp 7 = 0) (b0 : ∀ j, hR h bx j = 0) (hlo : 204 ≤ lo ∧ lo ≤ tp ∧ lo ≤ bx) :
    (∃ b t h', pTop L = .inl ((b, t), L.length) ∧ fX7_readTemplate o h = some (tp, h') ∧ FG (KQ o tp bx) h h' ∧ ZH h' ∧ hN h' ≤ hN h + 960 ∧ hL h' ≤ hL h + 9600 ∧ TO h' lo (64 + hN h') tp L b t) ∨
    (∃ f h', pTop L = .inr f ∧ f ≤ 160 ∧ fX7_readTemplate o h = some (0, h') ∧ FG (KQ o tp bx) h h' ∧ ZH h' ∧ hN h' ≤ hN h + 980 ∧ hL h' ≤ hL h + 9800 ∧ hI h' o 4 = iN f) := by
  have ho := R.2.2.2.2.2.2.2.2.1
  have htp := R.2.2.2.2.2.2.2.2.2.1
  have hbx := R.2.2.2.2.2.2.2.2.2.2.1
  have ne := R.2.2.2.2.2.2.2.2.2.2.2.1
  have N := R.2.2.2.2.2.2.2.1
  have hlen := R.len
  have st : fX7_readTemplate o h = if hereL L 0 = 123 then (if hereL L 1 = 60 then ((pfI h o 6 2 2).bind fun h31 => (gfR h31 o 6 1).bind fun v33 => (pfI h31 v33 9 4 1).bind fun h35 => (gfR h35 o 6 1).bind fun v37 => (ckT h35 o 6).bind fun _ => bd2 (fX7_readOneOf o 48 6 h35) fun v40 h41 => (pfI h41 v37 9 3 v40).bind fun h43 => (ckT h43 o 6).bind fun _ => (fX7_expect o 125 h43).bind fun h46 => kR60 o h46) else kR60 o h) else kR60 o h := by
    unfold fX7_readTemplate
    rw [gOR R, Option.bind_some, R.2.2.1, ckN N.1, Option.bind_some, show fX5_at 128 0 h = _ from at_t (q := 0) R (by decide), bd2_s]
    simp only [jn_e]
    by_cases c : hereL L 0 = 123
    · rw [if_pos c, if_pos c, gOR R, Option.bind_some, R.2.2.1, ckN N.1, Option.bind_some, show fX5_at 128 1 h = _ from at_t (q := 1) R (by decide), bd2_s]
      rfl
    · rw [if_neg c, if_neg c]; rfl
  by_cases c : hereL L 0 = 123 ∧ hereL L 1 = 60
  · obtain ⟨l1, l2⟩ := here_lt c.1 (by decide)
    obtain ⟨l3, l4⟩ := here_lt c.2 (by decide)
    have S1 := SS.pO R z (k := 2) 2 (by decide)
    have R1 := S1.rd R
    have F2 : FG (KQ o tp bx) h (pI (pI h o 2 2) tp 4 1) := (S1.1.up fun _ _ q => .inl (.inl q)).tr (FG.pI (.inl (.inr (.inl ⟨rfl, .inl rfl⟩))))
    have R2 := KQ.rd R F2
    have z2 : ZH (pI (pI h o 2 2) tp 4 1) := S1.2.1.pI 4 1 (by rw [hN_pI]; omega)
    have r2 : RO (pI (pI h o 2 2) tp 4 1) o tp L 2 := ⟨by rw [hI_pI, if_neg (by omega), hI_pI, if_pos ⟨rfl, rfl⟩]; rfl, by rw [hI_pI, if_neg (by omega), hI_pI, if_neg (by omega), ln_same (p := 1) (by rw [l4]; decide), ln_same (p := 0) (by rw [l2]; decide)]; exact r.2.1, by rw [hI_pI, if_neg (by omega), hI_pI, if_neg (by omega)]; exact r.2.2.1, by omega⟩
    rw [if_pos c.1, if_pos c.2, pO R, Option.bind_some, gOR R1, Option.bind_some, R1.2.2.2.1, pTp R1, Option.bind_some, gOR R2, Option.bind_some, R2.2.2.2.1, ckO R2, Option.bind_some] at st
    rw [pTop, if_pos c]
    have tp1 : ∀ k, k ≠ 4 → hI (pI (pI h o 2 2) tp 4 1) tp k = hI h tp k := fun k hk => by rw [hI_pI, if_neg (fun q => hk q.2), hI_pI, if_neg (by omega)]
    rcases one_o R2 z2 r2 (lo := 48) (n := 6) (by decide) (by decide) with ⟨k, k1, s3, h3, e3, S3, r3⟩ | ⟨s3, h3, e3, S3, g3⟩
    · have R3 := S3.rd R2
      have n3 := S3.1.1
      simp only [hN_pI] at n3
      have F4 : FG (KQ o tp bx) h (pI h3 tp 3 (iN k)) := (F2.tr (S3.1.up fun _ _ q => .inl (.inl q))).tr (FG.pI (.inr ⟨rfl, .inr (.inl rfl)⟩))
      have R4 := KQ.rd R F4
      have z4 : ZH (pI h3 tp 3 (iN k)) := S3.2.1.pI 3 _ (by omega)
      have r4 : RO (pI h3 tp 3 (iN k)) o tp L 3 := r3.nE _ (by omega)
      rw [show fX7_readOneOf o 48 6 _ = _ from e3, bd2_s, pTp R3, Option.bind_some, ckO R4, Option.bind_some] at st
      rw [s3, bnd_l]
      rcases sign_o R4 z4 r4 (c := 125) (by decide) with ⟨s5, h5, e5, S5, r5⟩ | ⟨s5, h5, e5, S5, g5⟩
      · have R5 := S5.rd R4
        have F5 : FG (KQ o tp bx) h h5 := F4.tr (S5.1.up fun _ _ q => .inl (.inl q))
        rw [e5, Option.bind_some] at st
        rw [s5, bnd_l]
        have tp5 : ∀ j, hI h5 tp j = if j = 3 then iN k else if j = 4 then 1 else hI h tp j := fun j => by
          rw [S5.tp R4, hI_pI]
          by_cases cj : j = 3
          · rw [if_pos ⟨rfl, cj⟩, if_pos cj]
          · rw [if_neg (fun q => cj q.2), if_neg cj, S3.tp R2]
            by_cases c4 : j = 4
            · rw [if_pos c4, c4, hI_pI, if_pos ⟨rfl, rfl⟩]
            · rw [if_neg c4, tp1 j c4]
        have n5 : hN h5 = hN h ∧ hL h5 = hL h := by
          have a1 := S5.1.1
          have a2 := S5.2.2.1
          have a3 := S5.1.2.1
          have a4 := S5.2.2.2
          have a5 := S3.2.2.1
          have a6 := S3.1.2.1
          have a7 := S3.2.2.2
          simp only [hN_pI, hL_pI] at a1 a2 a3 a4 a5 a6 a7
          omega
        have bx5 : ∀ j, hR h5 bx j = 0 := fun j => by
          rw [(S5.1.2.2.2 bx j (by rw [hN_pI]; omega) (fun q => ne.2.1 q.1.symm)).2.2, hR_pI, (S3.1.2.2.2 bx j (by simp only [hN_pI]; omega) (fun q => ne.2.1 q.1.symm)).2.2]
          exact b0 j
        rcases k60_o (b := some k) R5 S5.2.1 r5 (by rw [tp5]; exact i0) (by rw [tp5]; rfl) (by rw [tp5]; rfl) (by rw [tp5]; exact i6) (by rw [tp5]; exact i7) bx5 hlo with ⟨t, p', h', u1, u2, u3, u4, u5, u6, u7⟩ | ⟨f, h', u1, u2, u3, u4, u5, u6, u7, u8⟩
        · have tt : pTop L = .inl ((some k, t.1), p') := by rw [pTop, if_pos c, s3, bnd_l, s5, bnd_l, u1]; rfl
          have pe := (top_i tt).1
          exact .inl ⟨some k, t.1, h', by rw [u1, ← pe]; rfl, st.trans u2, F5.tr u3, u4, by omega, by omega, u7 pe⟩
        · exact .inr ⟨f, h', by rw [u1]; rfl, u2, st.trans u3, F5.tr u4, u5, by omega, by omega, u8⟩
      · have R5 := S5.rd R4
        have F5 : FG (KQ o tp bx) h h5 := F4.tr (S5.1.up fun _ _ q => .inl (.inl q))
        rw [e5, Option.bind_some] at st
        obtain ⟨h', u1, u2, u3, u4, u5, u6⟩ := k60_g R5 S5.2.1 g5
        have a2 := S5.2.2.1
        have a4 := S5.2.2.2
        have a5 := S3.2.2.1
        have a7 := S3.2.2.2
        simp only [hN_pI, hL_pI] at a2 a4 a5 a7
        exact .inr ⟨3, h', by rw [s5]; rfl, by decide, st.trans u1, F5.tr u2, u3, by omega, by omega, u6⟩
    · have R3 := S3.rd R2
      have n3 := S3.1.1
      simp only [hN_pI] at n3
      have F4 : FG (KQ o tp bx) h (pI h3 tp 3 0) := (F2.tr (S3.1.up fun _ _ q => .inl (.inl q))).tr (FG.pI (.inr ⟨rfl, .inr (.inl rfl)⟩))
      have R4 := KQ.rd R F4
      have z4 : ZH (pI h3 tp 3 0) := S3.2.1.pI 3 _ (by omega)
      rw [show fX7_readOneOf o 48 6 _ = _ from e3, bd2_s, pTp R3, Option.bind_some, ckO R4, Option.bind_some] at st
      obtain ⟨h5, e5, S5, g5⟩ := sign_g R4 z4 (g3.nE (a := tp) (k := 3) 0 (by omega)) 125
      have R5 := S5.rd R4
      have F5 : FG (KQ o tp bx) h h5 := F4.tr (S5.1.up fun _ _ q => .inl (.inl q))
      rw [e5, Option.bind_some] at st
      obtain ⟨h', u1, u2, u3, u4, u5, u6⟩ := k60_g R5 S5.2.1 g5
      have a2 := S5.2.2.1
      have a4 := S5.2.2.2
      have a5 := S3.2.2.1
      have a7 := S3.2.2.2
      simp only [hN_pI, hL_pI] at a2 a4 a5 a7
      exact .inr ⟨2, h', by rw [s3]; rfl, by decide, st.trans u1, F5.tr u2, u3, by omega, by omega, u6⟩
  · have st2 : fX7_readTemplate o h = kR60 o h := by
      rw [st]
      by_cases c1 : hereL L 0 = 123
      · rw [if_pos c1, if_neg (fun q => c ⟨c1, q⟩)]
      · rw [if_neg c1]
    rw [pTop, if_neg c]
    rcases k60_o (b := none) R z r i0 i3 (by rw [if_pos rfl]; exact i4) i6 i7 b0 hlo with ⟨t, p', h', u1, u2, u3, u4, u5, u6, u7⟩ | ⟨f, h', u1, u2, u3, u4, u5, u6, u7, u8⟩
    · have tt : pTop L = .inl ((none, t.1), p') := by rw [pTop, if_neg c, u1]; rfl
      have pe := (top_i tt).1
      exact .inl ⟨none, t.1, h', by rw [u1, ← pe]; rfl, st2.trans u2, u3, u4, u5, u6, u7 pe⟩
    · exact .inr ⟨f, h', by rw [u1]; rfl, u2, st2.trans u3, u4, u5, u6, u7, u8⟩

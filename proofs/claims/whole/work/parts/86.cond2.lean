/-! the class's reader: a whole condition -/
def c88 {α : Type} (o V : Nat) (K : hp → Option α) (h75j : hp) : Option α :=
  (ckT h75j o 6).bind fun _ =>
  bd2 (fX7_peek o h75j) fun v35 h36 =>
  if v35 = 60 then c90 o V 2 K h36 else c90 o V 3 K h36
def c87 {α : Type} (o V : Nat) (K : hp → Option α) (h42j : hp) : Option α :=
  (ckT h42j o 6).bind fun _ =>
  bd2 (fX7_readExpression o h42j) fun v17 h18 =>
  (pfR h18 V 5 4 v17).bind fun h20 =>
  (gfI h20 V 5 3).bind fun v22 =>
  if v22 = 0 then (
    (ckT h20 o 6).bind fun _ =>
    bd2 (fX7_peek o h20) fun v31 h32 =>
    if v31 = 60 then c88 o V K h32 else (
      (ckT h32 o 6).bind fun _ =>
      bd2 (fX7_peek o h32) fun v51 h52 =>
      if v51 = 61 then c88 o V K h52 else K h52)
  ) else K h20
def c86 {α : Type} (o V : Nat) (K : hp → Option α) (h10 : hp) : Option α :=
  (ckT h10 o 6).bind fun _ =>
  bd2 (fX7_peek o h10) fun v13 h14 =>
  if v13 = 33 then (
    (pfI h14 V 5 3 1).bind fun h54 =>
    (gfI h54 o 6 2).bind fun v56 =>
    (pfI h54 o 6 2 (v56 + 1)).bind fun h58 =>
    c87 o V K h58
  ) else c87 o V K h14
def LV (h : hp) (V : Nat) : Prop := hT h V = (5, 9) ∧ V < 64 + hN h
theorem VF.lv {h : hp} {V : Nat} {k ln v q : Int32} {rr : Nat → Nat} (H : VF h V k ln v q rr) : LV h V := ⟨H.1, H.2.2.2⟩
theorem VF.gq {h : hp} {V : Nat} {k ln v q : Int32} {rr : Nat → Nat} (H : VF h V k ln v q rr) : gfI h V 5 3 = some q := by
  unfold gfI
  rw [H.1, if_pos rfl, H.2.1 3, if_neg (by decide), if_neg (by decide), if_neg (by decide), if_pos rfl]
theorem c88_g {α : Type} {h0 h : hp} {o tp bx V a b f : Nat} {L : List Int32} {k ln v : Int32} {rr : Nat → Nat} (K : hp → Option α) (R : RD h0 o tp bx L) (E : ES o tp h0 h a b) (hV : 64 + hN h0 ≤ V) (W : VF h V k ln v 0 rr) (g : RG h o f) : ∃ h', c88 o V K h = K h' ∧ ES o tp h0 h' (a + 5) (b + 43) ∧ RG h' o f ∧ LV h' V := by
  unfold c88
  rw [ckO (E.rd R), Option.bind_some, peek_e (E.rd R), bd2_s]
  by_cases c : hv L (hI h o 2) = 60
  · rw [if_pos c]
    obtain ⟨h', e, E', g', rr', W'⟩ := c90_g (s := 2) K R E hV W g
    exact ⟨h', e, E', g', W'.lv⟩
  · rw [if_neg c]
    obtain ⟨h', e, E', g', rr', W'⟩ := c90_g (s := 3) K R E hV W g
    exact ⟨h', e, E', g', W'.lv⟩
theorem c87_t {α : Type} {h0 h : hp} {o tp bx V a b f : Nat} {L : List Int32} {k ln v q : Int32} {rr : Nat → Nat} (K : hp → Option α) (R : RD h0 o tp bx L) (E : ES o tp h0 h a b) (hV : 64 + hN h0 ≤ V) (W : VF h V k ln v q rr) (g : RG h o f) : ∃ h', (if q = 0 then (
    (ckT h o 6).bind fun _ =>
    bd2 (fX7_peek o h) fun v31 h32 =>
    if v31 = 60 then c88 o V K h32 else (
      (ckT h32 o 6).bind fun _ =>
      bd2 (fX7_peek o h32) fun v51 h52 =>
      if v51 = 61 then c88 o V K h52 else K h52)
  ) else K h) = K h' ∧ ES o tp h0 h' (a + 5) (b + 43) ∧ RG h' o f ∧ LV h' V := by
  have E5 : ES o tp h0 h (a + 5) (b + 43) := ⟨E.1, E.2.1, by have := E.2.2.1; omega, by have := E.2.2.2; omega⟩
  by_cases c : q = 0
  · subst c
    rw [if_pos rfl, ckO (E.rd R), Option.bind_some, peek_e (E.rd R), bd2_s]
    by_cases c1 : hv L (hI h o 2) = 60
    · rw [if_pos c1]; exact c88_g K R E hV W g
    · rw [if_neg c1, ckO (E.rd R), Option.bind_some, peek_e (E.rd R), bd2_s]
      by_cases c2 : hv L (hI h o 2) = 61
      · rw [if_pos c2]; exact c88_g K R E hV W g
      · rw [if_neg c2]; exact ⟨h, rfl, E5, g, W.lv⟩
  · rw [if_neg c]; exact ⟨h, rfl, E5, g, W.lv⟩
theorem c87_g {α : Type} {h0 h : hp} {o tp bx V a b f : Nat} {L : List Int32} {k ln v q : Int32} {rr : Nat → Nat} (K : hp → Option α) (R : RD h0 o tp bx L) (E : ES o tp h0 h a b) (hV : 64 + hN h0 ≤ V) (W : VF h V k ln v q rr) (g : RG h o f) : ∃ h', c87 o V K h = K h' ∧ ES o tp h0 h' (a + 10) (b + 86) ∧ RG h' o f ∧ LV h' V := by
  have nV : ∀ j, ¬ KE o tp V j := ke_old R hV
  obtain ⟨x, h1, e1, E1, g1⟩ := expr_g (E.rd R) E.2.1 g
  have E2 := E.tr E1
  have W1 := W.fg E1.1 nV
  obtain ⟨p2, W2⟩ := W1.r 4 x
  have E3 := (es_v E2 hV W1.2.2.2).2 4 x
  unfold c87
  rw [ckO (E.rd R), Option.bind_some, e1, bd2_s, p2, Option.bind_some, W2.gq, Option.bind_some]
  exact c87_t K R E3 hV W2 g1
theorem c86_g {α : Type} {h0 h : hp} {o tp bx V a b f : Nat} {L : List Int32} {k ln v : Int32} {rr : Nat → Nat} (K : hp → Option α) (R : RD h0 o tp bx L) (E : ES o tp h0 h a b) (hV : 64 + hN h0 ≤ V) (W : VF h V k ln v 0 rr) (g : RG h o f) : ∃ h', c86 o V K h = K h' ∧ ES o tp h0 h' (a + 10) (b + 86) ∧ RG h' o f ∧ LV h' V := by
  have nV : ∀ j, ¬ KE o tp V j := ke_old R hV
  have ho := R.2.2.2.2.2.2.2.2.1
  unfold c86
  rw [ckO (E.rd R), Option.bind_some, peek_e (E.rd R), bd2_s]
  by_cases c : hv L (hI h o 2) = 33
  · obtain ⟨p1, W1⟩ := W.op 1
    have E1 := (es_v E hV W.2.2.2).1 3 1
    have R1 := E1.rd R
    have S2 := SS.pO R1 E1.2.1 (k := 2) (hI (pI h V 3 1) o 2 + 1) (by decide)
    have E2 := E1.tr (S2.es (tp := tp))
    have W2 := W1.fg (S2.es (tp := tp)).1 nV
    rw [if_pos c, p1, Option.bind_some, gO R1, Option.bind_some, pO R1, Option.bind_some]
    exact c87_g K R E2 hV W2 ((g.nE (a := V) (k := 3) 1 (by omega)).pO _ (by decide))
  · rw [if_neg c]
    exact c87_g K R E hV W g
/-- what is behind a condition's first expression, by its sort so far -/
def pC2 (L : List Int32) (s : Nat) (e : EX) (p1 : Nat) : PR (Nat × EX × EX) :=
  if s = 0 then (
    if hereL L p1 = 60 then bnd (pExpr L (p1 + 1)) fun e2 p2 => .inl ((2, e, e2), p2)
    else if hereL L p1 = 61 then bnd (pExpr L (p1 + 1)) fun e2 p2 => .inl ((3, e, e2), p2)
    else .inl ((0, e, eN), p1))
  else .inl ((s, e, eN), p1)
theorem pCond_e (L : List Int32) (p : Nat) : pCond L p = if hereL L p = 33 then bnd (pExpr L (p + 1)) fun e p1 => pC2 L 1 e p1 else bnd (pExpr L p) fun e p1 => pC2 L 0 e p1 := rfl
theorem c87_o {α : Type} {h0 h : hp} {o tp bx V a b p s : Nat} {L : List Int32} {ln : Int32} (K : hp → Option α) (R : RD h0 o tp bx L) (E : ES o tp h0 h a b) (hV : 64 + hN h0 ≤ V) (hs : s ≤ 1) (W : VF h V 2 ln 0 (iN s) fun _ => 0) (r : RO h o tp L p) :
    (∃ s' e1 e2 p' h' rr, (bnd (pExpr L p) fun e p1 => pC2 L s e p1) = .inl ((s', e1, e2), p') ∧ c87 o V K h = K h' ∧ ES o tp h0 h' (a + 6 * (p' - p)) (b + 60 * (p' - p)) ∧ RO h' o tp L p' ∧ p < p' ∧ s' ≤ 3 ∧ VF h' V 2 ln 0 (iN s') rr ∧ (rr 6 = 0 ∧ rr 7 = 0 ∧ rr 8 = 0) ∧ RepE h' (V + 1) (64 + hN h') (rr 4) e1 ∧ (2 ≤ s' → RepE h' (V + 1) (64 + hN h') (rr 5) e2) ∧ hI h' tp 7 = hI h tp 7 ||| varsE e1 ||| varsE e2) ∨
    (∃ f h', (bnd (pExpr L p) fun e p1 => pC2 L s e p1) = .inr f ∧ p ≤ f ∧ f ≤ 160 ∧ c87 o V K h = K h' ∧ ES o tp h0 h' (a + 10 + (f - p)) (b + 86 + 3 * (f - p)) ∧ RG h' o f ∧ LV h' V) := by
  have nV : ∀ j, ¬ KE o tp V j := ke_old R hV
  have ho := R.2.2.2.2.2.2.2.2.1
  have htp := R.2.2.2.2.2.2.2.2.2.1
  have Vl := W.2.2.2
  have Rh := E.rd R
  have hl := r.lt Rh
  have st : ∀ x h1, fX7_readExpression o h = some (x, h1) → VF h1 V 2 ln 0 (iN s) (fun _ => 0) → RD h1 o tp bx L → c87 o V K h = (if iN s = 0 then (
      (ckT (pR h1 V 4 x) o 6).bind fun _ =>
      bd2 (fX7_peek o (pR h1 V 4 x)) fun v31 h32 =>
      if v31 = 60 then c88 o V K h32 else (
        (ckT h32 o 6).bind fun _ =>
        bd2 (fX7_peek o h32) fun v51 h52 =>
        if v51 = 61 then c88 o V K h52 else K h52)
    ) else K (pR h1 V 4 x)) := by
    intro x h1 e1 W1 R1
    unfold c87
    rw [ckO Rh, Option.bind_some, e1, bd2_s, (W1.r 4 x).1, Option.bind_some, (W1.r 4 x).2.gq, Option.bind_some]
  rcases expr_o Rh E.2.1 r with ⟨e, p1, h1, s1, e1, E1, r1, q1, V1, m1⟩ | ⟨f, v, h1, s1, b1, b2, e1, E1, g1⟩
  · have W1 := W.fg E1.1 nV
    have E2 := E.tr E1
    have R1 := E2.rd R
    obtain ⟨pf2, W2⟩ := W1.r 4 (64 + hN h)
    have E3 := (es_v E2 hV W1.2.2.2).2 4 (64 + hN h)
    have R3 := E3.rd R
    have r3 : RO (pR h1 V 4 (64 + hN h)) o tp L p1 := r1
    have hl1 := r1.lt R1
    have n1 := E1.1.1
    have V3 : RepE (pR h1 V 4 (64 + hN h)) (64 + hN h) (64 + hN h1) (64 + hN h) e := V1.fg (P := fun x k => x = V) (fgR1 rfl) (Nat.le_refl _) (fun x k h1 _ q => by omega) (Nat.le_refl _) (Nat.le_refl _)
    have st1 := st _ _ e1 W1 R1
    have m3 : hI (pR h1 V 4 (64 + hN h)) tp 7 = hI h tp 7 ||| varsE e := by rw [hI_pR]; exact m1
    -- no second expression
    have none2 : ∀ s', s' ≤ 1 → s' = s → (∃ s'' e1 e2 p' h' rr, (.inl ((s', e, eN), p1) : PR (Nat × EX × EX)) = .inl ((s'', e1, e2), p') ∧ K (pR h1 V 4 (64 + hN h)) = K h' ∧ ES o tp h0 h' (a + 6 * (p' - p)) (b + 60 * (p' - p)) ∧ RO h' o tp L p' ∧ p < p' ∧ s'' ≤ 3 ∧ VF h' V 2 ln 0 (iN s'') rr ∧ (rr 6 = 0 ∧ rr 7 = 0 ∧ rr 8 = 0) ∧ RepE h' (V + 1) (64 + hN h') (rr 4) e1 ∧ (2 ≤ s'' → RepE h' (V + 1) (64 + hN h') (rr 5) e2) ∧ hI h' tp 7 = hI h tp 7 ||| varsE e1 ||| varsE e2) := by
      intro s' hs' es
      subst es
      refine ⟨s', e, eN, p1, _, _, rfl, rfl, ⟨E3.1, E3.2.1, by have := E3.2.2.1; omega, by have := E3.2.2.2; omega⟩, r3, q1, by omega, W2, ⟨rfl, rfl, rfl⟩, ?_, fun q => by omega, ?_⟩
      · show RepE _ _ _ (64 + hN h) e
        exact V3.fg (FG.rf (fun _ _ => False) _) (by rw [hN_pR]; omega) (fun x k _ _ q => q) (by omega) (by rw [hN_pR]; omega)
      · rw [m3]
        show _ = hI h tp 7 ||| varsE e ||| 0
        rw [Int32.or_zero]
    -- a second one
    have two : ∀ (c : Int32) (s' : Nat), hereL L p1 = c → c ≠ -1 ∧ c ≠ 10 → s = 0 → s' ≤ 3 → c87 o V K h = c90 o V (iN s') K (pR h1 V 4 (64 + hN h)) → (bnd (pExpr L p) fun e p1 => pC2 L s e p1) = (bnd (pExpr L (p1 + 1)) fun e2 p2 => .inl ((s', e, e2), p2)) →
        (∃ s' e1 e2 p' h' rr, (bnd (pExpr L p) fun e p1 => pC2 L s e p1) = .inl ((s', e1, e2), p') ∧ c87 o V K h = K h' ∧ ES o tp h0 h' (a + 6 * (p' - p)) (b + 60 * (p' - p)) ∧ RO h' o tp L p' ∧ p < p' ∧ s' ≤ 3 ∧ VF h' V 2 ln 0 (iN s') rr ∧ (rr 6 = 0 ∧ rr 7 = 0 ∧ rr 8 = 0) ∧ RepE h' (V + 1) (64 + hN h') (rr 4) e1 ∧ (2 ≤ s' → RepE h' (V + 1) (64 + hN h') (rr 5) e2) ∧ hI h' tp 7 = hI h tp 7 ||| varsE e1 ||| varsE e2) ∨
        (∃ f h', (bnd (pExpr L p) fun e p1 => pC2 L s e p1) = .inr f ∧ p ≤ f ∧ f ≤ 160 ∧ c87 o V K h = K h' ∧ ES o tp h0 h' (a + 10 + (f - p)) (b + 86 + 3 * (f - p)) ∧ RG h' o f ∧ LV h' V) := by
      intro c s' hc hc2 s0 hs' ec es
      subst s0
      rcases c90_o (s := iN s') K R E3 hV W2 r3 hc hc2 with ⟨e2, p2, h2, q2, t1, t2, t3, t4, t5, t6, t7, t8, t9⟩ | ⟨f, h2, t1, t2, t3, t4, t5, t6, rr', t7⟩
      · refine .inl ⟨s', e, e2, p2, h2, _, by rw [es, t1]; rfl, ec.trans t2, ⟨t3.1, t3.2.1, by have := t3.2.2.1; omega, by have := t3.2.2.2; omega⟩, t4, by omega, hs', t6, ⟨rfl, rfl, rfl⟩, ?_, fun _ => ?_, ?_⟩
        · show RepE _ _ _ (64 + hN h) e
          have n2 := t7.1
          rw [hN_pR] at n2
          exact V3.fg t7 (by rw [hN_pR]; omega) (fun x k h1 h2 q => by rcases q with q | q; exact ke_old (o := o) (tp := tp) Rh h1 k q; omega) (by omega) (by omega)
        · show RepE _ _ _ q2 e2
          exact t8.fg (FG.rf (fun _ _ => False) _) (Nat.le_refl _) (fun x k _ _ q => q) (by rw [hN_pR]; omega) (Nat.le_refl _)
        · rw [t9, m3]
      · exact .inr ⟨f, h2, by rw [es, t1]; rfl, by omega, t3, ec.trans t4, ⟨t5.1, t5.2.1, by have := t5.2.2.1; omega, by have := t5.2.2.2; omega⟩, t6, t7.lv⟩
    by_cases c0 : s = 0
    · have c0' : iN s = 0 := by rw [c0]; rfl
      rw [if_pos c0', ckO R3, Option.bind_some, peek_p R3 (by omega) r3.1, bd2_s] at st1
      by_cases c60 : hereL L p1 = 60
      · refine two 60 2 c60 (by decide) c0 (by decide) ?_ (by rw [s1, bnd_l, pC2, if_pos c0, if_pos c60])
        rw [st1, if_pos c60, c88, ckO R3, Option.bind_some, peek_p R3 (by omega) r3.1, bd2_s, if_pos c60]; rfl
      · rw [if_neg c60, ckO R3, Option.bind_some, peek_p R3 (by omega) r3.1, bd2_s] at st1
        by_cases c61 : hereL L p1 = 61
        · refine two 61 3 c61 (by decide) c0 (by decide) ?_ (by rw [s1, bnd_l, pC2, if_pos c0, if_neg c60, if_pos c61])
          rw [st1, if_pos c61, c88, ckO R3, Option.bind_some, peek_p R3 (by omega) r3.1, bd2_s, if_neg c60]; rfl
        · rw [if_neg c61] at st1
          rw [s1, bnd_l, pC2, if_pos c0, if_neg c60, if_neg c61, st1]
          exact .inl (none2 0 (by decide) c0.symm)
    · have c0' : ¬ iN s = 0 := by
        rw [show s = 1 by omega]; decide
      rw [if_neg c0'] at st1
      rw [s1, bnd_l, pC2, if_neg c0, st1]
      exact .inl (none2 s hs rfl)
  · have W1 := W.fg E1.1 nV
    have E2 := E.tr E1
    have R1 := E2.rd R
    obtain ⟨pf2, W2⟩ := W1.r 4 v
    have E3 := (es_v E2 hV W1.2.2.2).2 4 v
    obtain ⟨h', j1, j2, j3, j4⟩ := c87_t K R E3 hV W2 (show RG (pR h1 V 4 v) o f from g1)
    exact .inr ⟨f, h', by rw [s1]; rfl, b1, b2, (st _ _ e1 W1 R1).trans j1, ⟨j2.1, j2.2.1, by have := j2.2.2.1; omega, by have := j2.2.2.2; omega⟩, j3, j4⟩
theorem c86_o {α : Type} {h0 h : hp} {o tp bx V a b p : Nat} {L : List Int32} {ln : Int32} (K : hp → Option α) (R : RD h0 o tp bx L) (E : ES o tp h0 h a b) (hV : 64 + hN h0 ≤ V) (W : VF h V 2 ln 0 0 fun _ => 0) (r : RO h o tp L p) :
    (∃ s' e1 e2 p' h' rr, pCond L p = .inl ((s', e1, e2), p') ∧ c86 o V K h = K h' ∧ ES o tp h0 h' (a + 6 * (p' - p)) (b + 60 * (p' - p)) ∧ RO h' o tp L p' ∧ p < p' ∧ s' ≤ 3 ∧ VF h' V 2 ln 0 (iN s') rr ∧ (rr 6 = 0 ∧ rr 7 = 0 ∧ rr 8 = 0) ∧ RepE h' (V + 1) (64 + hN h') (rr 4) e1 ∧ (2 ≤ s' → RepE h' (V + 1) (64 + hN h') (rr 5) e2) ∧ hI h' tp 7 = hI h tp 7 ||| varsE e1 ||| varsE e2) ∨
    (∃ f h', pCond L p = .inr f ∧ p ≤ f ∧ f ≤ 160 ∧ c86 o V K h = K h' ∧ ES o tp h0 h' (a + 10 + (f - p)) (b + 86 + 3 * (f - p)) ∧ RG h' o f ∧ LV h' V) := by
  have nV : ∀ j, ¬ KE o tp V j := ke_old R hV
  have ho := R.2.2.2.2.2.2.2.2.1
  have htp := R.2.2.2.2.2.2.2.2.2.1
  have ne := R.2.2.2.2.2.2.2.2.2.2.2.1
  have Rh := E.rd R
  have hl := r.lt Rh
  have st : c86 o V K h = if hereL L p = 33 then (
    (pfI h V 5 3 1).bind fun h54 =>
    (gfI h54 o 6 2).bind fun v56 =>
    (pfI h54 o 6 2 (v56 + 1)).bind fun h58 =>
    c87 o V K h58
    ) else c87 o V K h := by
    unfold c86
    rw [ckO Rh, Option.bind_some, peek_p Rh (by omega) r.1, bd2_s]
  rw [pCond_e]
  by_cases c : hereL L p = 33
  · obtain ⟨l1, l2⟩ := here_lt c (by decide)
    obtain ⟨p1, W1⟩ := W.op 1
    have E1 := (es_v E hV W.2.2.2).1 3 1
    have R1 := E1.rd R
    have r1 := r.nE (a := V) (k := 3) 1 (by omega)
    have S2 := SS.pO R1 E1.2.1 (k := 2) (iN (p + 1)) (by decide)
    have E2 := E1.tr (S2.es (tp := tp))
    have W2 := W1.fg (S2.es (tp := tp)).1 nV
    have r2 := r1.step l1 (by rw [l2]; decide)
    rw [if_pos c, p1, Option.bind_some, gO R1, Option.bind_some, pO R1, Option.bind_some, r1.1, i_succ] at st
    rw [if_pos c]
    rcases c87_o (s := 1) K R E2 hV (Nat.le_refl _) W2 r2 with ⟨s', e1, e2, p', h', rr, t1, t2, t3, t4, t5, t6, t7, t8, t9, t10, t11⟩ | ⟨f, h', t1, t2, t3, t4, t5, t6, t7⟩
    · refine .inl ⟨s', e1, e2, p', h', rr, t1, st.trans t2, ⟨t3.1, t3.2.1, by have := t3.2.2.1; omega, by have := t3.2.2.2; omega⟩, t4, by omega, t6, t7, t8, t9, t10, ?_⟩
      rw [t11, S2.tp R1, hI_pI, if_neg (by omega)]
    · exact .inr ⟨f, h', t1, by omega, t3, st.trans t4, ⟨t5.1, t5.2.1, by have := t5.2.2.1; omega, by have := t5.2.2.2; omega⟩, t6, t7⟩
  · rw [if_neg c] at st ⊢
    rw [st]
    exact c87_o (s := 0) K R E hV (Nat.zero_le _) W r

/-! the class's reader: a whole expression -/
theorem expr_st {h : hp} {o tp bx : Nat} {L : List Int32} (R : RD h o tp bx L) (z : ZH h) : fX7_readExpression o h = bd2 (fX13_among (hv L (hI h o 2) - 97) 8 (nw h 1 4)) fun v12 h13 => if v12 = 0 then ((ckT h13 o 6).bind fun _ => bd2 (fX7_peek o h13) fun v31 h32 => if v31 = 35 then ((pfI h32 (64 + hN h) 1 0 2).bind fun h50 => (gfI h50 o 6 2).bind fun v52 => (pfI h50 o 6 2 (v52 + 1)).bind fun h54 => t94 o (64 + hN h) h54) else (ckT h32 o 6).bind fun _ => bd2 (fX7_peek o h32) fun v35 h36 => if v35 = 39 then ((ckT h36 o 6).bind fun _ => bd2 (fX7_readText o h36) fun v45 h46 => (pfR h46 (64 + hN h) 1 2 v45).bind fun h48 => t94 o (64 + hN h) h48) else ((ckT h36 o 6).bind fun _ => bd2 (fX7_readNumber o h36) fun v39 h40 => (pfR h40 (64 + hN h) 1 2 v39).bind fun h42 => t94 o (64 + hN h) h42)) else ((pfI h13 (64 + hN h) 1 0 1).bind fun h56 => (ckT h56 o 6).bind fun _ => bd2 (fX7_readVariable o h56) fun v59 h60 => (pfI h60 (64 + hN h) 1 1 v59).bind fun h62 => t94 o (64 + hN h) h62) := by
  have S1 := SS.nw (o := o) z 1 4
  have R1 := S1.rd R
  have t1 : hT (nw h 1 4) (64 + hN h) = (1, 4) := by rw [hT_nw]; dsimp only; rw [if_pos rfl]
  have c1 : ckT (nw h 1 4) (64 + hN h) 1 = some () := by unfold ckT; rw [t1]; rfl
  have c2 : fX2_init (64 + hN h) (nw h 1 4) = some (nw h 1 4) := by unfold fX2_init; rw [c1, Option.bind_some]
  have pk := peek_e R1
  have e2 : hI (nw h 1 4) o 2 = hI h o 2 := rfl
  rw [e2] at pk
  have st : ∀ K : hp → Option (Nat × hp), ((ckT (nw h 1 4) (64 + hN h) 1).bind fun _ => (fX2_init (64 + hN h) (nw h 1 4)).bind K) = K (nw h 1 4) := fun K => by rw [c1, Option.bind_some, c2, Option.bind_some]
  have st2 : ∀ K : Int32 → hp → Option (Nat × hp), ((ckT (nw h 1 4) o 6).bind fun _ => bd2 (fX7_peek o (nw h 1 4)) K) = K (hv L (hI h o 2)) (nw h 1 4) := fun K => by rw [ckO R1, Option.bind_some, pk, bd2_s]
  exact (st _).trans (st2 _)
theorem am_any (v n : Int32) (h : hp) : ∃ y, fX13_among v n h = some (y, h) := by
  unfold fX13_among
  by_cases c1 : v < 0
  · rw [if_pos c1]; exact ⟨_, rfl⟩
  · rw [if_neg c1]
    by_cases c2 : n ≤ v
    · rw [if_pos c2]; exact ⟨_, rfl⟩
    · rw [if_neg c2]; exact ⟨_, rfl⟩
theorem RO.nE {h : hp} {o tp a k p : Nat} {L : List Int32} (r : RO h o tp L p) (v : Int32) (ha : a ≠ o) : RO (pI h a k v) o tp L p :=
  ⟨by rw [hI_pI, if_neg (by omega)]; exact r.1, by rw [hI_pI, if_neg (by omega)]; exact r.2.1, by rw [hI_pI, if_neg (by omega)]; exact r.2.2.1, r.2.2.2⟩
theorem RG.nE {h : hp} {o a k f : Nat} (r : RG h o f) (v : Int32) (ha : a ≠ o) : RG (pI h a k v) o f := ⟨by rw [hI_pI, if_neg (by omega)]; exact r.1, r.2⟩
theorem expr_g {h : hp} {o tp bx f : Nat} {L : List Int32} (R : RD h o tp bx L) (z : ZH h) (g : RG h o f) : ∃ v h', fX7_readExpression o h = some (v, h') ∧ ES o tp h h' 5 43 ∧ RG h' o f := by
  have ho := R.2.2.2.2.2.2.2.2.1
  have htp := R.2.2.2.2.2.2.2.2.2.1
  have S1 := SS.nw (o := o) z 1 4
  have R1 := S1.rd R
  have g1 : RG (nw h 1 4) o f := g
  have t1 : hT (nw h 1 4) (64 + hN h) = (1, 4) := by rw [hT_nw]; dsimp only; rw [if_pos rfl]
  obtain ⟨y, hy⟩ := am_any (hv L (hI h o 2) - 97) 8 (nw h 1 4)
  have key : ∀ (x : Option (Nat × hp)), (∃ v h', x = some (v, h') ∧ SS o (nw h 1 4) h' 4 39 ∧ RG h' o f) → ∃ v h', (bd2 x fun v45 h46 => (pfR h46 (64 + hN h) 1 2 v45).bind fun h48 => t94 o (64 + hN h) h48) = some (v, h') ∧ ES o tp h h' 5 43 ∧ RG h' o f := by
    rintro x ⟨v, h', e, S, g'⟩
    have n1 := S.1.1
    rw [hN_nw] at n1
    have t2 : hT h' (64 + hN h) = (1, 4) := by rw [S.1.2.2.1 _ (by rw [hN_nw]; omega)]; exact t1
    have pf : pfR h' (64 + hN h) 1 2 v = some (pR h' (64 + hN h) 2 v) := by unfold pfR; rw [t2]; rfl
    have F : FG (KO o) h (pR h' (64 + hN h) 2 v) := fgRn (S1.tr S).1 2 v (Nat.le_refl _)
    have R2 : RD (pR h' (64 + hN h) 2 v) o tp bx L := R.fg (F.up fun _ _ q => .inl q)
    have g2 : RG (pR h' (64 + hN h) 2 v) o f := g'
    rw [e, bd2_s, pf, Option.bind_some, t94_g R2 g2]
    exact ⟨_, _, rfl, ⟨F.up fun _ _ q => .inl q, S.2.1.pR 2 v (by omega), (S1.tr S).2.2.1, (S1.tr S).2.2.2⟩, g2⟩
  rw [expr_st R z, hy, bd2_s]
  by_cases c0 : y = 0
  · rw [if_pos c0, ckO R1, Option.bind_some, peek_e R1, bd2_s]
    by_cases c1 : hv L (hI (nw h 1 4) o 2) = 35
    · have F : FG (KO o) h (pI (nw h 1 4) (64 + hN h) 0 2) := fgIn (FG.nw h 1 4) 0 2 (Nat.le_refl _)
      have R2 : RD (pI (nw h 1 4) (64 + hN h) 0 2) o tp bx L := R.fg (F.up fun _ _ q => .inl q)
      have z2 : ZH (pI (nw h 1 4) (64 + hN h) 0 2) := S1.2.1.pI 0 2 (by rw [hN_nw]; omega)
      have pf : pfI (nw h 1 4) (64 + hN h) 1 0 2 = some (pI (nw h 1 4) (64 + hN h) 0 2) := by unfold pfI; rw [t1]; rfl
      have g2 := g1.nE (a := 64 + hN h) (k := 0) 2 (by omega)
      have S3 := SS.pO R2 z2 (k := 2) (hI (pI (nw h 1 4) (64 + hN h) 0 2) o 2 + 1) (by decide)
      have g3 := g2.pO (k := 2) (hI (pI (nw h 1 4) (64 + hN h) 0 2) o 2 + 1) (by decide)
      rw [if_pos c1, pf, Option.bind_some, gO R2, Option.bind_some, pO R2, Option.bind_some, t94_g (S3.rd R2) g3]
      exact ⟨_, _, rfl, ⟨(F.tr S3.1).up fun _ _ q => .inl q, S3.2.1, by show hN h + 1 ≤ _; omega, by show hL h + 4 ≤ _; omega⟩, g3⟩
    · rw [if_neg c1, ckO R1, Option.bind_some, peek_e R1, bd2_s]
      by_cases c2 : hv L (hI (nw h 1 4) o 2) = 39
      · rw [if_pos c2, ckO R1, Option.bind_some]
        exact key _ (text_g R1 S1.2.1 g1)
      · rw [if_neg c2, ckO R1, Option.bind_some]
        obtain ⟨v, h', e, S, g'⟩ := num_g R1 S1.2.1 g1
        exact key _ ⟨v, h', e, S.up (by omega) (by omega), g'⟩
  · rw [if_neg c0]
    have F : FG (KO o) h (pI (nw h 1 4) (64 + hN h) 0 1) := fgIn (FG.nw h 1 4) 0 1 (Nat.le_refl _)
    have R2 : RD (pI (nw h 1 4) (64 + hN h) 0 1) o tp bx L := R.fg (F.up fun _ _ q => .inl q)
    have z2 : ZH (pI (nw h 1 4) (64 + hN h) 0 1) := S1.2.1.pI 0 1 (by rw [hN_nw]; omega)
    have pf : pfI (nw h 1 4) (64 + hN h) 1 0 1 = some (pI (nw h 1 4) (64 + hN h) 0 1) := by unfold pfI; rw [t1]; rfl
    have g2 := g1.nE (a := 64 + hN h) (k := 0) 1 (by omega)
    obtain ⟨v, h3, e3, S3, g3⟩ := var_g R2 z2 g2
    have n3 := S3.1.1
    rw [hN_pI, hN_nw] at n3
    have m3 := S3.2.2.1
    rw [hN_pI, hN_nw] at m3
    have l3 := S3.2.2.2
    rw [hL_pI, hL_nw] at l3
    have t3 : hT h3 (64 + hN h) = (1, 4) := by rw [S3.1.2.2.1 _ (by rw [hN_pI, hN_nw]; omega)]; exact t1
    have pf3 : pfI h3 (64 + hN h) 1 1 v = some (pI h3 (64 + hN h) 1 v) := by unfold pfI; rw [t3]; rfl
    have F3 : FG (KE o tp) h (pI h3 (64 + hN h) 1 v) := fgIn ((F.up fun _ _ q => .inl q).tr S3.1) 1 v (Nat.le_refl _)
    have g4 := g3.nE (a := 64 + hN h) (k := 1) v (by omega)
    have R4 : RD (pI h3 (64 + hN h) 1 v) o tp bx L := ES.rd (a := 5) (b := 43) ⟨F3, S3.2.1.pI 1 v (by omega), by rw [hN_pI]; omega, by rw [hL_pI]; omega⟩ R
    rw [pf, Option.bind_some, ckO R2, Option.bind_some, e3, bd2_s, pf3, Option.bind_some, t94_g R4 g4]
    exact ⟨_, _, rfl, ⟨F3, S3.2.1.pI 1 v (by omega), by rw [hN_pI]; omega, by rw [hL_pI]; omega⟩, g4⟩
theorem expr_o {h : hp} {o tp bx p : Nat} {L : List Int32} (R : RD h o tp bx L) (z : ZH h) (r : RO h o tp L p) :
    (∃ e p' h', pExpr L p = .inl (e, p') ∧ fX7_readExpression o h = some (64 + hN h, h') ∧ ES o tp h h' (5 + (p' - p)) (43 + 3 * (p' - p)) ∧ RO h' o tp L p' ∧ p < p' ∧ RepE h' (64 + hN h) (64 + hN h') (64 + hN h) e ∧ hI h' tp 7 = hI h tp 7 ||| varsE e) ∨
    (∃ f v h', pExpr L p = .inr f ∧ p ≤ f ∧ f ≤ 160 ∧ fX7_readExpression o h = some (v, h') ∧ ES o tp h h' (5 + (f - p)) (43 + 3 * (f - p)) ∧ RG h' o f) := by
  have ho := R.2.2.2.2.2.2.2.2.1
  have htp := R.2.2.2.2.2.2.2.2.2.1
  have ne := R.2.2.2.2.2.2.2.2.2.2.2.1
  have hl := r.lt R
  have S1 := SS.nw (o := o) z 1 4
  have R1 := S1.rd R
  have r1 : RO (nw h 1 4) o tp L p := r
  have t1 : hT (nw h 1 4) (64 + hN h) = (1, 4) := by rw [hT_nw]; dsimp only; rw [if_pos rfl]
  have hb : hv L (hI h o 2) = hereL L p := by rw [r.1, hv_e (by omega)]
  have zE : ∀ k, hI (nw h 1 4) (64 + hN h) k = 0 ∧ hR (nw h 1 4) (64 + hN h) k = 0 := fun k => ⟨(z _ k (Nat.le_refl _)).1, (z _ k (Nat.le_refl _)).2.2⟩
  -- what is read so far, and the filters behind it
  have fin : ∀ (hh : hp) (p1 : Nat) (e : EX), e.2.2.2 = [] → pAtom L p = .inl (e, p1) → fX7_readExpression o h = t94 o (64 + hN h) hh → FG (KE o tp) h hh → RD hh o tp bx L → ZH hh → RO hh o tp L p1 → p < p1 → 65 + hN h ≤ 64 + hN hh → hN hh ≤ hN h + 5 → hL hh ≤ hL h + 43 → RepE hh (64 + hN h) (64 + hN hh) (64 + hN h) e → hI hh tp 7 = hI h tp 7 ||| varsE e →
      (∃ e p' h', pExpr L p = .inl (e, p') ∧ fX7_readExpression o h = some (64 + hN h, h') ∧ ES o tp h h' (5 + (p' - p)) (43 + 3 * (p' - p)) ∧ RO h' o tp L p' ∧ p < p' ∧ RepE h' (64 + hN h) (64 + hN h') (64 + hN h) e ∧ hI h' tp 7 = hI h tp 7 ||| varsE e) ∨
      (∃ f v h', pExpr L p = .inr f ∧ p ≤ f ∧ f ≤ 160 ∧ fX7_readExpression o h = some (v, h') ∧ ES o tp h h' (5 + (f - p)) (43 + 3 * (f - p)) ∧ RG h' o f) := by
    rintro hh p1 ⟨k, v, c, fs0⟩ he sa sl F Rh zh rh hp1 n1 n2 n3 E m7
    have he' : fs0 = [] := he
    subst he'
    have sx : pExpr L p = if hereL L p1 = 124 then bnd (pFils L 161 (p1 + 1)) fun fs p2 => .inl ((k, v, c, fs), p2) else .inl ((k, v, c, []), p1) := by unfold pExpr; rw [sa]; rfl
    rcases t94_o (e := (k, v, c, [])) R F Rh zh rh n1 E with ⟨fs, p', h', i1, i2, i3, i4, i5, i6, i7, i8, i9, i10⟩ | ⟨f, v', h', i1, i2, i3, i4, i5, i6, i7, i8, i9⟩
    · exact .inl ⟨(k, v, c, fs), p', h', by rw [sx]; exact i1, by rw [sl]; exact i2, ⟨i3, i4, by omega, by omega⟩, i7, by omega, i9, by rw [i10, m7]; rfl⟩
    · exact .inr ⟨f, v', h', by rw [sx]; exact i1, by omega, i3, by rw [sl]; exact i4, ⟨i5, i6, by omega, by omega⟩, i9⟩
  have bad : ∀ (hh : hp) (f : Nat), pAtom L p = .inr f → fX7_readExpression o h = t94 o (64 + hN h) hh → FG (KE o tp) h hh → RD hh o tp bx L → ZH hh → RG hh o f → p ≤ f → f ≤ 160 → hN hh ≤ hN h + 5 → hL hh ≤ hL h + 43 →
      (∃ f v h', pExpr L p = .inr f ∧ p ≤ f ∧ f ≤ 160 ∧ fX7_readExpression o h = some (v, h') ∧ ES o tp h h' (5 + (f - p)) (43 + 3 * (f - p)) ∧ RG h' o f) := by
    intro hh f sa sl F Rh zh g h1 h2 n2 n3
    exact ⟨f, 64 + hN h, hh, by unfold pExpr; rw [sa]; rfl, h1, h2, by rw [sl, t94_g Rh g], ⟨F, zh, by omega, by omega⟩, g⟩
  have key : ∀ (x : Option (Nat × hp)) (c : vT) (p1 : Nat) (h' : hp), x = some (64 + hN (nw h 1 4), h') → SS o (nw h 1 4) h' 4 39 → RO h' o tp L p1 → p < p1 → RepV h' (64 + hN (nw h 1 4)) (64 + hN h') (64 + hN (nw h 1 4)) c → ∃ hh, (bd2 x fun v45 h46 => (pfR h46 (64 + hN h) 1 2 v45).bind fun h48 => t94 o (64 + hN h) h48) = t94 o (64 + hN h) hh ∧ FG (KE o tp) h hh ∧ RD hh o tp bx L ∧ ZH hh ∧ RO hh o tp L p1 ∧ 65 + hN h ≤ 64 + hN hh ∧ hN hh ≤ hN h + 5 ∧ hL hh ≤ hL h + 43 ∧ RepE hh (64 + hN h) (64 + hN hh) (64 + hN h) (0, 0, c, []) ∧ hI hh tp 7 = hI h tp 7 ||| 0 := by
    intro x c p1 h' e S r' hp1 V
    have n1 := S.1.1
    have n2 := S.2.2.1
    have n3 := S.2.2.2
    rw [hN_nw] at n1 n2 V e
    rw [hL_nw] at n3
    have t2 : hT h' (64 + hN h) = (1, 4) := by rw [S.1.2.2.1 _ (by rw [hN_nw]; omega)]; exact t1
    have pf : pfR h' (64 + hN h) 1 2 (64 + (hN h + 1)) = some (pR h' (64 + hN h) 2 (64 + (hN h + 1))) := by unfold pfR; rw [t2]; rfl
    have F : FG (KO o) h (pR h' (64 + hN h) 2 (64 + (hN h + 1))) := fgRn (S1.tr S).1 2 _ (Nat.le_refl _)
    have oE : ∀ k, hI h' (64 + hN h) k = 0 ∧ hR h' (64 + hN h) k = 0 := fun k => by
      have q := S.1.2.2.2 (64 + hN h) k (by rw [hN_nw]; omega) (fun q => by have := q.1; omega)
      exact ⟨q.1.trans (zE k).1, q.2.2.trans (zE k).2⟩
    refine ⟨pR h' (64 + hN h) 2 (64 + (hN h + 1)), by rw [e, bd2_s, pf, Option.bind_some], F.up fun _ _ q => .inl q, R.fg (F.up fun _ _ q => .inl q), S.2.1.pR 2 _ (by omega), r', by rw [hN_pR]; omega, by rw [hN_pR]; omega, by rw [hL_pR]; omega, ⟨Nat.le_refl _, by rw [hN_pR]; omega, t2, Nat.zero_le _, (oE 0).1, fun q => absurd q (show (0 : Nat) ≠ 1 by decide), fun _ => ?_, ?_⟩, ?_⟩
    · have b2 : hR (pR h' (64 + hN h) 2 (64 + (hN h + 1))) (64 + hN h) 2 = 64 + (hN h + 1) := by rw [hR_pR, if_pos ⟨rfl, rfl⟩]
      rw [b2]
      exact V.fg (P := fun x k => x = 64 + hN h) (fgR1 rfl) (Nat.le_refl _) (fun x k h1 _ q => by omega) (by omega) (by rw [hN_pR]; omega)
    · show hR (pR h' (64 + hN h) 2 (64 + (hN h + 1))) (64 + hN h) 3 = 0
      rw [hR_pR, if_neg (by omega)]; exact (oE 3).2
    · rw [Int32.or_zero]
      exact ((S1.tr S).tp R 7)
  have keyb : ∀ (x : Option (Nat × hp)) (f : Nat) (v : Nat) (h' : hp), x = some (v, h') → SS o (nw h 1 4) h' 4 39 → RG h' o f → ∃ hh, (bd2 x fun v45 h46 => (pfR h46 (64 + hN h) 1 2 v45).bind fun h48 => t94 o (64 + hN h) h48) = t94 o (64 + hN h) hh ∧ FG (KE o tp) h hh ∧ RD hh o tp bx L ∧ ZH hh ∧ RG hh o f ∧ hN hh ≤ hN h + 5 ∧ hL hh ≤ hL h + 43 := by
    intro x f v h' e S g'
    have n1 := S.1.1
    have n2 := S.2.2.1
    have n3 := S.2.2.2
    rw [hN_nw] at n1 n2
    rw [hL_nw] at n3
    have t2 : hT h' (64 + hN h) = (1, 4) := by rw [S.1.2.2.1 _ (by rw [hN_nw]; omega)]; exact t1
    have pf : pfR h' (64 + hN h) 1 2 v = some (pR h' (64 + hN h) 2 v) := by unfold pfR; rw [t2]; rfl
    have F : FG (KO o) h (pR h' (64 + hN h) 2 v) := fgRn (S1.tr S).1 2 v (Nat.le_refl _)
    exact ⟨_, by rw [e, bd2_s, pf, Option.bind_some], F.up fun _ _ q => .inl q, R.fg (F.up fun _ _ q => .inl q), S.2.1.pR 2 v (by omega), g', by rw [hN_pR]; omega, by rw [hL_pR]; omega⟩
  have st := expr_st R z
  rw [hb, show fX13_among (hereL L p - 97) 8 (nw h 1 4) = _ from one_of (lo := 97) (n := 8) (here_b R p) (by decide) (by decide) _, bd2_s] at st
  by_cases cv : ((97 : Nat) : Int) ≤ (hereL L p).toInt ∧ (hereL L p).toInt < (97 + 8 : Nat)
  · rw [if_pos cv, if_neg z10] at st
    have F : FG (KO o) h (pI (nw h 1 4) (64 + hN h) 0 1) := fgIn (FG.nw h 1 4) 0 1 (Nat.le_refl _)
    have R2 : RD (pI (nw h 1 4) (64 + hN h) 0 1) o tp bx L := R.fg (F.up fun _ _ q => .inl q)
    have z2 : ZH (pI (nw h 1 4) (64 + hN h) 0 1) := S1.2.1.pI 0 1 (by rw [hN_nw]; omega)
    have pf : pfI (nw h 1 4) (64 + hN h) 1 0 1 = some (pI (nw h 1 4) (64 + hN h) 0 1) := by unfold pfI; rw [t1]; rfl
    have r2 := r1.nE (a := 64 + hN h) (k := 0) 1 (by omega)
    have sa : pAtom L p = .inl ((1, (hereL L p).toInt.toNat - 97, vN, []), p + 1) := by unfold pAtom; rw [if_pos ⟨by omega, by omega⟩]
    have so : pOne L 97 8 p = .inl ((hereL L p).toInt.toNat - 97, p + 1) := by unfold pOne; rw [if_pos cv]
    rcases var_o R2 z2 r2 with ⟨k, k1, s3, h3, e3, S3, r3, m3⟩ | ⟨s3, _⟩
    · rw [so] at s3
      have ek : (hereL L p).toInt.toNat - 97 = k := (Prod.mk.inj (Sum.inl.inj s3)).1
      rw [ek] at sa
      have n3 := S3.1.1
      rw [hN_pI, hN_nw] at n3
      have n3' := S3.2.2.1
      rw [hN_pI, hN_nw] at n3'
      have l3 := S3.2.2.2
      rw [hL_pI, hL_nw] at l3
      have t3 : hT h3 (64 + hN h) = (1, 4) := by rw [S3.1.2.2.1 _ (by rw [hN_pI, hN_nw]; omega)]; exact t1
      have pf3 : pfI h3 (64 + hN h) 1 1 (iN k) = some (pI h3 (64 + hN h) 1 (iN k)) := by unfold pfI; rw [t3]; rfl
      have F3 : FG (KE o tp) h (pI h3 (64 + hN h) 1 (iN k)) := fgIn ((F.up fun _ _ q => .inl q).tr S3.1) 1 _ (Nat.le_refl _)
      have z3 := S3.2.1.pI (a := 64 + hN h) 1 (iN k) (by omega)
      have R4 : RD (pI h3 (64 + hN h) 1 (iN k)) o tp bx L := ES.rd (a := 5) (b := 43) ⟨F3, z3, by rw [hN_pI]; omega, by rw [hL_pI]; omega⟩ R
      rw [pf, Option.bind_some, ckO R2, Option.bind_some, e3, bd2_s, pf3, Option.bind_some] at st
      have oE : ∀ j, hI h3 (64 + hN h) j = (if j = 0 then 1 else 0) ∧ hR h3 (64 + hN h) j = 0 := fun j => by
        have q := S3.1.2.2.2 (64 + hN h) j (by rw [hN_pI, hN_nw]; omega) (fun q => by unfold KE KO at q; omega)
        refine ⟨q.1.trans ?_, q.2.2.trans (zE j).2⟩
        rw [hI_pI]
        by_cases c : j = 0
        · rw [if_pos ⟨rfl, c⟩, if_pos c]
        · rw [if_neg (fun q => c q.2), if_neg c]; exact (zE j).1
      refine fin _ (p + 1) (1, k, vN, []) rfl sa st F3 R4 z3 (r3.nE _ (by omega)) (Nat.lt_succ_self p) (by rw [hN_pI]; omega) (by rw [hN_pI]; omega) (by rw [hL_pI]; omega) ⟨Nat.le_refl _, by rw [hN_pI]; omega, t3, (show (1 : Nat) ≤ 2 by decide), ?_, fun _ => ⟨by rw [hI_pI, if_pos ⟨rfl, rfl⟩], k1⟩, fun q => absurd q (show (1 : Nat) ≠ 0 by decide), ?_⟩ ?_
      · rw [hI_pI, if_neg (by omega), (oE 0).1]; rfl
      · exact (oE 3).2
      · rw [hI_pI, if_neg (by omega), m3, hI_pI, if_neg (by omega)]; rfl
    · rw [so] at s3; cases s3
  · have ncv : ¬ (97 ≤ (hereL L p).toInt ∧ (hereL L p).toInt < 105) := fun q => cv ⟨by omega, by omega⟩
    rw [if_neg cv, if_pos rfl, ckO R1, Option.bind_some, peek_p R1 (by omega) r1.1, bd2_s] at st
    by_cases c35 : hereL L p = 35
    · have sa : pAtom L p = .inl ((2, 0, vN, []), p + 1) := by unfold pAtom; rw [if_neg ncv, if_pos c35]
      obtain ⟨l1, l2⟩ := here_lt c35 (by decide)
      have F : FG (KO o) h (pI (nw h 1 4) (64 + hN h) 0 2) := fgIn (FG.nw h 1 4) 0 2 (Nat.le_refl _)
      have R2 : RD (pI (nw h 1 4) (64 + hN h) 0 2) o tp bx L := R.fg (F.up fun _ _ q => .inl q)
      have z2 : ZH (pI (nw h 1 4) (64 + hN h) 0 2) := S1.2.1.pI 0 2 (by rw [hN_nw]; omega)
      have pf : pfI (nw h 1 4) (64 + hN h) 1 0 2 = some (pI (nw h 1 4) (64 + hN h) 0 2) := by unfold pfI; rw [t1]; rfl
      have r2 := r1.nE (a := 64 + hN h) (k := 0) 2 (by omega)
      have S3 := SS.pO R2 z2 (k := 2) (iN (p + 1)) (by decide)
      rw [if_pos c35, pf, Option.bind_some, gO R2, Option.bind_some, pO R2, Option.bind_some, r2.1, i_succ] at st
      refine fin _ (p + 1) (2, 0, vN, []) rfl sa st ((F.tr S3.1).up fun _ _ q => .inl q) (S3.rd R2) S3.2.1 (r2.step l1 (by rw [l2]; decide)) (Nat.lt_succ_self p) (by rw [hN_pI, hN_pI, hN_nw]; omega) (by rw [hN_pI, hN_pI, hN_nw]; omega) (by rw [hL_pI, hL_pI, hL_nw]; omega) ⟨Nat.le_refl _, by rw [hN_pI, hN_pI, hN_nw]; omega, t1, by decide, ?_, fun q => absurd q (show (2 : Nat) ≠ 1 by decide), fun q => absurd q (show (2 : Nat) ≠ 0 by decide), ?_⟩ ?_
      · rw [hI_pI, if_neg (by omega), hI_pI, if_pos ⟨rfl, rfl⟩]; rfl
      · exact (zE 3).2
      · rw [S3.tp R2, hI_pI, if_neg (by omega)]
        show hI h tp 7 = hI h tp 7 ||| 0
        rw [Int32.or_zero]
    · rw [if_neg c35, ckO R1, Option.bind_some, peek_p R1 (by omega) r1.1, bd2_s] at st
      by_cases c39 : hereL L p = 39
      · have sa : pAtom L p = bnd (pSign L 39 (p + 1 + runT L 16 (p + 1))) fun _ p1 => .inl ((0, 0, (3, 0, 0, runT L 16 (p + 1), fun i => L.getD (p + 1 + i) 0), []), p1) := by unfold pAtom; rw [if_neg ncv, if_neg c35, if_pos c39]
        rw [if_pos c39, ckO R1, Option.bind_some] at st
        rcases text_o R1 S1.2.1 r1 c39 with ⟨p', h', s, hp1, e, S, r', V⟩ | ⟨f, v, h', s, b1, b2, e, S, g'⟩
        · obtain ⟨hh, j1, j2, j3, j4, j5, j6, j7, j8, j9, j10⟩ := key _ _ p' h' e S r' hp1 V
          exact fin hh p' _ rfl (by rw [sa, s]; rfl) (st.trans j1) j2 j3 j4 j5 hp1 j6 j7 j8 j9 j10
        · obtain ⟨hh, j1, j2, j3, j4, j5, j6, j7⟩ := keyb _ f v h' e S g'
          exact .inr (bad hh f (by rw [sa, s]; rfl) (st.trans j1) j2 j3 j4 j5 b1 b2 j6 j7)
      · have sa : pAtom L p = bnd (pNum L p) fun c p1 => .inl ((0, 0, c, []), p1) := by
          unfold pAtom pNum
          rw [if_neg ncv, if_neg c35, if_neg c39]
          by_cases c45 : hereL L p = 45
          · rw [if_pos c45, if_pos c45]; cases pFigs L (p + 1) <;> rfl
          · rw [if_neg c45, if_neg c45]; cases pFigs L p <;> rfl
        rw [if_neg c39, ckO R1, Option.bind_some] at st
        rcases num_o R1 S1.2.1 r1 with ⟨c, p', h', s, e, S, r', hp1, V⟩ | ⟨f, v, h', s, b1, b2, e, S, g'⟩
        · obtain ⟨hh, j1, j2, j3, j4, j5, j6, j7, j8, j9, j10⟩ := key _ _ p' h' e (S.up (by omega) (by omega)) r' hp1 V
          exact fin hh p' _ rfl (by rw [sa, s]; rfl) (st.trans j1) j2 j3 j4 j5 hp1 j6 j7 j8 j9 j10
        · obtain ⟨hh, j1, j2, j3, j4, j5, j6, j7⟩ := keyb _ f v h' e (S.up (by omega) (by omega)) g'
          exact .inr (bad hh f (by rw [sa, s]; rfl) (st.trans j1) j2 j3 j4 j5 b1 b2 j6 j7)

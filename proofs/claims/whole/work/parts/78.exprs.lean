/-! the class's reader: a whole expression -/
theorem expr_st {h : hp} {o tp bx : Nat} {L : List Int32} (R : RD h o tp bx L) (z : ZH h) : fX7_readExpression o h = bd2 (fX13_among (hv L (hI h o 2) - 97) 8 (nw h 1 4)) fun v12 h13 => if v12 = 0 then ((ckT h13 o 6).bind fun _ => bd2 (fX7_peek o h13) fun v31 h32 => if v31 = 35 then ((pfI h32 (64 + hN h) 1 0 2).bind fun h50 => (gfI h50 o 6 2).bind fun v52 => (pfI h50 o 6 2 (v52 + 1)).bind fun h54 => t94 o (64 + hN h) h54) else (ckT h32 o 6).bind fun _ => bd2 (fX7_peek o h32) fun v35 h36 => if v35 = 39 then ((ckT h36 o 6).bind fun _ => bd2 (fX7_readText o h36) fun v45 h46 => (pfR h46 (64 + hN h) 1 2 v45).bind fun h48 => t94 o (64 + hN h) h48) else ((ckT h36 o 6).bind fun _ => bd2 (fX7_readNumber o h36) fun v39 h40 => (pfR h40 (64 + hN h) 1 2 v39).bind fun h42 => t94 o (64 + hN h) h42)) else ((pfI h13 (64 + hN h) 1 0 1).bind fun h56 => (ckT h56 o 6).bind fun _ => bd2 (fX7_readVariable o h56) fun v59 h60 => (pfI h60 (64 + hN h) 1 1 v59).bind fun h62 => t94 o (64 + hN h) h62) := by
  have S1 := SS.nw (o := o) z 1 4
  have R1 := S1.rd R
  have t1 : hT (nw h 1 4) (64 + hN h) = (1, 4) := by rw [hT_nw]; dsimp only; rw [if_pos rfl]
  have c1 : ckT (nw h 1 4) (64 + hN h) 1 = some () := by unfold ckT; rw [t1]; rfl
  have c2 : fX2_init (64 + hN h) (nw h 1 4) = some (nw h 1 4) := by unfold fX2_init; rw [c1, Option.bind_some]
  have pk := peek_e R1
  have e2 : hI (nw h 1 4) o 2 = hI h o 2 := rfl
  rw [e2] at pk
  have st : ∀ K : hp → Option (Nat × hp), ((ckT (nw h 1 4) (64 + hN h) 1).bind fun _ => (fX2_init (64 + hN h) (nw h 1 4)).bind K) = K (nw h 1 4) := fun K => by rw [c1, Option.bind_some, c2, Option.bind_some]
  have st2 : ∀ K : Int32 → hp → Option (Nat × hp), ((ckT (nw h 1 4) o 6).bind fun _ => bd2 (fX7_peek o (nw h 1 4)) K) = K (hv L (hI h o 2)) (nw h 1 4) := fun K => by rw [ckO R1, Option.bind_some, pk, bd2_s]
  exact (st _).trans (st2 _)
theorem am_any (v n : Int32) (h : hp) : ∃ y, fX13_among v n h = some (y, h) := by
  unfold fX13_among
  by_cases c1 : v < 0
  · rw [if_pos c1]; exact ⟨_, rfl⟩
  · rw [if_neg c1]
    by_cases c2 : n ≤ v
    · rw [if_pos c2]; exact ⟨_, rfl⟩
    · rw [if_neg c2]; exact ⟨_, rfl⟩
theorem RO.nE {h : hp} {o tp a k p : Nat} {L : List Int32} (r : RO h o tp L p) (v : Int32) (ha : a ≠ o) : RO (pI h a k v) o tp L p :=
  ⟨by rw [hI_pI, if_neg (by omega)]; exact r.1, by rw [hI_pI, if_neg (by omega)]; exact r.2.1, by rw [hI_pI, if_neg (by omega)]; exact r.2.2.1, r.2.2.2⟩
theorem RG.nE {h : hp} {o a k f : Nat} (r : RG h o f) (v : Int32) (ha : a ≠ o) : RG (pI h a k v) o f := ⟨by rw [hI_pI, if_neg (by omega)]; exact r.1, r.2⟩
theorem expr_g {h : hp} {o tp bx f : Nat} {L : List Int32} (R : RD h o tp bx L) (z : ZH h) (g : RG h o f) : ∃ v h', fX7_readExpression o h = some (v, h') ∧ ES o tp h h' 5 43 ∧ RG h' o f := by
  have ho := R.2.2.2.2.2.2.2.2.1
  have htp := R.2.2.2.2.2.2.2.2.2.1
  have S1 := SS.nw (o := o) z 1 4
  have R1 := S1.rd R
  have g1 : RG (nw h 1 4) o f := g
  have t1 : hT (nw h 1 4) (64 + hN h) = (1, 4) := by rw [hT_nw]; dsimp only; rw [if_pos rfl]
  obtain ⟨y, hy⟩ := am_any (hv L (hI h o 2) - 97) 8 (nw h 1 4)
  have key : ∀ (x : Option (Nat × hp)), (∃ v h', x = some (v, h') ∧ SS o (nw h 1 4) h' 4 39 ∧ RG h' o f) → ∃ v h', (bd2 x fun v45 h46 => (pfR h46 (64 + hN h) 1 2 v45).bind fun h48 => t94 o (64 + hN h) h48) = some (v, h') ∧ ES o tp h h' 5 43 ∧ RG h' o f := by
    rintro x ⟨v, h', e, S, g'⟩
    have n1 := S.1.1
    rw [hN_nw] at n1
    have t2 : hT h' (64 + hN h) = (1, 4) := by rw [S.1.2.2.1 _ (by rw [hN_nw]; omega)]; exact t1
    have pf : pfR h' (64 + hN h) 1 2 v = some (pR h' (64 + hN h) 2 v) := by unfold pfR; rw [t2]; rfl
    have F : FG (KO o) h (pR h' (64 + hN h) 2 v) := fgRn (S1.tr S).1 2 v (Nat.le_refl _)
    have R2 : RD (pR h' (64 + hN h) 2 v) o tp bx L := R.fg (F.up fun _ _ q => .inl q)
    have g2 : RG (pR h' (64 + hN h) 2 v) o f := g'
    rw [e, bd2_s, pf, Option.bind_some, t94_g R2 g2]
    exact ⟨_, _, rfl, ⟨F.up fun _ _ q => .inl q, S.2.1.pR 2 v (by omega), (S1.tr S).2.2.1, (S1.tr S).2.2.2⟩, g2⟩
  rw [expr_st R z, hy, bd2_s]
  by_cases c0 : y = 0
  · rw [if_pos c0, ckO R1, Option.bind_some, peek_e R1, bd2_s]
    by_cases c1 : hv L (hI (nw h 1 4) o 2) = 35
    · have F : FG (KO o) h (pI (nw h 1 4) (64 + hN h) 0 2) := fgIn (FG.nw h 1 4) 0 2 (Nat.le_refl _)
      have R2 : RD (pI (nw h 1 4) (64 + hN h) 0 2) o tp bx L := R.fg (F.up fun _ _ q => .inl q)
      have z2 : ZH (pI (nw h 1 4) (64 + hN h) 0 2) := S1.2.1.pI 0 2 (by rw [hN_nw]; omega)
      have pf : pfI (nw h 1 4) (64 + hN h) 1 0 2 = some (pI (nw h 1 4) (64 + hN h) 0 2) := by unfold pfI; rw [t1]; rfl
      have g2 := g1.nE (a := 64 + hN h) (k := 0) 2 (by omega)
      have S3 := SS.pO R2 z2 (k := 2) (hI (pI (nw h 1 4) (64 + hN h) 0 2) o 2 + 1) (by decide)
      have g3 := g2.pO (k := 2) (hI (pI (nw h 1 4) (64 + hN h) 0 2) o 2 + 1) (by decide)
      rw [if_pos c1, pf, Option.bind_some, gO R2, Option.bind_some, pO R2, Option.bind_some, t94_g (S3.rd R2) g3]
      exact ⟨_, _, rfl, ⟨(F.tr S3.1).up fun _ _ q => .inl q, S3.2.1, by show hN h + 1 ≤ _; omega, by show hL h + 4 ≤ _; omega⟩, g3⟩
    · rw [if_neg c1, ckO R1, Option.bind_some, peek_e R1, bd2_s]
      by_cases c2 : hv L (hI (nw h 1 4) o 2) = 39
      · rw [if_pos c2, ckO R1, Option.bind_some]
        exact key _ (text_g R1 S1.2.1 g1)
      · rw [if_neg c2, ckO R1, Option.bind_some]
        obtain ⟨v, h', e, S, g'⟩ := num_g R1 S1.2.1 g1
        exact key _ ⟨v, h', e, S.up (by omega) (by omega), g'⟩
  · rw [if_neg c0]
    have F : FG (KO o) h (pI (nw h 1 4) (64 + hN h) 0 1) := fgIn (FG.nw h 1 4) 0 1 (Nat.le_refl _)
    have R2 : RD (pI (nw h 1 4) (64 + hN h) 0 1) o tp bx L := R.fg (F.up fun _ _ q => .inl q)
    have z2 : ZH (pI (nw h 1 4) (64 + hN h) 0 1) := S1.2.1.pI 0 1 (by rw [hN_nw]; omega)
    have pf : pfI (nw h 1 4) (64 + hN h) 1 0 1 = some (pI (nw h 1 4) (64 + hN h) 0 1) := by unfold pfI; rw [t1]; rfl
    have g2 := g1.nE (a := 64 + hN h) (k := 0) 1 (by omega)
    obtain ⟨v, h3, e3, S3, g3⟩ := var_g R2 z2 g2
    have n3 := S3.1.1
    rw [hN_pI, hN_nw] at n3
    have m3 := S3.2.2.1
    rw [hN_pI, hN_nw] at m3
    have l3 := S3.2.2.2
    rw [hL_pI, hL_nw] at l3
    have t3 : hT h3 (64 + hN h) = (1, 4) := by rw [S3.1.2.2.1 _ (by rw [hN_pI, hN_nw]; omega)]; exact t1
    have pf3 : pfI h3 (64 + hN h) 1 1 v = some (pI h3 (64 + hN h) 1 v) := by unfold pfI; rw [t3]; rfl
    have F3 : FG (KE o tp) h (pI h3 (64 + hN h) 1 v) := fgIn ((F.up fun _ _ q => .inl q).tr S3.1) 1 v (Nat.le_refl _)
    have g4 := g3.nE (a := 64 + hN h) (k := 1) v (by omega)
    have R4 : RD (pI h3 (64 + hN h) 1 v) o tp bx L := ES.rd (a := 5) (b := 43) ⟨F3, S3.2.1.pI 1 v (by omega), by rw [hN_pI]; omega, by rw [hL_pI]; omega⟩ R
    rw [pf, Option.bind_some, ckO R2, Option.bind_some, e3, bd2_s, pf3, Option.bind_some, t94_g R4 g4]
    exact ⟨_, _, rfl, ⟨F3, S3.2.1.pI 1 v (by omega), by rw [hN_pI]; omega, by rw [hL_pI]; omega⟩, g4⟩

/-! the class's reader: a name told -/
/-- what a piece's object holds so far -/
def VF (h : hp) (V : Nat) (k ln v q : Int32) (rr : Nat → Nat) : Prop := hT h V = (5, 9) ∧ (∀ j, hI h V j = if j = 0 then k else if j = 1 then ln else if j = 2 then v else if j = 3 then q else 0) ∧ (∀ j, hR h V j = rr j) ∧ V < 64 + hN h
theorem VF.fg {P : Nat → Nat → Prop} {h h' : hp} {V : Nat} {k ln v q : Int32} {rr : Nat → Nat} (H : VF h V k ln v q rr) (f : FG P h h') (hP : ∀ j, ¬ P V j) : VF h' V k ln v q rr := by
  obtain ⟨h1, h2, h3, h4⟩ := H
  have e := fun j => f.2.2.2 V j h4 (hP j)
  exact ⟨by rw [f.2.2.1 V h4]; exact h1, fun j => by rw [(e j).1]; exact h2 j, fun j => by rw [(e j).2.2]; exact h3 j, by have := f.1; omega⟩
theorem VF.new {h : hp} (z : ZH h) {o : Nat} (ho : o < 64 + hN h) (k ln : Int32) : VF (nP h k ln) (64 + hN h) k ln 0 0 fun _ => 0 := by
  obtain ⟨_, a1, a2, _, a4, a5, _⟩ := nP_s z o k ln ho
  refine ⟨a1, fun j => ?_, a5, by rw [a2]; omega⟩
  rw [a4 j]
  by_cases c0 : j = 0
  · rw [if_pos c0, if_pos c0]
  rw [if_neg c0, if_neg c0]
  by_cases c1 : j = 1
  · rw [if_pos c1, if_pos c1]
  rw [if_neg c1, if_neg c1]
  by_cases c2 : j = 2
  · rw [if_pos c2]
  rw [if_neg c2]
  by_cases c3 : j = 3
  · rw [if_pos c3]
  · rw [if_neg c3]
theorem VF.v {h : hp} {V : Nat} {k ln q : Int32} {rr : Nat → Nat} (H : VF h V k ln 0 q rr) (x : Int32) : pfI h V 5 2 x = some (pI h V 2 x) ∧ VF (pI h V 2 x) V k ln x q rr := by
  obtain ⟨h1, h2, h3, h4⟩ := H
  refine ⟨by unfold pfI; rw [h1]; rfl, h1, fun j => ?_, h3, h4⟩
  rw [hI_pI]
  by_cases c2 : j = 2
  · rw [if_pos ⟨rfl, c2⟩, c2, if_neg (by decide), if_neg (by decide), if_pos rfl]
  · rw [if_neg (fun q => c2 q.2), h2 j, if_neg c2, if_neg c2]
theorem VF.r {h : hp} {V : Nat} {k ln v q : Int32} {rr : Nat → Nat} (H : VF h V k ln v q rr) (i x : Nat) : pfR h V 5 i x = some (pR h V i x) ∧ VF (pR h V i x) V k ln v q (fun j => if j = i then x else rr j) := by
  obtain ⟨h1, h2, h3, h4⟩ := H
  refine ⟨by unfold pfR; rw [h1]; rfl, h1, h2, fun j => ?_, h4⟩
  rw [hR_pR]; dsimp only
  by_cases c : j = i
  · rw [if_pos ⟨rfl, c⟩, if_pos c]
  · rw [if_neg (fun q => c q.2), if_neg c, h3 j]
theorem ckO' {h : hp} {o tp bx : Nat} {L : List Int32} (R : RD h o tp bx L) (a k : Nat) (x : Nat) : ckT (pR h a k x) o 6 = some () := by
  have q := ckO R
  unfold ckT at q ⊢
  rw [hT_pR]; exact q
theorem ckO2 {h : hp} {o tp bx : Nat} {L : List Int32} (R : RD h o tp bx L) (a k : Nat) (x : Int32) : ckT (pI h a k x) o 6 = some () := by
  have q := ckO R
  unfold ckT at q ⊢
  rw [hT_pI]; exact q
theorem name_o {h : hp} {o tp bx p m : Nat} {L : List Int32} {sub : hp → Nat → Nat → TY m → Nat → Prop} (hsub : ∀ g lo hi, sub g lo hi (tyN m) 0) (R : RD h o tp bx L) (z : ZH h) (r : RO h o tp L p) (hc : hereL L p = 64) :
    (∃ v e p' h', (bnd (pOne L 97 8 (p + 1)) fun v p1 => bnd (pSign L 61 p1) fun _ p2 => bnd (pExpr L p2) fun e p3 => bnd (pSign L 125 p3) fun _ p4 => .inl ((v, e), p4) : PR (Nat × EX)) = .inl ((v, e), p') ∧ v < 8 ∧ fX7_readName o h = some (64 + hN h, h') ∧ ES o tp h h' (6 + (p' - p)) (52 + 3 * (p' - p)) ∧ RO h' o tp L p' ∧ p + 1 < p' ∧ RepN (sub h' (64 + hN h) (64 + hN h')) h' (64 + hN h) (64 + hN h') (7, lnAt L p, iN v, 0, e, eN, tyN m, tyN m) (64 + hN h) ∧ hR h' (64 + hN h) 8 = 0 ∧ hI h' tp 7 = hI h tp 7 ||| bitN (iN v) ||| varsE e) ∨
    (∃ f h', (bnd (pOne L 97 8 (p + 1)) fun v p1 => bnd (pSign L 61 p1) fun _ p2 => bnd (pExpr L p2) fun e p3 => bnd (pSign L 125 p3) fun _ p4 => .inl ((v, e), p4) : PR (Nat × EX)) = .inr f ∧ p ≤ f ∧ f ≤ 160 ∧ fX7_readName o h = some (64 + hN h, h') ∧ ES o tp h h' (6 + (f - p)) (52 + 3 * (f - p)) ∧ RG h' o f ∧ hT h' (64 + hN h) = (5, 9)) := by
  have ho := R.2.2.2.2.2.2.2.2.1
  have htp := R.2.2.2.2.2.2.2.2.2.1
  have ne := R.2.2.2.2.2.2.2.2.2.2.2.1
  have hl := r.lt R
  have hlen := R.len
  obtain ⟨l1, l2⟩ := here_lt hc (by decide)
  obtain ⟨S0, a1, a2, a3, a4, a5, a6⟩ := nP_s z o 7 (hI h o 3) ho.2
  have W0 := VF.new z ho.2 7 (hI h o 3)
  have R0 := S0.rd R
  have r0 : RO (nP h 7 (hI h o 3)) o tp L p := ⟨by rw [a6 _ _ ho.2]; exact r.1, by rw [a6 _ _ ho.2]; exact r.2.1, by rw [a6 _ _ ho.2]; exact r.2.2.1, r.2.2.2⟩
  have S1 := SS.pO R0 S0.2.1 (k := 2) (iN (p + 1)) (by decide)
  have R1 := S1.rd R0
  have r1 := r0.step l1 (by rw [l2]; decide)
  have E01 : ES o tp h (pI (nP h 7 (hI h o 3)) o 2 (iN (p + 1))) 1 9 := (S0.tr S1).es
  have nV : ∀ j, ¬ KE o tp (64 + hN h) j := ke_old R (Nat.le_refl _)
  have W1 := W0.fg (S1.es (tp := tp)).1 nV
  -- the rest, step by step, with a fault told
  have t4 : ∀ (g : hp) (f a b : Nat) (vv : Int32) (rr : Nat → Nat), ES o tp h g a b → RG g o f → VF g (64 + hN h) 7 (hI h o 3) vv 0 rr → ∃ h', (((fX7_expect o 125 g).bind fun h29 => some (64 + hN h, h29)) = some (64 + hN h, h')) ∧ ES o tp h h' a b ∧ RG h' o f ∧ hT h' (64 + hN h) = (5, 9) := by
    intro g f a b vv rr E G W
    obtain ⟨h', e, S, G'⟩ := sign_g (E.rd R) E.2.1 G 125
    exact ⟨h', by rw [e, Option.bind_some], E.tr S.es, G', (W.fg S.es.1 nV).1⟩
  have lk : ∀ (g : hp) (x a b : Nat) (vv : Int32) (rr : Nat → Nat), ES o tp h g a b → VF g (64 + hN h) 7 (hI h o 3) vv 0 rr → ES o tp h (pR g (64 + hN h) 4 x) a b := by
    intro g x a b vv rr E W
    exact ⟨fgRn E.1 4 x (Nat.le_refl _), E.2.1.pR 4 x W.2.2.2, E.2.2.1, E.2.2.2⟩
  have t3 : ∀ (g : hp) (f a b : Nat) (vv : Int32) (rr : Nat → Nat), ES o tp h g a b → RG g o f → VF g (64 + hN h) 7 (hI h o 3) vv 0 rr → ∃ h', ((ckT g o 6).bind fun _ => bd2 (fX7_readExpression o g) fun v23 h24 => (pfR h24 (64 + hN h) 5 4 v23).bind fun h26 => (ckT h26 o 6).bind fun _ => (fX7_expect o 125 h26).bind fun h29 => some (64 + hN h, h29)) = some (64 + hN h, h') ∧ ES o tp h h' (a + 5) (b + 43) ∧ RG h' o f ∧ hT h' (64 + hN h) = (5, 9) := by
    intro g f a b vv rr E G W
    obtain ⟨x, g2, e, E2, G2⟩ := expr_g (E.rd R) E.2.1 G
    have E3 := E.tr E2
    have W2 := W.fg E2.1 nV
    obtain ⟨p1, W3⟩ := W2.r 4 x
    have E4 := lk g2 x _ _ _ _ E3 W2
    rw [ckO (E.rd R), Option.bind_some, e, bd2_s, p1, Option.bind_some, ckO' (E3.rd R), Option.bind_some]
    exact t4 _ f _ _ _ _ E4 G2 W3
  have t2 : ∀ (g : hp) (f a b : Nat) (vv : Int32) (rr : Nat → Nat), ES o tp h g a b → RG g o f → VF g (64 + hN h) 7 (hI h o 3) vv 0 rr → ∃ h', ((ckT g o 6).bind fun _ => (fX7_expect o 61 g).bind fun h20 => (ckT h20 o 6).bind fun _ => bd2 (fX7_readExpression o h20) fun v23 h24 => (pfR h24 (64 + hN h) 5 4 v23).bind fun h26 => (ckT h26 o 6).bind fun _ => (fX7_expect o 125 h26).bind fun h29 => some (64 + hN h, h29)) = some (64 + hN h, h') ∧ ES o tp h h' (a + 5) (b + 43) ∧ RG h' o f ∧ hT h' (64 + hN h) = (5, 9) := by
    intro g f a b vv rr E G W
    obtain ⟨g2, e, S, G2⟩ := sign_g (E.rd R) E.2.1 G 61
    rw [ckO (E.rd R), Option.bind_some, e, Option.bind_some]
    exact t3 g2 f a b vv rr (E.tr S.es) G2 (W.fg S.es.1 nV)
  have st : ∀ (v : Int32) (g : hp), fX7_readVariable o (pI (nP h 7 (hI h o 3)) o 2 (iN (p + 1))) = some (v, g) → VF g (64 + hN h) 7 (hI h o 3) 0 0 (fun _ => 0) → fX7_readName o h = ((ckT (pI g (64 + hN h) 2 v) o 6).bind fun _ => (fX7_expect o 61 (pI g (64 + hN h) 2 v)).bind fun h20 => (ckT h20 o 6).bind fun _ => bd2 (fX7_readExpression o h20) fun v23 h24 => (pfR h24 (64 + hN h) 5 4 v23).bind fun h26 => (ckT h26 o 6).bind fun _ => (fX7_expect o 125 h26).bind fun h29 => some (64 + hN h, h29)) := by
    intro v g e W
    unfold fX7_readName
    refine (nP_k R 7 _).trans ?_
    rw [gO R0, Option.bind_some, pO R0, Option.bind_some, r0.1, i_succ, ckO R1, Option.bind_some, e, bd2_s, (W.v v).1, Option.bind_some]
  rcases var_o R1 E01.2.1 r1 with ⟨k, k1, s1, g1, e1, E1, r2, m1⟩ | ⟨s1, v, g1, e1, E1, g2⟩
  · have E2 := E01.tr E1
    have W2 := W1.fg E1.1 nV
    have st1 := st _ _ e1 W2
    obtain ⟨_, W3⟩ := W2.v (iN k)
    have E3 : ES o tp h (pI g1 (64 + hN h) 2 (iN k)) 1 9 := ⟨fgIn E2.1 2 _ (Nat.le_refl _), E2.2.1.pI 2 _ W2.2.2.2, E2.2.2.1, E2.2.2.2⟩
    have R3 := E3.rd R
    have r3 : RO (pI g1 (64 + hN h) 2 (iN k)) o tp L (p + 2) := r2.nE _ (by omega)
    rw [ckO R3, Option.bind_some] at st1
    rcases sign_o R3 E3.2.1 r3 (c := 61) (by decide) with ⟨s4, g4, e4, S4, r4⟩ | ⟨s4, g4, e4, S4, q4⟩
    · have E4 := E3.tr (S4.es (tp := tp))
      have W4 := W3.fg (S4.es (tp := tp)).1 nV
      have R4 := E4.rd R
      rw [e4, Option.bind_some, ckO R4, Option.bind_some] at st1
      have n4 := S4.1.1
      rw [hN_pI] at n4
      rcases expr_o R4 E4.2.1 r4 with ⟨e, p5, g5, s5, e5, E5, r5, q5, V5, m5⟩ | ⟨f, v, g5, s5, b1, b2, e5, E5, q5⟩
      · have E6 := E4.tr E5
        have W5 := W4.fg E5.1 nV
        obtain ⟨p6, W6⟩ := W5.r 4 (64 + hN g4)
        have E7 := lk g5 (64 + hN g4) _ _ _ _ E6 W5
        have R7 := E7.rd R
        have r7 : RO (pR g5 (64 + hN h) 4 (64 + hN g4)) o tp L p5 := r5
        rw [e5, bd2_s, p6, Option.bind_some, ckO R7, Option.bind_some] at st1
        have hVg : 64 + hN h < 64 + hN g4 := W4.2.2.2
        rcases sign_o R7 E7.2.1 r7 (c := 125) (by decide) with ⟨s8, g8, e8, S8, r8⟩ | ⟨s8, g8, e8, S8, q8⟩
        · have W8 := W6.fg (S8.es (tp := tp)).1 nV
          have E8 := E7.tr (S8.es (tp := tp))
          have n8 := S8.1.1
          rw [hN_pR] at n8
          refine .inl ⟨k, e, p5 + 1, g8, by rw [s1, bnd_l, s4, bnd_l, s5, bnd_l, s8, bnd_l], k1, st1.trans (by rw [e8, Option.bind_some]), ⟨E8.1, E8.2.1, by have := E8.2.2.1; omega, by have := E8.2.2.2; omega⟩, r8, by omega, ⟨Nat.le_refl _, W8.2.2.2, W8.1, (show (7 : Nat) ≤ 7 by decide), by rw [W8.2.1]; rfl, by rw [W8.2.1]; exact r.2.1, by rw [W8.2.1]; rfl, Nat.zero_le _, by rw [W8.2.1]; rfl, fun _ => ?_, fun q => absurd q (show (7 : Nat) ≠ 2 by decide), by rw [W8.2.2.1]; exact hsub _ _ _, by rw [W8.2.2.1]; exact hsub _ _ _⟩, by rw [W8.2.2.1]; rfl, ?_⟩
          · rw [W8.2.2.1]
            have V6 : RepE (pR g5 (64 + hN h) 4 (64 + hN g4)) (64 + hN g4) (64 + hN g5) (64 + hN g4) e := V5.fg (P := fun x k => x = 64 + hN h) (fgR1 rfl) (Nat.le_refl _) (fun x k h1 _ q => by omega) (Nat.le_refl _) (Nat.le_refl _)
            exact V6.fg S8.1 (Nat.le_refl _) (fun x k h1 _ q => by have := q.1; omega) (by omega) (by omega)
          · rw [S8.tp R7, hI_pR, m5, S4.tp R3, hI_pI, if_neg (by omega), m1, S1.tp R0, a6 _ _ htp.2]
        · have E8 := E7.tr (S8.es (tp := tp))
          have l5 := r5.lt (E6.rd R)
          exact .inr ⟨p5, g8, by rw [s1, bnd_l, s4, bnd_l, s5, bnd_l, s8]; rfl, by omega, l5, st1.trans (by rw [e8, Option.bind_some]), ⟨E8.1, E8.2.1, by have := E8.2.2.1; omega, by have := E8.2.2.2; omega⟩, q8, (W6.fg (S8.es (tp := tp)).1 nV).1⟩
      · have E6 := E4.tr E5
        have W5 := W4.fg E5.1 nV
        obtain ⟨p6, W6⟩ := W5.r 4 v
        have E7 := lk g5 v _ _ _ _ E6 W5
        rw [e5, bd2_s, p6, Option.bind_some, ckO (E7.rd R), Option.bind_some] at st1
        obtain ⟨h', j1, j2, j3, j4⟩ := t4 _ f _ _ _ _ E7 (show RG (pR g5 (64 + hN h) 4 v) o f from q5) W6
        exact .inr ⟨f, h', by rw [s1, bnd_l, s4, bnd_l, s5]; rfl, by omega, b2, st1.trans j1, ⟨j2.1, j2.2.1, by have := j2.2.2.1; omega, by have := j2.2.2.2; omega⟩, j3, j4⟩
    · rw [e4, Option.bind_some] at st1
      obtain ⟨h', j1, j2, j3, j4⟩ := t3 g4 (p + 2) _ _ _ _ (E3.tr (S4.es (tp := tp))) q4 (W3.fg (S4.es (tp := tp)).1 nV)
      exact .inr ⟨p + 2, h', by rw [s1, bnd_l, s4]; rfl, by omega, by have := r2.2.2.2; omega, st1.trans j1, ⟨j2.1, j2.2.1, by have := j2.2.2.1; omega, by have := j2.2.2.2; omega⟩, j3, j4⟩
  · have E2 := E01.tr E1
    have W2 := W1.fg E1.1 nV
    have st1 := st _ _ e1 W2
    obtain ⟨_, W3⟩ := W2.v v
    have E3 : ES o tp h (pI g1 (64 + hN h) 2 v) 1 9 := ⟨fgIn E2.1 2 _ (Nat.le_refl _), E2.2.1.pI 2 _ W2.2.2.2, E2.2.2.1, E2.2.2.2⟩
    obtain ⟨h', j1, j2, j3, j4⟩ := t2 _ (p + 1) 1 9 _ _ E3 (g2.nE _ (by omega)) W3
    exact .inr ⟨p + 1, h', by rw [s1]; rfl, by omega, by omega, st1.trans j1, ⟨j2.1, j2.2.1, by have := j2.2.2.1; omega, by have := j2.2.2.2; omega⟩, j3, j4⟩

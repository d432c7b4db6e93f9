/-! the class's reader: above, part -/
def QS (o tp bx : Nat) (h h' : hp) (a b : Nat) : Prop := FG (KP o tp bx) h h' ∧ ZH h' ∧ hN h' ≤ hN h + a ∧ hL h' ≤ hL h + b
theorem QS.tr {o tp bx a b c d : Nat} {h h1 h2 : hp} (x : QS o tp bx h h1 a b) (y : QS o tp bx h1 h2 c d) : QS o tp bx h h2 (a + c) (b + d) :=
  ⟨x.1.tr y.1, y.2.1, by have := x.2.2.1; have := y.2.2.1; omega, by have := x.2.2.2; have := y.2.2.2; omega⟩
theorem QS.up {o tp bx a b c d : Nat} {h h1 : hp} (x : QS o tp bx h h1 a b) (y : a ≤ c) (z : b ≤ d) : QS o tp bx h h1 c d :=
  ⟨x.1, x.2.1, by have := x.2.2.1; omega, by have := x.2.2.2; omega⟩
theorem ES.qs {o tp bx a b : Nat} {h h1 : hp} (x : ES o tp h h1 a b) : QS o tp bx h h1 a b := ⟨x.1.up fun _ _ q => by
    rcases q with q | q
    · exact .inl q
    · exact .inr (.inl ⟨q.1, .inr (.inr q.2)⟩), x.2.1, x.2.2.1, x.2.2.2⟩
theorem QS.rd {o tp bx a b : Nat} {h h1 : hp} {L : List Int32} (x : QS o tp bx h h1 a b) (R : RD h o tp bx L) : RD h1 o tp bx L := R.fg x.1
theorem above_o {h : hp} {o tp bx p m : Nat} {L : List Int32} {sub : hp → Nat → Nat → TY m → Nat → Prop} (hsub : ∀ g lo hi, sub g lo hi (tyN m) 0) (R : RD h o tp bx L) (z : ZH h) (r : RO h o tp L p) (hc : hereL L p = 94) (blk : Bool) :
    (∃ p' h', (if blk = true then bnd (pSign L 125 (p + 1)) fun _ p1 => .inl ((), p1) else .inr p : PR Unit) = .inl ((), p') ∧ fX7_readAbove o (if blk then 1 else 0) h = some (64 + hN h, h') ∧ SS o h h' 1 9 ∧ RO h' o tp L p' ∧ p + 1 < p' ∧ RepN (sub h' (64 + hN h) (64 + hN h')) h' (64 + hN h) (64 + hN h') (5, lnAt L p, 0, 0, eN, eN, tyN m, tyN m) (64 + hN h) ∧ hR h' (64 + hN h) 8 = 0) ∨
    (∃ f h', (if blk = true then bnd (pSign L 125 (p + 1)) fun _ p1 => .inl ((), p1) else .inr p : PR Unit) = .inr f ∧ p ≤ f ∧ f ≤ 160 ∧ fX7_readAbove o (if blk then 1 else 0) h = some (64 + hN h, h') ∧ SS o h h' 1 9 ∧ RG h' o f ∧ hT h' (64 + hN h) = (5, 9)) := by
  have ho := R.2.2.2.2.2.2.2.2.1
  have hl := r.lt R
  obtain ⟨l1, l2⟩ := here_lt hc (by decide)
  obtain ⟨S0, a1, a2, a3, a4, a5, a6⟩ := nP_s z o 5 (hI h o 3) ho.2
  have R0 := S0.rd R
  have r0 : RO (nP h 5 (hI h o 3)) o tp L p := ⟨by rw [a6 _ _ ho.2]; exact r.1, by rw [a6 _ _ ho.2]; exact r.2.1, by rw [a6 _ _ ho.2]; exact r.2.2.1, r.2.2.2⟩
  have oV : ∀ g, SS o (nP h 5 (hI h o 3)) g 0 0 → hT g (64 + hN h) = (5, 9) ∧ (∀ j, hI g (64 + hN h) j = if j = 0 then 5 else if j = 1 then hI h o 3 else 0) ∧ (∀ j, hR g (64 + hN h) j = 0) ∧ 65 + hN h ≤ 64 + hN g := fun g S => by
    have n1 := S.1.1
    rw [a2] at n1
    have e2 : ∀ j, ¬ KO o (64 + hN h) j := fun j q => by have := q.1; omega
    refine ⟨?_, fun j => ?_, fun j => ?_, by omega⟩
    · rw [S.1.2.2.1 _ (by rw [a2]; omega)]; exact a1
    · rw [(S.1.2.2.2 _ j (by rw [a2]; omega) (e2 j)).1]; exact a4 j
    · rw [(S.1.2.2.2 _ j (by rw [a2]; omega) (e2 j)).2.2]; exact a5 j
  have st : fX7_readAbove o (if blk then 1 else 0) h = if (if blk = true then (1 : Int32) else 0) = 0 then ((fX7_refuse o (nP h 5 (hI h o 3))).bind fun h17 => (gfI h17 o 6 2).bind fun v9 => (pfI h17 o 6 2 (v9 + 1)).bind fun h11 => (ckT h11 o 6).bind fun _ => (fX7_expect o 125 h11).bind fun h14 => some (64 + hN h, h14)) else ((gfI (nP h 5 (hI h o 3)) o 6 2).bind fun v9 => (pfI (nP h 5 (hI h o 3)) o 6 2 (v9 + 1)).bind fun h11 => (ckT h11 o 6).bind fun _ => (fX7_expect o 125 h11).bind fun h14 => some (64 + hN h, h14)) := by
    unfold fX7_readAbove
    refine (nP_k R 5 _).trans ?_
    rw [jn_e]
    by_cases c : (if blk = true then (1 : Int32) else 0) = 0
    · rw [if_pos c, if_pos c, ckO R0, Option.bind_some]
    · rw [if_neg c, if_neg c]
  cases blk with
  | true =>
    rw [if_pos rfl, if_neg z10, gO R0, Option.bind_some, pO R0, Option.bind_some, r0.1, i_succ] at st
    have S1 := SS.pO R0 S0.2.1 (k := 2) (iN (p + 1)) (by decide)
    have R1 := S1.rd R0
    rw [ckO R1, Option.bind_some] at st
    rcases sign_o R1 S1.2.1 (r0.step l1 (by rw [l2]; decide)) (c := 125) (by decide) with ⟨s3, h16, e3, S3, r3⟩ | ⟨s3, h16, e3, S3, g3⟩
    · obtain ⟨o1, o2, o3, o4⟩ := oV h16 (S1.tr S3)
      refine .inl ⟨p + 2, h16, by rw [if_pos rfl, s3, bnd_l], st.trans (by rw [e3, Option.bind_some]), (S0.tr S1).tr S3, r3, by omega, ⟨Nat.le_refl _, by omega, o1, (show (5 : Nat) ≤ 7 by decide), by rw [o2]; rfl, by rw [o2]; exact r.2.1, by rw [o2]; rfl, Nat.zero_le _, by rw [o2]; rfl, fun q => ?_, fun q => absurd q (show (5 : Nat) ≠ 2 by decide), by rw [o3]; exact hsub _ _ _, by rw [o3]; exact hsub _ _ _⟩, o3 8⟩
      have q' : (5 : Nat) = 1 ∨ (5 : Nat) = 2 ∨ (5 : Nat) = 3 ∨ (5 : Nat) = 7 := q
      omega
    · obtain ⟨o1, o2, o3, o4⟩ := oV h16 (S1.tr S3)
      exact .inr ⟨p + 1, h16, by rw [if_pos rfl, s3]; rfl, by omega, by have := R.len; omega, st.trans (by rw [e3, Option.bind_some]), (S0.tr S1).tr S3, g3, o1⟩
  | false =>
    rw [if_neg (by decide), if_pos rfl, refuse_p R0 r0.2.2.1, Option.bind_some, r0.1] at st
    have S1 := SS.pO R0 S0.2.1 (k := 4) (iN p) (by decide)
    have R1 := S1.rd R0
    have g1 : RG (pI (nP h 5 (hI h o 3)) o 4 (iN p)) o p := RG.of (by omega)
    have S2 := SS.pO R1 S1.2.1 (k := 2) (hI (pI (nP h 5 (hI h o 3)) o 4 (iN p)) o 2 + 1) (by decide)
    have R2 := S2.rd R1
    have g2 := g1.pO (k := 2) (hI (pI (nP h 5 (hI h o 3)) o 4 (iN p)) o 2 + 1) (by decide)
    rw [gO R1, Option.bind_some, pO R1, Option.bind_some, ckO R2, Option.bind_some] at st
    obtain ⟨h16, e3, S3, g3⟩ := sign_g R2 S2.2.1 g2 125
    obtain ⟨o1, o2, o3, o4⟩ := oV h16 ((S1.tr S2).tr S3)
    exact .inr ⟨p, h16, by rw [if_neg (by decide)], Nat.le_refl _, hl, st.trans (by rw [e3, Option.bind_some]), ((S0.tr S1).tr S2).tr S3, g3, o1⟩
theorem part_o {h : hp} {o tp bx p m : Nat} {L : List Int32} {sub : hp → Nat → Nat → TY m → Nat → Prop} (hsub : ∀ g lo hi, sub g lo hi (tyN m) 0) (R : RD h o tp bx L) (z : ZH h) (r : RO h o tp L p) (hc : hereL L p = 62) :
    (∃ k p' h', (bnd (pOne L 48 6 (p + 1)) fun k p1 => bnd (pSign L 125 p1) fun _ p2 => .inl (k, p2) : PR Nat) = .inl (k, p') ∧ k < 6 ∧ fX7_readPart o h = some (64 + hN h, h') ∧ QS o tp bx h h' 1 9 ∧ RO h' o tp L p' ∧ p + 1 < p' ∧ RepN (sub h' (64 + hN h) (64 + hN h')) h' (64 + hN h) (64 + hN h') (6, lnAt L p, iN k, 0, eN, eN, tyN m, tyN m) (64 + hN h) ∧ hR h' (64 + hN h) 8 = 0 ∧ hI h' tp 6 = hI h tp 6 ||| bitN (iN k) ∧ hI h' tp 4 = hI h tp 4 ∧ hI h' tp 7 = hI h tp 7 ∧ ∀ j, hR h' bx j = hR h bx j) ∨
    (∃ f h', (bnd (pOne L 48 6 (p + 1)) fun k p1 => bnd (pSign L 125 p1) fun _ p2 => .inl (k, p2) : PR Nat) = .inr f ∧ p ≤ f ∧ f ≤ 160 ∧ fX7_readPart o h = some (64 + hN h, h') ∧ QS o tp bx h h' 1 9 ∧ RG h' o f ∧ hT h' (64 + hN h) = (5, 9)) := by
  have ho := R.2.2.2.2.2.2.2.2.1
  have htp := R.2.2.2.2.2.2.2.2.2.1
  have hbx := R.2.2.2.2.2.2.2.2.2.2.1
  have ne := R.2.2.2.2.2.2.2.2.2.2.2.1
  have hl := r.lt R
  have hlen := R.len
  obtain ⟨l1, l2⟩ := here_lt hc (by decide)
  obtain ⟨S0, a1, a2, a3, a4, a5, a6⟩ := nP_s z o 6 (hI h o 3) ho.2
  have R0 := S0.rd R
  have r0 : RO (nP h 6 (hI h o 3)) o tp L p := ⟨by rw [a6 _ _ ho.2]; exact r.1, by rw [a6 _ _ ho.2]; exact r.2.1, by rw [a6 _ _ ho.2]; exact r.2.2.1, r.2.2.2⟩
  have S1 := SS.pO R0 S0.2.1 (k := 2) (iN (p + 1)) (by decide)
  have R1 := S1.rd R0
  have r1 := r0.step l1 (by rw [l2]; decide)
  have S01 := S0.tr S1
  -- from the number on
  have rest : ∀ (v : Int32) (g : hp), SS o (pI (nP h 6 (hI h o 3)) o 2 (iN (p + 1))) g 0 0 → fX7_readOneOf o 48 6 (pI (nP h 6 (hI h o 3)) o 2 (iN (p + 1))) = some (v, g) →
      fX7_readPart o h = ((fX7_expect o 125 (pI (pI g (64 + hN h) 2 v) tp 6 (hI h tp 6 ||| bitN v))).bind fun h30 => some (64 + hN h, h30)) ∧ QS o tp bx h (pI (pI g (64 + hN h) 2 v) tp 6 (hI h tp 6 ||| bitN v)) 1 9 ∧ hT g (64 + hN h) = (5, 9) ∧ (∀ j, hI g (64 + hN h) j = if j = 0 then 6 else if j = 1 then hI h o 3 else 0) ∧ (∀ j, hR g (64 + hN h) j = 0) ∧ 65 + hN h ≤ 64 + hN g := by
    intro v g S e
    have Rg := S.rd R1
    have n1 := S.1.1
    rw [hN_pI, a2] at n1
    have e2 : ∀ j, ¬ KO o (64 + hN h) j := fun j q => by have := q.1; omega
    have tV : hT g (64 + hN h) = (5, 9) := by rw [S.1.2.2.1 _ (by rw [hN_pI, a2]; omega), hT_pI]; exact a1
    have pf : pfI g (64 + hN h) 5 2 v = some (pI g (64 + hN h) 2 v) := by unfold pfI; rw [tV]; rfl
    have F2 : FG (KO o) h (pI g (64 + hN h) 2 v) := fgIn (S01.tr S).1 2 v (Nat.le_refl _)
    have R2 : RD (pI g (64 + hN h) 2 v) o tp bx L := R.fg (F2.up fun _ _ q => .inl q)
    have gV : gfI (pI g (64 + hN h) 2 v) (64 + hN h) 5 2 = some v := by unfold gfI; rw [hT_pI, tV, if_pos rfl, hI_pI, if_pos ⟨rfl, rfl⟩]
    have m6 : hI (pI g (64 + hN h) 2 v) tp 6 = hI h tp 6 := (F2.2.2.2 tp 6 htp.2 (fun q => ne.1 q.1.symm)).1
    have n2 := (S01.tr S).2.2.1
    have n3 := (S01.tr S).2.2.2
    have z2 : ZH (pI g (64 + hN h) 2 v) := S.2.1.pI 2 v (by omega)
    refine ⟨?_, ⟨(F2.up fun _ _ q => .inl q).tr (FG.pI (.inr (.inl ⟨rfl, .inr (.inl rfl)⟩))), z2.pI 6 _ (by rw [hN_pI]; omega), by rw [hN_pI, hN_pI]; omega, by rw [hL_pI, hL_pI]; omega⟩, tV, fun j => ?_, fun j => ?_, by omega⟩
    · unfold fX7_readPart
      refine (nP_k R 6 _).trans ?_
      rw [gO R0, Option.bind_some, pO R0, Option.bind_some, r0.1, i_succ, ckO R1, Option.bind_some, e, bd2_s, pf, Option.bind_some, gOR R2, Option.bind_some, Option.bind_some, R2.2.2.2.1, gTp R2, Option.bind_some, gV, Option.bind_some, pTp R2, Option.bind_some, m6]
      have c6 : ckT (pI (pI g (64 + hN h) 2 v) tp 6 (hI h tp 6 ||| ((1 : Int32) <<< (v &&& 31)))) o 6 = some () := by
        have q := ckO R2
        unfold ckT at q ⊢
        rw [hT_pI]; exact q
      rw [c6, Option.bind_some]
      rfl
    · rw [(S.1.2.2.2 _ j (by rw [hN_pI, a2]; omega) (e2 j)).1, hI_pI, if_neg (by omega)]; exact a4 j
    · rw [(S.1.2.2.2 _ j (by rw [hN_pI, a2]; omega) (e2 j)).2.2, hR_pI]; exact a5 j
  rcases one_o R1 S1.2.1 r1 (lo := 48) (n := 6) (by decide) (by decide) with ⟨k, k1, s, g, e, S, r2⟩ | ⟨s, g, e, S, g2⟩
  · obtain ⟨st, Q, b1, b2, b3, b4⟩ := rest (iN k) g S e
    have R3 := Q.rd R
    have r3 : RO (pI (pI g (64 + hN h) 2 (iN k)) tp 6 (hI h tp 6 ||| bitN (iN k))) o tp L (p + 2) := (r2.nE _ (by omega)).nE _ (by omega)
    have nVt : 64 + hN h ≠ tp := by omega
    have n1 := S.1.1
    rw [hN_pI, a2] at n1
    rcases sign_o R3 Q.2.1 r3 (c := 125) (by decide) with ⟨s3, h16, e3, S3, r4⟩ | ⟨s3, h16, e3, S3, g4⟩
    · have n3 := S3.1.1
      rw [hN_pI, hN_pI] at n3
      have e2 : ∀ j, ¬ KO o (64 + hN h) j := fun j q => by have := q.1; omega
      have fr := fun j => S3.1.2.2.2 (64 + hN h) j (by rw [hN_pI, hN_pI]; omega) (e2 j)
      have oI : ∀ j, hI h16 (64 + hN h) j = if j = 2 then iN k else if j = 0 then 6 else if j = 1 then hI h o 3 else 0 := fun j => by
        rw [(fr j).1, hI_pI, if_neg (fun q => nVt q.1), hI_pI]
        by_cases c : j = 2
        · rw [if_pos ⟨rfl, c⟩, if_pos c]
        · rw [if_neg (fun q => c q.2), if_neg c]; exact b2 j
      have oR : ∀ j, hR h16 (64 + hN h) j = 0 := fun j => by rw [(fr j).2.2]; exact b3 j
      have oT : hT h16 (64 + hN h) = (5, 9) := by rw [S3.1.2.2.1 _ (by rw [hN_pI, hN_pI]; omega)]; exact b1
      have old : ∀ x j, x < 64 + hN h → x ≠ o → ¬ (x = tp ∧ j = 6) → hI h16 x j = hI h x j := fun x j hx h1 h2 => by
        rw [(S3.1.2.2.2 x j (by rw [hN_pI, hN_pI]; omega) (fun q => h1 q.1)).1, hI_pI, if_neg h2, hI_pI, if_neg (by omega)]
        exact ((S01.tr S).1.2.2.2 x j hx (fun q => h1 q.1)).1
      refine .inl ⟨k, p + 3, h16, by rw [s, bnd_l, s3, bnd_l], k1, st.trans (by rw [e3, Option.bind_some]), Q.tr S3.es.qs, r4, by omega, ⟨Nat.le_refl _, by omega, oT, (show (6 : Nat) ≤ 7 by decide), by rw [oI]; rfl, by rw [oI]; exact r.2.1, by rw [oI]; rfl, Nat.zero_le _, by rw [oI]; rfl, fun q => ?_, fun q => absurd q (show (6 : Nat) ≠ 2 by decide), by rw [oR]; exact hsub _ _ _, by rw [oR]; exact hsub _ _ _⟩, oR 8, ?_, old tp 4 htp.2 ne.1.symm (by omega), old tp 7 htp.2 ne.1.symm (by omega), fun j => ?_⟩
      · have q' : (6 : Nat) = 1 ∨ (6 : Nat) = 2 ∨ (6 : Nat) = 3 ∨ (6 : Nat) = 7 := q
        omega
      · rw [S3.tp R3, hI_pI, if_pos ⟨rfl, rfl⟩]
      · rw [(S3.1.2.2.2 bx j (by rw [hN_pI, hN_pI]; omega) (fun q => ne.2.1 q.1.symm)).2.2, hR_pI, hR_pI]
        exact ((S01.tr S).1.2.2.2 bx j hbx.2 (fun q => ne.2.1 q.1.symm)).2.2
    · exact .inr ⟨p + 2, h16, by rw [s, bnd_l, s3]; rfl, by omega, by have := r2.2.2.2; omega, st.trans (by rw [e3, Option.bind_some]), Q.tr S3.es.qs, g4, by rw [S3.1.2.2.1 _ (by rw [hN_pI, hN_pI]; omega)]; exact b1⟩
  · obtain ⟨st, Q, b1, b2, b3, b4⟩ := rest 0 g S e
    have R3 := Q.rd R
    have g3 : RG (pI (pI g (64 + hN h) 2 0) tp 6 (hI h tp 6 ||| bitN 0)) o (p + 1) := (g2.nE _ (by omega)).nE _ (by omega)
    obtain ⟨h16, e3, S3, g4⟩ := sign_g R3 Q.2.1 g3 125
    exact .inr ⟨p + 1, h16, by rw [s]; rfl, by omega, by omega, st.trans (by rw [e3, Option.bind_some]), Q.tr S3.es.qs, g4, by rw [S3.1.2.2.1 _ (by rw [hN_pI, hN_pI]; omega)]; exact b1⟩

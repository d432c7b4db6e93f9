/-! the class's reader: pieces with nothing inside -/
theorem ke_old {o tp bx V : Nat} {h : hp} {L : List Int32} (R : RD h o tp bx L) (hV : 64 + hN h ≤ V) (k : Nat) : ¬ KE o tp V k := fun q => by
  have := R.2.2.2.2.2.2.2.2.1
  have := R.2.2.2.2.2.2.2.2.2.1
  unfold KE KO at q
  omega
theorem show_o {h : hp} {o tp bx p m : Nat} {L : List Int32} {sub : hp → Nat → Nat → TY m → Nat → Prop} (hsub : ∀ g lo hi, sub g lo hi (tyN m) 0) (R : RD h o tp bx L) (z : ZH h) (r : RO h o tp L p) :
    (∃ e p' h', (bnd (pExpr L p) fun e p1 => bnd (pSign L 125 p1) fun _ p2 => .inl (e, p2) : PR EX) = .inl (e, p') ∧ fX7_readShow o h = some (64 + hN h, h') ∧ ES o tp h h' (6 + (p' - p)) (52 + 3 * (p' - p)) ∧ RO h' o tp L p' ∧ p + 1 < p' ∧ RepN (sub h' (64 + hN h) (64 + hN h')) h' (64 + hN h) (64 + hN h') (1, lnAt L p, 0, 0, e, eN, tyN m, tyN m) (64 + hN h) ∧ hR h' (64 + hN h) 8 = 0 ∧ hI h' tp 7 = hI h tp 7 ||| varsE e) ∨
    (∃ f h', (bnd (pExpr L p) fun e p1 => bnd (pSign L 125 p1) fun _ p2 => .inl (e, p2) : PR EX) = .inr f ∧ p ≤ f ∧ f ≤ 160 ∧ fX7_readShow o h = some (64 + hN h, h') ∧ ES o tp h h' (6 + (f - p)) (52 + 3 * (f - p)) ∧ RG h' o f ∧ hT h' (64 + hN h) = (5, 9)) := by
  have ho := R.2.2.2.2.2.2.2.2.1
  have htp := R.2.2.2.2.2.2.2.2.2.1
  obtain ⟨S0, a1, a2, a3, a4, a5, a6⟩ := nP_s z o 1 (hI h o 3) ho.2
  have R0 := S0.rd R
  have r0 : RO (nP h 1 (hI h o 3)) o tp L p := ⟨by rw [a6 _ _ ho.2]; exact r.1, by rw [a6 _ _ ho.2]; exact r.2.1, by rw [a6 _ _ ho.2]; exact r.2.2.1, r.2.2.2⟩
  have st : ∀ x h11, fX7_readExpression o (nP h 1 (hI h o 3)) = some (x, h11) → FG (KE o tp) (nP h 1 (hI h o 3)) h11 → RD h11 o tp bx L → fX7_readShow o h = (fX7_expect o 125 (pR h11 (64 + hN h) 4 x)).bind fun h16 => some (64 + hN h, h16) := by
    intro x h11 e F R11
    have t : hT h11 (64 + hN h) = (5, 9) := by rw [F.2.2.1 _ (by rw [a2]; omega)]; exact a1
    have pf : pfR h11 (64 + hN h) 5 4 x = some (pR h11 (64 + hN h) 4 x) := by unfold pfR; rw [t]; rfl
    have c6 : ckT (pR h11 (64 + hN h) 4 x) o 6 = some () := by
      have q := ckO R11
      unfold ckT at q ⊢
      rw [hT_pR]; exact q
    unfold fX7_readShow
    refine (nP_k R 1 _).trans ?_
    rw [ckO R0, Option.bind_some, e, bd2_s, pf, Option.bind_some, c6, Option.bind_some]
  have lnk : ∀ x h11, FG (KE o tp) (nP h 1 (hI h o 3)) h11 → ZH h11 → FG (KE o tp) h (pR h11 (64 + hN h) 4 x) ∧ ZH (pR h11 (64 + hN h) 4 x) := by
    intro x h11 F zz
    have n1 := F.1
    rw [a2] at n1
    exact ⟨fgRn ((S0.1.up fun _ _ q => .inl q).tr F) 4 x (Nat.le_refl _), zz.pR 4 x (by omega)⟩
  have oV : ∀ x h11 h16, FG (KE o tp) (nP h 1 (hI h o 3)) h11 → SS o (pR h11 (64 + hN h) 4 x) h16 0 0 → hT h16 (64 + hN h) = (5, 9) ∧ (∀ j, hI h16 (64 + hN h) j = if j = 0 then 1 else if j = 1 then hI h o 3 else 0) ∧ ∀ j, hR h16 (64 + hN h) j = if j = 4 then x else 0 := by
    intro x h11 h16 F S
    have n1 := F.1
    rw [a2] at n1
    have e1 : ∀ j, ¬ KE o tp (64 + hN h) j := ke_old R (Nat.le_refl _)
    have e2 : ∀ j, ¬ KO o (64 + hN h) j := fun j q => e1 j (.inl q)
    refine ⟨?_, fun j => ?_, fun j => ?_⟩
    · rw [S.1.2.2.1 _ (by rw [hN_pR]; omega), hT_pR, F.2.2.1 _ (by rw [a2]; omega)]; exact a1
    · rw [(S.1.2.2.2 _ j (by rw [hN_pR]; omega) (e2 j)).1, hI_pR, (F.2.2.2 _ j (by rw [a2]; omega) (e1 j)).1]; exact a4 j
    · rw [(S.1.2.2.2 _ j (by rw [hN_pR]; omega) (e2 j)).2.2, hR_pR]
      by_cases c : j = 4
      · rw [if_pos ⟨rfl, c⟩, if_pos c]
      · rw [if_neg (fun q => c q.2), if_neg c, (F.2.2.2 _ j (by rw [a2]; omega) (e1 j)).2.2]; exact a5 j
  rcases expr_o R0 S0.2.1 r0 with ⟨e, p1, h11, s1, e1, E1, r1, q1, V1, m1⟩ | ⟨f, v, h11, s1, b1, b2, e1, E1, g1⟩
  · have R11 := E1.rd R0
    have s := st _ h11 e1 E1.1 R11
    obtain ⟨F2, z2⟩ := lnk (64 + hN (nP h 1 (hI h o 3))) h11 E1.1 E1.2.1
    have n1 := E1.2.2.1
    have n2 := E1.2.2.2
    have n0 := E1.1.1
    rw [a2] at n1 n0
    rw [a3] at n2
    have R2 : RD (pR h11 (64 + hN h) 4 (64 + hN (nP h 1 (hI h o 3)))) o tp bx L := ES.rd (a := 160 + p1) (b := 1000 + 3 * p1) ⟨F2, z2, by rw [hN_pR]; omega, by rw [hL_pR]; omega⟩ R
    have r2 : RO (pR h11 (64 + hN h) 4 (64 + hN (nP h 1 (hI h o 3)))) o tp L p1 := r1
    rcases sign_o R2 z2 r2 (c := 125) (by decide) with ⟨s3, h16, e3, S3, r3⟩ | ⟨s3, h16, e3, S3, g3⟩
    · obtain ⟨o1, o2, o3⟩ := oV _ h11 h16 E1.1 S3
      have n3 := S3.1.1
      have n4 := S3.2.2.1
      have n5 := S3.2.2.2
      rw [hN_pR] at n3 n4
      rw [hL_pR] at n5
      refine .inl ⟨e, p1 + 1, h16, by rw [s1, bnd_l, s3, bnd_l], by rw [s, e3, Option.bind_some], ⟨F2.tr (S3.1.up fun _ _ q => .inl q), S3.2.1, by omega, by omega⟩, r3, by omega, ⟨Nat.le_refl _, by omega, o1, (show (1 : Nat) ≤ 7 by decide), by rw [o2]; rfl, ?_, by rw [o2]; rfl, Nat.zero_le _, by rw [o2]; rfl, fun _ => ?_, fun q => absurd q (show (1 : Nat) ≠ 2 by decide), ?_, ?_⟩, by rw [o3]; rfl, ?_⟩
      · rw [o2]; exact r.2.1
      · rw [o3, if_pos rfl]
        have V2 : RepE (pR h11 (64 + hN h) 4 (64 + hN (nP h 1 (hI h o 3)))) (64 + hN (nP h 1 (hI h o 3))) (64 + hN h11) (64 + hN (nP h 1 (hI h o 3))) e := V1.fg (P := fun x k => x = 64 + hN h) (fgR1 rfl) (Nat.le_refl _) (fun x k h1 _ q => by rw [a2] at h1; omega) (Nat.le_refl _) (Nat.le_refl _)
        exact V2.fg S3.1 (Nat.le_refl _) (fun x k h1 _ q => by have := q.1; rw [a2] at h1; omega) (by rw [a2]; omega) (by omega)
      · rw [o3]; exact hsub _ _ _
      · rw [o3]; exact hsub _ _ _
      · rw [S3.tp R2, hI_pR, m1, a6 _ _ htp.2]
    · obtain ⟨o1, o2, o3⟩ := oV _ h11 h16 E1.1 S3
      have n4 := S3.2.2.1
      have n5 := S3.2.2.2
      rw [hN_pR] at n4
      rw [hL_pR] at n5
      have l1 := r1.lt R11
      exact .inr ⟨p1, h16, by rw [s1, bnd_l, s3]; rfl, by omega, l1, by rw [s, e3, Option.bind_some], ⟨F2.tr (S3.1.up fun _ _ q => .inl q), S3.2.1, by omega, by omega⟩, g3, o1⟩
  · have R11 := E1.rd R0
    have s := st v h11 e1 E1.1 R11
    obtain ⟨F2, z2⟩ := lnk v h11 E1.1 E1.2.1
    have n1 := E1.2.2.1
    have n2 := E1.2.2.2
    have n0 := E1.1.1
    rw [a2] at n1 n0
    rw [a3] at n2
    have R2 : RD (pR h11 (64 + hN h) 4 v) o tp bx L := ES.rd (a := 160 + f) (b := 1000 + 3 * f) ⟨F2, z2, by rw [hN_pR]; omega, by rw [hL_pR]; omega⟩ R
    obtain ⟨h16, e3, S3, g3⟩ := sign_g R2 z2 (show RG (pR h11 (64 + hN h) 4 v) o f from g1) 125
    obtain ⟨o1, o2, o3⟩ := oV _ h11 h16 E1.1 S3
    have n4 := S3.2.2.1
    have n5 := S3.2.2.2
    rw [hN_pR] at n4
    rw [hL_pR] at n5
    exact .inr ⟨f, h16, by rw [s1]; rfl, b1, b2, by rw [s, e3, Option.bind_some], ⟨F2.tr (S3.1.up fun _ _ q => .inl q), S3.2.1, by omega, by omega⟩, g3, o1⟩

/-! the class's reader: a byte as a piece -/
theorem byte_o {h : hp} {o tp bx p m : Nat} {L : List Int32} {sub : hp → Nat → Nat → TY m → Nat → Prop} (hsub : ∀ g lo hi, sub g lo hi (tyN m) 0) (R : RD h o tp bx L) (z : ZH h) (r : RO h o tp L p) (hp1 : p < L.length) :
    (hereL L p ≠ 125 ∧ ∃ h', fX7_readByte o h = some (64 + hN h, h') ∧ SS o h h' 1 9 ∧ RO h' o tp L (p + 1) ∧ RepN (sub h' (64 + hN h) (64 + hN h')) h' (64 + hN h) (64 + hN h') (0, lnAt L p, hereL L p, 0, eN, eN, tyN m, tyN m) (64 + hN h) ∧ hR h' (64 + hN h) 8 = 0) ∨
    (hereL L p = 125 ∧ ∃ h', fX7_readByte o h = some (64 + hN h, h') ∧ SS o h h' 1 9 ∧ RG h' o p ∧ hT h' (64 + hN h) = (5, 9)) := by
  have ho := R.2.2.2.2.2.2.2.2.1
  have hl := r.lt R
  obtain ⟨S0, a1, a2, a3, a4, a5, a6⟩ := nP_s z o 0 (hI h o 3) ho.2
  have R0 := S0.rd R
  have r0 : RO (nP h 0 (hI h o 3)) o tp L p := ⟨by rw [a6 _ _ ho.2]; exact r.1, by rw [a6 _ _ ho.2]; exact r.2.1, by rw [a6 _ _ ho.2]; exact r.2.2.1, r.2.2.2⟩
  have hb : hereL L p = L.getD p 0 := by unfold hereL; rw [if_pos hp1]
  -- the byte put by
  have pf : pfI (nP h 0 (hI h o 3)) (64 + hN h) 5 2 (hereL L p) = some (pI (nP h 0 (hI h o 3)) (64 + hN h) 2 (hereL L p)) := by unfold pfI; rw [a1]; rfl
  have S1 : SS o h (pI (nP h 0 (hI h o 3)) (64 + hN h) 2 (hereL L p)) 1 9 := ⟨fgIn S0.1 2 _ (Nat.le_refl _), S0.2.1.pI 2 _ (by omega), by rw [hN_pI]; omega, by rw [hL_pI]; omega⟩
  have R1 := S1.rd R
  have r1 : RO (pI (nP h 0 (hI h o 3)) (64 + hN h) 2 (hereL L p)) o tp L p := r0.nE _ (by omega)
  have V1 : ∀ j, hI (pI (nP h 0 (hI h o 3)) (64 + hN h) 2 (hereL L p)) (64 + hN h) j = if j = 0 then 0 else if j = 1 then hI h o 3 else if j = 2 then hereL L p else 0 := fun j => by
    rw [hI_pI]
    by_cases c2 : j = 2
    · rw [if_pos ⟨rfl, c2⟩, c2, if_neg (by decide), if_neg (by decide), if_pos rfl]
    · rw [if_neg (fun q => c2 q.2), a4 j, if_neg c2]
  -- the end, alike in all cases
  have fin : ∀ g, SS o (pI (nP h 0 (hI h o 3)) (64 + hN h) 2 (hereL L p)) g 0 0 → ∀ v : Int32, ((gfI g o 6 2).bind fun v23 => (pfI g o 6 2 (v23 + 1)).bind fun h25 => some (64 + hN h, h25)) = some (64 + hN h, pI g o 2 (hI g o 2 + 1)) ∧ SS o h (pI g o 2 (hI g o 2 + 1)) 1 9 ∧ hT (pI g o 2 (hI g o 2 + 1)) (64 + hN h) = (5, 9) ∧ (∀ j, hI (pI g o 2 (hI g o 2 + 1)) (64 + hN h) j = if j = 0 then 0 else if j = 1 then hI h o 3 else if j = 2 then hereL L p else 0) ∧ (∀ j, hR (pI g o 2 (hI g o 2 + 1)) (64 + hN h) j = 0) ∧ 65 + hN h ≤ 64 + hN (pI g o 2 (hI g o 2 + 1)) := by
    intro g S v
    have Rg := S.rd R1
    have n1 := S.1.1
    rw [hN_pI, a2] at n1
    have e2 : ∀ j, ¬ KO o (64 + hN h) j := fun j q => by have := q.1; omega
    have Sp := SS.pO Rg S.2.1 (k := 2) (hI g o 2 + 1) (by decide)
    refine ⟨by rw [gO Rg, Option.bind_some, pO Rg, Option.bind_some], (S1.tr S).tr Sp, ?_, fun j => ?_, fun j => ?_, by rw [hN_pI]; omega⟩
    · rw [hT_pI, S.1.2.2.1 _ (by rw [hN_pI, a2]; omega), hT_pI]; exact a1
    · rw [hI_pI, if_neg (by omega), (S.1.2.2.2 _ j (by rw [hN_pI, a2]; omega) (e2 j)).1]; exact V1 j
    · rw [hR_pI, (S.1.2.2.2 _ j (by rw [hN_pI, a2]; omega) (e2 j)).2.2, hR_pI]; exact a5 j
  have st : fX7_readByte o h = if hereL L p = 125 then ((fX7_refuse o (pI (nP h 0 (hI h o 3)) (64 + hN h) 2 (hereL L p))).bind fun h32 => (ckT h32 o 6).bind fun _ => bd2 (fX7_peek o h32) fun v20 h21 => if v20 = 10 then ((gfI h21 o 6 3).bind fun v27 => (pfI h21 o 6 3 (v27 + 1)).bind fun h29 => (gfI h29 o 6 2).bind fun v23 => (pfI h29 o 6 2 (v23 + 1)).bind fun h25 => some (64 + hN h, h25)) else ((gfI h21 o 6 2).bind fun v23 => (pfI h21 o 6 2 (v23 + 1)).bind fun h25 => some (64 + hN h, h25)))
      else (if hereL L p = 10 then ((gfI (pI (nP h 0 (hI h o 3)) (64 + hN h) 2 (hereL L p)) o 6 3).bind fun v27 => (pfI (pI (nP h 0 (hI h o 3)) (64 + hN h) 2 (hereL L p)) o 6 3 (v27 + 1)).bind fun h29 => (gfI h29 o 6 2).bind fun v23 => (pfI h29 o 6 2 (v23 + 1)).bind fun h25 => some (64 + hN h, h25)) else ((gfI (pI (nP h 0 (hI h o 3)) (64 + hN h) 2 (hereL L p)) o 6 2).bind fun v23 => (pfI (pI (nP h 0 (hI h o 3)) (64 + hN h) 2 (hereL L p)) o 6 2 (v23 + 1)).bind fun h25 => some (64 + hN h, h25))) := by
    unfold fX7_readByte
    refine (nP_k R 0 _).trans ?_
    rw [ckO R0, Option.bind_some, peek_p R0 (by omega) r0.1, bd2_s, pf, Option.bind_some, ckO R1, Option.bind_some, peek_p R1 (by omega) r1.1, bd2_s, jn_e]
    by_cases c : hereL L p = 125
    · rw [if_pos c, if_pos c, ckO R1, Option.bind_some]; rfl
    · rw [if_neg c, if_neg c]; dsimp only
      rw [ckO R1, Option.bind_some, peek_p R1 (by omega) r1.1, bd2_s]; rfl
  have ln1 : hI h o 3 = iN (lnAt L p) := r.2.1
  by_cases c : hereL L p = 125
  · rw [if_pos c, refuse_p R1 r1.2.2.1, Option.bind_some, r1.1] at st
    have S2 := SS.pO R1 S1.2.1 (k := 4) (iN p) (by decide)
    have R2 := S2.rd R1
    have g2 : RG (pI (pI (nP h 0 (hI h o 3)) (64 + hN h) 2 (hereL L p)) o 4 (iN p)) o p := RG.of (by omega)
    rw [ckO R2, Option.bind_some, peek_p R2 (p := p) (by omega) (by rw [hI_pI, if_neg (by omega)]; exact r1.1), bd2_s, if_neg (by rw [c]; decide)] at st
    obtain ⟨f1, f2, f3, f4, f5, f6⟩ := fin _ S2 0
    exact .inr ⟨c, _, st.trans f1, f2, g2.pO _ (by decide), f3⟩
  · rw [if_neg c] at st
    by_cases c10 : hereL L p = 10
    · rw [if_pos c10, gO R1, Option.bind_some, pO R1, Option.bind_some] at st
      have S2 := SS.pO R1 S1.2.1 (k := 3) (hI (pI (nP h 0 (hI h o 3)) (64 + hN h) 2 (hereL L p)) o 3 + 1) (by decide)
      obtain ⟨f1, f2, f3, f4, f5, f6⟩ := fin _ S2 0
      refine .inl ⟨c, _, st.trans f1, f2, ⟨?_, ?_, ?_, hp1⟩, ⟨Nat.le_refl _, by omega, f3, Nat.zero_le _, by rw [f4]; rfl, by rw [f4]; exact ln1, by rw [f4]; rfl, Nat.zero_le _, by rw [f4]; rfl, fun q => ?_, fun q => absurd q (show (0 : Nat) ≠ 2 by decide), by rw [f5]; exact hsub _ _ _, by rw [f5]; exact hsub _ _ _⟩, f5 8⟩
      · rw [hI_pI, if_pos ⟨rfl, rfl⟩, hI_pI, if_neg (by omega), r1.1, i_succ]
      · rw [hI_pI, if_neg (by omega), hI_pI, if_pos ⟨rfl, rfl⟩, ln_more (by rw [← hb]; exact c10), r1.2.1, i_succ]
      · rw [hI_pI, if_neg (by omega), hI_pI, if_neg (by omega)]; exact r1.2.2.1
      · have q' : (0 : Nat) = 1 ∨ (0 : Nat) = 2 ∨ (0 : Nat) = 3 ∨ (0 : Nat) = 7 := q
        omega
    · rw [if_neg c10] at st
      obtain ⟨f1, f2, f3, f4, f5, f6⟩ := fin _ (SS.rf S1.2.1) 0
      refine .inl ⟨c, _, st.trans f1, f2, ⟨?_, ?_, ?_, hp1⟩, ⟨Nat.le_refl _, by omega, f3, Nat.zero_le _, by rw [f4]; rfl, by rw [f4]; exact ln1, by rw [f4]; rfl, Nat.zero_le _, by rw [f4]; rfl, fun q => ?_, fun q => absurd q (show (0 : Nat) ≠ 2 by decide), by rw [f5]; exact hsub _ _ _, by rw [f5]; exact hsub _ _ _⟩, f5 8⟩
      · rw [hI_pI, if_pos ⟨rfl, rfl⟩, r1.1, i_succ]
      · rw [hI_pI, if_neg (by omega), ln_same (by rw [← hb]; exact c10)]; exact r1.2.1
      · rw [hI_pI, if_neg (by omega)]; exact r1.2.2.1
      · have q' : (0 : Nat) = 1 ∨ (0 : Nat) = 2 ∨ (0 : Nat) = 3 ∨ (0 : Nat) = 7 := q
        omega

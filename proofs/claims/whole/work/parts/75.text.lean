/-! the class's reader: texts -/
theorem isT_e (v : Int32) (h : hp) : fX7_isTextByte v h = some (if isT v = true then 1 else 0, h) := by
  have k1 : v ≤ 0 ↔ v.toInt ≤ 0 := by rw [Int32.le_iff_toInt_le, show (0 : Int32).toInt = 0 by decide]
  have e : isT v = true ↔ (0 < v.toInt ∧ v ≠ 39 ∧ v ≠ 123 ∧ v ≠ 125) := by unfold isT; exact decide_eq_true_iff
  unfold fX7_isTextByte
  by_cases c1 : v ≤ 0
  · rw [if_pos c1, if_neg (fun q => by rw [e] at q; rw [k1] at c1; omega)]
  rw [if_neg c1]
  by_cases c2 : v = 39
  · rw [if_pos c2, if_neg (fun q => (e.mp q).2.1 c2)]
  rw [if_neg c2]
  by_cases c3 : v = 123
  · rw [if_pos c3, if_neg (fun q => (e.mp q).2.2.1 c3)]
  rw [if_neg c3]
  by_cases c4 : v = 125
  · rw [if_pos c4, if_neg (fun q => (e.mp q).2.2.2 c4)]
  rw [if_neg c4, if_pos (e.mpr ⟨by rw [k1] at c1; omega, c2, c3, c4⟩)]
/-- what the reading of a text changes: the reader's numbers and the bytes put by -/
def KT (o y b x k : Nat) : Prop := KO o x k ∨ x = y ∨ x = b
theorem txt_st {h : hp} {o tp bx y b : Nat} {L M : List Int32} (R : RD h o tp bx L) (z : ZH h) (N : NL h y b 16 M) (hM : M.length < 16) (hy : (y ≠ o ∧ b ≠ o) ∧ (y < 64 + hN h ∧ b < 64 + hN h) ∧ (204 ≤ y ∧ 204 ≤ b) ∧ y ≠ tp ∧ b ≠ tp) (n : Nat) (x1 : Nat) (c : Nat) (hc : c < 16) (q : isT (hv L (hI h o 2)) = true) :
    ∃ g, fX7_readText_l30 (n + 1) o x1 y (iN c) h = fX7_readText_l30 n o x1 y (iN (c + 1)) g ∧ FG (KT o y b) h g ∧ ZH g ∧ hN g = hN h ∧ hL g = hL h ∧ NL g y b 16 (M ++ [hv L (hI h o 2)]) ∧ hI g o 2 = hI h o 2 + 1 ∧ hI g o 3 = (if hv L (hI h o 2) = 10 then hI h o 3 + 1 else hI h o 3) ∧ hI g o 4 = hI h o 4 := by
  have e0 : ¬ (16 ≤ iN c) := by rw [i_lit_le (by decide) (by omega)]; show ¬ (16 ≤ c); omega
  have key : ∀ hh : hp, SS o h hh 0 0 → hN hh = hN h → hL hh = hL h → hI hh o 2 = hI h o 2 → hI hh o 4 = hI h o 4 → ∃ g, ((ckT hh o 6).bind fun _ => bd2 (fX7_peek o hh) fun v13 h14 => (ckT h14 y 4).bind fun _ => bd2 (fX5_add y v13 h14) fun v17 h18 => (gfI h18 o 6 2).bind fun v20 => (pfI h18 o 6 2 (v20 + 1)).bind fun h22 => fX7_readText_l30 n o x1 y (iN c + 1) h22) = fX7_readText_l30 n o x1 y (iN (c + 1)) g ∧ FG (KT o y b) h g ∧ ZH g ∧ hN g = hN h ∧ hL g = hL h ∧ NL g y b 16 (M ++ [hv L (hI h o 2)]) ∧ hI g o 2 = hI h o 2 + 1 ∧ hI g o 3 = hI hh o 3 ∧ hI g o 4 = hI h o 4 := by
    intro hh S1 a1 a2 a3 a4
    have R1 := S1.rd R
    have N1 : NL hh y b 16 M := N.fg S1.1 hy.2.1.1 hy.2.1.2 (fun k q => hy.1.1 q.1) (fun k q => hy.1.2 q.1)
    obtain ⟨g, e1, N2, F2⟩ := nAdd' (hv L (hI h o 2)) N1 hM
    have F2' : FG (KT o y b) hh g := F2.fs.fg.up fun x k q => by
      have q' : x = y ∨ x = b := by simpa using q
      exact .inr q'
    have zg : ZH g := F2.fs.zh S1.2.1 fun x k q => by
      have q' : x = y ∨ x = b := by simpa using q
      omega
    have R2 : RD g o tp bx L := R1.fgP F2' fun x k q => by
      unfold KT KO at q
      have := R.2.2.2.2.2.2.2.2.1
      have := R.2.2.2.2.2.2.2.2.2.2.2.1
      omega
    have s2 := SS.pO R2 zg (k := 2) (hI h o 2 + 1) (by decide)
    have oo : ∀ k, hI g o k = hI hh o k := fun k => (F2.fs.2.2.2.2 o k (fun q => by
      have q' : o = y ∨ o = b := by simpa using q
      omega)).1
    refine ⟨pI g o 2 (hI h o 2 + 1), ?_, (S1.1.up fun _ _ q => .inl q).tr (F2'.tr (s2.1.up fun _ _ q => .inl q)), s2.2.1, by rw [hN_pI, F2.1]; exact a1, by rw [hL_pI, F2.2.1]; exact a2, N2.fg s2.1 (by rw [F2.1]; omega) (by rw [F2.1]; omega) (fun k q => hy.1.1 q.1) (fun k q => hy.1.2 q.1), by rw [hI_pI, if_pos ⟨rfl, rfl⟩], by rw [hI_pI, if_neg (by omega), oo], by rw [hI_pI, if_neg (by omega), oo]; exact a4⟩
    rw [ckO R1, Option.bind_some, peek_e R1, bd2_s, a3, ckN N1.1, Option.bind_some, e1, bd2_s, gO R2, Option.bind_some, pO R2, Option.bind_some, oo, a3, i_succ]
  rw [fX7_readText_l30, if_neg e0, ckO R, Option.bind_some, peek_e R, bd2_s, isT_e, bd2_s, if_pos q, if_neg z10, ckO R, Option.bind_some, peek_e R, bd2_s, jn_e]
  by_cases c10 : hv L (hI h o 2) = 10
  · rw [if_pos c10, if_pos c10, gO R, Option.bind_some, pO R, Option.bind_some]; dsimp only
    obtain ⟨g, k1, k2, k3, k4, k5, k6, k7, k8, k9⟩ := key (pI h o 3 (hI h o 3 + 1)) (SS.pO R z _ (by decide)) rfl rfl (by rw [hI_pI, if_neg (by omega)]) (by rw [hI_pI, if_neg (by omega)])
    exact ⟨g, k1, k2, k3, k4, k5, k6, k7, by rw [k8, hI_pI, if_pos ⟨rfl, rfl⟩], k9⟩
  · rw [if_neg c10, if_neg c10]; dsimp only
    exact key h (SS.rf z) rfl rfl rfl rfl

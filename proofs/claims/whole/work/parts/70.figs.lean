/-! the class's reader: figures, numbers -/
theorem isFig_e (v : Int32) (h : hp) : fX13_isFigure v h = some (if isF v = true then 1 else 0, h) := by
  have k1 : v < 48 ↔ v.toInt < 48 := by rw [Int32.lt_iff_toInt_lt, show (48 : Int32).toInt = 48 by decide]
  have k2 : 57 < v ↔ 57 < v.toInt := by rw [Int32.lt_iff_toInt_lt, show (57 : Int32).toInt = 57 by decide]
  have e : isF v = true ↔ 48 ≤ v.toInt ∧ v.toInt ≤ 57 := by unfold isF; exact decide_eq_true_iff
  unfold fX13_isFigure
  by_cases c1 : v < 48
  · rw [if_pos c1, if_neg (fun q => by rw [e] at q; rw [k1] at c1; omega)]
  rw [if_neg c1]
  by_cases c2 : 57 < v
  · rw [if_pos c2, if_neg (fun q => by rw [e] at q; rw [k2] at c2; omega)]
  rw [if_neg c2, if_pos (by rw [e]; rw [k1] at c1; rw [k2] at c2; omega)]
theorem isF_e {v : Int32} (q : isF v = true) : 48 ≤ v.toInt ∧ v.toInt ≤ 57 := by
  unfold isF at q; exact decide_eq_true_iff.mp q
theorem fig_v {v : Int32} {acc : Nat} (q : isF v = true) (ha : acc < 100000000) : ((iN acc * 10) + v) - 48 = iN (acc * 10 + (v.toInt.toNat - 48)) := by
  have e := isF_e q
  have hv' : v = iN v.toInt.toNat := Int32.toInt_inj.mp (by rw [i_toInt (by omega)]; omega)
  have e1 : iN acc * 10 = iN (acc * 10) := i_mul acc 10
  rw [e1]
  conv => lhs; rw [hv']
  rw [i_add]
  have e2 : iN (acc * 10 + v.toInt.toNat) - 48 = iN (acc * 10 + v.toInt.toNat - 48) := i_sub (b := 48) (by omega)
  rw [e2, show acc * 10 + v.toInt.toNat - 48 = acc * 10 + (v.toInt.toNat - 48) by omega]
theorem figs_o {o tp bx : Nat} {L : List Int32} {st : Int32} : ∀ (d c n : Nat) (h : hp) (p acc : Nat), RD h o tp bx L → ZH h → RO h o tp L p → c + d = 5 → d < n → acc < 10 ^ c → ∃ h', fX7_readFigures_l9 n o (iN acc) st (iN c) h = some (iN (figs L d p acc).1, h') ∧ SS o h h' 0 0 ∧ RO h' o tp L (figs L d p acc).2 ∧ p ≤ (figs L d p acc).2 ∧ (figs L d p acc).1 < 100000 := by
  intro d
  induction d with
  | zero =>
    intro c n h p acc R z r hc hn ha
    obtain ⟨n, rfl⟩ : ∃ q, n = q + 1 := ⟨n - 1, by omega⟩
    have h5 : c = 5 := by omega
    subst h5
    refine ⟨h, ?_, SS.rf z, r, Nat.le_refl _, ?_⟩
    · rw [fX7_readFigures_l9, if_pos (by decide)]; rfl
    · show acc < 100000
      omega
  | succ d ih =>
    intro c n h p acc R z r hc hn ha
    obtain ⟨n, rfl⟩ : ∃ q, n = q + 1 := ⟨n - 1, by omega⟩
    have hp' := r.lt R
    have e : ¬ (5 ≤ iN c) := by rw [i_lit_le (by decide) (by omega)]; show ¬ (5 ≤ c); omega
    have hacc : acc < 10000 := by
      have : c ≤ 4 := by omega
      have h4 : 10 ^ c ≤ 10 ^ 4 := Nat.pow_le_pow_right (by decide) this
      omega
    rw [fX7_readFigures_l9, if_neg e, ckO R, Option.bind_some, peek_p R (by omega) r.1, bd2_s, isFig_e, bd2_s]
    by_cases q : isF (hereL L p) = true
    · have e1 : figs L (d + 1) p acc = figs L d (p + 1) (acc * 10 + ((hereL L p).toInt.toNat - 48)) := by
        show (if isF (hereL L p) = true then _ else _) = _
        rw [if_pos q]
      have f := isF_e q
      have nz : hereL L p ≠ -1 := fun q => by
        rw [q, show (-1 : Int32).toInt = -1 by decide] at f
        omega
      obtain ⟨l1, l2⟩ := here_lt (L := L) (p := p) rfl nz
      have n10 : L.getD p 0 ≠ 10 := fun q => by
        rw [l2] at q
        rw [q, show (10 : Int32).toInt = 10 by decide] at f
        omega
      have r1 := r.step l1 n10
      have s1 := SS.pO R z (k := 2) (iN (p + 1)) (by decide)
      have hac2 : acc * 10 + ((hereL L p).toInt.toNat - 48) < 10 ^ (c + 1) := by
        rw [Nat.pow_succ]; omega
      obtain ⟨h', e2, s2, r2, g1, g2⟩ := ih (c + 1) n _ (p + 1) (acc * 10 + ((hereL L p).toInt.toNat - 48)) (s1.rd R) s1.2.1 r1 (by omega) (by omega) hac2
      refine ⟨h', ?_, s1.tr s2, by rw [e1]; exact r2, by rw [e1]; omega, by rw [e1]; exact g2⟩
      rw [if_pos q, if_neg z10, ckO R, Option.bind_some, peek_p R (by omega) r.1, bd2_s, gO R, Option.bind_some, pO R, Option.bind_some, r.1, i_succ, fig_v q (by omega), i_succ, e2, e1]
    · have e1 : figs L (d + 1) p acc = (acc, p) := by
        show (if isF (hereL L p) = true then _ else _) = _
        rw [if_neg q]
      rw [if_neg q, if_pos rfl, e1]
      exact ⟨h, rfl, SS.rf z, r, Nat.le_refl _, by show acc < 100000; omega⟩
theorem figs_g {o tp bx f : Nat} {L : List Int32} {st : Int32} : ∀ (d c n : Nat) (h : hp) (acc : Int32), RD h o tp bx L → ZH h → RG h o f → c + d = 5 → d < n → ∃ v h', fX7_readFigures_l9 n o acc st (iN c) h = some (v, h') ∧ SS o h h' 0 0 ∧ RG h' o f := by
  intro d
  induction d with
  | zero =>
    intro c n h acc R z g hc hn
    obtain ⟨n, rfl⟩ : ∃ q, n = q + 1 := ⟨n - 1, by omega⟩
    have h5 : c = 5 := by omega
    subst h5
    rw [fX7_readFigures_l9, if_pos (by decide)]
    exact ⟨_, h, rfl, SS.rf z, g⟩
  | succ d ih =>
    intro c n h acc R z g hc hn
    obtain ⟨n, rfl⟩ : ∃ q, n = q + 1 := ⟨n - 1, by omega⟩
    have e : ¬ (5 ≤ iN c) := by rw [i_lit_le (by decide) (by omega)]; show ¬ (5 ≤ c); omega
    rw [fX7_readFigures_l9, if_neg e, ckO R, Option.bind_some, peek_e R, bd2_s, isFig_e, bd2_s]
    by_cases q : isF (hv L (hI h o 2)) = true
    · rw [if_pos q, if_neg z10, ckO R, Option.bind_some, peek_e R, bd2_s, gO R, Option.bind_some, pO R, Option.bind_some, i_succ]
      have s1 := SS.pO R z (k := 2) (hI h o 2 + 1) (by decide)
      obtain ⟨v, h', e2, s2, g2⟩ := ih (c + 1) n _ (((acc * 10) + hv L (hI h o 2)) - 48) (s1.rd R) s1.2.1 (g.pO _ (by decide)) (by omega) (by omega)
      exact ⟨v, h', e2, s1.tr s2, g2⟩
    · rw [if_neg q, if_pos rfl]
      exact ⟨_, h, rfl, SS.rf z, g⟩
theorem figures_o {h : hp} {o tp bx p : Nat} {L : List Int32} (R : RD h o tp bx L) (z : ZH h) (r : RO h o tp L p) : (∃ m p', pFigs L p = .inl (m, p') ∧ m < 100000 ∧ p < p' ∧ ∃ h', fX7_readFigures o h = some (iN m, h') ∧ SS o h h' 0 0 ∧ RO h' o tp L p') ∨ (pFigs L p = .inr p ∧ ∃ v h', fX7_readFigures o h = some (v, h') ∧ SS o h h' 0 0 ∧ RG h' o p) := by
  have hp' := r.lt R
  obtain ⟨h', e, s, r', g1, g2⟩ := figs_o (st := iN p) 5 0 FU h p 0 R z r rfl (by show 5 < 1000000; omega) (by decide)
  have R' := s.rd R
  have hp2 := r'.lt R'
  unfold fX7_readFigures pFigs
  rw [gO R, Option.bind_some, r.1, show fX7_readFigures_l9 FU o 0 (iN p) 0 h = _ from e, bd2_s, gO R', Option.bind_some, r'.1]
  by_cases q : isF (hereL L p) = true
  · have e1 : figs L 5 p 0 = figs L 4 (p + 1) (0 * 10 + ((hereL L p).toInt.toNat - 48)) := by
      show (if isF (hereL L p) = true then _ else _) = _
      rw [if_pos q]
    have f := isF_e q
    have nz : hereL L p ≠ -1 := fun q => by
      rw [q, show (-1 : Int32).toInt = -1 by decide] at f
      omega
    obtain ⟨l1, l2⟩ := here_lt (L := L) (p := p) rfl nz
    have n10 : L.getD p 0 ≠ 10 := fun q => by
      rw [l2] at q
      rw [q, show (10 : Int32).toInt = 10 by decide] at f
      omega
    have s1 := SS.pO R z (k := 2) (iN (p + 1)) (by decide)
    obtain ⟨_, _, _, _, g3, _⟩ := figs_o (st := iN p) 4 1 5 _ (p + 1) (0 * 10 + ((hereL L p).toInt.toNat - 48)) (s1.rd R) s1.2.1 (r.step l1 n10) rfl (by omega) (by omega)
    rw [← e1] at g3
    rw [if_pos q, if_neg (by rw [i_eq (by omega) (by omega)]; omega)]
    exact .inl ⟨(figs L 5 p 0).1, (figs L 5 p 0).2, rfl, g2, Nat.lt_of_lt_of_le (Nat.lt_succ_self p) g3, h', rfl, s, r'⟩
  · have e1 : figs L 5 p 0 = (0, p) := by
      show (if isF (hereL L p) = true then _ else _) = _
      rw [if_neg q]
    rw [e1] at r'
    rw [e1, if_neg q, if_pos rfl, ckO R', Option.bind_some, refuse_p R' r'.2.2.1, Option.bind_some, r'.1]
    exact .inr ⟨rfl, _, _, rfl, s.tr (SS.pO R' s.2.1 _ (by decide)), RG.of (by omega)⟩
theorem figures_g {h : hp} {o tp bx f : Nat} {L : List Int32} (R : RD h o tp bx L) (z : ZH h) (g : RG h o f) : ∃ v h', fX7_readFigures o h = some (v, h') ∧ SS o h h' 0 0 ∧ RG h' o f := by
  obtain ⟨v, h', e, s, g'⟩ := figs_g (st := hI h o 2) 5 0 FU h 0 R z g rfl (by show 5 < 1000000; omega)
  have R' := s.rd R
  unfold fX7_readFigures
  rw [gO R, Option.bind_some, show fX7_readFigures_l9 FU o 0 (hI h o 2) 0 h = _ from e, bd2_s, gO R', Option.bind_some]
  by_cases c : hI h' o 2 = hI h o 2
  · rw [if_pos c, ckO R', Option.bind_some, refuse_g R' g'.le, Option.bind_some]
    exact ⟨_, _, rfl, s, g'⟩
  · rw [if_neg c]
    exact ⟨_, _, rfl, s, g'⟩

/-! the class's reader: texts -/
theorem isT_e (v : Int32) (h : hp) : fX7_isTextByte v h = some (if isT v = true then 1 else 0, h) := by
  have k1 : v ≤ 0 ↔ v.toInt ≤ 0 := by rw [Int32.le_iff_toInt_le, show (0 : Int32).toInt = 0 by decide]
  have e : isT v = true ↔ (0 < v.toInt ∧ v ≠ 39 ∧ v ≠ 123 ∧ v ≠ 125) := by unfold isT; exact decide_eq_true_iff
  unfold fX7_isTextByte
  by_cases c1 : v ≤ 0
  · rw [if_pos c1, if_neg (fun q => by rw [e] at q; rw [k1] at c1; omega)]
  rw [if_neg c1]
  by_cases c2 : v = 39
  · rw [if_pos c2, if_neg (fun q => (e.mp q).2.1 c2)]
  rw [if_neg c2]
  by_cases c3 : v = 123
  · rw [if_pos c3, if_neg (fun q => (e.mp q).2.2.1 c3)]
  rw [if_neg c3]
  by_cases c4 : v = 125
  · rw [if_pos c4, if_neg (fun q => (e.mp q).2.2.2 c4)]
  rw [if_neg c4, if_pos (e.mpr ⟨by rw [k1] at c1; omega, c2, c3, c4⟩)]
/-- what the reading of a text changes: the reader's numbers and the bytes put by -/
def KT (o y b x k : Nat) : Prop := KO o x k ∨ x = y ∨ x = b
theorem txt_st {h : hp} {o tp bx y b : Nat} {L M : List Int32} (R : RD h o tp bx L) (z : ZH h) (N : NL h y b 16 M) (hM : M.length < 16) (hy : (y ≠ o ∧ b ≠ o) ∧ (y < 64 + hN h ∧ b < 64 + hN h) ∧ (204 ≤ y ∧ 204 ≤ b) ∧ y ≠ tp ∧ b ≠ tp) (n : Nat) (x1 : Nat) (c : Nat) (hc : c < 16) (q : isT (hv L (hI h o 2)) = true) :
    ∃ g, fX7_readText_l30 (n + 1) o x1 y (iN c) h = fX7_readText_l30 n o x1 y (iN (c + 1)) g ∧ FG (KT o y b) h g ∧ ZH g ∧ hN g = hN h ∧ hL g = hL h ∧ NL g y b 16 (M ++ [hv L (hI h o 2)]) ∧ hI g o 2 = hI h o 2 + 1 ∧ hI g o 3 = (if hv L (hI h o 2) = 10 then hI h o 3 + 1 else hI h o 3) ∧ hI g o 4 = hI h o 4 := by
  have e0 : ¬ (16 ≤ iN c) := by rw [i_lit_le (by decide) (by omega)]; show ¬ (16 ≤ c); omega
  have key : ∀ hh : hp, SS o h hh 0 0 → hN hh = hN h → hL hh = hL h → hI hh o 2 = hI h o 2 → hI hh o 4 = hI h o 4 → ∃ g, ((ckT hh o 6).bind fun _ => bd2 (fX7_peek o hh) fun v13 h14 => (ckT h14 y 4).bind fun _ => bd2 (fX5_add y v13 h14) fun v17 h18 => (gfI h18 o 6 2).bind fun v20 => (pfI h18 o 6 2 (v20 + 1)).bind fun h22 => fX7_readText_l30 n o x1 y (iN c + 1) h22) = fX7_readText_l30 n o x1 y (iN (c + 1)) g ∧ FG (KT o y b) h g ∧ ZH g ∧ hN g = hN h ∧ hL g = hL h ∧ NL g y b 16 (M ++ [hv L (hI h o 2)]) ∧ hI g o 2 = hI h o 2 + 1 ∧ hI g o 3 = hI hh o 3 ∧ hI g o 4 = hI h o 4 := by
    intro hh S1 a1 a2 a3 a4
    have R1 := S1.rd R
    have N1 : NL hh y b 16 M := N.fg S1.1 hy.2.1.1 hy.2.1.2 (fun k q => hy.1.1 q.1) (fun k q => hy.1.2 q.1)
    obtain ⟨g, e1, N2, F2⟩ := nAdd' (hv L (hI h o 2)) N1 hM
    have F2' : FG (KT o y b) hh g := F2.fs.fg.up fun x k q => by
      have q' : x = y ∨ x = b := by simpa using q
      exact .inr q'
    have zg : ZH g := F2.fs.zh S1.2.1 fun x k q => by
      have q' : x = y ∨ x = b := by simpa using q
      omega
    have R2 : RD g o tp bx L := R1.fgP F2' fun x k q => by
      unfold KT KO at q
      have := R.2.2.2.2.2.2.2.2.1
      have := R.2.2.2.2.2.2.2.2.2.2.2.1
      omega
    have s2 := SS.pO R2 zg (k := 2) (hI h o 2 + 1) (by decide)
    have oo : ∀ k, hI g o k = hI hh o k := fun k => (F2.fs.2.2.2.2 o k (fun q => by
      have q' : o = y ∨ o = b := by simpa using q
      omega)).1
    refine ⟨pI g o 2 (hI h o 2 + 1), ?_, (S1.1.up fun _ _ q => .inl q).tr (F2'.tr (s2.1.up fun _ _ q => .inl q)), s2.2.1, by rw [hN_pI, F2.1]; exact a1, by rw [hL_pI, F2.2.1]; exact a2, N2.fg s2.1 (by rw [F2.1]; omega) (by rw [F2.1]; omega) (fun k q => hy.1.1 q.1) (fun k q => hy.1.2 q.1), by rw [hI_pI, if_pos ⟨rfl, rfl⟩], by rw [hI_pI, if_neg (by omega), oo], by rw [hI_pI, if_neg (by omega), oo]; exact a4⟩
    rw [ckO R1, Option.bind_some, peek_e R1, bd2_s, a3, ckN N1.1, Option.bind_some, e1, bd2_s, gO R2, Option.bind_some, pO R2, Option.bind_some, oo, a3, i_succ]
  rw [fX7_readText_l30, if_neg e0, ckO R, Option.bind_some, peek_e R, bd2_s, isT_e, bd2_s, if_pos q, if_neg z10, ckO R, Option.bind_some, peek_e R, bd2_s, jn_e]
  by_cases c10 : hv L (hI h o 2) = 10
  · rw [if_pos c10, if_pos c10, gO R, Option.bind_some, pO R, Option.bind_some]; dsimp only
    obtain ⟨g, k1, k2, k3, k4, k5, k6, k7, k8, k9⟩ := key (pI h o 3 (hI h o 3 + 1)) (SS.pO R z _ (by decide)) rfl rfl (by rw [hI_pI, if_neg (by omega)]) (by rw [hI_pI, if_neg (by omega)])
    exact ⟨g, k1, k2, k3, k4, k5, k6, k7, by rw [k8, hI_pI, if_pos ⟨rfl, rfl⟩], k9⟩
  · rw [if_neg c10, if_neg c10]; dsimp only
    exact key h (SS.rf z) rfl rfl rfl rfl
theorem txt_o {o tp bx y b x1 : Nat} {L : List Int32} : ∀ (d c n p : Nat) (h : hp) (M : List Int32), RD h o tp bx L → ZH h → RO h o tp L p → NL h y b 16 M → M.length = c → c + d = 16 → d < n → ((y ≠ o ∧ b ≠ o) ∧ (y < 64 + hN h ∧ b < 64 + hN h) ∧ (204 ≤ y ∧ 204 ≤ b) ∧ y ≠ tp ∧ b ≠ tp) →
    ∃ h' M', fX7_readText_l30 n o x1 y (iN c) h = some h' ∧ FG (KT o y b) h h' ∧ ZH h' ∧ hN h' = hN h ∧ hL h' = hL h ∧ RO h' o tp L (p + runT L d p) ∧ NL h' y b 16 M' ∧ M'.length = c + runT L d p ∧ (∀ k, k < c → M'.getD k 0 = M.getD k 0) ∧ ∀ k, k < runT L d p → M'.getD (c + k) 0 = L.getD (p + k) 0 := by
  intro d
  induction d with
  | zero =>
    intro c n p h M R z r N hM hc hn hy
    obtain ⟨n, rfl⟩ : ∃ q, n = q + 1 := ⟨n - 1, by omega⟩
    have h16 : c = 16 := by omega
    subst h16
    exact ⟨h, M, by rw [fX7_readText_l30, if_pos (by decide)], FG.rf _ _, z, rfl, rfl, r, N, hM, fun _ _ => rfl, fun k hk => absurd hk (Nat.not_lt_zero k)⟩
  | succ d ih =>
    intro c n p h M R z r N hM hc hn hy
    obtain ⟨n, rfl⟩ : ∃ q, n = q + 1 := ⟨n - 1, by omega⟩
    have hp' := r.lt R
    have e0 : ¬ (16 ≤ iN c) := by rw [i_lit_le (by decide) (by omega)]; show ¬ (16 ≤ c); omega
    have er : runT L (d + 1) p = if isT (hereL L p) = true then runT L d (p + 1) + 1 else 0 := rfl
    have hh : hv L (hI h o 2) = hereL L p := by rw [r.1, hv_e (by omega)]
    by_cases q : isT (hereL L p) = true
    · rw [if_pos q] at er
      have nz : hereL L p ≠ -1 := fun e => by rw [e] at q; exact absurd q (by decide)
      obtain ⟨l1, l2⟩ := here_lt (L := L) (p := p) rfl nz
      obtain ⟨g, k1, k2, k3, k4, k5, k6, k7, k8, k9⟩ := txt_st R z N (by omega) hy n x1 c (by omega) (by rw [hh]; exact q)
      have Rg : RD g o tp bx L := R.fgP k2 fun x k q => by
        unfold KT KO at q
        have := R.2.2.2.2.2.2.2.2.1
        have := R.2.2.2.2.2.2.2.2.2.2.2.1
        omega
      have rg : RO g o tp L (p + 1) := by
        refine ⟨by rw [k7, r.1, i_succ], ?_, by rw [k9]; exact r.2.2.1, l1⟩
        rw [k8, hh]
        by_cases c10 : hereL L p = 10
        · rw [if_pos c10, ln_more (by rw [l2]; exact c10), r.2.1, i_succ]
        · rw [if_neg c10, ln_same (by rw [l2]; exact c10), r.2.1]
      obtain ⟨h', M', i1, i2, i3, i4, i5, i6, i7, i8, i9, i10⟩ := ih (c + 1) n (p + 1) g _ Rg k3 rg k6 (by rw [List.length_append, hM]; rfl) (by omega) (by omega) ⟨hy.1, by rw [k4]; exact hy.2.1, hy.2.2⟩
      refine ⟨h', M', by rw [k1, i1], k2.tr i2, i3, by rw [i4, k4], by rw [i5, k5], by rw [er, show p + (runT L d (p + 1) + 1) = p + 1 + runT L d (p + 1) by omega]; exact i6, i7, by rw [i8, er]; omega, fun k hk => ?_, fun k hk => ?_⟩
      · rw [i9 k (by omega), gd1 (by omega)]
      · by_cases ck : k = 0
        · subst ck
          rw [Nat.add_zero, Nat.add_zero, i9 c (by omega)]
          have e := gd2 M (hv L (hI h o 2))
          rw [hM] at e
          rw [e, hh, l2]
        · have e := i10 (k - 1) (by omega)
          rw [show c + 1 + (k - 1) = c + k by omega, show p + 1 + (k - 1) = p + k by omega] at e
          exact e
    · rw [if_neg q] at er
      refine ⟨h, M, ?_, FG.rf _ _, z, rfl, rfl, by rw [er]; exact r, N, by rw [er]; exact hM, fun _ _ => rfl, fun k hk => by rw [er] at hk; exact absurd hk (Nat.not_lt_zero k)⟩
      rw [fX7_readText_l30, if_neg e0, ckO R, Option.bind_some, peek_e R, bd2_s, isT_e, bd2_s, hh, if_neg q, if_pos rfl]
theorem txt_g {o tp bx y b x1 f : Nat} {L : List Int32} : ∀ (d c n : Nat) (h : hp) (M : List Int32), RD h o tp bx L → ZH h → RG h o f → NL h y b 16 M → M.length = c → c + d = 16 → d < n → ((y ≠ o ∧ b ≠ o) ∧ (y < 64 + hN h ∧ b < 64 + hN h) ∧ (204 ≤ y ∧ 204 ≤ b) ∧ y ≠ tp ∧ b ≠ tp) →
    ∃ h' M', fX7_readText_l30 n o x1 y (iN c) h = some h' ∧ FG (KT o y b) h h' ∧ ZH h' ∧ hN h' = hN h ∧ hL h' = hL h ∧ RG h' o f ∧ NL h' y b 16 M' := by
  intro d
  induction d with
  | zero =>
    intro c n h M R z g N hM hc hn hy
    obtain ⟨n, rfl⟩ : ∃ q, n = q + 1 := ⟨n - 1, by omega⟩
    have h16 : c = 16 := by omega
    subst h16
    exact ⟨h, M, by rw [fX7_readText_l30, if_pos (by decide)], FG.rf _ _, z, rfl, rfl, g, N⟩
  | succ d ih =>
    intro c n h M R z g0 N hM hc hn hy
    obtain ⟨n, rfl⟩ : ∃ q, n = q + 1 := ⟨n - 1, by omega⟩
    have e0 : ¬ (16 ≤ iN c) := by rw [i_lit_le (by decide) (by omega)]; show ¬ (16 ≤ c); omega
    by_cases q : isT (hv L (hI h o 2)) = true
    · obtain ⟨g, k1, k2, k3, k4, k5, k6, k7, k8, k9⟩ := txt_st R z N (by omega) hy n x1 c (by omega) q
      have Rg : RD g o tp bx L := R.fgP k2 fun x k q => by
        unfold KT KO at q
        have := R.2.2.2.2.2.2.2.2.1
        have := R.2.2.2.2.2.2.2.2.2.2.2.1
        omega
      obtain ⟨h', M', i1, i2, i3, i4, i5, i6, i7⟩ := ih (c + 1) n g _ Rg k3 ⟨by rw [k9]; exact g0.1, g0.2⟩ k6 (by rw [List.length_append, hM]; rfl) (by omega) (by omega) ⟨hy.1, by rw [k4]; exact hy.2.1, hy.2.2⟩
      exact ⟨h', M', by rw [k1, i1], k2.tr i2, i3, by rw [i4, k4], by rw [i5, k5], i6, i7⟩
    · refine ⟨h, M, ?_, FG.rf _ _, z, rfl, rfl, g0, N⟩
      rw [fX7_readText_l30, if_neg e0, ckO R, Option.bind_some, peek_e R, bd2_s, isT_e, bd2_s, if_neg q, if_pos rfl]
/-- Numbers newly laid -/
def nM (h : hp) : hp := pR (nw (nw h 4 2) 100 16) (64 + hN h) 0 (65 + hN h)
theorem nM_k {α : Type} {h : hp} (K : Nat → hp → Option α) : (bd2 (nwO h 4 2) fun v1 h2 => (ckT h2 v1 4).bind fun _ => (fX5_init v1 16 h2).bind fun h5 => K v1 h5) = K (64 + hN h) (nM h) := by
  have t1 : hT (nw h 4 2) (64 + hN h) = (4, 2) := by rw [hT_nw]; dsimp only; rw [if_pos rfl]
  have t2 : hT (nw (nw h 4 2) 100 16) (64 + hN h) = (4, 2) := by rw [hT_nw]; dsimp only; rw [hN_nw, if_neg (by omega)]; exact t1
  have c1 : ckT (nw h 4 2) (64 + hN h) 4 = some () := by unfold ckT; rw [t1]; rfl
  have c2 : pfR (nw (nw h 4 2) 100 16) (64 + hN h) 4 0 (65 + hN h) = some (nM h) := by unfold pfR; rw [t2]; rfl
  have c3 : nwA (nw h 4 2) 0 16 = some (65 + hN h, nw (nw h 4 2) 100 16) := by
    have : nwA (nw h 4 2) 0 16 = some (64 + hN (nw h 4 2), nw (nw h 4 2) (100 + 0) 16) := rfl
    rw [this, hN_nw, show 64 + (hN h + 1) = 65 + hN h by omega]
  have c4 : fX5_init (64 + hN h) 16 (nw h 4 2) = some (nM h) := by
    unfold fX5_init
    rw [c1, Option.bind_some, jn_e, if_neg (by decide)]; dsimp only
    rw [c3, bd2_s, c2, Option.bind_some]
  show ((ckT (nw h 4 2) (64 + hN h) 4).bind fun _ => (fX5_init (64 + hN h) 16 (nw h 4 2)).bind fun h5 => K (64 + hN h) h5) = _
  rw [c1, Option.bind_some, c4, Option.bind_some]
theorem nM_s {h : hp} (z : ZH h) (o : Nat) : SS o h (nM h) 2 18 ∧ NL (nM h) (64 + hN h) (65 + hN h) 16 [] ∧ hN (nM h) = hN h + 2 ∧ hL (nM h) = hL h + 18 ∧ ∀ x k, hI (nM h) x k = hI h x k := by
  refine ⟨⟨fgRn ((FG.nw h 4 2).tr (FG.nw _ 100 16)) 0 _ (Nat.le_refl _), ((z.nw 4 2).nw 100 16).pR 0 _ (by rw [hN_nw, hN_nw]; omega), by show hN h + 1 + 1 ≤ _; omega, by show hL h + 2 + 16 ≤ _; omega⟩, ⟨⟨?_, ?_, ?_, by omega, by decide⟩, ?_, Nat.zero_le _, fun k hk => absurd hk (Nat.not_lt_zero k)⟩, rfl, rfl, fun _ _ => rfl⟩
  · show hT (nw (nw h 4 2) 100 16) (64 + hN h) = _
    rw [hT_nw]; dsimp only; rw [hN_nw, if_neg (by omega), hT_nw]; dsimp only; rw [if_pos rfl]
  · show hT (nw (nw h 4 2) 100 16) (65 + hN h) = _
    rw [hT_nw]; dsimp only; rw [hN_nw, if_pos (by omega)]
  · show hR (pR _ _ _ _) _ _ = _
    rw [hR_pR, if_pos ⟨rfl, rfl⟩]
  · exact (z (64 + hN h) 1 (Nat.le_refl _)).1

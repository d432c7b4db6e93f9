/-! the call filter: filters read, filters gone through -/
set_option maxHeartbeats 400000
theorem ar_eq : ∀ (n : Nat) (h : hp), fX14_areFiltersRead_l9 n 165 h = fX14_isExpressionRead_l82 n 165 h := by
  intro n
  induction n with
  | zero => intro h; rfl
  | succ n ih =>
    intro h
    rw [fX14_areFiltersRead_l9, fX14_isExpressionRead_l82]
    simp only [ih]
theorem fnd_n0 : fnd [] = none := by decide
theorem fil_pos {L : List Int32} {p q : Nat} {f : Nat × Nat} (hp' : p ≤ L.length) (e : pFil L p = .inl (f, q)) : p < q := by
  obtain ⟨_, _, _, _, n, en, e1, e2, e3⟩ := fil_i hp' e
  have n0 : n ≠ 0 := fun z => by
    rw [z] at e1
    have : wordL L p 0 = [] := rfl
    rw [this, fnd_n0] at e1
    cases e1
  by_cases c : f.1 < 13
  · have := (e2 c).2; omega
  · obtain ⟨_, e4⟩ := e3 c
    have := (figs_i e4).2.1
    omega
/-- the reference reads filters alone -/
theorem ar_m {h : hp} {S off c : Nat} {L : List Int32} (X : MX h S off L) (m : MP h 0 c) :
    (∃ fs h', pFils L 161 0 = .inl (fs, L.length) ∧ fX14_areFiltersRead 165 h = some (1, h') ∧ MS h h' ∧ MP h' L.length c) ∨
    (∃ f h', ((∃ fs, pFils L 161 0 = .inl (fs, f) ∧ f < L.length) ∨ pFils L 161 0 = .inr f) ∧ fX14_areFiltersRead 165 h = some (0, h') ∧ MS h h' ∧ hI h' 165 15 = iN f ∧ f ≤ 160) := by
  have w := X.1
  have hl := X.2.2.2.2.2.2.2.2
  have eF : pFils L 161 0 = bnd (pFil L 0) fun f p1 => if hereL L p1 = 124 then bnd (pFils L 160 (p1 + 1)) fun fs p2 => .inl (f :: fs, p2) else .inl ([f], p1) := rfl
  rw [eF]
  unfold fX14_areFiltersRead
  rw [ckM w, Option.bind_some]
  rcases fil_m X m (Nat.zero_le _) with ⟨a, p1, h1, b1, b2, b3, b4, b5, b6⟩ | ⟨f, h1, b1, b2, b3, b4, b5⟩
  · have X1 := X.fs b3
    have w1 := X1.1
    have pos := fil_pos (Nat.zero_le _) b1
    have key := fils_l 160 p1 FU h1 X1 b4 b6 (by omega) (FU_pos _ (by omega))
    rw [b1, bnd_l, b2, bd2_s, if_neg z10, ar_eq]
    have two : ∀ (P : PR (List (Nat × Nat))), P = (if hereL L p1 = 124 then pFils L 160 (p1 + 1) else .inl ([], p1)) → (if hereL L p1 = 124 then bnd (pFils L 160 (p1 + 1)) fun fs p2 => .inl (a :: fs, p2) else .inl ([a], p1) : PR (List (Nat × Nat))) = bnd P fun fs p2 => .inl (a :: fs, p2) := by
      intro P hP
      rw [hP]
      by_cases c : hereL L p1 = 124
      · rw [if_pos c, if_pos c]
      · rw [if_neg c, if_neg c]; rfl
    rw [two _ rfl]
    rcases key with ⟨fs, p2, h2, c1, c2, c3, c4, c5, c6⟩ | ⟨f, h2, c1, c2, c3, c4, c5⟩
    · have w2 := (X1.fs c3).1
      have X2 := X1.fs c3
      rw [c1, bnd_l]
      -- the loop ended well
      have lp : ∃ t, fX14_isExpressionRead_l82 FU 165 h1 = some (t, h2) ∧ t = 1 := by
        cases hF : fX14_isExpressionRead_l82 FU 165 h1 with
        | none => rw [hF] at c2; cases c2
        | some r =>
          obtain ⟨t, g⟩ := r
          rw [hF] at c2
          have c2' : (if t = 0 then some ((0 : Int32), g) else if t = 1 then some (1, g) else none) = some (1, h2) := c2
          by_cases t0 : t = 0
          · rw [if_pos t0] at c2'
            have : (0 : Int32) = 1 := congrArg Prod.fst (Option.some.inj c2')
            exact absurd this (by decide)
          · rw [if_neg t0] at c2'
            by_cases t1 : t = 1
            · rw [if_pos t1] at c2'
              have := congrArg Prod.snd (Option.some.inj c2')
              have e : g = h2 := this
              subst e
              exact ⟨t, rfl, t1⟩
            · rw [if_neg t1] at c2'; cases c2'
      obtain ⟨t, e1, e2⟩ := lp
      subst e2
      rw [e1, bd2_s, if_neg (by decide), if_pos rfl, gM w2, Option.bind_some, gM w2, Option.bind_some, c4.1, X2.2.2.2.1]
      by_cases c : p2 = L.length
      · rw [if_pos (by rw [c])]
        refine .inl ⟨a :: fs, h2, by rw [c], rfl, b3.tr c3, by rw [← c]; exact c4⟩
      · rw [if_neg (show ¬ iN p2 = iN L.length from fun q => c ((i_eq (by omega) (by omega)).mp q)), Option.bind_some, ckM w2, Option.bind_some, fails_m w2 c4, bd2_s, if_pos rfl]
        refine .inr ⟨p2, _, .inl ⟨a :: fs, rfl, by omega⟩, rfl, (b3.tr c3).tr (MS.fa _), by rw [hI_pI, if_pos ⟨rfl, rfl⟩], by omega⟩
    · rw [c1, bnd_r]
      have lp : fX14_isExpressionRead_l82 FU 165 h1 = some (0, h2) := by
        cases hF : fX14_isExpressionRead_l82 FU 165 h1 with
        | none => rw [hF] at c2; cases c2
        | some r =>
          obtain ⟨t, g⟩ := r
          rw [hF] at c2
          have c2' : (if t = 0 then some ((0 : Int32), g) else if t = 1 then some (1, g) else none) = some (0, h2) := c2
          by_cases t0 : t = 0
          · rw [if_pos t0] at c2'
            have e : g = h2 := congrArg Prod.snd (Option.some.inj c2')
            rw [t0, e]
          · rw [if_neg t0] at c2'
            by_cases t1 : t = 1
            · rw [if_pos t1] at c2'
              have : (1 : Int32) = 0 := congrArg Prod.fst (Option.some.inj c2')
              exact absurd this (by decide)
            · rw [if_neg t1] at c2'; cases c2'
      rw [lp, bd2_s, if_pos rfl]
      exact .inr ⟨f, h2, .inr rfl, rfl, b3.tr c3, c4, c5⟩
  · rw [b1, bnd_r, b2, bd2_s, if_pos rfl]
    exact .inr ⟨f, h1, .inr rfl, rfl, b3, b4, b5⟩
/-- figures, behind a filter's name -/
theorem fo72 {S off c n q : Nat} {L : List Int32} (nf : ¬ isF (hereL L q) = true) (x2 : Int32) : ∀ (d p acc m : Nat) (h : hp), MX h S off L → MP h p c → figs L d p acc = (n, q) → p ≤ L.length → d < m → ∃ h', fX14_filtersOne_l72 m 165 x2 (iN acc) h = some (iN n, h') ∧ MS h h' ∧ MP h' q c := by
  intro d
  induction d with
  | zero =>
    intro p acc m h X mp' e hp' hm
    obtain ⟨m, rfl⟩ : ∃ x, m = x + 1 := ⟨m - 1, by omega⟩
    have hl := X.2.2.2.2.2.2.2.2
    have e1 : acc = n := congrArg Prod.fst e
    have e2 : p = q := congrArg Prod.snd e
    subst e1 e2
    refine ⟨h, ?_, FS.rf _ h, mp'⟩
    rw [fX14_filtersOne_l72, ckM X.1, Option.bind_some, here_m X mp' (by omega), bd2_s, isInF, bd2_s, if_neg nf, if_pos rfl]
  | succ d ih =>
    intro p acc m h X mp' e hp' hm
    obtain ⟨m, rfl⟩ : ∃ x, m = x + 1 := ⟨m - 1, by omega⟩
    have hl := X.2.2.2.2.2.2.2.2
    have e1 : figs L (d + 1) p acc = if isF (hereL L p) = true then figs L d (p + 1) (acc * 10 + ((hereL L p).toInt.toNat - 48)) else (acc, p) := rfl
    rw [e1] at e
    by_cases cf : isF (hereL L p) = true
    · have hlt := here_in (by decide) cf
      rw [if_pos cf] at e
      have ci := (isF_i _).mp cf
      have cv : hereL L p = iN (hereL L p).toInt.toNat := Int32.toInt_inj.mp (by rw [i_toInt (by omega)]; omega)
      obtain ⟨h', e2, s2, m2⟩ := ih (p + 1) _ m (pI h 165 14 (iN (p + 1))) (X.fs (MS.at _)) (mp'.at _) e hlt (by omega)
      refine ⟨h', ?_, (MS.at _).tr s2, m2⟩
      have ar : 10 * iN acc + hereL L p - 48 = iN (acc * 10 + ((hereL L p).toInt.toNat - 48)) := by
        rw [cv, i_mullit, i_add, show (48 : Int32) = iN 48 from rfl, i_sub (by omega), i_toInt (by omega)]
        congr 1
        omega
      rw [fX14_filtersOne_l72, ckM X.1, Option.bind_some, here_m X mp' (by omega), bd2_s, isInF, bd2_s, if_pos cf, if_neg (by decide), ckM X.1, Option.bind_some, here_m X mp' (by omega), bd2_s, gM X.1, Option.bind_some, mp'.1, i_succ, pM X.1, Option.bind_some, ar, e2]
    · rw [if_neg cf] at e
      have e1 : acc = n := congrArg Prod.fst e
      have e2 : p = q := congrArg Prod.snd e
      subst e1 e2
      refine ⟨h, ?_, FS.rf _ h, mp'⟩
      rw [fX14_filtersOne_l72, ckM X.1, Option.bind_some, here_m X mp' (by omega), bd2_s, isInF, bd2_s, if_neg nf, if_pos rfl]
def PMs (x k : Nat) : Prop := PM x k ∨ sP 8 x k
theorem MX.sl {P : Nat → Nat → Prop} {h h' : hp} {off : Nat} {L : List Int32} (X : MX h 172 off L) (f : FS P h h') (hP : ∀ x k, P x k → PMs x k) : MX h' 172 off L := by
  obtain ⟨w, x1, x2, x3, x4, x5, x6, x7, x8⟩ := X
  have e := fun x k (q : ¬ PMs x k) => (f.2.2.2.2 x k (fun z => q (hP x k z))).1
  refine ⟨w.fs f, by rw [f.2.2.2.1]; exact x1, by rw [e _ _ (fun q => by unfold PMs PM sP at q; omega)]; exact x2, by rw [e _ _ (fun q => by unfold PMs PM sP at q; omega)]; exact x3, by rw [f.2.2.1]; exact x4, x5, fun k hk => by rw [e _ _ (fun q => by unfold PMs PM sP at q; omega)]; exact x6 k hk, x7, x8⟩
theorem MP.sl {P : Nat → Nat → Prop} {h h' : hp} {p c : Nat} (m : MP h p c) (f : FS P h h') (hP : ∀ x k, P x k → sP 8 x k) : MP h' p c := by
  have e := fun k => (f.2.2.2.2 165 k (fun z => by have := hP _ _ z; unfold sP at this; omega)).1
  exact ⟨by rw [e]; exact m.1, by rw [e]; exact m.2.1, by rw [e]; exact m.2.2⟩
/-- the filters gone through -/
theorem fo_l {off c : Nat} {L : List Int32} : ∀ (N p s m : Nat) (h : hp) (V : vT) (fs : List (Nat × Nat)), MX h 172 off L → MP h p c → p < L.length → s = (if hereL L p = 124 then p + 1 else p) → pFils L N s = .inl (fs, L.length) → MV h 8 V → gV V → N + 1 < m → ∃ h', fX14_filtersOne_l7 m 165 0 h = some (iN (apF fs V).1, h') ∧ FS PMs h h' ∧ ((apF fs V).1 = 0 → MV h' 8 (apF fs V).2 ∧ gV (apF fs V).2) := by
  intro N
  induction N with
  | zero => intro p s m h V fs _ _ _ _ e; cases e
  | succ N ih =>
    intro p s m h V fs X mp' hp' hs e M g hm
    obtain ⟨m, rfl⟩ : ∃ x, m = x + 1 := ⟨m - 1, by omega⟩
    have w := X.1
    have hl := X.2.2.2.2.2.2.2.2
    have hs1 : s ≤ L.length := by rw [hs]; split <;> omega
    unfold pFils at e
    obtain ⟨f, p1, s1, e⟩ := bnd_i e
    obtain ⟨_, y1, y2, f18, n, en, fe, y3, y4⟩ := fil_i hs1 s1
    -- behind the filter no figure stands
    have nf : ¬ isF (hereL L p1) = true := by
      by_cases c1 : hereL L p1 = 124
      · rw [c1]; decide
      · rw [if_neg c1] at e
        have : p1 = L.length := congrArg Prod.snd (Sum.inl.inj e)
        unfold hereL
        rw [if_neg (by omega)]; decide
    have X1 := X.fs (MS.at (iN s))
    have m1 := mp'.at s
    have w1 := X1.1
    obtain ⟨h2, e2, s2, m2⟩ := nameH_m X1 m1 hs1
    have X2 := X1.fs s2
    have w2 := X2.1
    rw [← en] at e2 m2
    rw [fe] at e2
    have f2lt : f.2 < 100000 := by
      by_cases c1 : f.1 < 13
      · rw [(y3 c1).1]; decide
      · exact pfigs_lt (y4 c1).2
    -- the number behind the name
    have num : ∃ h3, bd2 (fX14_filtersOne_l72 FU 165 (iN f.1) 0 (pI h2 165 14 (iN (s + n + if f.1 < 13 then 0 else 1)))) (fun v23 h22 => some (v23, h22)) = some (iN f.2, h3) ∧ MS h2 h3 ∧ MP h3 p1 c ∧ fX14_filtersOne_l72 FU 165 (iN f.1) 0 (pI h2 165 14 (iN (s + n + if f.1 < 13 then 0 else 1))) = some (iN f.2, h3) := by
      by_cases c1 : f.1 < 13
      · obtain ⟨z1, z2⟩ := y3 c1
        rw [if_pos c1, Nat.add_zero]
        obtain ⟨h3, u1, u2, u3⟩ := fo72 (q := p1) (n := 0) nf (iN f.1) 0 (s + n) 0 FU (pI h2 165 14 (iN (s + n))) (X2.fs (MS.at _)) (m2.at _) (by rw [z2]; rfl) (by omega) (FU_pos _ (by decide))
        have u1' : fX14_filtersOne_l72 FU 165 (iN f.1) 0 (pI h2 165 14 (iN (s + n))) = some (iN f.2, h3) := by rw [z1]; exact u1
        exact ⟨h3, by rw [u1', bd2_s], (MS.at _).tr u2, u3, u1'⟩
      · obtain ⟨z1, z2⟩ := y4 c1
        rw [if_neg c1]
        have z3 : figs L 5 (s + n + 1) 0 = (f.2, p1) := by
          unfold pFigs at z2
          by_cases cc : isF (hereL L (s + n + 1)) = true
          · rw [if_pos cc] at z2; exact Sum.inl.inj z2
          · rw [if_neg cc] at z2; cases z2
        have hlt := (here_lt z1 (by decide)).1
        obtain ⟨h3, u1, u2, u3⟩ := fo72 nf (iN f.1) 5 (s + n + 1) 0 FU (pI h2 165 14 (iN (s + n + 1))) (X2.fs (MS.at _)) (m2.at _) z3 (by omega) (FU_pos _ (by decide))
        exact ⟨h3, by rw [show (0 : Int32) = iN 0 from rfl, u1, bd2_s], (MS.at _).tr u2, u3, u1⟩
    obtain ⟨h3, _, s3, m3, e3⟩ := num
    have X3 := X2.fs s3
    have w3 := X3.1
    have F3 : FS PMs h h3 := (((MS.at (iN s)).tr s2).tr s3).up fun x k q => .inl q
    have M3 : MV h3 8 V := M.fr (((MS.at (iN s)).tr s2).tr s3) (fun x k q z => by unfold sP at q; unfold PM at z; omega)
    obtain ⟨h4, e4, M4, f4⟩ := mFlt w3 (t := 8) (m := f.2) (q := f.1) (by decide) M3 g (by omega) f18
    have X4 := X3.sl f4 (fun x k q => .inr q)
    have m4 := m3.sl f4 (fun x k q => q)
    have F4 := F3.tr (f4.up fun x k q => .inr q)
    have g4 := flt_good (q := f.1) (m := f.2) g (by omega) f18
    have w4 := X4.1
    have st : fX14_filtersOne_l7 (m + 1) 165 0 h = fX14_filtersOne_l7 m 165 (iN (fltS f.1 (iN f.2) V).1) h4 := by
      have ls : iN p + (if hereL L p = 124 then (1 : Int32) else 0) = iN s := by
        rw [hs]
        by_cases c1 : hereL L p = 124
        · rw [if_pos c1, if_pos c1]; exact i_succ p
        · rw [if_neg c1, if_neg c1]; exact i_add p 0
      have rest : ((pfI h 165 13 14 (iN s)).bind fun h11 => (ckT h11 165 13).bind fun _ => bd2 (fX14_nameHere 165 h11) fun v14 h15 => (gfI h15 165 13 14).bind fun v17 => jn (fun (s68_0 : Int32) (h68j : hp) => ((pfI h68j 165 13 14 (v17 + s68_0)).bind fun h19 => bd2 (fX14_filtersOne_l72 FU 165 v14 0 h19) fun v23 h22 => (ckT h22 165 13).bind fun _ => bd2 (fX14_filtered 165 8 v14 v23 h22) fun v25 h26 => fX14_filtersOne_l7 m 165 v25 h26)) fun k68 => if v14 < 13 then k68 0 h15 else k68 1 h15) = fX14_filtersOne_l7 m 165 (iN (fltS f.1 (iN f.2) V).1) h4 := by
        rw [pM w, Option.bind_some, ckM w1, Option.bind_some, e2, bd2_s, gM w2, Option.bind_some, m2.1, jn_e]
        have e13 : (iN f.1 < 13) = (f.1 < 13) := i_lt (b := 13) (by omega) (by decide)
        have fin : ∀ j : Nat, j = (if f.1 < 13 then 0 else 1) → ((pfI h2 165 13 14 (iN (s + n) + iN j)).bind fun h19 => bd2 (fX14_filtersOne_l72 FU 165 (iN f.1) 0 h19) fun v23 h22 => (ckT h22 165 13).bind fun _ => bd2 (fX14_filtered 165 8 (iN f.1) v23 h22) fun v25 h26 => fX14_filtersOne_l7 m 165 v25 h26) = fX14_filtersOne_l7 m 165 (iN (fltS f.1 (iN f.2) V).1) h4 := by
          intro j hj
          rw [i_add, hj, pM w2, Option.bind_some, e3, bd2_s, ckM w3, Option.bind_some, show fX14_filtered 165 8 (iN f.1) (iN f.2) h3 = _ from e4, bd2_s]
        show (if iN f.1 < 13 then _ else _) = _
        by_cases c1 : f.1 < 13
        · rw [if_pos (by rw [e13]; exact c1)]
          exact fin 0 (by rw [if_pos c1])
        · rw [if_neg (by rw [e13]; exact c1)]
          exact fin 1 (by rw [if_neg c1])
      rw [fX14_filtersOne_l7, if_pos rfl, gM w, Option.bind_some, gM w, Option.bind_some, mp'.1, X.2.2.2.1, if_neg (by rw [i_le (by omega) (by omega)]; omega), Option.bind_some, ckM w, Option.bind_some, here_m X mp' (by omega), bd2_s, jn_e]
      by_cases c1 : hereL L p = 124
      · rw [if_pos c1] at ls ⊢
        show ((pfI h 165 13 14 (iN p + 1)).bind _) = _
        rw [show (iN p + 1 : Int32) = iN s from ls]
        exact rest
      · rw [if_neg c1] at ls ⊢
        show ((pfI h 165 13 14 (iN p + 0)).bind _) = _
        rw [show (iN p + 0 : Int32) = iN s from ls]
        exact rest
    rw [st]
    obtain ⟨m, rfl⟩ : ∃ x, m = x + 1 := ⟨m - 1, by omega⟩
    have fl := fls_le f.1 (iN f.2) V
    by_cases z : (fltS f.1 (iN f.2) V).1 = 0
    · have ea : ∀ r, apF (f :: r) V = apF r (fltS f.1 (iN f.2) V).2 := fun r => by
        show (if (fltS f.1 (iN f.2) V).1 = 0 then apF r (fltS f.1 (iN f.2) V).2 else _) = _
        rw [if_pos z]
      rw [z]
      by_cases c1 : hereL L p1 = 124
      · rw [if_pos c1] at e
        obtain ⟨r, p2, s5, e⟩ := bnd_i e
        have a1 : f :: r = fs := congrArg Prod.fst (Sum.inl.inj e)
        have a2 : p2 = L.length := congrArg Prod.snd (Sum.inl.inj e)
        subst a1 a2
        have hlt := (here_lt c1 (by decide)).1
        obtain ⟨h5, e5, f5, r5⟩ := ih p1 (p1 + 1) (m + 1) h4 _ r X4 m4 hlt (by rw [if_pos c1]) s5 M4 g4 (by omega)
        rw [ea]
        exact ⟨h5, e5, F4.tr f5, r5⟩
      · rw [if_neg c1] at e
        have a1 : [f] = fs := congrArg Prod.fst (Sum.inl.inj e)
        have a2 : p1 = L.length := congrArg Prod.snd (Sum.inl.inj e)
        subst a1
        rw [ea]
        refine ⟨h4, ?_, F4, fun _ => ⟨M4, g4⟩⟩
        rw [fX14_filtersOne_l7, if_pos (show iN 0 = 0 from rfl), gM w4, Option.bind_some, gM w4, Option.bind_some, m4.1, X4.2.2.2.1, if_pos (by rw [i_le (by omega) (by omega)]; omega)]
        rfl
    · have ea : ∀ r, apF (f :: r) V = fltS f.1 (iN f.2) V := fun r => by
        show (if (fltS f.1 (iN f.2) V).1 = 0 then apF r (fltS f.1 (iN f.2) V).2 else _) = _
        rw [if_neg z]
      have hf : ∃ r, fs = f :: r := by
        by_cases c1 : hereL L p1 = 124
        · rw [if_pos c1] at e
          obtain ⟨r, p2, s5, e⟩ := bnd_i e
          exact ⟨r, (congrArg Prod.fst (Sum.inl.inj e)).symm⟩
        · rw [if_neg c1] at e
          exact ⟨[], (congrArg Prod.fst (Sum.inl.inj e)).symm⟩
      obtain ⟨r, rfl⟩ := hf
      rw [ea]
      refine ⟨h4, ?_, F4, fun q => absurd q z⟩
      rw [fX14_filtersOne_l7, if_neg (fun q => z ((fltz (by omega)).mp q))]

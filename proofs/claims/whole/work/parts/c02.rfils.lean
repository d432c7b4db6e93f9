/-! the reference's walk: filters, expressions -/
theorem run_stop {L : List Int32} : ∀ (d p : Nat), runL L d p < d → ¬ isL (hereL L (p + runL L d p)) = true := by
  intro d
  induction d with
  | zero => intro p h; omega
  | succ d ih =>
    intro p h
    have e : runL L (d + 1) p = if isL (hereL L p) = true then runL L d (p + 1) + 1 else 0 := rfl
    by_cases c : isL (hereL L p) = true
    · rw [e, if_pos c] at h ⊢
      rw [show p + (runL L d (p + 1) + 1) = p + 1 + runL L d (p + 1) by omega]
      exact ih (p + 1) (by omega)
    · rw [e, if_neg c]; exact c
theorem nm_l {k p n s : Nat} {L : List Int32} (x4 : Int32) (hb : p + n < L.length) (al : ∀ j, p ≤ j → j < p + n → isL (L.getD j 0) = true) (st : ¬ isL (L.getD (p + n) 0) = true) : ∀ (d j m : Nat) (h : hp), TX h k L → j + d = n → d < m → hI h 165 17 = iN (p + j) → ∃ h', fX14_worksOut_l41 m 165 (iN k) (iN s) x4 h = some h' ∧ hI h' 165 17 = iN (p + n) ∧ FM P17 h h' := by
  intro d
  induction d with
  | zero =>
    intro j m h T hj hm a
    obtain ⟨m, rfl⟩ : ∃ x, m = x + 1 := ⟨m - 1, by omega⟩
    have hj' : j = n := by omega
    subst hj'
    refine ⟨h, ?_, a, FM.rf _ h⟩
    rw [fX14_worksOut_l41, gM T.1, Option.bind_some, ckM T.1, Option.bind_some, a, byte_e T hb, bd2_s, isInL, bd2_s, ite10, if_neg st]
  | succ d ih =>
    intro j m h T hj hm a
    obtain ⟨m, rfl⟩ : ∃ x, m = x + 1 := ⟨m - 1, by omega⟩
    have f1 : FM P17 h (pI h 165 17 (iN (p + j + 1))) := (FS.pI ⟨rfl, rfl⟩).fm
    obtain ⟨h', e2, a2, f2⟩ := ih (j + 1) m (pI h 165 17 (iN (p + j + 1))) (T.fm f1 fun x j q => by unfold P17 at q; omega) (by omega) (by omega) (by rw [hI_pI, if_pos ⟨rfl, rfl⟩]; rfl)
    refine ⟨h', ?_, a2, f1.tr f2⟩
    rw [fX14_worksOut_l41, gM T.1, Option.bind_some, ckM T.1, Option.bind_some, a, byte_e T (show p + j < L.length by omega), bd2_s, isInL, bd2_s, ite10, if_pos (al (p + j) (by omega) (by omega)), gM T.1, Option.bind_some, a, i_succ, pM T.1, Option.bind_some, e2]
/-- one filter and what stands behind it -/
theorem wk_l {k s : Nat} {L : List Int32} (hs : s = 8 ∨ s = 9) {q : Nat} (hq : q < L.length) (nf : ¬ isF (L.getD q 0) = true) (nb : L.getD q 0 ≠ 124) : ∀ (N p m : Nat) (h : hp) (V : vT) (fs : List (Nat × Nat)), TX h k L → pFils L N (p + 1) = .inl (fs, q) → hereL L p = 124 → hI h 165 17 = iN p → MV h s V → gV V → N + 1 < m → ∃ h', fX14_worksOut_l7 m 165 (iN k) (iN s) 0 h = some (iN (apF fs V).1, h') ∧ FM (PE s) h h' ∧ ((apF fs V).1 = 0 → hI h' 165 17 = iN q ∧ MV h' s (apF fs V).2 ∧ gV (apF fs V).2) := by
  intro N
  induction N with
  | zero => intro p m h V fs T e; cases e
  | succ N ih =>
    intro p m h V fs T e b a H g hm
    obtain ⟨m, rfl⟩ : ∃ x, m = x + 1 := ⟨m - 1, by omega⟩
    have w := T.1
    have hs10 : s < 10 := by omega
    obtain ⟨hpl, hb⟩ := here_lt b (by decide)
    have lL := T.2.2.1
    obtain ⟨f, p1, e1, e2⟩ := bnd_i (show bnd (pFil L (p + 1)) (fun f p1 => if hereL L p1 = 124 then bnd (pFils L N (p1 + 1)) fun fs p2 => .inl (f :: fs, p2) else .inl ([f], p1)) = .inl (fs, q) from e)
    obtain ⟨i1, i2, i3, i4, n, i5, i6, i7, i8⟩ := fil_i (p := p + 1) (show p + 1 ≤ L.length from hpl) e1
    -- where the filter ends
    have h1 : p1 < L.length ∧ ¬ isF (L.getD p1 0) = true := by
      by_cases c : hereL L p1 = 124
      · obtain ⟨x, y⟩ := here_lt c (by decide)
        exact ⟨x, by rw [y]; decide⟩
      · rw [if_neg c] at e2
        have : p1 = q := congrArg Prod.snd (Sum.inl.inj e2)
        rw [this]; exact ⟨hq, nf⟩
    have hn1 : p + 1 + n ≤ p1 := by
      by_cases c : f.1 < 13
      · have := (i7 c).2; omega
      · obtain ⟨x, y⟩ := i8 c
        have := (figs_i y).2.1
        omega
    have run := run_all (L := L) 160 (p + 1)
    have stp := run_stop (L := L) 160 (p + 1) (by omega)
    rw [← i5] at run stp
    rw [hereL_in (by omega)] at stp
    -- to the name's end
    have f1' : FM P17 h (pI h 165 17 (iN (p + 1))) := (FS.pI ⟨rfl, rfl⟩).fm
    have f1 : FM (PE s) h (pI h 165 17 (iN (p + 1))) := f1'.wk
    have T1 := T.fm f1 fun x k q => pe_tx q
    have w1 := T1.1
    obtain ⟨h2, e3, a2, f2⟩ := nm_l (s := s) (iN (p + 1)) (show p + 1 + n < L.length by omega) run stp n 0 FU (pI h 165 17 (iN (p + 1))) T1 (by omega) (FU_pos _ (by omega)) (by rw [hI_pI, if_pos ⟨rfl, rfl⟩, Nat.add_zero])
    have T2 := T1.fm f2 fun x j q => by unfold P17 at q; omega
    have w2 := T2.1
    have f3 : FM (PE s) h2 (pI (pR h2 165 11 173) 165 12 (iN (160 * k))) := (FM.p11 173).tr (FS.pI (.inr ⟨rfl, .inl rfl⟩)).fm
    have T3 := T2.fm f3 fun x k q => pe_tx q
    have w3 := T3.1
    have a3 : hI (pI (pR h2 165 11 173) 165 12 (iN (160 * k))) 165 17 = iN (p + 1 + n) := by rw [hI_pI, if_neg (by omega)]; exact a2
    have X3 : MXo (pI (pR h2 165 11 173) 165 12 (iN (160 * k))) 173 (160 * k) L := ⟨w3, by show hR (pR h2 165 11 173) 165 11 = 173; rw [hR_pR, if_pos ⟨rfl, rfl⟩], by rw [hI_pI, if_pos ⟨rfl, rfl⟩], ⟨960, T173 w3, by have := T.2.1; omega, by decide⟩, fun i hi => T3.2.2.2.2.1 i hi, lL⟩
    have nm := nameAt_m X3 (Nat.le_add_right (p + 1) n) (by omega) (fun j j1 j2 => run j j1 j2)
    rw [Nat.add_sub_cancel_left, i6] at nm
    have H3 : MV (pI (pR h2 165 11 173) 165 12 (iN (160 * k))) s V := ((H.fm f1' (fun x j q z => by unfold sP at q; unfold P17 at z; omega)).fm f2 (fun x j q z => by unfold sP at q; unfold P17 at z; omega)).fm (P := fun x j => x = 165 ∧ j = 12) ((FM.p11 173).tr (FS.pI ⟨rfl, rfl⟩).fm) (fun x j q z => by unfold sP at q; omega)
    have F3 : FM (PE s) h (pI (pR h2 165 11 173) 165 12 (iN (160 * k))) := (f1.tr f2.wk).tr f3
    -- the filter itself, from the place behind it
    have fin : ∀ g4 : hp, FM (PE s) h g4 → TX g4 k L → MV g4 s V → hI g4 165 17 = iN p1 → ∃ h', ((ckT g4 165 13).bind fun _ => bd2 (fX14_filtered 165 (iN s) (iN f.1) (iN f.2) g4) fun v28 h29 => fX14_worksOut_l7 m 165 (iN k) (iN s) v28 h29) = some (iN (apF fs V).1, h') ∧ FM (PE s) h h' ∧ ((apF fs V).1 = 0 → hI h' 165 17 = iN q ∧ MV h' s (apF fs V).2 ∧ gV (apF fs V).2) := by
      intro g4 F4 T4 H4 a4
      have w4 := T4.1
      have m5 : f.2 < 100000 := by
        by_cases c : f.1 < 13
        · have := (i7 c).1; omega
        · exact pfigs_lt (i8 c).2
      obtain ⟨h5, e5, v5, f5⟩ := mFlt w4 hs10 H4 g (show f.2 < 2147483648 by omega) i4
      have g5 := flt_good (q := f.1) (m := f.2) g (by omega) i4
      have F5 := F4.tr (FM.sp f5)
      have T5 := T4.fm (FM.sp f5) fun x k q => pe_tx q
      have w5 := T5.1
      have a5 : hI h5 165 17 = iN p1 := by rw [(f5.2.2.2.2 165 17 (fun q => by unfold sP at q; omega)).1]; exact a4
      have le4 := fls_le f.1 (iN f.2) V
      rw [ckM w4, Option.bind_some, e5, bd2_s]
      by_cases z : (fltS f.1 (iN f.2) V).1 = 0
      · rw [z]
        by_cases c : hereL L p1 = 124
        · rw [if_pos c] at e2
          obtain ⟨fs', p2, e6, e7⟩ := bnd_i e2
          have q1 : f :: fs' = fs := congrArg Prod.fst (Sum.inl.inj e7)
          have q2 : p2 = q := congrArg Prod.snd (Sum.inl.inj e7)
          subst q1 q2
          have ea : apF (f :: fs') V = apF fs' (fltS f.1 (iN f.2) V).2 := if_pos z
          obtain ⟨h6, e8, f8, r8⟩ := ih p1 m h5 _ fs' T5 e6 c a5 v5 g5 (by omega)
          rw [ea]
          exact ⟨h6, e8, F5.tr f8, r8⟩
        · rw [if_neg c] at e2
          have q1 : [f] = fs := congrArg Prod.fst (Sum.inl.inj e2)
          have q2 : p1 = q := congrArg Prod.snd (Sum.inl.inj e2)
          subst q1 q2
          have ea : apF [f] V = (0, (fltS f.1 (iN f.2) V).2) := if_pos z
          rw [ea]
          obtain ⟨m, rfl⟩ : ∃ x, m = x + 1 := ⟨m - 1, by omega⟩
          refine ⟨h5, ?_, F5, fun _ => ⟨a5, v5, g5⟩⟩
          rw [show (iN 0 : Int32) = 0 from rfl, fX14_worksOut_l7, if_pos rfl, gM w5, Option.bind_some, ckM w5, Option.bind_some, a5, byte_e T5 hq, bd2_s, if_neg nb]
      · have ea : apF fs V = fltS f.1 (iN f.2) V := by
          by_cases c : hereL L p1 = 124
          · rw [if_pos c] at e2
            obtain ⟨fs', p2, e6, e7⟩ := bnd_i e2
            have q1 : f :: fs' = fs := congrArg Prod.fst (Sum.inl.inj e7)
            subst q1
            exact if_neg z
          · rw [if_neg c] at e2
            have q1 : [f] = fs := congrArg Prod.fst (Sum.inl.inj e2)
            subst q1
            exact if_neg z
        rw [ea]
        obtain ⟨m, rfl⟩ : ∃ x, m = x + 1 := ⟨m - 1, by omega⟩
        refine ⟨h5, ?_, F5, fun q => absurd q z⟩
        rw [fX14_worksOut_l7, if_neg (show ¬ iN (fltS f.1 (iN f.2) V).1 = 0 from fun q => z ((i_eq (b := 0) (by omega) (by decide)).mp q))]
    have pr : pfR h2 165 13 11 173 = some (pR h2 165 11 173) := by unfold pfR; rw [T165 w2]; rfl
    have wr : WF (pR h2 165 11 173) := (FM.p11 (P := PE s) 173).wf w2
    rw [fX14_worksOut_l7, if_pos rfl, gM w, Option.bind_some, ckM w, Option.bind_some, a, byte_e T hpl, bd2_s, if_pos hb, gM w, Option.bind_some, a, i_succ, pM w, Option.bind_some, gM w1, Option.bind_some, hI_pI, if_pos ⟨rfl, rfl⟩, e3, Option.bind_some, MR8 w2, Option.bind_some, pr, Option.bind_some, k160, pM wr, Option.bind_some, gM w3, Option.bind_some, a3, ckM w3, Option.bind_some, nm, bd2_s, jn_e]
    have oi : oI (some f.1) = iN f.1 := rfl
    rw [oi]
    by_cases c : f.1 < 13
    · rw [if_pos (show iN f.1 < 13 from (i_lt (b := 13) (by omega) (by decide)).mpr c)]
      obtain ⟨z1, z2⟩ := i7 c
      have := fin _ F3 T3 H3 (by rw [a3, z2])
      rw [z1] at this
      exact this
    · rw [if_neg (show ¬ iN f.1 < 13 from fun q => c ((i_lt (b := 13) (by omega) (by decide)).mp q))]
      obtain ⟨z1, z2⟩ := i8 c
      have f4 : FM (PE s) (pI (pR h2 165 11 173) 165 12 (iN (160 * k))) (pI (pI (pR h2 165 11 173) 165 12 (iN (160 * k))) 165 17 (iN (p + 1 + n + 1))) := (FS.pI (.inr ⟨rfl, .inr rfl⟩)).fm
      have T4 := T3.fm f4 fun x k q => pe_tx q
      have w4 := T4.1
      obtain ⟨h5, e5, a5, f5⟩ := fg_e T4 z2 h1.1 h1.2 (by rw [hI_pI, if_pos ⟨rfl, rfl⟩]) (by omega)
      have T5 := T4.fm f5 fun x j q => by unfold P17 at q; omega
      rw [gM w3, Option.bind_some, a3, i_succ, pM w3, Option.bind_some, ckM w4, Option.bind_some, e5, bd2_s]
      exact fin h5 ((F3.tr f4).tr f5.wk) T5 ((H3.fm (P := P17) (FS.pI ⟨rfl, rfl⟩).fm (fun x j q z => by unfold sP at q; unfold P17 at z; omega)).fm f5 (fun x j q z => by unfold sP at q; unfold P17 at z; omega)) a5
/-- an expression worked out by the reference -/
theorem rwo_e {h : hp} {k p q s : Nat} {L : List Int32} {vs : Nat → vT} {trn : Option Nat} {e : EX} (T : TX h k L) (R : RVs h vs trn) (hs : s = 8 ∨ s = 9) (he : pExpr L p = .inl (e, q)) (hq : q < L.length) (nf : ¬ isF (L.getD q 0) = true) (nb : L.getD q 0 ≠ 124) (a : hI h 165 17 = iN p) : ∃ h', fX14_worksOut 165 (iN k) (iN s) h = some (iN (evE vs trn e).1, h') ∧ FM (PE s) h h' ∧ ((evE vs trn e).1 = 0 → hI h' 165 17 = iN q ∧ MV h' s (evE vs trn e).2 ∧ gV (evE vs trn e).2) := by
  have w := T.1
  obtain ⟨n1, n2, n3, e0, p1, ea, pq, cs⟩ := expr_i he
  have hp1 : p1 < L.length ∧ ¬ isF (L.getD p1 0) = true := by
    rcases cs with ⟨c, _, rfl⟩ | ⟨fs, c, _⟩
    · exact ⟨hq, nf⟩
    · obtain ⟨x, y⟩ := here_lt c (by decide)
      exact ⟨x, by rw [y]; decide⟩
  obtain ⟨h1, e1, f1, r1⟩ := op_e T R hs ea hp1.1 hp1.2 a
  have T1 := T.fm f1 fun x k q => pe_tx q
  have w1 := T1.1
  have em := (atom_i ea).2.2.2.1
  unfold fX14_worksOut
  rw [ckM w, Option.bind_some, e1, bd2_s]
  by_cases z : e0.1 = 2 ∧ trn = none
  · have ev : evE vs trn e = (9, vN) := by
      unfold evE
      rcases cs with ⟨c, rfl, _⟩ | ⟨fs, c, _, rfl⟩
      · rw [if_pos z]
      · rw [if_pos z]
    rw [if_pos z, ev]
    refine ⟨h1, ?_, f1, fun q => absurd q (by decide)⟩
    rw [show fX14_worksOut_l7 FU 165 (iN k) (iN s) (iN 9) h1 = some (iN 9, h1) by
      show fX14_worksOut_l7 (999999 + 1) 165 (iN k) (iN s) (iN 9) h1 = _
      rw [fX14_worksOut_l7, if_neg (by decide)], bd2_s]
  · rw [if_neg z]
    obtain ⟨a1, v1, g1⟩ := r1 z
    rcases cs with ⟨c, rfl, rfl⟩ | ⟨fs, c, ef, rfl⟩
    · have ev : evE vs trn e = (0, bsE vs trn e) := by unfold evE; rw [if_neg z, em]; rfl
      rw [ev]
      refine ⟨h1, ?_, f1, fun _ => ⟨a1, v1, g1⟩⟩
      rw [show fX14_worksOut_l7 FU 165 (iN k) (iN s) (iN 0) h1 = some (iN 0, h1) by
        show fX14_worksOut_l7 (999999 + 1) 165 (iN k) (iN s) 0 h1 = _
        rw [fX14_worksOut_l7, if_pos rfl, gM w1, Option.bind_some, ckM w1, Option.bind_some, a1, byte_e T1 hp1.1, bd2_s, if_neg nb]
        rfl, bd2_s]
    · have ev : evE vs trn (e0.1, e0.2.1, e0.2.2.1, fs) = apF fs (bsE vs trn e0) := by unfold evE; rw [if_neg z]; rfl
      rw [ev]
      obtain ⟨h2, e2, f2, r2⟩ := wk_l hs hq nf nb 161 p1 FU h1 _ fs T1 ef c a1 v1 g1 (FU_pos _ (by decide))
      exact ⟨h2, by rw [show fX14_worksOut_l7 FU 165 (iN k) (iN s) (iN 0) h1 = _ from e2, bd2_s], f1.tr f2, r2⟩

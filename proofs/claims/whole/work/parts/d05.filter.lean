/-! the call filter -/
set_option maxHeartbeats 400000
/-- filters alone, read by the class -/
theorem rw_o {h : hp} {o tp bx : Nat} {L : List Int32} (R : RD h o tp bx L) (z : ZH h) (r : RO h o tp L 0) :
    (∃ fs v h', pFils L 161 0 = .inl (fs, L.length) ∧ fX7_readWholeFilters o h = some (v, h') ∧ v ≠ 0 ∧ FG (KO o) h h' ∧ ZH h' ∧ hN h' ≤ hN h + 160 ∧ hL h' ≤ hL h + 480 ∧ RepF h' (64 + hN h) (64 + hN h') fs v ∧ fs.length ≤ 161) ∨
    (∃ f h', ((∃ fs, pFils L 161 0 = .inl (fs, f) ∧ f < L.length) ∨ pFils L 161 0 = .inr f) ∧ fX7_readWholeFilters o h = some (0, h') ∧ FG (KO o) h h' ∧ ZH h' ∧ hN h' ≤ hN h + 160 ∧ hL h' ≤ hL h + 480 ∧ hI h' o 4 = iN f ∧ f ≤ 160) := by
  have hlen : L.length ≤ 160 := R.2.2.2.2.2.2.2.1.2.2.1
  have g6 : ∀ {g : hp}, RD g o tp bx L → (∀ k, gfI g o 6 k = some (hI g o k)) ∧ gfR g o 6 0 = some 128 ∧ gfI g 128 4 1 = some (iN L.length) := fun {g} Rg => by
    refine ⟨fun k => by unfold gfI; rw [Rg.2.1]; rfl, by unfold gfR; rw [Rg.2.1]; show some (hR g o 0) = _; rw [Rg.2.2.1], ?_⟩
    have N := Rg.2.2.2.2.2.2.2.1
    rw [gIN N.1, N.2.1]
  unfold fX7_readWholeFilters
  rw [ckO R, Option.bind_some]
  rcases filters_o R z r with ⟨fs, p', v, h', a1, a2, a3, a4, a5, a6, a7, a8, a9⟩ | ⟨f, v, h', a1, a2, a3, a4, a5, a6, a7, a8, a9⟩
  · have R' := R.fg (a3.up fun _ _ q => .inl q)
    obtain ⟨g1, g2, g3⟩ := g6 R'
    have hp1 := a5.2.2.2
    rw [a2, bd2_s, g1, Option.bind_some, g2, Option.bind_some, g3, Option.bind_some, jn_e, a5.1]
    have fl := fils_le _ _ _ _ a1
    by_cases c : p' = L.length
    · rw [if_pos (by rw [i_le (by omega) (by omega)]; omega)]
      refine .inl ⟨fs, v, h', by rw [← c]; exact a1, ?_, ?_, a3, a4, by omega, by omega, a9, fl⟩
      · show ((gfI h' o 6 4).bind fun v11 => if 0 ≤ v11 then some (0, h') else some (v, h')) = _
        rw [g1, Option.bind_some, a5.2.2.1, if_neg n0_le]
      · cases fs with
        | nil =>
          exfalso
          unfold pFils at a1
          obtain ⟨f, p1, s1, e⟩ := bnd_i a1
          by_cases c1 : hereL L p1 = 124
          · rw [if_pos c1] at e
            obtain ⟨r, p2, s2, e⟩ := bnd_i e
            have : f :: r = [] := congrArg Prod.fst (Sum.inl.inj e)
            cases this
          · rw [if_neg c1] at e
            have : [f] = [] := congrArg Prod.fst (Sum.inl.inj e)
            cases this
        | cons f fs =>
          have := a9.1
          omega
    · rw [if_neg (by rw [i_le (by omega) (by omega)]; omega), ckO R', Option.bind_some, refuse_p R' a5.2.2.1, Option.bind_some, a5.1]
      have s := SS.pO R' a4 (k := 4) (iN p') (by decide)
      have R2 := s.rd R'
      obtain ⟨g4, _, _⟩ := g6 R2
      refine .inr ⟨p', pI h' o 4 (iN p'), .inl ⟨fs, a1, by omega⟩, ?_, a3.tr s.1, s.2.1, ?_, ?_, by rw [hI_pI, if_pos ⟨rfl, rfl⟩], by omega⟩
      · show ((gfI (pI h' o 4 (iN p')) o 6 4).bind fun v11 => if 0 ≤ v11 then some (0, pI h' o 4 (iN p')) else some (v, pI h' o 4 (iN p'))) = _
        rw [g4, Option.bind_some, show hI (pI h' o 4 (iN p')) o 4 = iN p' from by rw [hI_pI, if_pos ⟨rfl, rfl⟩], if_pos (i0_le _ (by omega))]
      · show hN h' ≤ _; omega
      · show hL h' ≤ _; omega
  · have R' := R.fg (a5.up fun _ _ q => .inl q)
    obtain ⟨g1, g2, g3⟩ := g6 R'
    have e4 : hI h' o 4 = iN f := a9.1
    have pos : 0 ≤ hI h' o 4 := by rw [e4]; exact i0_le _ (by omega)
    rw [a4, bd2_s, g1, Option.bind_some, g2, Option.bind_some, g3, Option.bind_some, jn_e]
    refine .inr ⟨f, h', .inr a1, ?_, a5, a6, by omega, by omega, e4, a3⟩
    have fin : ((gfI h' o 6 4).bind fun v11 => if 0 ≤ v11 then some ((0 : Nat), h') else some (v, h')) = some (0, h') := by
      rw [g1, Option.bind_some, if_pos pos]
    by_cases c : iN L.length ≤ hI h' o 2
    · rw [if_pos c]; exact fin
    · rw [if_neg c, ckO R', Option.bind_some, refuse_g R' pos, Option.bind_some]; exact fin
def kFl (v4 v7 : Nat) (h13 : hp) : Option (Int32 × hp) :=
  (ckT h13 v7 6).bind fun _ =>
  bd2 (fX7_readWholeFilters v7 h13) fun v16 h17 =>
  (gfR h17 64 12 3).bind fun v19 =>
  (ckT h17 v19 4).bind fun _ =>
  (fX5_empty v19 h17).bind fun h22 =>
  if v16 = 0 then (
    (gfI h22 v7 6 4).bind fun v52 =>
    some (((-100) - v52), h22)
  ) else (
    (gfR h22 64 12 6).bind fun v24 =>
    (ckT h22 v24 10).bind fun _ =>
    (fX11_copy v24 v4 h22).bind fun h27 =>
    (gfR h27 64 12 6).bind fun v29 =>
    (ckT h27 v29 10).bind fun _ =>
    bd2 (fX11_applyAll v29 v16 h27) fun v32 h33 =>
    if v32 = 0 then (
      (gfR h33 64 12 6).bind fun v35 =>
      (ckT h33 v4 10).bind fun _ =>
      (fX11_copy v4 v35 h33).bind fun h38 =>
      (gfI h38 v4 10 0).bind fun v40 =>
      some (v40, h38)
    ) else (
      (gfR h33 64 12 4).bind fun v42 =>
      (ckT h33 v42 4).bind fun _ =>
      (fX5_empty v42 h33).bind fun h45 =>
      (gfR h45 64 12 4).bind fun v47 =>
      (ckT h45 v47 4).bind fun _ =>
      (fX5_addLink v47 (-1) 0 v32 h45).bind fun h50 =>
      some ((-20), h50)))
/-- what the class's call of filter may change -/
def PFc (k x j : Nat) : Prop := (x = 128 ∧ j = 1) ∨ x = 132 ∨ x = 133 ∨ x = 70 + 2 * k ∨ x = 71 + 2 * k ∨ x = 86 ∨ x = 87
def OKf (L : List Int32) (fs : List (Nat × Nat)) : Prop := pFils L 161 0 = .inl (fs, L.length)
def BDf (L : List Int32) (f : Nat) : Prop := (∃ fs, pFils L 161 0 = .inl (fs, f) ∧ f < L.length) ∨ pFils L 161 0 = .inr f
theorem cls_fil {h : hp} {L : List Int32} {k : Nat} {V : vT} (w : WF h) (z : ZH h) (N : NL h 128 129 160 L) (hb : ∀ i, i < L.length → 1 ≤ (L.getD i 0).toInt ∧ (L.getD i 0).toInt ≤ 127) (hk : k < 8) (C : CV h (70 + 2 * k) (71 + 2 * k) V) (g : gV V) :
    ∃ a h1, fX13_filter 64 (iN k) h = some (a, h1) ∧ FG (PFc k) h h1 ∧ ZH h1 ∧ hN h1 ≤ hN h + 1000 ∧ hL h1 ≤ hL h + 9900 ∧ WF h1 ∧ hI h1 128 1 = 0 ∧
    ((∃ fs, OKf L fs ∧ (((apF fs V).1 = 0 ∧ a = iN (apF fs V).2.1 ∧ CV h1 (70 + 2 * k) (71 + 2 * k) (apF fs V).2 ∧ gV (apF fs V).2 ∧ ∀ x j, x = 86 ∨ x = 87 → hI h1 x j = hI h x j) ∨ ((apF fs V).1 ≠ 0 ∧ a = -20 ∧ CV h1 (70 + 2 * k) (71 + 2 * k) V ∧ NL h1 86 87 162 [-1, 0, iN (apF fs V).1]))) ∨
     (∃ f, BDf L f ∧ a = -100 - iN f ∧ CV h1 (70 + 2 * k) (71 + 2 * k) V ∧ ∀ x j, x = 86 ∨ x = 87 → hI h1 x j = hI h x j)) := by
  have hn := w.2.2
  obtain ⟨hnew, R, r⟩ := rd_new w z N hb (kFl (70 + 2 * k))
  obtain ⟨f0, z0, n0, l0⟩ := nRd_f z (iN L.length)
  have st : fX13_filter 64 (iN k) h = kFl (70 + 2 * k) (64 + hN h) (nRd h (iN L.length)) := by
    unfold fX13_filter
    rw [gR64 w, Option.bind_some, R64_0 w, ck65 w, Option.bind_some, var_at w hk, bd2_s, if_neg (show ¬ 70 + 2 * k = 0 by omega)]
    exact hnew
  rw [kFl, ckO R, Option.bind_some] at st
  rcases rw_o R z0 r with ⟨fs, v, h17, u1, u2, u3, u4, u5, u6, u7, u8, u9⟩ | ⟨f, h17, u1, u2, u4, u5, u6, u7, u8, u9⟩
  · have R17 := R.fg (u4.up fun _ _ q => .inl q)
    have w17 := R17.1
    have F17 : FG (fun _ _ => False) h h17 := f0.tr' u4 fun x j hx q => by unfold KO at q; omega
    have n17 := u4.1
    have w22 : WF (pI h17 128 1 0) := w17
    have f22 : FS (fun x j => x = 128 ∧ j = 1) h17 (pI h17 128 1 0) := FS.pI ⟨rfl, rfl⟩
    have C22 : CV (pI h17 128 1 0) (70 + 2 * k) (71 + 2 * k) V := (C.fg F17 (by omega) (by omega) (fun _ q => q) (fun _ q => q)).fs f22 (fun j q => by omega) (fun j q => by omega)
    obtain ⟨h27, e27, C27, f27⟩ := cCopy (VO_work w22) C22
    have w27 := f27.wf w22
    have r27 : RepF h27 (64 + hN (nRd h (iN L.length))) (64 + hN h17) fs v := RepF.fr (h := h17) (fun x x1 x2 => by
      have q := f27.fs.2.2.2.2 x
      refine ⟨by rw [f27.2.2.1]; rfl, fun j => ⟨?_, by rw [f27.2.2.2.1]; rfl⟩⟩
      rw [(q j (by simp; omega)).1, hI_pI, if_neg (by omega)]) fs v u8
    obtain ⟨h33, e33, C33, g33, f33⟩ := app_e (a := 132) (b := 133) (.inl (by omega)) (.inl (by omega)) (by omega) r27 C27 g u9
    have w33 := f33.wf w27
    have F33 : FG (PFc k) h h33 := ((F17.up fun _ _ q => q.elim).tr (f22.fg.up fun x j q => .inl q)).tr ((f27.fs.fg.up fun x j q => by
      simp at q
      rcases q with q | q
      · exact .inr (.inl q)
      · exact .inr (.inr (.inl q))).tr (f33.fs.fg.up fun x j q => by
      simp at q
      rcases q with q | q
      · exact .inr (.inl q)
      · exact .inr (.inr (.inl q))))
    have z22 : ZH (pI h17 128 1 0) := FS.zh f22 u5 (fun x j q => by omega)
    have z27 : ZH h27 := FS.zh f27.fs z22 (fun x j q => by simp at q; show x < 64 + hN h17; omega)
    have z33 : ZH h33 := FS.zh f33.fs z27 (fun x j q => by simp at q; rw [f27.1]; show x < 64 + hN h17; omega)
    have N33 : hN h33 = hN h17 := by rw [f33.1, f27.1]; rfl
    have L33 : hL h33 = hL h17 := by rw [f33.2.1, f27.2.1]; rfl
    have d33 : ∀ x j, x ≠ 132 → x ≠ 133 → hI h33 x j = hI (pI h17 128 1 0) x j := fun x j q1 q2 => by rw [(f33.fs.2.2.2.2 x j (by simp; omega)).1, (f27.fs.2.2.2.2 x j (by simp; omega)).1]
    have CV33 : CV h33 (70 + 2 * k) (71 + 2 * k) V := (C22.fs f27.fs (fun j q => by simp at q; omega) (fun j q => by simp at q; omega)).fs f33.fs (fun j q => by simp at q; omega) (fun j q => by simp at q; omega)
    rw [u2, bd2_s, gR64 w17, Option.bind_some, R64_3 w17, ckN (NO_tape w17), Option.bind_some, nEmpty (NO_tape w17), Option.bind_some, if_neg u3, gR64 w22, Option.bind_some, R64_6 w22, ckV (VO_work w22), Option.bind_some, e27, Option.bind_some, gR64 w27, Option.bind_some, R64_6 w27, ckV (VO_work w27), Option.bind_some, e33, bd2_s] at st
    have le := apF_le fs V
    by_cases c : (apF fs V).1 = 0
    · obtain ⟨h38, e38, C38, f38⟩ := cCopy (VO_val w33 hk) C33
      have w38 := f38.wf w33
      rw [c, if_pos (show iN 0 = 0 from rfl), gR64 w33, Option.bind_some, R64_6 w33, ckV (VO_val w33 hk), Option.bind_some, e38, Option.bind_some, gIV (VO_val w38 hk), Option.bind_some, C38.2.1] at st
      refine ⟨_, h38, st, F33.tr (f38.fs.fg.up fun x j q => ?_), FS.zh f38.fs z33 (fun x j q => by simp at q; rw [N33]; omega), by rw [f38.1, N33]; omega, by rw [f38.2.1, L33]; omega, w38, ?_, .inl ⟨fs, u1, .inl ⟨c, rfl, C38, g33, fun x j q => ?_⟩⟩⟩
      · simp at q
        rcases q with q | q
        · exact .inr (.inr (.inr (.inl q)))
        · exact .inr (.inr (.inr (.inr (.inl q))))
      · rw [(f38.fs.2.2.2.2 128 1 (by simp; omega)).1, d33 _ _ (by decide) (by decide), hI_pI, if_pos ⟨rfl, rfl⟩]
      · rw [(f38.fs.2.2.2.2 x j (by simp; omega)).1, d33 _ _ (by omega) (by omega), hI_pI, if_neg (by omega), (F17.2.2.2 x j (by omega) (fun q => q)).1]
    · have w45 : WF (pI h33 86 1 0) := w33
      have f45 : FS (fun x j => x = 86 ∧ j = 1) h33 (pI h33 86 1 0) := FS.pI ⟨rfl, rfl⟩
      have NN : NL (pI h33 86 1 0) 86 87 162 [] := ⟨NO_links w45, by rw [hI_pI, if_pos ⟨rfl, rfl⟩]; rfl, Nat.zero_le _, fun j hj => absurd hj (Nat.not_lt_zero _)⟩
      obtain ⟨h50, e50, N50, f50⟩ := addLk w45 NN (by show 0 + 3 ≤ 162; omega) (-1) 0 (iN (apF fs V).1)
      have w50 := f50.wf w45
      rw [if_neg (fun q => c ((fltz (by omega)).mp q)), gR64 w33, Option.bind_some, R64_4 w33, ckN (NO_links w33), Option.bind_some, nEmpty (NO_links w33), Option.bind_some, gR64 w45, Option.bind_some, R64_4 w45, ckN (NO_links w45), Option.bind_some, e50, Option.bind_some] at st
      refine ⟨_, h50, st, (F33.tr (f45.fg.up fun x j q => .inr (.inr (.inr (.inr (.inr (.inl q.1))))))).tr (f50.fg.up fun x j q => ?_), FS.zh f50 (FS.zh f45 z33 (fun x j q => by rw [N33]; omega)) (fun x j q => by show x < 64 + hN h33; rw [N33]; omega), by rw [f50.1]; show hN h33 ≤ _; rw [N33]; omega, by rw [f50.2.1]; show hL h33 ≤ _; rw [L33]; omega, w50, ?_, .inl ⟨fs, u1, .inr ⟨c, rfl, (CV33.fs f45 (fun j q => by omega) (fun j q => by omega)).fs f50 (fun j q => by omega) (fun j q => by omega), N50⟩⟩⟩
      · rcases q with q | q
        · exact .inr (.inr (.inr (.inr (.inr (.inl q)))))
        · exact .inr (.inr (.inr (.inr (.inr (.inr q)))))
      · rw [(f50.2.2.2.2 128 1 (by omega)).1, hI_pI, if_neg (by omega), d33 _ _ (by decide) (by decide), hI_pI, if_pos ⟨rfl, rfl⟩]
  · have R17 := R.fg (u4.up fun _ _ q => .inl q)
    have w17 := R17.1
    have F17 : FG (fun _ _ => False) h h17 := f0.tr' u4 fun x j hx q => by unfold KO at q; omega
    have n17 := u4.1
    have f22 : FS (fun x j => x = 128 ∧ j = 1) h17 (pI h17 128 1 0) := FS.pI ⟨rfl, rfl⟩
    have g4 : gfI (pI h17 128 1 0) (64 + hN h) 6 4 = some (iN f) := by
      unfold gfI
      rw [hT_pI, R17.2.1, if_pos rfl, hI_pI, if_neg (by omega), u8]
    rw [u2, bd2_s, gR64 w17, Option.bind_some, R64_3 w17, ckN (NO_tape w17), Option.bind_some, nEmpty (NO_tape w17), Option.bind_some, if_pos rfl, g4, Option.bind_some] at st
    refine ⟨_, _, st, (F17.up fun _ _ q => q.elim).tr (f22.fg.up fun x j q => .inl q), FS.zh f22 u5 (fun x j q => by omega), by show hN h17 ≤ _; omega, by show hL h17 ≤ _; omega, w17, by rw [hI_pI, if_pos ⟨rfl, rfl⟩], .inr ⟨f, u1, rfl, (C.fg F17 (by omega) (by omega) (fun _ q => q) (fun _ q => q)).fs f22 (fun j q => by omega) (fun j q => by omega), fun x j q => ?_⟩⟩
    rw [hI_pI, if_neg (by omega), (F17.2.2.2 x j (by omega) (fun q => q)).1]

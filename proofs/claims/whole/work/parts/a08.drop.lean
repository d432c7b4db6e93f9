/-! drop, has -/
theorem let_l {h : hp} {T bx : Nat} (t9 : hT h T = (9, 8)) (r1 : hR h T 1 = bx) (tb : hT h bx = (103, 4)) : ∀ (d i n : Nat) (acc : Int32), i + d = 4 → d < n → fX10_letters_l4 n T acc (iN i) h = some (orF (fun j => hR h bx j = 0) d i acc, h) := by
  intro d
  induction d with
  | zero =>
    intro i n acc hi hn
    obtain ⟨n, rfl⟩ : ∃ q, n = q + 1 := ⟨n - 1, by omega⟩
    rw [fX10_letters_l4, if_pos (by rw [i_lit_le (by decide) (by omega)]; show 4 ≤ i; omega)]; rfl
  | succ d ih =>
    intro i n acc hi hn
    obtain ⟨n, rfl⟩ : ∃ q, n = q + 1 := ⟨n - 1, by omega⟩
    have g1 : gfR h T 9 1 = some bx := by unfold gfR; rw [t9, if_pos rfl, r1]
    have a1 : alR 3 h bx (iN i) = some (hR h bx i) := alR_e tb (by omega) (by decide)
    rw [fX10_letters_l4, if_neg (by rw [i_lit_le (by decide) (by omega)]; show ¬ 4 ≤ i; omega), g1, Option.bind_some, a1, Option.bind_some, i_succ]
    have o1 : orF (fun j => hR h bx j = 0) (d + 1) i acc = orF (fun j => hR h bx j = 0) d (i + 1) (if hR h bx i = 0 then acc else acc ||| ((1 : Int32) <<< (iN i &&& 31))) := rfl
    rw [o1]
    by_cases c : hR h bx i = 0
    · rw [if_pos c, if_pos c]; exact ih (i + 1) n _ (by omega) (by omega)
    · rw [if_neg c, if_neg c]; exact ih (i + 1) n _ (by omega) (by omega)
theorem or_msk (f : Nat → Prop) [DecidablePred f] : orF f 4 0 0 = mskB (decide ¬ f 0) (decide ¬ f 1) (decide ¬ f 2) (decide ¬ f 3) := by
  show (if f 3 then (if f 2 then (if f 1 then (if f 0 then (0 : Int32) else 0 ||| ((1 : Int32) <<< (iN 0 &&& 31))) else _ ||| ((1 : Int32) <<< (iN 1 &&& 31))) else _ ||| ((1 : Int32) <<< (iN 2 &&& 31))) else _ ||| ((1 : Int32) <<< (iN 3 &&& 31))) = _
  by_cases c0 : f 0 <;> by_cases c1 : f 1 <;> by_cases c2 : f 2 <;> by_cases c3 : f 3 <;> simp only [c0, c1, c2, c3, if_true, if_false, not_true_eq_false, not_false_eq_true, decide_true, decide_false] <;> decide
theorem let_e {h : hp} {lo hi T : Nat} {L : List Int32} {b : Option Nat} {t : TY 5} (H : TO h lo hi T L b t) (hh : pTop L = .inl ((b, t), L.length)) : fX10_letters T h = some (mkT 4 5 t, h) := by
  obtain ⟨a1, a2, a3, a4, a5, ⟨bx, c1, c2, c3, c4, c5⟩, _⟩ := H
  obtain ⟨n, p0, e, hp0, _⟩ := pre_top hh
  have e1 := let_l a5 c1 c4 4 0 FU 0 rfl (by show 4 < 1000000; omega)
  have nz : ∀ j, j < 4 → decide (¬ hR h bx j = 0) = (fB (blksT 5 t) j).isSome := fun j hj => by
    have := c5 j hj
    cases hb : fB (blksT 5 t) j with
    | none =>
      rw [hb] at this
      have z : hR h bx j = 0 := this
      rw [z]; rfl
    | some x =>
      rw [hb] at this
      have z : BR h lo hi x (hR h bx j) := this
      have z2 : ¬ hR h bx j = 0 := by have := z.1; omega
      rw [decide_eq_true z2]; rfl
  unfold fX10_letters
  rw [show fX10_letters_l4 FU T 0 0 h = _ from e1, bd2_s, or_msk, nz 0 (by decide), nz 1 (by decide), nz 2 (by decide), nz 3 (by decide), ← blks_mk 5 t, bM_msk (blksT 5 t) (blk_let n 4 false p0 L.length t (by decide) hp0 e)]
theorem held_e {h : hp} (w : WF h) {k : Nat} (hk : k < 6) : fX9_held 65 (iN k) h = some (hR h 67 k, h) := by
  have ea : fX13_among (iN k) 6 h = _ := am_e (iN k) 6 (by decide) h
  rw [if_pos (by rw [i_toInt (by omega)]; omega)] at ea
  unfold fX9_held
  rw [ea, bd2_s, if_neg z10, gR65 w, Option.bind_some, R65_1 w, alR_e (T67 w) hk (by decide), Option.bind_some]
theorem nodes_m {h : hp} {k : Nat} {L : List Int32} {b : Option Nat} {t : TY 5} (T : TX h k L) (z : ZH h) (hh : pTop L = .inl ((b, t), L.length)) : ∃ h2, fX14_nodesOf 165 (iN k) h = some (iN ((if b = none then 0 else 1) + nodesT 5 t), h2) ∧ FG (fun x j => x = 165 ∧ 11 ≤ j ∧ j ≤ 16) h h2 ∧ hN h2 = hN h ∧ hL h2 = hL h ∧ ZH h2 ∧ WF h2 := by
  obtain ⟨w, hk, hlen, t3, t4, t5⟩ := T
  have hn := w.2.2
  obtain ⟨x1, x2, x3, x4, x5⟩ := hRd_f (S := 173) (off := 160 * k) (L := L) w ⟨960, T173 w, by omega, by decide⟩ (by decide) hlen t4 t5
  have z3 := hRd_z z w 173 (iN (160 * k)) (iN L.length)
  have st : fX14_nodesOf 165 (iN k) h = bd2 (fX14_isAllRead 165 (hRd h 173 (iN (160 * k)) (iN L.length))) fun v11 h12 => (gfI h12 165 13 16).bind fun v14 => some (v14, h12) := by
    unfold fX14_nodesOf
    rw [MR8 w, Option.bind_some, MR9 w, Option.bind_some, ML174 w hk, Option.bind_some, t3, ckM w, Option.bind_some, k160, reads_e w, Option.bind_some, ckM x1.1, Option.bind_some]
  rcases allRead_m x1 x2 with ⟨tt, p', h15, a1, a2, a3, a4, a5, a6⟩ | ⟨f, h15, a1, _⟩
  · rw [hh] at a1
    have e1 : ((b, t) : Option Nat × TY 5) = tt := congrArg Prod.fst (Sum.inl.inj a1)
    subst e1
    have X15 := x1.fs a3
    refine ⟨h15, ?_, x3.tr (a3.fg.up fun x j q => ⟨q.1, by unfold PM at q; omega, by unfold PM at q; omega⟩), by rw [a3.1, x4], by rw [a3.2.1, x5], FS.zh a3 z3 (fun x j q => by unfold PM at q; rw [x4]; omega), X15.1⟩
    rw [st, a2, bd2_s, gM X15.1, Option.bind_some, a4.2.2]
  · rw [hh] at a1; cases a1
def PD1 (x k : Nat) : Prop := (x = 165 ∧ 11 ≤ k ∧ k ≤ 16) ∨ x = 67 ∨ x = 174
theorem tx_of {h : hp} {k : Nat} {L : List Int32} (w : WF h) (hk : k < 6) (a2 : hI h 174 k = iN L.length) (a3 : L.length ≤ 160) (a4 : ∀ i, i < L.length → hI h 173 (160 * k + i) = L.getD i 0) (a5 : ∀ i, i < L.length → 1 ≤ (L.getD i 0).toInt ∧ (L.getD i 0).toInt ≤ 127) : TX h k L := ⟨w, hk, a3, a2, a4, a5⟩
theorem call_drop {h : hp} {own : Nat → Nat} (w : WF h) (z : ZH h) (jT : JT h own) (v : Int32) : ∃ a h1 h2, fX13_drop 64 v h = some (a, h1) ∧ fX14_drop 165 v h1 = some (a, h2) ∧ FG PD1 h h2 ∧ ZH h2 ∧ hN h2 = hN h ∧ hL h2 = hL h ∧ WF h2 ∧ JT h2 own := by
  have hn := w.2.2
  rcases kIn v h with ⟨k, hk, rfl, ea, ei⟩ | ⟨ea, ei⟩
  · have ck8 : ckT h 65 8 = some () := ck65 w
    rcases jT k hk with ⟨a1, a2⟩ | ⟨L, b, t, lo, hi, a1, a2, a3, a4, a5, a6, a7, a8⟩
    · refine ⟨-3, h, h, ?_, ?_, FG.rf _ _, z, rfl, rfl, w, jT⟩
      · unfold fX13_drop
        rw [ea, bd2_s, if_neg z10, gR64 w, Option.bind_some, R64_0 w, ck8, Option.bind_some, held_e w hk, bd2_s, if_pos a1]
      · unfold fX14_drop
        rw [ei, bd2_s, if_neg z10, MR9 w, Option.bind_some, ML174 w hk, Option.bind_some, a2, if_neg n0_le]
    · have t67 : hT h 67 = (100 + 5, 6) := T67 w
      have as0 : asR 5 h 67 (iN k) 0 = some (pR h 67 k 0) := asR_e t67 hk (by decide) (.inl rfl)
      have tT := a7.2.2.2.2.1
      have hlo := a7.1
      have g9 : gfI (pR h 67 k 0) (hR h 67 k) 9 4 = some (iN ((if b = none then 0 else 1) + nodesT 5 t)) := by
        unfold gfI
        rw [hT_pR, tT, if_pos rfl, hI_pR, a7.2.2.2.2.2.2.2.2.1]
      have w1 : WF (pR h 67 k 0) := WF_pR w (fun q hq => by
        have : ∀ q ∈ R0l, q.1 ≠ 67 := by decide +kernel
        exact fun y => this q hq y.1)
      have z1 : ZH (pR h 67 k 0) := z.pR k 0 (by omega)
      obtain ⟨h2, e2, f2, n2, l2, z2, w2⟩ := nodes_m (tx_of (h := pR h 67 k 0) w1 hk a2 a3 a4 a5) z1 a6
      have F1 : FG PD1 h (pR h 67 k 0) := fgR1 (.inr (.inl rfl))
      have F2 : FG PD1 (pR h 67 k 0) h2 := f2.up fun x j q => .inl q
      have F3 : FG PD1 h (pI h2 174 k (-1)) := (F1.tr F2).tr (FG.pI (.inr (.inr rfl)))
      refine ⟨iN ((if b = none then 0 else 1) + nodesT 5 t), pR h 67 k 0, pI h2 174 k (-1), ?_, ?_, F3, z2.pI k _ (by rw [n2, hN_pR]; omega), n2, l2, w2, fun i hi => ?_⟩
      · unfold fX13_drop
        rw [ea, bd2_s, if_neg z10, gR64 w, Option.bind_some, R64_0 w, ck8, Option.bind_some, held_e w hk, bd2_s, if_neg a1, gR64 w, Option.bind_some, R64_0 w, gR65 w, Option.bind_some, R65_1 w, as0, Option.bind_some, g9, Option.bind_some]
      · have ei1 : fX14_isIn (iN k).toInt64 0 5 (pR h 67 k 0) = some (1, pR h 67 k 0) := by
          have e2 : fX14_isIn (iN k).toInt64 0 5 (pR h 67 k 0) = _ := isIn_c (iN k) 0 5 (by decide) (by decide) 0 5 (by decide) (by decide) (pR h 67 k 0)
          rw [if_pos (by rw [i_toInt (by omega)]; omega)] at e2
          exact e2
        unfold fX14_drop
        rw [ei1, bd2_s, if_neg z10, MR9 w1, Option.bind_some, ML174 w1 hk, Option.bind_some, hI_pR, a2, if_pos (i0_le _ (by omega)), ckM w1, Option.bind_some, e2, bd2_s, MR9 w2, Option.bind_some, MS174 w2 hk, Option.bind_some]
      · have x67 : hR (pI h2 174 k (-1)) 67 i = if i = k then 0 else hR h 67 i := by
          rw [hR_pI, (f2.2.2.2 67 i (by rw [hN_pR]; omega) (fun q => by omega)).2.2, hR_pR]
          by_cases c : i = k
          · rw [if_pos ⟨rfl, c⟩, if_pos c]
          · rw [if_neg (fun q => c q.2), if_neg c]
        have x174 : hI (pI h2 174 k (-1)) 174 i = if i = k then -1 else hI h 174 i := by
          rw [hI_pI]
          by_cases c : i = k
          · rw [if_pos ⟨rfl, c⟩, if_pos c]
          · rw [if_neg (fun q => c q.2), if_neg c, (f2.2.2.2 174 i (by rw [hN_pR]; omega) (fun q => by omega)).1, hI_pR]
        by_cases c : i = k
        · exact .inl ⟨by rw [x67, if_pos c], by rw [x174, if_pos c]⟩
        · rw [x67, if_neg c]
          refine (jT i hi).fg F3 (fun x j hx hx2 hq q => ?_) (fun x hx => rfl) (by rw [x174, if_neg c]) (fun j hj => ?_)
          · unfold PD1 at q; omega
          · show hI (pI h2 174 k (-1)) 173 (160 * i + j) = hI h 173 (160 * i + j)
            rw [(F3.2.2.2 173 _ (by omega) (fun q => by unfold PD1 at q; omega)).1]
  · refine ⟨-1, h, h, ?_, ?_, FG.rf _ _, z, rfl, rfl, w, jT⟩
    · unfold fX13_drop
      rw [ea, bd2_s, if_pos rfl]
    · unfold fX14_drop
      rw [ei, bd2_s, if_pos rfl]
theorem ext_e {h : hp} {k : Nat} {L : List Int32} {b : Option Nat} {t : TY 5} (T : TX h k L) (hh : pTop L = .inl ((b, t), L.length)) : fX14_extended 165 (iN k) h = some ((match b with | none => -5 | some q => iN q), h) ∧ ∀ q, b = some q → q < 6 := by
  obtain ⟨n, p0, _, _, c⟩ := pre_top hh
  have w := T.1
  have hl := T.2.2.1
  rcases c with ⟨c1, _, c2⟩ | ⟨q, q6, c1, _, c3, c4, c5, c6⟩
  · subst c1
    refine ⟨?_, fun q e => by cases e⟩
    unfold fX14_extended
    rw [MR9 w, Option.bind_some, T.sz, Option.bind_some]
    by_cases d : L.length ≤ 3
    · rw [if_pos (by rw [i_le_lit (by decide) (by omega)]; exact d)]
    · have x0 := T.tx (show 0 < L.length by omega)
      rw [Nat.add_zero] at x0
      have x1 := T.tx (show 1 < L.length by omega)
      rw [if_neg (by rw [i_le_lit (by decide) (by omega)]; exact d), MR8 w, Option.bind_some, k160, x0, Option.bind_some]
      by_cases e0 : L.getD 0 0 = 123
      · rw [if_pos e0, Option.bind_some, i_succ, x1, Option.bind_some, if_neg]
        intro e1
        refine c2 ⟨by unfold hereL; rw [if_pos (by omega)]; exact e0, by unfold hereL; rw [if_pos (by omega)]; exact e1⟩
      · rw [if_neg e0]
  · subst c1
    refine ⟨?_, fun q' e => by cases e; exact q6⟩
    have l3 := (here_lt c6 (by decide)).1
    have x0 := T.tx (show 0 < L.length by omega)
    rw [Nat.add_zero] at x0
    have x1 := T.tx (show 1 < L.length by omega)
    have x2 := T.tx (show 2 < L.length by omega)
    have k2 : iN (48 + q) ≠ -1 := by
      have : ∀ k, k < 6 → iN (48 + k) ≠ -1 := by decide
      exact this q q6
    unfold fX14_extended
    rw [MR9 w, Option.bind_some, T.sz, Option.bind_some, if_neg (by rw [i_le_lit (by decide) (by omega)]; show ¬ L.length ≤ 3; omega), MR8 w, Option.bind_some, k160, x0, Option.bind_some, if_pos (here_lt c3 (by decide)).2, Option.bind_some, i_succ, x1, Option.bind_some, if_pos (here_lt c4 (by decide)).2, Option.bind_some, show iN (160 * k) + 2 = iN (160 * k + 2) from i_add _ 2, x2, Option.bind_some, (here_lt c5 k2).2, show (48 : Int32) = iN 48 from rfl, iN_sub (by omega)]
theorem call_has {h : hp} {own : Nat → Nat} (w : WF h) (z : ZH h) (jT : JT h own) (v q : Int32) : ∃ a h1 h2, fX13_has 64 v q h = some (a, h1) ∧ fX14_has 165 v q h1 = some (a, h2) ∧ FG (fun x j => x = 165 ∧ 11 ≤ j ∧ j ≤ 16) h h2 ∧ ZH h2 ∧ hN h2 = hN h ∧ hL h2 = hL h ∧ WF h2 := by
  have hn := w.2.2
  rcases kIn v h with ⟨k, hk, rfl, ea, ei⟩ | ⟨ea, ei⟩
  · have ck8 : ckT h 65 8 = some () := ck65 w
    have e7 : fX13_among q 7 h = _ := am_e q 7 (by decide) h
    have e6 : fX14_isIn q.toInt64 0 6 h = _ := isIn_c q 0 6 (by decide) (by decide) 0 6 (by decide) (by decide) h
    by_cases cq : 0 ≤ q.toInt ∧ q.toInt < ((7 : Nat) : Int)
    · rw [if_pos cq] at e7
      rw [if_pos (by omega)] at e6
      rcases jT k hk with ⟨a1, a2⟩ | ⟨L, b, t, lo, hi, a1, a2, a3, a4, a5, a6, a7, a8⟩
      · refine ⟨-3, h, h, ?_, ?_, FG.rf _ _, z, rfl, rfl, w⟩
        · unfold fX13_has
          rw [ea, bd2_s, if_neg z10, e7, bd2_s, if_neg z10, gR64 w, Option.bind_some, R64_0 w, ck8, Option.bind_some, held_e w hk, bd2_s, if_pos a1]
        · unfold fX14_has
          rw [ei, bd2_s, if_neg z10, e6, bd2_s, if_neg z10, MR9 w, Option.bind_some, ML174 w hk, Option.bind_some, a2, if_neg n0_le]
      · have T := tx_of w hk a2 a3 a4 a5
        have tT := a7.2.2.2.2.1
        have gT : ∀ j, gfI h (hR h 67 k) 9 j = some (hI h (hR h 67 k) j) := fun j => by unfold gfI; rw [tT]; rfl
        have ckT9 : ckT h (hR h 67 k) 9 = some () := by unfold ckT; rw [tT]; rfl
        have a7' := a7
        obtain ⟨_, _, _, _, _, _, b0, b3, b4, b5, b6, b7, _⟩ := a7
        unfold fX13_has fX14_has
        rw [ea, bd2_s, if_neg z10, e7, bd2_s, if_neg z10, gR64 w, Option.bind_some, R64_0 w, ck8, Option.bind_some, held_e w hk, bd2_s, if_neg a1]
        have pre : ∀ (h1 : hp), h1 = h → True := fun _ _ => trivial
        by_cases c0 : q = 0
        · obtain ⟨h2, e2, f2, n2, l2, z2, w2⟩ := nodes_m T z a6
          refine ⟨_, h, h2, by rw [if_pos c0, gT, Option.bind_some, b4], ?_, f2, z2, n2, l2, w2⟩
          rw [ei, bd2_s, if_neg z10, e6, bd2_s, if_neg z10, MR9 w, Option.bind_some, ML174 w hk, Option.bind_some, a2, if_pos (i0_le _ (by omega)), if_pos c0, ckM w, Option.bind_some, e2, bd2_s]
        suffices S : ∃ a, (if q = 1 then ((gfI h (hR h 67 k) 9 5).bind fun v15 => some (v15, h)) else (if q = 2 then ((gfI h (hR h 67 k) 9 3).bind fun v17 => if 0 ≤ v17 then ((gfI h (hR h 67 k) 9 3).bind fun v19 => some (v19, h)) else some ((-5), h)) else (if q = 3 then ((ckT h (hR h 67 k) 9).bind fun _ => bd2 (fX10_letters (hR h 67 k) h) fun v22 h23 => some (v22, h23)) else (if q = 4 then ((gfI h (hR h 67 k) 9 6).bind fun v25 => some (v25, h)) else (if q = 5 then ((gfI h (hR h 67 k) 9 7).bind fun v27 => some (v27, h)) else ((gfI h (hR h 67 k) 9 0).bind fun v29 => some (v29, h))))))) = some (a, h) ∧ (if q = 1 then (bd2 (fX14_lineAt 165 (iN k) (iN L.length) h) fun v20 h21 => some (v20, h21)) else (if q = 2 then (bd2 (fX14_extended 165 (iN k) h) fun v24 h25 => some (v24, h25)) else (if q = 3 then (bd2 (fX14_signsBehind 165 (iN k) 61 65 h) fun v28 h29 => some (v28, h29)) else (if q = 4 then (bd2 (fX14_signsBehind 165 (iN k) 62 48 h) fun v32 h33 => some (v32, h33)) else (if q = 5 then (bd2 (fX14_variablesIn 165 (iN k) h) fun v36 h37 => some (v36, h37)) else some (iN L.length, h)))))) = some (a, h) by
          obtain ⟨a, s1, s2⟩ := S
          refine ⟨a, h, h, by rw [if_neg c0]; exact s1, ?_, FG.rf _ _, z, rfl, rfl, w⟩
          rw [ei, bd2_s, if_neg z10, e6, bd2_s, if_neg z10, MR9 w, Option.bind_some, ML174 w hk, Option.bind_some, a2, if_pos (i0_le _ (by omega)), if_neg c0]
          simp only [MR9 w, ML174 w hk, Option.bind_some, a2, ckM w]
          exact s2
        by_cases c1 : q = 1
        · rw [if_pos c1, if_pos c1, gT, Option.bind_some, line_e T (Nat.le_refl _), bd2_s]
          exact ⟨_, rfl, by rw [b5]⟩
        rw [if_neg c1, if_neg c1]
        by_cases c2 : q = 2
        · obtain ⟨x1, x2⟩ := ext_e T a6
          rw [if_pos c2, if_pos c2, gT, Option.bind_some, x1, bd2_s, b3]
          cases b with
          | none =>
            rw [show oB none = -1 from rfl, if_neg n0_le]
            exact ⟨_, rfl, rfl⟩
          | some y =>
            have := x2 y rfl
            rw [show oB (some y) = iN y from rfl, if_pos (i0_le y (by omega)), Option.bind_some]
            exact ⟨_, rfl, rfl⟩
        rw [if_neg c2, if_neg c2]
        by_cases c3 : q = 3
        · rw [if_pos c3, if_pos c3, ckT9, Option.bind_some, let_e a7' a6, bd2_s, show fX14_signsBehind 165 (iN k) 61 65 h = _ from sgn_e (bb := 65) T (.inl ⟨rfl, rfl, rfl⟩) a6, bd2_s]
          exact ⟨_, rfl, rfl⟩
        rw [if_neg c3, if_neg c3]
        by_cases c4 : q = 4
        · rw [if_pos c4, if_pos c4, gT, Option.bind_some, show fX14_signsBehind 165 (iN k) 62 48 h = _ from sgn_e (bb := 48) T (.inr ⟨rfl, rfl, rfl⟩) a6, bd2_s, b6, parts_mk]
          exact ⟨_, rfl, rfl⟩
        rw [if_neg c4, if_neg c4]
        by_cases c5 : q = 5
        · rw [if_pos c5, if_pos c5, gT, Option.bind_some, vars_e T a6, bd2_s, b7]
          exact ⟨_, rfl, rfl⟩
        · rw [if_neg c5, if_neg c5, gT, Option.bind_some, b0]
          exact ⟨_, rfl, rfl⟩
    · rw [if_neg cq] at e7
      rw [if_neg (by omega)] at e6
      refine ⟨-1, h, h, ?_, ?_, FG.rf _ _, z, rfl, rfl, w⟩
      · unfold fX13_has
        rw [ea, bd2_s, if_neg z10, e7, bd2_s, if_pos rfl]
      · unfold fX14_has
        rw [ei, bd2_s, if_neg z10, e6, bd2_s, if_pos rfl]
  · refine ⟨-1, h, h, ?_, ?_, FG.rf _ _, z, rfl, rfl, w⟩
    · unfold fX13_has
      rw [ea, bd2_s, if_pos rfl]
    · unfold fX14_has
      rw [ei, bd2_s, if_pos rfl]

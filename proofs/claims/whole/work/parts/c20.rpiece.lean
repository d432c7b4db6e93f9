/-! the reference's walk: a piece, the walk as a whole -/
set_option maxHeartbeats 400000
theorem expr_60 {L : List Int32} {p q : Nat} {e : EX} (h : pExpr L p = .inl (e, q)) : hereL L p ≠ 60 := by
  obtain ⟨_, _, _, e0, p1, a, _⟩ := expr_i h
  obtain ⟨_, _, _, _, b⟩ := atom_i a
  rcases b with ⟨v, v1, v2, _⟩ | b | b | ⟨_, b, _⟩ | ⟨_, b, _⟩
  · rw [v2]
    have : ∀ v, v < 8 → iN (97 + v) ≠ 60 := by decide
    exact this v v1
  · rw [b.1]; decide
  · rw [b.1]; decide
  · rw [b]; decide
  · rw [isF_i] at b
    intro z
    rw [z, show (60 : Int32).toInt = 60 by decide] at b; omega
theorem hd_60 {L : List Int32} {m p b : Nat} {pc : PD (TY m)} (D : HdP L p b pc) : hereL L (p + 1) ≠ 60 := by
  rcases D.2.2 with K | K | K | K | K | K | K
  · exact expr_60 K.2.2.2.2.2.2.2.1
  all_goals (rw [K.2.1]; decide)
theorem hd_n {L : List Int32} {m p b : Nat} {pc : PD (TY m)} (D : HdP L p b pc) : 1 ≤ pc.1 ∧ pc.1 ≤ 7 := by
  rcases D.2.2 with K | K | K | K | K | K | K <;> (rw [K.1]; decide)
theorem RX.stp {h : hp} {tp : Tp} {lim : Nat} {fr : Fr} {c : List Nat} {ol lp : Nat} {trn : Option Nat} {lk : Bool} {dp : Nat} {σ : St} (H : RX h tp lim fr c ol lp trn lk dp σ) (C : okC tp c) (s : σ.2.2.2 + 1 ≤ 300) : RX (pI h 165 35 (iN (σ.2.2.2 + 1))) tp lim fr c ol lp trn lk dp (σ.1, σ.2.1, σ.2.2.1, σ.2.2.2 + 1) ∧ FM (PRn fr.length ol lp) h (pI h 165 35 (iN (σ.2.2.2 + 1))) := by
  have f : FS (fun x k => x = 165 ∧ k = 35) h (pI h 165 35 (iN (σ.2.2.2 + 1))) := FS.pI ⟨rfl, rfl⟩
  have u : ∀ x k, (x = 165 ∧ k = 35) → PRn fr.length ol lp x k := fun x k q => by
    (first | exact .inl (by omega) | exact .inr (.inl (by omega)) | exact .inr (.inr (.inl (by omega))) | exact .inr (.inr (.inr (.inl (by omega)))) | exact .inr (.inr (.inr (.inr (.inl (by omega))))) | exact .inr (.inr (.inr (.inr (.inr (.inl (by omega)))))) | exact .inr (.inr (.inr (.inr (.inr (.inr (.inl (by omega))))))) | exact .inr (.inr (.inr (.inr (.inr (.inr (.inr (.inl (by omega)))))))) | exact .inr (.inr (.inr (.inr (.inr (.inr (.inr (.inr (.inl (by omega))))))))) | exact .inr (.inr (.inr (.inr (.inr (.inr (.inr (.inr (.inr (.inl (by omega)))))))))) | exact .inr (.inr (.inr (.inr (.inr (.inr (.inr (.inr (.inr (.inr (by omega)))))))))))
  have n : ∀ k, k ≠ 35 → hI (pI h 165 35 (iN (σ.2.2.2 + 1))) 165 k = hI h 165 k := fun k q => by rw [hI_pI, if_neg (fun z => q z.2)]
  exact ⟨H.re C f.fm u (H.1.2.2.1.1.fx f.fm (fun v x k hv q z => by unfold sP at q; omega) (fun z => by omega) (fun l _ _ z => by omega)) (by rw [n 37 (by decide)]; exact H.1.2.2.1.2.1) (H.rn.re (fun k q => n k (by omega)) (fun k => by rw [hI_pI, if_neg (by omega)]) ⟨by rw [hI_pI, if_pos ⟨rfl, rfl⟩], s⟩ ⟨by rw [n 36 (by decide)]; exact H.rn.dp8.1, H.rn.dp8.2⟩ (by rw [n 30 (by decide)]; exact H.rn.o30) ⟨by rw [n 23 (by decide)]; exact H.rn.cx.1, H.rn.cx.2⟩) (H.1.2.2.2.2.2.fm f.fm (fun x k q => by omega)), f.fm.up u⟩
theorem RP.of {d m f : Nat} (A1 : ∀ m', m' + 1 = m → RTn d m' (f + 2) ∧ RA d m' (f + 1)) (Bk : d = 0 ∨ ∃ d', d = d' + 1 ∧ (∀ m', m' ≤ 3 → RTn d' m' (f + 2)) ∧ RPr d' (f + 2)) : RP d m (f + 4) := by
  intro h tp lim fr c ol lp trn lk dp σ j bb x n p q blk pc hd H C hj hx e hlt h123 hm hb b4 ho hl
  rcases piece_i e hlt with ⟨i1, _⟩ | ⟨b, D, i⟩
  · exact absurd h123 i1
  have w := H.w
  have T := (H.tx C hj hx).1
  obtain ⟨q1, q2, q3⟩ := hdE D.1
  have k2 : p + 1 < x.1.length := by have := D.1.2.1; have := D.1.2.2.1; omega
  have hn := hd_n D
  have eln := D.2.1
  have sb := H.rn.stp
  have pre : ∀ R : Option (Int32 × hp), (∀ h13, h13 = pI h 165 35 (iN (σ.2.2.2 + 1)) → (if hereL x.1 (p + 1) = 42 then ((ckT h13 165 13).bind fun _ => bd2 (fX14_loop_b (G3 (f + 2)) 165 (iN fr.length) (iN j) (iN p) (bjE j bb) (oB bb) h13) fun v16 h17 => some (v16, h17)) else if hereL x.1 (p + 1) = 61 then ((ckT h13 165 13).bind fun _ => bd2 (fX14_byteAt 165 (iN (c.getD j 0)) (iN (p + 2)) h13) fun v20 h21 => (ckT h21 165 13).bind fun _ => bd2 (fX14_endOf 165 (iN (c.getD j 0)) (iN (p + 4)) h21) fun v24 h25 => (ckT h25 165 13).bind fun _ => bd2 (fX14_block_b (G3 (f + 2)) 165 (iN fr.length) (iN j) (iN p) (v20 - 65) 0 (v24 + 3) h25) fun v28 h29 => some (v28, h29)) else if hereL x.1 (p + 1) = 62 then ((ckT h13 165 13).bind fun _ => bd2 (fX14_part_b (G3 (f + 2)) 165 (iN fr.length) (iN j) (iN p) h13) fun v32 h33 => some (v32, h33)) else if hereL x.1 (p + 1) = 63 then ((ckT h13 165 13).bind fun _ => bd2 (fX14_branches_b (G3 (f + 2)) 165 (iN fr.length) (iN j) (iN p) (bjE j bb) (oB bb) h13) fun v36 h37 => some (v36, h37)) else if hereL x.1 (p + 1) = 64 then ((ckT h13 165 13).bind fun _ => bd2 (fX14_assigns 165 (iN fr.length) (iN j) (iN p) h13) fun v40 h41 => some (v40, h41)) else if hereL x.1 (p + 1) = 94 then ((ckT h13 165 13).bind fun _ => bd2 (fX14_block_b (G3 (f + 2)) 165 (iN fr.length) (iN j) (iN p) (oB bb) (bjE j bb + 1) (iN (p + 3)) h13) fun v44 h45 => some (v44, h45)) else ((ckT h13 165 13).bind fun _ => bd2 (fX14_value 165 (iN fr.length) (iN j) (iN p) h13) fun v48 h49 => some (v48, h49))) = R) → ¬ σ.2.2.2 = 300 → (G3 (f + 4)).2.2.1 165 (iN fr.length) (iN j) (iN p) (bjE j bb) (oB bb) h = R := by
    intro R hR s
    show fX14_piece_b (G3 (f + 3)) 165 (iN fr.length) (iN j) (iN p) (bjE j bb) (oB bb) h = R
    unfold fX14_piece_b
    rw [H.hd C hj, ckM w, Option.bind_some, i_succ, byte_e T k2, bd2_s, ← hereL_in k2, if_neg (hd_60 D), gM w, Option.bind_some, sb.1, if_neg (show ¬ iN σ.2.2.2 = 300 from fun q => s ((i_eq (b := 300) (by omega) (by decide)).mp q)), Option.bind_some, i_succ, pM w, Option.bind_some, show iN p + 2 = iN (p + 2) from i_add _ 2, show iN p + 4 = iN (p + 4) from i_add _ 4, show iN p + 3 = iN (p + 3) from i_add _ 3]
    exact hR _ rfl
  unfold wPc
  rw [if_neg (show ¬ pc.1 = 0 by omega)]
  by_cases s300 : σ.2.2.2 = 300
  · rw [if_pos (show 300 ≤ σ.2.2.2 by omega)]
    obtain ⟨h9, e9, f9, v9, r9, w9, T9, l9⟩ := H.fc C hj hx (Nat.le_of_lt q3) bb 6
    rw [ckM w, Option.bind_some, line_e T (Nat.le_of_lt q3), bd2_s, ckM w, Option.bind_some] at e9
    have st : (G3 (f + 4)).2.2.1 165 (iN fr.length) (iN j) (iN p) (bjE j bb) (oB bb) h = some (iN p, h9) := by
      show fX14_piece_b (G3 (f + 3)) 165 (iN fr.length) (iN j) (iN p) (bjE j bb) (oB bb) h = _
      unfold fX14_piece_b
      rw [H.hd C hj, ckM w, Option.bind_some, i_succ, byte_e T k2, bd2_s, ← hereL_in k2, if_neg (hd_60 D), gM w, Option.bind_some, sb.1, if_pos (show iN σ.2.2.2 = 300 by rw [s300]; rfl), ckM w, Option.bind_some, line_e T (Nat.le_of_lt q3), bd2_s, ckM w, Option.bind_some, show fX14_faults 165 (iN fr.length) (iN j) (iN (lnAt x.1 p)) 6 h = _ from e9, Option.bind_some]
    rw [st, eln]
    exact ⟨_, _, rfl, f9, r9, fun _ z => by cases z⟩
  rw [if_neg (show ¬ 300 ≤ σ.2.2.2 by omega)]
  obtain ⟨H1, F1⟩ := H.stp C (by omega)
  have w1 := H1.w
  have bd : ∀ (F : Option (Int32 × hp)) (R : Ot), PCr F (pI h 165 35 (iN (σ.2.2.2 + 1))) tp lim fr c ol lp trn lk dp R q → PCr (bd2 F fun a g => some (a, g)) (pI h 165 35 (iN (σ.2.2.2 + 1))) tp lim fr c ol lp trn lk dp R q := fun F R P => by
    obtain ⟨r, h', a, b'⟩ := P
    exact ⟨r, h', by rw [a, bd2_s], b'⟩
  have T1 := (H1.tx C hj hx).1
  rcases i with ⟨i1, i2, i3, i4, i5⟩ | ⟨i0, i1, i2, tn, i3⟩ | ⟨i0, i1, i3⟩
  · subst i4
    rcases i1 with k | k | k | k
    · obtain ⟨n1, n2, n3, n4, n5, n6⟩ : hereL x.1 (p + 1) ≠ 63 ∧ hereL x.1 (p + 1) ≠ 42 ∧ hereL x.1 (p + 1) ≠ 61 ∧ hereL x.1 (p + 1) ≠ 94 ∧ hereL x.1 (p + 1) ≠ 62 ∧ hereL x.1 (p + 1) ≠ 64 := by
        rcases D.2.2 with K | K | K | K | K | K | K
        · exact ⟨K.2.1, K.2.2.1, K.2.2.2.1, K.2.2.2.2.1, K.2.2.2.2.2.1, K.2.2.2.2.2.2.1⟩
        all_goals exact absurd (k.symm.trans K.1) (by decide)
      rw [pre _ (fun g hg => by subst hg; rw [if_neg n2, if_neg n3, if_neg n5, if_neg n1, if_neg n6, if_neg n4, ckM w1, Option.bind_some]) s300, if_pos k]
      exact (bd _ _ (val_r H1 C hj hx D k bb)).pre F1
    · obtain ⟨h94, eb⟩ := hd5 D k
      have bs := hb (i5 k)
      obtain ⟨b0, hb0⟩ : ∃ b0, bb = some b0 := by
        cases bb with
        | none => exact absurd rfl bs
        | some b0 => exact ⟨b0, rfl⟩
      subst hb0
      subst eb
      have b04 := b4 b0 rfl
      rw [pre _ (fun g hg => by subst hg; rw [h94, if_neg (by decide), if_neg (by decide), if_neg (by decide), if_neg (by decide), if_neg (by decide), if_pos rfl, ckM w1, Option.bind_some, show bjE j (some b0) + 1 = iN (j + 1) from i_succ j]) s300, if_neg (show ¬ pc.1 = 1 by omega), if_neg (show ¬ pc.1 = 7 by omega), if_neg (show ¬ pc.1 = 2 by omega), if_neg (show ¬ pc.1 = 3 by omega), eln]
      refine PCr.pre F1 (bd _ _ ?_)
      rcases Bk with z | ⟨d', z, B1, B2⟩
      · subst z
        exact bl_0 (by omega) H1 C hj hx (Nat.le_of_lt q3) b04 (by omega)
      · subst z
        have := bl_r (q := p + 3) B1 (bb := some b0) (by omega) H1 C hj hx (Nat.le_of_lt q3) b04 (show j + 1 ≤ c.length by omega) (by omega) hl
        unfold wE
        rw [if_neg (show ¬ pc.1 = 6 by omega), if_neg (show ¬ pc.1 = 4 by omega)]
        exact this
    · obtain ⟨h62, _, eb⟩ := hd6 D k
      rw [pre _ (fun g hg => by subst hg; rw [h62, if_neg (by decide), if_neg (by decide), if_pos rfl, ckM w1, Option.bind_some]) s300, if_neg (show ¬ pc.1 = 1 by omega), if_neg (show ¬ pc.1 = 7 by omega), if_neg (show ¬ pc.1 = 2 by omega), if_neg (show ¬ pc.1 = 3 by omega), eln]
      refine PCr.pre F1 (bd _ _ ?_)
      rcases Bk with z | ⟨d', z, B1, B2⟩
      · subst z
        exact pa_0 (by omega) H1 C hj hx (Nat.le_of_lt q3)
      · subst z
        have := pa_r B2 (bb := bb) (by omega) H1 C hj hx D k (by omega) hl
        unfold wE
        rw [if_pos k]
        exact this
    · obtain ⟨h64, _, _⟩ := hd7 D k
      rw [pre _ (fun g hg => by subst hg; rw [h64, if_neg (by decide), if_neg (by decide), if_neg (by decide), if_neg (by decide), if_pos rfl, ckM w1, Option.bind_some]) s300, if_neg (show ¬ pc.1 = 1 by omega), if_pos k]
      exact (bd _ _ (as_r H1 C hj hx D k bb)).pre F1
  · obtain ⟨m, rfl⟩ : ∃ q, m = q + 1 := ⟨m - 1, by omega⟩
    obtain ⟨h61, ⟨v, hv, hc, sg⟩, eb⟩ := hd4 D i1
    subst eb
    obtain ⟨c1, c2⟩ := here_s hc (by omega)
    have hbl := D.1.2.2.1
    obtain ⟨e0, y1, y2, y3, y4, y5, y6, y7⟩ := within_i (by omega) i3
    have tf : ¬ tn = true := fun z => by have := y7 z; cases this
    rw [if_neg tf] at y5
    subst y2
    have sv : pc.2.2.1.toNatClampNeg = v := by rw [sg]; exact i_clamp (by omega)
    rw [pre _ (fun g hg => by subst hg; rw [h61, if_neg (by decide), if_pos rfl, ckM w1, Option.bind_some, byte_e T1 c1, bd2_s, c2, ckM w1, Option.bind_some, end_e2 T1 (by omega) hbl y1 y4 (.inl y5), bd2_s, ckM w1, Option.bind_some, show iN (65 + v) - 65 = iN v from iN_sub (b := 65) (by omega), show iN e0 + 3 = iN (e0 + 3) from i_add _ 3]) s300, if_neg (show ¬ pc.1 = 1 by omega), if_neg (show ¬ pc.1 = 7 by omega), if_neg (show ¬ pc.1 = 2 by omega), if_neg (show ¬ pc.1 = 3 by omega), eln]
    refine PCr.pre F1 (bd _ _ ?_)
    rcases Bk with z | ⟨d', z, B1, B2⟩
    · subst z
      exact bl_0 (fm := 0) (by omega) H1 C hj hx (Nat.le_of_lt q3) hv (Nat.zero_le _)
    · subst z
      have := bl_r (q := e0 + 3) (fm := 0) B1 (bb := bb) (by omega) H1 C hj hx (Nat.le_of_lt q3) hv (Nat.zero_le _) (by omega) hl
      unfold wE
      rw [if_neg (show ¬ pc.1 = 6 by omega), if_pos i1, sv]
      exact this
  · obtain ⟨m, rfl⟩ : ∃ q, m = q + 1 := ⟨m - 1, by omega⟩
    obtain ⟨a1, a2⟩ := A1 m rfl
    rcases i1 with k | k
    · obtain ⟨h63, _⟩ := hd2 D k
      rw [pre _ (fun g hg => by subst hg; rw [h63, if_neg (by decide), if_neg (by decide), if_neg (by decide), if_pos rfl, ckM w1, Option.bind_some]) s300, if_neg (show ¬ pc.1 = 1 by omega), if_neg (show ¬ pc.1 = 7 by omega), if_pos k]
      exact (bd _ _ (br_r a1 hd H1 C hj hx D k i3 (by omega) hb b4 (by omega) hl)).pre F1
    · obtain ⟨h42, _⟩ := hd3 D k
      rw [pre _ (fun g hg => by subst hg; rw [h42, if_pos rfl, ckM w1, Option.bind_some]) s300, if_neg (show ¬ pc.1 = 1 by omega), if_neg (show ¬ pc.1 = 7 by omega), if_neg (show ¬ pc.1 = 2 by omega), if_pos k]
      exact (bd _ _ (lo_r a1 a2 hd H1 C hj hx D k i3 (by omega) hb b4 (by omega) hl)).pre F1
theorem walk_p : ∀ d m, m ≤ 4 → ∀ f, 30 * d + 5 * m + 10 ≤ f → RP d m f := by
  intro d
  induction d with
  | zero =>
    intro m
    induction m with
    | zero =>
      intro _ f hf
      obtain ⟨f, rfl⟩ : ∃ q, f = q + 4 := ⟨f - 4, by omega⟩
      exact RP.of (fun m' z => by omega) (.inl rfl)
    | succ m ihm =>
      intro hm f hf
      obtain ⟨f, rfl⟩ : ∃ q, f = q + 4 := ⟨f - 4, by omega⟩
      refine RP.of (fun m' z => ?_) (.inl rfl)
      have e : m' = m := by omega
      subst e
      have a := ihm (by omega) f (by omega)
      exact ⟨RTn.of (RA.of a), RA.of a⟩
  | succ d ihd =>
    have Bk : ∀ f, 30 * (d + 1) + 6 ≤ f → ∃ d', d + 1 = d' + 1 ∧ (∀ m', m' ≤ 3 → RTn d' m' (f + 2)) ∧ RPr d' (f + 2) := fun f hf => by
      refine ⟨d, rfl, fun m' hm' => RTn.of (RA.of (ihd m' (by omega) f (by omega))), ?_⟩
      obtain ⟨f, rfl⟩ : ∃ q, f = q + 1 := ⟨f - 1, by omega⟩
      exact pr_r (RTn.of (RA.of (ihd 4 (by omega) f (by omega))))
    intro m
    induction m with
    | zero =>
      intro _ f hf
      obtain ⟨f, rfl⟩ : ∃ q, f = q + 4 := ⟨f - 4, by omega⟩
      exact RP.of (fun m' z => by omega) (.inr (Bk f (by omega)))
    | succ m ihm =>
      intro hm f hf
      obtain ⟨f, rfl⟩ : ∃ q, f = q + 4 := ⟨f - 4, by omega⟩
      refine RP.of (fun m' z => ?_) (.inr (Bk f (by omega)))
      have e : m' = m := by omega
      subst e
      have a := ihm (by omega) f (by omega)
      exact ⟨RTn.of (RA.of a), RA.of a⟩
theorem prints_p : RPr 8 400 := pr_r (RTn.of (RA.of (walk_p 8 4 (by decide) 397 (by decide))))

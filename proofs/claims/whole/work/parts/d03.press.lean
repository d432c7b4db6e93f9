/-! the call press -/
set_option maxHeartbeats 400000
theorem pI64 {h : hp} (w : WF h) (k : Nat) (x : Int32) : pfI h 64 12 k x = some (pI h 64 k x) := by unfold pfI; rw [T64 w]; rfl
theorem WI.sm {P : Nat → Nat → Prop} {h h' : hp} {own : Nat → Nat} {tp : Tp} {lim : Nat} {vs : Nat → vT} (H : WI h own tp lim vs) (f : FS P h h') (hP : ∀ x k, P x k → x = 64 ∨ x = 68 ∨ x = 69 ∨ x = 175 ∨ (x = 165 ∧ (k = 21 ∨ k = 38))) : WI h' own tp lim vs := by
  obtain ⟨⟨w, z⟩, ⟨X, G, T, ok⟩, ⟨⟨l1, l2⟩, l4⟩, V, R, k0⟩ := H
  have hn := w.2.2
  have np : ∀ x k, ¬ (x = 64 ∨ x = 68 ∨ x = 69 ∨ x = 175 ∨ (x = 165 ∧ (k = 21 ∨ k = 38))) → ¬ P x k := fun x k q z => q (hP x k z)
  exact ⟨⟨f.wf w, FS.zh f z (fun x k q => by have := hP x k q; omega)⟩, ⟨X.fs f, G.fg w f.fg (fun x k a b c => np x k (by omega)) (fun k => np _ k (by omega)) (fun _ _ => rfl), T.fm f.fm (fun x k q => by have := hP x k q; omega), ok⟩, ⟨⟨by rw [(f.2.2.2.2 65 3 (np _ _ (by omega))).1]; exact l1, by rw [(f.2.2.2.2 165 24 (np _ _ (by omega))).1]; exact l2⟩, l4⟩, fun v hv => ⟨(V v hv).1.fs f (fun k => np _ k (by omega)) (fun k => np _ k (by omega)), (V v hv).2.1.fr f (fun x k q => np x k (by unfold sP at q; omega)), (V v hv).2.2⟩, R.fs f (fun x k a b => np x k (by omega)), by rw [(f.2.2.2.2 134 10 (np _ _ (by omega))).1]; exact k0⟩
theorem ps_l {L : List Int32} (hL : L.length ≤ 400) : ∀ (d k m : Nat) (h : hp), k + d = L.length → d < m → WF h → hI h 165 22 = iN L.length → (∀ i, i < L.length → hI h 176 i = L.getD i 0) → (∀ i, i < k → hI h 175 i = L.getD i 0) → ∃ h', fX14_press_l53 m 165 (iN k) h = some h' ∧ FS (fun x _ => x = 175) h h' ∧ ∀ i, i < L.length → hI h' 175 i = L.getD i 0 := by
  intro d
  induction d with
  | zero =>
    intro k m h hk hm w a I J
    obtain ⟨m, rfl⟩ : ∃ q, m = q + 1 := ⟨m - 1, by omega⟩
    refine ⟨h, ?_, FS.rf _ h, fun i hi => J i (by omega)⟩
    rw [fX14_press_l53, gM w, Option.bind_some, a, if_pos (by rw [i_le (by omega) (by omega)]; omega)]
  | succ d ih =>
    intro k m h hk hm w a I J
    obtain ⟨m, rfl⟩ : ∃ q, m = q + 1 := ⟨m - 1, by omega⟩
    have w1 : WF (pI h 175 k (L.getD k 0)) := w
    obtain ⟨h', e', f', r'⟩ := ih (k + 1) m (pI h 175 k (L.getD k 0)) (by omega) (by omega) w1 (by rw [hI_pI, if_neg (by omega)]; exact a) (fun i hi => by rw [hI_pI, if_neg (by omega)]; exact I i hi) (fun i hi => by
      rw [hI_pI]
      by_cases c : i = k
      · rw [if_pos ⟨rfl, c⟩, c]
      · rw [if_neg (fun z => c z.2)]; exact J i (by omega))
    have f0 : FS (fun x _ => x = 175) h (pI h 175 k (L.getD k 0)) := FS.pI rfl
    refine ⟨h', ?_, f0.tr f', r'⟩
    rw [fX14_press_l53, gM w, Option.bind_some, a, if_neg (by rw [i_le (by omega) (by omega)]; omega), MR19 w, Option.bind_some, MR20 w, Option.bind_some, ML176 w (by omega), Option.bind_some, I k (by omega), MS175 w (by omega), Option.bind_some, i_succ, e']
theorem call_press {h : hp} {own : Nat → Nat} (H : IW h own) (v : Int32) : KQo (fX13_press 64 v) (fX14_press 165 v) h own := by
  have w := H.1.1
  have hn := w.2.2
  rcases kIn v h with ⟨k, hk, rfl, ea, ei⟩ | ⟨ea, ei⟩
  · obtain ⟨tp, lim, vs, W, I, t6, n86, wr⟩ := H.wi
    obtain ⟨h1, h2, own1, e1, w1, e2, t, I2, Q⟩ := wi_c true I (NLs.of t6 n86) hk (show 0 ≤ 3 by omega)
    have w2 := I2.1.1
    have hn2 := w2.2.2
    have wr2 : WR h2 W := wr.fg w t.1 (fun x k q => by unfold PCo; omega)
    have st1 : fX13_press 64 (iN k) h = if hI h2 134 17 = 0 then (ckT h2 134 11).bind fun _ => (fX12_begin 134 0 0 h2).bind fun h21 => (gfR h21 64 12 7).bind fun v23 => (ckT h21 v23 11).bind fun _ => (fX12_walkTemplate v23 (iN k) 0 h21).bind fun h26 => (gfR h26 64 12 7).bind fun v28 => (gfI h26 v28 11 14).bind fun v30 => (pfI h26 64 12 8 v30).bind fun h32 => (gfR h32 64 12 7).bind fun v34 => (gfI h32 v34 11 17).bind fun v36 => if v36 = 0 then ((gfR h32 64 12 0).bind fun v38 => (gfR h32 v38 8 2).bind fun v40 => (gfR h32 64 12 7).bind fun v42 => (gfR h32 v42 11 7).bind fun v44 => (ckT h32 v40 4).bind fun _ => (fX5_copy v40 v44 h32).bind fun h47 => (gfR h47 64 12 0).bind fun v49 => (gfR h47 v49 8 2).bind fun v51 => (gfI h47 v51 4 1).bind fun v53 => some (v53, h47)) else some (-20, h32) else some (-20, h2) := by
      unfold fX13_press
      rw [ea, bd2_s, if_neg z10, gR64 w, Option.bind_some, R64_7 w, ckW w, Option.bind_some, show fX12_begin 134 0 1 h = _ from e1, Option.bind_some, gR64 w1, Option.bind_some, R64_7 w1, ckW w1, Option.bind_some, e2, Option.bind_some, gR64 w2, Option.bind_some, R64_7 w2, gW w2, Option.bind_some, Option.bind_some]
    have ju : ∀ x k, (x = 165 ∧ k = 11) → PL own x k := fun x k q => .inr (.inr (.inr (.inr (.inr (.inl (by omega))))))
    cases hR : wTp true true lim tp (wE true true lim tp 8) k [] none (vs, 0, [], 0) with
    | inr e =>
      rw [hR] at Q
      obtain ⟨q1, q2, q3⟩ := Q
      obtain ⟨h3, e3, f3, I3, Q3⟩ := wi_m true I2 (WRs.of t6 wr2) hk (show 0 ≤ 3 by omega)
      rw [hR] at Q3
      obtain ⟨p1, p2, p3⟩ := Q3
      have w3 := I3.1.1
      have z3 := f3.zf
      have F : FG (PL own) h h3 := (t.1.up fun _ _ q => pl_co q).tr (f3.fg.up fun x k q => q.elim pl_bg (ju x k))
      have FJ : FG (fun x k => PCo own x k ∨ Pbg x k ∨ (x = 165 ∧ k = 11)) h h3 := (t.1.up fun _ _ q => .inl q).tr (f3.fg.up fun x k q => .inr q)
      have js : Js h3 := H.2.2.2.2.2.2.1.fg w FJ (fun x k q z => by unfold Ps at q; unfold PCo Pbg at z; omega)
      have jp : Jp h3 := H.2.2.2.2.2.2.2.fg w FJ (fun x k q z => by unfold Pp at q; unfold PCo Pbg at z; omega)
      refine KQo.of (-20) H (by rw [st1, q1, if_neg (by decide)]) ?_ F t.2.1 (by have := t.2.2.1; rw [z3, f3.1]; exact this) (by have := t.2.2.2.1; rw [z3, f3.2.1]; exact this) I3 (Jw.of (q3.fg f3.fg (by omega) (by omega) (fun k q => by unfold Pbg at q; omega) (fun k q => by unfold Pbg at q; omega)) p3) js jp
      unfold fX14_press
      rw [isT1 hk, bd2_s, if_neg z10, ckM w2, Option.bind_some, show fX14_begins 165 (iN k) 0 1 h2 = _ from e3, Option.bind_some, gM w3, Option.bind_some, p1, if_neg (by decide)]
    | inl τ =>
      rw [hR] at Q
      obtain ⟨q1, q2, q3, q4, q5⟩ := Q
      obtain ⟨h3, h4, own2, e3, w3, e4, t2, I4, Q2⟩ := wi_c false I2 q5 hk (show 0 ≤ 3 by omega)
      have w4 := I4.1.1
      have hn4 := w4.2.2
      have ag := (wTp_a (lim := lim) (tp := tp) (wE_a lim tp 8) k [] [] none none (vs, 0, [], 0) (vs, 0, [], 0) τ hR rfl).1
      have T := t.tr t2
      have w5 : WF (pI h4 64 8 (hI h4 134 14)) := w4
      have f5 : FS (fun x k => x = 64 ∧ k = 8) h4 (pI h4 64 8 (hI h4 134 14)) := FS.pI ⟨rfl, rfl⟩
      have st2 : fX13_press 64 (iN k) h = if hI h4 134 17 = 0 then ((fX5_copy 68 143 (pI h4 64 8 (hI h4 134 14))).bind fun h47 => (gfR h47 64 12 0).bind fun v49 => (gfR h47 v49 8 2).bind fun v51 => (gfI h47 v51 4 1).bind fun v53 => some (v53, h47)) else some (-20, pI h4 64 8 (hI h4 134 14)) := by
        rw [st1, q1, if_pos rfl, ckW w2, Option.bind_some, show fX12_begin 134 0 0 h2 = _ from e3, Option.bind_some, gR64 w3, Option.bind_some, R64_7 w3, ckW w3, Option.bind_some, e4, Option.bind_some, gR64 w4, Option.bind_some, R64_7 w4, gW w4, Option.bind_some, pI64 w4, Option.bind_some, gR64 w5, Option.bind_some, R64_7 w5, gW w5, Option.bind_some, show hI (pI h4 64 8 (hI h4 134 14)) 134 17 = hI h4 134 17 from by rw [hI_pI, if_neg (by decide)], gR64 w5, Option.bind_some, R64_0 w5, gR65 w5, Option.bind_some, R65_2 w5, Option.bind_some, gWR w5, Option.bind_some, R134_7 w5, ckN (NO_sheet w5), Option.bind_some]
      cases hR2 : wTp false true lim tp (wE false true lim tp 8) k [] none (vs, 0, [], 0) with
      | inr e =>
        rw [hR2] at Q2 ag
        obtain ⟨y1, y2, y3⟩ := Q2
        have I5 := I4.sm f5 (fun x k q => by omega)
        have wr5 : WR (pI h4 64 8 (hI h4 134 14)) W := (wr2.fg w2 t2.1 (fun x k q => by unfold PCo; omega)).fg w4 f5.fg (fun x k q => by omega)
        obtain ⟨h6, e6, f6, I6, Q6⟩ := wi_m true I5 (WRs.of t6 wr5) hk (show 0 ≤ 3 by omega)
        rw [hR] at Q6
        obtain ⟨p1, p2, p3, p4, p5⟩ := Q6
        have w6 := I6.1.1
        obtain ⟨h7, e7, f7, I7, Q7⟩ := wi_m false I6 p5 hk (show 0 ≤ 3 by omega)
        rw [← ag] at Q7
        obtain ⟨u1, u2, u3⟩ := Q7
        have w7 := I7.1.1
        have w8 : WF (pI h7 165 38 (hI h7 165 35)) := w7
        have f8 : FS (fun x k => x = 165 ∧ k = 38) h7 (pI h7 165 38 (hI h7 165 35)) := FS.pI ⟨rfl, rfl⟩
        have I8 := I7.sm f8 (fun x k q => by omega)
        have F : FG (PL own) h (pI h7 165 38 (hI h7 165 35)) := ((((T.1.up fun _ _ q => pl_co q).tr (f5.fg.up fun x k q => .inr (.inr (.inr (.inl q))))).tr (f6.fg.up fun x k q => q.elim pl_bg (ju x k))).tr (f7.fg.up fun x k q => q.elim pl_bg (ju x k))).tr (f8.fg.up fun x k q => .inr (.inr (.inr (.inr (.inr (.inl (by omega)))))))
        have FJ : FG (fun x k => PCo own x k ∨ Pbg x k ∨ (x = 165 ∧ k = 11) ∨ (x = 64 ∧ k = 8) ∨ (x = 165 ∧ k = 38)) h (pI h7 165 38 (hI h7 165 35)) := ((((T.1.up fun _ _ q => .inl q).tr (f5.fg.up fun x k q => .inr (.inr (.inr (.inl q))))).tr (f6.fg.up fun x k q => q.elim (fun q => .inr (.inl q)) (fun q => .inr (.inr (.inl q))))).tr (f7.fg.up fun x k q => q.elim (fun q => .inr (.inl q)) (fun q => .inr (.inr (.inl q))))).tr (f8.fg.up fun x k q => .inr (.inr (.inr (.inr q))))
        have js := H.2.2.2.2.2.2.1.fg w FJ (fun x k q z => by unfold Ps at q; unfold PCo Pbg at z; omega)
        have jp : Jp (pI h7 165 38 (hI h7 165 35)) := by
          unfold Jp
          rw [hI_pI, if_neg (by decide), hI_pI, if_pos ⟨rfl, rfl⟩, f7.i (by unfold Pbg; omega), f6.i (by unfold Pbg; omega), hI_pI, if_pos ⟨rfl, rfl⟩, y2, u2]
        have zz : Zf (pI h7 165 38 (hI h7 165 35)) = Zf h4 := by rw [f8.zf, f7.zf, f6.zf, f5.zf]
        have hN8 : hN (pI h7 165 38 (hI h7 165 35)) = hN h4 := by rw [f8.1, f7.1, f6.1, f5.1]
        have hL8 : hL (pI h7 165 38 (hI h7 165 35)) = hL h4 := by rw [f8.2.1, f7.2.1, f6.2.1, f5.2.1]
        refine KQo.of (h1 := pI h4 64 8 (hI h4 134 14)) (-20) H (by rw [st2, y1, if_neg (by decide)]) ?_ F T.2.1 (by rw [zz, hN8]; exact T.2.2.1) (by rw [zz, hL8]; exact T.2.2.2.1) I8 (Jw.of ((((y3.fs f5 (fun k q => by omega) (fun k q => by omega)).fg f6.fg (by rw [f5.1]; omega) (by rw [f5.1]; omega) (fun k q => by unfold Pbg at q; omega) (fun k q => by unfold Pbg at q; omega)).fg f7.fg (by rw [f6.1, f5.1]; omega) (by rw [f6.1, f5.1]; omega) (fun k q => by unfold Pbg at q; omega) (fun k q => by unfold Pbg at q; omega)).fs f8 (fun k q => by omega) (fun k q => by omega)) ⟨by rw [hI_pI, if_neg (by decide)]; exact u3.1, fun q x e => by rw [hI_pI, if_neg (by omega), hI_pI, if_neg (by omega), hI_pI, if_neg (by omega)]; exact u3.2 q x e⟩) js jp
        unfold fX14_press
        rw [isT1 hk, bd2_s, if_neg z10, ckM w5, Option.bind_some, show fX14_begins 165 (iN k) 0 1 _ = _ from e6, Option.bind_some, gM w6, Option.bind_some, p1, if_pos rfl, ckM w6, Option.bind_some, show fX14_begins 165 (iN k) 0 0 h6 = _ from e7, Option.bind_some, gM w7, Option.bind_some, pM w7, Option.bind_some, gM w8, Option.bind_some, show hI (pI h7 165 38 (hI h7 165 35)) 165 43 = hI h7 165 43 from by rw [hI_pI, if_neg (by decide)], u1, if_neg (by decide)]
      | inl σ =>
        rw [hR2] at Q2 ag
        obtain ⟨y1, y2, y3, y4, y5⟩ := Q2
        obtain ⟨h5, e5, n5, f55⟩ := nCopy (NO_sheet w5) (y4.fs f5 (fun k q => by omega) (fun k q => by omega)) y4.2.2.1
        have f45 : FS (fun x k => (x = 64 ∧ k = 8) ∨ x = 68 ∨ x = 69) h4 h5 := (f5.up fun x k q => .inl q).tr (f55.up fun x k q => .inr q)
        have I5 := I4.sm f45 (fun x k q => by omega)
        have wh5 := I5.1.1
        have wr5 : WR h5 W := (wr2.fg w2 t2.1 (fun x k q => by unfold PCo; omega)).fg w4 f45.fg (fun x k q => by omega)
        obtain ⟨h6, e6, f6, I6, Q6⟩ := wi_m true I5 (WRs.of t6 wr5) hk (show 0 ≤ 3 by omega)
        rw [hR] at Q6
        obtain ⟨p1, p2, p3, p4, p5⟩ := Q6
        have w6 := I6.1.1
        obtain ⟨h7, e7, f7, I7, Q7⟩ := wi_m false I6 p5 hk (show 0 ≤ 3 by omega)
        rw [← ag] at Q7
        obtain ⟨u1, u2, u3, ⟨u4, u5, u6⟩, u7⟩ := Q7
        have w7 := I7.1.1
        have w8 : WF (pI h7 165 38 (hI h7 165 35)) := w7
        have f8 : FS (fun x k => x = 165 ∧ k = 38) h7 (pI h7 165 38 (hI h7 165 35)) := FS.pI ⟨rfl, rfl⟩
        obtain ⟨h9, e9, f9, r9⟩ := ps_l u5 σ.2.2.1.length 0 FU (pI h7 165 38 (hI h7 165 35)) (by omega) (FU_pos _ (by omega)) w8 (by rw [hI_pI, if_neg (by decide)]; exact u4) (fun i hi => by rw [hI_pI, if_neg (by omega)]; exact u6 i hi) (fun i hi => absurd hi (Nat.not_lt_zero _))
        have w9 := f9.wf w8
        have v22 : hI h9 165 22 = iN σ.2.2.1.length := by rw [(f9.2.2.2.2 165 22 (by omega)).1, hI_pI, if_neg (by decide)]; exact u4
        have f10 : FS (fun x k => x = 165 ∧ k = 21) h9 (pI h9 165 21 (iN σ.2.2.1.length)) := FS.pI ⟨rfl, rfl⟩
        have w10 : WF (pI h9 165 21 (iN σ.2.2.1.length)) := w9
        have fE : FS (fun x k => (x = 165 ∧ (k = 21 ∨ k = 38)) ∨ x = 175) h7 (pI h9 165 21 (iN σ.2.2.1.length)) := ((f8.up fun x k q => by omega).tr (f9.up fun x k q => by omega)).tr (f10.up fun x k q => by omega)
        have I10 := I7.sm fE (fun x k q => by omega)
        have F : FG (PL own) h (pI h9 165 21 (iN σ.2.2.1.length)) := ((((T.1.up fun _ _ q => pl_co q).tr (f45.fg.up fun x k q => by
          rcases q with q | q | q
          · exact .inr (.inr (.inr (.inl q)))
          · exact .inr (.inl q)
          · exact .inr (.inr (.inl q)))).tr (f6.fg.up fun x k q => q.elim pl_bg (ju x k))).tr (f7.fg.up fun x k q => q.elim pl_bg (ju x k))).tr (fE.fg.up fun x k q => by
          rcases q with q | q
          · exact .inr (.inr (.inr (.inr (.inr (.inl (by omega))))))
          · exact .inr (.inr (.inr (.inr (.inl q)))))
        have n68 : ∀ x k, x < 165 → hI (pI h9 165 21 (iN σ.2.2.1.length)) x k = hI h5 x k := fun x k hx => by rw [(fE.2.2.2.2 x k (by omega)).1, f7.i (by unfold Pbg; omega), f6.i (by unfold Pbg; omega)]
        have js : Js (pI h9 165 21 (iN σ.2.2.1.length)) := by
          refine ⟨σ.2.2.1, ⟨NO_sheet w10, by rw [n68 _ _ (by decide)]; exact n5.2.1, n5.2.2.1, fun k hk => by rw [n68 _ _ (by decide)]; exact n5.2.2.2 k hk⟩, by rw [hI_pI, if_pos ⟨rfl, rfl⟩], fun k hk => by rw [hI_pI, if_neg (by omega)]; exact r9 k hk⟩
        have jp : Jp (pI h9 165 21 (iN σ.2.2.1.length)) := by
          unfold Jp
          rw [n68 _ _ (by decide), (f55.2.2.2.2 64 8 (by omega)).1, hI_pI, if_pos ⟨rfl, rfl⟩, hI_pI, if_neg (by decide), (f9.2.2.2.2 165 38 (by omega)).1, hI_pI, if_pos ⟨rfl, rfl⟩, y3, u3]
        have zz : Zf (pI h9 165 21 (iN σ.2.2.1.length)) = Zf h4 := by rw [fE.zf, f7.zf, f6.zf, f45.zf]
        have hN8 : hN (pI h9 165 21 (iN σ.2.2.1.length)) = hN h4 := by rw [fE.1, f7.1, f6.1, f45.1]
        have hL8 : hL (pI h9 165 21 (iN σ.2.2.1.length)) = hL h4 := by rw [fE.2.1, f7.2.1, f6.2.1, f45.2.1]
        have jw : Jw (pI h9 165 21 (iN σ.2.2.1.length)) := by
          refine Jw.of2 (W := W) ⟨NO_links w10, ?_, (y5 _ t6).2.2.1, fun k hk => ?_⟩ (((u7 _ t6).fg w7 fE.fg (fun x k q => by omega)))
          · rw [n68 _ _ (by decide), (f45.2.2.2.2 86 1 (by omega)).1]; exact (y5 _ t6).2.1
          · rw [n68 _ _ (by decide), (f45.2.2.2.2 87 k (by omega)).1]; exact (y5 _ t6).2.2.2 k hk
        refine KQo.of (h1 := h5) (iN σ.2.2.1.length) H ?_ ?_ F T.2.1 (by rw [zz, hN8]; exact T.2.2.1) (by rw [zz, hL8]; exact T.2.2.2.1) I10 jw js jp
        · rw [st2, y1, if_pos rfl, e5, Option.bind_some, gR64 wh5, Option.bind_some, R64_0 wh5, gR65 wh5, Option.bind_some, R65_2 wh5, gIN (NO_sheet wh5), Option.bind_some, n5.2.1]
        · unfold fX14_press
          rw [isT1 hk, bd2_s, if_neg z10, ckM wh5, Option.bind_some, show fX14_begins 165 (iN k) 0 1 _ = _ from e6, Option.bind_some, gM w6, Option.bind_some, p1, if_pos rfl, ckM w6, Option.bind_some, show fX14_begins 165 (iN k) 0 0 h6 = _ from e7, Option.bind_some, gM w7, Option.bind_some, pM w7, Option.bind_some, gM w8, Option.bind_some, show hI (pI h7 165 38 (hI h7 165 35)) 165 43 = hI h7 165 43 from by rw [hI_pI, if_neg (by decide)], u1, if_pos rfl, show fX14_press_l53 FU 165 0 _ = _ from e9, Option.bind_some, gM w9, Option.bind_some, v22, pM w9, Option.bind_some, gM w10, Option.bind_some, hI_pI, if_pos ⟨rfl, rfl⟩]
  · refine KQo.same H (-1) ?_ ?_
    · unfold fX13_press
      rw [ea, bd2_s, if_pos rfl]
    · unfold fX14_press fX14_isTemplate
      rw [ei, bd2_s]
      rfl

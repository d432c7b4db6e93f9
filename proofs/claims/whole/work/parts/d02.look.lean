/-! the calls look and press -/
set_option maxHeartbeats 400000
/-- Numbers copied -/
theorem nCopy {h : hp} {a b cap a' b' cap' : Nat} {L : List Int32} (H : NO h a b cap) (N : NL h a' b' cap' L) (hc : L.length ≤ cap) : ∃ h', fX5_copy a a' h = some h' ∧ NL h' a b cap L ∧ FS (fun x _ => x = a ∨ x = b) h h' := by
  obtain ⟨t1, t2, r1, ne, hcap⟩ := H
  obtain ⟨⟨u1, u2, v1, ne', hcap'⟩, s, l, it⟩ := N
  have k1 : gfI h a' 4 1 = some (iN L.length) := by unfold gfI; rw [u1, if_pos rfl, s]
  have k2 : gfR h a 4 0 = some b := by unfold gfR; rw [t1, if_pos rfl, r1]
  have k3 : gfR h a' 4 0 = some b' := by unfold gfR; rw [u1, if_pos rfl, v1]
  have k4 : aln 0 h b = some (iN cap) := by unfold aln; rw [t2]; rfl
  have mn := cMin L.length cap (by omega) (by omega) h
  rw [Nat.min_eq_left hc] at mn
  have cp := cpI_e (h := h) (a := b') (b := b) (p := 0) (q := 0) (c := L.length) u2 t2 (by omega) (by omega) hcap' hcap
  have k5 : pfI (pCI h b' 0 b 0 L.length) a 4 1 (iN L.length) = some (pI (pCI h b' 0 b 0 L.length) a 1 (iN L.length)) := by unfold pfI; rw [hT_pCI, t1, if_pos rfl]
  refine ⟨pI (pCI h b' 0 b 0 L.length) a 1 (iN L.length), ?_, ⟨⟨t1, t2, r1, ne, hcap⟩, by rw [hI_pI, if_pos ⟨rfl, rfl⟩], hc, fun k hk => ?_⟩, rfl, rfl, rfl, rfl, fun x k q => ⟨?_, rfl⟩⟩
  · unfold fX5_copy
    rw [k1, Option.bind_some, k2, Option.bind_some, k4, Option.bind_some, mn, bd2_s, k3, Option.bind_some, k2, Option.bind_some, show cpI h b' 0 b 0 (iN L.length) = _ from cp, Option.bind_some, k5, Option.bind_some]
  · rw [hI_pI, if_neg (fun z => ne z.1.symm), hI_pCI, if_pos ⟨rfl, Nat.zero_le _, by omega⟩, show 0 + (k - 0) = k by omega]
    exact it k hk
  · rw [hI_pI, if_neg (fun z => q (.inl z.1)), hI_pCI, if_neg (fun z => q (.inr z.1))]
/-- links told by both -/
theorem fltL_get : ∀ (l : List Lk) (i : Nat) (x : Lk), l[i]? = some x → (fltL l).getD (3 * i) 0 = iN x.1 ∧ (fltL l).getD (3 * i + 1) 0 = iN x.2.1 ∧ (fltL l).getD (3 * i + 2) 0 = iN x.2.2 := by
  intro l
  induction l with
  | nil => intro i x e; cases e
  | cons y l ih =>
    intro i x e
    have ef : fltL (y :: l) = iN y.1 :: iN y.2.1 :: iN y.2.2 :: fltL l := rfl
    rw [ef]
    cases i with
    | zero =>
      cases e
      exact ⟨rfl, rfl, rfl⟩
    | succ i =>
      have := ih i x e
      rw [show 3 * (i + 1) = 3 * i + 3 by omega]
      exact this
theorem Jw.of {h : hp} {l : List Lk} (N : NL h 86 87 162 (fltL l)) (M : ML3 h l) : Jw h := by
  obtain ⟨_, s, c, it⟩ := N
  rw [fltL_len] at s c it
  refine ⟨l.length, by omega, s, M.1, fun i hi => ?_⟩
  have e := List.getElem?_eq_getElem hi
  obtain ⟨g1, g2, g3⟩ := fltL_get l i _ e
  obtain ⟨m1, m2, m3⟩ := M.2 i _ e
  rw [it _ (by omega), it _ (by omega), it _ (by omega), g1, g2, g3, m1, m2, m3]
  exact ⟨rfl, rfl, rfl⟩
theorem Jw.of2 {h : hp} {W : List Int32} (N : NL h 86 87 162 W) (M : WR h W) : Jw h := by
  obtain ⟨_, s, c, it⟩ := N
  obtain ⟨n, m1, m2, m3, m4⟩ := M
  refine ⟨n, m2, by rw [s, m1], m3, fun i hi => ?_⟩
  obtain ⟨g1, g2, g3⟩ := m4 i hi
  rw [it _ (by omega), it _ (by omega), it _ (by omega), g1, g2, g3]
  exact ⟨rfl, rfl, rfl⟩
theorem Jw.to {h : hp} (w : WF h) (J : Jw h) : ∃ W, NL h 86 87 162 W ∧ WR h W := by
  obtain ⟨n, n1, n2, n3, n4⟩ := J
  have g : ∀ k, k < 3 * n → ((List.range (3 * n)).map fun k => hI h 87 k).getD k 0 = hI h 87 k := fun k hk => by
    rw [List.getD_eq_getElem?_getD, List.getElem?_map, List.getElem?_range hk]; rfl
  have len : ((List.range (3 * n)).map fun k => hI h 87 k).length = 3 * n := by rw [List.length_map, List.length_range]
  refine ⟨(List.range (3 * n)).map fun k => hI h 87 k, ⟨NO_links w, by rw [len]; exact n2, by rw [len]; omega, fun k hk => by rw [len] at hk; rw [g k hk]⟩, n, len, n1, n3, fun i hi => ?_⟩
  rw [g _ (by omega), g _ (by omega), g _ (by omega)]
  obtain ⟨a, b, c⟩ := n4 i hi
  exact ⟨a.symm, b.symm, c.symm⟩
/-- what a call of these may change -/
def PL (own : Nat → Nat) (x k : Nat) : Prop := PCo own x k ∨ x = 68 ∨ x = 69 ∨ (x = 64 ∧ k = 8) ∨ x = 175 ∨ (x = 165 ∧ k ≤ 47 ∧ k ≠ 10 ∧ k ≠ 24) ∨ (166 ≤ x ∧ x ≤ 171) ∨ (176 ≤ x ∧ x ≤ 191)
def JS (h : hp) (own : Nat → Nat) : Prop := JX h own ∧ RGh h ∧ hI h 134 10 = 0
theorem JT.fg {P : Nat → Nat → Prop} {h h' : hp} {own own' : Nat → Nat} (w : WF h) (J : JT h own) (f : FG P h h') (hP : ∀ x k, 204 ≤ x → x < 64 + hN h → own x = 1 → ¬ P x k) (h3 : ∀ x k, x = 67 ∨ x = 173 ∨ x = 174 → ¬ P x k) (ho : ∀ x, x < 64 + hN h → own' x = own x) : JT h' own' := fun k hk => by
  have hn := w.2.2
  rw [(f.2.2.2 67 k (by omega) (h3 _ _ (.inl rfl))).2.2]
  exact (J k hk).fg f hP ho (f.2.2.2 174 k (by omega) (h3 _ _ (.inr (.inr rfl)))).1 (fun i _ => (f.2.2.2 173 _ (by omega) (h3 _ _ (.inr (.inl rfl)))).1)
def KQo (F13 F14 : hp → Option (Int32 × hp)) (h : hp) (own : Nat → Nat) : Prop := ∃ a h1 h2 own', F13 h = some (a, h1) ∧ F14 h1 = some (a, h2) ∧ (FG (PL own) h h2 ∧ (∀ x, x < 64 + hN h → own' x = own x) ∧ hN h2 + 2 * Zf h2 ≤ hN h + 2 * Zf h ∧ hL h2 + 21 * Zf h2 ≤ hL h + 21 * Zf h) ∧ (WF h2 ∧ ZH h2) ∧ JT h2 own' ∧ JS h2 own' ∧ Jv h2 ∧ Jb h2 ∧ Jw h2 ∧ Js h2 ∧ Jp h2
/-- the invariant's part for both walks -/
def IW (h : hp) (own : Nat → Nat) : Prop := (WF h ∧ ZH h) ∧ JT h own ∧ JS h own ∧ Jv h ∧ Jb h ∧ Jw h ∧ Js h ∧ Jp h
theorem KQo.same {F13 F14 : hp → Option (Int32 × hp)} {h : hp} {own : Nat → Nat} (H : IW h own) (a : Int32) (e1 : F13 h = some (a, h)) (e2 : F14 h = some (a, h)) : KQo F13 F14 h own :=
  ⟨a, h, h, own, e1, e2, ⟨FG.rf _ h, fun _ _ => rfl, Nat.le_refl _, Nat.le_refl _⟩, H⟩
theorem IW.wi {h : hp} {own : Nat → Nat} (H : IW h own) : ∃ tp lim vs W, WI h own tp lim vs ∧ tp 6 = some (W, none, tyN 5) ∧ NL h 86 87 162 W ∧ WR h W := by
  obtain ⟨⟨w, z⟩, T, ⟨X, R, k0⟩, ⟨vs, V⟩, ⟨lim, l1, l2, l3⟩, J, _⟩ := H
  obtain ⟨W, n1, n2⟩ := J.to w
  obtain ⟨tp, t1, t2, t3, t4⟩ := T.tp w W
  exact ⟨tp, lim, vs, W, ⟨⟨w, z⟩, ⟨X, t3, t4, t2⟩, ⟨⟨l2, l3⟩, l1⟩, V, R, k0⟩, t1, n1, n2⟩
theorem pl_co {own : Nat → Nat} {x k : Nat} (q : PCo own x k) : PL own x k := .inl q
theorem pl_bg {own : Nat → Nat} {x k : Nat} (q : Pbg x k) : PL own x k := by
  unfold Pbg at q
  rcases q with q | q | q
  · exact .inr (.inr (.inr (.inr (.inr (.inl (by omega))))))
  · exact .inr (.inr (.inr (.inr (.inr (.inr (.inl (by omega)))))))
  · exact .inr (.inr (.inr (.inr (.inr (.inr (.inr (by omega)))))))
theorem pl_no {own : Nat → Nat} {x k : Nat} (h : x ≤ 63 ∨ x = 65 ∨ x = 66 ∨ x = 67 ∨ (88 ≤ x ∧ x ≤ 133) ∨ (172 ≤ x ∧ x ≤ 174) ∨ (192 ≤ x ∧ x ≤ 203) ∨ (x = 64 ∧ k ≠ 8) ∨ (x = 165 ∧ (k = 10 ∨ k = 24 ∨ 48 ≤ k))) : ¬ PL own x k := fun q => by
  unfold PL PCo at q
  rcases q with (q | q | q) | q | q | q | q | q | q | q <;> omega
theorem pl_own {own : Nat → Nat} {x k : Nat} (h : 204 ≤ x) (o : own x = 1) : ¬ PL own x k := fun q => by
  unfold PL PCo at q
  rcases q with (q | q | q) | q | q | q | q | q | q | q
  all_goals first | omega | exact q.2 o
/-- Zf stands where the slots stand -/
theorem Zf_eq {h h' : hp} (e : ∀ k, hR h' 145 k = hR h 145 k) (e2 : ∀ k, hR h' 136 k = hR h 136 k) : Zf h' = Zf h := by
  unfold Zf
  rw [show hR h' 145 = hR h 145 from funext e, show hR h' 136 = hR h 136 from funext e2]
theorem FM.zf {P : Nat → Nat → Prop} {h h' : hp} (f : FM P h h') : Zf h' = Zf h := Zf_eq (fun k => f.2.2.2.1 145 k (fun q => by omega)) (fun k => f.2.2.2.1 136 k (fun q => by omega))
theorem FS.zf {P : Nat → Nat → Prop} {h h' : hp} (f : FS P h h') : Zf h' = Zf h := f.fm.zf
/-- the end of a call: what holds -/
theorem KQo.of {F13 F14 : hp → Option (Int32 × hp)} {h h1 h2 : hp} {own own' : Nat → Nat} {tp : Tp} {lim : Nat} {vs : Nat → vT} (a : Int32) (H : IW h own) (e1 : F13 h = some (a, h1)) (e2 : F14 h1 = some (a, h2)) (f : FG (PL own) h h2) (ho : ∀ x, x < 64 + hN h → own' x = own x) (r1 : hN h2 + 2 * Zf h2 ≤ hN h + 2 * Zf h) (r2 : hL h2 + 21 * Zf h2 ≤ hL h + 21 * Zf h) (I : WI h2 own' tp lim vs) (jw : Jw h2) (js : Js h2) (jp : Jp h2) : KQo F13 F14 h own := by
  obtain ⟨⟨w, z⟩, T, _⟩ := H
  refine ⟨a, h1, h2, own', e1, e2, ⟨f, ho, r1, r2⟩, I.1, T.fg w f (fun x k x1 x2 o => pl_own x1 o) (fun x k q => pl_no (by omega)) ho, ⟨I.2.1.1, I.2.2.2.2⟩, ⟨vs, I.2.2.2.1⟩, ⟨lim, I.2.2.1.2, I.2.2.1.1⟩, jw, js, jp⟩
theorem WRs.of {h : hp} {tp : Tp} {W : List Int32} (t : tp 6 = some (W, none, tyN 5)) (H : WR h W) : WRs h tp := fun x e => by rw [t] at e; cases e; exact H
theorem NLs.of {h : hp} {tp : Tp} {W : List Int32} (t : tp 6 = some (W, none, tyN 5)) (H : NL h 86 87 162 W) : ∀ x, tp 6 = some x → NL h 86 87 162 x.1 := fun x e => by rw [t] at e; cases e; exact H
theorem isT1 {k : Nat} (hk : k < 6) (h : hp) : fX14_isTemplate (iN k) h = some (1, h) := by
  have e : fX14_isIn (iN k).toInt64 0 5 h = _ := isIn_c (iN k) 0 5 (by decide) (by decide) 0 5 (by decide) (by decide) h
  rw [if_pos (by rw [i_toInt (by omega)]; omega)] at e
  unfold fX14_isTemplate
  rw [e, bd2_s]; rfl
/-- both walks of one sort, one behind the other: what is known then -/
theorem call_look {h : hp} {own : Nat → Nat} (H : IW h own) (v c : Int32) : KQo (fX13_look 64 v c) (fX14_look 165 v c) h own := by
  have w := H.1.1
  have hn := w.2.2
  rcases kIn v h with ⟨k, hk, rfl, ea, ei⟩ | ⟨ea, ei⟩
  · have a4 : fX13_among c 4 h = _ := am_e c 4 (by decide) h
    by_cases cc : 0 ≤ c.toInt ∧ c.toInt < ((4 : Nat) : Int)
    · obtain ⟨cx, hcx, rfl⟩ := i_of2 (n := 4) cc
      rw [if_pos cc] at a4
      obtain ⟨tp, lim, vs, W, I, t6, n86, wr⟩ := H.wi
      obtain ⟨h1, h2, own', e1, w1, e2, t, I2, Q⟩ := wi_c true I (NLs.of t6 n86) hk (show cx ≤ 3 by omega)
      have w2 := I2.1.1
      have wr2 : WR h2 W := wr.fg w t.1 (fun x k q => by unfold PCo; omega)
      obtain ⟨h3, e3, f3, I3, Q3⟩ := wi_m true I2 (WRs.of t6 wr2) hk (show cx ≤ 3 by omega)
      have w3 := I3.1.1
      have i3 : fX14_isIn (iN cx).toInt64 0 3 h2 = _ := isIn_c (iN cx) 0 3 (by decide) (by decide) 0 3 (by decide) (by decide) h2
      rw [if_pos (by rw [i_toInt (by omega)]; omega)] at i3
      have st1 : fX13_look 64 (iN k) (iN cx) h = if hI h2 134 17 = 0 then some (hI h2 134 13, h2) else some (-20, h2) := by
        unfold fX13_look
        rw [ea, bd2_s, if_neg z10, show fX13_among (iN cx) 4 h = _ from a4, bd2_s, if_neg z10, gR64 w, Option.bind_some, R64_7 w, ckW w, Option.bind_some, show fX12_begin 134 (iN cx) 1 h = _ from e1, Option.bind_some, gR64 w1, Option.bind_some, R64_7 w1, ckW w1, Option.bind_some, e2, Option.bind_some, gR64 w2, Option.bind_some, R64_7 w2, gW w2, Option.bind_some, Option.bind_some, gW w2, Option.bind_some]
      have st2 : fX14_look 165 (iN k) (iN cx) h2 = if hI h3 165 43 = 0 then some (hI h3 165 23, h3) else some (-20, h3) := by
        unfold fX14_look
        rw [isT1 hk, bd2_s, if_neg z10, i3, bd2_s, if_neg z10, ckM w2, Option.bind_some, show fX14_begins 165 (iN k) (iN cx) 1 h2 = _ from e3, Option.bind_some, gM w3, Option.bind_some, gM w3, Option.bind_some]
      have F : FG (PL own) h h3 := (t.1.up fun _ _ q => pl_co q).tr (f3.fg.up fun x k q => q.elim pl_bg fun q => .inr (.inr (.inr (.inr (.inr (.inl (by omega)))))))
      have FJ : FG (fun x k => PCo own x k ∨ Pbg x k ∨ (x = 165 ∧ k = 11)) h h3 := (t.1.up fun _ _ q => .inl q).tr (f3.fg.up fun x k q => .inr q)
      have z3 := f3.zf
      have js : Js h3 := H.2.2.2.2.2.2.1.fg w FJ (fun x k q z => by unfold Ps at q; unfold PCo Pbg at z; omega)
      have jp : Jp h3 := H.2.2.2.2.2.2.2.fg w FJ (fun x k q z => by unfold Pp at q; unfold PCo Pbg at z; omega)
      have r1 : hN h3 + 2 * Zf h3 ≤ hN h + 2 * Zf h := by have := t.2.2.1; rw [z3, f3.1]; exact this
      have r2 : hL h3 + 21 * Zf h3 ≤ hL h + 21 * Zf h := by have := t.2.2.2.1; rw [z3, f3.2.1]; exact this
      cases hR : wTp true true lim tp (wE true true lim tp 8) k [] none (vs, cx, [], 0) with
      | inl σ =>
        rw [hR] at Q Q3
        obtain ⟨q1, ⟨q2, q2'⟩, q3, q4, q5⟩ := Q
        obtain ⟨p1, p2, p3, p4, p5⟩ := Q3
        refine KQo.of (iN σ.2.1) H (by rw [st1, q1, if_pos rfl, q2]) (by rw [st2, p1, if_pos rfl, p2]) F t.2.1 r1 r2 I3 (Jw.of2 ((q5 _ t6).fg f3.fg (by have := I2.1.1.2.2; omega) (by have := I2.1.1.2.2; omega) (fun k q => by unfold Pbg at q; omega) (fun k q => by unfold Pbg at q; omega)) (p5 _ t6)) js jp
      | inr e =>
        rw [hR] at Q Q3
        obtain ⟨q1, q2, q3⟩ := Q
        obtain ⟨p1, p2, p3⟩ := Q3
        refine KQo.of (-20) H (by rw [st1, q1, if_neg (by decide)]) (by rw [st2, p1, if_neg (by decide)]) F t.2.1 r1 r2 I3 (Jw.of (q3.fg f3.fg (by have := I2.1.1.2.2; omega) (by have := I2.1.1.2.2; omega) (fun k q => by unfold Pbg at q; omega) (fun k q => by unfold Pbg at q; omega)) p3) js jp
    · rw [if_neg cc] at a4
      have i3 : fX14_isIn c.toInt64 0 3 h = _ := isIn_c c 0 3 (by decide) (by decide) 0 3 (by decide) (by decide) h
      rw [if_neg (by omega)] at i3
      refine KQo.same H (-2) ?_ ?_
      · unfold fX13_look
        rw [ea, bd2_s, if_neg z10, show fX13_among c 4 h = _ from a4, bd2_s, if_pos rfl]
      · unfold fX14_look
        rw [isT1 hk, bd2_s, if_neg z10, i3, bd2_s, if_pos rfl]
  · refine KQo.same H (-1) ?_ ?_
    · unfold fX13_look
      rw [ea, bd2_s, if_pos rfl]
    · unfold fX14_look fX14_isTemplate
      rw [ei, bd2_s]
      rfl

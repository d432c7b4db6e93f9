/-! the call undo -/
set_option maxHeartbeats 400000
def PUn (x k : Nat) : Prop := (x = 65 ∧ k = 3) ∨ (67 ≤ x ∧ x ≤ 85) ∨ (x = 165 ∧ (k = 21 ∨ k = 24)) ∨ ((x = 166 ∨ x = 167 ∨ x = 168 ∨ x = 170) ∧ True) ∨ (x = 169 ∧ True) ∨ (173 ≤ x ∧ x ≤ 175)
theorem call_undo {h : hp} {own : Nat → Nat} (w : WF h) (z : ZH h) (jv : Jv h) (js : Js h) (jb : Jb h) (jT : JT h own) (jk : JK h own) : ∃ a h1 h2, fX13_undo 64 h = some (a, h1) ∧ fX14_undo 165 h1 = some (a, h2) ∧ FG PUn h h2 ∧ ZH h2 ∧ WF h2 ∧ hN h2 = hN h ∧ hL h2 = hL h ∧ Jv h2 ∧ Js h2 ∧ Jb h2 ∧ JT h2 own := by
  have hn := w.2.2
  obtain ⟨tk, k1, k2, kk⟩ := jk
  cases tk with
  | false =>
    refine ⟨-3, h, h, ?_, ?_, FG.rf _ h, z, w, rfl, rfl, jv, js, jb, jT⟩
    · unfold fX13_undo
      rw [gI64 w, Option.bind_some, k1, if_pos (show b2 false = 0 by decide)]
    · unfold fX14_undo
      rw [gM w, Option.bind_some, k2, if_pos (show b2 false = 0 by decide)]
  | true =>
  obtain ⟨⟨vs, V⟩, ⟨L, N, s1, s2⟩, ⟨n, n4, b1, b2'⟩, T⟩ := kk rfl
  obtain ⟨h6, e6, f6, w6, z6, n6, l6, v6, r6, N6, i6⟩ := cp_U w z (fun v hv => (V v hv).1) (fun i hi => (T i hi).t9) N
  have F6 : FG PUn h h6 := f6.up fun x j q => by
    rcases q with q | q | q | q | q
    · exact .inr (.inl (by omega))
    · exact .inr (.inl (by omega))
    · exact .inr (.inl (by omega))
    · exact .inr (.inl (by omega))
    · exact .inl q
  have c8 : ∀ x j, x < 204 → ¬ (65 ≤ x ∧ x ≤ 85) → hI h6 x j = hI h x j ∧ hF h6 x j = hF h x j ∧ hR h6 x j = hR h x j := fun x j hx q => f6.2.2.2 x j (by omega) (fun q => by omega)
  obtain ⟨h9, e9, f9, r0, r1, r2, r3, r4, r5, r6', r7⟩ := sm8_e (h := h6) (x0 := 196) (y0 := 174) (x1 := 197) (y1 := 173) (x2 := 198) (y2 := 175) (x3 := 199) (y3 := 166) (x4 := 200) (y4 := 167) (x5 := 201) (y5 := 168) (x6 := 202) (y6 := 169) (x7 := 203) (y7 := 170) ⟨T196 w6, T174 w6, by decide, by decide, by decide, by decide⟩ ⟨T197 w6, T173 w6, by decide, by decide, by decide, by decide⟩ ⟨T198 w6, T175 w6, by decide, by decide, by decide, by decide⟩ ⟨T199 w6, T166 w6, by decide, by decide, by decide, by decide⟩ ⟨T200 w6, T167 w6, by decide, by decide, by decide, by decide⟩ ⟨T201 w6, T168 w6, by decide, by decide, by decide, by decide⟩ ⟨T202 w6, T169 w6, by decide, by decide, by decide, by decide⟩ ⟨T203 w6, T170 w6, by decide, by decide, by decide, by decide⟩ (fun x q => by omega) (by decide)
  have w9 := f9.wf w6
  have k9 : ∀ x j, x < 166 → hI h9 x j = hI h6 x j ∧ hF h9 x j = hF h6 x j := fun x j hx => f9.2.2.2.2 x j (by omega)
  have p60 : hI h9 165 60 = iN L.length := by rw [(k9 165 60 (by decide)).1, (c8 165 60 (by decide) (by decide)).1]; exact s1
  have p61 : hI (pI h9 165 21 (iN L.length)) 165 61 = iN n := by rw [hI_pI, if_neg (by decide), (k9 165 61 (by decide)).1, (c8 165 61 (by decide) (by decide)).1]; exact b2'
  have wA : WF (pI h9 165 21 (iN L.length)) := w9
  have wB : WF (pI (pI h9 165 21 (iN L.length)) 165 24 (iN n)) := w9
  have fC : FS (fun x k => x = 165 ∧ (k = 21 ∨ k = 24)) h9 (pI (pI h9 165 21 (iN L.length)) 165 24 (iN n)) := (FS.pI (by omega)).tr (FS.pI (by omega))
  have kC : ∀ x j, x ≠ 165 → hI (pI (pI h9 165 21 (iN L.length)) 165 24 (iN n)) x j = hI h9 x j ∧ hF (pI (pI h9 165 21 (iN L.length)) 165 24 (iN n)) x j = hF h9 x j := fun x j q => fC.2.2.2.2 x j (by omega)
  have zC : ZH (pI (pI h9 165 21 (iN L.length)) 165 24 (iN n)) := FS.zh fC (FS.zh f9 z6 (fun x j q => by omega)) (fun x j q => by rw [f9.1]; omega)
  have F9 : FG PUn h6 (pI (pI h9 165 21 (iN L.length)) 165 24 (iN n)) := (f9.fg.up fun x j q => by
    rcases q with q | q | q | q | q | q | q | q
    · exact .inr (.inr (.inr (.inr (.inr (by omega)))))
    · exact .inr (.inr (.inr (.inr (.inr (by omega)))))
    · exact .inr (.inr (.inr (.inr (.inr (by omega)))))
    · exact .inr (.inr (.inr (.inl ⟨by omega, trivial⟩)))
    · exact .inr (.inr (.inr (.inl ⟨by omega, trivial⟩)))
    · exact .inr (.inr (.inr (.inl ⟨by omega, trivial⟩)))
    · exact .inr (.inr (.inr (.inr (.inl ⟨q, trivial⟩))))
    · exact .inr (.inr (.inr (.inl ⟨by omega, trivial⟩)))).tr (fC.fg.up fun x j q => .inr (.inr (.inl q)))
  have jT2 : JT (pI (pI h9 165 21 (iN L.length)) 165 24 (iN n)) own := fun k hk => by
    refine (T k hk).sm (F6.tr F9) (fun x j q => by unfold PUn at q; omega) ?_ ?_ (fun i hi => ?_)
    · show hR h9 67 k = _
      rw [f9.2.2.2.1]; exact r6 k hk
    · rw [(kC 174 k (by decide)).1, r0 k hk, (c8 196 k (by decide) (by decide)).1]
    · show hI (pI (pI h9 165 21 (iN L.length)) 165 24 (iN n)) 173 _ = _
      rw [(kC 173 _ (by decide)).1, r1 _ (by omega), (c8 197 _ (by decide) (by decide)).1]
  have j67 : ∀ k, k < 6 → (hR h6 67 k = 0 ↔ hI (pI (pI h9 165 21 (iN L.length)) 165 24 (iN n)) 174 k < 0) := fun k hk => by
    have := (jT2 k hk).j0
    rw [show hR (pI (pI h9 165 21 (iN L.length)) 165 24 (iN n)) 67 k = hR h6 67 k from by show hR h9 67 k = _; rw [f9.2.2.2.1]] at this
    exact this
  obtain ⟨a, ha, hb⟩ := hold2 w6 wB j67
  refine ⟨a, h6, pI (pI h9 165 21 (iN L.length)) 165 24 (iN n), ?_, ?_, F6.tr F9, zC, wB, ?_, ?_, ⟨vs, fun v hv => ⟨?_, ?_, (V v hv).2.2⟩⟩, ⟨L, ?_, ?_, ?_⟩, ⟨n, n4, ?_, ?_⟩, jT2⟩
  · unfold fX13_undo
    rw [gI64 w, Option.bind_some, k1, if_neg (show ¬ b2 true = 0 by decide), gR64 w, Option.bind_some, gR64 w, Option.bind_some, R64_1 w, R64_0 w, ck65 w, Option.bind_some, e6, Option.bind_some, gR64 w6, Option.bind_some, R64_0 w6, ck65 w6, Option.bind_some, ha, bd2_s]
  · have e9' := e9
    unfold sm8 at e9'
    unfold fX14_undo
    revert e9'
    obtain ⟨g1', u1, t1, _⟩ := sm_e (h := h6) 6 (T196 w6) (T174 w6) (by decide) (by decide) (by decide) (by decide) (by decide)
    have x1 := t1.wf w6
    obtain ⟨g2, u2, t2, _⟩ := sm_e (h := g1') 960 (T197 x1) (T173 x1) (by decide) (by decide) (by decide) (by decide) (by decide)
    have x2 := t2.wf x1
    obtain ⟨g3, u3, t3, _⟩ := sm_e (h := g2) 400 (T198 x2) (T175 x2) (by decide) (by decide) (by decide) (by decide) (by decide)
    have x3 := t3.wf x2
    obtain ⟨g4, u4, t4, _⟩ := sm_e (h := g3) 8 (T199 x3) (T166 x3) (by decide) (by decide) (by decide) (by decide) (by decide)
    have x4 := t4.wf x3
    obtain ⟨g5, u5, t5, _⟩ := sm_e (h := g4) 8 (T200 x4) (T167 x4) (by decide) (by decide) (by decide) (by decide) (by decide)
    have x5 := t5.wf x4
    obtain ⟨g6, u6, t6, _⟩ := sm_e (h := g5) 8 (T201 x5) (T168 x5) (by decide) (by decide) (by decide) (by decide) (by decide)
    have x6 := t6.wf x5
    obtain ⟨g7, u7, t7, _⟩ := sm_e (h := g6) 128 (T202 x6) (T169 x6) (by decide) (by decide) (by decide) (by decide) (by decide)
    have x7 := t7.wf x6
    rw [show fX14_same 196 174 6 h6 = _ from u1, Option.bind_some, show fX14_same 197 173 960 g1' = _ from u2, Option.bind_some, show fX14_same 198 175 400 g2 = _ from u3, Option.bind_some, show fX14_same 199 166 8 g3 = _ from u4, Option.bind_some, show fX14_same 200 167 8 g4 = _ from u5, Option.bind_some, show fX14_same 201 168 8 g5 = _ from u6, Option.bind_some, show fX14_same 202 169 128 g6 = _ from u7, Option.bind_some]
    intro u8
    have m62 : hI h6 165 62 = 1 := by rw [(c8 165 62 (by decide) (by decide)).1, k2]; rfl
    rw [gM w6, Option.bind_some, m62, if_neg (by decide), MR52 w6, Option.bind_some, MR9 w6, Option.bind_some, show fX14_same 196 174 6 h6 = _ from u1, Option.bind_some, MR53 x1, Option.bind_some, MR8 x1, Option.bind_some, show fX14_same 197 173 960 g1' = _ from u2, Option.bind_some, MR54 x2, Option.bind_some, MR19 x2, Option.bind_some, show fX14_same 198 175 400 g2 = _ from u3, Option.bind_some, MR55 x3, Option.bind_some, MR0 x3, Option.bind_some, show fX14_same 199 166 8 g3 = _ from u4, Option.bind_some, MR56 x4, Option.bind_some, MR1 x4, Option.bind_some, show fX14_same 200 167 8 g4 = _ from u5, Option.bind_some, MR57 x5, Option.bind_some, MR2 x5, Option.bind_some, show fX14_same 201 168 8 g5 = _ from u6, Option.bind_some, MR58 x6, Option.bind_some, MR3 x6, Option.bind_some, show fX14_same 202 169 128 g6 = _ from u7, Option.bind_some, MR59 x7, Option.bind_some, MR4 x7, Option.bind_some, u8, Option.bind_some, gM w9, Option.bind_some, p60, pM w9, Option.bind_some, gM wA, Option.bind_some, p61, pM wA, Option.bind_some, ckM wB, Option.bind_some, hb, bd2_s]
  · rw [fC.1, f9.1]; exact n6
  · rw [fC.2.1, f9.2.1]; exact l6
  · exact ((v6 v hv).fs f9 (fun j q => by omega) (fun j q => by omega)).fs fC (fun j q => by omega) (fun j q => by omega)
  · obtain ⟨m1, m2, m3, m4, m5⟩ := (V v hv).2.1
    refine ⟨?_, m2, fun q => ?_, fun q => ?_, fun q => ?_⟩
    · rw [(kC 166 v (by decide)).1, r3 v hv, (c8 199 v (by decide) (by decide)).1]; exact m1
    · rw [(kC 167 v (by decide)).1, r4 v hv, (c8 200 v (by decide) (by decide)).1]; exact m3 q
    · rw [(kC 170 v (by decide)).2, r7 v hv, (c8 203 v (by decide) (by decide)).2.1]; exact m4 q
    · obtain ⟨a1, a2, a3⟩ := m5 q
      exact ⟨by rw [(kC 168 v (by decide)).1, r5 v hv, (c8 201 v (by decide) (by decide)).1]; exact a1, a2, fun j hj => by rw [(kC 169 _ (by decide)).1, r6' _ (by omega), (c8 202 _ (by decide) (by decide)).1]; exact a3 j hj⟩
  · exact (N6.fs f9 (fun j q => by omega) (fun j q => by omega)).fs fC (fun j q => by omega) (fun j q => by omega)
  · rw [hI_pI, if_neg (by decide), hI_pI, if_pos ⟨rfl, rfl⟩]
  · intro k hk
    have l4 := N.2.2.1
    rw [(kC 175 k (by decide)).1, r2 k (by omega), (c8 198 k (by decide) (by decide)).1]; exact s2 k hk
  · rw [(kC 65 3 (by decide)).1, (k9 65 3 (by decide)).1, i6]; exact b1
  · rw [hI_pI, if_pos ⟨rfl, rfl⟩]

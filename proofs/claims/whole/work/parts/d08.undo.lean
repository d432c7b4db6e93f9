/-! the calls image and undo -/
set_option maxHeartbeats 400000
theorem cp_I {h : hp} {vs : Nat → vT} {L : List Int32} (w : WF h) (z : ZH h) (V : ∀ v, v < 8 → CV h (70 + 2 * v) (70 + 1 + 2 * v) (vs v)) (tt : ∀ i, i < 6 → hR h 67 i = 0 ∨ (hT h (hR h 67 i)).1 = 9) (N : NL h 68 69 400 L) : ∃ h', fX9_copy 107 65 h = some h' ∧ FG (fun x j => (112 ≤ x ∧ x < 112 + 16) ∨ x = 109 ∨ x = 110 ∨ x = 111 ∨ (x = 107 ∧ j = 3)) h h' ∧ WF h' ∧ ZH h' ∧ hN h' = hN h ∧ hL h' = hL h ∧ (∀ v, v < 8 → CV h' (112 + 2 * v) (112 + 1 + 2 * v) (vs v)) ∧ (∀ i, i < 6 → hR h' 109 i = hR h 67 i) ∧ NL h' 110 111 400 L ∧ hI h' 107 3 = hI h 65 3 := by
  have hn := w.2.2
  have gr : ∀ g, WF g → ∀ k, gfR g 65 8 k = some (hR g 65 k) := fun g wg k => by unfold gfR; rw [T65 wg]; rfl
  have gR : ∀ g, WF g → ∀ k, gfR g 107 8 k = some (hR g 107 k) := fun g wg k => by unfold gfR; rw [T107 wg]; rfl
  obtain ⟨h1, e1, f1, r1⟩ := cpv_l (s := 65) (s' := 107) (va := 66) (va' := 108) (b := 70) (b' := 112) (fun g wg => ⟨by rw [gr g wg, R65_0 wg], fun v hv => by rw [alR_e (j := 6) (T66 wg) hv (by decide), Rval wg hv]⟩) (fun g wg => ⟨by rw [gR g wg, R107_0 wg], fun v hv => by rw [alR_e (j := 6) (T108 wg) hv (by decide), RvalK wg hv]⟩) (fun g wg v hv => VO_valK wg hv) (by decide) 8 0 FU h (by decide) (FU_pos _ (by decide)) w V (fun v hv => absurd hv (Nat.not_lt_zero _))
  have w1 := f1.wf w
  have z1 : ZH h1 := FS.zh f1 z (fun x j q => by omega)
  obtain ⟨h2, e2, f2, w2, z2, n2, l2, i2, r2⟩ := cpt_l (s := 65) (s' := 107) (ta := 67) (ta' := 109) (fun g wg => ⟨by rw [gr g wg, R65_1 wg], T67 wg⟩) (fun g wg => ⟨by rw [gR g wg, R107_1 wg], T109 wg⟩) (by decide +kernel) (by decide) (by decide) 6 0 FU h1 (by decide) (FU_pos _ (by decide)) w1 z1 (fun i hi => by rw [f1.2.2.1, f1.2.2.2.1]; exact tt i hi) (fun i hi => absurd hi (Nat.not_lt_zero _))
  have hn1 : hN h1 = hN h := f1.1
  have N2 : NL h2 68 69 400 L := (N.fs f1 (fun j q => by omega) (fun j q => by omega)).fg f2 (by omega) (by omega) (fun j q => by omega) (fun j q => by omega)
  obtain ⟨h3, e3, N3, f3⟩ := nCopy (NO_sheetK w2) N2 N2.2.2.1
  have w3 := f3.wf w2
  have z3 : ZH h3 := FS.zh f3 z2 (fun x j q => by omega)
  have w4 : WF (pI h3 107 3 (hI h3 65 3)) := w3
  have f4 : FS (fun x j => x = 107 ∧ j = 3) h3 (pI h3 107 3 (hI h3 65 3)) := FS.pI ⟨rfl, rfl⟩
  have i3 : hI h3 65 3 = hI h 65 3 := by rw [(f3.2.2.2.2 65 3 (by omega)).1, i2, (f1.2.2.2.2 65 3 (by omega)).1]
  refine ⟨pI h3 107 3 (hI h3 65 3), ?_, (((f1.fg.up fun x j q => .inl q).tr (f2.up fun x j q => .inr (.inl q))).tr (f3.fg.up fun x j q => by omega)).tr (f4.fg.up fun x j q => by omega), w4, FS.zh f4 z3 (fun x j q => by rw [f3.1, n2, hn1]; omega), by rw [f4.1, f3.1, n2, hn1], by rw [f4.2.1, f3.2.1, l2, f1.2.1], fun v hv => (((r1 v hv).fg f2 (by omega) (by omega) (fun j q => by omega) (fun j q => by omega)).fs f3 (fun j q => by omega) (fun j q => by omega)).fs f4 (fun j q => by omega) (fun j q => by omega), fun i hi => ?_, N3.fs f4 (fun j q => by omega) (fun j q => by omega), by rw [hI_pI, if_pos ⟨rfl, rfl⟩, i3]⟩
  · unfold fX9_copy
    rw [show fX9_copy_l2 FU 107 65 0 h = _ from e1, Option.bind_some, show fX9_copy_l31 FU 107 65 0 h1 = _ from e2, Option.bind_some, gR _ w2, Option.bind_some, R107_2 w2, gr _ w2, Option.bind_some, R65_2 w2, ckN (NO_sheetK w2), Option.bind_some, e3, Option.bind_some, show gfI h3 65 8 3 = some (hI h3 65 3) from by unfold gfI; rw [T65 w3]; rfl, Option.bind_some, show pfI h3 107 8 3 (hI h3 65 3) = some (pI h3 107 3 (hI h3 65 3)) from by unfold pfI; rw [T107 w3]; rfl, Option.bind_some]
  · show hR h3 109 i = _
    rw [f3.2.2.2.1, r2 i hi, f1.2.2.2.1]
theorem cp_U {h : hp} {vs : Nat → vT} {L : List Int32} (w : WF h) (z : ZH h) (V : ∀ v, v < 8 → CV h (112 + 2 * v) (112 + 1 + 2 * v) (vs v)) (tt : ∀ i, i < 6 → hR h 109 i = 0 ∨ (hT h (hR h 109 i)).1 = 9) (N : NL h 110 111 400 L) : ∃ h', fX9_copy 65 107 h = some h' ∧ FG (fun x j => (70 ≤ x ∧ x < 70 + 16) ∨ x = 67 ∨ x = 68 ∨ x = 69 ∨ (x = 65 ∧ j = 3)) h h' ∧ WF h' ∧ ZH h' ∧ hN h' = hN h ∧ hL h' = hL h ∧ (∀ v, v < 8 → CV h' (70 + 2 * v) (70 + 1 + 2 * v) (vs v)) ∧ (∀ i, i < 6 → hR h' 67 i = hR h 109 i) ∧ NL h' 68 69 400 L ∧ hI h' 65 3 = hI h 107 3 := by
  have hn := w.2.2
  have gr : ∀ g, WF g → ∀ k, gfR g 107 8 k = some (hR g 107 k) := fun g wg k => by unfold gfR; rw [T107 wg]; rfl
  have gR : ∀ g, WF g → ∀ k, gfR g 65 8 k = some (hR g 65 k) := fun g wg k => by unfold gfR; rw [T65 wg]; rfl
  obtain ⟨h1, e1, f1, r1⟩ := cpv_l (s := 107) (s' := 65) (va := 108) (va' := 66) (b := 112) (b' := 70) (fun g wg => ⟨by rw [gr g wg, R107_0 wg], fun v hv => by rw [alR_e (j := 6) (T108 wg) hv (by decide), RvalK wg hv]⟩) (fun g wg => ⟨by rw [gR g wg, R65_0 wg], fun v hv => by rw [alR_e (j := 6) (T66 wg) hv (by decide), Rval wg hv]⟩) (fun g wg v hv => VO_val wg hv) (by decide) 8 0 FU h (by decide) (FU_pos _ (by decide)) w V (fun v hv => absurd hv (Nat.not_lt_zero _))
  have w1 := f1.wf w
  have z1 : ZH h1 := FS.zh f1 z (fun x j q => by omega)
  obtain ⟨h2, e2, f2, w2, z2, n2, l2, i2, r2⟩ := cpt_l (s := 107) (s' := 65) (ta := 109) (ta' := 67) (fun g wg => ⟨by rw [gr g wg, R107_1 wg], T109 wg⟩) (fun g wg => ⟨by rw [gR g wg, R65_1 wg], T67 wg⟩) (by decide +kernel) (by decide) (by decide) 6 0 FU h1 (by decide) (FU_pos _ (by decide)) w1 z1 (fun i hi => by rw [f1.2.2.1, f1.2.2.2.1]; exact tt i hi) (fun i hi => absurd hi (Nat.not_lt_zero _))
  have hn1 : hN h1 = hN h := f1.1
  have N2 : NL h2 110 111 400 L := (N.fs f1 (fun j q => by omega) (fun j q => by omega)).fg f2 (by omega) (by omega) (fun j q => by omega) (fun j q => by omega)
  obtain ⟨h3, e3, N3, f3⟩ := nCopy (NO_sheet w2) N2 N2.2.2.1
  have w3 := f3.wf w2
  have z3 : ZH h3 := FS.zh f3 z2 (fun x j q => by omega)
  have w4 : WF (pI h3 65 3 (hI h3 107 3)) := w3
  have f4 : FS (fun x j => x = 65 ∧ j = 3) h3 (pI h3 65 3 (hI h3 107 3)) := FS.pI ⟨rfl, rfl⟩
  have i3 : hI h3 107 3 = hI h 107 3 := by rw [(f3.2.2.2.2 107 3 (by omega)).1, i2, (f1.2.2.2.2 107 3 (by omega)).1]
  refine ⟨pI h3 65 3 (hI h3 107 3), ?_, (((f1.fg.up fun x j q => .inl q).tr (f2.up fun x j q => .inr (.inl q))).tr (f3.fg.up fun x j q => by omega)).tr (f4.fg.up fun x j q => by omega), w4, FS.zh f4 z3 (fun x j q => by rw [f3.1, n2, hn1]; omega), by rw [f4.1, f3.1, n2, hn1], by rw [f4.2.1, f3.2.1, l2, f1.2.1], fun v hv => (((r1 v hv).fg f2 (by omega) (by omega) (fun j q => by omega) (fun j q => by omega)).fs f3 (fun j q => by omega) (fun j q => by omega)).fs f4 (fun j q => by omega) (fun j q => by omega), fun i hi => ?_, N3.fs f4 (fun j q => by omega) (fun j q => by omega), by rw [hI_pI, if_pos ⟨rfl, rfl⟩, i3]⟩
  · unfold fX9_copy
    rw [show fX9_copy_l2 FU 65 107 0 h = _ from e1, Option.bind_some, show fX9_copy_l31 FU 65 107 0 h1 = _ from e2, Option.bind_some, gR _ w2, Option.bind_some, R65_2 w2, gr _ w2, Option.bind_some, R107_2 w2, ckN (NO_sheet w2), Option.bind_some, e3, Option.bind_some, show gfI h3 107 8 3 = some (hI h3 107 3) from by unfold gfI; rw [T107 w3]; rfl, Option.bind_some, show pfI h3 65 8 3 (hI h3 107 3) = some (pI h3 65 3 (hI h3 107 3)) from by unfold pfI; rw [T65 w3]; rfl, Option.bind_some]
  · show hR h3 67 i = _
    rw [f3.2.2.2.1, r2 i hi, f1.2.2.2.1]
/-- a value kept by the reference -/
def KV (h : hp) (s : Nat) (V : vT) : Prop := hI h 199 s = iN V.1 ∧ V.1 ≤ 4 ∧ (V.1 = 1 → hI h 200 s = V.2.1) ∧ (V.1 = 2 → hF h 203 s = V.2.2.1) ∧ (3 ≤ V.1 → hI h 201 s = iN V.2.2.2.1 ∧ V.2.2.2.1 ≤ 16 ∧ ∀ k, k < V.2.2.2.1 → hI h 202 (16 * s + k) = V.2.2.2.2 k)
def PIm (x k : Nat) : Prop := (x = 64 ∧ k = 2) ∨ (107 ≤ x ∧ x ≤ 127) ∨ (x = 165 ∧ 60 ≤ k ∧ k ≤ 62) ∨ (196 ≤ x ∧ x ≤ 203)
/-- the image of both -/
def JK (h : hp) (own : Nat → Nat) : Prop := ∃ tk : Bool, hI h 64 2 = b2 tk ∧ hI h 165 62 = b2 tk ∧ (tk = true → (∃ vs : Nat → vT, ∀ v, v < 8 → CV h (112 + 2 * v) (112 + 1 + 2 * v) (vs v) ∧ KV h v (vs v) ∧ gV (vs v)) ∧ (∃ L : List Int32, NL h 110 111 400 L ∧ hI h 165 60 = iN L.length ∧ ∀ k, k < L.length → hI h 198 k = L.getD k 0) ∧ (∃ n, n ≤ 400 ∧ hI h 107 3 = iN n ∧ hI h 165 61 = iN n) ∧ ∀ k, k < 6 → TK h own (hR h 109 k) (hI h 196 k) fun i => hI h 197 (160 * k + i))
theorem JK.fg {P : Nat → Nat → Prop} {h h' : hp} {own own' : Nat → Nat} (w : WF h) (J : JK h own) (f : FG P h h') (hP : ∀ x k, PIm x k → ¬ P x k) (hO : ∀ x k, 204 ≤ x → x < 64 + hN h → own x = 1 → ¬ P x k) (ho : ∀ x, x < 64 + hN h → own' x = own x) : JK h' own' := by
  have hn := w.2.2
  obtain ⟨tk, a, b, c⟩ := J
  have e : ∀ x k, x < 204 → PIm x k → hI h' x k = hI h x k ∧ hF h' x k = hF h x k ∧ hR h' x k = hR h x k := fun x k hx q => f.2.2.2 x k (by omega) (hP x k q)
  refine ⟨tk, by rw [(e 64 2 (by decide) (.inl ⟨rfl, rfl⟩)).1]; exact a, by rw [(e 165 62 (by decide) (.inr (.inr (.inl (by omega))))).1]; exact b, fun ht => ?_⟩
  obtain ⟨⟨vs, V⟩, ⟨L, N, s, tx⟩, ⟨n, n4, l1, l2⟩, T⟩ := c ht
  have m : ∀ x, 196 ≤ x → x ≤ 203 → ∀ k, hI h' x k = hI h x k ∧ hF h' x k = hF h x k := fun x x1 x2 k => by
    have := e x k (by omega) (.inr (.inr (.inr ⟨x1, x2⟩)))
    exact ⟨this.1, this.2.1⟩
  have q107 : ∀ x k, 107 ≤ x → x ≤ 127 → ¬ P x k := fun x k x1 x2 => hP x k (.inr (.inl ⟨x1, x2⟩))
  refine ⟨⟨vs, fun v hv => ?_⟩, ⟨L, N.fg f (by omega) (by omega) (fun k => q107 _ k (by decide) (by decide)) (fun k => q107 _ k (by decide) (by decide)), by rw [(e 165 60 (by decide) (.inr (.inr (.inl (by omega))))).1]; exact s, fun k hk => by rw [(m 198 (by decide) (by decide) k).1]; exact tx k hk⟩, ⟨n, n4, by rw [(e 107 3 (by decide) (.inr (.inl (by omega)))).1]; exact l1, by rw [(e 165 61 (by decide) (.inr (.inr (.inl (by omega))))).1]; exact l2⟩, fun k hk => ?_⟩
  · obtain ⟨C, ⟨k1, k2, k3, k4, k5⟩, g⟩ := V v hv
    refine ⟨C.fg f (by omega) (by omega) (fun k => q107 _ k (by omega) (by omega)) (fun k => q107 _ k (by omega) (by omega)), ⟨by rw [(m 199 (by decide) (by decide) v).1]; exact k1, k2, by rw [(m 200 (by decide) (by decide) v).1]; exact k3, by rw [(m 203 (by decide) (by decide) v).2]; exact k4, fun q => ?_⟩, g⟩
    obtain ⟨a1, a2, a3⟩ := k5 q
    exact ⟨by rw [(m 201 (by decide) (by decide) v).1]; exact a1, a2, fun j hj => by rw [(m 202 (by decide) (by decide) _).1]; exact a3 j hj⟩
  · rw [(e 109 k (by decide) (.inr (.inl (by omega)))).2.2]
    exact (T k hk).fg f hO ho (m 196 (by decide) (by decide) k).1 (fun i _ => (m 197 (by decide) (by decide) _).1)
theorem TK.j0 {h : hp} {own : Nat → Nat} {T : Nat} {sz : Int32} {tx : Nat → Int32} (H : TK h own T sz tx) : T = 0 ↔ sz < 0 := by
  rcases H with ⟨a, b⟩ | ⟨L, b, t, lo, hi, a1, a2, a3, _⟩
  · rw [a, b]; exact ⟨fun _ => by decide, fun _ => rfl⟩
  · rw [a2]
    exact ⟨fun q => absurd q a1, fun q => absurd q (nl0 (by omega))⟩
theorem TK.t9 {h : hp} {own : Nat → Nat} {T : Nat} {sz : Int32} {tx : Nat → Int32} (H : TK h own T sz tx) : T = 0 ∨ (hT h T).1 = 9 := by
  rcases H with ⟨a, b⟩ | ⟨L, b, t, lo, hi, a1, a2, a3, a4, a5, a6, a7, a8⟩
  · exact .inl a
  · exact .inr (by rw [a7.2.2.2.2.1])
theorem TK.sm {P : Nat → Nat → Prop} {h h' : hp} {own : Nat → Nat} {T T' : Nat} {sz sz' : Int32} {tx tx' : Nat → Int32} (H : TK h own T sz tx) (f : FG P h h') (hP : ∀ x k, P x k → x < 204) (eT : T' = T) (es : sz' = sz) (et : ∀ i, i < 160 → tx' i = tx i) : TK h' own T' sz' tx' := by
  subst eT
  exact H.fg f (fun x k a _ _ q => by have := hP x k q; omega) (fun _ _ => rfl) es et
theorem call_image {h : hp} {own : Nat → Nat} (w : WF h) (z : ZH h) (jv : Jv h) (js : Js h) (jb : Jb h) (jT : JT h own) : ∃ a h1 h2, fX13_image 64 h = some (a, h1) ∧ fX14_image 165 h1 = some (a, h2) ∧ FG PIm h h2 ∧ ZH h2 ∧ WF h2 ∧ hN h2 = hN h ∧ hL h2 = hL h ∧ JK h2 own := by
  have hn := w.2.2
  obtain ⟨vs, V⟩ := jv
  obtain ⟨L, N, s1, s2⟩ := js
  obtain ⟨n, n4, b1, b2'⟩ := jb
  obtain ⟨h6, e6, f6, w6, z6, n6, l6, v6, r6, N6, i6⟩ := cp_I w z (fun v hv => (V v hv).1) (fun i hi => (jT i hi).t9) N
  have w8 : WF (pI h6 64 2 1) := w6
  have f8 : FS (fun x k => x = 64 ∧ k = 2) h6 (pI h6 64 2 1) := FS.pI ⟨rfl, rfl⟩
  have F8 : FG PIm h (pI h6 64 2 1) := (f6.up fun x j q => by
    rcases q with q | q | q | q | q
    · exact .inr (.inl (by omega))
    · exact .inr (.inl (by omega))
    · exact .inr (.inl (by omega))
    · exact .inr (.inl (by omega))
    · exact .inr (.inl (by omega))).tr (f8.fg.up fun x j q => .inl q)
  have F8' : FG (fun x j => x = 64 ∨ (107 ≤ x ∧ x ≤ 127)) h (pI h6 64 2 1) := (f6.up fun x j q => by omega).tr (f8.fg.up fun x j q => by omega)
  have c8 : ∀ x j, x < 204 → ¬ (x = 64 ∨ (107 ≤ x ∧ x ≤ 127)) → hI (pI h6 64 2 1) x j = hI h x j ∧ hF (pI h6 64 2 1) x j = hF h x j ∧ hR (pI h6 64 2 1) x j = hR h x j := fun x j hx q => F8'.2.2.2 x j (by omega) q
  have z8 : ZH (pI h6 64 2 1) := FS.zh f8 z6 (fun x j q => by omega)
  obtain ⟨h9, e9, f9, r0, r1, r2, r3, r4, r5, r6', r7⟩ := sm8_e (h := pI h6 64 2 1) (x0 := 174) (y0 := 196) (x1 := 173) (y1 := 197) (x2 := 175) (y2 := 198) (x3 := 166) (y3 := 199) (x4 := 167) (y4 := 200) (x5 := 168) (y5 := 201) (x6 := 169) (y6 := 202) (x7 := 170) (y7 := 203) ⟨T174 w8, T196 w8, by decide, by decide, by decide, by decide⟩ ⟨T173 w8, T197 w8, by decide, by decide, by decide, by decide⟩ ⟨T175 w8, T198 w8, by decide, by decide, by decide, by decide⟩ ⟨T166 w8, T199 w8, by decide, by decide, by decide, by decide⟩ ⟨T167 w8, T200 w8, by decide, by decide, by decide, by decide⟩ ⟨T168 w8, T201 w8, by decide, by decide, by decide, by decide⟩ ⟨T169 w8, T202 w8, by decide, by decide, by decide, by decide⟩ ⟨T170 w8, T203 w8, by decide, by decide, by decide, by decide⟩ (fun x q => by omega) (by decide)
  have w9 := f9.wf w8
  have k9 : ∀ x j, x < 196 → hI h9 x j = hI (pI h6 64 2 1) x j ∧ hF h9 x j = hF (pI h6 64 2 1) x j := fun x j hx => f9.2.2.2.2 x j (by omega)
  have p21 : hI h9 165 21 = iN L.length := by rw [(k9 165 21 (by decide)).1, (c8 165 21 (by decide) (by decide)).1]; exact s1
  have p24 : hI (pI h9 165 60 (iN L.length)) 165 24 = iN n := by rw [hI_pI, if_neg (by decide), (k9 165 24 (by decide)).1, (c8 165 24 (by decide) (by decide)).1]; exact b2'
  have wA : WF (pI h9 165 60 (iN L.length)) := w9
  have wB : WF (pI (pI h9 165 60 (iN L.length)) 165 61 (iN n)) := w9
  have wC : WF (pI (pI (pI h9 165 60 (iN L.length)) 165 61 (iN n)) 165 62 1) := w9
  have fC : FS (fun x k => x = 165 ∧ 60 ≤ k ∧ k ≤ 62) h9 (pI (pI (pI h9 165 60 (iN L.length)) 165 61 (iN n)) 165 62 1) := ((FS.pI (by omega)).tr (FS.pI (by omega))).tr (FS.pI (by omega))
  have kC : ∀ x j, x ≠ 165 → hI (pI (pI (pI h9 165 60 (iN L.length)) 165 61 (iN n)) 165 62 1) x j = hI h9 x j ∧ hF (pI (pI (pI h9 165 60 (iN L.length)) 165 61 (iN n)) 165 62 1) x j = hF h9 x j := fun x j q => fC.2.2.2.2 x j (by omega)
  have zC : ZH (pI (pI (pI h9 165 60 (iN L.length)) 165 61 (iN n)) 165 62 1) := FS.zh fC (FS.zh f9 z8 (fun x j q => by show x < 64 + hN h6; omega)) (fun x j q => by rw [f9.1]; show x < 64 + hN h6; omega)
  have F9 : FG PIm (pI h6 64 2 1) (pI (pI (pI h9 165 60 (iN L.length)) 165 61 (iN n)) 165 62 1) := (f9.fg.up fun x j q => .inr (.inr (.inr (by omega)))).tr (fC.fg.up fun x j q => .inr (.inr (.inl q)))
  have j67 : ∀ k, k < 6 → (hR (pI h6 64 2 1) 67 k = 0 ↔ hI (pI (pI (pI h9 165 60 (iN L.length)) 165 61 (iN n)) 165 62 1) 174 k < 0) := fun k hk => by
    rw [(c8 67 k (by decide) (by decide)).2.2, (kC 174 k (by decide)).1, (k9 174 k (by decide)).1, (c8 174 k (by decide) (by decide)).1]
    exact (jT k hk).j0
  obtain ⟨a, ha, hb⟩ := hold2 w8 wC j67
  refine ⟨a, pI h6 64 2 1, pI (pI (pI h9 165 60 (iN L.length)) 165 61 (iN n)) 165 62 1, ?_, ?_, F8.tr F9, zC, wC, ?_, ?_, true, ?_, ?_, fun _ => ⟨⟨vs, fun v hv => ⟨?_, ?_, (V v hv).2.2⟩⟩, ⟨L, ?_, ?_, ?_⟩, ⟨n, n4, ?_, ?_⟩, fun k hk => ?_⟩⟩
  · unfold fX13_image
    rw [gR64 w, Option.bind_some, gR64 w, Option.bind_some, R64_1 w, R64_0 w, show ckT h 107 8 = some () from by unfold ckT; rw [T107 w]; rfl, Option.bind_some, e6, Option.bind_some, show pfZ h6 64 12 2 1 = some (pI h6 64 2 1) from by unfold pfZ; rw [T64 w6]; rfl, Option.bind_some, gR64 w8, Option.bind_some, R64_0 w8, ck65 w8, Option.bind_some, ha, bd2_s]
  · have e9' := e9
    unfold sm8 at e9'
    have hA := w8
    unfold fX14_image
    have go : ∀ {g : hp}, FS (fun x _ => x = 196 ∨ x = 197 ∨ x = 198 ∨ x = 199 ∨ x = 200 ∨ x = 201 ∨ x = 202 ∨ x = 203) (pI h6 64 2 1) g → WF g := fun f => f.wf w8
    revert e9'
    cases q1 : fX14_same 174 196 6 (pI h6 64 2 1) with
    | none => intro z; cases z
    | some g1 =>
      rw [Option.bind_some]
      obtain ⟨g1', u1, t1, _⟩ := sm_e (h := pI h6 64 2 1) 6 (T174 w8) (T196 w8) (by decide) (by decide) (by decide) (by decide) (by decide)
      have e1 : g1' = g1 := Option.some.inj (u1.symm.trans q1)
      subst e1
      have x1 := t1.wf w8
      obtain ⟨g2, u2, t2, _⟩ := sm_e (h := g1') 960 (T173 x1) (T197 x1) (by decide) (by decide) (by decide) (by decide) (by decide)
      have x2 := t2.wf x1
      obtain ⟨g3, u3, t3, _⟩ := sm_e (h := g2) 400 (T175 x2) (T198 x2) (by decide) (by decide) (by decide) (by decide) (by decide)
      have x3 := t3.wf x2
      obtain ⟨g4, u4, t4, _⟩ := sm_e (h := g3) 8 (T166 x3) (T199 x3) (by decide) (by decide) (by decide) (by decide) (by decide)
      have x4 := t4.wf x3
      obtain ⟨g5, u5, t5, _⟩ := sm_e (h := g4) 8 (T167 x4) (T200 x4) (by decide) (by decide) (by decide) (by decide) (by decide)
      have x5 := t5.wf x4
      obtain ⟨g6, u6, t6, _⟩ := sm_e (h := g5) 8 (T168 x5) (T201 x5) (by decide) (by decide) (by decide) (by decide) (by decide)
      have x6 := t6.wf x5
      obtain ⟨g7, u7, t7, _⟩ := sm_e (h := g6) 128 (T169 x6) (T202 x6) (by decide) (by decide) (by decide) (by decide) (by decide)
      have x7 := t7.wf x6
      rw [show fX14_same 173 197 960 g1' = _ from u2, Option.bind_some, show fX14_same 175 198 400 g2 = _ from u3, Option.bind_some, show fX14_same 166 199 8 g3 = _ from u4, Option.bind_some, show fX14_same 167 200 8 g4 = _ from u5, Option.bind_some, show fX14_same 168 201 8 g5 = _ from u6, Option.bind_some, show fX14_same 169 202 128 g6 = _ from u7, Option.bind_some]
      intro u8
      rw [MR9 w8, Option.bind_some, MR52 w8, Option.bind_some, q1, Option.bind_some, MR8 x1, Option.bind_some, MR53 x1, Option.bind_some, show fX14_same 173 197 960 g1' = _ from u2, Option.bind_some, MR19 x2, Option.bind_some, MR54 x2, Option.bind_some, show fX14_same 175 198 400 g2 = _ from u3, Option.bind_some, MR0 x3, Option.bind_some, MR55 x3, Option.bind_some, show fX14_same 166 199 8 g3 = _ from u4, Option.bind_some, MR1 x4, Option.bind_some, MR56 x4, Option.bind_some, show fX14_same 167 200 8 g4 = _ from u5, Option.bind_some, MR2 x5, Option.bind_some, MR57 x5, Option.bind_some, show fX14_same 168 201 8 g5 = _ from u6, Option.bind_some, MR3 x6, Option.bind_some, MR58 x6, Option.bind_some, show fX14_same 169 202 128 g6 = _ from u7, Option.bind_some, MR4 x7, Option.bind_some, MR59 x7, Option.bind_some, u8, Option.bind_some, gM w9, Option.bind_some, p21, pM w9, Option.bind_some, gM wA, Option.bind_some, p24, pM wA, Option.bind_some, show pfZ _ 165 13 62 1 = _ from pMz wB 62 true, Option.bind_some, show pI (pI (pI h9 165 60 (iN L.length)) 165 61 (iN n)) 165 62 (b2 true) = pI (pI (pI h9 165 60 (iN L.length)) 165 61 (iN n)) 165 62 1 from rfl, ckM wC, Option.bind_some, hb, bd2_s]
  · rw [fC.1, f9.1]; exact n6
  · rw [fC.2.1, f9.2.1]; exact l6
  · rw [(kC 64 2 (by decide)).1, (k9 64 2 (by decide)).1, hI_pI, if_pos ⟨rfl, rfl⟩]; rfl
  · rw [hI_pI, if_pos ⟨rfl, rfl⟩]; rfl
  · exact (((v6 v hv).fs f8 (fun j q => by omega) (fun j q => by omega)).fs f9 (fun j q => by omega) (fun j q => by omega)).fs fC (fun j q => by omega) (fun j q => by omega)
  · obtain ⟨m1, m2, m3, m4, m5⟩ := (V v hv).2.1
    refine ⟨?_, m2, fun q => ?_, fun q => ?_, fun q => ?_⟩
    · rw [(kC 199 v (by decide)).1, r3 v hv, (c8 166 v (by decide) (by decide)).1]; exact m1
    · rw [(kC 200 v (by decide)).1, r4 v hv, (c8 167 v (by decide) (by decide)).1]; exact m3 q
    · rw [(kC 203 v (by decide)).2, r7 v hv, (c8 170 v (by decide) (by decide)).2.1]; exact m4 q
    · obtain ⟨a1, a2, a3⟩ := m5 q
      exact ⟨by rw [(kC 201 v (by decide)).1, r5 v hv, (c8 168 v (by decide) (by decide)).1]; exact a1, a2, fun j hj => by rw [(kC 202 _ (by decide)).1, r6' _ (by omega), (c8 169 _ (by decide) (by decide)).1]; exact a3 j hj⟩
  · exact ((N6.fs f8 (fun j q => by omega) (fun j q => by omega)).fs f9 (fun j q => by omega) (fun j q => by omega)).fs fC (fun j q => by omega) (fun j q => by omega)
  · rw [hI_pI, if_neg (by decide), hI_pI, if_neg (by decide), hI_pI, if_pos ⟨rfl, rfl⟩]
  · intro k hk
    have l4 := N.2.2.1
    rw [(kC 198 k (by decide)).1, r2 k (by omega), (c8 175 k (by decide) (by decide)).1]; exact s2 k hk
  · rw [(kC 107 3 (by decide)).1, (k9 107 3 (by decide)).1, hI_pI, if_neg (by decide), i6]; exact b1
  · rw [hI_pI, if_neg (by decide), hI_pI, if_pos ⟨rfl, rfl⟩]
  · refine (jT k hk).sm (F8.tr F9) (fun x j q => by unfold PIm at q; omega) ?_ ?_ (fun i hi => ?_)
    · show hR h9 109 k = _
      rw [f9.2.2.2.1]; exact r6 k hk
    · rw [(kC 196 k (by decide)).1, r0 k hk, (c8 174 k (by decide) (by decide)).1]
    · show hI (pI (pI (pI h9 165 60 (iN L.length)) 165 61 (iN n)) 165 62 1) 197 _ = _
      rw [(kC 197 _ (by decide)).1, r1 _ (by omega), (c8 173 _ (by decide) (by decide)).1]

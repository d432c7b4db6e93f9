/-! the calls image and undo: copying -/
set_option maxHeartbeats 400000
theorem hold2 {h1 h2 : hp} (w1 : WF h1) (w2 : WF h2) (J : ∀ k, k < 6 → (hR h1 67 k = 0 ↔ hI h2 174 k < 0)) : ∃ a, fX9_holding 65 h1 = some (a, h1) ∧ fX14_withText 165 h2 = some (a, h2) := by
  refine ⟨orF (fun k => hR h1 67 k = 0) 6 0 0, ?_, ?_⟩
  · have e : fX9_holding_l4 FU 65 0 0 h1 = _ := hold_l w1 6 0 FU 0 (by omega) (by show 6 < 1000000; omega)
    rw [fX9_holding, e, bd2_s]
  · have e : fX14_withText_l4 FU 165 0 0 h2 = _ := with_l w2 6 0 FU 0 (by omega) (by show 6 < 1000000; omega)
    rw [fX14_withText, e, bd2_s, or_congr J 6 0 0 rfl]
/-- values of a state copied -/
theorem cpv_l {s s' va va' b b' : Nat} {vs : Nat → vT} (hs : ∀ g, WF g → gfR g s 8 0 = some va ∧ ∀ v, v < 8 → alR 6 g va (iN v) = some (b + 2 * v)) (hd : ∀ g, WF g → gfR g s' 8 0 = some va' ∧ ∀ v, v < 8 → alR 6 g va' (iN v) = some (b' + 2 * v)) (vo : ∀ g, WF g → ∀ v, v < 8 → VO g (b' + 2 * v) (b' + 1 + 2 * v)) (ne : b + 16 ≤ b' ∨ b' + 16 ≤ b) : ∀ (d k m : Nat) (h : hp), k + d = 8 → d < m → WF h → (∀ v, v < 8 → CV h (b + 2 * v) (b + 1 + 2 * v) (vs v)) → (∀ v, v < k → CV h (b' + 2 * v) (b' + 1 + 2 * v) (vs v)) → ∃ h', fX9_copy_l2 m s' s (iN k) h = some h' ∧ FS (fun x _ => b' ≤ x ∧ x < b' + 16) h h' ∧ ∀ v, v < 8 → CV h' (b' + 2 * v) (b' + 1 + 2 * v) (vs v) := by
  intro d
  induction d with
  | zero =>
    intro k m h hk hm w I J
    obtain ⟨m, rfl⟩ : ∃ q, m = q + 1 := ⟨m - 1, by omega⟩
    refine ⟨h, ?_, FS.rf _ h, fun v hv => J v (by omega)⟩
    rw [fX9_copy_l2, if_pos (by rw [i_lit_le (by decide) (by omega)]; show 8 ≤ k; omega)]
  | succ d ih =>
    intro k m h hk hm w I J
    obtain ⟨m, rfl⟩ : ∃ q, m = q + 1 := ⟨m - 1, by omega⟩
    obtain ⟨h1, e1, C1, f1⟩ := cCopy (vo h w k (by omega)) (I k (by omega))
    have w1 := f1.wf w
    have f1' : FS (fun x _ => b' ≤ x ∧ x < b' + 16) h h1 := f1.fs.up fun x j q => by simp at q; omega
    obtain ⟨h', e', f', r'⟩ := ih (k + 1) m h1 (by omega) (by omega) w1 (fun v hv => (I v hv).fs f1' (fun j q => by omega) (fun j q => by omega)) (fun v hv => by
      by_cases c : v = k
      · rw [c]; exact C1
      · exact (J v (by omega)).fs f1.fs (fun j q => by simp at q; omega) (fun j q => by simp at q; omega))
    refine ⟨h', ?_, f1'.tr f', r'⟩
    rw [fX9_copy_l2, if_neg (by rw [i_lit_le (by decide) (by omega)]; show ¬ 8 ≤ k; omega), (hd h w).1, Option.bind_some, (hd h w).2 k (by omega), Option.bind_some, (hs h w).1, Option.bind_some, (hs h w).2 k (by omega), Option.bind_some, ckV (vo h w k (by omega)), Option.bind_some, e1, Option.bind_some, i_succ, e']
/-- templates of a state copied -/
theorem cpt_l {s s' ta ta' : Nat} (hs : ∀ g, WF g → gfR g s 8 1 = some ta ∧ hT g ta = (105, 6)) (hd : ∀ g, WF g → gfR g s' 8 1 = some ta' ∧ hT g ta' = (105, 6)) (n0 : ∀ q ∈ R0l, q.1 ≠ ta') (ne : ta ≠ ta') (lt : ta' < 204) : ∀ (d k m : Nat) (h : hp), k + d = 6 → d < m → WF h → ZH h → (∀ i, i < 6 → hR h ta i = 0 ∨ (hT h (hR h ta i)).1 = 9) → (∀ i, i < k → hR h ta' i = hR h ta i) → ∃ h', fX9_copy_l31 m s' s (iN k) h = some h' ∧ FG (fun x _ => x = ta') h h' ∧ WF h' ∧ ZH h' ∧ hN h' = hN h ∧ hL h' = hL h ∧ hI h' = hI h ∧ ∀ i, i < 6 → hR h' ta' i = hR h ta i := by
  intro d
  induction d with
  | zero =>
    intro k m h hk hm w z I J
    obtain ⟨m, rfl⟩ : ∃ q, m = q + 1 := ⟨m - 1, by omega⟩
    refine ⟨h, ?_, FG.rf _ h, w, z, rfl, rfl, rfl, fun i hi => J i (by omega)⟩
    rw [fX9_copy_l31, if_pos (by rw [i_lit_le (by decide) (by omega)]; show 6 ≤ k; omega)]
  | succ d ih =>
    intro k m h hk hm w z I J
    obtain ⟨m, rfl⟩ : ∃ q, m = q + 1 := ⟨m - 1, by omega⟩
    have hn := w.2.2
    have w1 : WF (pR h ta' k (hR h ta k)) := WF_pR w (fun q hq y => n0 q hq y.1)
    have z1 : ZH (pR h ta' k (hR h ta k)) := z.pR k _ (by omega)
    have f1 : FG (fun x _ => x = ta') h (pR h ta' k (hR h ta k)) := fgR1 rfl
    have e : ∀ i, hR (pR h ta' k (hR h ta k)) ta i = hR h ta i := fun i => by rw [hR_pR, if_neg (fun q => ne q.1)]
    obtain ⟨h', e', f', w', z', n', l', i', r'⟩ := ih (k + 1) m (pR h ta' k (hR h ta k)) (by omega) (by omega) w1 z1 (fun i hi => by rw [e i]; exact I i hi) (fun i hi => by
      rw [e i, hR_pR]
      by_cases c : i = k
      · rw [if_pos ⟨rfl, c⟩, c]
      · rw [if_neg (fun q => c q.2)]; exact J i (by omega))
    refine ⟨h', ?_, f1.tr f', w', z', n', l', i', fun i hi => by rw [r' i hi, e i]⟩
    have as1 : asR 5 h ta' (iN k) (hR h ta k) = some (pR h ta' k (hR h ta k)) := asR_e (hd h w).2 (by omega) (by decide) (I k (by omega))
    rw [fX9_copy_l31, if_neg (by rw [i_lit_le (by decide) (by omega)]; show ¬ 6 ≤ k; omega), (hd h w).1, Option.bind_some, (hs h w).1, Option.bind_some, alR_e (j := 5) (hs h w).2 (by omega) (by decide), Option.bind_some, as1, Option.bind_some, i_succ, e']
/-- a list copied by the reference -/
theorem sm_l {a0 a1 n0 n1 N : Nat} (ne : a0 ≠ a1) (hN0 : N ≤ n0) (hN1 : N ≤ n1) (c0 : n0 ≤ 20000) (c1 : n1 ≤ 20000) : ∀ (d k m : Nat) (h : hp), k + d = N → d < m → hT h a0 = (100, n0) → hT h a1 = (100, n1) → (∀ i, i < k → hI h a1 i = hI h a0 i) → ∃ h', fX14_same_l2 m a0 a1 (iN N) (iN k) h = some h' ∧ FS (fun x _ => x = a1) h h' ∧ ∀ i, i < N → hI h' a1 i = hI h a0 i := by
  intro d
  induction d with
  | zero =>
    intro k m h hk hm t0 t1 J
    obtain ⟨m, rfl⟩ : ∃ q, m = q + 1 := ⟨m - 1, by omega⟩
    refine ⟨h, ?_, FS.rf _ h, fun i hi => J i (by omega)⟩
    rw [fX14_same_l2, if_pos (by rw [i_le (by omega) (by omega)]; omega)]
  | succ d ih =>
    intro k m h hk hm t0 t1 J
    obtain ⟨m, rfl⟩ : ∃ q, m = q + 1 := ⟨m - 1, by omega⟩
    have f1 : FS (fun x _ => x = a1) h (pI h a1 k (hI h a0 k)) := FS.pI rfl
    have e : ∀ i, hI (pI h a1 k (hI h a0 k)) a0 i = hI h a0 i := fun i => by rw [hI_pI, if_neg (fun q => ne q.1)]
    obtain ⟨h', e', f', r'⟩ := ih (k + 1) m (pI h a1 k (hI h a0 k)) (by omega) (by omega) t0 t1 (fun i hi => by
      rw [e i, hI_pI]
      by_cases c : i = k
      · rw [if_pos ⟨rfl, c⟩, c]
      · rw [if_neg (fun q => c q.2)]; exact J i (by omega))
    refine ⟨h', ?_, f1.tr f', fun i hi => by rw [r' i hi, e i]⟩
    rw [fX14_same_l2, if_neg (by rw [i_le (by omega) (by omega)]; omega), al_e t0 (by omega) c0, Option.bind_some, as_e t1 (by omega) c1, Option.bind_some, i_succ, e']
theorem sm_e {h : hp} {a0 a1 n0 n1 : Nat} (N : Nat) (t0 : hT h a0 = (100, n0)) (t1 : hT h a1 = (100, n1)) (ne : a0 ≠ a1) (hN0 : N ≤ n0) (hN1 : N ≤ n1) (c0 : n0 ≤ 20000) (c1 : n1 ≤ 20000) : ∃ h', fX14_same a0 a1 (iN N) h = some h' ∧ FS (fun x _ => x = a1) h h' ∧ ∀ i, i < N → hI h' a1 i = hI h a0 i := by
  obtain ⟨h', e, r⟩ := sm_l ne hN0 hN1 c0 c1 N 0 FU h (by omega) (FU_pos _ (by omega)) t0 t1 (fun i hi => absurd hi (Nat.not_lt_zero _))
  refine ⟨h', ?_, r⟩
  unfold fX14_same
  rw [show fX14_same_l2 FU a0 a1 (iN N) 0 h = _ from e, Option.bind_some]
theorem smF_l {a0 a1 n0 n1 N : Nat} (ne : a0 ≠ a1) (hN0 : N ≤ n0) (hN1 : N ≤ n1) (c0 : n0 ≤ 20000) (c1 : n1 ≤ 20000) : ∀ (d k m : Nat) (h : hp), k + d = N → d < m → hT h a0 = (101, n0) → hT h a1 = (101, n1) → (∀ i, i < k → hF h a1 i = hF h a0 i) → ∃ h', fX14_same__l2 m a0 a1 (iN N) (iN k) h = some h' ∧ FS (fun x _ => x = a1) h h' ∧ ∀ i, i < N → hF h' a1 i = hF h a0 i := by
  intro d
  induction d with
  | zero =>
    intro k m h hk hm t0 t1 J
    obtain ⟨m, rfl⟩ : ∃ q, m = q + 1 := ⟨m - 1, by omega⟩
    refine ⟨h, ?_, FS.rf _ h, fun i hi => J i (by omega)⟩
    rw [fX14_same__l2, if_pos (by rw [i_le (by omega) (by omega)]; omega)]
  | succ d ih =>
    intro k m h hk hm t0 t1 J
    obtain ⟨m, rfl⟩ : ∃ q, m = q + 1 := ⟨m - 1, by omega⟩
    have f1 : FS (fun x _ => x = a1) h (pF h a1 k (hF h a0 k)) := FS.pF rfl
    have e : ∀ i, hF (pF h a1 k (hF h a0 k)) a0 i = hF h a0 i := fun i => by rw [hF_pF, if_neg (fun q => ne q.1)]
    obtain ⟨h', e', f', r'⟩ := ih (k + 1) m (pF h a1 k (hF h a0 k)) (by omega) (by omega) t0 t1 (fun i hi => by
      rw [e i, hF_pF]
      by_cases c : i = k
      · rw [if_pos ⟨rfl, c⟩, c]
      · rw [if_neg (fun q => c q.2)]; exact J i (by omega))
    refine ⟨h', ?_, f1.tr f', fun i hi => by rw [r' i hi, e i]⟩
    rw [fX14_same__l2, if_neg (by rw [i_le (by omega) (by omega)]; omega), alF_e t0 (by omega) c0, Option.bind_some, asF_e t1 (by omega) c1, Option.bind_some, i_succ, e']
theorem smF_e {h : hp} {a0 a1 n0 n1 : Nat} (N : Nat) (t0 : hT h a0 = (101, n0)) (t1 : hT h a1 = (101, n1)) (ne : a0 ≠ a1) (hN0 : N ≤ n0) (hN1 : N ≤ n1) (c0 : n0 ≤ 20000) (c1 : n1 ≤ 20000) : ∃ h', fX14_same_ a0 a1 (iN N) h = some h' ∧ FS (fun x _ => x = a1) h h' ∧ ∀ i, i < N → hF h' a1 i = hF h a0 i := by
  obtain ⟨h', e, r⟩ := smF_l ne hN0 hN1 c0 c1 N 0 FU h (by omega) (FU_pos _ (by omega)) t0 t1 (fun i hi => absurd hi (Nat.not_lt_zero _))
  refine ⟨h', ?_, r⟩
  unfold fX14_same_
  rw [show fX14_same__l2 FU a0 a1 (iN N) 0 h = _ from e, Option.bind_some]
/-- all eight lists, one behind the other -/
def sm8 (x0 y0 x1 y1 x2 y2 x3 y3 x4 y4 x5 y5 x6 y6 x7 y7 : Nat) (h : hp) : Option hp :=
  (fX14_same x0 y0 6 h).bind fun h1 => (fX14_same x1 y1 960 h1).bind fun h2 => (fX14_same x2 y2 400 h2).bind fun h3 => (fX14_same x3 y3 8 h3).bind fun h4 => (fX14_same x4 y4 8 h4).bind fun h5 => (fX14_same x5 y5 8 h5).bind fun h6 => (fX14_same x6 y6 128 h6).bind fun h7 => fX14_same_ x7 y7 8 h7
theorem sm8_e {h : hp} {x0 y0 x1 y1 x2 y2 x3 y3 x4 y4 x5 y5 x6 y6 x7 y7 a0 b0 a1 b1 a2 b2' a3 b3 a4 b4 a5 b5 a6 b6 a7 b7 : Nat}
    (t0 : hT h x0 = (100, a0) ∧ hT h y0 = (100, b0) ∧ 6 ≤ a0 ∧ 6 ≤ b0 ∧ a0 ≤ 20000 ∧ b0 ≤ 20000)
    (t1 : hT h x1 = (100, a1) ∧ hT h y1 = (100, b1) ∧ 960 ≤ a1 ∧ 960 ≤ b1 ∧ a1 ≤ 20000 ∧ b1 ≤ 20000)
    (t2 : hT h x2 = (100, a2) ∧ hT h y2 = (100, b2') ∧ 400 ≤ a2 ∧ 400 ≤ b2' ∧ a2 ≤ 20000 ∧ b2' ≤ 20000)
    (t3 : hT h x3 = (100, a3) ∧ hT h y3 = (100, b3) ∧ 8 ≤ a3 ∧ 8 ≤ b3 ∧ a3 ≤ 20000 ∧ b3 ≤ 20000)
    (t4 : hT h x4 = (100, a4) ∧ hT h y4 = (100, b4) ∧ 8 ≤ a4 ∧ 8 ≤ b4 ∧ a4 ≤ 20000 ∧ b4 ≤ 20000)
    (t5 : hT h x5 = (100, a5) ∧ hT h y5 = (100, b5) ∧ 8 ≤ a5 ∧ 8 ≤ b5 ∧ a5 ≤ 20000 ∧ b5 ≤ 20000)
    (t6 : hT h x6 = (100, a6) ∧ hT h y6 = (100, b6) ∧ 128 ≤ a6 ∧ 128 ≤ b6 ∧ a6 ≤ 20000 ∧ b6 ≤ 20000)
    (t7 : hT h x7 = (101, a7) ∧ hT h y7 = (101, b7) ∧ 8 ≤ a7 ∧ 8 ≤ b7 ∧ a7 ≤ 20000 ∧ b7 ≤ 20000)
    (lo : ∀ x, x = x0 ∨ x = x1 ∨ x = x2 ∨ x = x3 ∨ x = x4 ∨ x = x5 ∨ x = x6 ∨ x = x7 → x ≠ y0 ∧ x ≠ y1 ∧ x ≠ y2 ∧ x ≠ y3 ∧ x ≠ y4 ∧ x ≠ y5 ∧ x ≠ y6 ∧ x ≠ y7)
    (dn : (y0 ≠ y1 ∧ y0 ≠ y2 ∧ y0 ≠ y3 ∧ y0 ≠ y4 ∧ y0 ≠ y5 ∧ y0 ≠ y6 ∧ y0 ≠ y7) ∧ (y1 ≠ y2 ∧ y1 ≠ y3 ∧ y1 ≠ y4 ∧ y1 ≠ y5 ∧ y1 ≠ y6 ∧ y1 ≠ y7) ∧ (y2 ≠ y3 ∧ y2 ≠ y4 ∧ y2 ≠ y5 ∧ y2 ≠ y6 ∧ y2 ≠ y7) ∧ (y3 ≠ y4 ∧ y3 ≠ y5 ∧ y3 ≠ y6 ∧ y3 ≠ y7) ∧ (y4 ≠ y5 ∧ y4 ≠ y6 ∧ y4 ≠ y7) ∧ (y5 ≠ y6 ∧ y5 ≠ y7) ∧ y6 ≠ y7) :
    ∃ h', sm8 x0 y0 x1 y1 x2 y2 x3 y3 x4 y4 x5 y5 x6 y6 x7 y7 h = some h' ∧ FS (fun x _ => x = y0 ∨ x = y1 ∨ x = y2 ∨ x = y3 ∨ x = y4 ∨ x = y5 ∨ x = y6 ∨ x = y7) h h' ∧ (∀ i, i < 6 → hI h' y0 i = hI h x0 i) ∧ (∀ i, i < 960 → hI h' y1 i = hI h x1 i) ∧ (∀ i, i < 400 → hI h' y2 i = hI h x2 i) ∧ (∀ i, i < 8 → hI h' y3 i = hI h x3 i) ∧ (∀ i, i < 8 → hI h' y4 i = hI h x4 i) ∧ (∀ i, i < 8 → hI h' y5 i = hI h x5 i) ∧ (∀ i, i < 128 → hI h' y6 i = hI h x6 i) ∧ ∀ i, i < 8 → hF h' y7 i = hF h x7 i := by
  obtain ⟨l0, l1, l2, l3, l4, l5, l6, l7⟩ := And.intro (lo x0 (by simp)) (And.intro (lo x1 (by simp)) (And.intro (lo x2 (by simp)) (And.intro (lo x3 (by simp)) (And.intro (lo x4 (by simp)) (And.intro (lo x5 (by simp)) (And.intro (lo x6 (by simp)) (lo x7 (by simp))))))))
  obtain ⟨h1, e1, f1, r1⟩ := sm_e 6 t0.1 t0.2.1 l0.1 t0.2.2.1 t0.2.2.2.1 t0.2.2.2.2.1 t0.2.2.2.2.2
  obtain ⟨h2, e2, f2, r2⟩ := sm_e (h := h1) 960 (by rw [f1.2.2.1]; exact t1.1) (by rw [f1.2.2.1]; exact t1.2.1) l1.2.1 t1.2.2.1 t1.2.2.2.1 t1.2.2.2.2.1 t1.2.2.2.2.2
  obtain ⟨h3, e3, f3, r3⟩ := sm_e (h := h2) 400 (by rw [f2.2.2.1, f1.2.2.1]; exact t2.1) (by rw [f2.2.2.1, f1.2.2.1]; exact t2.2.1) l2.2.2.1 t2.2.2.1 t2.2.2.2.1 t2.2.2.2.2.1 t2.2.2.2.2.2
  obtain ⟨h4, e4, f4, r4⟩ := sm_e (h := h3) 8 (by rw [f3.2.2.1, f2.2.2.1, f1.2.2.1]; exact t3.1) (by rw [f3.2.2.1, f2.2.2.1, f1.2.2.1]; exact t3.2.1) l3.2.2.2.1 t3.2.2.1 t3.2.2.2.1 t3.2.2.2.2.1 t3.2.2.2.2.2
  obtain ⟨h5, e5, f5, r5⟩ := sm_e (h := h4) 8 (by rw [f4.2.2.1, f3.2.2.1, f2.2.2.1, f1.2.2.1]; exact t4.1) (by rw [f4.2.2.1, f3.2.2.1, f2.2.2.1, f1.2.2.1]; exact t4.2.1) l4.2.2.2.2.1 t4.2.2.1 t4.2.2.2.1 t4.2.2.2.2.1 t4.2.2.2.2.2
  obtain ⟨h6, e6, f6, r6⟩ := sm_e (h := h5) 8 (by rw [f5.2.2.1, f4.2.2.1, f3.2.2.1, f2.2.2.1, f1.2.2.1]; exact t5.1) (by rw [f5.2.2.1, f4.2.2.1, f3.2.2.1, f2.2.2.1, f1.2.2.1]; exact t5.2.1) l5.2.2.2.2.2.1 t5.2.2.1 t5.2.2.2.1 t5.2.2.2.2.1 t5.2.2.2.2.2
  obtain ⟨h7, e7, f7, r7⟩ := sm_e (h := h6) 128 (by rw [f6.2.2.1, f5.2.2.1, f4.2.2.1, f3.2.2.1, f2.2.2.1, f1.2.2.1]; exact t6.1) (by rw [f6.2.2.1, f5.2.2.1, f4.2.2.1, f3.2.2.1, f2.2.2.1, f1.2.2.1]; exact t6.2.1) l6.2.2.2.2.2.2.1 t6.2.2.1 t6.2.2.2.1 t6.2.2.2.2.1 t6.2.2.2.2.2
  obtain ⟨h8, e8, f8, r8⟩ := smF_e (h := h7) 8 (by rw [f7.2.2.1, f6.2.2.1, f5.2.2.1, f4.2.2.1, f3.2.2.1, f2.2.2.1, f1.2.2.1]; exact t7.1) (by rw [f7.2.2.1, f6.2.2.1, f5.2.2.1, f4.2.2.1, f3.2.2.1, f2.2.2.1, f1.2.2.1]; exact t7.2.1) l7.2.2.2.2.2.2.2 t7.2.2.1 t7.2.2.2.1 t7.2.2.2.2.1 t7.2.2.2.2.2
  obtain ⟨d0, d1, d2, d3, d4, d5, d6⟩ := dn
  have n1 : ∀ x j, x ≠ y0 → hI h1 x j = hI h x j ∧ hF h1 x j = hF h x j := fun x j q => f1.2.2.2.2 x j q
  have n2 : ∀ x j, x ≠ y1 → hI h2 x j = hI h1 x j ∧ hF h2 x j = hF h1 x j := fun x j q => f2.2.2.2.2 x j q
  have n3 : ∀ x j, x ≠ y2 → hI h3 x j = hI h2 x j ∧ hF h3 x j = hF h2 x j := fun x j q => f3.2.2.2.2 x j q
  have n4 : ∀ x j, x ≠ y3 → hI h4 x j = hI h3 x j ∧ hF h4 x j = hF h3 x j := fun x j q => f4.2.2.2.2 x j q
  have n5 : ∀ x j, x ≠ y4 → hI h5 x j = hI h4 x j ∧ hF h5 x j = hF h4 x j := fun x j q => f5.2.2.2.2 x j q
  have n6 : ∀ x j, x ≠ y5 → hI h6 x j = hI h5 x j ∧ hF h6 x j = hF h5 x j := fun x j q => f6.2.2.2.2 x j q
  have n7 : ∀ x j, x ≠ y6 → hI h7 x j = hI h6 x j ∧ hF h7 x j = hF h6 x j := fun x j q => f7.2.2.2.2 x j q
  have n8 : ∀ x j, x ≠ y7 → hI h8 x j = hI h7 x j ∧ hF h8 x j = hF h7 x j := fun x j q => f8.2.2.2.2 x j q
  refine ⟨h8, ?_, (((((((f1.up fun x j q => .inl q).tr (f2.up fun x j q => .inr (.inl q))).tr (f3.up fun x j q => .inr (.inr (.inl q)))).tr (f4.up fun x j q => .inr (.inr (.inr (.inl q))))).tr (f5.up fun x j q => .inr (.inr (.inr (.inr (.inl q)))))).tr (f6.up fun x j q => .inr (.inr (.inr (.inr (.inr (.inl q))))))).tr (f7.up fun x j q => .inr (.inr (.inr (.inr (.inr (.inr (.inl q)))))))).tr (f8.up fun x j q => .inr (.inr (.inr (.inr (.inr (.inr (.inr q)))))))  , fun i hi => ?_, fun i hi => ?_, fun i hi => ?_, fun i hi => ?_, fun i hi => ?_, fun i hi => ?_, fun i hi => ?_, fun i hi => ?_⟩
  · unfold sm8
    rw [show fX14_same x0 y0 6 h = _ from e1, Option.bind_some, show fX14_same x1 y1 960 h1 = _ from e2, Option.bind_some, show fX14_same x2 y2 400 h2 = _ from e3, Option.bind_some, show fX14_same x3 y3 8 h3 = _ from e4, Option.bind_some, show fX14_same x4 y4 8 h4 = _ from e5, Option.bind_some, show fX14_same x5 y5 8 h5 = _ from e6, Option.bind_some, show fX14_same x6 y6 128 h6 = _ from e7, Option.bind_some]
    exact e8
  · rw [(n8 _ i d0.2.2.2.2.2.2).1, (n7 _ i d0.2.2.2.2.2.1).1, (n6 _ i d0.2.2.2.2.1).1, (n5 _ i d0.2.2.2.1).1, (n4 _ i d0.2.2.1).1, (n3 _ i d0.2.1).1, (n2 _ i d0.1).1, r1 i hi]
  · rw [(n8 _ i d1.2.2.2.2.2).1, (n7 _ i d1.2.2.2.2.1).1, (n6 _ i d1.2.2.2.1).1, (n5 _ i d1.2.2.1).1, (n4 _ i d1.2.1).1, (n3 _ i d1.1).1, r2 i hi, (n1 _ i l1.1).1]
  · rw [(n8 _ i d2.2.2.2.2).1, (n7 _ i d2.2.2.2.1).1, (n6 _ i d2.2.2.1).1, (n5 _ i d2.2.1).1, (n4 _ i d2.1).1, r3 i hi, (n2 _ i l2.2.1).1, (n1 _ i l2.1).1]
  · rw [(n8 _ i d3.2.2.2).1, (n7 _ i d3.2.2.1).1, (n6 _ i d3.2.1).1, (n5 _ i d3.1).1, r4 i hi, (n3 _ i l3.2.2.1).1, (n2 _ i l3.2.1).1, (n1 _ i l3.1).1]
  · rw [(n8 _ i d4.2.2).1, (n7 _ i d4.2.1).1, (n6 _ i d4.1).1, r5 i hi, (n4 _ i l4.2.2.2.1).1, (n3 _ i l4.2.2.1).1, (n2 _ i l4.2.1).1, (n1 _ i l4.1).1]
  · rw [(n8 _ i d5.2).1, (n7 _ i d5.1).1, r6 i hi, (n5 _ i l5.2.2.2.2.1).1, (n4 _ i l5.2.2.2.1).1, (n3 _ i l5.2.2.1).1, (n2 _ i l5.2.1).1, (n1 _ i l5.1).1]
  · rw [(n8 _ i d6).1, r7 i hi, (n6 _ i l6.2.2.2.2.2.1).1, (n5 _ i l6.2.2.2.2.1).1, (n4 _ i l6.2.2.2.1).1, (n3 _ i l6.2.2.1).1, (n2 _ i l6.2.1).1, (n1 _ i l6.1).1]
  · rw [r8 i hi, (n7 _ i l7.2.2.2.2.2.2.1).2, (n6 _ i l7.2.2.2.2.2.1).2, (n5 _ i l7.2.2.2.2.1).2, (n4 _ i l7.2.2.2.1).2, (n3 _ i l7.2.2.1).2, (n2 _ i l7.2.1).2, (n1 _ i l7.1).2]

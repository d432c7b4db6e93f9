/-! the reference's walk: values come back -/
theorem c78 {s o : Nat} (hs : s < 10) (ho : o < 640) : ∀ (d k m : Nat) (h : hp), k + d = 16 → d < m → WF h → ∃ h', fX14_comeBack_l78 m 165 (iN s) (iN o) (iN k) h = some h' ∧ FS (fun x j => x = 169 ∧ 16 * s + k ≤ j ∧ j < 16 * s + 16) h h' ∧ ∀ i, k ≤ i → i < 16 → hI h' 169 (16 * s + i) = hI h 180 (16 * o + i) := by
  intro d
  induction d with
  | zero =>
    intro k m h hk hm w
    obtain ⟨m, rfl⟩ : ∃ q, m = q + 1 := ⟨m - 1, by omega⟩
    refine ⟨h, ?_, FS.rf _ h, fun i a b => by omega⟩
    rw [fX14_comeBack_l78]
    exact if_pos ((i_le (a := 16) (by decide) (by omega)).mpr (by show 16 ≤ k; omega))
  | succ d ih =>
    intro k m h hk hm w
    obtain ⟨m, rfl⟩ : ∃ q, m = q + 1 := ⟨m - 1, by omega⟩
    have w1 : WF (pI h 169 (16 * s + k) (hI h 180 (16 * o + k))) := w
    obtain ⟨h', e', f', r'⟩ := ih (k + 1) m _ (by omega) (by omega) w1
    have f0 : FS (fun x j => x = 169 ∧ 16 * s + k ≤ j ∧ j < 16 * s + 16) h (pI h 169 (16 * s + k) (hI h 180 (16 * o + k))) := FS.pI ⟨rfl, by omega, by omega⟩
    refine ⟨h', ?_, f0.tr (f'.up fun x j q => ⟨q.1, by omega, by omega⟩), fun i a b => ?_⟩
    · rw [fX14_comeBack_l78, if_neg (show ¬ (16 : Int32) ≤ iN k from fun q => by have := (i_le (a := 16) (by decide) (by omega)).mp q; omega), MR3 w, Option.bind_some, MR28 w, Option.bind_some, i_mullit, i_add, ML180 w (by omega), Option.bind_some, i_mullit, i_add, MS169 w (by omega), Option.bind_some, i_succ, e']
    · by_cases c : i = k
      · subst c
        rw [(f'.2.2.2.2 169 (16 * s + i) (by omega)).1, hI_pI, if_pos ⟨rfl, rfl⟩]
      · rw [r' i (by omega) b, hI_pI, if_neg (by omega)]
abbrev Pvl (x k : Nat) : Prop := ((x = 166 ∨ x = 167 ∨ x = 168 ∨ x = 170) ∧ k < 8) ∨ (x = 169 ∧ k < 128)
theorem cb_l {vs : Nat → vT} {lv : Nat} (hl : lv < 80) : ∀ (d v m : Nat) (h : hp), v + d = 8 → d < m → WF h → hI h 165 30 = iN lv → (∀ u, u < 8 → OV h (8 * lv + u) (vs u)) → (∀ u, u < v → MV h u (vs u)) → ∃ h', fX14_comeBack_l12 m 165 (iN v) h = some h' ∧ FS Pvl h h' ∧ ∀ u, u < 8 → MV h' u (vs u) := by
  intro d
  induction d with
  | zero =>
    intro v m h hv hm w a M O
    obtain ⟨m, rfl⟩ : ∃ q, m = q + 1 := ⟨m - 1, by omega⟩
    refine ⟨h, ?_, FS.rf _ h, fun u hu => O u (by omega)⟩
    rw [fX14_comeBack_l12]
    exact if_pos ((i_le (a := 8) (by decide) (by omega)).mpr (by show 8 ≤ v; omega))
  | succ d ih =>
    intro v m h hv hm w a M O
    obtain ⟨m, rfl⟩ : ∃ q, m = q + 1 := ⟨m - 1, by omega⟩
    have ho : 8 * lv + v < 640 := by omega
    have w1 : WF (pI h 166 v (hI h 177 (8 * lv + v))) := w
    have w2 : WF (pI (pI h 166 v (hI h 177 (8 * lv + v))) 167 v (hI h 178 (8 * lv + v))) := w
    have w3 : WF (pI (pI (pI h 166 v (hI h 177 (8 * lv + v))) 167 v (hI h 178 (8 * lv + v))) 168 v (hI h 179 (8 * lv + v))) := w
    have w4 : WF (pF (pI (pI (pI h 166 v (hI h 177 (8 * lv + v))) 167 v (hI h 178 (8 * lv + v))) 168 v (hI h 179 (8 * lv + v))) 170 v (hF h 181 (8 * lv + v))) := w
    obtain ⟨h5, e5, f5, r5⟩ := c78 (s := v) (o := 8 * lv + v) (by omega) ho 16 0 FU (pF (pI (pI (pI h 166 v (hI h 177 (8 * lv + v))) 167 v (hI h 178 (8 * lv + v))) 168 v (hI h 179 (8 * lv + v))) 170 v (hF h 181 (8 * lv + v))) rfl (FU_pos _ (by decide)) w4
    have f04 : FS (sP v) h (pF (pI (pI (pI h 166 v (hI h 177 (8 * lv + v))) 167 v (hI h 178 (8 * lv + v))) 168 v (hI h 179 (8 * lv + v))) 170 v (hF h 181 (8 * lv + v))) := (((FS.pI (.inl ⟨by omega, rfl⟩)).tr (FS.pI (.inl ⟨by omega, rfl⟩))).tr (FS.pI (.inl ⟨by omega, rfl⟩))).tr (FS.pF (.inl ⟨by omega, rfl⟩))
    have f05 : FS (sP v) h h5 := f04.tr (f5.up fun x j q => .inr ⟨q.1, by omega, q.2.2⟩)
    have w5 := f05.wf w
    have n5 : ∀ x k, x ≠ 169 → hI h5 x k = hI (pF (pI (pI (pI h 166 v (hI h 177 (8 * lv + v))) 167 v (hI h 178 (8 * lv + v))) 168 v (hI h 179 (8 * lv + v))) 170 v (hF h 181 (8 * lv + v))) x k ∧ hF h5 x k = hF (pF (pI (pI (pI h 166 v (hI h 177 (8 * lv + v))) 167 v (hI h 178 (8 * lv + v))) 168 v (hI h 179 (8 * lv + v))) 170 v (hF h 181 (8 * lv + v))) x k := fun x k q => f5.2.2.2.2 x k (fun z => q z.1)
    have Ov : MV h5 v (vs v) := by
      obtain ⟨m1, m2, m3, m4, m5⟩ := M v (by omega)
      refine ⟨?_, m2, fun q => ?_, fun q => ?_, fun q => ?_⟩
      · rw [(n5 166 _ (by decide)).1, hI_pF, hI_pI, if_neg (by omega), hI_pI, if_neg (by omega), hI_pI, if_pos ⟨rfl, rfl⟩]; exact m1
      · rw [(n5 167 _ (by decide)).1, hI_pF, hI_pI, if_neg (by omega), hI_pI, if_pos ⟨rfl, rfl⟩]; exact m3 q
      · rw [(n5 170 _ (by decide)).2, hF_pF, if_pos ⟨rfl, rfl⟩]; exact m4 q
      · obtain ⟨y1, y2, y3⟩ := m5 q
        refine ⟨by rw [(n5 168 _ (by decide)).1, hI_pF, hI_pI, if_pos ⟨rfl, rfl⟩]; exact y1, y2, fun k hk => ?_⟩
        rw [r5 k (Nat.zero_le _) (by omega), hI_pF, hI_pI, if_neg (by omega), hI_pI, if_neg (by omega), hI_pI, if_neg (by omega)]
        exact y3 k hk
    have M5 : ∀ u, u < 8 → OV h5 (8 * lv + u) (vs u) := fun u hu => (M u hu).fs f05 (fun x k q z => by unfold oP at q; unfold sP at z; omega)
    have a5 : hI h5 165 30 = iN lv := by rw [(f05.2.2.2.2 165 30 (by unfold sP; omega)).1]; exact a
    obtain ⟨h6, e6, f6, r6⟩ := ih (v + 1) m h5 (by omega) (by omega) w5 a5 M5 (fun u hu => by
      by_cases c : u = v
      · rw [c]; exact Ov
      · exact (O u (by omega)).fr f05 (fun x k q z => by unfold sP at q z; omega))
    refine ⟨h6, ?_, (f05.up fun x k q => by unfold sP at q; unfold Pvl; omega).tr f6, r6⟩
    have l178 : alI (pI h 166 v (hI h 177 (8 * lv + v))) 178 (iN (8 * lv + v)) = some (hI h 178 (8 * lv + v)) := by rw [ML178 w1 ho, hI_pI, if_neg (by omega)]
    have l179 : alI (pI (pI h 166 v (hI h 177 (8 * lv + v))) 167 v (hI h 178 (8 * lv + v))) 179 (iN (8 * lv + v)) = some (hI h 179 (8 * lv + v)) := by rw [ML179 w2 ho, hI_pI, if_neg (by omega), hI_pI, if_neg (by omega)]
    have l181 : alF (pI (pI (pI h 166 v (hI h 177 (8 * lv + v))) 167 v (hI h 178 (8 * lv + v))) 168 v (hI h 179 (8 * lv + v))) 181 (iN (8 * lv + v)) = some (hF h 181 (8 * lv + v)) := by rw [ML181 w3 ho]; rfl
    rw [fX14_comeBack_l12, if_neg (show ¬ (8 : Int32) ≤ iN v from fun q => by have := (i_le (a := 8) (by decide) (by omega)).mp q; omega), gM w, Option.bind_some, a, MR0 w, Option.bind_some, MR25 w, Option.bind_some, i_mullit, i_add, ML177 w ho, Option.bind_some, MS166 w (by omega), Option.bind_some, MR1 w1, Option.bind_some, MR26 w1, Option.bind_some, l178, Option.bind_some, MS167 w1 (by omega), Option.bind_some, MR2 w2, Option.bind_some, MR27 w2, Option.bind_some, l179, Option.bind_some, MS168 w2 (by omega), Option.bind_some, MR4 w3, Option.bind_some, MR29 w3, Option.bind_some, l181, Option.bind_some, MS170 w3 (by omega), Option.bind_some]
    rw [show fX14_comeBack_l78 FU 165 (iN v) (iN (8 * lv + v)) 0 _ = _ from e5, Option.bind_some, i_succ, e6]

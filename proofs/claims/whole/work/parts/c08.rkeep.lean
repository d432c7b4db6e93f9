/-! the reference's walk: values kept, values come back -/
def OV (h : hp) (o : Nat) (V : vT) : Prop := hI h 177 o = iN V.1 ∧ V.1 ≤ 4 ∧ (V.1 = 1 → hI h 178 o = V.2.1) ∧ (V.1 = 2 → hF h 181 o = V.2.2.1) ∧ (3 ≤ V.1 → hI h 179 o = iN V.2.2.2.1 ∧ V.2.2.2.1 ≤ 16 ∧ ∀ k, k < V.2.2.2.1 → hI h 180 (16 * o + k) = V.2.2.2.2 k)
abbrev oP (o x k : Nat) : Prop := ((x = 177 ∨ x = 178 ∨ x = 179 ∨ x = 181) ∧ k = o) ∨ (x = 180 ∧ 16 * o ≤ k ∧ k < 16 * o + 16)
theorem OV.fs {P : Nat → Nat → Prop} {h h' : hp} {o : Nat} {V : vT} (H : OV h o V) (f : FS P h h') (hP : ∀ x k, oP o x k → ¬ P x k) : OV h' o V := by
  obtain ⟨h1, h2, h3, h4, h5⟩ := H
  have e : ∀ x, (x = 177 ∨ x = 178 ∨ x = 179 ∨ x = 181) → hI h' x o = hI h x o ∧ hF h' x o = hF h x o := fun x q => f.2.2.2.2 x o (hP x o (.inl ⟨q, rfl⟩))
  refine ⟨by rw [(e 177 (by simp)).1]; exact h1, h2, by rw [(e 178 (by simp)).1]; exact h3, by rw [(e 181 (by simp)).2]; exact h4, fun hv => ?_⟩
  obtain ⟨a, b, c⟩ := h5 hv
  exact ⟨by rw [(e 179 (by simp)).1]; exact a, b, fun k hk => by rw [(f.2.2.2.2 180 (16 * o + k) (hP _ _ (.inr ⟨rfl, by omega, by omega⟩))).1]; exact c k hk⟩
theorem k68 {s o : Nat} (hs : s < 10) (ho : o < 640) : ∀ (d k m : Nat) (h : hp), k + d = 16 → d < m → WF h → ∃ h', fX14_keeps_l68 m 165 (iN s) (iN o) (iN k) h = some h' ∧ FS (fun x j => x = 180 ∧ 16 * o + k ≤ j ∧ j < 16 * o + 16) h h' ∧ ∀ i, k ≤ i → i < 16 → hI h' 180 (16 * o + i) = hI h 169 (16 * s + i) := by
  intro d
  induction d with
  | zero =>
    intro k m h hk hm w
    obtain ⟨m, rfl⟩ : ∃ q, m = q + 1 := ⟨m - 1, by omega⟩
    refine ⟨h, ?_, FS.rf _ h, fun i a b => by omega⟩
    rw [fX14_keeps_l68]
    exact if_pos ((i_le (a := 16) (by decide) (by omega)).mpr (by show 16 ≤ k; omega))
  | succ d ih =>
    intro k m h hk hm w
    obtain ⟨m, rfl⟩ : ∃ q, m = q + 1 := ⟨m - 1, by omega⟩
    have w1 : WF (pI h 180 (16 * o + k) (hI h 169 (16 * s + k))) := w
    obtain ⟨h', e', f', r'⟩ := ih (k + 1) m _ (by omega) (by omega) w1
    have f0 : FS (fun x j => x = 180 ∧ 16 * o + k ≤ j ∧ j < 16 * o + 16) h (pI h 180 (16 * o + k) (hI h 169 (16 * s + k))) := FS.pI ⟨rfl, by omega, by omega⟩
    refine ⟨h', ?_, f0.tr (f'.up fun x j q => ⟨q.1, by omega, by omega⟩), fun i a b => ?_⟩
    · rw [fX14_keeps_l68, if_neg (show ¬ (16 : Int32) ≤ iN k from fun q => by have := (i_le (a := 16) (by decide) (by omega)).mp q; omega), MR28 w, Option.bind_some, MR3 w, Option.bind_some, i_mullit, i_add, ML169 w (by omega), Option.bind_some, i_mullit, i_add, MS180 w (by omega), Option.bind_some, i_succ, e']
    · by_cases c : i = k
      · subst c
        rw [(f'.2.2.2.2 180 (16 * o + i) (by omega)).1, hI_pI, if_pos ⟨rfl, rfl⟩]
      · rw [r' i (by omega) b, hI_pI, if_neg (by omega)]
abbrev Pol (lv x k : Nat) : Prop := ((x = 177 ∨ x = 178 ∨ x = 179 ∨ x = 181) ∧ 8 * lv ≤ k ∧ k < 8 * lv + 8) ∨ (x = 180 ∧ 128 * lv ≤ k ∧ k < 128 * lv + 128)
theorem kp_l {vs : Nat → vT} {lv : Nat} (hl : lv < 80) : ∀ (d v m : Nat) (h : hp), v + d = 8 → d < m → WF h → hI h 165 30 = iN lv → (∀ u, u < 8 → MV h u (vs u)) → (∀ u, u < v → OV h (8 * lv + u) (vs u)) → ∃ h', fX14_keeps_l2 m 165 (iN v) h = some h' ∧ FS (Pol lv) h h' ∧ ∀ u, u < 8 → OV h' (8 * lv + u) (vs u) := by
  intro d
  induction d with
  | zero =>
    intro v m h hv hm w a M O
    obtain ⟨m, rfl⟩ : ∃ q, m = q + 1 := ⟨m - 1, by omega⟩
    refine ⟨h, ?_, FS.rf _ h, fun u hu => O u (by omega)⟩
    rw [fX14_keeps_l2]
    exact if_pos ((i_le (a := 8) (by decide) (by omega)).mpr (by show 8 ≤ v; omega))
  | succ d ih =>
    intro v m h hv hm w a M O
    obtain ⟨m, rfl⟩ : ∃ q, m = q + 1 := ⟨m - 1, by omega⟩
    have ho : 8 * lv + v < 640 := by omega
    have w1 : WF (pI h 177 (8 * lv + v) (hI h 166 v)) := w
    have w2 : WF (pI (pI h 177 (8 * lv + v) (hI h 166 v)) 178 (8 * lv + v) (hI h 167 v)) := w
    have w3 : WF (pI (pI (pI h 177 (8 * lv + v) (hI h 166 v)) 178 (8 * lv + v) (hI h 167 v)) 179 (8 * lv + v) (hI h 168 v)) := w
    have w4 : WF (pF (pI (pI (pI h 177 (8 * lv + v) (hI h 166 v)) 178 (8 * lv + v) (hI h 167 v)) 179 (8 * lv + v) (hI h 168 v)) 181 (8 * lv + v) (hF h 170 v)) := w
    obtain ⟨h5, e5, f5, r5⟩ := k68 (s := v) (o := 8 * lv + v) (by omega) ho 16 0 FU (pF (pI (pI (pI h 177 (8 * lv + v) (hI h 166 v)) 178 (8 * lv + v) (hI h 167 v)) 179 (8 * lv + v) (hI h 168 v)) 181 (8 * lv + v) (hF h 170 v)) rfl (FU_pos _ (by decide)) w4
    have f04 : FS (oP (8 * lv + v)) h (pF (pI (pI (pI h 177 (8 * lv + v) (hI h 166 v)) 178 (8 * lv + v) (hI h 167 v)) 179 (8 * lv + v) (hI h 168 v)) 181 (8 * lv + v) (hF h 170 v)) := (((FS.pI (.inl ⟨by omega, rfl⟩)).tr (FS.pI (.inl ⟨by omega, rfl⟩))).tr (FS.pI (.inl ⟨by omega, rfl⟩))).tr (FS.pF (.inl ⟨by omega, rfl⟩))
    have f05 : FS (oP (8 * lv + v)) h h5 := f04.tr (f5.up fun x j q => .inr ⟨q.1, by omega, q.2.2⟩)
    have w5 := f05.wf w
    have n5 : ∀ x k, x ≠ 180 → hI h5 x k = hI (pF (pI (pI (pI h 177 (8 * lv + v) (hI h 166 v)) 178 (8 * lv + v) (hI h 167 v)) 179 (8 * lv + v) (hI h 168 v)) 181 (8 * lv + v) (hF h 170 v)) x k ∧ hF h5 x k = hF (pF (pI (pI (pI h 177 (8 * lv + v) (hI h 166 v)) 178 (8 * lv + v) (hI h 167 v)) 179 (8 * lv + v) (hI h 168 v)) 181 (8 * lv + v) (hF h 170 v)) x k := fun x k q => f5.2.2.2.2 x k (fun z => q z.1)
    have Ov : OV h5 (8 * lv + v) (vs v) := by
      obtain ⟨m1, m2, m3, m4, m5⟩ := M v (by omega)
      refine ⟨?_, m2, fun q => ?_, fun q => ?_, fun q => ?_⟩
      · rw [(n5 177 _ (by decide)).1, hI_pF, hI_pI, if_neg (by omega), hI_pI, if_neg (by omega), hI_pI, if_pos ⟨rfl, rfl⟩]; exact m1
      · rw [(n5 178 _ (by decide)).1, hI_pF, hI_pI, if_neg (by omega), hI_pI, if_pos ⟨rfl, rfl⟩]; exact m3 q
      · rw [(n5 181 _ (by decide)).2, hF_pF, if_pos ⟨rfl, rfl⟩]; exact m4 q
      · obtain ⟨y1, y2, y3⟩ := m5 q
        refine ⟨by rw [(n5 179 _ (by decide)).1, hI_pF, hI_pI, if_pos ⟨rfl, rfl⟩]; exact y1, y2, fun k hk => ?_⟩
        rw [r5 k (Nat.zero_le _) (by omega), hI_pF, hI_pI, if_neg (by omega), hI_pI, if_neg (by omega), hI_pI, if_neg (by omega)]
        exact y3 k hk
    have M5 : ∀ u, u < 8 → MV h5 u (vs u) := fun u hu => (M u hu).fr f05 (fun x k q z => by unfold sP at q; unfold oP at z; omega)
    have a5 : hI h5 165 30 = iN lv := by rw [(f05.2.2.2.2 165 30 (by unfold oP; omega)).1]; exact a
    obtain ⟨h6, e6, f6, r6⟩ := ih (v + 1) m h5 (by omega) (by omega) w5 a5 M5 (fun u hu => by
      by_cases c : u = v
      · rw [c]; exact Ov
      · exact (O u (by omega)).fs f05 (fun x k q z => by unfold oP at q z; omega))
    refine ⟨h6, ?_, (f05.up fun x k q => by unfold oP at q; unfold Pol; omega).tr f6, r6⟩
    have l167 : alI (pI h 177 (8 * lv + v) (hI h 166 v)) 167 (iN v) = some (hI h 167 v) := by rw [ML167 w1 (by omega), hI_pI, if_neg (by omega)]
    have l168 : alI (pI (pI h 177 (8 * lv + v) (hI h 166 v)) 178 (8 * lv + v) (hI h 167 v)) 168 (iN v) = some (hI h 168 v) := by rw [ML168 w2 (by omega), hI_pI, if_neg (by omega), hI_pI, if_neg (by omega)]
    have l170 : alF (pI (pI (pI h 177 (8 * lv + v) (hI h 166 v)) 178 (8 * lv + v) (hI h 167 v)) 179 (8 * lv + v) (hI h 168 v)) 170 (iN v) = some (hF h 170 v) := by rw [ML170 w3 (by omega)]; rfl
    rw [fX14_keeps_l2, if_neg (show ¬ (8 : Int32) ≤ iN v from fun q => by have := (i_le (a := 8) (by decide) (by omega)).mp q; omega), gM w, Option.bind_some, a, MR25 w, Option.bind_some, MR0 w, Option.bind_some, ML166 w (by omega), Option.bind_some, i_mullit, i_add, MS177 w ho, Option.bind_some, MR26 w1, Option.bind_some, MR1 w1, Option.bind_some, l167, Option.bind_some, MS178 w1 ho, Option.bind_some, MR27 w2, Option.bind_some, MR2 w2, Option.bind_some, l168, Option.bind_some, MS179 w2 ho, Option.bind_some, MR29 w3, Option.bind_some, MR4 w3, Option.bind_some, l170, Option.bind_some, MS181 w3 ho, Option.bind_some]
    have e5' := e5
    rw [show fX14_keeps_l68 FU 165 (iN v) (iN (8 * lv + v)) 0 _ = _ from e5', Option.bind_some, i_succ, e6]

/-! the reference's walk: keeps, comeBack as wholes -/
theorem keeps_e {h : hp} {vs : Nat → vT} {lv : Nat} (w : WF h) (hl : lv < 80) (a : hI h 165 30 = iN lv) (M : ∀ u, u < 8 → MV h u (vs u)) : ∃ h', fX14_keeps 165 h = some h' ∧ FS (fun x k => Pol lv x k ∨ (x = 165 ∧ k = 30)) h h' ∧ hI h' 165 30 = iN (lv + 1) ∧ ∀ u, u < 8 → OV h' (8 * lv + u) (vs u) := by
  obtain ⟨h1, e1, f1, r1⟩ := kp_l hl 8 0 FU h rfl (FU_pos _ (by decide)) w a M (fun u hu => absurd hu (Nat.not_lt_zero _))
  have w1 := f1.wf w
  have a1 : hI h1 165 30 = iN lv := by rw [(f1.2.2.2.2 165 30 (by unfold Pol; omega)).1]; exact a
  refine ⟨pI h1 165 30 (iN (lv + 1)), ?_, (f1.up fun _ _ q => .inl q).tr (FS.pI (.inr ⟨rfl, rfl⟩)), by rw [hI_pI, if_pos ⟨rfl, rfl⟩], fun u hu => (r1 u hu).fs (P := fun x _ => x = 165) (FS.pI rfl) (fun x k q z => by unfold oP at q; omega)⟩
  unfold fX14_keeps
  rw [show fX14_keeps_l2 FU 165 0 h = _ from e1, Option.bind_some, gM w1, Option.bind_some, a1, i_succ, pM w1, Option.bind_some]
theorem back_m {h : hp} {vs : Nat → vT} {lv : Nat} (w : WF h) (hl : lv < 80) (a : hI h 165 30 = iN (lv + 1)) (M : ∀ u, u < 8 → OV h (8 * lv + u) (vs u)) : ∃ h', fX14_comeBack 165 h = some h' ∧ FS (fun x k => Pvl x k ∨ (x = 165 ∧ k = 30)) h h' ∧ hI h' 165 30 = iN lv ∧ ∀ u, u < 8 → MV h' u (vs u) := by
  have w1 : WF (pI h 165 30 (iN lv)) := w
  obtain ⟨h1, e1, f1, r1⟩ := cb_l hl 8 0 FU (pI h 165 30 (iN lv)) rfl (FU_pos _ (by decide)) w1 (by rw [hI_pI, if_pos ⟨rfl, rfl⟩]) (fun u hu => (M u hu).fs (P := fun x _ => x = 165) (FS.pI rfl) (fun x k q z => by unfold oP at q; omega)) (fun u hu => absurd hu (Nat.not_lt_zero _))
  refine ⟨h1, ?_, (FS.pI (.inr ⟨rfl, rfl⟩)).tr (f1.up fun _ _ q => .inl q), by rw [(f1.2.2.2.2 165 30 (by unfold Pvl; omega)).1, hI_pI, if_pos ⟨rfl, rfl⟩], r1⟩
  unfold fX14_comeBack
  rw [gM w, Option.bind_some, a, show (1 : Int32) = iN 1 from rfl, i_sub (by omega), Nat.add_sub_cancel, pM w, Option.bind_some, show fX14_comeBack_l12 FU 165 0 (pI h 165 30 (iN lv)) = _ from e1, Option.bind_some]

/-! the reference's walk: a value put -/
def puV (lim c : Nat) : List Int32 → List Int32 → Option (List Int32)
  | [], out => some out
  | x :: xs, out =>
    match pu lim (escW c x) out with
    | none => none
    | some out' => puV lim c xs out'
theorem putV_pu (lim : Nat) (ρ : Rh) (ln : Nat) : ∀ (xs : List Int32) (σ : St), putV lim ρ ln xs σ = match puV lim σ.2.1 xs σ.2.2.1 with | some out => .inl (σ.1, σ.2.1, out, σ.2.2.2) | none => .inr (σ.2.2.2, lks ρ ln 5) := by
  intro xs
  induction xs with
  | nil => intro σ; rfl
  | cons x xs ih =>
    intro σ
    show bO (putL lim ρ ln (escW σ.2.1 x) σ) (putV lim ρ ln xs) = match (match pu lim (escW σ.2.1 x) σ.2.2.1 with | none => none | some out' => puV lim σ.2.1 xs out') with | some out => .inl (σ.1, σ.2.1, out, σ.2.2.2) | none => .inr (σ.2.2.2, lks ρ ln 5)
    rw [putL_pu]
    cases pu lim (escW σ.2.1 x) σ.2.2.1 with
    | none => rfl
    | some out => exact ih (σ.1, σ.2.1, out, σ.2.2.2)
theorem rv_l {x1 x2 x3 x4 : Int32} {L : List Int32} {lim st dp ol ctx : Nat} {lk fl : Bool} : ∀ (d k m : Nat) (h : hp) (out : List Int32), WF h → ML h L → RN h lim st dp ol ctx out lk fl → k + d = L.length → d < m → ∃ h' r, fX14_value_l93 m 165 x1 x2 x3 x4 1 (iN k) h = some (r, h') ∧ FS Ppt h h' ∧ PQ h' r lim st dp ol ctx lk fl (puV lim ctx (L.drop k) out) := by
  intro d
  induction d with
  | zero =>
    intro k m h out w M N hk hm
    obtain ⟨m, rfl⟩ : ∃ q, m = q + 1 := ⟨m - 1, by omega⟩
    have l64 := M.2.1
    refine ⟨h, 1, ?_, FS.rf _ h, ?_⟩
    · rw [fX14_value_l93, gM w, Option.bind_some, M.1, if_pos (by rw [i_le (by omega) (by omega)]; omega)]
    · rw [List.drop_of_length_le (by omega)]; exact ⟨rfl, N⟩
  | succ d ih =>
    intro k m h out w M N hk hm
    obtain ⟨m, rfl⟩ : ∃ q, m = q + 1 := ⟨m - 1, by omega⟩
    have l64 := M.2.1
    have ed : L.drop k = L.getD k 0 :: L.drop (k + 1) := by rw [List.drop_eq_getElem_cons (show k < L.length by omega), List.getD_eq_getElem?_getD, List.getElem?_eq_getElem (show k < L.length by omega)]; rfl
    obtain ⟨h1, r, e1, f1, q1⟩ := puE_e w N (L.getD k 0)
    have w1 := f1.wf w
    have M1 : ML h1 L := ⟨by rw [(f1.2.2.2.2 165 6 (by unfold Ppt; omega)).1]; exact M.1, M.2.1, fun i hi => by rw [(f1.2.2.2.2 171 i (by unfold Ppt; omega)).1]; exact M.2.2 i hi⟩
    have st1 : fX14_value_l93 (m + 1) 165 x1 x2 x3 x4 1 (iN k) h = fX14_value_l93 m 165 x1 x2 x3 x4 r (iN (k + 1)) h1 := by
      rw [fX14_value_l93, gM w, Option.bind_some, M.1, if_neg (by rw [i_le (by omega) (by omega)]; omega), if_neg (by decide), MR5 w, Option.bind_some, ML171 w (by omega), Option.bind_some, M.2.2 k (by omega), ckM w, Option.bind_some, e1, bd2_s, i_succ]
    have ev : puV lim ctx (L.drop k) out = match pu lim (escW ctx (L.getD k 0)) out with | none => none | some out' => puV lim ctx (L.drop (k + 1)) out' := by rw [ed]; rfl
    rw [st1, ev]
    cases hp1 : pu lim (escW ctx (L.getD k 0)) out with
    | none =>
      rw [hp1] at q1
      obtain ⟨r0, out', N'⟩ := q1
      obtain ⟨m, rfl⟩ : ∃ q, m = q + 1 := ⟨m - 1, by omega⟩
      refine ⟨h1, 0, ?_, f1, rfl, out', N'⟩
      rw [r0, fX14_value_l93, gM w1, Option.bind_some]
      by_cases z : hI h1 165 6 ≤ iN (k + 1)
      · rw [if_pos z]
      · rw [if_neg z, if_pos rfl]
    | some out' =>
      rw [hp1] at q1
      obtain ⟨r1, N'⟩ := q1
      obtain ⟨h2, r2, e2, f2, q2⟩ := ih (k + 1) m h1 out' w1 M1 N' (by omega) (by omega)
      exact ⟨h2, r2, by rw [r1, e2], f1.tr f2, q2⟩

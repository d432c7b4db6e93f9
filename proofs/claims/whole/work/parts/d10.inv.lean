/-! the law's invariant; a step for each call -/
set_option maxHeartbeats 400000
def LI (h : hp) (own : Nat → Nat) : Prop := (WF h ∧ ZH h) ∧ (JT h own ∧ JS h own ∧ JK h own) ∧ Jv h ∧ Jt h ∧ Js h ∧ Jb h ∧ Jp h ∧ Jw h ∧ Jr h
/-- one call of both: the same answer, what holds then, the room -/
def STp {α : Type} (F13 F14 : hp → Option (α × hp)) (h : hp) (own : Nat → Nat) : Prop := ∃ a h1 h2 own', F13 h = some (a, h1) ∧ F14 h1 = some (a, h2) ∧ ckT h1 165 13 = some () ∧ LI h2 own' ∧ hN h2 + 2 * Zf h2 ≤ hN h + 2 * Zf h + 1000 ∧ hL h2 + 21 * Zf h2 ≤ hL h + 21 * Zf h + 9900
theorem JX.fg {P : Nat → Nat → Prop} {h h' : hp} {own own' : Nat → Nat} (w : WF h) (H : JX h own) (f : FG P h h') (lo : ∀ x k, P x k → x < 134 ∨ (165 ≤ x ∧ x < 204)) (ho : ∀ x, x < 64 + hN h → own' x = own x) : JX h' own' := by
  have hn := w.2.2
  have s : ∀ {a s : Nat}, SLo h own a s → SLo h' own' a s := fun {a s} ⟨⟨v1, v2, v3, v4⟩, a1, a2, a3, a4, a5, a6⟩ => by
    have e4 : hR h' a 4 = hR h a 4 := (f.2.2.2 a 4 a4 (fun q => by have := lo _ _ q; omega)).2.2
    have f1 := f.1
    unfold SLo VO
    rw [e4, f.2.2.1 a a4, f.2.2.1 _ a6, ho a a4, ho _ a6]
    exact ⟨⟨v1, v2, v3, v4⟩, a1, a2, a3, by omega, a5, by omega⟩
  refine ⟨fun i hi => ?_, fun l hl => ?_⟩
  · rw [(f.2.2.2 145 i (by omega) (fun q => by have := lo _ _ q; omega)).2.2]; exact (H.1 i hi).imp id s
  · rw [(f.2.2.2 136 l (by omega) (fun q => by have := lo _ _ q; omega)).2.2]; exact (H.2 l hl).imp id s
theorem LI.st {P : Nat → Nat → Prop} {h h2 : hp} {own own' : Nat → Nat} (H : LI h own) (f : FG P h h2) (w2 : WF h2) (z2 : ZH h2) (ho : ∀ x, x < 64 + hN h → own' x = own x) (lo : ∀ x k, P x k → x < 134 ∨ (165 ≤ x ∧ x < 204)) (cT : (∀ x k, P x k → x ≠ 67 ∧ x ≠ 173 ∧ x ≠ 174) ∨ JT h2 own') (cK : (∀ x k, PIm x k → ¬ P x k) ∨ JK h2 own') (cv : (∀ x k, Pv x k → ¬ P x k) ∨ Jv h2) (ct : (∀ x k, Pt x k → ¬ P x k) ∨ Jt h2) (cs : (∀ x k, Ps x k → ¬ P x k) ∨ Js h2) (cb : (∀ x k, Pb x k → ¬ P x k) ∨ Jb h2) (cp : (∀ x k, Pp x k → ¬ P x k) ∨ Jp h2) (cw : (∀ x k, Pw x k → ¬ P x k) ∨ Jw h2) (cr : (∀ x k, Pr x k → ¬ P x k) ∨ Jr h2) : LI h2 own' ∧ Zf h2 = Zf h := by
  obtain ⟨⟨w, z⟩, ⟨T, ⟨X, R, k0⟩, K⟩, jv, jt, js, jb, jp, jw, jr⟩ := H
  have hn := w.2.2
  refine ⟨⟨⟨w2, z2⟩, ⟨?_, ⟨X.fg w f lo ho, R.fg w f (fun x k a b q => by have := lo _ _ q; omega), ?_⟩, ?_⟩, ?_, ?_, ?_, ?_, ?_, ?_, ?_⟩, Zf_eq (fun k => (f.2.2.2 145 k (by omega) (fun q => by have := lo _ _ q; omega)).2.2) (fun k => (f.2.2.2 136 k (by omega) (fun q => by have := lo _ _ q; omega)).2.2)⟩
  · rcases cT with c | c
    · exact T.fg w f (fun x k x1 _ _ q => by have := lo _ _ q; omega) (fun x k q y => by have := c _ _ y; omega) ho
    · exact c
  · rw [(f.2.2.2 134 10 (by omega) (fun q => by have := lo _ _ q; omega)).1]; exact k0
  · rcases cK with c | c
    · exact K.fg w f c (fun x k x1 _ _ q => by have := lo _ _ q; omega) ho
    · exact c
  · rcases cv with c | c
    · exact jv.fg w f c
    · exact c
  · rcases ct with c | c
    · exact jt.fg w f c
    · exact c
  · rcases cs with c | c
    · exact js.fg w f c
    · exact c
  · rcases cb with c | c
    · exact jb.fg w f c
    · exact c
  · rcases cp with c | c
    · exact jp.fg w f c
    · exact c
  · rcases cw with c | c
    · exact jw.fg w f c
    · exact c
  · rcases cr with c | c
    · exact jr.fg w f c
    · exact c
theorem ck_eq {α : Type} {a x : α} {h1 h2 : hp} (e : some (x, h1) = some (a, h2)) (w : WF h2) : ckT h1 165 13 = some () := by
  have : h1 = h2 := congrArg Prod.snd (Option.some.inj e)
  rw [this]; exact ckM w
theorem ck_gR {α : Type} {h : hp} {k : Nat} {f : Nat → Option α} {r : α} (e : (gfR h 165 13 k).bind f = some r) : ckT h 165 13 = some () := by
  unfold gfR at e
  unfold ckT
  by_cases c : (hT h 165).1 = 13
  · rw [if_pos c]
  · rw [if_neg c] at e; cases e
theorem ck_gI {α : Type} {h : hp} {k : Nat} {f : Int32 → Option α} {r : α} (e : (gfI h 165 13 k).bind f = some r) : ckT h 165 13 = some () := by
  unfold gfI at e
  unfold ckT
  by_cases c : (hT h 165).1 = 13
  · rw [if_pos c]
  · rw [if_neg c] at e; cases e
theorem ck_ck {α : Type} {h : hp} {f : Unit → Option α} {r : α} (e : (ckT h 165 13).bind f = some r) : ckT h 165 13 = some () := by
  cases c : ckT h 165 13 with
  | none => rw [c] at e; cases e
  | some u => rfl
/-- a call told by C2 -/
theorem LI.c2 {α : Type} {P : Nat → Nat → Prop} {J : hp → Prop} {F13 F14 : hp → Option (α × hp)} {h : hp} {own : Nat → Nat} (H : LI h own) (c : C2 F13 F14 h P J) (ck : ∀ (h1 h2 : hp) (a : α), F14 h1 = some (a, h2) → WF h2 → ckT h1 165 13 = some ()) (lo : ∀ x k, P x k → x < 134 ∨ (165 ≤ x ∧ x < 204)) (go : ∀ h2, FG P h h2 → WF h2 → ZH h2 → J h2 → LI h2 own ∧ Zf h2 = Zf h) : STp F13 F14 h own := by
  obtain ⟨a, h1, h2, e1, e2, f, j⟩ := c
  have w := H.1.1
  have hn := w.2.2
  have w2 := f.wf w
  have z2 : ZH h2 := FS.zh f H.1.2 (fun x k q => by have := lo x k q; omega)
  obtain ⟨L, zz⟩ := go h2 f.fg w2 z2 j
  exact ⟨a, h1, h2, own, e1, e2, ck h1 h2 a e2 w2, L, by rw [zz, f.1]; omega, by rw [zz, f.2.1]; omega⟩
theorem bt_v {h : hp} {own : Nat → Nat} {α : Type} {F13 F14 : hp → Option (α × hp)} (H : LI h own) (c : C2 F13 F14 h Pv Jv) (ck : ∀ (h1 h2 : hp) (a : α), F14 h1 = some (a, h2) → WF h2 → ckT h1 165 13 = some ()) : STp F13 F14 h own :=
  H.c2 c ck (fun x k q => by unfold Pv at q; omega) fun h2 f w2 z2 j => H.st f w2 z2 (fun _ _ => rfl) (fun x k q => by unfold Pv at q; omega) (.inl fun x k q => by unfold Pv at q; omega) (.inl fun x k q z => by unfold PIm at q; unfold Pv at z; omega) (.inr j) (.inl fun x k q z => by unfold Pt at q; unfold Pv at z; omega) (.inl fun x k q z => by unfold Ps at q; unfold Pv at z; omega) (.inl fun x k q z => by unfold Pb at q; unfold Pv at z; omega) (.inl fun x k q z => by unfold Pp at q; unfold Pv at z; omega) (.inl fun x k q z => by unfold Pw at q; unfold Pv at z; omega) (.inl fun x k q z => by unfold Pr at q; unfold Pv at z; omega)
theorem bt_vz {h : hp} {own : Nat → Nat} {α : Type} {F13 F14 : hp → Option (α × hp)} (H : LI h own) (c : C2 F13 F14 h (fun x k => Pv x k ∨ Pz x k) Jv) (ck : ∀ (h1 h2 : hp) (a : α), F14 h1 = some (a, h2) → WF h2 → ckT h1 165 13 = some ()) : STp F13 F14 h own :=
  H.c2 c ck (fun x k q => by unfold Pv Pz at q; omega) fun h2 f w2 z2 j => H.st f w2 z2 (fun _ _ => rfl) (fun x k q => by unfold Pv Pz at q; omega) (.inl fun x k q => by unfold Pv Pz at q; omega) (.inl fun x k q z => by unfold PIm at q; unfold Pv Pz at z; omega) (.inr j) (.inl fun x k q z => by unfold Pt at q; unfold Pv Pz at z; omega) (.inl fun x k q z => by unfold Ps at q; unfold Pv Pz at z; omega) (.inl fun x k q z => by unfold Pb at q; unfold Pv Pz at z; omega) (.inl fun x k q z => by unfold Pp at q; unfold Pv Pz at z; omega) (.inl fun x k q z => by unfold Pw at q; unfold Pv Pz at z; omega) (.inl fun x k q z => by unfold Pr at q; unfold Pv Pz at z; omega)
theorem bt_vt {h : hp} {own : Nat → Nat} {α : Type} {F13 F14 : hp → Option (α × hp)} (H : LI h own) (c : C2 F13 F14 h (fun x k => Pv x k ∨ Pt x k) (fun h => Jv h ∧ Jt h)) (ck : ∀ (h1 h2 : hp) (a : α), F14 h1 = some (a, h2) → WF h2 → ckT h1 165 13 = some ()) : STp F13 F14 h own :=
  H.c2 c ck (fun x k q => by unfold Pv Pt at q; omega) fun h2 f w2 z2 j => H.st f w2 z2 (fun _ _ => rfl) (fun x k q => by unfold Pv Pt at q; omega) (.inl fun x k q => by unfold Pv Pt at q; omega) (.inl fun x k q z => by unfold PIm at q; unfold Pv Pt at z; omega) (.inr j.1) (.inr j.2) (.inl fun x k q z => by unfold Ps at q; unfold Pv Pt at z; omega) (.inl fun x k q z => by unfold Pb at q; unfold Pv Pt at z; omega) (.inl fun x k q z => by unfold Pp at q; unfold Pv Pt at z; omega) (.inl fun x k q z => by unfold Pw at q; unfold Pv Pt at z; omega) (.inl fun x k q z => by unfold Pr at q; unfold Pv Pt at z; omega)
theorem bt_t {h : hp} {own : Nat → Nat} {α : Type} {F13 F14 : hp → Option (α × hp)} (H : LI h own) (c : C2 F13 F14 h Pt Jt) (ck : ∀ (h1 h2 : hp) (a : α), F14 h1 = some (a, h2) → WF h2 → ckT h1 165 13 = some ()) : STp F13 F14 h own :=
  H.c2 c ck (fun x k q => by unfold Pt at q; omega) fun h2 f w2 z2 j => H.st f w2 z2 (fun _ _ => rfl) (fun x k q => by unfold Pt at q; omega) (.inl fun x k q => by unfold Pt at q; omega) (.inl fun x k q z => by unfold PIm at q; unfold Pt at z; omega) (.inl fun x k q z => by unfold Pv at q; unfold Pt at z; omega) (.inr j) (.inl fun x k q z => by unfold Ps at q; unfold Pt at z; omega) (.inl fun x k q z => by unfold Pb at q; unfold Pt at z; omega) (.inl fun x k q z => by unfold Pp at q; unfold Pt at z; omega) (.inl fun x k q z => by unfold Pw at q; unfold Pt at z; omega) (.inl fun x k q z => by unfold Pr at q; unfold Pt at z; omega)
theorem bt_s {h : hp} {own : Nat → Nat} {α : Type} {F13 F14 : hp → Option (α × hp)} (H : LI h own) (c : C2 F13 F14 h Ps Js) (ck : ∀ (h1 h2 : hp) (a : α), F14 h1 = some (a, h2) → WF h2 → ckT h1 165 13 = some ()) : STp F13 F14 h own :=
  H.c2 c ck (fun x k q => by unfold Ps at q; omega) fun h2 f w2 z2 j => H.st f w2 z2 (fun _ _ => rfl) (fun x k q => by unfold Ps at q; omega) (.inl fun x k q => by unfold Ps at q; omega) (.inl fun x k q z => by unfold PIm at q; unfold Ps at z; omega) (.inl fun x k q z => by unfold Pv at q; unfold Ps at z; omega) (.inl fun x k q z => by unfold Pt at q; unfold Ps at z; omega) (.inr j) (.inl fun x k q z => by unfold Pb at q; unfold Ps at z; omega) (.inl fun x k q z => by unfold Pp at q; unfold Ps at z; omega) (.inl fun x k q z => by unfold Pw at q; unfold Ps at z; omega) (.inl fun x k q z => by unfold Pr at q; unfold Ps at z; omega)
theorem bt_b {h : hp} {own : Nat → Nat} {α : Type} {F13 F14 : hp → Option (α × hp)} (H : LI h own) (c : C2 F13 F14 h Pb Jb) (ck : ∀ (h1 h2 : hp) (a : α), F14 h1 = some (a, h2) → WF h2 → ckT h1 165 13 = some ()) : STp F13 F14 h own :=
  H.c2 c ck (fun x k q => by unfold Pb at q; omega) fun h2 f w2 z2 j => H.st f w2 z2 (fun _ _ => rfl) (fun x k q => by unfold Pb at q; omega) (.inl fun x k q => by unfold Pb at q; omega) (.inl fun x k q z => by unfold PIm at q; unfold Pb at z; omega) (.inl fun x k q z => by unfold Pv at q; unfold Pb at z; omega) (.inl fun x k q z => by unfold Pt at q; unfold Pb at z; omega) (.inl fun x k q z => by unfold Ps at q; unfold Pb at z; omega) (.inr j) (.inl fun x k q z => by unfold Pp at q; unfold Pb at z; omega) (.inl fun x k q z => by unfold Pw at q; unfold Pb at z; omega) (.inl fun x k q z => by unfold Pr at q; unfold Pb at z; omega)
theorem bt_w {h : hp} {own : Nat → Nat} {α : Type} {F13 F14 : hp → Option (α × hp)} (H : LI h own) (c : C2 F13 F14 h Pw Jw) (ck : ∀ (h1 h2 : hp) (a : α), F14 h1 = some (a, h2) → WF h2 → ckT h1 165 13 = some ()) : STp F13 F14 h own :=
  H.c2 c ck (fun x k q => by unfold Pw at q; omega) fun h2 f w2 z2 j => H.st f w2 z2 (fun _ _ => rfl) (fun x k q => by unfold Pw at q; omega) (.inl fun x k q => by unfold Pw at q; omega) (.inl fun x k q z => by unfold PIm at q; unfold Pw at z; omega) (.inl fun x k q z => by unfold Pv at q; unfold Pw at z; omega) (.inl fun x k q z => by unfold Pt at q; unfold Pw at z; omega) (.inl fun x k q z => by unfold Ps at q; unfold Pw at z; omega) (.inl fun x k q z => by unfold Pb at q; unfold Pw at z; omega) (.inl fun x k q z => by unfold Pp at q; unfold Pw at z; omega) (.inr j) (.inl fun x k q z => by unfold Pr at q; unfold Pw at z; omega)
theorem bt_r {h : hp} {own : Nat → Nat} {α : Type} {F13 F14 : hp → Option (α × hp)} (H : LI h own) (c : C2 F13 F14 h Pr Jr) (ck : ∀ (h1 h2 : hp) (a : α), F14 h1 = some (a, h2) → WF h2 → ckT h1 165 13 = some ()) : STp F13 F14 h own :=
  H.c2 c ck (fun x k q => by unfold Pr at q; omega) fun h2 f w2 z2 j => H.st f w2 z2 (fun _ _ => rfl) (fun x k q => by unfold Pr at q; omega) (.inl fun x k q => by unfold Pr at q; omega) (.inl fun x k q z => by unfold PIm at q; unfold Pr at z; omega) (.inl fun x k q z => by unfold Pv at q; unfold Pr at z; omega) (.inl fun x k q z => by unfold Pt at q; unfold Pr at z; omega) (.inl fun x k q z => by unfold Ps at q; unfold Pr at z; omega) (.inl fun x k q z => by unfold Pb at q; unfold Pr at z; omega) (.inl fun x k q z => by unfold Pp at q; unfold Pr at z; omega) (.inl fun x k q z => by unfold Pw at q; unfold Pr at z; omega) (.inr j)

/-! trees of pieces in the heap -/
/-- one piece: its kind, line, number, condition's sort, expressions; what is inside by R -/
def RepN {X : Type} (sub : X → Nat → Prop) (h : hp) (lo hi : Nat) (pc : PD X) (v : Nat) : Prop :=
  lo ≤ v ∧ v < hi ∧ hT h v = (5, 9) ∧ pc.1 ≤ 7 ∧ hI h v 0 = iN pc.1 ∧ hI h v 1 = iN pc.2.1 ∧ hI h v 2 = pc.2.2.1 ∧ pc.2.2.2.1 ≤ 3 ∧ hI h v 3 = iN pc.2.2.2.1 ∧ ((pc.1 = 1 ∨ pc.1 = 2 ∨ pc.1 = 3 ∨ pc.1 = 7) → RepE h lo hi (hR h v 4) pc.2.2.2.2.1) ∧ (pc.1 = 2 → 2 ≤ pc.2.2.2.1 → RepE h lo hi (hR h v 5) pc.2.2.2.2.2.1) ∧ sub pc.2.2.2.2.2.2.1 (hR h v 6) ∧ sub pc.2.2.2.2.2.2.2 (hR h v 7)
def RepL {X : Type} (sub : X → Nat → Prop) (h : hp) (lo hi : Nat) : List (PD X) → Nat → Prop
  | [], v => v = 0
  | pc :: ps, v => RepN sub h lo hi pc v ∧ RepL sub h lo hi ps (hR h v 8)
def RepT (h : hp) (lo hi : Nat) : (m : Nat) → TY m → Nat → Prop
  | 0, _, v => v = 0
  | m + 1, t, v => RepL (X := TY m) (RepT h lo hi m) h lo hi t v
theorem RepT.nil (h : hp) (lo hi : Nat) : ∀ m, RepT h lo hi m (tyN m) 0 := by
  intro m
  cases m with
  | zero => rfl
  | succ m => rfl
theorem RepN.fg {X : Type} {P : Nat → Nat → Prop} {sub sub' : X → Nat → Prop} {h h' : hp} {lo hi lo' hi' v : Nat} {pc : PD X} (H : RepN sub h lo hi pc v) (f : FG P h h') (hh : hi ≤ 64 + hN h) (hP : ∀ x k, lo ≤ x → x < hi → ¬ P x k) (h1 : lo' ≤ lo) (h2 : hi ≤ hi') (hs : ∀ t x, sub t x → sub' t x) : RepN sub' h' lo' hi' pc v := by
  obtain ⟨e1, e2, e3, e4, e5, e6, e7, e8, e9, e10, e11, e12, e13⟩ := H
  have q := fun k => f.2.2.2 v k (by omega) (hP v k e1 e2)
  refine ⟨by omega, by omega, by rw [f.2.2.1 v (by omega)]; exact e3, e4, by rw [(q 0).1]; exact e5, by rw [(q 1).1]; exact e6, by rw [(q 2).1]; exact e7, e8, by rw [(q 3).1]; exact e9, fun x => ?_, fun x y => ?_, ?_, ?_⟩
  · rw [(q 4).2.2]; exact (e10 x).fg f hh hP h1 h2
  · rw [(q 5).2.2]; exact (e11 x y).fg f hh hP h1 h2
  · rw [(q 6).2.2]; exact hs _ _ e12
  · rw [(q 7).2.2]; exact hs _ _ e13
theorem RepL.fg {X : Type} {P : Nat → Nat → Prop} {sub sub' : X → Nat → Prop} {h h' : hp} {lo hi lo' hi' : Nat} (f : FG P h h') (hh : hi ≤ 64 + hN h) (hP : ∀ x k, lo ≤ x → x < hi → ¬ P x k) (h1 : lo' ≤ lo) (h2 : hi ≤ hi') (hs : ∀ t x, sub t x → sub' t x) : ∀ (ps : List (PD X)) (v : Nat), RepL sub h lo hi ps v → RepL sub' h' lo' hi' ps v := by
  intro ps
  induction ps with
  | nil => intro v r; exact r
  | cons pc ps ih =>
    intro v r
    obtain ⟨r1, r2⟩ := r
    refine ⟨r1.fg f hh hP h1 h2 hs, ?_⟩
    rw [(f.2.2.2 v 8 (by have := r1.2.1; omega) (hP v 8 r1.1 r1.2.1)).2.2]
    exact ih _ r2
theorem RepT.fg {P : Nat → Nat → Prop} {h h' : hp} {lo hi lo' hi' : Nat} (f : FG P h h') (hh : hi ≤ 64 + hN h) (hP : ∀ x k, lo ≤ x → x < hi → ¬ P x k) (h1 : lo' ≤ lo) (h2 : hi ≤ hi') : ∀ (m : Nat) (t : TY m) (v : Nat), RepT h lo hi m t v → RepT h' lo' hi' m t v := by
  intro m
  induction m with
  | zero => intro t v r; exact r
  | succ m ih => intro t v r; exact RepL.fg f hh hP h1 h2 ih t v r
/-- a piece newly laid: kind and line -/
def nP (h : hp) (k ln : Int32) : hp := pI (pI (nw h 5 9) (64 + hN h) 0 k) (64 + hN h) 1 ln
theorem nP_k {α : Type} {h : hp} {o tp bx : Nat} {L : List Int32} (R : RD h o tp bx L) (k : Int32) (K : Nat → hp → Option α) : (bd2 (nwO h 5 9) fun v1 h2 => (gfI h2 o 6 3).bind fun v4 => (ckT h2 v1 5).bind fun _ => (fX6_init v1 k v4 h2).bind fun h7 => K v1 h7) = K (64 + hN h) (nP h k (hI h o 3)) := by
  have t1 : hT (nw h 5 9) (64 + hN h) = (5, 9) := by rw [hT_nw]; dsimp only; rw [if_pos rfl]
  have ho : hT (nw h 5 9) o = (6, 6) := by rw [hT_nw]; dsimp only; rw [if_neg (by have := R.2.2.2.2.2.2.2.2.1; omega)]; exact R.2.1
  have g1 : gfI (nw h 5 9) o 6 3 = some (hI h o 3) := by unfold gfI; rw [ho]; rfl
  have c1 : ckT (nw h 5 9) (64 + hN h) 5 = some () := by unfold ckT; rw [t1]; rfl
  have p1 : pfI (nw h 5 9) (64 + hN h) 5 0 k = some (pI (nw h 5 9) (64 + hN h) 0 k) := by unfold pfI; rw [t1]; rfl
  have p2 : pfI (pI (nw h 5 9) (64 + hN h) 0 k) (64 + hN h) 5 1 (hI h o 3) = some (nP h k (hI h o 3)) := by unfold pfI; rw [hT_pI, t1]; rfl
  have c2 : fX6_init (64 + hN h) k (hI h o 3) (nw h 5 9) = some (nP h k (hI h o 3)) := by
    unfold fX6_init
    rw [c1, Option.bind_some, p1, Option.bind_some, p2, Option.bind_some]
  show ((gfI (nw h 5 9) o 6 3).bind fun v4 => (ckT (nw h 5 9) (64 + hN h) 5).bind fun _ => (fX6_init (64 + hN h) k v4 (nw h 5 9)).bind fun h7 => K (64 + hN h) h7) = _
  rw [g1, Option.bind_some, c1, Option.bind_some, c2, Option.bind_some]
theorem nP_s {h : hp} (z : ZH h) (o : Nat) (k ln : Int32) (ho : o < 64 + hN h) : SS o h (nP h k ln) 1 9 ∧ hT (nP h k ln) (64 + hN h) = (5, 9) ∧ hN (nP h k ln) = hN h + 1 ∧ hL (nP h k ln) = hL h + 9 ∧ (∀ j, hI (nP h k ln) (64 + hN h) j = if j = 0 then k else if j = 1 then ln else 0) ∧ (∀ j, hR (nP h k ln) (64 + hN h) j = 0) ∧ ∀ x j, x < 64 + hN h → hI (nP h k ln) x j = hI h x j := by
  have t1 : hT (nw h 5 9) (64 + hN h) = (5, 9) := by rw [hT_nw]; dsimp only; rw [if_pos rfl]
  refine ⟨⟨fgIn (fgIn (FG.nw h 5 9) 0 k (Nat.le_refl _)) 1 ln (Nat.le_refl _), ((z.nw 5 9).pI 0 k (by rw [hN_nw]; omega)).pI 1 ln (by rw [hN_pI, hN_nw]; omega), by show hN h + 1 ≤ _; omega, by show hL h + 9 ≤ _; omega⟩, t1, rfl, rfl, fun j => ?_, fun j => (z _ j (Nat.le_refl _)).2.2, fun x j hx => ?_⟩
  · show hI (pI (pI (nw h 5 9) (64 + hN h) 0 k) (64 + hN h) 1 ln) _ _ = _
    rw [hI_pI, hI_pI]
    by_cases c0 : j = 0
    · rw [if_neg (by omega), if_pos ⟨rfl, c0⟩, if_pos c0]
    · rw [if_neg c0]
      by_cases c1 : j = 1
      · rw [if_pos ⟨rfl, c1⟩, if_pos c1]
      · rw [if_neg (fun q => c1 q.2), if_neg (fun q => c0 q.2), if_neg c1]; exact (z _ j (Nat.le_refl _)).1
  · show hI (pI (pI (nw h 5 9) (64 + hN h) 0 k) (64 + hN h) 1 ln) _ _ = _
    rw [hI_pI, if_neg (by omega), hI_pI, if_neg (by omega)]; rfl

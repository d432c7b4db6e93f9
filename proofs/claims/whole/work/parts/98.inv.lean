/-! what is known of a text that was read: heads, pieces, ends -/
theorem bnd_i {α β : Type} {x : PR α} {f : α → Nat → PR β} {b : β} {q : Nat} (e : bnd x f = .inl (b, q)) : ∃ a p1, x = .inl (a, p1) ∧ f a p1 = .inl (b, q) := by
  cases x with
  | inl a => exact ⟨a.1, a.2, rfl, e⟩
  | inr r => cases e
theorem sign_i {L : List Int32} {c : Int32} {p q : Nat} {u : Unit} (e : pSign L c p = .inl (u, q)) : hereL L p = c ∧ q = p + 1 := by
  unfold pSign at e
  by_cases h : hereL L p = c
  · rw [if_pos h] at e
    exact ⟨h, (congrArg Prod.snd (Sum.inl.inj e)).symm⟩
  · rw [if_neg h] at e; cases e
theorem here_pos {L : List Int32} {p : Nat} (e : 0 ≤ (hereL L p).toInt) : p < L.length ∧ L.getD p 0 = hereL L p := by
  have nz : hereL L p ≠ -1 := fun q => by rw [q, show (-1 : Int32).toInt = -1 by decide] at e; omega
  obtain ⟨a, b⟩ := here_lt (L := L) (p := p) rfl nz
  exact ⟨a, b⟩
theorem one_i {L : List Int32} {lo n p k q : Nat} (hlo : lo + n ≤ 200) (e : pOne L lo n p = .inl (k, q)) : hereL L p = iN (lo + k) ∧ q = p + 1 ∧ k < n := by
  unfold pOne at e
  by_cases h : (lo : Int) ≤ (hereL L p).toInt ∧ (hereL L p).toInt < (lo + n : Nat)
  · rw [if_pos h] at e
    have e1 : (hereL L p).toInt.toNat - lo = k := congrArg Prod.fst (Sum.inl.inj e)
    have e2 : p + 1 = q := congrArg Prod.snd (Sum.inl.inj e)
    refine ⟨Int32.toInt_inj.mp ?_, e2.symm, by omega⟩
    rw [i_toInt (by omega)]; omega
  · rw [if_neg h] at e; cases e
/-- no brace from a place to another -/
def nB (L : List Int32) (p q : Nat) : Prop := ∀ i, p ≤ i → i < q → L.getD i 0 ≠ 123 ∧ L.getD i 0 ≠ 125
theorem nB.nil (L : List Int32) (p : Nat) : nB L p p := fun i a b => by omega
theorem nB.tr {L : List Int32} {p q r : Nat} (a : nB L p q) (b : nB L q r) : nB L p r := fun i h1 h2 => by
  by_cases c : i < q
  · exact a i h1 c
  · exact b i (by omega) h2
theorem nB.one {L : List Int32} {p : Nat} {c : Int32} (e : hereL L p = c) (h1 : c ≠ -1) (h2 : c ≠ 123 ∧ c ≠ 125) : nB L p (p + 1) := fun i a b => by
  have : i = p := by omega
  subst this
  rw [(here_lt e h1).2]; exact h2
theorem figs_b {L : List Int32} : ∀ (d p acc : Nat), p ≤ L.length → nB L p (figs L d p acc).2 ∧ p ≤ (figs L d p acc).2 ∧ (figs L d p acc).2 ≤ L.length := by
  intro d
  induction d with
  | zero => intro p acc hp'; exact ⟨nB.nil _ _, Nat.le_refl _, hp'⟩
  | succ d ih =>
    intro p acc hp'
    have e1 : figs L (d + 1) p acc = if isF (hereL L p) = true then figs L d (p + 1) (acc * 10 + ((hereL L p).toInt.toNat - 48)) else (acc, p) := rfl
    by_cases q : isF (hereL L p) = true
    · have hlt := here_in (by decide) q
      rw [e1, if_pos q]
      obtain ⟨a, b, c⟩ := ih (p + 1) (acc * 10 + ((hereL L p).toInt.toNat - 48)) hlt
      rw [isF_i] at q
      exact ⟨nB.tr (nB.one rfl (fun z => by rw [z, show (-1 : Int32).toInt = -1 by decide] at q; omega) ⟨fun z => by rw [z, show (123 : Int32).toInt = 123 by decide] at q; omega, fun z => by rw [z, show (125 : Int32).toInt = 125 by decide] at q; omega⟩) a, by omega, c⟩
    · rw [e1, if_neg q]; exact ⟨nB.nil _ _, Nat.le_refl _, hp'⟩
theorem figs_i {L : List Int32} {p k q : Nat} (e : pFigs L p = .inl (k, q)) : nB L p q ∧ p < q ∧ q ≤ L.length := by
  unfold pFigs at e
  by_cases h : isF (hereL L p) = true
  · have hlt := here_in (by decide) h
    rw [if_pos h] at e
    have e2 : (figs L 5 p 0).2 = q := congrArg Prod.snd (Sum.inl.inj e)
    have e1 : figs L 5 p 0 = if isF (hereL L p) = true then figs L 4 (p + 1) (0 * 10 + ((hereL L p).toInt.toNat - 48)) else (0, p) := rfl
    rw [if_pos h] at e1
    obtain ⟨a, b, c⟩ := figs_b (L := L) 5 p 0 (by omega)
    obtain ⟨_, b2', _⟩ := figs_b (L := L) 4 (p + 1) (0 * 10 + ((hereL L p).toInt.toNat - 48)) hlt
    rw [e1] at e2
    rw [e1, e2] at a c
    exact ⟨a, by omega, c⟩
  · rw [if_neg h] at e; cases e
theorem run_b {L : List Int32} (d p : Nat) : nB L p (p + runL L d p) := fun i a b => by
  have := run_all d p i a b
  rw [isL_i] at this
  exact ⟨fun z => by rw [z, show (123 : Int32).toInt = 123 by decide] at this; omega, fun z => by rw [z, show (125 : Int32).toInt = 125 by decide] at this; omega⟩
theorem fil_i {L : List Int32} {p q : Nat} {f : Nat × Nat} (hp' : p ≤ L.length) (e : pFil L p = .inl (f, q)) : nB L p q ∧ p ≤ q ∧ q ≤ L.length ∧ f.1 < 18 ∧ ∃ n, n = runL L 160 p ∧ fnd (wordL L p n) = some f.1 ∧ (f.1 < 13 → f.2 = 0 ∧ q = p + n) ∧ (¬ f.1 < 13 → hereL L (p + n) = 58 ∧ pFigs L (p + n + 1) = .inl (f.2, q)) := by
  unfold pFil at e
  have hr := (run_le 160 p hp').1
  cases hq : fnd (wordL L p (runL L 160 p)) with
  | none => rw [hq] at e; cases e
  | some w =>
    rw [hq] at e
    have hw := fnd_lt hq
    change (if w < 13 then (.inl ((w, 0), p + runL L 160 p) : PR (Nat × Nat)) else _) = _ at e
    by_cases c : w < 13
    · rw [if_pos c] at e
      have e1 := Sum.inl.inj e
      have e2 : (w, 0) = f := congrArg Prod.fst e1
      have e3 : p + runL L 160 p = q := congrArg Prod.snd e1
      subst e2 e3
      exact ⟨run_b 160 p, Nat.le_add_right _ _, hr, hw, _, rfl, hq, fun _ => ⟨rfl, rfl⟩, fun n => absurd c n⟩
    · rw [if_neg c] at e
      obtain ⟨u, p1, s1, e⟩ := bnd_i e
      obtain ⟨k, p2, s2, e⟩ := bnd_i e
      have e1 := Sum.inl.inj e
      have e2 : (w, k) = f := congrArg Prod.fst e1
      have e3 : p2 = q := congrArg Prod.snd e1
      subst e2 e3
      obtain ⟨h1, h2⟩ := sign_i s1
      subst h2
      obtain ⟨a, b, c2⟩ := figs_i s2
      exact ⟨(run_b 160 p).tr ((nB.one h1 (by decide) (by decide)).tr a), by omega, c2, hw, _, rfl, hq, fun z => absurd z c, fun _ => ⟨h1, s2⟩⟩
theorem fils_i {L : List Int32} : ∀ (n p q : Nat) (fs : List (Nat × Nat)), p ≤ L.length → pFils L n p = .inl (fs, q) → nB L p q ∧ p ≤ q ∧ q ≤ L.length := by
  intro n
  induction n with
  | zero => intro p q fs _ e; cases e
  | succ n ih =>
    intro p q fs hp' e
    obtain ⟨f, p1, s1, e⟩ := bnd_i (show bnd (pFil L p) (fun f p1 => if hereL L p1 = 124 then bnd (pFils L n (p1 + 1)) fun fs p2 => .inl (f :: fs, p2) else .inl ([f], p1)) = .inl (fs, q) from e)
    obtain ⟨a, b, c, _⟩ := fil_i hp' s1
    by_cases h : hereL L p1 = 124
    · rw [if_pos h] at e
      obtain ⟨l1, _⟩ := here_lt h (by decide)
      obtain ⟨fs2, p2, s2, e⟩ := bnd_i e
      have e3 : p2 = q := congrArg Prod.snd (Sum.inl.inj e)
      subst e3
      obtain ⟨a2, b2', c2⟩ := ih (p1 + 1) p2 fs2 l1 s2
      exact ⟨a.tr ((nB.one h (by decide) (by decide)).tr a2), by omega, c2⟩
    · rw [if_neg h] at e
      have e3 : p1 = q := congrArg Prod.snd (Sum.inl.inj e)
      subst e3
      exact ⟨a, b, c⟩
theorem runT_all {L : List Int32} : ∀ (d p j : Nat), p ≤ j → j < p + runT L d p → isT (L.getD j 0) = true := by
  intro d
  induction d with
  | zero => intro p j h1 h2; have : runT L 0 p = 0 := rfl; omega
  | succ d ih =>
    intro p j h1 h2
    have e1 : runT L (d + 1) p = if isT (hereL L p) = true then runT L d (p + 1) + 1 else 0 := rfl
    by_cases q : isT (hereL L p) = true
    · rw [if_pos q] at e1
      have hlt := here_in (by decide) q
      by_cases c : j = p
      · rw [c]; unfold hereL at q; rw [if_pos hlt] at q; exact q
      · exact ih (p + 1) j (by omega) (by omega)
    · rw [if_neg q] at e1; omega
theorem isT_i (v : Int32) : isT v = true ↔ 0 < v.toInt ∧ v ≠ 39 ∧ v ≠ 123 ∧ v ≠ 125 := by unfold isT; exact decide_eq_true_iff
/-- an atom, told by what it begins with -/
theorem atom_i {L : List Int32} {p q : Nat} {e : EX} (h : pAtom L p = .inl (e, q)) : nB L p q ∧ p < q ∧ q ≤ L.length ∧ e.2.2.2 = [] ∧
    ((∃ v, v < 8 ∧ hereL L p = iN (97 + v) ∧ e = (1, v, vN, []) ∧ q = p + 1) ∨ (hereL L p = 35 ∧ e = (2, 0, vN, []) ∧ q = p + 1) ∨
     (hereL L p = 39 ∧ hereL L (p + 1 + runT L 16 (p + 1)) = 39 ∧ e = (0, 0, (3, 0, 0, runT L 16 (p + 1), fun i => L.getD (p + 1 + i) 0), []) ∧ q = p + 2 + runT L 16 (p + 1)) ∨
     (∃ k, hereL L p = 45 ∧ pFigs L (p + 1) = .inl (k, q) ∧ e = (0, 0, vI (-iN k), [])) ∨
     (∃ k, isF (hereL L p) = true ∧ pFigs L p = .inl (k, q) ∧ e = (0, 0, vI (iN k), []))) := by
  unfold pAtom at h
  by_cases c1 : 97 ≤ (hereL L p).toInt ∧ (hereL L p).toInt < 105
  · rw [if_pos c1] at h
    have h1 := Sum.inl.inj h
    have e1 : (1, (hereL L p).toInt.toNat - 97, vN, []) = e := congrArg Prod.fst h1
    have e2 : p + 1 = q := congrArg Prod.snd h1
    subst e1 e2
    obtain ⟨l1, l2⟩ := here_pos (L := L) (p := p) (by omega)
    refine ⟨nB.one rfl (fun z => by rw [z, show (-1 : Int32).toInt = -1 by decide] at c1; omega) ⟨fun z => by rw [z, show (123 : Int32).toInt = 123 by decide] at c1; omega, fun z => by rw [z, show (125 : Int32).toInt = 125 by decide] at c1; omega⟩, Nat.lt_succ_self p, l1, rfl, .inl ⟨_, by omega, Int32.toInt_inj.mp (by rw [i_toInt (by omega)]; omega), rfl, rfl⟩⟩
  rw [if_neg c1] at h
  by_cases c2 : hereL L p = 35
  · rw [if_pos c2] at h
    have h1 := Sum.inl.inj h
    have e1 : (2, 0, vN, []) = e := congrArg Prod.fst h1
    have e2 : p + 1 = q := congrArg Prod.snd h1
    subst e1 e2
    exact ⟨nB.one c2 (by decide) (by decide), Nat.lt_succ_self p, (here_lt c2 (by decide)).1, rfl, .inr (.inl ⟨c2, rfl, rfl⟩)⟩
  rw [if_neg c2] at h
  by_cases c3 : hereL L p = 39
  · rw [if_pos c3] at h
    obtain ⟨u, p1, s1, h⟩ := bnd_i h
    have h1 := Sum.inl.inj h
    obtain ⟨a1, a2⟩ := sign_i s1
    have e1 : (0, 0, (3, 0, 0, runT L 16 (p + 1), fun i => L.getD (p + 1 + i) 0), []) = e := congrArg Prod.fst h1
    have e2 : p1 = q := congrArg Prod.snd h1
    subst e1 e2
    obtain ⟨l3, _⟩ := here_lt a1 (by decide)
    refine ⟨(nB.one c3 (by decide) (by decide)).tr (nB.tr (q := p + 1 + runT L 16 (p + 1)) (fun i i1 i2 => ?_) (by rw [a2]; exact nB.one a1 (by decide) (by decide))), by omega, by omega, rfl, .inr (.inr (.inl ⟨c3, a1, rfl, by omega⟩))⟩
    have := (isT_i _).mp (runT_all 16 (p + 1) i i1 i2)
    exact this.2.2
  rw [if_neg c3] at h
  by_cases c4 : hereL L p = 45
  · rw [if_pos c4] at h
    obtain ⟨k, p1, s1, h⟩ := bnd_i h
    have h1 := Sum.inl.inj h
    have e1 : (0, 0, vI (-iN k), []) = e := congrArg Prod.fst h1
    have e2 : p1 = q := congrArg Prod.snd h1
    subst e1 e2
    obtain ⟨a, b, c⟩ := figs_i s1
    exact ⟨(nB.one c4 (by decide) (by decide)).tr a, by omega, c, rfl, .inr (.inr (.inr (.inl ⟨k, c4, s1, rfl⟩)))⟩
  · rw [if_neg c4] at h
    obtain ⟨k, p1, s1, h⟩ := bnd_i h
    have h1 := Sum.inl.inj h
    have e1 : (0, 0, vI (iN k), []) = e := congrArg Prod.fst h1
    have e2 : p1 = q := congrArg Prod.snd h1
    subst e1 e2
    obtain ⟨a, b, c⟩ := figs_i s1
    refine ⟨a, b, c, rfl, .inr (.inr (.inr (.inr ⟨k, ?_, s1, rfl⟩)))⟩
    unfold pFigs at s1
    by_cases z : isF (hereL L p) = true
    · exact z
    · rw [if_neg z] at s1; cases s1
theorem expr_i {L : List Int32} {p q : Nat} {e : EX} (h : pExpr L p = .inl (e, q)) : nB L p q ∧ p < q ∧ q ≤ L.length ∧ ∃ e0 p1, pAtom L p = .inl (e0, p1) ∧ p1 ≤ q ∧ ((hereL L p1 ≠ 124 ∧ e = e0 ∧ q = p1) ∨ ∃ fs, hereL L p1 = 124 ∧ pFils L 161 (p1 + 1) = .inl (fs, q) ∧ e = (e0.1, e0.2.1, e0.2.2.1, fs)) := by
  obtain ⟨e0, p1, s1, h⟩ := bnd_i (show bnd (pAtom L p) (fun e p1 => if hereL L p1 = 124 then bnd (pFils L 161 (p1 + 1)) fun fs p2 => .inl ((e.1, e.2.1, e.2.2.1, fs), p2) else .inl (e, p1)) = .inl (e, q) from h)
  obtain ⟨a, b, c, _⟩ := atom_i s1
  by_cases k : hereL L p1 = 124
  · rw [if_pos k] at h
    obtain ⟨l1, _⟩ := here_lt k (by decide)
    obtain ⟨fs, p2, s2, h⟩ := bnd_i h
    have h1 := Sum.inl.inj h
    have e1 : (e0.1, e0.2.1, e0.2.2.1, fs) = e := congrArg Prod.fst h1
    have e2 : p2 = q := congrArg Prod.snd h1
    subst e1 e2
    obtain ⟨a2, b2', c2⟩ := fils_i 161 (p1 + 1) p2 fs l1 s2
    exact ⟨a.tr ((nB.one k (by decide) (by decide)).tr a2), by omega, c2, e0, p1, s1, by omega, .inr ⟨fs, k, s2, rfl⟩⟩
  · rw [if_neg k] at h
    have h1 := Sum.inl.inj h
    have e1 : e0 = e := congrArg Prod.fst h1
    have e2 : p1 = q := congrArg Prod.snd h1
    subst e1 e2
    exact ⟨a, b, c, e0, p1, s1, Nat.le_refl _, .inl ⟨k, rfl, rfl⟩⟩
/-- a condition -/
theorem cond_i {L : List Int32} {p q s : Nat} {e1 e2 : EX} (h : pCond L p = .inl ((s, e1, e2), q)) : nB L p q ∧ p < q ∧ q ≤ L.length ∧
    ((s = 1 ∧ hereL L p = 33 ∧ pExpr L (p + 1) = .inl (e1, q) ∧ e2 = eN) ∨ (s = 0 ∧ hereL L p ≠ 33 ∧ pExpr L p = .inl (e1, q) ∧ e2 = eN ∧ hereL L q ≠ 60 ∧ hereL L q ≠ 61) ∨
     ∃ p1, hereL L p ≠ 33 ∧ pExpr L p = .inl (e1, p1) ∧ ((s = 2 ∧ hereL L p1 = 60) ∨ (s = 3 ∧ hereL L p1 = 61)) ∧ pExpr L (p1 + 1) = .inl (e2, q)) := by
  unfold pCond at h
  by_cases c : hereL L p = 33
  · rw [if_pos c] at h
    obtain ⟨e, p1, s1, h⟩ := bnd_i h
    have h1 := Sum.inl.inj h
    have a1 : (1, e, eN) = (s, e1, e2) := congrArg Prod.fst h1
    have a2 : p1 = q := congrArg Prod.snd h1
    cases a1
    subst a2
    obtain ⟨a, b, d, _⟩ := expr_i s1
    exact ⟨(nB.one c (by decide) (by decide)).tr a, by omega, d, .inl ⟨rfl, c, s1, rfl⟩⟩
  rw [if_neg c] at h
  obtain ⟨e, p1, s1, h⟩ := bnd_i h
  obtain ⟨a, b, d, _⟩ := expr_i s1
  by_cases c60 : hereL L p1 = 60
  · rw [if_pos c60] at h
    obtain ⟨e', p2, s2, h⟩ := bnd_i h
    have h1 := Sum.inl.inj h
    have a1 : (2, e, e') = (s, e1, e2) := congrArg Prod.fst h1
    have a2 : p2 = q := congrArg Prod.snd h1
    cases a1
    subst a2
    obtain ⟨a', b', d', _⟩ := expr_i s2
    exact ⟨a.tr ((nB.one c60 (by decide) (by decide)).tr a'), by omega, d', .inr (.inr ⟨p1, c, s1, .inl ⟨rfl, c60⟩, s2⟩)⟩
  rw [if_neg c60] at h
  by_cases c61 : hereL L p1 = 61
  · rw [if_pos c61] at h
    obtain ⟨e', p2, s2, h⟩ := bnd_i h
    have h1 := Sum.inl.inj h
    have a1 : (3, e, e') = (s, e1, e2) := congrArg Prod.fst h1
    have a2 : p2 = q := congrArg Prod.snd h1
    cases a1
    subst a2
    obtain ⟨a', b', d', _⟩ := expr_i s2
    exact ⟨a.tr ((nB.one c61 (by decide) (by decide)).tr a'), by omega, d', .inr (.inr ⟨p1, c, s1, .inr ⟨rfl, c61⟩, s2⟩)⟩
  · rw [if_neg c61] at h
    have h1 := Sum.inl.inj h
    have a1 : (0, e, eN) = (s, e1, e2) := congrArg Prod.fst h1
    have a2 : p1 = q := congrArg Prod.snd h1
    cases a1
    subst a2
    exact ⟨a, b, d, .inr (.inl ⟨rfl, c, s1, rfl, c60, c61⟩)⟩
/-- a head from { on to behind its } -/
def HB (L : List Int32) (p b : Nat) : Prop := hereL L p = 123 ∧ p + 2 ≤ b ∧ b ≤ L.length ∧ hereL L (b - 1) = 125 ∧ nB L (p + 1) (b - 1)
def HdK (L : List Int32) (p b k : Nat) (sg : Int32) (ts : Nat) (e1 e2 : EX) : Prop :=
  (k = 1 ∧ hereL L (p + 1) ≠ 63 ∧ hereL L (p + 1) ≠ 42 ∧ hereL L (p + 1) ≠ 61 ∧ hereL L (p + 1) ≠ 94 ∧ hereL L (p + 1) ≠ 62 ∧ hereL L (p + 1) ≠ 64 ∧ pExpr L (p + 1) = .inl (e1, b - 1) ∧ e2 = eN) ∨
  (k = 2 ∧ hereL L (p + 1) = 63 ∧ pCond L (p + 2) = .inl ((ts, e1, e2), b - 1)) ∨
  (k = 3 ∧ hereL L (p + 1) = 42 ∧ (∃ v, v < 8 ∧ hereL L (p + 2) = iN (97 + v) ∧ sg = iN v) ∧ hereL L (p + 3) = 32 ∧ pExpr L (p + 4) = .inl (e1, b - 1) ∧ e2 = eN) ∨
  (k = 4 ∧ hereL L (p + 1) = 61 ∧ (∃ v, v < 4 ∧ hereL L (p + 2) = iN (65 + v) ∧ sg = iN v) ∧ b = p + 4 ∧ e1 = eN ∧ e2 = eN) ∨
  (k = 5 ∧ hereL L (p + 1) = 94 ∧ b = p + 3 ∧ e1 = eN ∧ e2 = eN) ∨
  (k = 6 ∧ hereL L (p + 1) = 62 ∧ (∃ v, v < 6 ∧ hereL L (p + 2) = iN (48 + v) ∧ sg = iN v) ∧ b = p + 4 ∧ e1 = eN ∧ e2 = eN) ∨
  (k = 7 ∧ hereL L (p + 1) = 64 ∧ (∃ v, v < 8 ∧ hereL L (p + 2) = iN (97 + v) ∧ sg = iN v) ∧ hereL L (p + 3) = 61 ∧ pExpr L (p + 4) = .inl (e1, b - 1) ∧ e2 = eN)
def HdP (L : List Int32) {m : Nat} (p b : Nat) (pc : PD (TY m)) : Prop := HB L p b ∧ pc.2.1 = lnAt L p ∧ HdK L p b pc.1 pc.2.2.1 pc.2.2.2.1 pc.2.2.2.2.1 pc.2.2.2.2.2.1
theorem nB.sm {L : List Int32} {p lo n k : Nat} (e : hereL L p = iN (lo + k)) (hk : k < n) (hlo : lo + n ≤ 123) : nB L p (p + 1) := by
  have t : (iN (lo + k)).toInt = lo + k := by rw [i_toInt (by omega)]; omega
  refine nB.one e (fun z => ?_) ⟨fun z => ?_, fun z => ?_⟩
  · rw [z, show (-1 : Int32).toInt = -1 by decide] at t; omega
  · rw [z, show (123 : Int32).toInt = 123 by decide] at t; omega
  · rw [z, show (125 : Int32).toInt = 125 by decide] at t; omega
/-- one piece -/
theorem piece_i {L : List Int32} {rc : pRec} {m p q : Nat} {blk : Bool} {pc : PD (TY m)} (h : pPiece L rc m blk p = .inl (pc, q)) (hp1 : p < L.length) :
    (hereL L p ≠ 123 ∧ hereL L p ≠ 125 ∧ pc = (0, lnAt L p, hereL L p, 0, eN, eN, tyN m, tyN m) ∧ q = p + 1) ∨
    ∃ b, HdP L p b pc ∧ (((pc.1 = 1 ∨ pc.1 = 5 ∨ pc.1 = 6 ∨ pc.1 = 7) ∧ pc.2.2.2.2.2.2.1 = tyN m ∧ pc.2.2.2.2.2.2.2 = tyN m ∧ q = b ∧ (pc.1 = 5 → blk = true)) ∨ (1 ≤ m ∧ pc.1 = 4 ∧ pc.2.2.2.2.2.2.2 = tyN m ∧ ∃ tn, rc m true false b = .inl ((pc.2.2.2.2.2.2.1, tn), q)) ∨ (1 ≤ m ∧ (pc.1 = 2 ∨ pc.1 = 3) ∧ pBody rc m blk b = .inl ((pc.2.2.2.2.2.2.1, pc.2.2.2.2.2.2.2), q))) := by
  unfold pPiece at h
  by_cases c : hereL L p = 123
  · rw [if_pos c] at h
    by_cases c42 : hereL L (p + 1) = 42
    · rw [if_pos c42] at h
      by_cases cm : 1 ≤ m
      · rw [if_pos cm] at h
        obtain ⟨v, p1, s1, h⟩ := bnd_i h
        obtain ⟨u, p2, s2, h⟩ := bnd_i h
        obtain ⟨e, p3, s3, h⟩ := bnd_i h
        obtain ⟨io, p4, s4, h⟩ := bnd_i h
        have h1 := Sum.inl.inj h
        have a1 : _ = pc := congrArg Prod.fst h1
        have a2 : p4 = q := congrArg Prod.snd h1
        subst a1 a2
        obtain ⟨b1, b2', b3⟩ := one_i (by decide) s1
        obtain ⟨d1, d2⟩ := sign_i s2
        subst b2' d2
        obtain ⟨f1, f2, f3, _⟩ := expr_i s3
        rw [pBoth_e] at s4
        obtain ⟨u2, p5, s5, s6⟩ := bnd_i s4
        obtain ⟨g1, g2⟩ := sign_i s5
        subst g2
        obtain ⟨l3, _⟩ := here_lt g1 (by decide)
        refine .inr ⟨p3 + 1, ⟨⟨c, by omega, l3, g1, ?_⟩, rfl, .inr (.inr (.inl ⟨rfl, c42, ⟨v, b3, b1, rfl⟩, d1, s3, rfl⟩))⟩, .inr (.inr ⟨cm, .inr rfl, s6⟩)⟩
        exact (nB.one c42 (by decide) (by decide)).tr ((nB.sm b1 b3 (by decide)).tr ((nB.one d1 (by decide) (by decide)).tr f1))
      · rw [if_neg cm] at h; cases h
    rw [if_neg c42] at h
    by_cases c61 : hereL L (p + 1) = 61
    · rw [if_pos c61] at h
      by_cases cm : 1 ≤ m
      · rw [if_pos cm] at h
        obtain ⟨v, p1, s1, h⟩ := bnd_i h
        obtain ⟨u, p2, s2, h⟩ := bnd_i h
        obtain ⟨t, p3, s3, h⟩ := bnd_i h
        have h1 := Sum.inl.inj h
        have a1 : _ = pc := congrArg Prod.fst h1
        have a2 : p3 = q := congrArg Prod.snd h1
        subst a1 a2
        obtain ⟨b1, b2', b3⟩ := one_i (by decide) s1
        obtain ⟨d1, d2⟩ := sign_i s2
        subst b2' d2
        obtain ⟨l3, _⟩ := here_lt d1 (by decide)
        refine .inr ⟨p + 4, ⟨⟨c, by omega, l3, d1, ?_⟩, rfl, .inr (.inr (.inr (.inl ⟨rfl, c61, ⟨v, b3, b1, rfl⟩, rfl, rfl, rfl⟩)))⟩, .inr (.inl ⟨cm, rfl, rfl, t.2, s3⟩)⟩
        exact (nB.one c61 (by decide) (by decide)).tr (nB.sm b1 b3 (by decide))
      · rw [if_neg cm] at h; cases h
    rw [if_neg c61] at h
    by_cases c62 : hereL L (p + 1) = 62
    · rw [if_pos c62] at h
      obtain ⟨v, p1, s1, h⟩ := bnd_i h
      obtain ⟨u, p2, s2, h⟩ := bnd_i h
      have h1 := Sum.inl.inj h
      have a1 : _ = pc := congrArg Prod.fst h1
      have a2 : p2 = q := congrArg Prod.snd h1
      subst a1 a2
      obtain ⟨b1, b2', b3⟩ := one_i (by decide) s1
      obtain ⟨d1, d2⟩ := sign_i s2
      subst b2' d2
      obtain ⟨l3, _⟩ := here_lt d1 (by decide)
      refine .inr ⟨p + 4, ⟨⟨c, by omega, l3, d1, ?_⟩, rfl, .inr (.inr (.inr (.inr (.inr (.inl ⟨rfl, c62, ⟨v, b3, b1, rfl⟩, rfl, rfl, rfl⟩)))))⟩, .inl ⟨.inr (.inr (.inl rfl)), rfl, rfl, rfl, fun z => absurd z (show (6 : Nat) ≠ 5 by decide)⟩⟩
      exact (nB.one c62 (by decide) (by decide)).tr (nB.sm b1 b3 (by decide))
    rw [if_neg c62] at h
    by_cases c63 : hereL L (p + 1) = 63
    · rw [if_pos c63] at h
      by_cases cm : 1 ≤ m
      · rw [if_pos cm] at h
        obtain ⟨cd, p1, s1, h⟩ := bnd_i h
        obtain ⟨io, p2, s2, h⟩ := bnd_i h
        have h1 := Sum.inl.inj h
        have a1 : _ = pc := congrArg Prod.fst h1
        have a2 : p2 = q := congrArg Prod.snd h1
        subst a1 a2
        obtain ⟨f1, f2, f3, _⟩ := cond_i (s := cd.1) (e1 := cd.2.1) (e2 := cd.2.2) s1
        rw [pBoth_e] at s2
        obtain ⟨u2, p5, s5, s6⟩ := bnd_i s2
        obtain ⟨g1, g2⟩ := sign_i s5
        subst g2
        obtain ⟨l3, _⟩ := here_lt g1 (by decide)
        refine .inr ⟨p1 + 1, ⟨⟨c, by omega, l3, g1, ?_⟩, rfl, .inr (.inl ⟨rfl, c63, s1⟩)⟩, .inr (.inr ⟨cm, .inl rfl, s6⟩)⟩
        exact (nB.one c63 (by decide) (by decide)).tr f1
      · rw [if_neg cm] at h; cases h
    rw [if_neg c63] at h
    by_cases c64 : hereL L (p + 1) = 64
    · rw [if_pos c64] at h
      obtain ⟨v, p1, s1, h⟩ := bnd_i h
      obtain ⟨u, p2, s2, h⟩ := bnd_i h
      obtain ⟨e, p3, s3, h⟩ := bnd_i h
      obtain ⟨u3, p4, s4, h⟩ := bnd_i h
      have h1 := Sum.inl.inj h
      have a1 : _ = pc := congrArg Prod.fst h1
      have a2 : p4 = q := congrArg Prod.snd h1
      subst a1 a2
      obtain ⟨b1, b2', b3⟩ := one_i (by decide) s1
      obtain ⟨d1, d2⟩ := sign_i s2
      obtain ⟨g1, g2⟩ := sign_i s4
      subst b2' d2 g2
      obtain ⟨f1, f2, f3, _⟩ := expr_i s3
      obtain ⟨l3, _⟩ := here_lt g1 (by decide)
      refine .inr ⟨p3 + 1, ⟨⟨c, by omega, l3, g1, ?_⟩, rfl, .inr (.inr (.inr (.inr (.inr (.inr ⟨rfl, c64, ⟨v, b3, b1, rfl⟩, d1, s3, rfl⟩)))))⟩, .inl ⟨.inr (.inr (.inr rfl)), rfl, rfl, rfl, fun z => absurd z (show (7 : Nat) ≠ 5 by decide)⟩⟩
      exact (nB.one c64 (by decide) (by decide)).tr ((nB.sm b1 b3 (by decide)).tr ((nB.one d1 (by decide) (by decide)).tr f1))
    rw [if_neg c64] at h
    by_cases c94 : hereL L (p + 1) = 94
    · rw [if_pos c94] at h
      by_cases cb : blk = true
      · rw [if_pos cb] at h
        obtain ⟨u, p1, s1, h⟩ := bnd_i h
        have h1 := Sum.inl.inj h
        have a1 : _ = pc := congrArg Prod.fst h1
        have a2 : p1 = q := congrArg Prod.snd h1
        subst a1 a2
        obtain ⟨d1, d2⟩ := sign_i s1
        subst d2
        obtain ⟨l3, _⟩ := here_lt d1 (by decide)
        exact .inr ⟨p + 3, ⟨⟨c, by omega, l3, d1, nB.one c94 (by decide) (by decide)⟩, rfl, .inr (.inr (.inr (.inr (.inl ⟨rfl, c94, rfl, rfl, rfl⟩))))⟩, .inl ⟨.inr (.inl rfl), rfl, rfl, rfl, fun _ => cb⟩⟩
      · rw [if_neg cb] at h; cases h
    rw [if_neg c94] at h
    obtain ⟨e, p1, s1, h⟩ := bnd_i h
    obtain ⟨u, p2, s2, h⟩ := bnd_i h
    have h1 := Sum.inl.inj h
    have a1 : _ = pc := congrArg Prod.fst h1
    have a2 : p2 = q := congrArg Prod.snd h1
    subst a1 a2
    obtain ⟨f1, f2, f3, _⟩ := expr_i s1
    obtain ⟨d1, d2⟩ := sign_i s2
    subst d2
    obtain ⟨l3, _⟩ := here_lt d1 (by decide)
    exact .inr ⟨p1 + 1, ⟨⟨c, by omega, l3, d1, f1⟩, rfl, .inl ⟨rfl, c63, c42, c61, c94, c62, c64, s1, rfl⟩⟩, .inl ⟨.inl rfl, rfl, rfl, rfl, fun z => absurd z (show (1 : Nat) ≠ 5 by decide)⟩⟩
  · rw [if_neg c] at h
    by_cases c2 : hereL L p = 125
    · rw [if_pos c2] at h; cases h
    · rw [if_neg c2] at h
      have h1 := Sum.inl.inj h
      exact .inl ⟨c, c2, (congrArg Prod.fst h1).symm, (congrArg Prod.snd h1).symm⟩
/-- what is within, and its end -/
theorem within_i {L : List Int32} {n m b q : Nat} {blk els tn : Bool} {t : TY (m + 1)} (hm : m ≠ 4) (h : pAll L n (m + 1) blk els b = .inl ((t, tn), q)) : ∃ e0, pPcs L n m blk b = .inl (t, e0) ∧ q = e0 + 3 ∧ e0 < L.length ∧ hereL L e0 = 123 ∧ hereL L (e0 + 1) = (if tn = true then 58 else 47) ∧ hereL L (e0 + 2) = 125 ∧ (tn = true → els = true) := by
  rw [all_pcs] at h
  obtain ⟨ps, e0, s1, h⟩ := bnd_i h
  have E := pcs_end L _ _ _ _ _ _ s1
  unfold pEnd at h
  by_cases c : L.length ≤ e0
  · rw [if_pos c, if_neg hm] at h; cases h
  rw [if_neg c] at h
  have E' : hereL L e0 = 123 := by
    rcases E with E | E
    · exact absurd E c
    · exact E.2.1
  by_cases c2 : hereL L (e0 + 1) = 47 ∧ m ≠ 4
  · rw [if_pos c2] at h
    obtain ⟨u, p1, s2, h⟩ := bnd_i h
    have h1 := Sum.inl.inj h
    have a1 : (ps, false) = (t, tn) := congrArg Prod.fst h1
    have a2 : p1 = q := congrArg Prod.snd h1
    cases a1
    subst a2
    obtain ⟨d1, d2⟩ := sign_i s2
    exact ⟨e0, s1, by omega, by omega, E', by rw [if_neg (by decide)]; exact c2.1, d1, fun z => by cases z⟩
  rw [if_neg c2] at h
  by_cases c3 : hereL L (e0 + 1) = 58 ∧ els = true
  · rw [if_pos c3] at h
    obtain ⟨u, p1, s2, h⟩ := bnd_i h
    have h1 := Sum.inl.inj h
    have a1 : (ps, true) = (t, tn) := congrArg Prod.fst h1
    have a2 : p1 = q := congrArg Prod.snd h1
    cases a1
    subst a2
    obtain ⟨d1, d2⟩ := sign_i s2
    exact ⟨e0, s1, by omega, by omega, E', by rw [if_pos rfl]; exact c3.1, d1, fun _ => c3.2⟩
  · rw [if_neg c3] at h; cases h
/-- what is within a branch or a loop -/
theorem body_i {L : List Int32} {n m b q : Nat} {blk : Bool} {t o : TY (m + 1)} (hm : m ≠ 4) (h : pBody (pAll L n) (m + 1) blk b = .inl ((t, o), q)) : ∃ e0, pPcs L n m blk b = .inl (t, e0) ∧ e0 < L.length ∧ hereL L e0 = 123 ∧ hereL L (e0 + 2) = 125 ∧ ((hereL L (e0 + 1) = 47 ∧ o = tyN (m + 1) ∧ q = e0 + 3) ∨ (hereL L (e0 + 1) = 58 ∧ ∃ e1, pPcs L n m blk (e0 + 3) = .inl (o, e1) ∧ e1 < L.length ∧ hereL L e1 = 123 ∧ hereL L (e1 + 1) = 47 ∧ hereL L (e1 + 2) = 125 ∧ q = e1 + 3)) := by
  unfold pBody at h
  obtain ⟨t', p2, s1, h⟩ := bnd_i h
  obtain ⟨e0, i1, i2, i3, i4, i5, i6, i7⟩ := within_i hm (t := t'.1) (tn := t'.2) s1
  by_cases c : t'.2 = true
  · rw [if_pos c] at h
    obtain ⟨o', p3, s3, h⟩ := bnd_i h
    have h1 := Sum.inl.inj h
    have a1 : (t'.1, o'.1) = (t, o) := congrArg Prod.fst h1
    have a2 : p3 = q := congrArg Prod.snd h1
    have a3 : t'.1 = t := congrArg Prod.fst a1
    have a4 : o'.1 = o := congrArg Prod.snd a1
    subst a2 a3 a4
    rw [if_pos c] at i5
    subst i2
    obtain ⟨e1, j1, j2, j3, j4, j5, j6, j7⟩ := within_i hm (t := o'.1) (tn := o'.2) s3
    have o2 : ¬ o'.2 = true := fun z => by have := j7 z; cases this
    rw [if_neg o2] at j5
    exact ⟨e0, i1, i3, i4, i6, .inr ⟨i5, e1, j1, j3, j4, j5, j6, j2⟩⟩
  · rw [if_neg c] at h i5
    have h1 := Sum.inl.inj h
    have a1 : (t'.1, tyN (m + 1)) = (t, o) := congrArg Prod.fst h1
    have a2 : p2 = q := congrArg Prod.snd h1
    have a3 : t'.1 = t := congrArg Prod.fst a1
    have a4 : tyN (m + 1) = o := congrArg Prod.snd a1
    subst a2 a3 a4
    exact ⟨e0, i1, i3, i4, i6, .inl ⟨i5, rfl, i2⟩⟩

/-! the class's walk: what holds of its objects -/
/-- a Value of the walk's own, of a slot -/
def SLo (h : hp) (own : Nat → Nat) (a s : Nat) : Prop := VO h a (hR h a 4) ∧ own a = s ∧ own (hR h a 4) = s ∧ 204 ≤ a ∧ a < 64 + hN h ∧ 204 ≤ hR h a 4 ∧ hR h a 4 < 64 + hN h
def JX (h : hp) (own : Nat → Nat) : Prop := (∀ i, i < 348 → hR h 145 i = 0 ∨ SLo h own (hR h 145 i) (2 + i)) ∧ ∀ l, l < 48 → hR h 136 l = 0 ∨ SLo h own (hR h 136 l) (400 + l)
/-- the templates -/
def JG (h : hp) (own : Nat → Nat) (tp : Tp) : Prop := ∀ k, k < 6 → match tp k with
  | none => hR h 67 k = 0
  | some x => hR h 67 k ≠ 0 ∧ (∀ q, x.2.1 = some q → q < 6) ∧ ∃ lo hi, TO h lo hi (hR h 67 k) x.1 x.2.1 x.2.2 ∧ ∀ y, lo ≤ y → y < hi → own y = 1
/-- the names kept, the newest first -/
def KHh (h : hp) : List (Nat × vT) → Prop
  | [] => True
  | e :: r => (e.1 < 8 ∧ gV e.2 ∧ hI h 146 r.length = iN e.1 ∧ hR h 145 r.length ≠ 0 ∧ CV h (hR h 145 r.length) (hR h (hR h 145 r.length) 4) e.2) ∧ KHh h r
/-- the lists of the loops that are open -/
def LLh (h : hp) (LL : Nat → Option vT) : Prop := ∀ l V, LL l = some V → l < 48 ∧ gV V ∧ hR h 136 l ≠ 0 ∧ CV h (hR h 136 l) (hR h (hR h 136 l) 4) V
def RGh (h : hp) : Prop := (∃ V, CV h 137 138 V ∧ gV V) ∧ (∃ V, CV h 139 140 V ∧ gV V) ∧ ∃ L, NL h 141 142 53 L
def CHh (h : hp) (i : Nat) (c : List Nat) (pl : Nat) (bb : Option Nat) : Prop := hI h (147 + 2 * i) 1 = iN c.length ∧ hI h (147 + 2 * i) 2 = iN pl ∧ hI h (147 + 2 * i) 3 = oB bb ∧ c.length ≤ 6 ∧ pl < c.length ∧ ∀ q, q < c.length → hI h (148 + 2 * i) q = iN (c.getD q 0) ∧ c.getD q 0 < 6
/-- the chains that are open but the newest: chain, place, line of the part, letter -/
abbrev Fr : Type := List (List Nat × Nat × Nat × Option Nat)
def FHh (h : hp) (fr : Fr) : Prop := ∀ i f, fr[i]? = some f → CHh h i f.1 f.2.1 f.2.2.2 ∧ hI h (147 + 2 * i) 4 = iN f.2.2.1
def preF (fr : Fr) : List Lk := fr.flatMap fun f => bsL f.1 f.2.1 ++ [(f.1.getD f.2.1 0, f.2.2.1, 10)]
def CHo (h : hp) (i : Nat) (ch : Option (List Nat × Nat × Option Nat)) : Prop := ∀ x, ch = some x → CHh h i x.1 x.2.1 x.2.2
def CB (h : hp) (own : Nat → Nat) (tp : Tp) (lim : Nat) (KL : List (Nat × vT)) (LL : Nat → Option vT) (fr : Fr) (vs : Nat → vT) : Prop :=
  (WF h ∧ ZH h) ∧ (JX h own ∧ JG h own tp) ∧ (hI h 65 3 = iN lim ∧ lim ≤ 400) ∧ (∀ v, v < 8 → CV h (70 + 2 * v) (71 + 2 * v) (vs v) ∧ gV (vs v)) ∧ (KL.length ≤ 348 ∧ KHh h KL) ∧ LLh h LL ∧ FHh h fr ∧ fr.length ≤ 8
theorem SLo.fs {P : Nat → Nat → Prop} {h h' : hp} {own : Nat → Nat} {a s : Nat} (H : SLo h own a s) (f : FS P h h') : SLo h' own a s := by
  obtain ⟨⟨v1, v2, v3, v4⟩, a1, a2, a3, a4, a5, a6⟩ := H
  unfold SLo VO
  rw [f.2.2.1, f.2.2.2.1, f.1]
  exact ⟨⟨v1, v2, v3, v4⟩, a1, a2, a3, a4, a5, a6⟩
theorem JX.fs {P : Nat → Nat → Prop} {h h' : hp} {own : Nat → Nat} (H : JX h own) (f : FS P h h') : JX h' own := by
  refine ⟨fun i hi => ?_, fun l hl => ?_⟩
  · rw [f.2.2.2.1]; exact (H.1 i hi).imp id fun q => q.fs f
  · rw [f.2.2.2.1]; exact (H.2 l hl).imp id fun q => q.fs f
theorem JG.fg {P : Nat → Nat → Prop} {h h' : hp} {own own' : Nat → Nat} {tp : Tp} (w : WF h) (H : JG h own tp) (f : FG P h h') (hP : ∀ x k, 204 ≤ x → x < 64 + hN h → own x = 1 → ¬ P x k) (h67 : ∀ k, ¬ P 67 k) (ho : ∀ x, x < 64 + hN h → own' x = own x) : JG h' own' tp := by
  have hn := w.2.2
  intro k hk
  have a := H k hk
  have e : hR h' 67 k = hR h 67 k := (f.2.2.2 67 k (by omega) (h67 k)).2.2
  cases ht : tp k with
  | none => rw [ht] at a; rw [e]; exact a
  | some x =>
    rw [ht] at a
    obtain ⟨a1, a2, lo, hi, a3, a4⟩ := a
    have hh := a3.2.2.2.1
    have h204 := a3.1
    refine ⟨by rw [e]; exact a1, a2, lo, hi, by rw [e]; exact a3.fg f (fun x k x1 x2 => hP x k (by omega) (by omega) (a4 x x1 x2)), fun y y1 y2 => by rw [ho y (by omega)]; exact a4 y y1 y2⟩
theorem CV.fs {P : Nat → Nat → Prop} {h h' : hp} {a b : Nat} {V : vT} (H : CV h a b V) (f : FS P h h') (pa : ∀ k, ¬ P a k) (pb : ∀ k, ¬ P b k) : CV h' a b V := by
  obtain ⟨⟨v1, v2, v3, v4⟩, h2, h3, h4, h5, h6⟩ := H
  have ea := fun k => f.2.2.2.2 a k (pa k)
  have eb := fun k => f.2.2.2.2 b k (pb k)
  refine ⟨⟨by rw [f.2.2.1]; exact v1, by rw [f.2.2.1]; exact v2, by rw [f.2.2.2.1]; exact v3, v4⟩, by rw [(ea 0).1]; exact h2, h3, by rw [(ea 1).1]; exact h4, by rw [(ea 2).2]; exact h5, fun hv => ?_⟩
  obtain ⟨g1, g2, g3⟩ := h6 hv
  exact ⟨by rw [(ea 3).1]; exact g1, g2, fun k hk => by rw [(eb k).1]; exact g3 k hk⟩
theorem NL.fs {P : Nat → Nat → Prop} {h h' : hp} {a b c : Nat} {L : List Int32} (H : NL h a b c L) (f : FS P h h') (pa : ∀ k, ¬ P a k) (pb : ∀ k, ¬ P b k) : NL h' a b c L := by
  obtain ⟨⟨t1, t2, r1, ne, hc⟩, h2, h3, h4⟩ := H
  exact ⟨⟨by rw [f.2.2.1]; exact t1, by rw [f.2.2.1]; exact t2, by rw [f.2.2.2.1]; exact r1, ne, hc⟩, by rw [(f.2.2.2.2 a 1 (pa 1)).1]; exact h2, h3, fun k hk => by rw [(f.2.2.2.2 b k (pb k)).1]; exact h4 k hk⟩
theorem KHh.fg {P : Nat → Nat → Prop} {h h' : hp} {own : Nat → Nat} (w : WF h) (X : JX h own) (f : FG P h h') : ∀ (KL : List (Nat × vT)), KL.length ≤ 348 → KHh h KL → (∀ k, k < KL.length → ¬ P 146 k ∧ ¬ P 145 k) → (∀ x k, 204 ≤ x → x < 64 + hN h → (∃ i, i < KL.length ∧ own x = 2 + i) → ¬ P x k) → KHh h' KL := by
  have hn := w.2.2
  intro KL
  induction KL with
  | nil => intro _ _ _ _; trivial
  | cons e r ih =>
    intro hl ⟨⟨a1, a2, a3, a4, a5⟩, a6⟩ h1 h2
    have hl' : r.length + 1 ≤ 348 := hl
    have lr : r.length < (e :: r).length := Nat.lt_succ_self _
    rcases X.1 r.length (by omega) with z | ⟨_, b1, b2', b3, b4, b5, b6⟩
    · exact absurd z a4
    · have e1 := f.2.2.2 146 r.length (by omega) (h1 _ lr).1
      have e2 := f.2.2.2 145 r.length (by omega) (h1 _ lr).2
      have e3 := f.2.2.2 (hR h 145 r.length) 4 b4 (h2 _ 4 b3 b4 ⟨_, lr, b1⟩)
      refine ⟨⟨a1, a2, by rw [e1.1]; exact a3, by rw [e2.2.2]; exact a4, ?_⟩, ih (by omega) a6 (fun k hk => h1 k (Nat.lt_succ_of_lt hk)) (fun x k hx hx2 ⟨i, i1, i2⟩ => h2 x k hx hx2 ⟨i, Nat.lt_succ_of_lt i1, i2⟩)⟩
      rw [e2.2.2, e3.2.2]
      exact a5.fg f b4 b6 (fun k => h2 _ k b3 b4 ⟨_, lr, b1⟩) (fun k => h2 _ k b5 b6 ⟨_, lr, b2'⟩)
theorem LLh.fg {P : Nat → Nat → Prop} {h h' : hp} {own : Nat → Nat} {LL : Nat → Option vT} (w : WF h) (X : JX h own) (H : LLh h LL) (f : FG P h h') (h1 : ∀ l V, LL l = some V → ¬ P 136 l) (h2 : ∀ x k, 204 ≤ x → x < 64 + hN h → (∃ l V, LL l = some V ∧ own x = 400 + l) → ¬ P x k) : LLh h' LL := by
  have hn := w.2.2
  intro l V e
  obtain ⟨a1, a2, a3, a4⟩ := H l V e
  rcases X.2 l a1 with z | ⟨_, b1, b2', b3, b4, b5, b6⟩
  · exact absurd z a3
  · have e2 := f.2.2.2 136 l (by omega) (h1 l V e)
    have e3 := f.2.2.2 (hR h 136 l) 4 b4 (h2 _ 4 b3 b4 ⟨l, V, e, b1⟩)
    rw [e2.2.2, e3.2.2]
    exact ⟨a1, a2, a3, a4.fg f b4 b6 (fun k => h2 _ k b3 b4 ⟨l, V, e, b1⟩) (fun k => h2 _ k b5 b6 ⟨l, V, e, b2'⟩)⟩
theorem CHh.fg {P : Nat → Nat → Prop} {h h' : hp} {i : Nat} {c : List Nat} {pl : Nat} {bb : Option Nat} (H : CHh h i c pl bb) (f : FG P h h') (hi : 148 + 2 * i < 64 + hN h) (h1 : ∀ k, k ≠ 4 → ¬ P (147 + 2 * i) k) (h2 : ∀ k, ¬ P (148 + 2 * i) k) : CHh h' i c pl bb := by
  obtain ⟨a1, a2, a3, a4, a5, a6⟩ := H
  have e := fun k (hk : k ≠ 4) => (f.2.2.2 (147 + 2 * i) k (by omega) (h1 k hk)).1
  exact ⟨by rw [e 1 (by decide)]; exact a1, by rw [e 2 (by decide)]; exact a2, by rw [e 3 (by decide)]; exact a3, a4, a5, fun q hq => by rw [(f.2.2.2 (148 + 2 * i) q hi (h2 q)).1]; exact a6 q hq⟩
theorem CHh.fs {P : Nat → Nat → Prop} {h h' : hp} {i : Nat} {c : List Nat} {pl : Nat} {bb : Option Nat} (H : CHh h i c pl bb) (f : FS P h h') (h1 : ∀ k, k ≠ 4 → ¬ P (147 + 2 * i) k) (h2 : ∀ k, ¬ P (148 + 2 * i) k) : CHh h' i c pl bb := by
  obtain ⟨a1, a2, a3, a4, a5, a6⟩ := H
  have e := fun k (hk : k ≠ 4) => (f.2.2.2.2 (147 + 2 * i) k (h1 k hk)).1
  exact ⟨by rw [e 1 (by decide)]; exact a1, by rw [e 2 (by decide)]; exact a2, by rw [e 3 (by decide)]; exact a3, a4, a5, fun q hq => by rw [(f.2.2.2.2 (148 + 2 * i) q (h2 q)).1]; exact a6 q hq⟩
theorem FHh.fs {P : Nat → Nat → Prop} {h h' : hp} {fr : Fr} (H : FHh h fr) (f : FS P h h') (h1 : ∀ i k, i < fr.length → ¬ P (147 + 2 * i) k ∧ ¬ P (148 + 2 * i) k) : FHh h' fr := by
  intro i g e
  obtain ⟨a, b⟩ := H i g e
  have hi : i < fr.length := (List.getElem?_eq_some_iff.mp e).1
  exact ⟨a.fs f (fun k _ => (h1 i k hi).1) (fun k => (h1 i k hi).2), by rw [(f.2.2.2.2 _ 4 (h1 i 4 hi).1).1]; exact b⟩
theorem FHh.fg {P : Nat → Nat → Prop} {h h' : hp} {fr : Fr} (H : FHh h fr) (f : FG P h h') (hh : 148 + 2 * fr.length ≤ 64 + hN h) (h1 : ∀ i k, i < fr.length → ¬ P (147 + 2 * i) k ∧ ¬ P (148 + 2 * i) k) : FHh h' fr := by
  intro i g e
  obtain ⟨a, b⟩ := H i g e
  have hi : i < fr.length := (List.getElem?_eq_some_iff.mp e).1
  exact ⟨a.fg f (by omega) (fun k _ => (h1 i k hi).1) (fun k => (h1 i k hi).2), by rw [(f.2.2.2 _ 4 (by omega) (h1 i 4 hi).1).1]; exact b⟩
/-- what may be changed while CB stands -/
def PA (own : Nat → Nat) (kl : Nat) (LL : Nat → Option vT) (n x k : Nat) : Prop := (x = 134 ∧ 10 ≤ k) ∨ x = 86 ∨ x = 87 ∨ (137 ≤ x ∧ x ≤ 144) ∨ (x = 145 ∧ kl ≤ k) ∨ (x = 146 ∧ kl ≤ k) ∨ (x = 136 ∧ LL k = none) ∨ (147 + 2 * n ≤ x ∧ x ≤ 164) ∨ (204 ≤ x ∧ own x ≠ 1 ∧ (∀ i, i < kl → own x ≠ 2 + i) ∧ ∀ l V, LL l = some V → own x ≠ 400 + l)
theorem PA.n {own : Nat → Nat} {kl : Nat} {LL : Nat → Option vT} {n x k : Nat} (h : (x < 134 ∧ x ≠ 86 ∧ x ≠ 87) ∨ (x = 134 ∧ k < 10) ∨ x = 135 ∨ ((x = 145 ∨ x = 146) ∧ k < kl) ∨ (147 ≤ x ∧ x < 147 + 2 * n) ∨ (165 ≤ x ∧ x < 204)) (h8 : n ≤ 9) : ¬ PA own kl LL n x k := by
  intro q
  unfold PA at q
  rcases q with q | q | q | q | q | q | q | q | q <;> omega
theorem CB.fg {h h' : hp} {own own' : Nat → Nat} {tp : Tp} {lim : Nat} {KL : List (Nat × vT)} {LL : Nat → Option vT} {fr : Fr} {vs : Nat → vT} (H : CB h own tp lim KL LL fr vs) (f : FG (PA own KL.length LL fr.length) h h') (w' : WF h') (z' : ZH h') (X' : JX h' own') (ho : ∀ x, x < 64 + hN h → own' x = own x) : CB h' own' tp lim KL LL fr vs := by
  obtain ⟨⟨w, z⟩, ⟨x1, x2⟩, ⟨l1, l2⟩, vv, ⟨k1, k2⟩, ll, ff, c8⟩ := H
  have hn := w.2.2
  refine ⟨⟨w', z'⟩, ⟨X', x2.fg w f (fun x k a b e q => ?_) (fun k => PA.n (.inl (by decide)) (by omega)) ho⟩, ⟨by rw [(f.2.2.2 65 3 (by omega) (PA.n (.inl (by decide)) (by omega))).1]; exact l1, l2⟩, fun v hv => ⟨(vv v hv).1.fg f (by omega) (by omega) (fun k => PA.n (.inl (by omega)) (by omega)) (fun k => PA.n (.inl (by omega)) (by omega)), (vv v hv).2⟩, ⟨k1, KHh.fg w x1 f KL k1 k2 (fun k hk => ⟨PA.n (.inr (.inr (.inr (.inl ⟨.inr rfl, hk⟩)))) (by omega), PA.n (.inr (.inr (.inr (.inl ⟨.inl rfl, hk⟩)))) (by omega)⟩) (fun x k a b ⟨i, i1, i2⟩ q => ?_)⟩, ll.fg w x1 f (fun l V e q => ?_) (fun x k a b ⟨l, V, e, e2⟩ q => ?_), ff.fg f (by omega) (fun i k hi => ⟨PA.n (.inr (.inr (.inr (.inr (.inl (by omega)))))) (by omega), PA.n (.inr (.inr (.inr (.inr (.inl (by omega)))))) (by omega)⟩), c8⟩
  · unfold PA at q
    rcases q with q | q | q | q | q | q | q | q | q
    all_goals first | omega | exact q.2.1 e
  · unfold PA at q
    rcases q with q | q | q | q | q | q | q | q | q
    all_goals first | omega | exact q.2.2.1 i i1 i2
  · unfold PA at q
    rcases q with q | q | q | q | q | q | q | q | q
    all_goals first | omega | (rw [e] at q; cases q.2)
  · unfold PA at q
    rcases q with q | q | q | q | q | q | q | q | q
    all_goals first | omega | exact q.2.2.2 l V e e2
theorem CB.fs {P : Nat → Nat → Prop} {h h' : hp} {own : Nat → Nat} {tp : Tp} {lim : Nat} {KL : List (Nat × vT)} {LL : Nat → Option vT} {fr : Fr} {vs : Nat → vT} (H : CB h own tp lim KL LL fr vs) (f : FS P h h') (hP : ∀ x k, P x k → x < 64 + hN h ∧ PA own KL.length LL fr.length x k) : CB h' own tp lim KL LL fr vs :=
  H.fg (f.fg.up fun x k q => (hP x k q).2) (f.wf H.1.1) (FS.zh f H.1.2 fun x k q => (hP x k q).1) (H.2.1.1.fs f) (fun _ _ => rfl)
/-- the numbers of the walk -/
def CN (h : hp) (kl op dp ctx st : Nat) (trn : Option Nat) (lk fl : Bool) : Prop := hI h 134 10 = iN kl ∧ hI h 134 11 = iN op ∧ hI h 134 12 = iN dp ∧ hI h 134 13 = iN ctx ∧ hI h 134 14 = iN st ∧ hI h 134 15 = oB trn ∧ hI h 134 16 = b2 lk ∧ hI h 134 17 = b2 fl
def opN (fr : Fr) (ch : Option (List Nat × Nat × Option Nat)) : Nat :=
  match ch with
  | none => fr.length
  | some _ => fr.length + 1
/-- what is put out; while no fault is told, the links of before stand (kept behind the templates' places) -/
def OL (h : hp) (tp : Tp) (fl : Bool) (out : List Int32) : Prop := NL h 143 144 400 out ∧ (fl = false → ∀ x, tp 6 = some x → NL h 86 87 162 x.1)
theorem OL.fs {P : Nat → Nat → Prop} {h h' : hp} {tp : Tp} {fl : Bool} {out : List Int32} (H : OL h tp fl out) (f : FS P h h') (pa : ∀ k, ¬ P 143 k) (pb : ∀ k, ¬ P 144 k) (pc : ∀ k, ¬ P 86 k ∧ ¬ P 87 k) : OL h' tp fl out := ⟨H.1.fs f pa pb, fun e x ex => (H.2 e x ex).fs f (fun k => (pc k).1) (fun k => (pc k).2)⟩
theorem OL.fg {P : Nat → Nat → Prop} {h h' : hp} {tp : Tp} {fl : Bool} {out : List Int32} (H : OL h tp fl out) (f : FG P h h') (ha : 87 < 64 + hN h) (hb : 144 < 64 + hN h) (pa : ∀ k, ¬ P 143 k) (pb : ∀ k, ¬ P 144 k) (pc : ∀ k, ¬ P 86 k ∧ ¬ P 87 k) : OL h' tp fl out := ⟨H.1.fg f (by omega) hb pa pb, fun e x ex => (H.2 e x ex).fg f (by omega) ha (fun k => (pc k).1) (fun k => (pc k).2)⟩
def CX (h : hp) (own : Nat → Nat) (tp : Tp) (lim : Nat) (KL : List (Nat × vT)) (LL : Nat → Option vT) (fr : Fr) (ch : Option (List Nat × Nat × Option Nat)) (trn : Option Nat) (lk : Bool) (dp : Nat) (σ : St) (fl : Bool) : Prop :=
  CB h own tp lim KL LL fr σ.1 ∧ RGh h ∧ CHo h fr.length ch ∧ CN h KL.length (opN fr ch) dp σ.2.1 σ.2.2.2 trn lk fl ∧ OL h tp fl σ.2.2.1 ∧ σ.2.1 ≤ 3 ∧ σ.2.2.2 ≤ 300 ∧ (∀ i, trn = some i → i < 6) ∧ fr.length ≤ dp ∧ dp ≤ 8
theorem RGh.fs {P : Nat → Nat → Prop} {h h' : hp} (H : RGh h) (f : FS P h h') (hP : ∀ x k, 137 ≤ x → x ≤ 142 → ¬ P x k) : RGh h' := by
  obtain ⟨⟨V, r1, r2⟩, ⟨V', r3, r4⟩, L, r5⟩ := H
  exact ⟨⟨V, r1.fs f (fun k => hP _ k (by decide) (by decide)) (fun k => hP _ k (by decide) (by decide)), r2⟩, ⟨V', r3.fs f (fun k => hP _ k (by decide) (by decide)) (fun k => hP _ k (by decide) (by decide)), r4⟩, L, r5.fs f (fun k => hP _ k (by decide) (by decide)) (fun k => hP _ k (by decide) (by decide))⟩
theorem CHo.fs {P : Nat → Nat → Prop} {h h' : hp} {i : Nat} {ch : Option (List Nat × Nat × Option Nat)} (H : CHo h i ch) (f : FS P h h') (h1 : ∀ k, k ≠ 4 → ¬ P (147 + 2 * i) k) (h2 : ∀ k, ¬ P (148 + 2 * i) k) : CHo h' i ch := fun x e => (H x e).fs f h1 h2
theorem CN.fs {P : Nat → Nat → Prop} {h h' : hp} {kl op dp ctx st : Nat} {trn : Option Nat} {lk fl : Bool} (H : CN h kl op dp ctx st trn lk fl) (f : FS P h h') (hP : ∀ k, ¬ P 134 k) : CN h' kl op dp ctx st trn lk fl := by
  unfold CN at *
  rw [(f.2.2.2.2 134 10 (hP _)).1, (f.2.2.2.2 134 11 (hP _)).1, (f.2.2.2.2 134 12 (hP _)).1, (f.2.2.2.2 134 13 (hP _)).1, (f.2.2.2.2 134 14 (hP _)).1, (f.2.2.2.2 134 15 (hP _)).1, (f.2.2.2.2 134 16 (hP _)).1, (f.2.2.2.2 134 17 (hP _)).1]
  exact H
theorem gW {h : hp} (w : WF h) (k : Nat) : gfI h 134 11 k = some (hI h 134 k) := by unfold gfI; rw [T134 w]; rfl
theorem pW {h : hp} (w : WF h) (k : Nat) (x : Int32) : pfI h 134 11 k x = some (pI h 134 k x) := by unfold pfI; rw [T134 w]; rfl
theorem pWz {h : hp} (w : WF h) (k : Nat) (b : Bool) : pfZ h 134 11 k (b2 b) = some (pI h 134 k (b2 b)) := by
  unfold pfZ
  rw [T134 w, if_pos ⟨rfl, by cases b with
    | true => exact .inr rfl
    | false => exact .inl rfl⟩]
theorem gWR {h : hp} (w : WF h) (k : Nat) : gfR h 134 11 k = some (hR h 134 k) := by unfold gfR; rw [T134 w]; rfl
theorem ckW {h : hp} (w : WF h) : ckT h 134 11 = some () := by unfold ckT; rw [T134 w]; rfl
theorem chT : ∀ i, i < 9 → T0l.getD (83 + 2 * i) (0, 0) = (0, 5) ∧ T0l.getD (84 + 2 * i) (0, 0) = (100, 6) ∧ (135, i, 147 + 2 * i) ∈ R0l ∧ (147 + 2 * i, 0, 148 + 2 * i) ∈ R0l := by decide +kernel
theorem ch_T {h : hp} (w : WF h) {i : Nat} (hi : i < 9) : hT h (147 + 2 * i) = (0, 5) ∧ hT h (148 + 2 * i) = (100, 6) ∧ hR h 135 i = 147 + 2 * i ∧ hR h (147 + 2 * i) 0 = 148 + 2 * i := by
  obtain ⟨a, b, c, d⟩ := chT i hi
  refine ⟨?_, ?_, w.2.1 _ c, w.2.1 _ d⟩
  · have := w.1 (83 + 2 * i) (by omega)
    rw [show 64 + (83 + 2 * i) = 147 + 2 * i by omega] at this
    rw [this, a]
  · have := w.1 (84 + 2 * i) (by omega)
    rw [show 64 + (84 + 2 * i) = 148 + 2 * i by omega] at this
    rw [this, b]
theorem gC {h : hp} (w : WF h) {i : Nat} (hi : i < 9) (k : Nat) : gfI h (147 + 2 * i) 0 k = some (hI h (147 + 2 * i) k) := by unfold gfI; rw [(ch_T w hi).1]; rfl
theorem pC {h : hp} (w : WF h) {i : Nat} (hi : i < 9) (k : Nat) (x : Int32) : pfI h (147 + 2 * i) 0 k x = some (pI h (147 + 2 * i) k x) := by unfold pfI; rw [(ch_T w hi).1]; rfl
theorem ckC {h : hp} (w : WF h) {i : Nat} (hi : i < 9) : ckT h (147 + 2 * i) 0 = some () := by unfold ckT; rw [(ch_T w hi).1]; rfl
theorem gCR {h : hp} (w : WF h) {i : Nat} (hi : i < 9) : gfR h (147 + 2 * i) 0 0 = some (148 + 2 * i) := by unfold gfR; rw [(ch_T w hi).1]; show some (hR h (147 + 2 * i) 0) = _; rw [(ch_T w hi).2.2.2]
theorem alCh {h : hp} (w : WF h) {i : Nat} (hi : i < 9) : alR 2 h 135 (iN i) = some (147 + 2 * i) := by
  rw [alR_e (j := 2) (n := 9) (T135 w) hi (by decide), (ch_T w hi).2.2.1]
/-- the links as numbers -/
def fltL (l : List Lk) : List Int32 := l.flatMap fun x => [iN x.1, iN x.2.1, iN x.2.2]
theorem fltL_len (l : List Lk) : (fltL l).length = 3 * l.length := by
  induction l with
  | nil => rfl
  | cons x l ih =>
    show ([iN x.1, iN x.2.1, iN x.2.2] ++ fltL l).length = _
    simp only [List.length_append, ih, List.length_cons, List.length_nil]
    omega
theorem fltL_app (a b : List Lk) : fltL (a ++ b) = fltL a ++ fltL b := List.flatMap_append
theorem addLk {h : hp} {F : List Int32} (w : WF h) (N : NL h 86 87 162 F) (hF : F.length + 3 ≤ 162) (a b c : Int32) : ∃ h', fX5_addLink 86 a b c h = some h' ∧ NL h' 86 87 162 (F ++ [a, b, c]) ∧ FS (fun x _ => x = 86 ∨ x = 87) h h' := by
  obtain ⟨O, n1, n2, n3⟩ := N
  have t1 := O.1
  have t2 := O.2.1
  have gI1 : ∀ g : hp, hT g = hT h → ∀ k, gfI g 86 4 k = some (hI g 86 k) := fun g e k => by unfold gfI; rw [e, t1]; rfl
  have gR1 : ∀ g : hp, hT g = hT h → hR g = hR h → gfR g 86 4 0 = some 87 := fun g e e2 => by unfold gfR; rw [e, t1, if_pos rfl, e2, O.2.2.1]
  have as1 : ∀ g : hp, hT g = hT h → ∀ k x, k < 162 → asI g 87 (iN k) x = some (pI g 87 k x) := fun g e k x hk => as_e (by rw [e]; exact t2) hk (by decide)
  have al1 : aln 0 h 87 = some (iN 162) := by unfold aln; rw [t2]; rfl
  have nz : ¬ (iN F.length < 0) := by rw [i_nlt]; exact i0_le _ (by omega)
  have le : iN F.length ≤ iN 162 - 3 := by
    rw [show (3 : Int32) = iN 3 from rfl, i_sub (by omega), i_le (by omega) (by omega)]; omega
  refine ⟨pI (pI (pI (pI h 87 F.length a) 87 (F.length + 1) b) 87 (F.length + 2) c) 86 1 (iN (F.length + 3)), ?_, ⟨O, ?_, ?_, fun k hk => ?_⟩, FS.tr (FS.tr (FS.tr (FS.pI (.inr rfl)) (FS.pI (.inr rfl))) (FS.pI (.inr rfl))) (FS.pI (.inl rfl))⟩
  · have e1 : hI (pI h 87 F.length a) 86 1 = iN F.length := by rw [hI_pI, if_neg (by omega)]; exact n1
    have e2 : hI (pI (pI h 87 F.length a) 87 (F.length + 1) b) 86 1 = iN F.length := by rw [hI_pI, if_neg (by omega)]; exact e1
    have e3 : hI (pI (pI (pI h 87 F.length a) 87 (F.length + 1) b) 87 (F.length + 2) c) 86 1 = iN F.length := by rw [hI_pI, if_neg (by omega)]; exact e2
    have pf : pfI (pI (pI (pI h 87 F.length a) 87 (F.length + 1) b) 87 (F.length + 2) c) 86 4 1 (iN (F.length + 3)) = some (pI (pI (pI (pI h 87 F.length a) 87 (F.length + 1) b) 87 (F.length + 2) c) 86 1 (iN (F.length + 3))) := by unfold pfI; rw [hT_pI, hT_pI, hT_pI, t1]; rfl
    have r1 := gR1 (pI h 87 F.length a) rfl rfl
    have r2 := gR1 (pI (pI h 87 F.length a) 87 (F.length + 1) b) rfl rfl
    have i1 := gI1 (pI h 87 F.length a) rfl 1
    have i2 := gI1 (pI (pI h 87 F.length a) 87 (F.length + 1) b) rfl 1
    have i3 := gI1 (pI (pI (pI h 87 F.length a) 87 (F.length + 1) b) 87 (F.length + 2) c) rfl 1
    have s1 := as1 (pI h 87 F.length a) rfl (F.length + 1) b (by omega)
    have s2 := as1 (pI (pI h 87 F.length a) 87 (F.length + 1) b) rfl (F.length + 2) c (by omega)
    unfold fX5_addLink
    rw [gI1 h rfl, Option.bind_some, n1, if_neg nz, Option.bind_some, gR1 h rfl rfl, Option.bind_some, al1, Option.bind_some, if_pos le, Option.bind_some, Option.bind_some, as1 h rfl _ _ (by omega), Option.bind_some, r1, Option.bind_some, i1, Option.bind_some, e1, i_succ, s1, Option.bind_some, r2, Option.bind_some, i2, Option.bind_some, e2, show iN F.length + 2 = iN (F.length + 2) from i_add _ 2, s2, Option.bind_some, i3, Option.bind_some, e3, show iN F.length + 3 = iN (F.length + 3) from i_add _ 3, pf, Option.bind_some]
  · rw [hI_pI, if_pos ⟨rfl, rfl⟩, List.length_append]; rfl
  · rw [List.length_append]; exact hF
  · rw [List.length_append] at hk
    have hk' : k < F.length + 3 := hk
    rw [hI_pI, if_neg (by omega), hI_pI]
    by_cases c2 : k = F.length + 2
    · rw [if_pos ⟨rfl, c2⟩, c2, List.getD_eq_getElem?_getD, List.getElem?_append_right (by omega), show F.length + 2 - F.length = 2 by omega]; rfl
    rw [if_neg (fun q => c2 q.2), hI_pI]
    by_cases c1 : k = F.length + 1
    · rw [if_pos ⟨rfl, c1⟩, c1, List.getD_eq_getElem?_getD, List.getElem?_append_right (by omega), show F.length + 1 - F.length = 1 by omega]; rfl
    rw [if_neg (fun q => c1 q.2), hI_pI]
    by_cases c0 : k = F.length
    · rw [if_pos ⟨rfl, c0⟩, c0, List.getD_eq_getElem?_getD, List.getElem?_append_right (by omega), Nat.sub_self]; rfl
    · rw [if_neg (fun q => c0 q.2), n3 k (by omega), List.getD_eq_getElem?_getD, List.getD_eq_getElem?_getD, List.getElem?_append_left (by omega)]

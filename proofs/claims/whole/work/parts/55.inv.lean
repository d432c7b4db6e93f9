/-! the parts of the invariant, with their places -/
def Pv (x k : Nat) : Prop := (70 ≤ x ∧ x ≤ 85) ∨ ((x = 166 ∨ x = 167 ∨ x = 168 ∨ x = 170) ∧ k < 8) ∨ (x = 169 ∧ k < 128)
def Pt (x k : Nat) : Prop := x = 128 ∨ x = 129 ∨ x = 172 ∨ (x = 165 ∧ k = 10)
def Ps (x k : Nat) : Prop := x = 68 ∨ x = 69 ∨ x = 175 ∨ (x = 165 ∧ k = 21)
def Pb (x k : Nat) : Prop := (x = 65 ∧ k = 3) ∨ (x = 165 ∧ k = 24)
def Pp (x k : Nat) : Prop := (x = 64 ∧ k = 8) ∨ (x = 165 ∧ k = 38)
def Pw (x k : Nat) : Prop := x = 86 ∨ x = 87 ∨ x = 189 ∨ x = 190 ∨ x = 191 ∨ (x = 165 ∧ k = 47)
def Pr (x : Nat) (_ : Nat) : Prop := (89 ≤ x ∧ x ≤ 106) ∨ (192 ≤ x ∧ x ≤ 195)
/-- what is used only within a call: what is shown, registers, the reference's slots to work with -/
def Pz (x k : Nat) : Prop := (130 ≤ x ∧ x ≤ 133) ∨ x = 171 ∨ (x = 165 ∧ (k = 6 ∨ (11 ≤ k ∧ k ≤ 18))) ∨ ((x = 166 ∨ x = 167 ∨ x = 168 ∨ x = 170) ∧ 8 ≤ k) ∨ (x = 169 ∧ 128 ≤ k)
/-- variables -/
def Jv (h : hp) : Prop := ∃ vs : Nat → vT, ∀ v, v < 8 → CV h (70 + 2 * v) (71 + 2 * v) (vs v) ∧ MV h v (vs v) ∧ gV (vs v)
/-- the tape -/
def Jt (h : hp) : Prop := ∃ L : List Int32, NL h 128 129 160 L ∧ hI h 165 10 = iN L.length ∧ (∀ k, k < L.length → hI h 172 k = L.getD k 0) ∧ ∀ k, k < L.length → 1 ≤ (L.getD k 0).toInt ∧ (L.getD k 0).toInt ≤ 127
/-- the page -/
def Js (h : hp) : Prop := ∃ L : List Int32, NL h 68 69 400 L ∧ hI h 165 21 = iN L.length ∧ ∀ k, k < L.length → hI h 175 k = L.getD k 0
def Jb (h : hp) : Prop := ∃ n, n ≤ 400 ∧ hI h 65 3 = iN n ∧ hI h 165 24 = iN n
def Jp (h : hp) : Prop := hI h 64 8 = hI h 165 38
def Jw (h : hp) : Prop := ∃ n, n ≤ 54 ∧ hI h 86 1 = iN (3 * n) ∧ hI h 165 47 = iN n ∧ ∀ i, i < n → hI h 87 (3 * i) = hI h 189 i ∧ hI h 87 (3 * i + 1) = hI h 190 i ∧ hI h 87 (3 * i + 2) = hI h 191 i
/-- a row -/
def RW (h : hp) (r : Nat) : Prop := (hI h (89 + 3 * r) 0 = -1 ∧ hI h (89 + 3 * r) 1 = 0 ∧ hI h 192 r = -1) ∨ ∃ s n, s ≤ 2 ∧ n ≤ 60 ∧ hI h (89 + 3 * r) 0 = iN s ∧ hI h 192 r = iN s ∧ hI h (89 + 3 * r) 1 = iN n ∧ hI h 193 r = iN n ∧ (s ≠ 2 → ∀ k, k < n → hI h (90 + 3 * r) k = hI h 194 (60 * r + k)) ∧ (s = 2 → ∀ k, k < n → hF h (91 + 3 * r) k = hF h 195 (60 * r + k) ∧ Jvm.FP.Core.FFin (hF h 195 (60 * r + k)) ∧ (hF h 195 (60 * r + k)).toNat ≠ 2 ^ 31)
def Jr (h : hp) : Prop := ∀ r, r < 6 → RW h r
/-- nothing is changed of what was there but some places; what is new comes behind -/
def FG (P : Nat → Nat → Prop) (h h' : hp) : Prop := hN h ≤ hN h' ∧ hL h ≤ hL h' ∧ (∀ x, x < 64 + hN h → hT h' x = hT h x) ∧ ∀ x k, x < 64 + hN h → ¬ P x k → hI h' x k = hI h x k ∧ hF h' x k = hF h x k ∧ hR h' x k = hR h x k
theorem FS.fg {P : Nat → Nat → Prop} {h h' : hp} (f : FS P h h') : FG P h h' := ⟨Nat.le_of_eq f.1.symm, Nat.le_of_eq f.2.1.symm, fun x _ => by rw [f.2.2.1], fun x k _ hx => ⟨(f.2.2.2.2 x k hx).1, (f.2.2.2.2 x k hx).2, by rw [f.2.2.2.1]⟩⟩
theorem FG.rf (P : Nat → Nat → Prop) (h : hp) : FG P h h := (FS.rf P h).fg
theorem FG.tr {P : Nat → Nat → Prop} {h h1 h2 : hp} (a : FG P h h1) (b : FG P h1 h2) : FG P h h2 :=
  ⟨Nat.le_trans a.1 b.1, Nat.le_trans a.2.1 b.2.1, fun x hx => (b.2.2.1 x (Nat.lt_of_lt_of_le hx (Nat.add_le_add_left a.1 64))).trans (a.2.2.1 x hx), fun x k hx hP => by
    have h1 := a.2.2.2 x k hx hP
    have h2 := b.2.2.2 x k (Nat.lt_of_lt_of_le hx (Nat.add_le_add_left a.1 64)) hP
    exact ⟨h2.1.trans h1.1, h2.2.1.trans h1.2.1, h2.2.2.trans h1.2.2⟩⟩
theorem FG.up {P Q : Nat → Nat → Prop} {h h1 : hp} (a : FG P h h1) (q : ∀ x k, P x k → Q x k) : FG Q h h1 := ⟨a.1, a.2.1, a.2.2.1, fun x k hx hP => a.2.2.2 x k hx fun z => hP (q x k z)⟩
theorem CV.fg {P : Nat → Nat → Prop} {h h' : hp} {a b : Nat} {V : vT} (H : CV h a b V) (f : FG P h h') (ha : a < 64 + hN h) (hb : b < 64 + hN h) (pa : ∀ k, ¬ P a k) (pb : ∀ k, ¬ P b k) : CV h' a b V := by
  obtain ⟨⟨v1, v2, v3, v4⟩, h2, h3, h4, h5, h6⟩ := H
  have ea := fun k => f.2.2.2 a k ha (pa k)
  have eb := fun k => f.2.2.2 b k hb (pb k)
  refine ⟨⟨by rw [f.2.2.1 a ha]; exact v1, by rw [f.2.2.1 b hb]; exact v2, by rw [(ea 4).2.2]; exact v3, v4⟩, by rw [(ea 0).1]; exact h2, h3, by rw [(ea 1).1]; exact h4, by rw [(ea 2).2.1]; exact h5, fun hv => ?_⟩
  obtain ⟨g1, g2, g3⟩ := h6 hv
  exact ⟨by rw [(ea 3).1]; exact g1, g2, fun k hk => by rw [(eb k).1]; exact g3 k hk⟩
theorem MV.fg {P : Nat → Nat → Prop} {h h' : hp} {s : Nat} {V : vT} (w : WF h) (H : MV h s V) (f : FG P h h') (hP : ∀ x k, sP s x k → ¬ P x k) : MV h' s V := by
  obtain ⟨h1, h2, h3, h4, h5⟩ := H
  have hn := w.2.2
  have e := fun x k (hx : x < 204) (q : sP s x k) => f.2.2.2 x k (by omega) (hP x k q)
  refine ⟨by rw [(e 166 s (by decide) (by simp [sP])).1]; exact h1, h2, by rw [(e 167 s (by decide) (by simp [sP])).1]; exact h3, by rw [(e 170 s (by decide) (by simp [sP])).2.1]; exact h4, fun hv => ?_⟩
  obtain ⟨g1, g2, g3⟩ := h5 hv
  refine ⟨by rw [(e 168 s (by decide) (by simp [sP])).1]; exact g1, g2, fun k hk => ?_⟩
  rw [(e 169 (16 * s + k) (by decide) (.inr ⟨rfl, by omega, by omega⟩)).1]; exact g3 k hk
theorem NL.fg {P : Nat → Nat → Prop} {h h' : hp} {a b c : Nat} {L : List Int32} (H : NL h a b c L) (f : FG P h h') (ha : a < 64 + hN h) (hb : b < 64 + hN h) (pa : ∀ k, ¬ P a k) (pb : ∀ k, ¬ P b k) : NL h' a b c L := by
  obtain ⟨⟨t1, t2, r1, ne, hc⟩, h2, h3, h4⟩ := H
  have ea := fun k => f.2.2.2 a k ha (pa k)
  have eb := fun k => f.2.2.2 b k hb (pb k)
  exact ⟨⟨by rw [f.2.2.1 a ha]; exact t1, by rw [f.2.2.1 b hb]; exact t2, by rw [(ea 0).2.2]; exact r1, ne, hc⟩, by rw [(ea 1).1]; exact h2, h3, fun k hk => by rw [(eb k).1]; exact h4 k hk⟩
theorem sP_Pv {s x k : Nat} (hs : s < 8) (q : sP s x k) : Pv x k := by
  unfold sP at q; unfold Pv; omega
theorem Jv.fg {P : Nat → Nat → Prop} {h h' : hp} (w : WF h) (H : Jv h) (f : FG P h h') (hP : ∀ x k, Pv x k → ¬ P x k) : Jv h' := by
  obtain ⟨vs, H⟩ := H
  have hn := w.2.2
  refine ⟨vs, fun v hv => ⟨(H v hv).1.fg f (by omega) (by omega) (fun k => hP _ k (.inl (by omega))) (fun k => hP _ k (.inl (by omega))), (H v hv).2.1.fg w f (fun x k q => hP x k (sP_Pv hv q)), (H v hv).2.2⟩⟩
theorem Jt.fg {P : Nat → Nat → Prop} {h h' : hp} (w : WF h) (H : Jt h) (f : FG P h h') (hP : ∀ x k, Pt x k → ¬ P x k) : Jt h' := by
  obtain ⟨L, h1, h2, h3, h4⟩ := H
  have hn := w.2.2
  exact ⟨L, h1.fg f (by omega) (by omega) (fun k => hP _ k (by simp [Pt])) (fun k => hP _ k (by simp [Pt])), by rw [(f.2.2.2 165 10 (by omega) (hP _ _ (by simp [Pt]))).1]; exact h2, fun k hk => by rw [(f.2.2.2 172 k (by omega) (hP _ _ (by simp [Pt]))).1]; exact h3 k hk, h4⟩
theorem Js.fg {P : Nat → Nat → Prop} {h h' : hp} (w : WF h) (H : Js h) (f : FG P h h') (hP : ∀ x k, Ps x k → ¬ P x k) : Js h' := by
  obtain ⟨L, h1, h2, h3⟩ := H
  have hn := w.2.2
  exact ⟨L, h1.fg f (by omega) (by omega) (fun k => hP _ k (by simp [Ps])) (fun k => hP _ k (by simp [Ps])), by rw [(f.2.2.2 165 21 (by omega) (hP _ _ (by simp [Ps]))).1]; exact h2, fun k hk => by rw [(f.2.2.2 175 k (by omega) (hP _ _ (by simp [Ps]))).1]; exact h3 k hk⟩
theorem Jb.fg {P : Nat → Nat → Prop} {h h' : hp} (w : WF h) (H : Jb h) (f : FG P h h') (hP : ∀ x k, Pb x k → ¬ P x k) : Jb h' := by
  obtain ⟨n, h1, h2, h3⟩ := H
  have hn := w.2.2
  exact ⟨n, h1, by rw [(f.2.2.2 65 3 (by omega) (hP _ _ (by simp [Pb]))).1]; exact h2, by rw [(f.2.2.2 165 24 (by omega) (hP _ _ (by simp [Pb]))).1]; exact h3⟩
theorem Jp.fg {P : Nat → Nat → Prop} {h h' : hp} (w : WF h) (H : Jp h) (f : FG P h h') (hP : ∀ x k, Pp x k → ¬ P x k) : Jp h' := by
  have hn := w.2.2
  unfold Jp at *
  rw [(f.2.2.2 64 8 (by omega) (hP _ _ (by simp [Pp]))).1, (f.2.2.2 165 38 (by omega) (hP _ _ (by simp [Pp]))).1]; exact H
theorem Jw.fg {P : Nat → Nat → Prop} {h h' : hp} (w : WF h) (H : Jw h) (f : FG P h h') (hP : ∀ x k, Pw x k → ¬ P x k) : Jw h' := by
  obtain ⟨n, h1, h2, h3, h4⟩ := H
  have hn := w.2.2
  have e := fun x k (hx : x < 204) (q : Pw x k) => (f.2.2.2 x k (by omega) (hP x k q)).1
  refine ⟨n, h1, by rw [e 86 1 (by decide) (by simp [Pw])]; exact h2, by rw [e 165 47 (by decide) (by simp [Pw])]; exact h3, fun i hi => ?_⟩
  rw [e 87 _ (by decide) (by simp [Pw]), e 87 _ (by decide) (by simp [Pw]), e 87 _ (by decide) (by simp [Pw]), e 189 _ (by decide) (by simp [Pw]), e 190 _ (by decide) (by simp [Pw]), e 191 _ (by decide) (by simp [Pw])]
  exact h4 i hi
theorem Jr.fg {P : Nat → Nat → Prop} {h h' : hp} (w : WF h) (H : Jr h) (f : FG P h h') (hP : ∀ x k, Pr x k → ¬ P x k) : Jr h' := by
  have hn := w.2.2
  have e := fun x k (hx : x < 204) (q : Pr x k) => f.2.2.2 x k (by omega) (hP x k q)
  intro r hr
  have q1 : ∀ k, Pr (89 + 3 * r) k := fun k => .inl (by omega)
  have q2 : ∀ k, Pr (90 + 3 * r) k := fun k => .inl (by omega)
  have q3 : ∀ k, Pr (91 + 3 * r) k := fun k => .inl (by omega)
  have q4 : ∀ x k, 192 ≤ x → x ≤ 195 → Pr x k := fun x k a b => .inr ⟨a, b⟩
  unfold RW
  rw [(e _ 0 (by omega) (q1 0)).1, (e _ 1 (by omega) (q1 1)).1, (e 192 r (by decide) (q4 _ _ (by decide) (by decide))).1, (e 193 r (by decide) (q4 _ _ (by decide) (by decide))).1]
  rcases H r hr with h1 | ⟨s, n, h1, h2, h3, h4, h5, h6, h7, h8⟩
  · exact .inl h1
  · refine .inr ⟨s, n, h1, h2, h3, h4, h5, h6, fun hs k hk => ?_, fun hs k hk => ?_⟩
    · rw [(e _ k (by omega) (q2 k)).1, (e 194 _ (by decide) (q4 _ _ (by decide) (by decide))).1]; exact h7 hs k hk
    · rw [(e _ k (by omega) (q3 k)).2.1, (e 195 _ (by decide) (q4 _ _ (by decide) (by decide))).2.1]; exact h8 hs k hk
/-- a call of both: the same answer, what is changed, what holds then -/
def C2 {α : Type} (f g : hp → Option (α × hp)) (h : hp) (P : Nat → Nat → Prop) (J : hp → Prop) : Prop := ∃ a h1 h2, f h = some (a, h1) ∧ g h1 = some (a, h2) ∧ FS P h h2 ∧ J h2
theorem zck_ite {c : Prop} [Decidable c] : zck (if c then (1 : Int32) else 0) = some () := by
  unfold zck; split <;> rfl
theorem am_e (v : Int32) (n : Nat) (hn : n < 2147483648) (h : hp) : fX13_among v (iN n) h = some (if 0 ≤ v.toInt ∧ v.toInt < n then 1 else 0, h) := by
  unfold fX13_among
  have e : v < 0 ↔ v.toInt < 0 := by rw [Int32.lt_iff_toInt_lt, show (0 : Int32).toInt = 0 by decide]
  have e2 : iN n ≤ v ↔ (n : Int) ≤ v.toInt := by rw [Int32.le_iff_toInt_le, i_toInt hn]
  by_cases c : v < 0
  · rw [if_pos c, if_neg (by rw [e] at c; omega)]
  · rw [if_neg c]
    by_cases c2 : iN n ≤ v
    · rw [if_pos c2, if_neg (by rw [e2] at c2; omega)]
    · rw [if_neg c2, if_pos (by rw [e] at c; rw [e2] at c2; omega)]
theorem mIsV (v : Int32) (h : hp) : fX14_isVariable v h = some (if 0 ≤ v.toInt ∧ v.toInt < 8 then 1 else 0, h) := by
  unfold fX14_isVariable
  rw [isIn_e, bd2_s, zck_ite, Option.bind_some, Int32.toInt_toInt64, show (0 : Int64).toInt = 0 by decide, show (7 : Int64).toInt = 7 by decide]
  by_cases c : 0 ≤ v.toInt ∧ v.toInt < 8
  · rw [if_pos c, if_pos (by omega)]
  · rw [if_neg c, if_neg (by omega)]
theorem i_of2 {v : Int32} {n : Nat} (h : 0 ≤ v.toInt ∧ v.toInt < n) : ∃ k, k < n ∧ v = iN k := by
  obtain ⟨k, rfl, hk⟩ := i_of (x := v) (by rw [Int32.le_iff_toInt_le, show (0 : Int32).toInt = 0 by decide]; exact h.1)
  rw [i_toInt hk] at h
  exact ⟨k, by omega, rfl⟩
theorem cVar {h : hp} (w : WF h) (v : Int32) : (∃ k, k < 8 ∧ v = iN k ∧ fX9_variable 65 v h = some (70 + 2 * k, h)) ∨ (¬ (0 ≤ v.toInt ∧ v.toInt < 8) ∧ fX9_variable 65 v h = some (0, h)) := by
  by_cases c : 0 ≤ v.toInt ∧ v.toInt < 8
  · obtain ⟨k, hk, rfl⟩ := i_of2 (n := 8) c
    refine .inl ⟨k, hk, rfl, ?_⟩
    have z : ¬ ((1 : Int32) = 0) := by decide
    have c' : 0 ≤ (iN k).toInt ∧ (iN k).toInt < ((8 : Nat) : Int) := c
    unfold fX9_variable
    rw [show fX13_among (iN k) 8 h = _ from am_e (iN k) 8 (by decide) h, bd2_s, if_pos c', if_neg z]
    unfold gfR
    rw [T65 w, if_pos rfl, Option.bind_some, R65_0 w, alR_e (T66 w) hk (by decide), Option.bind_some, Rval w hk]
  · refine .inr ⟨c, ?_⟩
    have c' : ¬ (0 ≤ v.toInt ∧ v.toInt < ((8 : Nat) : Int)) := c
    unfold fX9_variable
    rw [show fX13_among v 8 h = _ from am_e v 8 (by decide) h, bd2_s, if_neg c', if_pos rfl]
theorem gR64 {h : hp} (w : WF h) (k : Nat) : gfR h 64 12 k = some (hR h 64 k) := by unfold gfR; rw [T64 w]; rfl
theorem gI64 {h : hp} (w : WF h) (k : Nat) : gfI h 64 12 k = some (hI h 64 k) := by unfold gfI; rw [T64 w]; rfl
theorem ck65 {h : hp} (w : WF h) : ckT h 65 8 = some () := by unfold ckT; rw [T65 w]; rfl
theorem ckV {h : hp} {a b : Nat} (H : VO h a b) : ckT h a 10 = some () := by unfold ckT; rw [H.1]; rfl
theorem ckN {h : hp} {a b c : Nat} (H : NO h a b c) : ckT h a 4 = some () := by unfold ckT; rw [H.1]; rfl
theorem gIV {h : hp} {a b : Nat} (H : VO h a b) (k : Nat) : gfI h a 10 k = some (hI h a k) := by unfold gfI; rw [H.1]; rfl
theorem gIN {h : hp} {a b c : Nat} (H : NO h a b c) (k : Nat) : gfI h a 4 k = some (hI h a k) := by unfold gfI; rw [H.1]; rfl
/-- variables, one of them told anew -/
theorem Jv.set {h h' : hp} {v : Nat} {V : vT} (w : WF h) (hv : v < 8) (vs : Nat → vT) (H : ∀ u, u < 8 → CV h (70 + 2 * u) (71 + 2 * u) (vs u) ∧ MV h u (vs u) ∧ gV (vs u)) (f : FS (fun x k => x = 70 + 2 * v ∨ x = 71 + 2 * v ∨ sP v x k ∨ Pz x k ∨ Pt x k ∨ Pw x k) h h') (C : CV h' (70 + 2 * v) (71 + 2 * v) V) (M : MV h' v V) (g : gV V) : Jv h' := by
  refine ⟨fun u => if u = v then V else vs u, fun u hu => ?_⟩
  have hn := w.2.2
  by_cases c : u = v
  · subst c; simp only [if_true]; exact ⟨C, M, g⟩
  · simp only [if_neg c]
    obtain ⟨h1, h2, h3⟩ := H u hu
    refine ⟨h1.fg f.fg (by omega) (by omega) (fun k => ?_) (fun k => ?_), h2.fg w f.fg (fun x k q => ?_), h3⟩
    · unfold sP Pz Pt Pw; omega
    · unfold sP Pz Pt Pw; omega
    · unfold sP Pz Pt Pw at *; omega

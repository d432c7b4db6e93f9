/-! the class's reader: its object, what it leaves as it is, single signs -/
theorem FG.wf {P : Nat → Nat → Prop} {h h' : hp} (f : FG P h h') (w : WF h) (hP : ∀ x k, P x k → 204 ≤ x) : WF h' := by
  have hn := w.2.2
  refine ⟨fun i hi => by rw [f.2.2.1 _ (by omega)]; exact w.1 i hi, fun q hm => ?_, by have := f.1; omega⟩
  have hq : q.1 < 204 := by
    have : ∀ q ∈ R0l, q.1 < 204 := by decide +kernel
    exact this q hm
  rw [(f.2.2.2 q.1 q.2.1 (by omega) (fun z => by have := hP _ _ z; omega)).2.2]
  exact w.2.1 q hm
/-- what a reader changes -/
def KP (o tp bx x k : Nat) : Prop := (x = o ∧ 2 ≤ k ∧ k ≤ 5) ∨ (x = tp ∧ (k = 4 ∨ k = 6 ∨ k = 7)) ∨ x = bx
/-- a reader -/
def RD (h : hp) (o tp bx : Nat) (L : List Int32) : Prop := WF h ∧ hT h o = (6, 6) ∧ hR h o 0 = 128 ∧ hR h o 1 = tp ∧ hT h tp = (9, 8) ∧ hR h tp 1 = bx ∧ hT h bx = (103, 4) ∧ NL h 128 129 160 L ∧ (204 ≤ o ∧ o < 64 + hN h) ∧ (204 ≤ tp ∧ tp < 64 + hN h) ∧ (204 ≤ bx ∧ bx < 64 + hN h) ∧ (o ≠ tp ∧ o ≠ bx ∧ tp ≠ bx) ∧ ∀ k, k < L.length → 1 ≤ (L.getD k 0).toInt ∧ (L.getD k 0).toInt ≤ 127
theorem RD.fg {h h' : hp} {o tp bx : Nat} {L : List Int32} (R : RD h o tp bx L) (f : FG (KP o tp bx) h h') : RD h' o tp bx L := by
  obtain ⟨w, r1, r2, r3, r4, r5, r6, r7, r8, r9, r10, r11, r12⟩ := R
  have hn := w.2.2
  have f1 := f.1
  refine ⟨f.wf w fun x k q => by unfold KP at q; omega, by rw [f.2.2.1 o r8.2]; exact r1, ?_, ?_, by rw [f.2.2.1 tp r9.2]; exact r4, ?_, by rw [f.2.2.1 bx r10.2]; exact r6, r7.fg f (by omega) (by omega) (fun k q => by unfold KP at q; omega) (fun k q => by unfold KP at q; omega), by omega, by omega, by omega, r11, r12⟩
  · rw [(f.2.2.2 o 0 r8.2 (fun q => by unfold KP at q; omega)).2.2]; exact r2
  · rw [(f.2.2.2 o 1 r8.2 (fun q => by unfold KP at q; omega)).2.2]; exact r3
  · rw [(f.2.2.2 tp 1 r9.2 (fun q => by unfold KP at q; omega)).2.2]; exact r5
theorem gO {h : hp} {o tp bx : Nat} {L : List Int32} (R : RD h o tp bx L) (k : Nat) : gfI h o 6 k = some (hI h o k) := by unfold gfI; rw [R.2.1]; rfl
theorem gOR {h : hp} {o tp bx : Nat} {L : List Int32} (R : RD h o tp bx L) (k : Nat) : gfR h o 6 k = some (hR h o k) := by unfold gfR; rw [R.2.1]; rfl
theorem pO {h : hp} {o tp bx : Nat} {L : List Int32} (R : RD h o tp bx L) (k : Nat) (v : Int32) : pfI h o 6 k v = some (pI h o k v) := by unfold pfI; rw [R.2.1]; rfl
theorem ckO {h : hp} {o tp bx : Nat} {L : List Int32} (R : RD h o tp bx L) : ckT h o 6 = some () := by unfold ckT; rw [R.2.1]; rfl
theorem gTp {h : hp} {o tp bx : Nat} {L : List Int32} (R : RD h o tp bx L) (k : Nat) : gfI h tp 9 k = some (hI h tp k) := by unfold gfI; rw [R.2.2.2.2.1]; rfl
theorem pTp {h : hp} {o tp bx : Nat} {L : List Int32} (R : RD h o tp bx L) (k : Nat) (v : Int32) : pfI h tp 9 k v = some (pI h tp k v) := by unfold pfI; rw [R.2.2.2.2.1]; rfl
theorem FG.pI {P : Nat → Nat → Prop} {h : hp} {a k : Nat} {v : Int32} (q : P a k) : FG P h (pI h a k v) := (FS.pI q).fg
theorem RD.pO {h : hp} {o tp bx : Nat} {L : List Int32} (R : RD h o tp bx L) {k : Nat} (v : Int32) (hk : 2 ≤ k ∧ k ≤ 5) : RD (pI h o k v) o tp bx L := R.fg (FG.pI (.inl ⟨rfl, hk⟩))
theorem FG.nw {P : Nat → Nat → Prop} (h : hp) (t n : Nat) : FG P h (nw h t n) := by
  refine ⟨by rw [hN_nw]; omega, by rw [hL_nw]; omega, fun x hx => ?_, fun x k _ _ => ⟨rfl, rfl, rfl⟩⟩
  rw [hT_nw]; dsimp only; rw [if_neg (by omega)]
/-- what a place of the text holds, wherever it is -/
def hv (L : List Int32) (v : Int32) : Int32 := if 0 ≤ v.toInt ∧ v.toInt < L.length then L.getD v.toNatClampNeg 0 else -1
theorem hv_e {L : List Int32} {p : Nat} (hp' : p < 2147483648) : hv L (iN p) = hereL L p := by
  unfold hv hereL
  rw [i_toInt hp', i_clamp hp']
  by_cases c : p < L.length
  · rw [if_pos c, if_pos (by omega)]
  · rw [if_neg c, if_neg (by omega)]
theorem peek_e {h : hp} {o tp bx : Nat} {L : List Int32} (R : RD h o tp bx L) : fX7_peek o h = some (hv L (hI h o 2), h) := by
  have w := R.1
  have N := R.2.2.2.2.2.2.2.1
  have hL := N.2.2.1
  have gl : aln 0 h 129 = some (iN 160) := by unfold aln; rw [T129 w]; rfl
  have k1 : hI h o 2 < 0 ↔ (hI h o 2).toInt < 0 := by rw [Int32.lt_iff_toInt_lt, show (0 : Int32).toInt = 0 by decide]
  have k2 : iN L.length ≤ hI h o 2 ↔ (L.length : Int) ≤ (hI h o 2).toInt := by rw [Int32.le_iff_toInt_le, i_toInt (by omega)]
  have k3 : iN 160 ≤ hI h o 2 ↔ (160 : Int) ≤ (hI h o 2).toInt := by rw [Int32.le_iff_toInt_le, i_toInt (by omega)]; exact Iff.rfl
  unfold fX7_peek hv
  simp only [gO R, gOR R, Option.bind_some, R.2.2.1, gIN N.1, N.2.1, show gfR h 128 4 0 = some (hR h 128 0) by unfold gfR; rw [T128 w]; rfl, R128_0 w, gl]
  by_cases c1 : hI h o 2 < 0
  · rw [if_pos c1, if_neg (fun q => by rw [k1] at c1; omega)]
  rw [if_neg c1]
  by_cases c2 : iN L.length ≤ hI h o 2
  · rw [if_pos c2, if_neg (fun q => by rw [k2] at c2; omega)]
  rw [if_neg c2]
  rw [k1] at c1
  rw [k2] at c2
  obtain ⟨p, hp', e⟩ := i_of2 (v := hI h o 2) (n := L.length) (by omega)
  rw [if_neg (fun q => by rw [k3] at q; omega), if_pos (by omega), e, al_e (T129 w) (by omega) (by decide), Option.bind_some, i_clamp (by omega), N.2.2.2 p hp']
theorem peek_p {h : hp} {o tp bx p : Nat} {L : List Int32} (R : RD h o tp bx L) (hp' : p < 2147483648) (e : hI h o 2 = iN p) : fX7_peek o h = some (hereL L p, h) := by rw [peek_e R, e, hv_e hp']
theorem refuse_p {h : hp} {o tp bx : Nat} {L : List Int32} (R : RD h o tp bx L) (f : hI h o 4 = -1) : fX7_refuse o h = some (pI h o 4 (hI h o 2)) := by
  unfold fX7_refuse
  rw [gO R, Option.bind_some, f, if_neg n0_le, gO R, Option.bind_some, pO R, Option.bind_some]
theorem refuse_g {h : hp} {o tp bx : Nat} {L : List Int32} (R : RD h o tp bx L) (f : 0 ≤ hI h o 4) : fX7_refuse o h = some h := by
  unfold fX7_refuse
  rw [gO R, Option.bind_some, if_pos f]
/-- what isn't laid yet is empty -/
def ZH (h : hp) : Prop := ∀ x k, 64 + hN h ≤ x → hI h x k = 0 ∧ hF h x k = 0 ∧ hR h x k = 0
theorem FS.zh {P : Nat → Nat → Prop} {h h' : hp} (f : FS P h h') (z : ZH h) (hP : ∀ x k, P x k → x < 64 + hN h) : ZH h' := by
  intro x k hx
  rw [f.1] at hx
  have e := f.2.2.2.2 x k (fun q => by have := hP x k q; omega)
  rw [e.1, e.2, f.2.2.2.1]
  exact z x k hx
theorem ZH.nw {h : hp} (z : ZH h) (t n : Nat) : ZH (nw h t n) := fun x k hx => by
  rw [hN_nw] at hx
  exact z x k (by omega)
theorem ZH.pI {h : hp} (z : ZH h) {a : Nat} (k : Nat) (v : Int32) (ha : a < 64 + hN h) : ZH (pI h a k v) := fun x j hx => by
  rw [hN_pI] at hx
  rw [hI_pI, if_neg (by omega)]
  exact z x j hx
theorem ZH.pR {h : hp} (z : ZH h) {a : Nat} (k v : Nat) (ha : a < 64 + hN h) : ZH (pR h a k v) := fun x j hx => by
  rw [hN_pR] at hx
  rw [hR_pR, if_neg (by omega)]
  exact z x j hx
/-- a step of a reader -/
def KS (o tp bx : Nat) (h h' : hp) : Prop := FG (KP o tp bx) h h' ∧ ZH h'
theorem KS.tr {o tp bx : Nat} {h h1 h2 : hp} (a : KS o tp bx h h1) (b : KS o tp bx h1 h2) : KS o tp bx h h2 := ⟨a.1.tr b.1, b.2⟩
theorem KS.pO {h : hp} {o tp bx : Nat} {L : List Int32} (R : RD h o tp bx L) (z : ZH h) {k : Nat} (v : Int32) (hk : 2 ≤ k ∧ k ≤ 5) : KS o tp bx h (pI h o k v) := ⟨FG.pI (.inl ⟨rfl, hk⟩), z.pI k v R.2.2.2.2.2.2.2.2.1.2⟩
/-- the reader at a place, with no fault: place, line, nodes, masks -/
def RO (h : hp) (o tp : Nat) (L : List Int32) (p : Nat) : Prop := hI h o 2 = iN p ∧ hI h o 3 = iN (lnAt L p) ∧ hI h o 4 = -1 ∧ p ≤ L.length
/-- the same places but the reader's -/
theorem expect_p {h : hp} {o tp bx p : Nat} {L : List Int32} (R : RD h o tp bx L) (z : ZH h) (hp' : p < 2147483647) (e : hI h o 2 = iN p) (f : hI h o 4 = -1) (c : Int32) : ∃ h', fX7_expect o c h = some h' ∧ KS o tp bx h h' ∧ hN h' = hN h ∧ hL h' = hL h ∧ h' = (if hereL L p = c then pI h o 2 (iN (p + 1)) else pI h o 4 (iN p)) := by
  unfold fX7_expect
  rw [ckO R, Option.bind_some, peek_p R (by omega) e, bd2_s]
  by_cases c1 : hereL L p = c
  · rw [if_pos c1, gO R, Option.bind_some, pO R, Option.bind_some, e, i_succ, if_pos c1]
    exact ⟨_, rfl, KS.pO R z _ (by decide), rfl, rfl, rfl⟩
  · rw [if_neg c1, ckO R, Option.bind_some, refuse_p R f, Option.bind_some, e, if_neg c1]
    exact ⟨_, rfl, KS.pO R z _ (by decide), rfl, rfl, rfl⟩
/-- with a fault told -/
def RG (h : hp) (o : Nat) (f : Nat) : Prop := hI h o 4 = iN f ∧ f < 2147483648
theorem RG.le {h : hp} {o f : Nat} (g : RG h o f) : 0 ≤ hI h o 4 := by rw [g.1]; exact i0_le f g.2
theorem expect_g {h : hp} {o tp bx f : Nat} {L : List Int32} (R : RD h o tp bx L) (z : ZH h) (g : RG h o f) (c : Int32) : ∃ h', fX7_expect o c h = some h' ∧ KS o tp bx h h' ∧ hN h' = hN h ∧ hL h' = hL h ∧ RG h' o f := by
  unfold fX7_expect
  rw [ckO R, Option.bind_some, peek_e R, bd2_s]
  by_cases c1 : hv L (hI h o 2) = c
  · rw [if_pos c1, gO R, Option.bind_some, pO R, Option.bind_some]
    exact ⟨_, rfl, KS.pO R z _ (by decide), rfl, rfl, by rw [hI_pI, if_neg (by omega)]; exact g.1, g.2⟩
  · rw [if_neg c1, ckO R, Option.bind_some, refuse_g R g.le, Option.bind_some]
    exact ⟨_, rfl, ⟨FG.rf _ _, z⟩, rfl, rfl, g⟩

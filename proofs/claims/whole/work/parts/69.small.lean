/-! the class's reader: small things read, with no fault so far and with one -/
def KO (o x k : Nat) : Prop := x = o ∧ 2 ≤ k ∧ k ≤ 5
/-- a step that changes only the reader's own numbers (and lays new objects) -/
def SS (o : Nat) (h h' : hp) (a b : Nat) : Prop := FG (KO o) h h' ∧ ZH h' ∧ hN h' ≤ hN h + a ∧ hL h' ≤ hL h + b
theorem SS.tr {o a b c d : Nat} {h h1 h2 : hp} (x : SS o h h1 a b) (y : SS o h1 h2 c d) : SS o h h2 (a + c) (b + d) :=
  ⟨x.1.tr y.1, y.2.1, by have := x.2.2.1; have := y.2.2.1; omega, by have := x.2.2.2; have := y.2.2.2; omega⟩
theorem SS.up {o a b c d : Nat} {h h1 : hp} (x : SS o h h1 a b) (y : a ≤ c) (z : b ≤ d) : SS o h h1 c d :=
  ⟨x.1, x.2.1, by have := x.2.2.1; omega, by have := x.2.2.2; omega⟩
theorem SS.rf {o : Nat} {h : hp} (z : ZH h) : SS o h h 0 0 := ⟨FG.rf _ _, z, Nat.le_refl _, Nat.le_refl _⟩
theorem SS.rd {o tp bx a b : Nat} {h h1 : hp} {L : List Int32} (x : SS o h h1 a b) (R : RD h o tp bx L) : RD h1 o tp bx L := R.fg (x.1.up fun _ _ q => .inl q)
theorem SS.pO {o tp bx : Nat} {h : hp} {L : List Int32} (R : RD h o tp bx L) (z : ZH h) {k : Nat} (v : Int32) (hk : 2 ≤ k ∧ k ≤ 5) : SS o h (pI h o k v) 0 0 := ⟨FG.pI ⟨rfl, hk⟩, z.pI k v R.2.2.2.2.2.2.2.2.1.2, Nat.le_refl _, Nat.le_refl _⟩
theorem SS.nw {o : Nat} {h : hp} (z : ZH h) (t n : Nat) : SS o h (nw h t n) 1 n := ⟨FG.nw h t n, z.nw t n, by rw [hN_nw]; omega, by rw [hL_nw]; omega⟩
theorem RG.pO {h : hp} {o f : Nat} (g : RG h o f) {k : Nat} (v : Int32) (hk : k ≠ 4) : RG (pI h o k v) o f := ⟨by rw [hI_pI, if_neg (by omega)]; exact g.1, g.2⟩
theorem here_lt {L : List Int32} {p : Nat} {c : Int32} (e : hereL L p = c) (hc : c ≠ -1) : p < L.length ∧ L.getD p 0 = c := by
  unfold hereL at e
  by_cases q : p < L.length
  · rw [if_pos q] at e; exact ⟨q, e⟩
  · rw [if_neg q] at e; exact absurd e.symm hc
theorem ln_same {L : List Int32} {p : Nat} (hc : L.getD p 0 ≠ 10) : lnAt L (p + 1) = lnAt L p := by
  show lnAt L p + (if L.getD p 0 = 10 then 1 else 0) = lnAt L p
  rw [if_neg hc]; rfl
theorem ln_more {L : List Int32} {p : Nat} (hc : L.getD p 0 = 10) : lnAt L (p + 1) = lnAt L p + 1 := by
  show lnAt L p + (if L.getD p 0 = 10 then 1 else 0) = lnAt L p + 1
  rw [if_pos hc]
theorem RO.step {h : hp} {o tp p : Nat} {L : List Int32} (r : RO h o tp L p) (hl : p < L.length) (hc : L.getD p 0 ≠ 10) : RO (pI h o 2 (iN (p + 1))) o tp L (p + 1) := by
  obtain ⟨r1, r2, r3, r4⟩ := r
  exact ⟨by rw [hI_pI, if_pos ⟨rfl, rfl⟩], by rw [hI_pI, if_neg (by omega), ln_same hc]; exact r2, by rw [hI_pI, if_neg (by omega)]; exact r3, hl⟩
theorem RD.len {h : hp} {o tp bx : Nat} {L : List Int32} (R : RD h o tp bx L) : L.length ≤ 160 := R.2.2.2.2.2.2.2.1.2.2.1
theorem RO.lt {h : hp} {o tp bx p : Nat} {L : List Int32} (r : RO h o tp L p) (R : RD h o tp bx L) : p ≤ 160 := Nat.le_trans r.2.2.2 R.len
theorem RG.of {h : hp} {o p : Nat} (hp' : p < 2147483648) : RG (pI h o 4 (iN p)) o p := ⟨by rw [hI_pI, if_pos ⟨rfl, rfl⟩], hp'⟩
/-- a sign -/
theorem sign_o {h : hp} {o tp bx p : Nat} {L : List Int32} (R : RD h o tp bx L) (z : ZH h) (r : RO h o tp L p) {c : Int32} (hc : c ≠ -1 ∧ c ≠ 10) : (pSign L c p = .inl ((), p + 1) ∧ ∃ h', fX7_expect o c h = some h' ∧ SS o h h' 0 0 ∧ RO h' o tp L (p + 1)) ∨ (pSign L c p = .inr p ∧ ∃ h', fX7_expect o c h = some h' ∧ SS o h h' 0 0 ∧ RG h' o p) := by
  have hp' := r.lt R
  unfold fX7_expect pSign
  rw [ckO R, Option.bind_some, peek_p R (by omega) r.1, bd2_s]
  by_cases c1 : hereL L p = c
  · obtain ⟨l1, l2⟩ := here_lt c1 hc.1
    rw [if_pos c1, if_pos c1, gO R, Option.bind_some, pO R, Option.bind_some, r.1, i_succ]
    exact .inl ⟨rfl, _, rfl, SS.pO R z _ (by decide), r.step l1 (by rw [l2]; exact hc.2)⟩
  · rw [if_neg c1, if_neg c1, ckO R, Option.bind_some, refuse_p R r.2.2.1, Option.bind_some, r.1]
    exact .inr ⟨rfl, _, rfl, SS.pO R z _ (by decide), RG.of (by omega)⟩
theorem sign_g {h : hp} {o tp bx f : Nat} {L : List Int32} (R : RD h o tp bx L) (z : ZH h) (g : RG h o f) (c : Int32) : ∃ h', fX7_expect o c h = some h' ∧ SS o h h' 0 0 ∧ RG h' o f := by
  unfold fX7_expect
  rw [ckO R, Option.bind_some, peek_e R, bd2_s]
  by_cases c1 : hv L (hI h o 2) = c
  · rw [if_pos c1, gO R, Option.bind_some, pO R, Option.bind_some]
    exact ⟨_, rfl, SS.pO R z _ (by decide), g.pO _ (by decide)⟩
  · rw [if_neg c1, ckO R, Option.bind_some, refuse_g R g.le, Option.bind_some]
    exact ⟨_, rfl, SS.rf z, g⟩
/-- a byte of the text is small -/
theorem here_b {h : hp} {o tp bx : Nat} {L : List Int32} (R : RD h o tp bx L) (p : Nat) : -1 ≤ (hereL L p).toInt ∧ (hereL L p).toInt ≤ 127 := by
  unfold hereL
  by_cases q : p < L.length
  · rw [if_pos q]; have := R.2.2.2.2.2.2.2.2.2.2.2.2 p q; omega
  · rw [if_neg q]; decide
theorem one_of {v : Int32} {lo n : Nat} (hb : -1 ≤ v.toInt ∧ v.toInt ≤ 127) (hlo : lo ≤ 127) (hn : n ≤ 127) (h : hp) : fX13_among (v - iN lo) (iN n) h = some (if (lo : Int) ≤ v.toInt ∧ v.toInt < (lo + n : Nat) then 1 else 0, h) := by
  have e : (v - iN lo).toInt = v.toInt - lo := by
    rw [Int32.toInt_sub, i_toInt (by omega), Int.bmod_eq_of_le (by omega) (by omega)]
  rw [am_e _ _ (by omega), e]
  by_cases c : (lo : Int) ≤ v.toInt ∧ v.toInt < (lo + n : Nat)
  · rw [if_pos c, if_pos (by omega)]
  · rw [if_neg c, if_neg (by omega)]
theorem one_v {v : Int32} {lo n : Nat} (hn : lo + n ≤ 200) (c : (lo : Int) ≤ v.toInt ∧ v.toInt < (lo + n : Nat)) : v - iN lo = iN (v.toInt.toNat - lo) ∧ v.toInt.toNat - lo < n := by
  refine ⟨Int32.toInt_inj.mp ?_, by omega⟩
  rw [Int32.toInt_sub, i_toInt (by omega), i_toInt (by omega), Int.bmod_eq_of_le (by omega) (by omega)]
  omega
theorem one_o {h : hp} {o tp bx p lo n : Nat} {L : List Int32} (R : RD h o tp bx L) (z : ZH h) (r : RO h o tp L p) (hlo : 11 ≤ lo) (hn : lo + n ≤ 127) : (∃ k, k < n ∧ pOne L lo n p = .inl (k, p + 1) ∧ ∃ h', fX7_readOneOf o (iN lo) (iN n) h = some (iN k, h') ∧ SS o h h' 0 0 ∧ RO h' o tp L (p + 1)) ∨ (pOne L lo n p = .inr p ∧ ∃ h', fX7_readOneOf o (iN lo) (iN n) h = some (0, h') ∧ SS o h h' 0 0 ∧ RG h' o p) := by
  have hp' := r.lt R
  unfold fX7_readOneOf pOne
  rw [ckO R, Option.bind_some, peek_p R (by omega) r.1, bd2_s, one_of (here_b R p) (by omega) (by omega), bd2_s]
  by_cases c1 : (lo : Int) ≤ (hereL L p).toInt ∧ (hereL L p).toInt < (lo + n : Nat)
  · obtain ⟨v1, v2⟩ := one_v (by omega) c1
    have nz : hereL L p ≠ -1 := fun q => by
      rw [q, show (-1 : Int32).toInt = -1 by decide] at c1
      omega
    obtain ⟨l1, l2⟩ := here_lt (L := L) (p := p) rfl nz
    rw [if_pos c1, if_pos c1, if_neg z10, gO R, Option.bind_some, pO R, Option.bind_some, r.1, i_succ, v1]
    refine .inl ⟨_, v2, rfl, _, rfl, SS.pO R z _ (by decide), r.step l1 fun q => ?_⟩
    rw [l2] at q
    rw [q, show (10 : Int32).toInt = 10 by decide] at c1
    omega
  · rw [if_neg c1, if_neg c1, if_pos rfl, ckO R, Option.bind_some, refuse_p R r.2.2.1, Option.bind_some, r.1]
    exact .inr ⟨rfl, _, rfl, SS.pO R z _ (by decide), RG.of (by omega)⟩
theorem one_g {h : hp} {o tp bx f : Nat} {L : List Int32} (R : RD h o tp bx L) (z : ZH h) (g : RG h o f) (lo n : Int32) : ∃ v h', fX7_readOneOf o lo n h = some (v, h') ∧ SS o h h' 0 0 ∧ RG h' o f := by
  have ha : ∀ v : Int32, ∃ y, fX13_among v n h = some (y, h) := fun v => by
    unfold fX13_among
    by_cases c1 : v < 0
    · rw [if_pos c1]; exact ⟨_, rfl⟩
    · rw [if_neg c1]
      by_cases c2 : n ≤ v
      · rw [if_pos c2]; exact ⟨_, rfl⟩
      · rw [if_neg c2]; exact ⟨_, rfl⟩
  obtain ⟨y, hy⟩ := ha (hv L (hI h o 2) - lo)
  unfold fX7_readOneOf
  rw [ckO R, Option.bind_some, peek_e R, bd2_s, hy, bd2_s]
  by_cases c1 : y = 0
  · rw [if_pos c1, ckO R, Option.bind_some, refuse_g R g.le, Option.bind_some]
    exact ⟨_, _, rfl, SS.rf z, g⟩
  · rw [if_neg c1, gO R, Option.bind_some, pO R, Option.bind_some]
    exact ⟨_, _, rfl, SS.pO R z _ (by decide), g.pO _ (by decide)⟩

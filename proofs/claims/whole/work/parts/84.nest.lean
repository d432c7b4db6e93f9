/-! the class's reader: levels; what is inside, with a fault told -/
theorem nest_o {h : hp} {o tp bx p d : Nat} {L : List Int32} (R : RD h o tp bx L) (z : ZH h) (r : RO h o tp L p) (hd : d < 2147483648) (hl : p < L.length) (hc : L.getD p 0 ≠ 10) :
    (d ≤ 3 → ∃ h', fX7_readNested o (iN d) h = some h' ∧ SS o h h' 0 0 ∧ RO h' o tp L (p + 1)) ∧ (¬ d ≤ 3 → ∃ h', fX7_readNested o (iN d) h = some h' ∧ SS o h h' 0 0 ∧ RG h' o p) := by
  have hlen := R.len
  have k4 : iN d < 4 ↔ d < 4 := by rw [i_lt_lit (by decide) hd]
  refine ⟨fun c => ?_, fun c => ?_⟩
  · unfold fX7_readNested
    rw [jn_e, if_pos (by rw [k4]; omega)]; dsimp only
    rw [gO R, Option.bind_some, pO R, Option.bind_some, r.1, i_succ]
    exact ⟨_, rfl, SS.pO R z _ (by decide), r.step hl hc⟩
  · have S1 := SS.pO R z (k := 4) (iN p) (by decide)
    have R1 := S1.rd R
    unfold fX7_readNested
    rw [jn_e, if_neg (by rw [k4]; omega), ckO R, Option.bind_some, refuse_p R r.2.2.1, Option.bind_some, r.1]; dsimp only
    rw [gO R1, Option.bind_some, pO R1, Option.bind_some]
    exact ⟨_, rfl, S1.tr (SS.pO R1 S1.2.1 _ (by decide)), (RG.of (by omega)).pO _ (by decide)⟩
theorem both_g {h : hp} {o tp bx f : Nat} {L : List Int32} (R : RD h o tp bx L) (g : RG h o f) (G : gG0) (v : Nat) (d b : Int32) : fX7_readBoth_b G o v d b h = some h := by
  unfold fX7_readBoth_b
  have n : ¬ (hI h o 4 < 0) := by rw [i_nlt]; exact g.le
  rw [gO R, Option.bind_some, if_neg n]
/-- the end of what is inside -/
def endK (o : Nat) (s : Int32) (h : hp) : Option (Int32 × hp) :=
  (gfI h o 6 2).bind fun v1 =>
  (pfI h o 6 2 (v1 + 2)).bind fun h3 =>
  (ckT h3 o 6).bind fun _ =>
  (fX7_expect o 125 h3).bind fun h6 =>
  (pfZ h6 o 6 5 s).bind fun h8 =>
  some (1, h8)
theorem ends_st (o : Nat) (x d s : Int32) (h : hp) : fX7_endsHere o x d s h = if x = 47 then (if d ≤ 0 then some (0, h) else endK o 0 h) else if x = 58 then (if s = 0 then some (0, h) else endK o 1 h) else some (0, h) := by
  unfold fX7_endsHere
  simp only [jn_e]
  by_cases c1 : x = 47
  · subst c1
    by_cases c2 : d ≤ 0
    · rw [if_pos rfl, if_pos c2, if_neg (by decide), if_pos trivial, if_pos trivial, if_pos rfl, if_pos c2]
    · rw [if_pos rfl, if_neg c2, if_neg (by decide), if_neg z10, if_pos rfl, if_neg c2]; rfl
  · rw [if_neg c1, if_neg c1]
    by_cases c3 : x = 58
    · rw [if_pos c3, if_pos c3]
      by_cases c4 : s = 0
      · rw [if_pos c4, if_pos c4, if_pos trivial, if_pos trivial]
      · rw [if_neg c4, if_neg c4, if_pos trivial, if_neg z10]; rfl
    · rw [if_neg c3, if_neg c3, if_pos trivial, if_pos trivial]
theorem endK_o {h : hp} {o tp bx p : Nat} {L : List Int32} (R : RD h o tp bx L) (z : ZH h) (r : RO h o tp L p) (h0 : hereL L p = 123) {x : Int32} (h1 : hereL L (p + 1) = x) (hx : x ≠ -1 ∧ x ≠ 10) (b : Bool) :
    (pSign L 125 (p + 2) = .inl ((), p + 3) ∧ ∃ h', endK o (if b then 1 else 0) h = some (1, h') ∧ SS o h h' 0 0 ∧ RO h' o tp L (p + 3) ∧ hI h' o 5 = if b then 1 else 0) ∨
    (pSign L 125 (p + 2) = .inr (p + 2) ∧ ∃ h', endK o (if b then 1 else 0) h = some (1, h') ∧ SS o h h' 0 0 ∧ RG h' o (p + 2)) := by
  have hlen := R.len
  obtain ⟨l1, l2⟩ := here_lt h0 (by decide)
  obtain ⟨l3, l4⟩ := here_lt h1 hx.1
  have S1 := SS.pO R z (k := 2) (iN (p + 2)) (by decide)
  have R1 := S1.rd R
  have r1 : RO (pI h o 2 (iN (p + 2))) o tp L (p + 2) := ⟨by rw [hI_pI, if_pos ⟨rfl, rfl⟩], by rw [hI_pI, if_neg (by omega), ln_same (by rw [l4]; exact hx.2), ln_same (by rw [l2]; decide)]; exact r.2.1, by rw [hI_pI, if_neg (by omega)]; exact r.2.2.1, l3⟩
  have e2 : iN p + 2 = iN (p + 2) := i_add p 2
  have pz : ∀ g : hp, RD g o tp bx L → pfZ g o 6 5 (if b then 1 else 0) = some (pI g o 5 (if b then 1 else 0)) := fun g Rg => by
    unfold pfZ
    rw [Rg.2.1, if_pos ⟨rfl, by cases b with
      | true => exact .inr rfl
      | false => exact .inl rfl⟩]
  unfold endK
  rw [gO R, Option.bind_some, pO R, Option.bind_some, r.1, e2, ckO R1, Option.bind_some]
  rcases sign_o R1 S1.2.1 r1 (c := 125) (by decide) with ⟨s3, g, e3, S3, r3⟩ | ⟨s3, g, e3, S3, g3⟩
  · have R3 := S3.rd R1
    rw [e3, Option.bind_some, pz g R3, Option.bind_some]
    exact .inl ⟨s3, _, rfl, (S1.tr S3).tr (SS.pO R3 S3.2.1 _ (by decide)), ⟨by rw [hI_pI, if_neg (by omega)]; exact r3.1, by rw [hI_pI, if_neg (by omega)]; exact r3.2.1, by rw [hI_pI, if_neg (by omega)]; exact r3.2.2.1, r3.2.2.2⟩, by rw [hI_pI, if_pos ⟨rfl, rfl⟩]⟩
  · have R3 := S3.rd R1
    rw [e3, Option.bind_some, pz g R3, Option.bind_some]
    exact .inr ⟨s3, _, rfl, (S1.tr S3).tr (SS.pO R3 S3.2.1 _ (by decide)), g3.pO _ (by decide)⟩

/-! the class's reader: levels; what is inside, with a fault told -/
theorem nest_o {h : hp} {o tp bx p d : Nat} {L : List Int32} (R : RD h o tp bx L) (z : ZH h) (r : RO h o tp L p) (hd : d < 2147483648) (hl : p < L.length) (hc : L.getD p 0 ≠ 10) :
    (d ≤ 3 → ∃ h', fX7_readNested o (iN d) h = some h' ∧ SS o h h' 0 0 ∧ RO h' o tp L (p + 1)) ∧ (¬ d ≤ 3 → ∃ h', fX7_readNested o (iN d) h = some h' ∧ SS o h h' 0 0 ∧ RG h' o p) := by
  have hlen := R.len
  have k4 : iN d < 4 ↔ d < 4 := by rw [i_lt_lit (by decide) hd]
  refine ⟨fun c => ?_, fun c => ?_⟩
  · unfold fX7_readNested
    rw [jn_e, if_pos (by rw [k4]; omega)]; dsimp only
    rw [gO R, Option.bind_some, pO R, Option.bind_some, r.1, i_succ]
    exact ⟨_, rfl, SS.pO R z _ (by decide), r.step hl hc⟩
  · have S1 := SS.pO R z (k := 4) (iN p) (by decide)
    have R1 := S1.rd R
    unfold fX7_readNested
    rw [jn_e, if_neg (by rw [k4]; omega), ckO R, Option.bind_some, refuse_p R r.2.2.1, Option.bind_some, r.1]; dsimp only
    rw [gO R1, Option.bind_some, pO R1, Option.bind_some]
    exact ⟨_, rfl, S1.tr (SS.pO R1 S1.2.1 _ (by decide)), (RG.of (by omega)).pO _ (by decide)⟩
theorem both_g {h : hp} {o tp bx f : Nat} {L : List Int32} (R : RD h o tp bx L) (g : RG h o f) (G : gG0) (v : Nat) (d b : Int32) : fX7_readBoth_b G o v d b h = some h := by
  unfold fX7_readBoth_b
  have n : ¬ (hI h o 4 < 0) := by rw [i_nlt]; exact g.le
  rw [gO R, Option.bind_some, if_neg n]

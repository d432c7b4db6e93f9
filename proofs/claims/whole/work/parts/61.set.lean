/-! rows: set, get -/
def cs (s : Nat) (v : Int64) : Int32 := if s = 0 then (v.toInt32).toInt8.toInt32 else v.toInt32
theorem amn {n k : Nat} (hk : k < n) (hn : n < 2147483648) (h : hp) : fX13_among (iN k) (iN n) h = some (1, h) := by
  rw [am_e _ _ hn, if_pos (by rw [i_toInt (by omega)]; omega)]
theorem put_e {h : hp} (w : WF h) {r s n k : Nat} (hr : r < 6) (hs : s ≤ 2) (hn : n ≤ 60) (h0 : hI h (89 + 3 * r) 0 = iN s) (h1 : hI h (89 + 3 * r) 1 = iN n) (hk : k < n) (v : Int64) : fX8_put (89 + 3 * r) (iN k) v h = some (if s = 2 then pF h (91 + 3 * r) k (FP.l2f v) else pI h (90 + 3 * r) k (cs s v)) := by
  have e2 : iN s = 2 ↔ s = 2 := by rw [i_eq_lit (by decide) (by omega)]
  have e0 : iN s = 0 ↔ s = 0 := by rw [i_eq_lit (by decide) (by omega)]
  unfold fX8_put
  rw [gRow w hr, Option.bind_some, h1, amn hk (by omega), bd2_s, if_neg z10, gRow w hr, Option.bind_some, h0]
  by_cases c2 : s = 2
  · rw [if_pos (e2.mpr c2), gRow3 w hr, Option.bind_some, asC w hr (show k < 60 by omega), Option.bind_some, if_pos c2]
  · rw [if_neg (fun q => c2 (e2.mp q)), gRow2 w hr, Option.bind_some, Option.bind_some, if_neg c2, jn_e]
    unfold cs
    by_cases c0 : s = 0
    · rw [if_pos (e0.mpr c0), if_pos c0]; dsimp only; rw [asB w hr (show k < 60 by omega), Option.bind_some]
    · rw [if_neg (fun q => c0 (e0.mp q)), if_neg c0]; dsimp only; rw [asB w hr (show k < 60 by omega), Option.bind_some]
theorem holds_e {h : hp} (w : WF h) {r s k : Nat} (hr : r < 6) (hs : s ≤ 2) (h0 : hI h 192 r = iN s) (hk : k < 60) (v : Int64) : fX14_holds 165 (iN r) (iN k) v h = some (pF (pI h 194 (60 * r + k) (cs s v)) 195 (60 * r + k) (FP.l2f v)) := by
  have e0 : iN s = 0 ↔ s = 0 := by rw [i_eq_lit (by decide) (by omega)]
  have w1 : ∀ x, WF (pI h 194 (60 * r + k) x) := fun _ => w
  have hq : 60 * r + k < 360 := by omega
  unfold fX14_holds cs
  rw [MR50 w, Option.bind_some, MR48 w, Option.bind_some, ML192 w hr, Option.bind_some, h0, jn_e]
  by_cases c0 : s = 0
  · rw [if_pos (e0.mpr c0), if_pos c0]; dsimp only; rw [px, MS194 w hq, Option.bind_some, MR51 (w1 _), Option.bind_some, MS195 (w1 _) hq, Option.bind_some]
  · rw [if_neg (fun q => c0 (e0.mp q)), if_neg c0]; dsimp only; rw [px, MS194 w hq, Option.bind_some, MR51 (w1 _), Option.bind_some, MS195 (w1 _) hq, Option.bind_some]
theorem no_e {h : hp} (w : WF h) {r : Nat} (hr : r < 6) : fX8_isNothing (89 + 3 * r) h = some (if 0 ≤ hI h (89 + 3 * r) 0 then 0 else 1, h) := by
  unfold fX8_isNothing
  rw [gRow w hr, Option.bind_some]
  by_cases c : 0 ≤ hI h (89 + 3 * r) 0
  · rw [if_pos c, if_pos c]
  · rw [if_neg c, if_neg c]
theorem wrong_e {h : hp} (w : WF h) {r : Nat} (hr : r < 6) : fX14_wrong 165 (iN r) h = some (if 0 ≤ hI h 192 r then 0 else -11, h) := by
  unfold fX14_wrong
  have cr : 0 ≤ (iN r).toInt ∧ (iN r).toInt < 6 := by rw [i_toInt (show r < 2147483648 by omega)]; omega
  rw [isRow_e, bd2_s, if_pos cr, if_neg z10, MR48 w, Option.bind_some, ML192 w hr, Option.bind_some]
  by_cases c : 0 ≤ hI h 192 r
  · rw [if_pos c, if_pos c]
  · rw [if_neg c, if_neg c]
theorem wrong_n {h : hp} {v : Int32} (c : ¬ (0 ≤ v.toInt ∧ v.toInt < 6)) : fX14_wrong 165 v h = some (-1, h) := by
  unfold fX14_wrong
  rw [isRow_e, bd2_s, if_neg c, if_pos rfl]
theorem i0_le (n : Nat) (h : n < 2147483648) : (0 : Int32) ≤ iN n := by rw [i_lit_le (by decide) h]; exact Nat.zero_le _
theorem n0_le : ¬ ((0 : Int32) ≤ -1) := by decide
theorem l2f_g (v : Int64) : Jvm.FP.Core.FFin (FP.l2f v) ∧ (FP.l2f v).toNat ≠ 2 ^ 31 := by
  refine ⟨Jvm.FP.Core.l2f_fin v, fun q => ?_⟩
  by_cases c : v = 0
  · subst c
    have e : FP.l2f 0 = 0 := Jvm.FP.Core.l2f_zero
    rw [e] at q; exact absurd q (by decide)
  · have e : (FP.l2f v).toNat % 2 ^ 31 ≠ 0 := Jvm.FP.Core.l2f_ne_zero c
    rw [q] at e; exact e (by decide)
/-- a place asked for, both ways -/
theorem in_e {n : Nat} (hn : n < 2147483648) (v : Int32) (h : hp) : fX14_isIn v.toInt64 0 (iN n - 1).toInt64 h = some (if 0 ≤ v.toInt ∧ v.toInt < n then 1 else 0, h) := by
  rw [isIn_e, Int32.toInt_toInt64, Int32.toInt_toInt64, last_e hn, show (0 : Int64).toInt = 0 by decide]
  by_cases c : 0 ≤ v.toInt ∧ v.toInt < n
  · rw [if_pos c, if_pos (by omega)]
  · rw [if_neg c, if_neg (by omega)]
theorem call_set {h : hp} (w : WF h) (J : Jr h) (a b : Int32) (v : Int64) : C2 (fX13_set 64 a b v) (fX14_set 165 a b v) h Pr Jr := by
  have J0 := J
  unfold C2 fX13_set fX14_set
  rw [am6, bd2_s]
  by_cases ca : 0 ≤ a.toInt ∧ a.toInt < 6
  · obtain ⟨r, hr, rfl⟩ := i_of2 (n := 6) ca
    rw [if_pos ca, if_neg z10, gR64 w, Option.bind_some, R64_9 w, alRow w hr, Option.bind_some, ckRow w hr, Option.bind_some, no_e w hr, bd2_s]
    rcases J r hr with ⟨h1, h2, h3⟩ | ⟨s, n, h1, h2, h3, h4, h5, h6, h7, h8⟩
    · rw [h1, if_neg n0_le, if_neg z10]
      refine ⟨-11, h, h, rfl, ?_, FS.rf _ _, J0⟩
      rw [ckM w, Option.bind_some, wrong_e w hr, bd2_s, h3, if_neg n0_le, if_neg (by decide)]
    · rw [h3, if_pos (i0_le s (by omega)), if_pos rfl, gRow w hr, Option.bind_some, h5, am_e _ _ (by omega), bd2_s]
      have wr : fX14_wrong 165 (iN r) h = some (0, h) := by rw [wrong_e w hr, h4, if_pos (i0_le s (by omega))]
      by_cases cb : 0 ≤ b.toInt ∧ b.toInt < n
      · rw [if_pos cb, if_neg z10, ckRow w hr, Option.bind_some]
        obtain ⟨k, hk, rfl⟩ := i_of2 cb
        have hp1 := put_e w hr h1 h2 h3 h5 hk v
        have w1 : ∀ g, some (if s = 2 then pF h (91 + 3 * r) k (FP.l2f v) else pI h (90 + 3 * r) k (cs s v)) = some g → WF g ∧ FS (rP r) h g := by
          intro g hg
          by_cases c2 : s = 2
          · rw [if_pos c2] at hg; cases hg; exact ⟨w, FS.pF (.inl (by omega))⟩
          · rw [if_neg c2] at hg; cases hg; exact ⟨w, FS.pI (.inl (by omega))⟩
        obtain ⟨g, hg⟩ : ∃ g, some (if s = 2 then pF h (91 + 3 * r) k (FP.l2f v) else pI h (90 + 3 * r) k (cs s v)) = some g := ⟨_, rfl⟩
        obtain ⟨wg, F1⟩ := w1 g hg
        rw [hg] at hp1
        have x0 : hI g 192 r = iN s := by
          by_cases c2 : s = 2
          · rw [if_pos c2] at hg; cases hg; exact h4
          · rw [if_neg c2] at hg; cases hg; rw [hI_pI, if_neg (by omega)]; exact h4
        have x1 : hI g 193 r = iN n := by
          by_cases c2 : s = 2
          · rw [if_pos c2] at hg; cases hg; exact h6
          · rw [if_neg c2] at hg; cases hg; rw [hI_pI, if_neg (by omega)]; exact h6
        have hp2 := holds_e wg hr h1 x0 (show k < 60 by omega) v
        have wr2 : fX14_wrong 165 (iN r) g = some (0, g) := by rw [wrong_e wg hr, x0, if_pos (i0_le s (by omega))]
        have F : FS (rP r) h (pF (pI g 194 (60 * r + k) (cs s v)) 195 (60 * r + k) (FP.l2f v)) := F1.tr (FS.tr (FS.pI (show rP r 194 (60 * r + k) from .inr (.inr ⟨.inl rfl, by omega, by omega⟩))) (FS.pF (show rP r 195 (60 * r + k) from .inr (.inr ⟨.inr rfl, by omega, by omega⟩))))
        have R : RW (pF (pI g 194 (60 * r + k) (cs s v)) 195 (60 * r + k) (FP.l2f v)) r := by
          have xi : ∀ x q, hI (pF (pI g 194 (60 * r + k) (cs s v)) 195 (60 * r + k) (FP.l2f v)) x q = if x = 194 ∧ q = 60 * r + k then cs s v else hI g x q := fun _ _ => rfl
          have xf : ∀ x q, hF (pF (pI g 194 (60 * r + k) (cs s v)) 195 (60 * r + k) (FP.l2f v)) x q = if x = 195 ∧ q = 60 * r + k then FP.l2f v else hF g x q := fun _ _ => rfl
          by_cases c2 : s = 2
          · rw [if_pos c2] at hg; cases hg
            refine .inr ⟨s, n, h1, h2, by rw [xi, if_neg (by omega)]; exact h3, by rw [xi, if_neg (by omega)]; exact h4, by rw [xi, if_neg (by omega)]; exact h5, by rw [xi, if_neg (by omega)]; exact h6, fun q => absurd c2 q, fun _ j hj => ?_⟩
            rw [xf, xf, if_neg (by omega), hF_pF, hF_pF, if_neg (show ¬ (195 = 91 + 3 * r ∧ 60 * r + j = k) by omega)]
            by_cases cj : j = k
            · subst cj; rw [if_pos ⟨rfl, rfl⟩, if_pos ⟨rfl, rfl⟩]; exact ⟨rfl, l2f_g v⟩
            · rw [if_neg (fun q => cj q.2), if_neg (by omega)]; exact h8 c2 j hj
          · rw [if_neg c2] at hg; cases hg
            refine .inr ⟨s, n, h1, h2, by rw [xi, if_neg (by omega), hI_pI, if_neg (by omega)]; exact h3, by rw [xi, if_neg (by omega), hI_pI, if_neg (by omega)]; exact h4, by rw [xi, if_neg (by omega), hI_pI, if_neg (by omega)]; exact h5, by rw [xi, if_neg (by omega), hI_pI, if_neg (by omega)]; exact h6, fun _ j hj => ?_, fun q => absurd q c2⟩
            rw [xi, xi, if_neg (by omega), hI_pI, hI_pI, if_neg (show ¬ (194 = 90 + 3 * r ∧ 60 * r + j = k) by omega)]
            by_cases cj : j = k
            · subst cj; rw [if_pos ⟨rfl, rfl⟩, if_pos ⟨rfl, rfl⟩]
            · rw [if_neg (fun q => cj q.2), if_neg (by omega)]; exact h7 c2 j hj
        obtain ⟨G, K⟩ := Jr.one hr J F R
        refine ⟨1, g, _, by rw [hp1, Option.bind_some], ?_, G, K⟩
        rw [ckM wg, Option.bind_some, wr2, bd2_s, if_pos rfl, MR49 wg, Option.bind_some, ML193 wg hr, Option.bind_some, x1, in_e (by omega), bd2_s, if_pos cb, if_neg z10, ckM wg, Option.bind_some, hp2, Option.bind_some]
      · rw [if_neg cb, if_pos rfl]
        refine ⟨-13, h, h, rfl, ?_, FS.rf _ _, J0⟩
        rw [ckM w, Option.bind_some, wr, bd2_s, if_pos rfl, MR49 w, Option.bind_some, ML193 w hr, Option.bind_some, h6, in_e (by omega), bd2_s, if_neg cb, if_pos rfl]
  · rw [if_neg ca, if_pos rfl]
    refine ⟨-1, h, h, rfl, ?_, FS.rf _ _, J0⟩
    rw [ckM w, Option.bind_some, wrong_n ca, bd2_s, if_neg (by decide)]
theorem call_get {h : hp} (w : WF h) (J : Jr h) (a b : Int32) : C2 (fX13_get 64 a b) (fX14_get 165 a b) h Pr Jr := by
  have J0 := J
  unfold C2 fX13_get fX14_get
  rw [am6, bd2_s]
  by_cases ca : 0 ≤ a.toInt ∧ a.toInt < 6
  · obtain ⟨r, hr, rfl⟩ := i_of2 (n := 6) ca
    rw [if_pos ca, if_neg z10, gR64 w, Option.bind_some, R64_9 w, alRow w hr, Option.bind_some, gRow w hr, Option.bind_some]
    rcases J r hr with ⟨h1, h2, h3⟩ | ⟨s, n, h1, h2, h3, h4, h5, h6, h7, h8⟩
    · have am0 : fX13_among b 0 h = some (if 0 ≤ b.toInt ∧ b.toInt < (0 : Nat) then 1 else 0, h) := am_e b 0 (by decide) h
      have nb : ¬ (0 ≤ b.toInt ∧ b.toInt < ((0 : Nat) : Int)) := by omega
      rw [h2, am0, bd2_s, if_neg nb, if_pos rfl]
      refine ⟨_, h, h, rfl, ?_, FS.rf _ _, J0⟩
      rw [ckM w, Option.bind_some, wrong_e w hr, bd2_s, h3, if_neg n0_le, jn_e, if_neg (by decide)]
    · have wr : fX14_wrong 165 (iN r) h = some (0, h) := by rw [wrong_e w hr, h4, if_pos (i0_le s (by omega))]
      have e2 : iN s = 2 ↔ s = 2 := by rw [i_eq_lit (by decide) (by omega)]
      rw [h5, am_e _ _ (by omega), bd2_s]
      by_cases cb : 0 ≤ b.toInt ∧ b.toInt < n
      · rw [if_pos cb, if_neg z10, ckRow w hr, Option.bind_some]
        obtain ⟨k, hk, rfl⟩ := i_of2 cb
        have hq : 60 * r + k < 360 := by omega
        unfold fX8_bits
        rw [gRow w hr, Option.bind_some, h5, amn hk (by omega), bd2_s, if_neg z10, gRow w hr, Option.bind_some, h3]
        by_cases c2 : s = 2
        · obtain ⟨f1, f2, f3⟩ := h8 c2 k hk
          rw [if_pos (e2.mpr c2), gRow3 w hr, Option.bind_some, alC w hr (show k < 60 by omega), Option.bind_some, f1, bitsOf_e f2 f3, bd2_s, bd2_s]
          refine ⟨_, h, h, rfl, ?_, FS.rf _ _, J0⟩
          rw [ckM w, Option.bind_some, wr, bd2_s, jn_e, if_pos rfl, MR49 w, Option.bind_some, ML193 w hr, Option.bind_some, h6, in_e (by omega), bd2_s, if_pos cb, if_neg z10, MR48 w, Option.bind_some, ML192 w hr, Option.bind_some, h4, if_pos (e2.mpr c2), MR51 w, Option.bind_some, px, ML195 w hq, Option.bind_some, mFbits f2, bd2_s]
        · rw [if_neg (fun q => c2 (e2.mp q)), gRow2 w hr, Option.bind_some, alB w hr (show k < 60 by omega), Option.bind_some, bd2_s]
          refine ⟨_, h, h, rfl, ?_, FS.rf _ _, J0⟩
          rw [ckM w, Option.bind_some, wr, bd2_s, jn_e, if_pos rfl, MR49 w, Option.bind_some, ML193 w hr, Option.bind_some, h6, in_e (by omega), bd2_s, if_pos cb, if_neg z10, MR48 w, Option.bind_some, ML192 w hr, Option.bind_some, h4, if_neg (fun q => c2 (e2.mp q)), MR50 w, Option.bind_some, px, ML194 w hq, Option.bind_some, h7 c2 k hk]
      · rw [if_neg cb, if_pos rfl]
        refine ⟨_, h, h, rfl, ?_, FS.rf _ _, J0⟩
        rw [ckM w, Option.bind_some, wr, bd2_s, jn_e, if_pos rfl, MR49 w, Option.bind_some, ML193 w hr, Option.bind_some, h6, in_e (by omega), bd2_s, if_neg cb, if_pos rfl]
  · rw [if_neg ca, if_pos rfl]
    refine ⟨_, h, h, rfl, ?_, FS.rf _ _, J0⟩
    rw [ckM w, Option.bind_some, wrong_n ca, bd2_s, jn_e, if_neg (by decide)]

/-! floats: what is no NaN, LIMITED, casts -/
theorem fnn_ok {r : UInt32} (h : Jvm.FP.Core.fIsNaN r = false) : fnn r = some r := by
  have h1 := (Jvm.FP.Core.ne_nan32 r).mp ((Jvm.FP.Core.notNaN_iff32 r).mp h)
  have h2 : (r &&& 0x7fffffff) ≤ 0x7f800000 := by
    rw [UInt32.le_iff_toNat_le, Jvm.FP.Core.mask_toNat32]; exact h1
  unfold fnn
  rw [if_pos h2]
theorem dnn_ok {r : UInt64} (h : Jvm.FP.Core.dIsNaN r = false) : dnn r = some r := by
  have h1 := (Jvm.FP.Core.ne_nan r).mp ((Jvm.FP.Core.notNaN_iff r).mp h)
  have h2 : (r &&& 0x7fffffffffffffff) ≤ 0x7ff0000000000000 := by
    rw [UInt64.le_iff_toNat_le, Jvm.FP.Core.mask_toNat]; exact h1
  unfold dnn
  rw [if_pos h2]
/-- a REAL: at most 1000000 far from 0, not -0 -/
def gF (r : UInt32) : Prop := r.toNat % 2 ^ 31 ≤ 1232348160 ∧ r.toNat ≠ 2 ^ 31
theorem gF_fin {r : UInt32} (h : gF r) : Jvm.FP.Core.FFin r := by
  rw [Jvm.FP.Core.fin_bits32]; have := h.1; omega
theorem cmpl_le {a b : UInt32} (ha : Jvm.FP.Core.val32 a ≠ .nan) (hb : Jvm.FP.Core.val32 b ≠ .nan) : (Op.cmpValue (FP.fcmp a b) .l) ≤ 0 ↔ Jvm.FP.Core.fkey a ≤ Jvm.FP.Core.fkey b := by
  rw [show FP.fcmp a b = _ from Jvm.FP.Core.fcmp_key ha hb]
  simp only [compare, compareOfLessAndEq]
  by_cases h1 : Jvm.FP.Core.fkey a < Jvm.FP.Core.fkey b
  · rw [if_pos h1]; exact ⟨fun _ => by omega, fun _ => by decide⟩
  · by_cases h2 : Jvm.FP.Core.fkey a = Jvm.FP.Core.fkey b
    · rw [if_neg h1, if_pos h2]; exact ⟨fun _ => by omega, fun _ => by decide⟩
    · rw [if_neg h1, if_neg h2]; exact ⟨fun h => absurd h (by decide), fun h => by omega⟩
theorem cmpg_ge {a b : UInt32} (ha : Jvm.FP.Core.val32 a ≠ .nan) (hb : Jvm.FP.Core.val32 b ≠ .nan) : 0 ≤ (Op.cmpValue (FP.fcmp a b) .g) ↔ Jvm.FP.Core.fkey b ≤ Jvm.FP.Core.fkey a := by
  rw [show FP.fcmp a b = _ from Jvm.FP.Core.fcmp_key ha hb]
  simp only [compare, compareOfLessAndEq]
  by_cases h1 : Jvm.FP.Core.fkey a < Jvm.FP.Core.fkey b
  · rw [if_pos h1]; exact ⟨fun h => absurd h (by decide), fun h => by omega⟩
  · by_cases h2 : Jvm.FP.Core.fkey a = Jvm.FP.Core.fkey b
    · rw [if_neg h1, if_pos h2]; exact ⟨fun _ => by omega, fun _ => by decide⟩
    · rw [if_neg h1, if_neg h2]; exact ⟨fun _ => by omega, fun _ => by decide⟩
theorem cmpl_eq {a b : UInt32} (ha : Jvm.FP.Core.val32 a ≠ .nan) (hb : Jvm.FP.Core.val32 b ≠ .nan) : (Op.cmpValue (FP.fcmp a b) .l) = 0 ↔ Jvm.FP.Core.fkey a = Jvm.FP.Core.fkey b := by
  rw [show FP.fcmp a b = _ from Jvm.FP.Core.fcmp_key ha hb]
  simp only [compare, compareOfLessAndEq]
  by_cases h1 : Jvm.FP.Core.fkey a < Jvm.FP.Core.fkey b
  · rw [if_pos h1]; exact ⟨fun h => absurd h (by decide), fun h => by omega⟩
  · by_cases h2 : Jvm.FP.Core.fkey a = Jvm.FP.Core.fkey b
    · rw [if_neg h1, if_pos h2]; exact ⟨fun _ => h2, fun _ => by decide⟩
    · rw [if_neg h1, if_neg h2]; exact ⟨fun h => absurd h (by decide), fun h => absurd h h2⟩
theorem nn1 : Jvm.FP.Core.val32 1232348160 ≠ .nan := by rw [Jvm.FP.Core.ne_nan32]; decide
theorem nn2 : Jvm.FP.Core.val32 3379831808 ≠ .nan := by rw [Jvm.FP.Core.ne_nan32]; decide
theorem nn0 : Jvm.FP.Core.val32 FP.fconst0 ≠ .nan := by rw [Jvm.FP.Core.ne_nan32]; decide
theorem ky1 : Jvm.FP.Core.fkey 1232348160 = 1232348160 := by decide
theorem ky2 : Jvm.FP.Core.fkey 3379831808 = -1232348160 := by decide
theorem ky0 : Jvm.FP.Core.fkey FP.fconst0 = 0 := by decide

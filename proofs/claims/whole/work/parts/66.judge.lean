/-! rows: judge -/
theorem whole_e {h : hp} (w : WF h) {r s n k : Nat} (hr : r < 6) (A : RS h r s n) (hk : k < n) : ∃ v, fX8_whole (89 + 3 * r) (iN k) h = some (v, h) ∧ fX14_cast 165 (iN r) (iN k) h = some (v, h) := by
  obtain ⟨a1, a2, a3, a4, a5, a6, a7, a8⟩ := A
  have e2 : iN s = 2 ↔ s = 2 := by rw [i_eq_lit (by decide) (by omega)]
  have hq : 60 * r + k < 360 := by omega
  unfold fX8_whole fX14_cast
  rw [gRow w hr, Option.bind_some, a5, amn hk (by omega), bd2_s, if_neg z10, gRow w hr, Option.bind_some, a3, MR48 w, Option.bind_some, ML192 w hr, Option.bind_some, a4]
  by_cases c2 : s = 2
  · rw [if_pos (e2.mpr c2), if_pos (e2.mpr c2), gRow3 w hr, Option.bind_some, alC w hr (show k < 60 by omega), Option.bind_some, MR51 w, Option.bind_some, px, ML195 w hq, Option.bind_some, (a8 c2 k hk).1]
    exact ⟨_, rfl, rfl⟩
  · rw [if_neg (fun q => c2 (e2.mp q)), if_neg (fun q => c2 (e2.mp q)), gRow2 w hr, Option.bind_some, alB w hr (show k < 60 by omega), Option.bind_some, MR50 w, Option.bind_some, px, ML194 w hq, Option.bind_some, a7 c2 k hk]
    exact ⟨_, rfl, rfl⟩
theorem jl {h : hp} (w : WF h) {r s n : Nat} {L : List Int32} (hr : r < 6) (N : NL h 68 69 400 L) (hm : hI h 165 21 = iN L.length) (hl : ∀ k, k < L.length → hI h 175 k = L.getD k 0) (A : RS h r s n) (b : Int32) : ∀ (d k f : Nat), k + d = L.length → k ≤ n → d < f → ∃ t x, (t = 0 ∨ t = 1 ∨ t = 2) ∧ fX13_judge_l31 f 64 b (89 + 3 * r) (iN k) h = some (t, x, h) ∧ fX14_judge_l15 f 165 (iN r) b (iN k) h = some (t, x, h) := by
  have A0 := A
  obtain ⟨a1, a2, a3, a4, a5, a6, a7, a8⟩ := A
  have hL := N.2.2.1
  intro d
  induction d with
  | zero =>
    intro k f hk hkn hf
    obtain ⟨f, rfl⟩ : ∃ q, f = q + 1 := ⟨f - 1, by omega⟩
    have e : iN L.length ≤ iN k := by rw [i_le (by omega) (by omega)]; omega
    refine ⟨2, iN k, .inr (.inr rfl), ?_, ?_⟩
    · rw [fX13_judge_l31, gR64 w, Option.bind_some, R64_0 w, gR65 w, Option.bind_some, R65_2 w, gIN N.1, Option.bind_some, N.2.1, if_pos e]
    · rw [fX14_judge_l15, gM w, Option.bind_some, hm, if_pos e]
  | succ d ih =>
    intro k f hk hkn hf
    obtain ⟨f, rfl⟩ : ∃ q, f = q + 1 := ⟨f - 1, by omega⟩
    have e : ¬ (iN L.length ≤ iN k) := by rw [i_le (by omega) (by omega)]; omega
    have hk4 : k < 400 := by omega
    by_cases cb : b < 0
    · refine ⟨0, iN k, .inl rfl, ?_, ?_⟩
      · rw [fX13_judge_l31, gR64 w, Option.bind_some, R64_0 w, gR65 w, Option.bind_some, R65_2 w, gIN N.1, Option.bind_some, N.2.1, if_neg e, if_pos cb]
      · rw [fX14_judge_l15, gM w, Option.bind_some, hm, if_neg e, if_pos cb]
    · obtain ⟨p, rfl, hP⟩ := i_of (i_nlt.mp cb)
      have rc := roomC a2 hkn hP
      have rm := roomM a2 hkn hP
      by_cases c : p + k < n
      · obtain ⟨v, v1, v2⟩ := whole_e w hr A0 c
        have at' : fX5_at 68 (iN k) h = some (L.getD k 0, h) := by
          rw [nAtK N.1 N.2.1 N.2.2.1 (by omega), N.2.2.2 k (by omega)]
        have e1 : fX13_judge_l31 (f + 1) 64 (iN p) (89 + 3 * r) (iN k) h = if v = L.getD k 0 then fX13_judge_l31 f 64 (iN p) (89 + 3 * r) (iN (k + 1)) h else some (1, iN k, h) := by
          rw [fX13_judge_l31]
          simp only [gR64 w, Option.bind_some, R64_0 w, gR65 w, R65_2 w, gIN N.1, N.2.1, gRow w hr, a5, ckRow w hr, i_add, v1, bd2_s, ckN N.1, at', i_succ]
          rw [if_neg e, if_neg cb, if_pos (by rw [rc]; exact c)]
        have e2 : fX14_judge_l15 (f + 1) 165 (iN r) (iN p) (iN k) h = if v = L.getD k 0 then fX14_judge_l15 f 165 (iN r) (iN p) (iN (k + 1)) h else some (1, iN k, h) := by
          rw [fX14_judge_l15]
          simp only [gM w, Option.bind_some, hm, MR49 w, ML193 w hr, a6, ckM w, i_add, v2, bd2_s, MR19 w, ML175 w hk4, hl k (by omega), i_succ]
          rw [if_neg e, if_neg cb, if_pos (by rw [rm]; exact c)]
        rw [e1, e2]
        by_cases cv : v = L.getD k 0
        · rw [if_pos cv, if_pos cv]; exact ih (k + 1) f (by omega) (by omega) (by omega)
        · rw [if_neg cv, if_neg cv]; exact ⟨1, iN k, .inr (.inl rfl), rfl, rfl⟩
      · refine ⟨0, iN k, .inl rfl, ?_, ?_⟩
        · rw [fX13_judge_l31, gR64 w, Option.bind_some, R64_0 w, gR65 w, Option.bind_some, R65_2 w, gIN N.1, Option.bind_some, N.2.1, if_neg e, if_neg cb, gRow w hr, Option.bind_some, a5, if_neg (by rw [rc]; exact c)]
        · rw [fX14_judge_l15, gM w, Option.bind_some, hm, if_neg e, if_neg cb, MR49 w, Option.bind_some, ML193 w hr, Option.bind_some, a6, if_neg (by rw [rm]; exact c)]
theorem call_judge {h : hp} (w : WF h) (S : Js h) (J : Jr h) (a b : Int32) : C2 (fX13_judge 64 a b) (fX14_judge 165 a b) h Pr Jr := by
  have J0 := J
  obtain ⟨L, N, hm, hl⟩ := S
  have hL := N.2.2.1
  unfold C2 fX13_judge fX14_judge
  rw [am6, bd2_s]
  by_cases ca : 0 ≤ a.toInt ∧ a.toInt < 6
  · obtain ⟨r, hr, rfl⟩ := i_of2 (n := 6) ca
    rw [if_pos ca, if_neg z10, gR64 w, Option.bind_some, R64_9 w, alRow w hr, Option.bind_some, ckRow w hr, Option.bind_some, no_e w hr, bd2_s]
    rcases (J r hr).cs with ⟨h1, h2, h3⟩ | ⟨s, n, A⟩
    · rw [h1, if_neg n0_le, if_neg z10]
      refine ⟨-11, h, h, rfl, ?_, FS.rf _ _, J0⟩
      rw [ckM w, Option.bind_some, wrong_e w hr, bd2_s, h3, if_neg n0_le, if_neg (by decide)]
    · have A0 := A
      obtain ⟨a1, a2, a3, a4, a5, a6, a7, a8⟩ := A
      have wr : fX14_wrong 165 (iN r) h = some (0, h) := by rw [wrong_e w hr, a4, if_pos (i0_le s (by omega))]
      obtain ⟨t, x, ht, e1, e2⟩ := jl w hr N hm hl A0 b L.length 0 FU (by omega) (by omega) (by show L.length < 1000000; omega)
      rw [a3, if_pos (i0_le s (by omega)), if_pos rfl, show fX13_judge_l31 FU 64 b (89 + 3 * r) 0 h = _ from e1]
      refine ⟨if t = 0 then 100 + x else if t = 1 then x else -5, h, h, ?_, ?_, FS.rf _ _, J0⟩
      · rcases ht with rfl | rfl | rfl <;> rfl
      · rw [ckM w, Option.bind_some, wr, bd2_s, if_pos rfl, show fX14_judge_l15 FU 165 (iN r) b 0 h = _ from e2]
        rcases ht with rfl | rfl | rfl <;> rfl
  · rw [if_neg ca, if_pos rfl]
    refine ⟨-1, h, h, rfl, ?_, FS.rf _ _, J0⟩
    rw [ckM w, Option.bind_some, wrong_n ca, bd2_s, if_neg (by decide)]

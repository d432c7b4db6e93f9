/-! rows: lay, judge -/
theorem i_subn {n p : Nat} (hn : n ≤ 20000) (hP : p < 2147483648) : (iN n - iN p).toInt = (n : Int) - p := by
  rw [Int32.toInt_sub, i_toInt (by omega), i_toInt hP]
  rw [Int.bmod_eq_of_le (by omega) (by omega)]
theorem roomC {n k p : Nat} (hn : n ≤ 60) (hk : k ≤ n) (hP : p < 2147483648) : (iN p < iN n - iN k) = (p + k < n) := by
  rw [i_sub hk, i_lt hP (by omega), eq_iff_iff]; omega
theorem roomM {n k p : Nat} (hn : n ≤ 60) (hk : k ≤ n) (hP : p < 2147483648) : (iN k < iN n - iN p) = (p + k < n) := by
  rw [eq_iff_iff, Int32.lt_iff_toInt_lt, i_subn (by omega) hP, i_toInt (by omega)]; omega
theorem layC {r s n p : Nat} {L : List Int32} (hr : r < 6) (hs : s ≤ 2) (hn : n ≤ 60) (hP : p < 2147483648) : ∀ (d k f : Nat) (h : hp), WF h → NL h 68 69 400 L → hI h (89 + 3 * r) 0 = iN s → hI h (89 + 3 * r) 1 = iN n → k + d = L.length → k ≤ n → d < f → ∃ h', fX13_lay_l31 f 64 (iN p) (89 + 3 * r) (iN k) h = some (if d = 0 ∨ p + L.length ≤ n then 1 else 0, h') ∧ HE h h' (fun x j => if x = 90 + 3 * r ∧ s ≠ 2 ∧ p + k ≤ j ∧ j < p + L.length ∧ j < n then cs s (L.getD (j - p) 0).toInt64 else hI h x j) (fun x j => if x = 91 + 3 * r ∧ s = 2 ∧ p + k ≤ j ∧ j < p + L.length ∧ j < n then FP.l2f (L.getD (j - p) 0).toInt64 else hF h x j) := by
  intro d
  induction d with
  | zero =>
    intro k f h w N h0 h1 hk hkn hf
    obtain ⟨f, rfl⟩ : ∃ q, f = q + 1 := ⟨f - 1, by omega⟩
    have hL := N.2.2.1
    have e : iN L.length ≤ iN k := by rw [i_le (by omega) (by omega)]; omega
    refine ⟨h, ?_, rfl, rfl, rfl, rfl, fun x j => ?_, fun x j => ?_⟩
    · rw [fX13_lay_l31, gR64 w, Option.bind_some, R64_0 w, gR65 w, Option.bind_some, R65_2 w, gIN N.1, Option.bind_some, N.2.1, if_pos e, if_pos (.inl rfl)]
    · dsimp only; rw [if_neg (by omega)]
    · dsimp only; rw [if_neg (by omega)]
  | succ d ih =>
    intro k f h w N h0 h1 hk hkn hf
    obtain ⟨f, rfl⟩ : ∃ q, f = q + 1 := ⟨f - 1, by omega⟩
    have hL := N.2.2.1
    have e : ¬ (iN L.length ≤ iN k) := by rw [i_le (by omega) (by omega)]; omega
    have e2 : ¬ (iN p < 0) := by rw [i_nlt]; exact i0_le p hP
    have hd : fX13_lay_l31 (f + 1) 64 (iN p) (89 + 3 * r) (iN k) h = if iN p < iN n - iN k then (bd2 (fX5_at 68 (iN k) h) fun v14 h15 => (ckT h15 (89 + 3 * r) 7).bind fun _ => (fX8_put (89 + 3 * r) (iN p + iN k) (v14.toInt64) h15).bind fun h18 => fX13_lay_l31 f 64 (iN p) (89 + 3 * r) (iN k + 1) h18) else some (0, h) := by
      rw [fX13_lay_l31]
      simp only [gR64 w, Option.bind_some, R64_0 w, gR65 w, R65_2 w, gIN N.1, N.2.1, gRow w hr, h1, ckN N.1]
      rw [if_neg e, if_neg e2]
    have rc := roomC hn hkn hP
    rw [hd]
    by_cases c : p + k < n
    · have at' : fX5_at 68 (iN k) h = some (L.getD k 0, h) := by
        rw [nAtK N.1 N.2.1 N.2.2.1 (by omega), N.2.2.2 k (by omega)]
      rw [if_pos (by rw [rc]; exact c), at', bd2_s, ckRow w hr, Option.bind_some, i_add, put_e w hr hs hn h0 h1 c, Option.bind_some, i_succ]
      by_cases c2 : s = 2
      · rw [if_pos c2]
        obtain ⟨h', e1, H⟩ := ih (k + 1) f (pF h (91 + 3 * r) (p + k) (FP.l2f (L.getD k 0).toInt64)) w N h0 h1 (by omega) (by omega) (by omega)
        refine ⟨h', ?_, H.1, H.2.1, H.2.2.1, H.2.2.2.1, fun x j => ?_, fun x j => ?_⟩
        · rw [e1]
          by_cases c3 : p + L.length ≤ n
          · rw [if_pos (.inr c3), if_pos (.inr c3)]
          · rw [if_neg (by omega), if_neg (by omega)]
        · rw [H.2.2.2.2.1]; dsimp only; rw [if_neg (fun q => q.2.1 c2), if_neg (fun q => q.2.1 c2)]; rfl
        · rw [H.2.2.2.2.2]; dsimp only; rw [hF_pF]
          by_cases c3 : x = 91 + 3 * r ∧ s = 2 ∧ p + (k + 1) ≤ j ∧ j < p + L.length ∧ j < n
          · rw [if_pos c3, if_pos (by omega)]
          rw [if_neg c3]
          by_cases c4 : x = 91 + 3 * r ∧ j = p + k
          · rw [if_pos c4, if_pos (by omega), show j - p = k by omega]
          · rw [if_neg c4, if_neg (by omega)]
      · rw [if_neg c2]
        have N' : NL (pI h (90 + 3 * r) (p + k) (cs s (L.getD k 0).toInt64)) 68 69 400 L := N.fr (FI.pI h (90 + 3 * r) (p + k) (cs s (L.getD k 0).toInt64)) (by simp; omega) (by simp; omega)
        obtain ⟨h', e1, H⟩ := ih (k + 1) f (pI h (90 + 3 * r) (p + k) (cs s (L.getD k 0).toInt64)) w N' (by rw [hI_pI, if_neg (by omega)]; exact h0) (by rw [hI_pI, if_neg (by omega)]; exact h1) (by omega) (by omega) (by omega)
        refine ⟨h', ?_, H.1, H.2.1, H.2.2.1, H.2.2.2.1, fun x j => ?_, fun x j => ?_⟩
        · rw [e1]
          by_cases c3 : p + L.length ≤ n
          · rw [if_pos (.inr c3), if_pos (.inr c3)]
          · rw [if_neg (by omega), if_neg (by omega)]
        · rw [H.2.2.2.2.1]; dsimp only; rw [hI_pI]
          by_cases c3 : x = 90 + 3 * r ∧ s ≠ 2 ∧ p + (k + 1) ≤ j ∧ j < p + L.length ∧ j < n
          · rw [if_pos c3, if_pos (by omega)]
          rw [if_neg c3]
          by_cases c4 : x = 90 + 3 * r ∧ j = p + k
          · rw [if_pos c4, if_pos ⟨c4.1, c2, by omega, by omega, by omega⟩, show j - p = k by omega]
          · rw [if_neg c4, if_neg (by omega)]
        · rw [H.2.2.2.2.2]; dsimp only; rw [if_neg (fun q => c2 q.2.1), if_neg (fun q => c2 q.2.1)]; rfl
    · rw [if_neg (by rw [rc]; exact c)]
      refine ⟨h, ?_, rfl, rfl, rfl, rfl, fun x j => ?_, fun x j => ?_⟩
      · rw [if_neg (by omega)]
      · dsimp only; rw [if_neg (by omega)]
      · dsimp only; rw [if_neg (by omega)]
theorem layM {r s n p : Nat} {L : List Int32} (hr : r < 6) (hs : s ≤ 2) (hn : n ≤ 60) (hP : p < 2147483648) (hL : L.length ≤ 400) : ∀ (d k f : Nat) (h : hp), WF h → hI h 165 21 = iN L.length → (∀ k, k < L.length → hI h 175 k = L.getD k 0) → hI h 192 r = iN s → hI h 193 r = iN n → k + d = L.length → k ≤ n → d < f → ∃ h', fX14_lay_l15 f 165 (iN r) (iN p) (iN k) h = some (if d = 0 ∨ p + L.length ≤ n then 1 else 0, h') ∧ HE h h' (fun x j => if x = 194 ∧ 60 * r + p + k ≤ j ∧ j < 60 * r + p + L.length ∧ j < 60 * r + n then cs s (L.getD (j - (60 * r + p)) 0).toInt64 else hI h x j) (fun x j => if x = 195 ∧ 60 * r + p + k ≤ j ∧ j < 60 * r + p + L.length ∧ j < 60 * r + n then FP.l2f (L.getD (j - (60 * r + p)) 0).toInt64 else hF h x j) := by
  intro d
  induction d with
  | zero =>
    intro k f h w hm hl h0 h1 hk hkn hf
    obtain ⟨f, rfl⟩ : ∃ q, f = q + 1 := ⟨f - 1, by omega⟩
    have e : iN L.length ≤ iN k := by rw [i_le (by omega) (by omega)]; omega
    refine ⟨h, ?_, rfl, rfl, rfl, rfl, fun x j => ?_, fun x j => ?_⟩
    · rw [fX14_lay_l15, gM w, Option.bind_some, hm, if_pos e, if_pos (.inl rfl)]
    · dsimp only; rw [if_neg (by omega)]
    · dsimp only; rw [if_neg (by omega)]
  | succ d ih =>
    intro k f h w hm hl h0 h1 hk hkn hf
    obtain ⟨f, rfl⟩ : ∃ q, f = q + 1 := ⟨f - 1, by omega⟩
    have e : ¬ (iN L.length ≤ iN k) := by rw [i_le (by omega) (by omega)]; omega
    have e2 : ¬ (iN p < 0) := by rw [i_nlt]; exact i0_le p hP
    have hk4 : k < 400 := by omega
    have hd : fX14_lay_l15 (f + 1) 165 (iN r) (iN p) (iN k) h = if iN k < iN n - iN p then ((fX14_holds 165 (iN r) (iN p + iN k) ((L.getD k 0).toInt64) h).bind fun h12 => fX14_lay_l15 f 165 (iN r) (iN p) (iN k + 1) h12) else some (0, h) := by
      rw [fX14_lay_l15]
      simp only [gM w, Option.bind_some, hm, MR49 w, ML193 w hr, h1, MR19 w, ML175 w hk4, hl k (by omega), ckM w]
      rw [if_neg e, if_neg e2]
    have rc := roomM hn hkn hP
    rw [hd]
    by_cases c : p + k < n
    · rw [if_pos (by rw [rc]; exact c), i_add, holds_e w hr hs h0 (show p + k < 60 by omega), Option.bind_some, i_succ]
      have xi : ∀ x j, hI (pF (pI h 194 (60 * r + (p + k)) (cs s (L.getD k 0).toInt64)) 195 (60 * r + (p + k)) (FP.l2f (L.getD k 0).toInt64)) x j = if x = 194 ∧ j = 60 * r + (p + k) then cs s (L.getD k 0).toInt64 else hI h x j := fun _ _ => rfl
      have xf : ∀ x j, hF (pF (pI h 194 (60 * r + (p + k)) (cs s (L.getD k 0).toInt64)) 195 (60 * r + (p + k)) (FP.l2f (L.getD k 0).toInt64)) x j = if x = 195 ∧ j = 60 * r + (p + k) then FP.l2f (L.getD k 0).toInt64 else hF h x j := fun _ _ => rfl
      obtain ⟨h', e1, H⟩ := ih (k + 1) f (pF (pI h 194 (60 * r + (p + k)) (cs s (L.getD k 0).toInt64)) 195 (60 * r + (p + k)) (FP.l2f (L.getD k 0).toInt64)) w (by rw [xi, if_neg (by omega)]; exact hm) (fun i hi => by rw [xi, if_neg (by omega)]; exact hl i hi) (by rw [xi, if_neg (by omega)]; exact h0) (by rw [xi, if_neg (by omega)]; exact h1) (by omega) (by omega) (by omega)
      refine ⟨h', ?_, H.1, H.2.1, H.2.2.1, H.2.2.2.1, fun x j => ?_, fun x j => ?_⟩
      · rw [e1]
        by_cases c3 : p + L.length ≤ n
        · rw [if_pos (.inr c3), if_pos (.inr c3)]
        · rw [if_neg (by omega), if_neg (by omega)]
      · rw [H.2.2.2.2.1]; dsimp only; rw [xi]
        by_cases c3 : x = 194 ∧ 60 * r + p + (k + 1) ≤ j ∧ j < 60 * r + p + L.length ∧ j < 60 * r + n
        · rw [if_pos c3, if_pos (by omega)]
        rw [if_neg c3]
        by_cases c4 : x = 194 ∧ j = 60 * r + (p + k)
        · rw [if_pos c4, if_pos (by omega), show j - (60 * r + p) = k by omega]
        · rw [if_neg c4, if_neg (by omega)]
      · rw [H.2.2.2.2.2]; dsimp only; rw [xf]
        by_cases c3 : x = 195 ∧ 60 * r + p + (k + 1) ≤ j ∧ j < 60 * r + p + L.length ∧ j < 60 * r + n
        · rw [if_pos c3, if_pos (by omega)]
        rw [if_neg c3]
        by_cases c4 : x = 195 ∧ j = 60 * r + (p + k)
        · rw [if_pos c4, if_pos (by omega), show j - (60 * r + p) = k by omega]
        · rw [if_neg c4, if_neg (by omega)]
    · rw [if_neg (by rw [rc]; exact c)]
      refine ⟨h, ?_, rfl, rfl, rfl, rfl, fun x j => ?_, fun x j => ?_⟩
      · rw [if_neg (by omega)]
      · dsimp only; rw [if_neg (by omega)]
      · dsimp only; rw [if_neg (by omega)]
theorem call_lay {h : hp} (w : WF h) (S : Js h) (J : Jr h) (a b : Int32) : C2 (fX13_lay 64 a b) (fX14_lay 165 a b) h Pr Jr := by
  have J0 := J
  obtain ⟨L, N, hm, hl⟩ := S
  have hL := N.2.2.1
  unfold C2 fX13_lay fX14_lay
  rw [am6, bd2_s]
  by_cases ca : 0 ≤ a.toInt ∧ a.toInt < 6
  · obtain ⟨r, hr, rfl⟩ := i_of2 (n := 6) ca
    rw [if_pos ca, if_neg z10, gR64 w, Option.bind_some, R64_9 w, alRow w hr, Option.bind_some, ckRow w hr, Option.bind_some, no_e w hr, bd2_s]
    rcases (J r hr).cs with ⟨h1, h2, h3⟩ | ⟨s, n, A⟩
    · rw [h1, if_neg n0_le, if_neg z10]
      refine ⟨-11, h, h, rfl, ?_, FS.rf _ _, J0⟩
      rw [ckM w, Option.bind_some, wrong_e w hr, bd2_s, h3, if_neg n0_le, if_neg (by decide)]
    · have A0 := A
      obtain ⟨a1, a2, a3, a4, a5, a6, a7, a8⟩ := A
      have wr : ∀ g, WF g → hI g 192 r = iN s → fX14_wrong 165 (iN r) g = some (0, g) := fun g wg hg => by rw [wrong_e wg hr, hg, if_pos (i0_le s (by omega))]
      rw [a3, if_pos (i0_le s (by omega)), if_pos rfl]
      by_cases cb : 0 ≤ b.toInt
      · obtain ⟨p, hP', rfl⟩ := i_of2 (v := b) (n := 2147483648) ⟨cb, Int32.toInt_lt b⟩
        have hP : p < 2147483648 := hP'
        obtain ⟨h1, e1, H1⟩ := layC (L := L) hr a1 a2 hP L.length 0 FU h w N a3 a5 (by omega) (by omega) (by show L.length < 1000000; omega)
        have w1 := H1.wf w
        have x1 : ∀ x j, ¬ (x = 90 + 3 * r) → hI h1 x j = hI h x j := fun x j hx => by rw [H1.2.2.2.2.1]; dsimp only; rw [if_neg (fun q => hx q.1)]
        have y1 : ∀ x j, ¬ (x = 91 + 3 * r) → hF h1 x j = hF h x j := fun x j hx => by rw [H1.2.2.2.2.2]; dsimp only; rw [if_neg (fun q => hx q.1)]
        obtain ⟨g, e2, H2⟩ := layM (L := L) hr a1 a2 hP hL L.length 0 FU h1 w1 (by rw [x1 _ _ (by omega)]; exact hm) (fun k hk => by rw [x1 _ _ (by omega)]; exact hl k hk) (by rw [x1 _ _ (by omega)]; exact a4) (by rw [x1 _ _ (by omega)]; exact a6) (by omega) (by omega) (by show L.length < 1000000; omega)
        have w2 := H2.wf w1
        have x2 : ∀ x j, ¬ (x = 194) → hI g x j = hI h1 x j := fun x j hx => by rw [H2.2.2.2.2.1]; dsimp only; rw [if_neg (fun q => hx q.1)]
        have y2 : ∀ x j, ¬ (x = 195) → hF g x j = hF h1 x j := fun x j hx => by rw [H2.2.2.2.2.2]; dsimp only; rw [if_neg (fun q => hx q.1)]
        have F : FS (rP r) h g := (H1.fs fun x j q => by unfold rP at q; rw [if_neg (by omega), if_neg (by omega)]; exact ⟨rfl, rfl⟩).tr (H2.fs fun x j q => by unfold rP at q; rw [if_neg (by omega), if_neg (by omega)]; exact ⟨rfl, rfl⟩)
        have R : RS g r s n := by
          refine ⟨a1, a2, by rw [x2 _ _ (by omega), x1 _ _ (by omega)]; exact a3, by rw [x2 _ _ (by omega), x1 _ _ (by omega)]; exact a4, by rw [x2 _ _ (by omega), x1 _ _ (by omega)]; exact a5, by rw [x2 _ _ (by omega), x1 _ _ (by omega)]; exact a6, fun hs k hk => ?_, fun hs k hk => ?_⟩
          · rw [x2 _ _ (by omega), H1.2.2.2.2.1, H2.2.2.2.2.1]; dsimp only
            by_cases c : p ≤ k ∧ k < p + L.length
            · rw [if_pos ⟨rfl, hs, by omega, by omega, hk⟩, if_pos ⟨rfl, by omega, by omega, by omega⟩, show 60 * r + k - (60 * r + p) = k - p by omega]
            · rw [if_neg (by omega), if_neg (by omega), x1 _ _ (by omega)]; exact a7 hs k hk
          · rw [y2 _ _ (by omega), H1.2.2.2.2.2, H2.2.2.2.2.2]; dsimp only
            by_cases c : p ≤ k ∧ k < p + L.length
            · rw [if_pos ⟨rfl, hs, by omega, by omega, hk⟩, if_pos ⟨rfl, by omega, by omega, by omega⟩, show 60 * r + k - (60 * r + p) = k - p by omega]
              exact ⟨rfl, l2f_g _⟩
            · rw [if_neg (by omega), if_neg (by omega), y1 _ _ (by omega)]; exact a8 hs k hk
        obtain ⟨G, K⟩ := Jr.one hr J F R.rw
        have e1' : fX13_lay_l31 FU 64 (iN p) (89 + 3 * r) 0 h = _ := e1
        have e2' : fX14_lay_l15 FU 165 (iN r) (iN p) 0 h1 = _ := e2
        rw [e1', bd2_s]
        by_cases ct : L.length = 0 ∨ p + L.length ≤ n
        · have N1 : hI h1 68 1 = iN L.length := by rw [x1 _ _ (by omega)]; exact N.2.1
          have m2 : hI g 165 21 = iN L.length := by rw [x2 _ _ (by omega), x1 _ _ (by omega)]; exact hm
          have gN : gfI h1 68 4 1 = some (hI h1 68 1) := by unfold gfI; rw [T68 w1]; rfl
          rw [if_pos ct, if_neg (by decide), if_pos rfl, gR64 w1, Option.bind_some, R64_0 w1, gR65 w1, Option.bind_some, R65_2 w1, gN, Option.bind_some, N1]
          refine ⟨_, h1, g, rfl, ?_, G, K⟩
          rw [ckM w1, Option.bind_some, wr h1 w1 (by rw [x1 _ _ (by omega)]; exact a4), bd2_s, if_pos rfl, e2', bd2_s, if_pos ct, if_neg (by decide), if_pos rfl, gM w2, Option.bind_some, m2]
        · rw [if_neg ct, if_pos rfl]
          refine ⟨_, h1, g, rfl, ?_, G, K⟩
          rw [ckM w1, Option.bind_some, wr h1 w1 (by rw [x1 _ _ (by omega)]; exact a4), bd2_s, if_pos rfl, e2', bd2_s, if_neg ct, if_pos rfl]
      · have bn : b < 0 := by rw [Int32.lt_iff_toInt_lt, show (0 : Int32).toInt = 0 by decide]; omega
        by_cases cl : L.length = 0
        · have e1 : fX13_lay_l31 FU 64 b (89 + 3 * r) 0 h = some (1, h) := by
            show fX13_lay_l31 (999999 + 1) 64 b (89 + 3 * r) 0 h = _
            have z : iN L.length ≤ 0 := by rw [cl]; decide
            rw [fX13_lay_l31, gR64 w, Option.bind_some, R64_0 w, gR65 w, Option.bind_some, R65_2 w, gIN N.1, Option.bind_some, N.2.1, if_pos z]
          have e2 : fX14_lay_l15 FU 165 (iN r) b 0 h = some (1, h) := by
            show fX14_lay_l15 (999999 + 1) 165 (iN r) b 0 h = _
            have z : iN L.length ≤ 0 := by rw [cl]; decide
            rw [fX14_lay_l15, gM w, Option.bind_some, hm, if_pos z]
          rw [e1, bd2_s, if_neg (by decide), if_pos rfl, gR64 w, Option.bind_some, R64_0 w, gR65 w, Option.bind_some, R65_2 w, gIN N.1, Option.bind_some, N.2.1]
          refine ⟨_, h, h, rfl, ?_, FS.rf _ _, J0⟩
          rw [ckM w, Option.bind_some, wr h w a4, bd2_s, if_pos rfl, e2, bd2_s, if_neg (by decide), if_pos rfl, gM w, Option.bind_some, hm]
        · have z : ¬ (iN L.length ≤ 0) := by
            rw [show (0 : Int32) = iN 0 from rfl, i_le (by omega) (by omega)]; omega
          have e1 : fX13_lay_l31 FU 64 b (89 + 3 * r) 0 h = some (0, h) := by
            show fX13_lay_l31 (999999 + 1) 64 b (89 + 3 * r) 0 h = _
            rw [fX13_lay_l31, gR64 w, Option.bind_some, R64_0 w, gR65 w, Option.bind_some, R65_2 w, gIN N.1, Option.bind_some, N.2.1, if_neg z, if_pos bn]
          have e2 : fX14_lay_l15 FU 165 (iN r) b 0 h = some (0, h) := by
            show fX14_lay_l15 (999999 + 1) 165 (iN r) b 0 h = _
            rw [fX14_lay_l15, gM w, Option.bind_some, hm, if_neg z, if_pos bn]
          rw [e1, bd2_s, if_pos rfl]
          refine ⟨_, h, h, rfl, ?_, FS.rf _ _, J0⟩
          rw [ckM w, Option.bind_some, wr h w a4, bd2_s, if_pos rfl, e2, bd2_s, if_pos rfl]
  · rw [if_neg ca, if_pos rfl]
    refine ⟨-1, h, h, rfl, ?_, FS.rf _ _, J0⟩
    rw [ckM w, Option.bind_some, wrong_n ca, bd2_s, if_neg (by decide)]

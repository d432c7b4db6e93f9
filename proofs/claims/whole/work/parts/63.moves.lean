/-! rows: move and twin, the calls -/
def RS (h : hp) (r s n : Nat) : Prop := s ≤ 2 ∧ n ≤ 60 ∧ hI h (89 + 3 * r) 0 = iN s ∧ hI h 192 r = iN s ∧ hI h (89 + 3 * r) 1 = iN n ∧ hI h 193 r = iN n ∧ (s ≠ 2 → ∀ k, k < n → hI h (90 + 3 * r) k = hI h 194 (60 * r + k)) ∧ (s = 2 → ∀ k, k < n → hF h (91 + 3 * r) k = hF h 195 (60 * r + k) ∧ Jvm.FP.Core.FFin (hF h 195 (60 * r + k)) ∧ (hF h 195 (60 * r + k)).toNat ≠ 2 ^ 31)
theorem RS.rw {h : hp} {r s n : Nat} (H : RS h r s n) : RW h r := .inr ⟨s, n, H⟩
theorem RW.cs {h : hp} {r : Nat} (H : RW h r) : (hI h (89 + 3 * r) 0 = -1 ∧ hI h (89 + 3 * r) 1 = 0 ∧ hI h 192 r = -1) ∨ ∃ s n, RS h r s n := H
theorem copy_R {h g : hp} {a b s n m p q c : Nat} (ha : a < 6) (hb : b < 6) (A : RS h a s n) (B : RS h b s m) (hP : p + c ≤ n) (hQ : q + c ≤ m)
    (H : HE (pCF (pCI h (90 + 3 * a) p (90 + 3 * b) q c) (91 + 3 * a) p (91 + 3 * b) q c) g (fun x j => if x = 194 ∧ 60 * b + q ≤ j ∧ j < 60 * b + q + c then hI (pCF (pCI h (90 + 3 * a) p (90 + 3 * b) q c) (91 + 3 * a) p (91 + 3 * b) q c) 194 (60 * a + p + (j - (60 * b + q))) else hI (pCF (pCI h (90 + 3 * a) p (90 + 3 * b) q c) (91 + 3 * a) p (91 + 3 * b) q c) x j) (fun x j => if x = 195 ∧ 60 * b + q ≤ j ∧ j < 60 * b + q + c then hF (pCF (pCI h (90 + 3 * a) p (90 + 3 * b) q c) (91 + 3 * a) p (91 + 3 * b) q c) 195 (60 * a + p + (j - (60 * b + q))) else hF (pCF (pCI h (90 + 3 * a) p (90 + 3 * b) q c) (91 + 3 * a) p (91 + 3 * b) q c) x j)) :
    FS (rP b) h g ∧ RS g b s m := by
  obtain ⟨a1, a2, a3, a4, a5, a6, a7, a8⟩ := A
  obtain ⟨b1, b2, b3, b4, b5, b6, b7, b8⟩ := B
  have i1 : ∀ x j, x < 192 → hI g x j = if x = 90 + 3 * b ∧ q ≤ j ∧ j < q + c then hI h (90 + 3 * a) (p + (j - q)) else hI h x j := fun x j hx => by
    rw [H.2.2.2.2.1]; dsimp only; rw [if_neg (by omega), hI_pCF, hI_pCI]
  have i2 : ∀ x j, 192 ≤ x → hI g x j = if x = 194 ∧ 60 * b + q ≤ j ∧ j < 60 * b + q + c then hI h 194 (60 * a + p + (j - (60 * b + q))) else hI h x j := fun x j hx => by
    rw [H.2.2.2.2.1]; dsimp only; rw [hI_pCF, hI_pCI, hI_pCI, if_neg (show ¬ (194 = 90 + 3 * b ∧ q ≤ 60 * a + p + (j - (60 * b + q)) ∧ 60 * a + p + (j - (60 * b + q)) < q + c) by omega), if_neg (show ¬ (x = 90 + 3 * b ∧ q ≤ j ∧ j < q + c) by omega)]
  have f1 : ∀ x j, x < 192 → hF g x j = if x = 91 + 3 * b ∧ q ≤ j ∧ j < q + c then hF h (91 + 3 * a) (p + (j - q)) else hF h x j := fun x j hx => by
    rw [H.2.2.2.2.2]; dsimp only; rw [if_neg (by omega), hF_pCF, hF_pCI]
  have f2 : ∀ x j, 192 ≤ x → hF g x j = if x = 195 ∧ 60 * b + q ≤ j ∧ j < 60 * b + q + c then hF h 195 (60 * a + p + (j - (60 * b + q))) else hF h x j := fun x j hx => by
    rw [H.2.2.2.2.2]; dsimp only; rw [hF_pCF, hF_pCF, hF_pCI, if_neg (show ¬ (195 = 91 + 3 * b ∧ q ≤ 60 * a + p + (j - (60 * b + q)) ∧ 60 * a + p + (j - (60 * b + q)) < q + c) by omega), if_neg (show ¬ (x = 91 + 3 * b ∧ q ≤ j ∧ j < q + c) by omega)]
  refine ⟨⟨H.1, H.2.1, H.2.2.1, H.2.2.2.1, fun x j hx => ?_⟩, b1, b2, ?_, ?_, ?_, ?_, fun hs k hk => ?_, fun hs k hk => ?_⟩
  · unfold rP at hx
    by_cases c1 : x < 192
    · rw [i1 x j c1, f1 x j c1, if_neg (by omega), if_neg (by omega)]; exact ⟨rfl, rfl⟩
    · rw [i2 x j (by omega), f2 x j (by omega), if_neg (by omega), if_neg (by omega)]; exact ⟨rfl, rfl⟩
  · rw [i1 _ _ (by omega), if_neg (by omega)]; exact b3
  · rw [i2 _ _ (by omega), if_neg (by omega)]; exact b4
  · rw [i1 _ _ (by omega), if_neg (by omega)]; exact b5
  · rw [i2 _ _ (by omega), if_neg (by omega)]; exact b6
  · rw [i1 _ _ (by omega), i2 _ _ (by omega)]
    by_cases c1 : q ≤ k ∧ k < q + c
    · rw [if_pos ⟨rfl, c1⟩, if_pos ⟨rfl, by omega, by omega⟩, a7 hs _ (by omega), show 60 * a + p + (60 * b + k - (60 * b + q)) = 60 * a + (p + (k - q)) by omega]
    · rw [if_neg (by omega), if_neg (by omega)]; exact b7 hs k hk
  · rw [f1 _ _ (by omega), f2 _ _ (by omega)]
    by_cases c1 : q ≤ k ∧ k < q + c
    · rw [if_pos ⟨rfl, c1⟩, if_pos ⟨rfl, by omega, by omega⟩, show 60 * a + p + (60 * b + k - (60 * b + q)) = 60 * a + (p + (k - q)) by omega]
      exact a8 hs _ (by omega)
    · rw [if_neg (by omega), if_neg (by omega)]; exact b8 hs k hk
theorem isRow_k {k : Nat} (h : k < 6) (g : hp) : fX14_isRow (iN k) g = some (1, g) := by
  have c : 0 ≤ (iN k).toInt ∧ (iN k).toInt < 6 := by rw [i_toInt (show k < 2147483648 by omega)]; omega
  rw [isRow_e, if_pos c]
theorem mv_full {g : hp} (w : WF g) {r u s t n m : Nat} (hr : r < 6) (hu : u < 6) (hs : s ≤ 2) (ht : t ≤ 2) (hn : n ≤ 60) (hm : m ≤ 60) (a4 : hI g 192 r = iN s) (b4 : hI g 192 u = iN t) (a6 : hI g 193 r = iN n) (b6 : hI g 193 u = iN m) (p q c : Int32) : fX14_move 165 (iN r) p (iN u) q c g = if iN s = iN t then (if (0 ≤ p.toInt ∧ 0 ≤ c.toInt ∧ p.toInt + c.toInt ≤ n) ∧ (0 ≤ q.toInt ∧ 0 ≤ c.toInt ∧ q.toInt + c.toInt ≤ m) then (fX14_move_l102 FU 165 (iN r) p (iN u) q c 0 g).bind fun h32 => some (c, h32) else some (-13, g)) else some (-12, g) := by
  have ns : ¬ (iN s < 0) := by rw [i_nlt]; exact i0_le s (by omega)
  have k1 : c < 0 ↔ c.toInt < 0 := by rw [Int32.lt_iff_toInt_lt, show (0 : Int32).toInt = 0 by decide]
  have k2 : p < 0 ↔ p.toInt < 0 := by rw [Int32.lt_iff_toInt_lt, show (0 : Int32).toInt = 0 by decide]
  have k3 : q < 0 ↔ q.toInt < 0 := by rw [Int32.lt_iff_toInt_lt, show (0 : Int32).toInt = 0 by decide]
  unfold fX14_move
  rw [isRow_k hr, bd2_s, if_neg z10, isRow_k hu, bd2_s, if_neg z10]
  simp only [MR48 w, MR49 w, ML192 w hr, ML192 w hu, ML193 w hr, ML193 w hu, Option.bind_some, a4, b4, a6, b6]
  rw [if_neg ns, if_pos (i0_le t (by omega))]
  by_cases ck : iN s = iN t
  · rw [if_pos ck, if_pos ck]
    by_cases c1 : c < 0
    · rw [if_pos c1, if_neg (fun z => by rw [k1] at c1; omega)]
    rw [if_neg c1]
    by_cases c2 : p < 0
    · rw [if_pos c2, if_neg (fun z => by rw [k2] at c2; omega)]
    rw [if_neg c2]
    by_cases c3 : q < 0
    · rw [if_pos c3, if_neg (fun z => by rw [k3] at c3; omega)]
    rw [if_neg c3]
    rw [k1] at c1
    rw [k2] at c2
    rw [k3] at c3
    have su : ∀ (x : Int32) (n : Nat), n ≤ 60 → 0 ≤ x.toInt → (iN n - x).toInt = (n : Int) - x.toInt := fun x n hn hx => by
      have h2 := Int32.toInt_lt x
      rw [Int32.toInt_sub, i_toInt (by omega)]
      rw [Int.bmod_eq_of_le (by omega) (by omega)]
    have k4 : iN n - p < c ↔ (n : Int) - p.toInt < c.toInt := by rw [Int32.lt_iff_toInt_lt, su p n hn (by omega)]
    have k5 : c ≤ iN m - q ↔ c.toInt ≤ (m : Int) - q.toInt := by rw [Int32.le_iff_toInt_le, su q m hm (by omega)]
    by_cases c4 : iN n - p < c
    · rw [if_pos c4, if_neg (fun z => by rw [k4] at c4; omega)]
    rw [if_neg c4]
    by_cases c5 : c ≤ iN m - q
    · rw [if_pos c5, if_pos (by rw [k4] at c4; rw [k5] at c5; omega)]
    · rw [if_neg c5, if_neg (fun z => by rw [k5] at c5; omega)]
  · rw [if_neg ck, if_neg ck]
theorem call_move {h : hp} (w : WF h) (J : Jr h) (a p b q c : Int32) : C2 (fX13_move 64 a p b q c) (fX14_move 165 a p b q c) h Pr Jr := by
  have J0 := J
  unfold C2 fX13_move
  rw [am6, bd2_s]
  by_cases ca : 0 ≤ a.toInt ∧ a.toInt < 6
  · rw [if_pos ca, if_neg z10, am6, bd2_s]
    by_cases cb : 0 ≤ b.toInt ∧ b.toInt < 6
    · obtain ⟨r, hr, rfl⟩ := i_of2 (n := 6) ca
      obtain ⟨u, hu, rfl⟩ := i_of2 (n := 6) cb
      rw [if_pos cb, if_neg z10, gR64 w, Option.bind_some, R64_9 w, alRow w hr, Option.bind_some, Option.bind_some, alRow w hu, Option.bind_some, ckRow w hr, Option.bind_some, no_e w hr, bd2_s]
      have RT : ∀ g : hp, WF g → fX14_isRow (iN r) g = some (1, g) ∧ fX14_isRow (iN u) g = some (1, g) := fun g _ => ⟨by rw [isRow_e, if_pos ca], by rw [isRow_e, if_pos cb]⟩
      rcases (J r hr).cs with ⟨h1, h2, h3⟩ | ⟨s, n, A⟩
      · rw [h1, if_neg n0_le, if_neg z10]
        refine ⟨-11, h, h, rfl, ?_, FS.rf _ _, J0⟩
        unfold fX14_move
        rw [(RT h w).1, bd2_s, if_neg z10, (RT h w).2, bd2_s, if_neg z10, MR48 w, Option.bind_some, ML192 w hr, Option.bind_some, h3, if_pos (by decide)]
      · have A0 := A
        obtain ⟨a1, a2, a3, a4, a5, a6, a7, a8⟩ := A
        rw [a3, if_pos (i0_le s (by omega)), if_pos rfl, ckRow w hu, Option.bind_some, no_e w hu, bd2_s]
        have ns : ¬ (iN s < 0) := by rw [i_nlt]; exact i0_le s (by omega)
        rcases (J u hu).cs with ⟨h1, h2, h3⟩ | ⟨t, m, B⟩
        · rw [h1, if_neg n0_le, if_neg z10]
          refine ⟨-11, h, h, rfl, ?_, FS.rf _ _, J0⟩
          unfold fX14_move
          rw [(RT h w).1, bd2_s, if_neg z10, (RT h w).2, bd2_s, if_neg z10, MR48 w, Option.bind_some, ML192 w hr, Option.bind_some, a4, if_neg ns, Option.bind_some, ML192 w hu, Option.bind_some, h3, if_neg n0_le]
        · have B0 := B
          obtain ⟨b1, b2, b3, b4, b5, b6, b7, b8⟩ := B
          rw [b3, if_pos (i0_le t (by omega)), if_pos rfl, gRow w hr, Option.bind_some, a3, gRow w hu, Option.bind_some, b3]
          by_cases ck : iN s = iN t
          · have est : s = t := by rw [i_eq (by omega) (by omega)] at ck; exact ck
            subst est
            rw [if_pos rfl, ckRow w hr, Option.bind_some, spans_e w hr a2 a5, bd2_s]
            by_cases P1 : 0 ≤ p.toInt ∧ 0 ≤ c.toInt ∧ p.toInt + c.toInt ≤ n
            · rw [if_pos P1, if_neg z10, ckRow w hu, Option.bind_some, spans_e w hu b2 b5, bd2_s]
              by_cases P2 : 0 ≤ q.toInt ∧ 0 ≤ c.toInt ∧ q.toInt + c.toInt ≤ m
              · rw [if_pos P2, if_neg z10, ckRow w hu, Option.bind_some]
                obtain ⟨p', c', rfl, rfl, hP⟩ := sp_in a2 P1
                obtain ⟨q', c2, rfl, hc2, hQ⟩ := sp_in b2 P2
                have ec : c2 = c' := by
                  have : iN c' = iN c2 := hc2
                  rw [i_eq (by omega) (by omega)] at this; exact this.symm
                subst ec
                rw [take_e w hr hu a2 b2 a5 b5 hP hQ, Option.bind_some]
                have wk : WF (pCF (pCI h (90 + 3 * r) p' (90 + 3 * u) q' c2) (91 + 3 * r) p' (91 + 3 * u) q' c2) := w
                obtain ⟨g, e1, H⟩ := mv_e wk hr hu (show p' + c2 ≤ 60 by omega) (show q' + c2 ≤ 60 by omega)
                obtain ⟨F, R⟩ := copy_R hr hu A0 B0 hP hQ H
                obtain ⟨G, K⟩ := Jr.one hu J F R.rw
                refine ⟨_, _, g, rfl, ?_, G, K⟩
                have x : ∀ x j, 192 ≤ x → hI (pCF (pCI h (90 + 3 * r) p' (90 + 3 * u) q' c2) (91 + 3 * r) p' (91 + 3 * u) q' c2) x j = hI h x j := fun x j hx => by rw [hI_pCF, hI_pCI, if_neg (by omega)]
                rw [mv_full wk hr hu a1 b1 a2 b2 (by rw [x _ _ (by omega)]; exact a4) (by rw [x _ _ (by omega)]; exact b4) (by rw [x _ _ (by omega)]; exact a6) (by rw [x _ _ (by omega)]; exact b6), if_pos rfl, if_pos ⟨P1, P2⟩, e1, Option.bind_some]
              · rw [if_neg P2, if_pos rfl]
                refine ⟨-13, h, h, rfl, ?_, FS.rf _ _, J0⟩
                rw [show fX14_move 165 (iN r) p (iN u) q c h = _ from mv_full w hr hu a1 b1 a2 b2 a4 b4 a6 b6 p q c, if_pos rfl, if_neg (fun z => P2 z.2)]
            · rw [if_neg P1, if_pos rfl]
              refine ⟨-13, h, h, rfl, ?_, FS.rf _ _, J0⟩
              rw [mv_full w hr hu a1 b1 a2 b2 a4 b4 a6 b6, if_pos rfl, if_neg (fun z => P1 z.1)]
          · rw [if_neg ck]
            refine ⟨-12, h, h, rfl, ?_, FS.rf _ _, J0⟩
            rw [mv_full w hr hu a1 b1 a2 b2 a4 b4 a6 b6, if_neg ck]
    · rw [if_neg cb, if_pos rfl]
      refine ⟨-1, h, h, rfl, ?_, FS.rf _ _, J0⟩
      unfold fX14_move
      rw [isRow_e, bd2_s, if_pos ca, if_neg z10, isRow_e, bd2_s, if_neg cb, if_pos rfl]
  · rw [if_neg ca, if_pos rfl]
    refine ⟨-1, h, h, rfl, ?_, FS.rf _ _, J0⟩
    unfold fX14_move
    rw [isRow_e, bd2_s, if_neg ca, if_pos rfl]

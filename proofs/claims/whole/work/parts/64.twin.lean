/-! rows: twin -/
theorem twM {a b : Nat} (ha : a < 6) (hb : b < 6) : ∀ (d k n : Nat) (h : hp), WF h → k + d = 60 → d < n → ∃ h', fX14_twin_l54 n 165 (iN a) (iN b) (iN k) h = some h' ∧ HE h h' (fun x j => if x = 194 ∧ 60 * b + k ≤ j ∧ j < 60 * b + 60 then hI h 194 (60 * a + (j - 60 * b)) else hI h x j) (fun x j => if x = 195 ∧ 60 * b + k ≤ j ∧ j < 60 * b + 60 then hF h 195 (60 * a + (j - 60 * b)) else hF h x j) := by
  intro d
  induction d with
  | zero =>
    intro k n h w hk hn
    obtain ⟨n, rfl⟩ : ∃ q, n = q + 1 := ⟨n - 1, by omega⟩
    have e : 60 ≤ iN k := by rw [i_lit_le (by decide) (by omega)]; show 60 ≤ k; omega
    refine ⟨h, by rw [fX14_twin_l54, if_pos e], rfl, rfl, rfl, rfl, fun x j => ?_, fun x j => ?_⟩
    · dsimp only; rw [if_neg (by omega)]
    · dsimp only; rw [if_neg (by omega)]
  | succ d ih =>
    intro k n h w hk hn
    obtain ⟨n, rfl⟩ : ∃ q, n = q + 1 := ⟨n - 1, by omega⟩
    have e : ¬ (60 ≤ iN k) := by rw [i_lit_le (by decide) (by omega)]; show ¬ (60 ≤ k); omega
    obtain ⟨h', e1, H⟩ := ih (k + 1) n (pF (pI h 194 (60 * b + k) (hI h 194 (60 * a + k))) 195 (60 * b + k) (hF h 195 (60 * a + k))) w (by omega) (by omega)
    refine ⟨h', ?_, H.1, H.2.1, H.2.2.1, H.2.2.2.1, fun x j => ?_, fun x j => ?_⟩
    · rw [fX14_twin_l54, if_neg e, ckM w, Option.bind_some, item_e w ha hb (show k < 60 by omega) (show k < 60 by omega), Option.bind_some, i_succ, e1]
    · rw [H.2.2.2.2.1 x j]; dsimp only; rw [hI_pF, hI_pI, hI_pI]
      by_cases c1 : x = 194 ∧ 60 * b + (k + 1) ≤ j ∧ j < 60 * b + 60
      · rw [if_pos c1, if_neg (by omega), if_pos (by omega)]
      · rw [if_neg c1]
        by_cases c2 : x = 194 ∧ j = 60 * b + k
        · rw [if_pos c2, if_pos (by omega), show 60 * a + (j - 60 * b) = 60 * a + k by omega]
        · rw [if_neg c2, if_neg (by omega)]
    · rw [H.2.2.2.2.2 x j]; dsimp only; rw [hF_pF, hF_pF, hF_pI]
      by_cases c1 : x = 195 ∧ 60 * b + (k + 1) ≤ j ∧ j < 60 * b + 60
      · rw [if_pos c1, if_neg (by omega), if_pos (by omega)]
      · rw [if_neg c1]
        by_cases c2 : x = 195 ∧ j = 60 * b + k
        · rw [if_pos c2, if_pos (by omega), show 60 * a + (j - 60 * b) = 60 * a + k by omega]
        · rw [if_neg c2, if_neg (by omega)]
/-- the reference's twin -/
theorem tw_full {g : hp} (w : WF g) {r u s n : Nat} (hr : r < 6) (hu : u < 6) (hs : s ≤ 2) (hn : n ≤ 60) (a4 : hI g 192 r = iN s) (a6 : hI g 193 r = iN n) : ∃ g', fX14_twin 165 (iN r) (iN u) g = some (iN n, g') ∧ HE g g' (fun x j => if x = 194 ∧ 60 * u ≤ j ∧ j < 60 * u + 60 then hI g 194 (60 * r + (j - 60 * u)) else if x = 192 ∧ j = u then iN s else if x = 193 ∧ j = u then iN n else hI g x j) (fun x j => if x = 195 ∧ 60 * u ≤ j ∧ j < 60 * u + 60 then hF g 195 (60 * r + (j - 60 * u)) else hF g x j) := by
  have w1 : WF (pI g 192 u (iN s)) := w
  have w2 : WF (pI (pI g 192 u (iN s)) 193 u (iN n)) := w
  obtain ⟨g', e1, H⟩ := twM hr hu 60 0 FU _ w2 rfl (by show 60 < 1000000; omega)
  have w3 : WF g' := H.wf w2
  have x1 : hI (pI g 192 u (iN s)) 193 r = iN n := by rw [hI_pI, if_neg (by omega)]; exact a6
  have x2 : hI g' 193 r = iN n := by
    rw [H.2.2.2.2.1]; dsimp only; rw [if_neg (by omega), hI_pI]
    by_cases c : r = u
    · rw [if_pos ⟨rfl, c⟩]
    · rw [if_neg (fun q => c q.2), x1]
  refine ⟨g', ?_, H.1, H.2.1, H.2.2.1, H.2.2.2.1, fun x j => ?_, fun x j => ?_⟩
  · unfold fX14_twin
    rw [isRow_k hr, bd2_s, if_neg z10, isRow_k hu, bd2_s, if_neg z10]
    simp only [MR48 w, ML192 w hr, MS192 w hu, Option.bind_some, a4]
    rw [if_pos (i0_le s (by omega))]
    simp only [MR49 w1, ML193 w1 hr, MS193 w1 hu, Option.bind_some, x1]
    rw [show fX14_twin_l54 FU 165 (iN r) (iN u) 0 _ = _ from e1, Option.bind_some, MR49 w3, Option.bind_some, ML193 w3 hr, Option.bind_some, x2]
  · rw [H.2.2.2.2.1]; dsimp only; rw [hI_pI, hI_pI, hI_pI, hI_pI, if_neg (show ¬ (194 = 193 ∧ 60 * r + (j - 60 * u) = u) by omega), if_neg (show ¬ (194 = 192 ∧ 60 * r + (j - 60 * u) = u) by omega), Nat.add_zero]
    by_cases c0 : x = 194 ∧ 60 * u ≤ j ∧ j < 60 * u + 60
    · rw [if_pos c0, if_pos c0]
    rw [if_neg c0, if_neg c0]
    by_cases c1 : x = 193 ∧ j = u
    · rw [if_pos c1, if_neg (by omega), if_pos c1]
    · rw [if_neg c1, if_neg c1]
  · rw [H.2.2.2.2.2]; dsimp only; rw [Nat.add_zero]; rfl
theorem call_twin {h : hp} (w : WF h) (J : Jr h) (a b : Int32) : C2 (fX13_twin 64 a b) (fX14_twin 165 a b) h Pr Jr := by
  have J0 := J
  unfold C2 fX13_twin
  rw [am6, bd2_s]
  by_cases ca : 0 ≤ a.toInt ∧ a.toInt < 6
  · rw [if_pos ca, if_neg z10, am6, bd2_s]
    by_cases cb : 0 ≤ b.toInt ∧ b.toInt < 6
    · obtain ⟨r, hr, rfl⟩ := i_of2 (n := 6) ca
      obtain ⟨u, hu, rfl⟩ := i_of2 (n := 6) cb
      rw [if_pos cb, if_neg z10, gR64 w, Option.bind_some, R64_9 w, alRow w hr, Option.bind_some, ckRow w hr, Option.bind_some, no_e w hr, bd2_s]
      rcases (J r hr).cs with ⟨h1, h2, h3⟩ | ⟨s, n, A⟩
      · rw [h1, if_neg n0_le, if_neg z10]
        refine ⟨-11, h, h, rfl, ?_, FS.rf _ _, J0⟩
        unfold fX14_twin
        rw [isRow_k hr, bd2_s, if_neg z10, isRow_k hu, bd2_s, if_neg z10, MR48 w, Option.bind_some, ML192 w hr, Option.bind_some, h3, if_neg n0_le]
      · obtain ⟨a1, a2, a3, a4, a5, a6, a7, a8⟩ := A
        rw [a3, if_pos (i0_le s (by omega)), if_pos rfl, jn_e]
        by_cases ce : iN r = iN u
        · have eru : r = u := by rw [i_eq (by omega) (by omega)] at ce; exact ce
          subst eru
          rw [if_pos rfl]; dsimp only
          rw [gRow w hr, Option.bind_some, a5]
          obtain ⟨g, e1, H⟩ := tw_full w hr hr a1 a2 a4 a6
          have xi : ∀ x j, hI g x j = hI h x j := fun x j => by
            rw [H.2.2.2.2.1]; dsimp only
            by_cases c0 : x = 194 ∧ 60 * r ≤ j ∧ j < 60 * r + 60
            · rw [if_pos c0, c0.1, show 60 * r + (j - 60 * r) = j by omega]
            rw [if_neg c0]
            by_cases c1 : x = 192 ∧ j = r
            · rw [if_pos c1, c1.1, c1.2, a4]
            rw [if_neg c1]
            by_cases c2 : x = 193 ∧ j = r
            · rw [if_pos c2, c2.1, c2.2, a6]
            rw [if_neg c2]
          have xf : ∀ x j, hF g x j = hF h x j := fun x j => by
            rw [H.2.2.2.2.2]; dsimp only
            by_cases c0 : x = 195 ∧ 60 * r ≤ j ∧ j < 60 * r + 60
            · rw [if_pos c0, c0.1, show 60 * r + (j - 60 * r) = j by omega]
            rw [if_neg c0]
          have F : FS (fun _ _ => False) h g := ⟨H.1, H.2.1, H.2.2.1, H.2.2.2.1, fun x k _ => ⟨xi x k, xf x k⟩⟩
          exact ⟨_, h, g, rfl, e1, F.up (fun _ _ q => q.elim), J0.fg w F.fg (fun _ _ _ q => q)⟩
        · have hne : r ≠ u := fun q => ce (by rw [q])
          rw [if_neg ce, gR64 w, Option.bind_some, R64_9 w, alRow w hu, Option.bind_some, gRow w hr, Option.bind_some, a3, gRow w hr, Option.bind_some, a5, ckRow w hu, Option.bind_some]
          obtain ⟨h1, e1, F1, v0, v1, vz⟩ := begin_e w hu a2 (iN s)
          have w1 := F1.wf w
          have o1 : ∀ x k, ¬ (89 + 3 * u ≤ x ∧ x ≤ 91 + 3 * u) → hI h1 x k = hI h x k ∧ hF h1 x k = hF h x k := fun x k q => F1.2.2.2.2 x k q
          have x5 : hI h1 (89 + 3 * r) 1 = iN n := by rw [(o1 _ _ (by omega)).1]; exact a5
          have tk : fX8_take (89 + 3 * u) (89 + 3 * r) 0 0 (iN n) h1 = _ := take_e (p := 0) (q := 0) w1 hr hu a2 a2 x5 v1 (by omega) (by omega)
          have wk : WF (pCF (pCI h1 (90 + 3 * r) 0 (90 + 3 * u) 0 n) (91 + 3 * r) 0 (91 + 3 * u) 0 n) := w1
          rw [e1, Option.bind_some, gR64 w1, Option.bind_some, R64_9 w1, alRow w1 hu, Option.bind_some, gRow w1 hr, Option.bind_some, x5, ckRow w1 hu, Option.bind_some, tk, Option.bind_some]; dsimp only
          rw [gRow wk hr, Option.bind_some]
          have y1 : ∀ x j, hI (pCF (pCI h1 (90 + 3 * r) 0 (90 + 3 * u) 0 n) (91 + 3 * r) 0 (91 + 3 * u) 0 n) x j = if x = 90 + 3 * u ∧ 0 ≤ j ∧ j < 0 + n then hI h1 (90 + 3 * r) (0 + (j - 0)) else hI h1 x j := fun _ _ => rfl
          have y2 : ∀ x j, hF (pCF (pCI h1 (90 + 3 * r) 0 (90 + 3 * u) 0 n) (91 + 3 * r) 0 (91 + 3 * u) 0 n) x j = if x = 91 + 3 * u ∧ 0 ≤ j ∧ j < 0 + n then hF h1 (91 + 3 * r) (0 + (j - 0)) else hF h1 x j := fun _ _ => rfl
          have yF : FS (rP u) h1 (pCF (pCI h1 (90 + 3 * r) 0 (90 + 3 * u) 0 n) (91 + 3 * r) 0 (91 + 3 * u) 0 n) := ⟨rfl, rfl, rfl, rfl, fun x k q => by unfold rP at q; rw [y1, y2, if_neg (by omega), if_neg (by omega)]; exact ⟨rfl, rfl⟩⟩
          obtain ⟨g, e2, H⟩ := tw_full (g := pCF (pCI h1 (90 + 3 * r) 0 (90 + 3 * u) 0 n) (91 + 3 * r) 0 (91 + 3 * u) 0 n) wk hr hu a1 a2 (by rw [y1, if_neg (by omega), (o1 _ _ (by omega)).1]; exact a4) (by rw [y1, if_neg (by omega), (o1 _ _ (by omega)).1]; exact a6)
          have F : FS (rP u) h g := ((F1.up fun x k q => .inl q).tr yF).tr (H.fs fun x k q => by unfold rP at q; rw [if_neg (by omega), if_neg (by omega), if_neg (by omega), if_neg (by omega)]; exact ⟨rfl, rfl⟩)
          have R : RS g u s n := by
            refine ⟨a1, a2, ?_, ?_, ?_, ?_, fun hs k hk => ?_, fun hs k hk => ?_⟩
            · rw [H.2.2.2.2.1]; dsimp only; rw [if_neg (by omega), if_neg (by omega), if_neg (by omega), y1, if_neg (by omega)]; exact v0
            · rw [H.2.2.2.2.1]; dsimp only; rw [if_neg (by omega), if_pos ⟨rfl, rfl⟩]
            · rw [H.2.2.2.2.1]; dsimp only; rw [if_neg (by omega), if_neg (by omega), if_neg (by omega), y1, if_neg (by omega)]; exact v1
            · rw [H.2.2.2.2.1]; dsimp only; rw [if_neg (by omega), if_neg (by omega), if_pos ⟨rfl, rfl⟩]
            · rw [H.2.2.2.2.1, H.2.2.2.2.1]; dsimp only
              rw [if_neg (show ¬ (90 + 3 * u = 194 ∧ _) by omega), if_neg (by omega), if_neg (by omega), y1, if_pos ⟨rfl, by omega, by omega⟩, if_pos ⟨rfl, by omega, by omega⟩, y1, if_neg (by omega), (o1 _ _ (by omega)).1, (o1 _ _ (by omega)).1, a7 hs _ (by omega), show 0 + (k - 0) = k by omega, show 60 * u + k - 60 * u = k by omega]
            · rw [H.2.2.2.2.2, H.2.2.2.2.2]; dsimp only
              rw [if_neg (show ¬ (91 + 3 * u = 195 ∧ _) by omega), y2, if_pos ⟨rfl, by omega, by omega⟩, if_pos ⟨rfl, by omega, by omega⟩, y2, if_neg (by omega), (o1 _ _ (by omega)).2, (o1 _ _ (by omega)).2, show 0 + (k - 0) = k by omega, show 60 * u + k - 60 * u = k by omega]
              exact a8 hs k hk
          obtain ⟨G, K⟩ := Jr.one hu J F R.rw
          exact ⟨_, _, g, by rw [y1, if_neg (by omega), x5], e2, G, K⟩
    · rw [if_neg cb, if_pos rfl]
      refine ⟨-1, h, h, rfl, ?_, FS.rf _ _, J0⟩
      unfold fX14_twin
      rw [isRow_e, bd2_s, if_pos ca, if_neg z10, isRow_e, bd2_s, if_neg cb, if_pos rfl]
  · rw [if_neg ca, if_pos rfl]
    refine ⟨-1, h, h, rfl, ?_, FS.rf _ _, J0⟩
    unfold fX14_twin
    rw [isRow_e, bd2_s, if_neg ca, if_pos rfl]

/-! rows -/
def HE (h h' : hp) (I : Nat → Nat → Int32) (F : Nat → Nat → UInt32) : Prop := hN h' = hN h ∧ hL h' = hL h ∧ hT h' = hT h ∧ hR h' = hR h ∧ (∀ x k, hI h' x k = I x k) ∧ ∀ x k, hF h' x k = F x k
theorem HE.wf {h h' : hp} {I : Nat → Nat → Int32} {F : Nat → Nat → UInt32} (a : HE h h' I F) (w : WF h) : WF h' := WF_same w a.2.2.1 a.2.2.2.1 a.1
theorem HE.fs {h h' : hp} {I : Nat → Nat → Int32} {F : Nat → Nat → UInt32} {P : Nat → Nat → Prop} (a : HE h h' I F) (e : ∀ x k, ¬ P x k → I x k = hI h x k ∧ F x k = hF h x k) : FS P h h' :=
  ⟨a.1, a.2.1, a.2.2.1, a.2.2.2.1, fun x k hx => ⟨(a.2.2.2.2.1 x k).trans (e x k hx).1, (a.2.2.2.2.2 x k).trans (e x k hx).2⟩⟩
/-- what belongs to one row -/
def rP (r x k : Nat) : Prop := (89 + 3 * r ≤ x ∧ x ≤ 91 + 3 * r) ∨ ((x = 192 ∨ x = 193) ∧ k = r) ∨ ((x = 194 ∨ x = 195) ∧ 60 * r ≤ k ∧ k < 60 * r + 60)
theorem RW.fs {h h' : hp} {r r' : Nat} (hr : r < 6) (hr' : r' < 6) (hne : r ≠ r') (H : RW h r') (f : FS (rP r) h h') : RW h' r' := by
  have e := fun x k q => f.2.2.2.2 x k q
  unfold RW
  rw [(e (89 + 3 * r') 0 (by unfold rP; omega)).1, (e (89 + 3 * r') 1 (by unfold rP; omega)).1, (e 192 r' (by unfold rP; omega)).1, (e 193 r' (by unfold rP; omega)).1]
  rcases H with h1 | ⟨s, n, h1, h2, h3, h4, h5, h6, h7, h8⟩
  · exact .inl h1
  · refine .inr ⟨s, n, h1, h2, h3, h4, h5, h6, fun hs k hk => ?_, fun hs k hk => ?_⟩
    · rw [(e (90 + 3 * r') k (by unfold rP; omega)).1, (e 194 (60 * r' + k) (by unfold rP; omega)).1]; exact h7 hs k hk
    · rw [(e (91 + 3 * r') k (by unfold rP; omega)).2, (e 195 (60 * r' + k) (by unfold rP; omega)).2]; exact h8 hs k hk
theorem Jr.one {h h' : hp} {r : Nat} (hr : r < 6) (J : Jr h) (f : FS (rP r) h h') (H : RW h' r) : FS Pr h h' ∧ Jr h' := by
  refine ⟨f.up fun x k q => ?_, fun r' hr' => ?_⟩
  · unfold rP at q; unfold Pr; omega
  · by_cases c : r' = r
    · subst c; exact H
    · exact (J r' hr').fs hr hr' (fun q => c q.symm) f
theorem px (r k : Nat) : (60 * iN r) + iN k = iN (60 * r + k) := by
  have : (60 : Int32) * iN r = iN (60 * r) := i_mul 60 r
  rw [this, i_add]
theorem gRow {h : hp} (w : WF h) {r : Nat} (hr : r < 6) (k : Nat) : gfI h (89 + 3 * r) 7 k = some (hI h (89 + 3 * r) k) := by unfold gfI; rw [(RO_row w hr).1]; rfl
theorem gRow2 {h : hp} (w : WF h) {r : Nat} (hr : r < 6) : gfR h (89 + 3 * r) 7 2 = some (90 + 3 * r) := by unfold gfR; rw [(RO_row w hr).1]; show some (hR h (89 + 3 * r) 2) = _; rw [(RO_row w hr).2.2.2.1]
theorem gRow3 {h : hp} (w : WF h) {r : Nat} (hr : r < 6) : gfR h (89 + 3 * r) 7 3 = some (91 + 3 * r) := by unfold gfR; rw [(RO_row w hr).1]; show some (hR h (89 + 3 * r) 3) = _; rw [(RO_row w hr).2.2.2.2]
theorem pRow {h : hp} (w : WF h) {r : Nat} (hr : r < 6) (k : Nat) (v : Int32) : pfI h (89 + 3 * r) 7 k v = some (pI h (89 + 3 * r) k v) := by unfold pfI; rw [(RO_row w hr).1]; rfl
theorem ckRow {h : hp} (w : WF h) {r : Nat} (hr : r < 6) : ckT h (89 + 3 * r) 7 = some () := by unfold ckT; rw [(RO_row w hr).1]; rfl
theorem alRow {h : hp} (w : WF h) {r : Nat} (hr : r < 6) : alR 4 h 88 (iN r) = some (89 + 3 * r) := by rw [alR_e (T88 w) hr (by decide), Rrow w hr]
theorem alB {h : hp} (w : WF h) {r k : Nat} (hr : r < 6) (hk : k < 60) : alI h (90 + 3 * r) (iN k) = some (hI h (90 + 3 * r) k) := al_e (RO_row w hr).2.1 hk (by decide)
theorem alC {h : hp} (w : WF h) {r k : Nat} (hr : r < 6) (hk : k < 60) : alF h (91 + 3 * r) (iN k) = some (hF h (91 + 3 * r) k) := alF_e (RO_row w hr).2.2.1 hk (by decide)
theorem asB {h : hp} (w : WF h) {r k : Nat} (hr : r < 6) (hk : k < 60) (v : Int32) : asI h (90 + 3 * r) (iN k) v = some (pI h (90 + 3 * r) k v) := as_e (RO_row w hr).2.1 hk (by decide)
theorem asC {h : hp} (w : WF h) {r k : Nat} (hr : r < 6) (hk : k < 60) (v : UInt32) : asF h (91 + 3 * r) (iN k) v = some (pF h (91 + 3 * r) k v) := asF_e (RO_row w hr).2.2.1 hk (by decide)
theorem isRow_e (v : Int32) (h : hp) : fX14_isRow v h = some (if 0 ≤ v.toInt ∧ v.toInt < 6 then 1 else 0, h) := by
  unfold fX14_isRow
  rw [isIn_e, bd2_s, zck_ite, Option.bind_some, Int32.toInt_toInt64, show (0 : Int64).toInt = 0 by decide, show (5 : Int64).toInt = 5 by decide]
  by_cases c : 0 ≤ v.toInt ∧ v.toInt < 6
  · rw [if_pos c, if_pos (by omega)]
  · rw [if_neg c, if_neg (by omega)]
theorem am6 (v : Int32) (h : hp) : fX13_among v 6 h = some (if 0 ≤ v.toInt ∧ v.toInt < 6 then 1 else 0, h) := am_e v 6 (by decide) h
theorem am3 (v : Int32) (h : hp) : fX13_among v 3 h = some (if 0 ≤ v.toInt ∧ v.toInt < 3 then 1 else 0, h) := am_e v 3 (by decide) h
theorem zl {r : Nat} (hr : r < 6) : ∀ (d k n : Nat) (h : hp), WF h → k + d = 60 → d < n → ∃ h', fX8_begin_l21 n (89 + 3 * r) (iN k) h = some h' ∧ HE h h' (fun x j => if x = 90 + 3 * r ∧ k ≤ j ∧ j < 60 then 0 else hI h x j) (fun x j => if x = 91 + 3 * r ∧ k ≤ j ∧ j < 60 then FP.fconst0 else hF h x j) := by
  intro d
  induction d with
  | zero =>
    intro k n h w hk hn
    obtain ⟨n, rfl⟩ : ∃ q, n = q + 1 := ⟨n - 1, by omega⟩
    have e : 60 ≤ iN k := by rw [i_lit_le (by decide) (by omega)]; show 60 ≤ k; omega
    refine ⟨h, by simp only [fX8_begin_l21, e, if_true], rfl, rfl, rfl, rfl, fun x j => ?_, fun x j => ?_⟩
    · dsimp only; rw [if_neg (by omega)]
    · dsimp only; rw [if_neg (by omega)]
  | succ d ih =>
    intro k n h w hk hn
    obtain ⟨n, rfl⟩ : ∃ q, n = q + 1 := ⟨n - 1, by omega⟩
    have e : ¬ (60 ≤ iN k) := by rw [i_lit_le (by decide) (by omega)]; show ¬ (60 ≤ k); omega
    have hk60 : k < 60 := by omega
    have w1 : WF (pI h (90 + 3 * r) k 0) := w
    obtain ⟨h', e1, H⟩ := ih (k + 1) n (pF (pI h (90 + 3 * r) k 0) (91 + 3 * r) k FP.fconst0) w (by omega) (by omega)
    refine ⟨h', ?_, H.1, H.2.1, H.2.2.1, H.2.2.2.1, fun x j => ?_, fun x j => ?_⟩
    · rw [fX8_begin_l21, if_neg e, gRow2 w hr, Option.bind_some, asB w hr hk60, Option.bind_some, gRow3 w1 hr, Option.bind_some, asC w1 hr hk60, Option.bind_some, i_succ, e1]
    · rw [H.2.2.2.2.1 x j]; dsimp only; rw [hI_pF, hI_pI]
      by_cases c1 : x = 90 + 3 * r ∧ k + 1 ≤ j ∧ j < 60
      · rw [if_pos c1, if_pos (by omega)]
      · rw [if_neg c1]
        by_cases c2 : x = 90 + 3 * r ∧ j = k
        · rw [if_pos c2, if_pos (by omega)]
        · rw [if_neg c2, if_neg (by omega)]
    · rw [H.2.2.2.2.2 x j]; dsimp only; rw [hF_pF, hF_pI]
      by_cases c1 : x = 91 + 3 * r ∧ k + 1 ≤ j ∧ j < 60
      · rw [if_pos c1, if_pos (by omega)]
      · rw [if_neg c1]
        by_cases c2 : x = 91 + 3 * r ∧ j = k
        · rw [if_pos c2, if_pos (by omega)]
        · rw [if_neg c2, if_neg (by omega)]
theorem zlM {r : Nat} (hr : r < 6) : ∀ (d k n : Nat) (h : hp), WF h → k + d = 60 → d < n → ∃ h', fX14_row_l54 n 165 (iN r) (iN k) h = some h' ∧ HE h h' (fun x j => if x = 194 ∧ 60 * r + k ≤ j ∧ j < 60 * r + 60 then 0 else hI h x j) (fun x j => if x = 195 ∧ 60 * r + k ≤ j ∧ j < 60 * r + 60 then FP.fconst0 else hF h x j) := by
  intro d
  induction d with
  | zero =>
    intro k n h w hk hn
    obtain ⟨n, rfl⟩ : ∃ q, n = q + 1 := ⟨n - 1, by omega⟩
    have e : 60 ≤ iN k := by rw [i_lit_le (by decide) (by omega)]; show 60 ≤ k; omega
    refine ⟨h, by simp only [fX14_row_l54, e, if_true], rfl, rfl, rfl, rfl, fun x j => ?_, fun x j => ?_⟩
    · dsimp only; rw [if_neg (by omega)]
    · dsimp only; rw [if_neg (by omega)]
  | succ d ih =>
    intro k n h w hk hn
    obtain ⟨n, rfl⟩ : ∃ q, n = q + 1 := ⟨n - 1, by omega⟩
    have e : ¬ (60 ≤ iN k) := by rw [i_lit_le (by decide) (by omega)]; show ¬ (60 ≤ k); omega
    have hq : 60 * r + k < 360 := by omega
    have w1 : WF (pI h 194 (60 * r + k) 0) := w
    obtain ⟨h', e1, H⟩ := ih (k + 1) n (pF (pI h 194 (60 * r + k) 0) 195 (60 * r + k) FP.fconst0) w (by omega) (by omega)
    refine ⟨h', ?_, H.1, H.2.1, H.2.2.1, H.2.2.2.1, fun x j => ?_, fun x j => ?_⟩
    · rw [fX14_row_l54, if_neg e, MR50 w, Option.bind_some, px, MS194 w hq, Option.bind_some, MR51 w1, Option.bind_some, MS195 w1 hq, Option.bind_some, i_succ, e1]
    · rw [H.2.2.2.2.1 x j]; dsimp only; rw [hI_pF, hI_pI]
      by_cases c1 : x = 194 ∧ 60 * r + (k + 1) ≤ j ∧ j < 60 * r + 60
      · rw [if_pos c1, if_pos (by omega)]
      · rw [if_neg c1]
        by_cases c2 : x = 194 ∧ j = 60 * r + k
        · rw [if_pos c2, if_pos (by omega)]
        · rw [if_neg c2, if_neg (by omega)]
    · rw [H.2.2.2.2.2 x j]; dsimp only; rw [hF_pF, hF_pI]
      by_cases c1 : x = 195 ∧ 60 * r + (k + 1) ≤ j ∧ j < 60 * r + 60
      · rw [if_pos c1, if_pos (by omega)]
      · rw [if_neg c1]
        by_cases c2 : x = 195 ∧ j = 60 * r + k
        · rw [if_pos c2, if_pos (by omega)]
        · rw [if_neg c2, if_neg (by omega)]
/-- a row begun, in the class -/
theorem begin_e {h : hp} (w : WF h) {r n : Nat} (hr : r < 6) (hn : n ≤ 60) (s : Int32) : ∃ h', fX8_begin (89 + 3 * r) s (iN n) h = some h' ∧ FS (fun x _ => 89 + 3 * r ≤ x ∧ x ≤ 91 + 3 * r) h h' ∧ hI h' (89 + 3 * r) 0 = s ∧ hI h' (89 + 3 * r) 1 = iN n ∧ ∀ k, k < 60 → hI h' (90 + 3 * r) k = 0 ∧ hF h' (91 + 3 * r) k = FP.fconst0 := by
  have w1 : WF (pI h (89 + 3 * r) 0 s) := w
  have w2 : WF (pI (pI h (89 + 3 * r) 0 s) (89 + 3 * r) 1 (iN n)) := w
  obtain ⟨h', e1, H⟩ := zl hr 60 0 FU (pI (pI h (89 + 3 * r) 0 s) (89 + 3 * r) 1 (iN n)) w2 rfl (by show 60 < 1000000; omega)
  have m1 : fJ9_min_7cf53 (iN n) 60 (pI h (89 + 3 * r) 0 s) = some (iN n, pI h (89 + 3 * r) 0 s) := by
    unfold fJ9_min_7cf53
    by_cases c : (60 : Int32) < iN n
    · rw [i_lit_lt (by decide) (by omega)] at c
      replace c : 60 < n := c
      omega
    · rw [if_neg c]
  have m2 : fJ9_max_7cf53 0 (iN n) (pI h (89 + 3 * r) 0 s) = some (iN n, pI h (89 + 3 * r) 0 s) := by
    unfold fJ9_max_7cf53
    by_cases c : (0 : Int32) < iN n
    · rw [if_pos c]
    · rw [if_neg c]
      rw [i_lit_lt (by decide) (by omega)] at c
      replace c : ¬ 0 < n := c
      rw [show n = 0 by omega]; rfl
  refine ⟨h', ?_, FS.tr (FS.tr (FS.pI ⟨by omega, by omega⟩) (FS.pI ⟨by omega, by omega⟩)) (H.fs fun x k q => ⟨by rw [if_neg (by omega)], by rw [if_neg (by omega)]⟩), ?_, ?_, fun k hk => ⟨?_, ?_⟩⟩
  · rw [fX8_begin, pRow w hr, Option.bind_some, m1, bd2_s, m2, bd2_s, pRow w1 hr, Option.bind_some, show fX8_begin_l21 FU (89 + 3 * r) 0 _ = _ from e1, Option.bind_some]
  · rw [H.2.2.2.2.1]; dsimp only; rw [if_neg (by omega), hI_pI, if_neg (by omega), hI_pI, if_pos ⟨rfl, rfl⟩]
  · rw [H.2.2.2.2.1]; dsimp only; rw [if_neg (by omega), hI_pI, if_pos ⟨rfl, rfl⟩]
  · rw [H.2.2.2.2.1]; dsimp only; rw [if_pos ⟨rfl, by omega, hk⟩]
  · rw [H.2.2.2.2.2]; dsimp only; rw [if_pos ⟨rfl, by omega, hk⟩]
theorem f0_fin : Jvm.FP.Core.FFin FP.fconst0 ∧ FP.fconst0.toNat ≠ 2 ^ 31 := ⟨by rw [Jvm.FP.Core.fin_bits32]; decide, by decide⟩
theorem call_row {h : hp} (w : WF h) (J : Jr h) (a b c : Int32) : C2 (fX13_row 64 a b c) (fX14_row 165 a b c) h Pr Jr := by
  have J0 := J
  have c1 : c ≤ 60 ↔ c.toInt ≤ 60 := by rw [Int32.le_iff_toInt_le, show (60 : Int32).toInt = 60 by decide]
  have c2 : 0 ≤ c ↔ 0 ≤ c.toInt := by rw [Int32.le_iff_toInt_le, show (0 : Int32).toInt = 0 by decide]
  unfold C2 fX13_row fX14_row
  rw [am6, bd2_s]
  by_cases ca : 0 ≤ a.toInt ∧ a.toInt < 6
  · rw [if_pos ca, if_neg z10, am3, bd2_s]
    have mi : ∀ g : hp, fX14_isIn b.toInt64 0 2 g = some (if 0 ≤ b.toInt ∧ b.toInt < 3 then 1 else 0, g) := fun g => by
      rw [isIn_e, Int32.toInt_toInt64, show (0 : Int64).toInt = 0 by decide, show (2 : Int64).toInt = 2 by decide]
      by_cases c : 0 ≤ b.toInt ∧ b.toInt < 3
      · rw [if_pos c, if_pos (by omega)]
      · rw [if_neg c, if_neg (by omega)]
    by_cases cb : 0 ≤ b.toInt ∧ b.toInt < 3
    · rw [if_pos cb, if_neg z10]
      by_cases cc : c.toInt ≤ 60
      · rw [if_pos (c1.mpr cc)]
        by_cases cd : 0 ≤ c.toInt
        · rw [if_pos (c2.mpr cd)]
          obtain ⟨r, hr, rfl⟩ := i_of2 (n := 6) ca
          obtain ⟨s, hs, rfl⟩ := i_of2 (n := 3) cb
          obtain ⟨n, hn, rfl⟩ := i_of2 (v := c) (n := 61) (by omega)
          rw [gR64 w, Option.bind_some, R64_9 w, alRow w hr, Option.bind_some, ckRow w hr, Option.bind_some]
          obtain ⟨h1, e1, F1, v0, v1, vz⟩ := begin_e w hr (show n ≤ 60 by omega) (iN s)
          have w1 := F1.wf w
          have w3 : WF (pI (pI h1 192 r (iN s)) 193 r (iN n)) := w1
          obtain ⟨h2, e2, H⟩ := zlM hr 60 0 FU (pI (pI h1 192 r (iN s)) 193 r (iN n)) w3 rfl (by show 60 < 1000000; omega)
          have w2 : WF (pI h1 192 r (iN s)) := w1
          have F2 : FS (rP r) h1 h2 := FS.tr (FS.tr (FS.pI (by simp [rP])) (FS.pI (by simp [rP]))) (H.fs fun x k q => ⟨by unfold rP at q; rw [if_neg (by omega)], by unfold rP at q; rw [if_neg (by omega)]⟩)
          have F : FS (rP r) h h2 := (F1.up fun x k q => .inl q).tr F2
          have x : ∀ x k, x < 192 → hI h2 x k = hI h1 x k := fun x k hx => by
            rw [H.2.2.2.2.1]; dsimp only; rw [if_neg (by omega), hI_pI, if_neg (by omega), hI_pI, if_neg (by omega)]
          have y : ∀ x k, x < 192 → hF h2 x k = hF h1 x k := fun x k hx => by
            rw [H.2.2.2.2.2]; dsimp only; rw [if_neg (by omega), hF_pI, hF_pI]
          have R : RW h2 r := by
            refine .inr ⟨s, n, by omega, by omega, by rw [x _ _ (by omega), v0], ?_, by rw [x _ _ (by omega), v1], ?_, fun _ k hk => ?_, fun _ k hk => ?_⟩
            · rw [H.2.2.2.2.1]; dsimp only; rw [if_neg (by omega), hI_pI, if_neg (by omega), hI_pI, if_pos ⟨rfl, rfl⟩]
            · rw [H.2.2.2.2.1]; dsimp only; rw [if_neg (by omega), hI_pI, if_pos ⟨rfl, rfl⟩]
            · rw [x _ _ (by omega), (vz k (by omega)).1, H.2.2.2.2.1]; dsimp only; rw [if_pos ⟨rfl, by omega, by omega⟩]
            · rw [y _ _ (by omega), (vz k (by omega)).2, H.2.2.2.2.2]; dsimp only; rw [if_pos ⟨rfl, by omega, by omega⟩]
              exact ⟨rfl, f0_fin⟩
          obtain ⟨G, K⟩ := Jr.one hr J F R
          refine ⟨1, h1, h2, by rw [e1, Option.bind_some], ?_, G, K⟩
          rw [isRow_e, bd2_s, if_pos ca, if_neg z10, mi, bd2_s, if_pos cb, if_neg z10, if_pos (c1.mpr cc), if_pos (c2.mpr cd), MR48 w1, Option.bind_some, MS192 w1 hr, Option.bind_some, MR49 w2, Option.bind_some, MS193 w2 hr, Option.bind_some, show fX14_row_l54 FU 165 (iN r) 0 _ = _ from e2, Option.bind_some]
        · rw [if_neg (fun q => cd (c2.mp q))]
          refine ⟨-14, h, h, rfl, ?_, FS.rf _ _, J0⟩
          rw [isRow_e, bd2_s, if_pos ca, if_neg z10, mi, bd2_s, if_pos cb, if_neg z10, if_pos (c1.mpr cc), if_neg (fun q => cd (c2.mp q))]
      · rw [if_neg (fun q => cc (c1.mp q))]
        refine ⟨-2, h, h, rfl, ?_, FS.rf _ _, J0⟩
        rw [isRow_e, bd2_s, if_pos ca, if_neg z10, mi, bd2_s, if_pos cb, if_neg z10, if_neg (fun q => cc (c1.mp q))]
    · rw [if_neg cb, if_pos rfl]
      refine ⟨-1, h, h, rfl, ?_, FS.rf _ _, J0⟩
      rw [isRow_e, bd2_s, if_pos ca, if_neg z10, mi, bd2_s, if_neg cb, if_pos rfl]
  · rw [if_neg ca, if_pos rfl]
    refine ⟨-1, h, h, rfl, ?_, FS.rf _ _, J0⟩
    rw [isRow_e, bd2_s, if_neg ca, if_pos rfl]

/-! the class's walk: bytes put, values put -/
def Psf (x k : Nat) : Prop := (x = 134 ∧ 10 ≤ k) ∨ x = 86 ∨ x = 87 ∨ x = 143 ∨ x = 144
theorem CX.w {h : hp} {own : Nat → Nat} {tp : Tp} {lim : Nat} {KL : List (Nat × vT)} {LL : Nat → Option vT} {fr : Fr} {trn : Option Nat} {lk : Bool} {dp : Nat} {ch : Option (List Nat × Nat × Option Nat)} {σ : St} {fl : Bool} (H : CX h own tp lim KL LL fr ch trn lk dp σ fl) : WF h := H.1.1.1
theorem CX.leaf {P : Nat → Nat → Prop} {h h' : hp} {own : Nat → Nat} {tp : Tp} {lim : Nat} {KL : List (Nat × vT)} {LL : Nat → Option vT} {fr : Fr} {trn : Option Nat} {lk : Bool} {dp : Nat} {ch : Option (List Nat × Nat × Option Nat)} {σ : St} {fl fl' : Bool} {ctx st : Nat} {out : List Int32} (H : CX h own tp lim KL LL fr ch trn lk dp σ fl) (f : FS P h h') (hP : ∀ x k, P x k → Psf x k) (n : CN h' KL.length (opN fr ch) dp ctx st trn lk fl') (N : OL h' tp fl' out) (b1 : ctx ≤ 3) (b2 : st ≤ 300) : CX h' own tp lim KL LL fr ch trn lk dp (σ.1, ctx, out, st) fl' := by
  obtain ⟨B, R, C, _, _, _, _, t, d1, d2⟩ := H
  have hn := B.1.1.2.2
  have np : ∀ x k, x ≠ 134 → x ≠ 86 → x ≠ 87 → x ≠ 143 → x ≠ 144 → ¬ P x k := fun x k _ _ _ _ _ q => by have := hP x k q; unfold Psf at this; omega
  refine ⟨B.fs f fun x k q => ?_, R.fs f (fun x k _ _ => np x k (by omega) (by omega) (by omega) (by omega) (by omega)), C.fs f (fun k _ => np _ k (by omega) (by omega) (by omega) (by omega) (by omega)) (fun k => np _ k (by omega) (by omega) (by omega) (by omega) (by omega)), n, N, b1, b2, t, d1, d2⟩
  have := hP x k q
  unfold Psf at this
  refine ⟨by omega, ?_⟩
  unfold PA
  omega
def CF (h : hp) (own : Nat → Nat) (tp : Tp) (lim : Nat) (KL : List (Nat × vT)) (LL : Nat → Option vT) (fr : Fr) (ch : Option (List Nat × Nat × Option Nat)) (trn : Option Nat) (lk : Bool) (dp : Nat) (vs : Nat → vT) (e : Nat × List Lk) : Prop := ∃ ctx out, CX h own tp lim KL LL fr ch trn lk dp (vs, ctx, out, e.1) true ∧ NL h 86 87 162 (fltL e.2)
def CQ (h : hp) (own : Nat → Nat) (tp : Tp) (lim : Nat) (KL : List (Nat × vT)) (LL : Nat → Option vT) (fr : Fr) (ch : Option (List Nat × Nat × Option Nat)) (trn : Option Nat) (lk : Bool) (dp : Nat) (vs : Nat → vT) (R : Ot) : Prop :=
  match R with
  | .inl σ => CX h own tp lim KL LL fr ch trn lk dp σ false ∧ σ.1 = vs
  | .inr e => CF h own tp lim KL LL fr ch trn lk dp vs e
theorem CN.fl {h h' : hp} {kl op dp ctx st : Nat} {trn : Option Nat} {lk : Bool} (H : CN h kl op dp ctx st trn lk false) (f : FS Pfl h h') (e : hI h' 134 17 = 1) : CN h' kl op dp ctx st trn lk true := by
  have n : ∀ k, k ≠ 17 → ¬ Pfl 134 k := fun k hk q => by unfold Pfl at q; omega
  unfold CN at *
  rw [(f.2.2.2.2 134 10 (n _ (by decide))).1, (f.2.2.2.2 134 11 (n _ (by decide))).1, (f.2.2.2.2 134 12 (n _ (by decide))).1, (f.2.2.2.2 134 13 (n _ (by decide))).1, (f.2.2.2.2 134 14 (n _ (by decide))).1, (f.2.2.2.2 134 15 (n _ (by decide))).1, (f.2.2.2.2 134 16 (n _ (by decide))).1]
  exact ⟨H.1, H.2.1, H.2.2.1, H.2.2.2.1, H.2.2.2.2.1, H.2.2.2.2.2.1, H.2.2.2.2.2.2.1, e⟩
/-- a fault -/
theorem ft_e {h : hp} {own : Nat → Nat} {tp : Tp} {lim : Nat} {KL : List (Nat × vT)} {LL : Nat → Option vT} {fr : Fr} {trn : Option Nat} {lk : Bool} {dp : Nat} {c : List Nat} {j : Nat} {bb : Option Nat} {σ : St} (H : CX h own tp lim KL LL fr (some (c, j, bb)) trn lk dp σ false) (ln s : Nat) : ∃ h', fX12_fail 134 (iN ln) (iN s) h = some h' ∧ FS Pfl h h' ∧ CQ h' own tp lim KL LL fr (some (c, j, bb)) trn lk dp σ.1 (ftW (preF fr, c, j, bb, trn) σ ln s) := by
  obtain ⟨h', e, z, N, f⟩ := fail_e ln s H.w H.1.2.2.2.2.2.2.1 (H.2.2.1 _ rfl) H.1.2.2.2.2.2.2.2 H.2.2.2.1.2.1 H.2.2.2.1.2.2.2.2.2.2.2
  refine ⟨h', e, f, σ.2.1, σ.2.2.1, ?_, N⟩
  exact H.leaf f (fun x k q => by unfold Pfl at q; unfold Psf; omega) (H.2.2.2.1.fl f z) ⟨H.2.2.2.2.1.1.fs f (fun k q => by unfold Pfl at q; omega) (fun k q => by unfold Pfl at q; omega), fun z => by cases z⟩ H.2.2.2.2.2.1 H.2.2.2.2.2.2.1
theorem FS.psf {h h' : hp} (f : FS Pfl h h') : FS Psf h h' := f.up fun x k q => by unfold Pfl at q; unfold Psf; omega
theorem b2_1 : b2 true = 1 := rfl
theorem b2_0 : b2 false = 0 := rfl
theorem putB_e {h : hp} {own : Nat → Nat} {tp : Tp} {lim : Nat} {KL : List (Nat × vT)} {LL : Nat → Option vT} {fr : Fr} {trn : Option Nat} {dp : Nat} {c : List Nat} {j : Nat} {bb : Option Nat} {σ : St} (H : CX h own tp lim KL LL fr (some (c, j, bb)) trn false dp σ false) (ln : Nat) (x : Int32) : ∃ h', fX12_putByte 134 x (iN ln) h = some h' ∧ FS Psf h h' ∧ CQ h' own tp lim KL LL fr (some (c, j, bb)) trn false dp σ.1 (putW lim (preF fr, c, j, bb, trn) ln x σ) := by
  have w := H.w
  have n16 := H.2.2.2.1.2.2.2.2.2.2.1
  have n17 := H.2.2.2.1.2.2.2.2.2.2.2
  have N := H.2.2.2.2.1.1
  have g143 : gfI h 143 4 1 = some (iN σ.2.2.1.length) := by unfold gfI; rw [N.1.1]; show some (hI h 143 1) = _; rw [N.2.1]
  have g65 : gfI h 65 8 3 = some (iN lim) := by unfold gfI; rw [T65 w]; show some (hI h 65 3) = _; rw [H.1.2.2.1.1]
  have l4 := H.1.2.2.1.2
  have N3 := N.2.2.1
  unfold putW fX12_putByte
  rw [gW w, Option.bind_some, n16, if_pos b2_0, gW w, Option.bind_some, n17, if_pos b2_0, gWR w, R134_7 w, Option.bind_some, g143, Option.bind_some, gWR w, R134_0 w, Option.bind_some, g65, Option.bind_some]
  have ii : iN σ.2.2.1.length < iN lim ↔ σ.2.2.1.length < lim := by rw [i_lt (by omega) (by omega)]
  by_cases cl : lim ≤ σ.2.2.1.length
  · rw [if_pos cl, if_neg (fun q => by rw [ii] at q; omega)]
    obtain ⟨h', e, f, r⟩ := ft_e H ln 5
    exact ⟨h', by rw [ckW w, Option.bind_some, show fX12_fail 134 (iN ln) 5 h = _ from e, Option.bind_some], f.psf, r⟩
  · rw [if_neg cl, if_pos (ii.mpr (by omega))]
    obtain ⟨h', e, N', f⟩ := nAdd' x N (by omega)
    refine ⟨h', by rw [Option.bind_some, ckN N.1, Option.bind_some, e, bd2_s], f.fs.up (fun x k q => by simp at q; unfold Psf; omega), ?_, rfl⟩
    exact H.leaf f.fs (fun x k q => by simp at q; unfold Psf; omega) (H.2.2.2.1.fs f.fs (fun k q => by simp at q)) ⟨N', fun z x ex => (H.2.2.2.2.1.2 z x ex).fs f.fs (fun k q => by simp at q) (fun k q => by simp at q)⟩ H.2.2.2.2.2.1 H.2.2.2.2.2.2.1
theorem putB_f {h : hp} {own : Nat → Nat} {tp : Tp} {lim : Nat} {KL : List (Nat × vT)} {LL : Nat → Option vT} {fr : Fr} {trn : Option Nat} {lk : Bool} {dp : Nat} {c : List Nat} {j : Nat} {bb : Option Nat} {vs : Nat → vT} {e : Nat × List Lk} (H : CF h own tp lim KL LL fr (some (c, j, bb)) trn lk dp vs e) (a b : Int32) : fX12_putByte 134 a b h = some h := by
  obtain ⟨ctx, out, H, _⟩ := H
  have w := H.w
  have n17 := H.2.2.2.1.2.2.2.2.2.2.2
  unfold fX12_putByte
  rw [gW w, Option.bind_some]
  by_cases c : hI h 134 16 = 0
  · rw [if_pos c, gW w, Option.bind_some, n17, if_neg (by decide)]
  · rw [if_neg c]
theorem putB_r {h : hp} {own : Nat → Nat} {tp : Tp} {lim : Nat} {KL : List (Nat × vT)} {LL : Nat → Option vT} {fr : Fr} {trn : Option Nat} {dp : Nat} {c : List Nat} {j : Nat} {bb : Option Nat} {vs : Nat → vT} {R : Ot} (H : CQ h own tp lim KL LL fr (some (c, j, bb)) trn false dp vs R) (ln : Nat) (x : Int32) : ∃ h', fX12_putByte 134 x (iN ln) h = some h' ∧ FS Psf h h' ∧ CQ h' own tp lim KL LL fr (some (c, j, bb)) trn false dp vs (bO R (putW lim (preF fr, c, j, bb, trn) ln x)) := by
  cases R with
  | inl σ => obtain ⟨H1, rfl⟩ := H; exact putB_e H1 ln x
  | inr e => exact ⟨h, putB_f H x (iN ln), FS.rf _ h, H⟩
theorem bO_bO (R : Ot) (f g : St → Ot) : bO (bO R f) g = bO R fun σ => bO (f σ) g := by
  cases R with
  | inl σ => rfl
  | inr e => rfl
theorem bO_id (R : Ot) : bO R (fun σ => .inl σ) = R := by
  cases R with
  | inl σ => rfl
  | inr e => rfl
theorem isGr_e (v : Int32) (h : hp) : fX13_isGreat v h = some (if 65 ≤ v.toInt ∧ v.toInt ≤ 90 then 1 else 0, h) := by
  have a1 : v < 65 ↔ v.toInt < 65 := by rw [Int32.lt_iff_toInt_lt, show (65 : Int32).toInt = 65 by decide]
  have a2 : 90 < v ↔ 90 < v.toInt := by rw [Int32.lt_iff_toInt_lt, show (90 : Int32).toInt = 90 by decide]
  unfold fX13_isGreat
  by_cases c1 : v.toInt < 65
  · rw [if_pos (a1.mpr c1), if_neg (by omega)]
  · rw [if_neg (fun q => c1 (a1.mp q))]
    by_cases c2 : 90 < v.toInt
    · rw [if_pos (a2.mpr c2), if_neg (by omega)]
    · rw [if_neg (fun q => c2 (a2.mp q)), if_pos (by omega)]
theorem plain_e (v : Int32) (h : hp) : fX12_isPlainInTag v h = some (if plnW v = true then 1 else 0, h) := by
  unfold fX12_isPlainInTag plnW
  rw [isFig_e, bd2_s]
  by_cases c1 : isF v = true
  · rw [if_pos c1, if_neg (by decide), if_pos]
    simp only [isF, decide_eq_true_eq] at c1 ⊢
    exact .inl c1
  rw [if_neg c1, if_pos rfl, isSm_e, bd2_s]
  by_cases c2 : isL v = true
  · rw [if_pos c2, if_neg (by decide), if_pos]
    simp only [isL, decide_eq_true_eq] at c2 ⊢
    exact .inr (.inl c2)
  rw [if_neg c2, if_pos rfl, isGr_e, bd2_s]
  simp only [isF, isL, decide_eq_true_eq] at c1 c2
  by_cases c3 : 65 ≤ v.toInt ∧ v.toInt ≤ 90
  · rw [if_pos c3, if_neg (by decide), if_pos (by simp only [decide_eq_true_eq]; exact .inr (.inr c3))]
  · rw [if_neg c3, if_pos rfl, if_neg (by simp only [decide_eq_true_eq]; intro q; rcases q with q | q | q; exact c1 q; exact c2 q; exact c3 q)]
theorem word_e (c : Nat) (hc : c ≤ 3) (x : Int32) (h : hp) : fX12_wordFor (iN c) x h = some (if c = 1 ∨ c = 3 then 0 else if x = 60 then 108 else if x = 38 then 97 else if c = 2 ∧ x = 34 then 113 else 0, h) := by
  have n1 : ¬ ((1 : Int32) = 0) := by decide
  have n2 : ¬ ((2 : Int32) = 0) := by decide
  have n3 : ¬ ((3 : Int32) = 0) := by decide
  have n4 : ¬ ((1 : Int32) = 2) := by decide
  have n5 : ¬ ((3 : Int32) = 2) := by decide
  have n6 : ¬ ((0 : Int32) = 2) := by decide
  unfold fX12_wordFor
  rcases (by omega : c = 0 ∨ c = 1 ∨ c = 2 ∨ c = 3) with rfl | rfl | rfl | rfl
  · rw [jn_e, show iN 0 = 0 from rfl, if_pos rfl, if_neg (show ¬ (0 = 1 ∨ 0 = 3) by decide)]
    dsimp only
    by_cases a : x = 60
    · rw [if_pos a, if_pos a]
    · rw [if_neg a, if_neg a]
      by_cases b : x = 38
      · rw [if_pos b, if_pos b]
      · rw [if_neg b, if_neg b, if_neg (show ¬ (0 = 2 ∧ x = 34) by omega), if_neg n6]
        by_cases d : x = 34
        · rw [if_pos d]
        · rw [if_neg d]
  · rw [jn_e, show iN 1 = 1 from rfl, if_neg n1, if_neg n4, if_pos (show (1 = 1 ∨ 1 = 3) by decide)]
  · rw [jn_e, show iN 2 = 2 from rfl, if_neg n2, if_pos rfl, if_neg (show ¬ (2 = 1 ∨ 2 = 3) by decide)]
    dsimp only
    by_cases a : x = 60
    · rw [if_pos a, if_pos a]
    · rw [if_neg a, if_neg a]
      by_cases b : x = 38
      · rw [if_pos b, if_pos b]
      · rw [if_neg b, if_neg b]
        by_cases d : x = 34
        · rw [if_pos d, if_pos rfl, if_pos ⟨rfl, d⟩]
        · rw [if_neg d, if_neg (fun q => d q.2)]
  · rw [jn_e, show iN 3 = 3 from rfl, if_neg n3, if_neg n5, if_pos (show (3 = 1 ∨ 3 = 3) by decide)]
theorem putL1 (lim : Nat) (ρ : Rh) (ln : Nat) (x : Int32) (σ : St) : putL lim ρ ln [x] σ = putW lim ρ ln x σ := bO_id _
theorem putE_e {h : hp} {own : Nat → Nat} {tp : Tp} {lim : Nat} {KL : List (Nat × vT)} {LL : Nat → Option vT} {fr : Fr} {trn : Option Nat} {dp : Nat} {c : List Nat} {j : Nat} {bb : Option Nat} {σ : St} (H : CX h own tp lim KL LL fr (some (c, j, bb)) trn false dp σ false) (ln : Nat) (x : Int32) : ∃ h', fX12_putEscaped 134 x (iN ln) h = some h' ∧ FS Psf h h' ∧ CQ h' own tp lim KL LL fr (some (c, j, bb)) trn false dp σ.1 (putL lim (preF fr, c, j, bb, trn) ln (escW σ.2.1 x) σ) := by
  have w := H.w
  have n13 := H.2.2.2.1.2.2.2.1
  have c3 := H.2.2.2.2.2.1
  have e0 : ∀ g : hp, (k : hp → Option hp) → True := fun _ _ => trivial
  have hw := word_e σ.2.1 c3 x h
  have R0 : CQ h own tp lim KL LL fr (some (c, j, bb)) trn false dp σ.1 (.inl σ) := ⟨H, rfl⟩
  -- three bytes
  have three : ∀ y : Int32, ∃ h', ((ckT h 134 11).bind fun _ => (fX12_putByte 134 38 (iN ln) h).bind fun h20 => (ckT h20 134 11).bind fun _ => (fX12_putByte 134 y (iN ln) h20).bind fun h23 => (ckT h23 134 11).bind fun _ => (fX12_putByte 134 59 (iN ln) h23).bind fun h26 => some h26) = some h' ∧ FS Psf h h' ∧ CQ h' own tp lim KL LL fr (some (c, j, bb)) trn false dp σ.1 (putL lim (preF fr, c, j, bb, trn) ln [38, y, 59] σ) := by
    intro y
    obtain ⟨h1, e1, f1, R1⟩ := putB_r R0 ln 38
    have w1 := f1.wf w
    obtain ⟨h2, e2, f2, R2⟩ := putB_r R1 ln y
    have w2 := f2.wf w1
    obtain ⟨h3, e3, f3, R3⟩ := putB_r R2 ln 59
    refine ⟨h3, by rw [ckW w, Option.bind_some, e1, Option.bind_some, ckW w1, Option.bind_some, e2, Option.bind_some, ckW w2, Option.bind_some, e3, Option.bind_some], (f1.tr f2).tr f3, ?_⟩
    have ee : putL lim (preF fr, c, j, bb, trn) ln [38, y, 59] σ = bO (bO (bO (.inl σ) (putW lim (preF fr, c, j, bb, trn) ln 38)) (putW lim (preF fr, c, j, bb, trn) ln y)) (putW lim (preF fr, c, j, bb, trn) ln 59) := by
      rw [bO_l, bO_bO]
      show bO (putW lim (preF fr, c, j, bb, trn) ln 38 σ) (fun σ' => bO (putW lim (preF fr, c, j, bb, trn) ln y σ') (fun τ => bO (putW lim (preF fr, c, j, bb, trn) ln 59 τ) fun τ' => .inl τ')) = _
      simp only [bO_id]
    rw [ee]; exact R3
  unfold fX12_putEscaped escW
  rw [gW w, Option.bind_some, n13, hw, bd2_s]
  by_cases k1 : σ.2.1 = 1
  · rw [if_pos (Or.inl k1), if_pos k1, if_pos rfl, gW w, Option.bind_some, n13, k1, jn_e, if_neg (show ¬ (iN 1 = 3) by decide)]
    dsimp only
    rw [gW w, Option.bind_some, n13, k1, jn_e, jn_e]
    dsimp only
    rw [if_pos (show iN 1 = 1 by decide), plain_e, bd2_s]
    by_cases p : plnW x = true
    · rw [if_pos p, if_neg (by decide), if_pos p, putL1, ckW w, Option.bind_some]
      obtain ⟨h1, e1, f1, R1⟩ := putB_r R0 ln x
      exact ⟨h1, by rw [e1, Option.bind_some], f1, R1⟩
    · rw [if_neg p, if_pos rfl, if_neg p, putL1, ckW w, Option.bind_some]
      obtain ⟨h1, e1, f1, R1⟩ := putB_r R0 ln 95
      exact ⟨h1, by rw [e1, Option.bind_some], f1, R1⟩
  by_cases k3 : σ.2.1 = 3
  · rw [if_pos (Or.inr k3), if_neg k1, if_pos k3, if_pos rfl, gW w, Option.bind_some, n13, k3, jn_e, if_pos (show iN 3 = 3 by rfl), jn_e]
    dsimp only
    -- what comes behind the sign that is set before
    have tail : ∀ (g : hp) (R : Ot), WF g → CQ g own tp lim KL LL fr (some (c, j, bb)) trn false dp σ.1 R → ∃ h', ((gfI g 134 11 13).bind fun v8 => jn (fun (s83_0 : Int32) (h83j : hp) => (ckT h83j 134 11).bind fun _ => (fX12_putByte 134 s83_0 (iN ln) h83j).bind fun h11 => some h11) fun k83 => jn (fun (h82j : hp) => k83 x h82j) fun k82 => if v8 = 1 then bd2 (fX12_isPlainInTag x g) fun v14 h15 => if v14 = 0 then k83 95 h15 else k82 h15 else k82 g) = some h' ∧ FS Psf g h' ∧ ((hI g 134 13 ≠ 1 ∨ ∃ e, R = .inr e) → CQ h' own tp lim KL LL fr (some (c, j, bb)) trn false dp σ.1 (bO R (putW lim (preF fr, c, j, bb, trn) ln x))) := by
      intro g R wg Rg
      rw [gW wg, Option.bind_some, jn_e, jn_e]
      dsimp only
      by_cases z : hI g 134 13 = 1
      · rw [if_pos z, plain_e, bd2_s]
        by_cases p : plnW x = true
        · rw [if_pos p, if_neg (by decide), ckW wg, Option.bind_some]
          obtain ⟨h1, e1, f1, R1⟩ := putB_r Rg ln x
          exact ⟨h1, by rw [e1, Option.bind_some], f1, fun _ => R1⟩
        · rw [if_neg p, if_pos rfl, ckW wg, Option.bind_some]
          obtain ⟨h1, e1, f1, R1⟩ := putB_r Rg ln 95
          refine ⟨h1, by rw [e1, Option.bind_some], f1, ?_⟩
          rintro (q | ⟨e, rfl⟩)
          · exact absurd z q
          · exact R1
      · rw [if_neg z, ckW wg, Option.bind_some]
        obtain ⟨h1, e1, f1, R1⟩ := putB_r Rg ln x
        exact ⟨h1, by rw [e1, Option.bind_some], f1, fun _ => R1⟩
    have n13' : hI h 134 13 ≠ 1 := by rw [n13, k3]; decide
    have two : (x = 96 ∨ x = 92) → ∃ h1, fX12_putByte 134 92 (iN ln) h = some h1 ∧ WF h1 ∧ ∃ h', ((gfI h1 134 11 13).bind fun v8 => jn (fun (s83_0 : Int32) (h83j : hp) => (ckT h83j 134 11).bind fun _ => (fX12_putByte 134 s83_0 (iN ln) h83j).bind fun h11 => some h11) fun k83 => jn (fun (h82j : hp) => k83 x h82j) fun k82 => if v8 = 1 then bd2 (fX12_isPlainInTag x h1) fun v14 h15 => if v14 = 0 then k83 95 h15 else k82 h15 else k82 h1) = some h' ∧ FS Psf h h' ∧ CQ h' own tp lim KL LL fr (some (c, j, bb)) trn false dp σ.1 (putL lim (preF fr, c, j, bb, trn) ln [92, x] σ) := by
      intro _
      obtain ⟨h1, e1, f1, R1⟩ := putB_r R0 ln 92
      have w1 := f1.wf w
      obtain ⟨h2, e2, f2, R2⟩ := tail h1 _ w1 R1
      refine ⟨h1, e1, w1, h2, e2, f1.tr f2, ?_⟩
      have cc : hI h1 134 13 ≠ 1 ∨ ∃ e, bO (.inl σ) (putW lim (preF fr, c, j, bb, trn) ln 92) = .inr e := by
        cases hz : bO (.inl σ) (putW lim (preF fr, c, j, bb, trn) ln 92) with
        | inr e => exact .inr ⟨e, rfl⟩
        | inl τ =>
          rw [hz] at R1
          left
          rw [R1.1.2.2.2.1.2.2.2.1, putW_c (show putW lim (preF fr, c, j, bb, trn) ln 92 σ = .inl τ from hz), k3]
          decide
      have R3 := R2 cc
      have ee : putL lim (preF fr, c, j, bb, trn) ln [92, x] σ = bO (bO (.inl σ) (putW lim (preF fr, c, j, bb, trn) ln 92)) (putW lim (preF fr, c, j, bb, trn) ln x) := by
        rw [bO_l]
        show bO (putW lim (preF fr, c, j, bb, trn) ln 92 σ) (fun σ' => bO (putW lim (preF fr, c, j, bb, trn) ln x σ') fun τ => .inl τ) = _
        simp only [bO_id]
      rw [ee]; exact R3
    by_cases a : x = 96
    · obtain ⟨h1, e1, w1, h2, e2, f2, R2⟩ := two (.inl a)
      rw [if_pos a, if_pos (Or.inl a), ckW w, Option.bind_some, e1, Option.bind_some]
      exact ⟨h2, e2, f2, R2⟩
    by_cases b : x = 92
    · obtain ⟨h1, e1, w1, h2, e2, f2, R2⟩ := two (.inr b)
      rw [if_neg a, if_pos b, if_pos (Or.inr b), ckW w, Option.bind_some, e1, Option.bind_some]
      exact ⟨h2, e2, f2, R2⟩
    · rw [if_neg a, if_neg b, if_neg (show ¬ (x = 96 ∨ x = 92) from fun q => q.elim a b), putL1]
      obtain ⟨h2, e2, f2, R2⟩ := tail h _ w R0
      exact ⟨h2, e2, f2, R2 (.inl n13')⟩
  rw [if_neg (show ¬ (σ.2.1 = 1 ∨ σ.2.1 = 3) from fun q => q.elim k1 k3), if_neg k1, if_neg k3]
  by_cases a : x = 60
  · rw [if_pos a, if_neg (show ¬ ((108 : Int32) = 0) by decide), if_pos a]; exact three 108
  rw [if_neg a, if_neg a]
  by_cases b : x = 38
  · rw [if_pos b, if_neg (show ¬ ((97 : Int32) = 0) by decide), if_pos b]; exact three 97
  rw [if_neg b, if_neg b]
  by_cases d : σ.2.1 = 2 ∧ x = 34
  · rw [if_pos d, if_neg (show ¬ ((113 : Int32) = 0) by decide), if_pos d]; exact three 113
  rw [if_neg d, if_pos rfl, if_neg d, putL1, gW w, Option.bind_some, n13, jn_e, if_neg (show ¬ (iN σ.2.1 = 3) from fun q => k3 ((i_eq (b := 3) (by omega) (by decide)).mp q))]
  dsimp only
  rw [gW w, Option.bind_some, n13, jn_e, jn_e]
  dsimp only
  rw [if_neg (show ¬ (iN σ.2.1 = 1) from fun q => k1 ((i_eq (b := 1) (by omega) (by decide)).mp q)), ckW w, Option.bind_some]
  obtain ⟨h1, e1, f1, R1⟩ := putB_r R0 ln x
  exact ⟨h1, by rw [e1, Option.bind_some], f1, R1⟩
/-- what is shown goes out, byte for byte -/
theorem putV_l {ln a b : Nat} {f : Nat → Int32} {L : List Int32} : ∀ (d k m : Nat) (h : hp) {own : Nat → Nat} {tp : Tp} {lim : Nat} {KL : List (Nat × vT)} {LL : Nat → Option vT} {fr : Fr} {trn : Option Nat} {dp : Nat} {c : List Nat} {j : Nat} {bb : Option Nat} (σ : St), CX h own tp lim KL LL fr (some (c, j, bb)) trn false dp σ false → NL h 141 142 53 L → hT h a = (5, 9) → hI h a 1 = iN ln → a ∉ [134, 86, 87, 143, 144] → k + d = L.length → d < m → ∃ h', fX12_putValue_l36 m 134 a (iN k) h = some h' ∧ FS Psf h h' ∧ CQ h' own tp lim KL LL fr (some (c, j, bb)) trn false dp σ.1 (putV lim (preF fr, c, j, bb, trn) ln (L.drop k) σ) := by
  intro d
  induction d with
  | zero =>
    intro k m h own tp lim KL LL fr trn dp c j bb σ H N ta la na hk hm
    obtain ⟨m, rfl⟩ : ∃ q, m = q + 1 := ⟨m - 1, by omega⟩
    have w := H.w
    have hN3 := N.2.2.1
    have g : gfI h 141 4 1 = some (iN L.length) := by unfold gfI; rw [N.1.1]; show some (hI h 141 1) = _; rw [N.2.1]
    refine ⟨h, ?_, FS.rf _ h, ?_⟩
    · unfold fX12_putValue_l36
      rw [gWR w, R134_6 w, Option.bind_some, g, Option.bind_some, if_pos (by rw [i_le (by omega) (by omega)]; omega)]
    · rw [List.drop_of_length_le (by omega)]; exact ⟨H, rfl⟩
  | succ d ih =>
    intro k m h own tp lim KL LL fr trn dp c j bb σ H N ta la na hk hm
    obtain ⟨m, rfl⟩ : ∃ q, m = q + 1 := ⟨m - 1, by omega⟩
    have w := H.w
    have hN3 := N.2.2.1
    have g : gfI h 141 4 1 = some (iN L.length) := by unfold gfI; rw [N.1.1]; show some (hI h 141 1) = _; rw [N.2.1]
    have at1 : fX5_at 141 (iN k) h = some (L.getD k 0, h) := by rw [nAtK N.1 N.2.1 hN3 (show k < L.length by omega), N.2.2.2 k (by omega)]
    have ga : gfI h a 5 1 = some (iN ln) := by unfold gfI; rw [ta]; show some (hI h a 1) = _; rw [la]
    obtain ⟨h1, e1, f1, R1⟩ := putE_e H ln (L.getD k 0)
    have w1 := f1.wf w
    have ed : L.drop k = L.getD k 0 :: L.drop (k + 1) := by rw [List.drop_eq_getElem_cons (show k < L.length by omega), List.getD_eq_getElem?_getD, List.getElem?_eq_getElem (show k < L.length by omega)]; rfl
    have ev : putV lim (preF fr, c, j, bb, trn) ln (L.drop k) σ = bO (putL lim (preF fr, c, j, bb, trn) ln (escW σ.2.1 (L.getD k 0)) σ) (putV lim (preF fr, c, j, bb, trn) ln (L.drop (k + 1))) := by rw [ed]; rfl
    have st : fX12_putValue_l36 (m + 1) 134 a (iN k) h = fX12_putValue_l36 m 134 a (iN (k + 1)) h1 := by
      rw [fX12_putValue_l36, gWR w, R134_6 w, Option.bind_some, g, Option.bind_some, if_neg (by rw [i_le (by omega) (by omega)]; omega), gW w, Option.bind_some, H.2.2.2.1.2.2.2.2.2.2.2, if_pos b2_0, Option.bind_some, ckN N.1, Option.bind_some, at1, bd2_s, ga, Option.bind_some, ckW w, Option.bind_some, e1, Option.bind_some, i_succ]
    have nn : ∀ k, ¬ Psf 141 k ∧ ¬ Psf 142 k := fun k => ⟨fun q => by unfold Psf at q; omega, fun q => by unfold Psf at q; omega⟩
    have N1 := N.fs f1 (fun k => (nn k).1) (fun k => (nn k).2)
    have na' : ¬ Psf a 1 := fun q => na (by unfold Psf at q; simp; omega)
    cases hR : putL lim (preF fr, c, j, bb, trn) ln (escW σ.2.1 (L.getD k 0)) σ with
    | inl τ =>
      rw [hR] at R1
      obtain ⟨h2, e2, f2, R2⟩ := ih (k + 1) m h1 τ R1.1 N1 (by rw [f1.2.2.1]; exact ta) (by rw [(f1.2.2.2.2 a 1 na').1]; exact la) na (by omega) (by omega)
      refine ⟨h2, by rw [st, e2], f1.tr f2, ?_⟩
      rw [ev, hR, bO_l, ← R1.2]; exact R2
    | inr e =>
      rw [hR] at R1
      obtain ⟨ctx, out, C, N2⟩ := id R1
      refine ⟨h1, ?_, f1, by rw [ev, hR, bO_r]; exact R1⟩
      have g1 : gfI h1 141 4 1 = some (iN L.length) := by unfold gfI; rw [N1.1.1]; show some (hI h1 141 1) = _; rw [N1.2.1]
      rw [st]
      obtain ⟨m, rfl⟩ : ∃ q, m = q + 1 := ⟨m - 1, by omega⟩
      rw [fX12_putValue_l36, gWR w1, R134_6 w1, Option.bind_some, g1, Option.bind_some, gW w1, Option.bind_some, C.2.2.2.1.2.2.2.2.2.2.2]
      by_cases z : iN L.length ≤ iN (k + 1)
      · rw [if_pos z]
      · rw [if_neg z, if_neg (by decide)]

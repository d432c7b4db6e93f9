/-! the class's walk: expressions worked out -/
theorem ite4 {c : Prop} [Decidable c] {A B : Nat × vT} (a : A.1 ≤ 4) (b : B.1 ≤ 4) : (if c then A else B).1 ≤ 4 := by
  by_cases h : c
  · rw [if_pos h]; exact a
  · rw [if_neg h]; exact b
theorem le40 (v : vT) : ((0, v) : Nat × vT).1 ≤ 4 := Nat.zero_le _
theorem le42 (v : vT) : ((2, v) : Nat × vT).1 ≤ 4 := Nat.le_of_ble_eq_true rfl
theorem le44 (v : vT) : ((4, v) : Nat × vT).1 ≤ 4 := Nat.le_refl _
theorem cnt_le (x : Int64) (V : vT) : (cnt x V).1 ≤ 4 := ite4 (le40 _) (le44 _)
theorem fls_le (q : Nat) (n : Int32) (V : vT) : (fltS q n V).1 ≤ 4 := by
  unfold fltS
  repeat' first | exact le40 _ | exact le42 _ | exact cnt_le _ _ | apply ite4
theorem apF_le : ∀ (fs : List (Nat × Nat)) (V : vT), (apF fs V).1 ≤ 4 := by
  intro fs
  induction fs with
  | nil => intro V; exact Nat.zero_le _
  | cons f fs ih =>
    intro V
    show (if (fltS f.1 (iN f.2) V).1 = 0 then apF fs (fltS f.1 (iN f.2) V).2 else fltS f.1 (iN f.2) V).1 ≤ 4
    by_cases c : (fltS f.1 (iN f.2) V).1 = 0
    · rw [if_pos c]; exact ih _
    · rw [if_neg c]; exact fls_le _ _ _
theorem fa17 : ∀ q, q < 18 → (fa q = 18 ↔ q = 17) := by decide
theorem app_l {a b lo hi : Nat} (na : a < lo ∨ hi ≤ a) (nb : b < lo ∨ hi ≤ b) (h204 : 204 ≤ lo) : ∀ (fs : List (Nat × Nat)) (m : Nat) (h : hp) (V : vT) (v : Nat), RepF h lo hi fs v → CV h a b V → gV V → fs.length < m → ∃ h', fX11_applyAll_l4 m a 0 v h = some (iN (apF fs V).1, h') ∧ CV h' a b (apF fs V).2 ∧ gV (apF fs V).2 ∧ FI [a, b] h h' := by
  intro fs
  induction fs with
  | nil =>
    intro m h V v r C g hm
    obtain ⟨m, rfl⟩ : ∃ q, m = q + 1 := ⟨m - 1, by omega⟩
    have r' : v = 0 := r
    refine ⟨h, ?_, C, g, FI.rf _ h⟩
    rw [fX11_applyAll_l4, if_pos r']
    rfl
  | cons f fs ih =>
    intro m h V v r C g hm
    obtain ⟨m, rfl⟩ : ∃ q, m = q + 1 := ⟨m - 1, by omega⟩
    have hm' : fs.length + 1 < m + 1 := hm
    obtain ⟨r1, r2, r3, r4, r5, r6, r7, r8⟩ := r
    have v0 : ¬ v = 0 := by omega
    have g0 : gfR h v 3 0 = some (fa f.1) := by unfold gfR; rw [r3]; show some (hR h v 0) = _; rw [r4]
    have g1 : gfI h v 3 1 = some (iN f.2) := by unfold gfI; rw [r3]; show some (hI h v 1) = _; rw [r5]
    have z : (0 : Int32) = 0 := rfl
    have kd := gIV C.1 0
    rw [C.2.1] at kd
    -- behind the filter
    have nx : ∀ h1 : hp, FI [a, b] h h1 → CV h1 a b (fltS f.1 (iN f.2) V).2 → ∃ h', ((gfR h1 v 3 2).bind fun v3 => fX11_applyAll_l4 m a (iN (fltS f.1 (iN f.2) V).1) v3 h1) = some (iN (apF (f :: fs) V).1, h') ∧ CV h' a b (apF (f :: fs) V).2 ∧ gV (apF (f :: fs) V).2 ∧ FI [a, b] h h' := by
      intro h1 f1 C1
      have g2 : gfR h1 v 3 2 = some (hR h v 2) := by unfold gfR; rw [f1.2.2.1, r3, f1.2.2.2.1]; rfl
      have gg := flt_good (q := f.1) (m := f.2) g (by omega) r6
      rw [g2, Option.bind_some]
      show ∃ h', _ = some (iN (if (fltS f.1 (iN f.2) V).1 = 0 then apF fs (fltS f.1 (iN f.2) V).2 else fltS f.1 (iN f.2) V).1, h') ∧ CV h' a b (if (fltS f.1 (iN f.2) V).1 = 0 then apF fs (fltS f.1 (iN f.2) V).2 else fltS f.1 (iN f.2) V).2 ∧ gV (if (fltS f.1 (iN f.2) V).1 = 0 then apF fs (fltS f.1 (iN f.2) V).2 else fltS f.1 (iN f.2) V).2 ∧ FI [a, b] h h'
      by_cases c : (fltS f.1 (iN f.2) V).1 = 0
      · rw [if_pos c, c]
        have r8' : RepF h1 lo hi fs (hR h v 2) := r8.fr (fun x x1 x2 => ⟨by rw [f1.2.2.1], fun k => ⟨by rw [(f1.2.2.2.2 x (by simp; omega)).1], by rw [f1.2.2.2.1]⟩⟩)
        obtain ⟨h2, e2, C2, g2', f2⟩ := ih m h1 _ _ r8' C1 gg (by omega)
        exact ⟨h2, e2, C2, g2', f1.tr' f2⟩
      · rw [if_neg c]
        refine ⟨h1, ?_, C1, gg, f1⟩
        obtain ⟨m, rfl⟩ : ∃ q, m = q + 1 := ⟨m - 1, by omega⟩
        have le := fls_le f.1 (iN f.2) V
        have c' : ¬ (iN (fltS f.1 (iN f.2) V).1 = 0) := fun q => c ((i_eq (b := 0) (by omega) (by decide)).mp q)
        rw [fX11_applyAll_l4]
        by_cases y : hR h v 2 = 0
        · rw [if_pos y]
        · rw [if_neg y, if_neg c']
    rw [fX11_applyAll_l4, if_neg v0, if_pos z, g0, Option.bind_some, jn_e, (fa_ok f.1 r6).2.2.2, Option.bind_some]
    by_cases c17 : f.1 = 17
    · rw [if_pos ((fa17 f.1 r6).mpr c17), kd, Option.bind_some]
      by_cases c0 : V.1 = 0
      · have fe : fltS f.1 (iN f.2) V = (0, vI (iN f.2)) := by unfold fltS; rw [if_pos c17, if_pos c0]
        obtain ⟨h1, e1, C1, f1⟩ := cInt (iN f.2) C.1
        rw [if_pos (show iN V.1 = 0 by rw [c0]; rfl), g1, Option.bind_some, ckV C.1, Option.bind_some, e1, Option.bind_some]
        have := nx h1 (f1.up (by simp)) (by rw [fe]; exact C1)
        rw [fe] at this
        exact this
      · have fe : fltS f.1 (iN f.2) V = (0, V) := by unfold fltS; rw [if_pos c17, if_neg c0]
        have h4 := C.2.2.1
        rw [if_neg (show ¬ iN V.1 = 0 from fun q => c0 ((i_eq (b := 0) (by omega) (by decide)).mp q))]
        have := nx h (FI.rf _ h) (by rw [fe]; exact C)
        rw [fe] at this
        exact this
    · rw [if_neg (fun q => c17 ((fa17 f.1 r6).mp q)), kd, Option.bind_some]
      obtain ⟨y1, y2, y3, y4⟩ := cFlt (q := f.1) (m := f.2) C g (by omega) (by omega)
      have h4 := C.2.2.1
      have ii : ∀ k, k ≤ 4 → (iN V.1 = iN k ↔ V.1 = k) := fun k hk => by rw [i_eq (by omega) (by omega)]
      by_cases d1 : V.1 = 1
      · obtain ⟨h1, e1, C1, f1⟩ := y1 d1
        rw [if_pos (show iN V.1 = 1 from (ii 1 (by decide)).mpr d1), Option.bind_some, g1, Option.bind_some, ckV C.1, Option.bind_some, e1, bd2_s]
        exact nx h1 f1 C1
      rw [if_neg (show ¬ iN V.1 = 1 from fun q => d1 ((ii 1 (by decide)).mp q))]
      by_cases d2 : V.1 = 2
      · obtain ⟨h1, e1, C1, f1⟩ := y2 d2
        rw [if_pos (show iN V.1 = 2 from (ii 2 (by decide)).mpr d2), Option.bind_some, g1, Option.bind_some, ckV C.1, Option.bind_some, e1, bd2_s]
        exact nx h1 f1 C1
      rw [if_neg (show ¬ iN V.1 = 2 from fun q => d2 ((ii 2 (by decide)).mp q))]
      by_cases d3 : V.1 = 3
      · obtain ⟨h1, e1, C1, f1⟩ := y3 d3
        rw [if_pos (show iN V.1 = 3 from (ii 3 (by decide)).mpr d3), Option.bind_some, g1, Option.bind_some, ckV C.1, Option.bind_some, e1, bd2_s]
        exact nx h1 f1 C1
      rw [if_neg (show ¬ iN V.1 = 3 from fun q => d3 ((ii 3 (by decide)).mp q))]
      by_cases d4 : V.1 = 4
      · obtain ⟨h1, e1, C1, f1⟩ := y4 d4
        rw [if_pos (show iN V.1 = 4 from (ii 4 (by decide)).mpr d4), Option.bind_some, g1, Option.bind_some, ckV C.1, Option.bind_some, e1, bd2_s]
        exact nx h1 f1 C1
      rw [if_neg (show ¬ iN V.1 = 4 from fun q => d4 ((ii 4 (by decide)).mp q))]
      have fe : fltS f.1 (iN f.2) V = (2, V) := by unfold fltS; rw [if_neg c17, if_neg d1, if_neg d2, if_neg d3, if_neg d4]
      have := nx h (FI.rf _ h) (by rw [fe]; exact C)
      rw [fe] at this
      exact this
theorem app_e {h : hp} {a b lo hi v : Nat} {V : vT} {fs : List (Nat × Nat)} (na : a < lo ∨ hi ≤ a) (nb : b < lo ∨ hi ≤ b) (h204 : 204 ≤ lo) (r : RepF h lo hi fs v) (C : CV h a b V) (g : gV V) (hl : fs.length ≤ 161) : ∃ h', fX11_applyAll a v h = some (iN (apF fs V).1, h') ∧ CV h' a b (apF fs V).2 ∧ gV (apF fs V).2 ∧ FI [a, b] h h' := by
  obtain ⟨h', e, r⟩ := app_l na nb h204 fs FU h V v r C g (FU_pos _ (by omega))
  exact ⟨h', by unfold fX11_applyAll; rw [e, bd2_s], r⟩
/-- where an expression's value may be put -/
def TG (h : hp) (own : Nat → Nat) (kl : Nat) (LL : Nat → Option vT) (a b : Nat) : Prop := VO h a b ∧ ((a = 137 ∧ b = 138) ∨ (a = 139 ∧ b = 140) ∨ (204 ≤ a ∧ a < 64 + hN h ∧ 204 ≤ b ∧ b < 64 + hN h ∧ ∃ o, own a = o ∧ own b = o ∧ o ≠ 1 ∧ (∀ i, i < kl → o ≠ 2 + i) ∧ ∀ l V, LL l = some V → o ≠ 400 + l))
/-- a template's objects -/
def OW (own : Nat → Nat) (h : hp) (lo hi : Nat) : Prop := 204 ≤ lo ∧ hi ≤ 64 + hN h ∧ ∀ y, lo ≤ y → y < hi → own y = 1
def PW (a b x k : Nat) : Prop := Psf x k ∨ x = a ∨ x = b
theorem CX.tgt {P : Nat → Nat → Prop} {h h' : hp} {own : Nat → Nat} {tp : Tp} {lim : Nat} {KL : List (Nat × vT)} {LL : Nat → Option vT} {fr : Fr} {trn : Option Nat} {lk : Bool} {dp : Nat} {ch : Option (List Nat × Nat × Option Nat)} {σ : St} {fl : Bool} {a b : Nat} {W : vT} (H : CX h own tp lim KL LL fr ch trn lk dp σ fl) (T : TG h own KL.length LL a b) (f : FS P h h') (hP : ∀ x k, P x k → x = a ∨ x = b) (C : CV h' a b W) (g : gV W) : CX h' own tp lim KL LL fr ch trn lk dp σ fl := by
  obtain ⟨B, R, Ch, N, O, r⟩ := H
  have hn := B.1.1.2.2
  have h8 := B.2.2.2.2.2.2.2
  obtain ⟨vo, t⟩ := T
  have nab : ∀ x k, x ≠ a → x ≠ b → ¬ P x k := fun x k p q z => (hP x k z).elim p q
  have tt : (a < 64 + hN h ∧ b < 64 + hN h) ∧ (137 ≤ a ∧ 137 ≤ b) ∧ (a ≤ 140 ∧ b ≤ 140 ∨ 204 ≤ a ∧ 204 ≤ b) := by rcases t with t | t | t <;> omega
  have nn : ∀ x k, (x < 137 ∨ 140 < x) → x < 204 → ¬ P x k := fun x k p q => nab x k (by omega) (by omega)
  refine ⟨B.fs f fun x k q => ?_, ?_, Ch.fs f (fun k _ => nn _ k (by omega) (by omega)) (fun k => nn _ k (by omega) (by omega)), N.fs f (fun k => nn _ k (by omega) (by omega)), O.fs f (fun k => nn _ k (by omega) (by omega)) (fun k => nn _ k (by omega) (by omega)) (fun k => ⟨nn _ k (by omega) (by omega), nn _ k (by omega) (by omega)⟩), r⟩
  · refine ⟨by rcases hP x k q with e | e <;> omega, ?_⟩
    unfold PA
    rcases t with t | t | ⟨t1, t2, t3, t4, o, o1, o2, o3, o4, o5⟩
    · rcases hP x k q with e | e <;> omega
    · rcases hP x k q with e | e <;> omega
    · rcases hP x k q with e | e
      · subst e
        exact .inr (.inr (.inr (.inr (.inr (.inr (.inr (.inr ⟨t1, by rw [o1]; exact o3, fun i hi => by rw [o1]; exact o4 i hi, fun l V e => by rw [o1]; exact o5 l V e⟩)))))))
      · subst e
        exact .inr (.inr (.inr (.inr (.inr (.inr (.inr (.inr ⟨t3, by rw [o2]; exact o3, fun i hi => by rw [o2]; exact o4 i hi, fun l V e => by rw [o2]; exact o5 l V e⟩)))))))
  · obtain ⟨⟨V1, a1, a2⟩, ⟨V2, a3, a4⟩, L, a5⟩ := R
    have sh : NL h' 141 142 53 L := a5.fs f (fun k => nn _ k (by omega) (by omega)) (fun k => nn _ k (by omega) (by omega))
    rcases t with ⟨rfl, rfl⟩ | ⟨rfl, rfl⟩ | t
    · exact ⟨⟨W, C, g⟩, ⟨V2, a3.fs f (fun k => nab _ k (by decide) (by decide)) (fun k => nab _ k (by decide) (by decide)), a4⟩, L, sh⟩
    · exact ⟨⟨V1, a1.fs f (fun k => nab _ k (by decide) (by decide)) (fun k => nab _ k (by decide) (by decide)), a2⟩, ⟨W, C, g⟩, L, sh⟩
    · exact ⟨⟨V1, a1.fs f (fun k => nab _ k (by omega) (by omega)) (fun k => nab _ k (by omega) (by omega)), a2⟩, ⟨V2, a3.fs f (fun k => nab _ k (by omega) (by omega)) (fun k => nab _ k (by omega) (by omega)), a4⟩, L, sh⟩
/-- what an expression gives, worked out into a, or its fault -/
theorem wo_e {h : hp} {own : Nat → Nat} {tp : Tp} {lim : Nat} {KL : List (Nat × vT)} {LL : Nat → Option vT} {fr : Fr} {trn : Option Nat} {lk : Bool} {dp : Nat} {c : List Nat} {j : Nat} {bb : Option Nat} {σ : St} {a b lo hi v : Nat} {e : EX} (H : CX h own tp lim KL LL fr (some (c, j, bb)) trn lk dp σ false) (T : TG h own KL.length LL a b) (O : OW own h lo hi) (E : RepE h lo hi v e) (hl : e.2.2.2.length ≤ 161) (ln : Nat) : ∃ h', fX12_workOut 134 v a (iN ln) h = some h' ∧ FS (PW a b) h h' ∧ TG h' own KL.length LL a b ∧ (((evE σ.1 trn e).1 = 0 ∧ CX h' own tp lim KL LL fr (some (c, j, bb)) trn lk dp σ false ∧ CV h' a b (evE σ.1 trn e).2 ∧ gV (evE σ.1 trn e).2) ∨ ((evE σ.1 trn e).1 ≠ 0 ∧ CQ h' own tp lim KL LL fr (some (c, j, bb)) trn lk dp σ.1 (ftW (preF fr, c, j, bb, trn) σ ln (evE σ.1 trn e).1))) := by
  have w := H.w
  have hn := w.2.2
  obtain ⟨o1, o2, o3⟩ := O
  obtain ⟨E1, E2, E3, E4, E5, E6, E7, E8⟩ := E
  have v0 : ¬ v = 0 := by omega
  have gv0 : ∀ g : hp, hT g = hT h → ∀ k, gfI g v 1 k = some (hI g v k) := fun g e k => by unfold gfI; rw [e, E3]; rfl
  have gvR : ∀ g : hp, hT g = hT h → ∀ k, gfR g v 1 k = some (hR g v k) := fun g e k => by unfold gfR; rw [e, E3]; rfl
  have nT : (a < lo ∨ hi ≤ a) ∧ (b < lo ∨ hi ≤ b) := by
    rcases T.2 with t | t | ⟨t1, t2, t3, t4, o, p1, p2, p3, _⟩
    · omega
    · omega
    · constructor
      · by_cases q : lo ≤ a ∧ a < hi
        · exact absurd (o3 a q.1 q.2) (by rw [p1]; exact p3)
        · omega
      · by_cases q : lo ≤ b ∧ b < hi
        · exact absurd (o3 b q.1 q.2) (by rw [p2]; exact p3)
        · omega
  have TGf : ∀ {g : hp} {P : Nat → Nat → Prop}, FS P h g → TG g own KL.length LL a b := fun {g P} f => by
    obtain ⟨⟨v1, v2, v3, v4⟩, t⟩ := T
    refine ⟨⟨by rw [f.2.2.1]; exact v1, by rw [f.2.2.1]; exact v2, by rw [f.2.2.2.1]; exact v3, v4⟩, ?_⟩
    rw [f.1]; exact t
  have psf : ∀ {g g' : hp}, FI [a, b] g g' → FS (PW a b) g g' := fun f => f.fs.up fun x k q => by simp at q; exact .inr q
  -- behind the beginning
  have tail : ∀ (g : hp), FI [a, b] h g → CV g a b (bsE σ.1 trn e) → gV (bsE σ.1 trn e) → ¬ (e.1 = 2 ∧ trn = none) → ∃ h', ((gfR g v 1 3).bind fun v7 => (ckT g a 10).bind fun _ => bd2 (fX11_applyAll a v7 g) fun v10 h11 => if v10 = 0 then some h11 else (ckT h11 134 11).bind fun _ => (fX12_fail 134 (iN ln) v10 h11).bind fun h14 => some h14) = some h' ∧ FS (PW a b) h h' ∧ TG h' own KL.length LL a b ∧ (((evE σ.1 trn e).1 = 0 ∧ CX h' own tp lim KL LL fr (some (c, j, bb)) trn lk dp σ false ∧ CV h' a b (evE σ.1 trn e).2 ∧ gV (evE σ.1 trn e).2) ∨ ((evE σ.1 trn e).1 ≠ 0 ∧ CQ h' own tp lim KL LL fr (some (c, j, bb)) trn lk dp σ.1 (ftW (preF fr, c, j, bb, trn) σ ln (evE σ.1 trn e).1))) := by
    intro g f1 C1 g1 ne
    have ev : evE σ.1 trn e = apF e.2.2.2 (bsE σ.1 trn e) := by unfold evE; rw [if_neg ne]
    have wg := f1.fs.wf w
    have E8' : RepF g lo hi e.2.2.2 (hR h v 3) := E8.fr (fun x x1 x2 => ⟨by rw [f1.2.2.1], fun k => ⟨by rw [(f1.2.2.2.2 x (by simp; omega)).1], by rw [f1.2.2.2.1]⟩⟩)
    obtain ⟨h2, e2, C2, g2, f2⟩ := app_e nT.1 nT.2 o1 E8' C1 g1 hl
    have f12 := f1.tr' f2
    have w2 := f12.fs.wf w
    have X2 : CX h2 own tp lim KL LL fr (some (c, j, bb)) trn lk dp σ false := H.tgt T f12.fs (fun x k q => by simpa using q) C2 g2
    have le := apF_le e.2.2.2 (bsE σ.1 trn e)
    rw [gvR g f1.2.2.1, f1.2.2.2.1, Option.bind_some, ckV C1.1, Option.bind_some, e2, bd2_s, ev]
    by_cases z : (apF e.2.2.2 (bsE σ.1 trn e)).1 = 0
    · rw [if_pos (show iN (apF e.2.2.2 (bsE σ.1 trn e)).1 = 0 by rw [z]; rfl)]
      exact ⟨h2, rfl, psf f12, TGf f12.fs, .inl ⟨z, X2, C2, g2⟩⟩
    · rw [if_neg (show ¬ iN (apF e.2.2.2 (bsE σ.1 trn e)).1 = 0 from fun q => z ((i_eq (b := 0) (by omega) (by decide)).mp q)), ckW w2, Option.bind_some]
      obtain ⟨h3, e3, f3, R3⟩ := ft_e X2 ln (apF e.2.2.2 (bsE σ.1 trn e)).1
      refine ⟨h3, by rw [e3, Option.bind_some], (psf f12).tr (f3.psf.up fun x k q => .inl q), ?_, .inr ⟨z, R3⟩⟩
      exact TGf ((psf f12).tr (f3.psf.up fun x k q => .inl q))
  have n15 := H.2.2.2.1.2.2.2.2.2.1
  have i12 : ∀ k, k ≤ 2 → (iN e.1 = iN k ↔ e.1 = k) := fun k hk => by rw [i_eq (by omega) (by omega)]
  unfold fX12_workOut
  rw [if_neg v0, gv0 h rfl, Option.bind_some, E5, jn_e]
  by_cases k2 : e.1 = 2
  · rw [if_pos (show iN e.1 = 2 from (i12 2 (by decide)).mpr k2), gW w, Option.bind_some, n15]
    cases ht : trn with
    | none =>
      have ev : evE σ.1 none e = (9, vN) := by unfold evE; rw [if_pos ⟨k2, rfl⟩]
      rw [if_neg (show ¬ (0 ≤ oB none) by decide), ckW w, Option.bind_some, ev]
      subst ht
      obtain ⟨h3, e3, f3, R3⟩ := ft_e H ln 9
      exact ⟨h3, by rw [show fX12_fail 134 (iN ln) 9 h = _ from e3, Option.bind_some], f3.psf.up (fun x k q => .inl q), TGf f3, .inr ⟨by decide, R3⟩⟩
    | some i =>
      have i6 := H.2.2.2.2.2.2.2.1 i ht
      have be : bsE σ.1 trn e = vI (iN i) := by unfold bsE; rw [if_neg (by omega), if_pos k2, ht]; rfl
      obtain ⟨h1, e1, C1, f1⟩ := cInt (iN i) T.1
      have gi : gV (vI (iN i)) := gvI (by unfold inI; rw [i_toInt (by omega)]; omega)
      have ne : ¬ (e.1 = 2 ∧ trn = none) := by rw [ht]; rintro ⟨_, q⟩; cases q
      obtain ⟨h2, e2, r⟩ := tail h1 (f1.up (by simp)) (by rw [be]; exact C1) (by rw [be]; exact gi) ne
      refine ⟨h2, ?_, by rw [ht] at r; exact r⟩
      rw [if_pos (show 0 ≤ oB (some i) from i0_le _ (by omega))]
      dsimp only
      rw [gv0 h rfl, Option.bind_some, E5, jn_e, if_neg (show ¬ iN e.1 = 1 from fun q => by have := (i12 1 (by decide)).mp q; omega), gvR h rfl, Option.bind_some]
      dsimp only
      rw [gv0 h rfl, Option.bind_some, E5, jn_e, if_pos (show iN e.1 = 2 from (i12 2 (by decide)).mpr k2), gW w, Option.bind_some, n15, ckV T.1, Option.bind_some, ht, show oB (some i) = iN i from rfl, e1, Option.bind_some]
      exact e2
  · rw [if_neg (show ¬ iN e.1 = 2 from fun q => k2 ((i12 2 (by decide)).mp q))]
    dsimp only
    rw [gv0 h rfl, Option.bind_some, E5, jn_e]
    have ne : ¬ (e.1 = 2 ∧ trn = none) := fun q => k2 q.1
    by_cases k1 : e.1 = 1
    · obtain ⟨q1, q2⟩ := E6 k1
      have be : bsE σ.1 trn e = σ.1 e.2.1 := by unfold bsE; rw [if_pos k1]
      obtain ⟨cv, gv⟩ := H.1.2.2.2.1 e.2.1 q2
      obtain ⟨h1, e1, C1, f1⟩ := cCopy T.1 cv
      obtain ⟨h2, e2, r⟩ := tail h1 f1 (by rw [be]; exact C1) (by rw [be]; exact gv) ne
      refine ⟨h2, ?_, r⟩
      have cvar : fX9_variable 65 (iN e.2.1) h = some (70 + 2 * e.2.1, h) := by
        rcases cVar w (iN e.2.1) with ⟨k, hk, ek, e'⟩ | ⟨c', _⟩
        · rw [i_eq (by omega) (by omega)] at ek; subst ek; exact e'
        · exact absurd (by rw [i_toInt (by omega)]; omega) c'
      rw [if_pos (show iN e.1 = 1 from (i12 1 (by decide)).mpr k1), gWR w, R134_0 w, Option.bind_some, gv0 h rfl, Option.bind_some, ck65 w, Option.bind_some, q1, cvar, bd2_s]
      dsimp only
      rw [gv0 h rfl, Option.bind_some, E5, jn_e, if_neg (show ¬ iN e.1 = 2 from fun q => k2 ((i12 2 (by decide)).mp q)), if_neg (show ¬ 70 + 2 * e.2.1 = 0 by omega), ckV T.1, Option.bind_some, e1, Option.bind_some]
      exact e2
    · have k0 : e.1 = 0 := by omega
      obtain ⟨bx, x1, x2, x3, x4, x5, x6⟩ := E7 k0
      have be : bsE σ.1 trn e = e.2.2.1 := by unfold bsE; rw [if_neg k1, if_neg k2]
      obtain ⟨h1, e1, C1, f1⟩ := cCopy T.1 x5
      obtain ⟨h2, e2, r⟩ := tail h1 f1 (by rw [be]; exact C1) (by rw [be]; exact x6) ne
      refine ⟨h2, ?_, r⟩
      rw [if_neg (show ¬ iN e.1 = 1 from fun q => k1 ((i12 1 (by decide)).mp q)), gvR h rfl, Option.bind_some]
      dsimp only
      rw [gv0 h rfl, Option.bind_some, E5, jn_e, if_neg (show ¬ iN e.1 = 2 from fun q => k2 ((i12 2 (by decide)).mp q)), if_neg (show ¬ hR h v 2 = 0 by omega), ckV T.1, Option.bind_some, e1, Option.bind_some]
      exact e2

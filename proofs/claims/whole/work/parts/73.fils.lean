/-! the class's reader: filters behind an expression -/
theorem FG.tr' {P Q : Nat → Nat → Prop} {h h1 h2 : hp} (a : FG P h h1) (b : FG Q h1 h2) (q : ∀ x k, x < 64 + hN h → Q x k → P x k) : FG P h h2 :=
  ⟨Nat.le_trans a.1 b.1, Nat.le_trans a.2.1 b.2.1, fun x hx => (b.2.2.1 x (Nat.lt_of_lt_of_le hx (Nat.add_le_add_left a.1 64))).trans (a.2.2.1 x hx), fun x k hx hP => by
    have h1 := a.2.2.2 x k hx hP
    have h2 := b.2.2.2 x k (Nat.lt_of_lt_of_le hx (Nat.add_le_add_left a.1 64)) (fun z => hP (q x k hx z))
    exact ⟨h2.1.trans h1.1, h2.2.1.trans h1.2.1, h2.2.2.trans h1.2.2⟩⟩
theorem fgR1 {P : Nat → Nat → Prop} {h : hp} {a k v : Nat} (q : P a k) : FG P h (pR h a k v) := by
  refine ⟨Nat.le_refl _, Nat.le_refl _, fun x _ => rfl, fun x j _ hP => ⟨rfl, rfl, ?_⟩⟩
  rw [hR_pR, if_neg]
  rintro ⟨rfl, rfl⟩
  exact hP q
theorem fgIn {P : Nat → Nat → Prop} {h h1 : hp} (f : FG P h h1) {a : Nat} (k : Nat) (v : Int32) (ha : 64 + hN h ≤ a) : FG P h (pI h1 a k v) :=
  f.tr' (Q := fun x _ => x = a) (FG.pI rfl) (fun x _ hx q => by omega)
theorem fgRn {P : Nat → Nat → Prop} {h h1 : hp} (f : FG P h h1) {a : Nat} (k v : Nat) (ha : 64 + hN h ≤ a) : FG P h (pR h1 a k v) :=
  f.tr' (Q := fun x _ => x = a) (fgR1 rfl) (fun x _ hx q => by omega)
theorem RD.fgP {P : Nat → Nat → Prop} {h h' : hp} {o tp bx : Nat} {L : List Int32} (R : RD h o tp bx L) (f : FG P h h') (hP : ∀ x k, P x k → 204 ≤ x ∧ ¬ (x = o ∧ k < 2) ∧ ¬ (x = tp ∧ k = 1)) : RD h' o tp bx L := by
  obtain ⟨w, r1, r2, r3, r4, r5, r6, r7, r8, r9, r10, r11, r12⟩ := R
  have hn := w.2.2
  have f1 := f.1
  refine ⟨f.wf w fun x k q => (hP x k q).1, by rw [f.2.2.1 o r8.2]; exact r1, ?_, ?_, by rw [f.2.2.1 tp r9.2]; exact r4, ?_, by rw [f.2.2.1 bx r10.2]; exact r6, r7.fg f (by omega) (by omega) (fun k q => by have := (hP _ _ q).1; omega) (fun k q => by have := (hP _ _ q).1; omega), by omega, by omega, by omega, r11, r12⟩
  · rw [(f.2.2.2 o 0 r8.2 (fun q => (hP _ _ q).2.1 ⟨rfl, by omega⟩)).2.2]; exact r2
  · rw [(f.2.2.2 o 1 r8.2 (fun q => (hP _ _ q).2.1 ⟨rfl, by omega⟩)).2.2]; exact r3
  · rw [(f.2.2.2 tp 1 r9.2 (fun q => (hP _ _ q).2.2 ⟨rfl, rfl⟩)).2.2]; exact r5
theorem RO.fg {P : Nat → Nat → Prop} {h h' : hp} {o tp bx p : Nat} {L : List Int32} (R : RD h o tp bx L) (r : RO h o tp L p) (f : FG P h h') (hP : ∀ k, 2 ≤ k → k ≤ 4 → ¬ P o k) : RO h' o tp L p := by
  have ho := R.2.2.2.2.2.2.2.2.1.2
  have e := fun k h1 h2 => (f.2.2.2 o k ho (hP k h1 h2)).1
  exact ⟨by rw [e 2 (by omega) (by omega)]; exact r.1, by rw [e 3 (by omega) (by omega)]; exact r.2.1, by rw [e 4 (by omega) (by omega)]; exact r.2.2.1, r.2.2.2⟩
theorem RG.fg {P : Nat → Nat → Prop} {h h' : hp} {o tp bx q : Nat} {L : List Int32} (R : RD h o tp bx L) (r : RG h o q) (f : FG P h h') (hP : ¬ P o 4) : RG h' o q :=
  ⟨by rw [(f.2.2.2 o 4 R.2.2.2.2.2.2.2.2.1.2 hP).1]; exact r.1, r.2⟩
/-- filters in the heap -/
def RepF (h : hp) (lo hi : Nat) : List (Nat × Nat) → Nat → Prop
  | [], v => v = 0
  | f :: fs, v => lo ≤ v ∧ v < hi ∧ hT h v = (3, 3) ∧ hR h v 0 = fa f.1 ∧ hI h v 1 = iN f.2 ∧ f.1 < 18 ∧ f.2 < 100000 ∧ RepF h lo hi fs (hR h v 2)
theorem RepF.wd {h : hp} {lo hi lo' hi' : Nat} (hl : lo' ≤ lo) (hh : hi ≤ hi') : ∀ (fs : List (Nat × Nat)) (v : Nat), RepF h lo hi fs v → RepF h lo' hi' fs v := by
  intro fs
  induction fs with
  | nil => intro v r; exact r
  | cons f fs ih =>
    intro v r
    obtain ⟨r1, r2, r3, r4, r5, r6, r7, r8⟩ := r
    exact ⟨by omega, by omega, r3, r4, r5, r6, r7, ih _ r8⟩
theorem RepF.fr {h h' : hp} {lo hi : Nat} (e : ∀ x, lo ≤ x → x < hi → hT h' x = hT h x ∧ ∀ k, hI h' x k = hI h x k ∧ hR h' x k = hR h x k) : ∀ (fs : List (Nat × Nat)) (v : Nat), RepF h lo hi fs v → RepF h' lo hi fs v := by
  intro fs
  induction fs with
  | nil => intro v r; exact r
  | cons f fs ih =>
    intro v r
    obtain ⟨r1, r2, r3, r4, r5, r6, r7, r8⟩ := r
    have e1 := e v r1 r2
    exact ⟨r1, r2, by rw [e1.1]; exact r3, by rw [(e1.2 0).2]; exact r4, by rw [(e1.2 1).1]; exact r5, r6, r7, by rw [(e1.2 2).2]; exact ih _ r8⟩
theorem sw_pos : ∀ a, a < 18 → 1 ≤ (sWl.getD a []).length := by decide +kernel
theorem gsC_e : ∀ q, q < 18 → gsC (fa q) = some (if q < 13 then 0 else 1) := by decide +kernel
theorem ln_run {L : List Int32} : ∀ (d p : Nat), lnAt L (p + runL L d p) = lnAt L p := by
  intro d
  induction d with
  | zero => intro p; rfl
  | succ d ih =>
    intro p
    have e1 : runL L (d + 1) p = if isL (hereL L p) = true then runL L d (p + 1) + 1 else 0 := rfl
    by_cases q : isL (hereL L p) = true
    · rw [if_pos q] at e1
      have nz : hereL L p ≠ -1 := fun c => by rw [c] at q; exact absurd q (by decide)
      obtain ⟨_, l2⟩ := here_lt (L := L) (p := p) rfl nz
      have n10 : L.getD p 0 ≠ 10 := fun c => by rw [l2] at c; rw [c] at q; exact absurd q (by decide)
      rw [e1, show p + (runL L d (p + 1) + 1) = p + 1 + runL L d (p + 1) by omega, ih (p + 1), ln_same n10]
    · rw [if_neg q] at e1
      rw [e1]; rfl
def KX (o y x k : Nat) : Prop := KO o x k ∨ (x = y ∧ y ≠ 0 ∧ k = 2)
theorem kx_ok {h : hp} {o tp bx y : Nat} {L : List Int32} (R : RD h o tp bx L) (hy : y = 0 ∨ (hT h y = (3, 3) ∧ 204 ≤ y ∧ y < 64 + hN h)) : y ≠ o ∧ (y ≠ tp) ∧ ∀ x k, KX o y x k → 204 ≤ x ∧ ¬ (x = o ∧ k < 2) ∧ ¬ (x = tp ∧ k = 1) := by
  obtain ⟨w, r1, r2, r3, r4, r5, r6, r7, r8, r9, r10, r11, r12⟩ := R
  have n1 : y ≠ o := by
    rcases hy with e | ⟨e, _⟩
    · omega
    · intro q; rw [q, r1] at e; exact absurd (congrArg Prod.fst e) (by decide)
  have n2 : y ≠ tp := by
    rcases hy with e | ⟨e, _⟩
    · omega
    · intro q; rw [q, r4] at e; exact absurd (congrArg Prod.fst e) (by decide)
  refine ⟨n1, n2, fun x k q => ?_⟩
  unfold KX KO at q
  omega
def t116 (n o x1 v : Nat) (c : Int32) (h : hp) : Option (Nat × Nat × hp) :=
  (ckT h o 6).bind fun _ =>
  bd2 (fX7_peek o h) fun v27 h28 =>
  if v27 = 124 then (
    (gfI h28 o 6 2).bind fun v30 =>
    (pfI h28 o 6 2 (v30 + 1)).bind fun h32 =>
    fX7_readFilters_l6 n o x1 v (c + 1) h32
  ) else (
    some (1, x1, h28)
  )
theorem fils_g {h : hp} {o tp bx f : Nat} {L : List Int32} (R : RD h o tp bx L) (g : RG h o f) (n x1 x2 : Nat) (c : Int32) : fX7_readFilters_l6 (n + 1) o x1 x2 c h = some (2, x1, h) := by
  rw [fX7_readFilters_l6]
  by_cases e : 160 < c
  · rw [if_pos e]
  · rw [if_neg e, gO R, Option.bind_some, if_pos g.le]
theorem t116_g {h : hp} {o tp bx f : Nat} {L : List Int32} (R : RD h o tp bx L) (z : ZH h) (g : RG h o f) (n x1 v : Nat) (c : Int32) : ∃ t h', (t = 1 ∨ t = 2) ∧ t116 (n + 1) o x1 v c h = some (t, x1, h') ∧ SS o h h' 0 0 ∧ RG h' o f := by
  unfold t116
  rw [ckO R, Option.bind_some, peek_e R, bd2_s]
  by_cases e : hv L (hI h o 2) = 124
  · have s1 := SS.pO R z (k := 2) (hI h o 2 + 1) (by decide)
    have g1 := g.pO (k := 2) (hI h o 2 + 1) (by decide)
    rw [if_pos e, gO R, Option.bind_some, pO R, Option.bind_some, fils_g (s1.rd R) g1]
    exact ⟨2, _, .inr rfl, rfl, s1, g1⟩
  · rw [if_neg e]
    exact ⟨1, h, .inl rfl, rfl, SS.rf z, g⟩
theorem fils_o {o tp bx : Nat} {L : List Int32} : ∀ (d n c p x1 x2 : Nat) (h : hp), RD h o tp bx L → ZH h → RO h o tp L p → (x2 = 0 ∨ (hT h x2 = (3, 3) ∧ 204 ≤ x2 ∧ x2 < 64 + hN h)) → c ≤ p → 161 ≤ p + d → d < n →
    (∃ fs p' v h', pFils L d p = .inl (fs, p') ∧ fX7_readFilters_l6 n o x1 x2 (iN c) h = some (1, (if x2 = 0 then v else x1), h') ∧ FG (KX o x2) h h' ∧ ZH h' ∧ RO h' o tp L p' ∧ p < p' ∧ hN h' ≤ hN h + (p' - p) ∧ hL h' ≤ hL h + 3 * (p' - p) ∧ v ≠ 0 ∧ RepF h' (64 + hN h) (64 + hN h') fs v ∧ (x2 ≠ 0 → hR h' x2 2 = v)) ∨
    (∃ f t v h', pFils L d p = .inr f ∧ p ≤ f ∧ f ≤ 160 ∧ fX7_readFilters_l6 n o x1 x2 (iN c) h = some (t, v, h') ∧ FG (KX o x2) h h' ∧ ZH h' ∧ hN h' ≤ hN h + (f - p) ∧ hL h' ≤ hL h + 3 * (f - p) ∧ ((t = 0 ∧ RO h' o tp L f) ∨ ((t = 1 ∨ t = 2) ∧ RG h' o f))) := by
  intro d
  induction d with
  | zero =>
    intro n c p x1 x2 h R z r hx hc hd hn
    have := r.lt R
    omega
  | succ d ih =>
    intro n c p x1 x2 h R z r hx hc hd hn
    obtain ⟨n, rfl⟩ : ∃ q, n = q + 1 := ⟨n - 1, by omega⟩
    have hp' := r.lt R
    have hl160 := R.len
    have rl := run_le 160 p r.2.2.2 (L := L)
    have e0 : ¬ (160 < iN c) := by rw [i_lit_lt (by decide) (by omega)]; show ¬ (160 < c); omega
    have w := R.1
    obtain ⟨kx1, kx2, kx3⟩ := kx_ok R hx
    have st : fX7_readFilters_l6 (n + 1) o x1 x2 (iN c) h = bd2 (some (match fnd (wordL L p (runL L 160 p)) with | none => 0 | some q => fa q, h)) fun v12 h13 =>
        if v12 = 0 then (
          some (0, x1, h13)
        ) else (
          (gfI h13 o 6 2).bind fun v14 =>
          (pfI h13 o 6 2 (v14 + iN (runL L 160 p))).bind fun h16 =>
          bd2 (nwO h16 3 3) fun v18 h19 =>
          (ckT h19 v18 3).bind fun _ =>
          (fX4_init v18 v12 h19).bind fun h22 =>
          jn (fun (p90_1 : Nat) (h90j : hp) => (
            (gsC v12).bind fun v24 =>
            jn (fun (h116j : hp) => (
              (ckT h116j o 6).bind fun _ =>
              bd2 (fX7_peek o h116j) fun v27 h28 =>
              if v27 = 124 then (
                (gfI h28 o 6 2).bind fun v30 =>
                (pfI h28 o 6 2 (v30 + 1)).bind fun h32 =>
                fX7_readFilters_l6 n o p90_1 v18 (iN c + 1) h32
              ) else (
                some (1, p90_1, h28)
              )
              : Option (Nat × Nat × hp))) fun k116 =>
            if v24 = 0 then (
              k116 h90j
            ) else (
              (ckT h90j o 6).bind fun _ =>
              (fX7_expect o 58 h90j).bind fun h35 =>
              (ckT h35 o 6).bind fun _ =>
              bd2 (fX7_readFigures o h35) fun v38 h39 =>
              (pfI h39 v18 3 1 v38).bind fun h41 =>
              k116 h41
            )
            : Option (Nat × Nat × hp))) fun k90 =>
          if x2 = 0 then (
            k90 v18 h22
          ) else (
            (pfR h22 x2 3 2 v18).bind fun h43 =>
            k90 x1 h43
          )
        ) := by
      rw [fX7_readFilters_l6, if_neg e0, gO R, Option.bind_some, r.2.2.1, if_neg n0_le, ckO R, Option.bind_some, count_e R r, bd2_s, gOR R, Option.bind_some, R.2.2.1, gO R, Option.bind_some, r.1, called_e R rl.1]
      rfl
    have sp : pFils L (d + 1) p = bnd (pFil L p) fun f p1 => if hereL L p1 = 124 then bnd (pFils L d (p1 + 1)) fun fs p2 => .inl (f :: fs, p2) else .inl ([f], p1) := rfl
    cases hf : fnd (wordL L p (runL L 160 p)) with
    | none =>
      have s1 : pFil L p = .inr p := by unfold pFil; rw [hf]
      rw [hf] at st
      refine .inr ⟨p, 0, x1, h, by rw [sp, s1]; rfl, Nat.le_refl _, hp', ?_, FG.rf _ _, z, Nat.le_add_right _ _, Nat.le_add_right _ _, .inl ⟨rfl, r⟩⟩
      rw [st]; rfl
    | some q =>
      rw [hf] at st
      obtain ⟨q1, q2⟩ := fnd_s hf
      obtain ⟨f1, f2⟩ := fa_all.1 q q1
      have qn : 1 ≤ runL L 160 p := by
        have a1 := sw_pos _ f1
        rw [q2, wrd_len] at a1
        exact a1
      obtain ⟨m, hm⟩ : ∃ m, m = runL L 160 p := ⟨_, rfl⟩
      rw [← hm] at st qn rl
      have fnz : ¬ (fa q = 0) := by omega
      -- the object laid
      have R1 := (SS.pO R z (k := 2) (iN (p + m)) (by decide)).rd R
      have s1 := SS.pO R z (k := 2) (iN (p + m)) (by decide)
      have r1 : RO (pI h o 2 (iN (p + m))) o tp L (p + m) := ⟨by rw [hI_pI, if_pos ⟨rfl, rfl⟩], by rw [hI_pI, if_neg (by omega), hm, ln_run]; exact r.2.1, by rw [hI_pI, if_neg (by omega)]; exact r.2.2.1, rl.1⟩
      obtain ⟨g, hg⟩ : ∃ g, g = pR (nw (pI h o 2 (iN (p + m))) 3 3) (64 + hN h) 0 (fa q) := ⟨_, rfl⟩
      have F1 : FG (KO o) h (nw (pI h o 2 (iN (p + m))) 3 3) := s1.1.tr (FG.nw _ 3 3)
      have Fg : FG (KO o) h g := by rw [hg]; exact fgRn F1 0 (fa q) (Nat.le_refl _)
      have gN : hN g = hN h + 1 := by rw [hg]; rfl
      have gL : hL g = hL h + 3 := by rw [hg]; rfl
      have gT : hT g (64 + hN h) = (3, 3) := by
        rw [hg, hT_pR, hT_nw]; dsimp only; rw [hN_pI, if_pos rfl]
      have gz : ZH g := by rw [hg]; exact (s1.2.1.nw 3 3).pR 0 (fa q) (by rw [hN_nw, hN_pI]; omega)
      have g0 : hR g (64 + hN h) 0 = fa q := by rw [hg, hR_pR, if_pos ⟨rfl, rfl⟩]
      have g1 : hI g (64 + hN h) 1 = 0 := by
        rw [hg, hI_pR, hI_nw, hI_pI, if_neg (by have := R.2.2.2.2.2.2.2.2.1; omega)]; exact (z _ 1 (Nat.le_refl _)).1
      have g2 : hR g (64 + hN h) 2 = 0 := by
        rw [hg, hR_pR, if_neg (by omega), hR_nw, hR_pI]; exact (z _ 2 (Nat.le_refl _)).2.2
      have rg : RO g o tp L (p + m) := by
        rw [hg]; exact r1
      obtain ⟨V, hV⟩ : ∃ V, V = 64 + hN h := ⟨_, rfl⟩
      have Vo : V ≠ o ∧ V ≠ tp ∧ V ≠ x2 ∧ V ≠ 0 := by
        have := R.2.2.2.2.2.2.2.2.1
        have := R.2.2.2.2.2.2.2.2.2.1
        omega
      obtain ⟨x1', hx1'⟩ : ∃ y, y = if x2 = 0 then V else x1 := ⟨_, rfl⟩
      -- linked
      obtain ⟨k, hk1, Fk, kz, kT, k0, k1, k2, kN, kL, kx⟩ : ∃ k, (if x2 = 0 then some (V, g) else (pfR g x2 3 2 V).bind fun h43 => some (x1, h43)) = some (x1', k) ∧ FG (KX o x2) h k ∧ ZH k ∧ hT k V = (3, 3) ∧ hR k V 0 = fa q ∧ hI k V 1 = 0 ∧ hR k V 2 = 0 ∧ hN k = hN h + 1 ∧ hL k = hL h + 3 ∧ (x2 ≠ 0 → hR k x2 2 = V) := by
        by_cases cx : x2 = 0
        · rw [if_pos cx] at hx1'
          rw [if_pos cx, hx1']
          exact ⟨g, rfl, Fg.up fun _ _ q => .inl q, gz, by rw [hV]; exact gT, by rw [hV]; exact g0, by rw [hV]; exact g1, by rw [hV]; exact g2, gN, gL, fun q => absurd cx q⟩
        · rw [if_neg cx] at hx1'
          obtain ⟨t1, t2, t3⟩ := hx.resolve_left cx
          have pf : pfR g x2 3 2 V = some (pR g x2 2 V) := by unfold pfR; rw [Fg.2.2.1 x2 t3, t1]; rfl
          rw [if_neg cx, pf, hx1']
          refine ⟨pR g x2 2 V, rfl, (Fg.up fun _ _ q => .inl q).tr (fgR1 (.inr ⟨rfl, cx, rfl⟩)), gz.pR 2 V (by omega), by rw [hV]; exact gT, ?_, by rw [hV]; exact g1, ?_, gN, gL, fun _ => by rw [hR_pR, if_pos ⟨rfl, rfl⟩]⟩
          · rw [hR_pR, if_neg (fun q => Vo.2.2.1 q.1), hV]; exact g0
          · rw [hR_pR, if_neg (fun q => Vo.2.2.1 q.1), hV]; exact g2
      have Rk := R.fgP Fk kx3
      have rk : RO k o tp L (p + m) := by
        have e := fun j (h2 : 2 ≤ j) (h4 : j ≤ 4) => by
          exact (show hI k o j = hI g o j from by
            by_cases cx : x2 = 0
            · rw [if_pos cx] at hk1; rw [(Prod.mk.inj (Option.some.inj hk1)).2]
            · obtain ⟨t1, t2, t3⟩ := hx.resolve_left cx
              have pf : pfR g x2 3 2 V = some (pR g x2 2 V) := by unfold pfR; rw [Fg.2.2.1 x2 t3, t1]; rfl
              rw [if_neg cx, pf] at hk1
              rw [← (Prod.mk.inj (Option.some.inj hk1)).2]; rfl)
        exact ⟨by rw [e 2 (by omega) (by omega)]; exact rg.1, by rw [e 3 (by omega) (by omega)]; exact rg.2.1, by rw [e 4 (by omega) (by omega)]; exact rg.2.2.1, rg.2.2.2⟩
      have st2 : fX7_readFilters_l6 (n + 1) o x1 x2 (iN c) h = if q < 13 then t116 n o x1' V (iN c) k else (ckT k o 6).bind fun _ => (fX7_expect o 58 k).bind fun h35 => (ckT h35 o 6).bind fun _ => bd2 (fX7_readFigures o h35) fun v38 h39 => (pfI h39 V 3 1 v38).bind fun h41 => t116 n o x1' V (iN c) h41 := by
        have e1 : ∀ K : Nat → Nat → hp → Option (Nat × Nat × hp), (bd2 (nwO (pI h o 2 (iN (p + m))) 3 3) fun v18 h19 => (ckT h19 v18 3).bind fun _ => (fX4_init v18 (fa q) h19).bind fun h22 => if x2 = 0 then K v18 v18 h22 else (pfR h22 x2 3 2 v18).bind fun h43 => K v18 x1 h43) = K V x1' k := by
          intro K
          have tn : hT (nw (pI h o 2 (iN (p + m))) 3 3) (64 + hN h) = (3, 3) := by rw [hT_nw]; dsimp only; rw [hN_pI, if_pos rfl]
          have c1 : ckT (nw (pI h o 2 (iN (p + m))) 3 3) (64 + hN h) 3 = some () := by
            unfold ckT; rw [tn]; rfl
          have c3 : pfR (nw (pI h o 2 (iN (p + m))) 3 3) (64 + hN h) 3 0 (fa q) = some g := by unfold pfR; rw [tn, hg]; rfl
          have c2 : fX4_init (64 + hN h) (fa q) (nw (pI h o 2 (iN (p + m))) 3 3) = some g := by
            unfold fX4_init
            rw [c1, Option.bind_some, c3, Option.bind_some]
          show ((ckT (nw (pI h o 2 (iN (p + m))) 3 3) (64 + hN h) 3).bind fun _ => (fX4_init (64 + hN h) (fa q) (nw (pI h o 2 (iN (p + m))) 3 3)).bind fun h22 => if x2 = 0 then K (64 + hN h) (64 + hN h) h22 else (pfR h22 x2 3 2 (64 + hN h)).bind fun h43 => K (64 + hN h) x1 h43) = _
          rw [c1, Option.bind_some, c2, Option.bind_some, ← hV]
          by_cases cx : x2 = 0
          · rw [if_pos cx] at hk1 ⊢
            have e := Prod.mk.inj (Option.some.inj hk1)
            rw [e.1, e.2]
          · rw [if_neg cx] at hk1 ⊢
            cases hpf : pfR g x2 3 2 V with
            | none => rw [hpf] at hk1; cases hk1
            | some y =>
              rw [hpf, Option.bind_some] at hk1
              have e := Prod.mk.inj (Option.some.inj hk1)
              rw [Option.bind_some, e.1, e.2]
        rw [st, bd2_s]
        dsimp only
        rw [if_neg fnz, gO R, Option.bind_some, pO R, Option.bind_some, r.1, i_add]
        refine (e1 (fun v18 p90 h90 => (gsC (fa q)).bind fun v24 => if v24 = 0 then t116 n o p90 v18 (iN c) h90 else (ckT h90 o 6).bind fun _ => (fX7_expect o 58 h90).bind fun h35 => (ckT h35 o 6).bind fun _ => bd2 (fX7_readFigures o h35) fun v38 h39 => (pfI h39 v18 3 1 v38).bind fun h41 => t116 n o p90 v18 (iN c) h41)).trans ?_
        rw [gsC_e q q1, Option.bind_some]
        by_cases c13 : q < 13
        · rw [if_pos c13, if_pos rfl, if_pos c13]
        · rw [if_neg c13, if_neg z10, if_neg c13]
      have hn := w.2.2
      have tail : ∀ (hh : hp) (p1 num : Nat), RD hh o tp bx L → ZH hh → RO hh o tp L p1 → p + 1 ≤ p1 → FG (KX o x2) h hh → hT hh V = (3, 3) → hR hh V 0 = fa q → hI hh V 1 = iN num → num < 100000 → hN hh = hN h + 1 → hL hh = hL h + 3 → hR hh V 2 = 0 → (x2 ≠ 0 → hR hh x2 2 = V) →
          (∃ fs p' h', (if hereL L p1 = 124 then bnd (pFils L d (p1 + 1)) fun fs p2 => .inl ((q, num) :: fs, p2) else .inl ([(q, num)], p1)) = (.inl (fs, p') : PR (List (Nat × Nat))) ∧ t116 n o x1' V (iN c) hh = some (1, x1', h') ∧ FG (KX o x2) h h' ∧ ZH h' ∧ RO h' o tp L p' ∧ p1 ≤ p' ∧ hN h' ≤ hN h + 1 + (p' - p1) ∧ hL h' ≤ hL h + 3 + 3 * (p' - p1) ∧ RepF h' (64 + hN h) (64 + hN h') fs V ∧ (x2 ≠ 0 → hR h' x2 2 = V)) ∨
          (∃ f t v h', (if hereL L p1 = 124 then bnd (pFils L d (p1 + 1)) fun fs p2 => .inl ((q, num) :: fs, p2) else .inl ([(q, num)], p1)) = (.inr f : PR (List (Nat × Nat))) ∧ p1 ≤ f ∧ f ≤ 160 ∧ t116 n o x1' V (iN c) hh = some (t, v, h') ∧ FG (KX o x2) h h' ∧ ZH h' ∧ hN h' ≤ hN h + 1 + (f - p1) ∧ hL h' ≤ hL h + 3 + 3 * (f - p1) ∧ ((t = 0 ∧ RO h' o tp L f) ∨ ((t = 1 ∨ t = 2) ∧ RG h' o f))) := by
        intro hh p1 num Rh zh rh hp1 Fh t0 t1 t2 t3 t4 t5 t6 t7
        have hl1 := rh.lt Rh
        unfold t116
        rw [ckO Rh, Option.bind_some, peek_p Rh (by omega) rh.1, bd2_s]
        by_cases c124 : hereL L p1 = 124
        · obtain ⟨l1, l2⟩ := here_lt c124 (by decide)
          rw [if_pos c124, if_pos c124, gO Rh, Option.bind_some, pO Rh, Option.bind_some, rh.1, i_succ, i_succ]
          have s2 := SS.pO Rh zh (k := 2) (iN (p1 + 1)) (by decide)
          have r2 := rh.step l1 (by rw [l2]; decide)
          have F2 : FG (KX o x2) h (pI hh o 2 (iN (p1 + 1))) := Fh.tr (s2.1.up fun _ _ z => .inl z)
          have hVx : V = 0 ∨ (hT (pI hh o 2 (iN (p1 + 1))) V = (3, 3) ∧ 204 ≤ V ∧ V < 64 + hN (pI hh o 2 (iN (p1 + 1)))) := .inr ⟨t0, by omega, by rw [hN_pI]; omega⟩
          have up : ∀ x k, x < 64 + hN h → KX o V x k → KX o x2 x k := fun x k hx z => by
            rcases z with z | z
            · exact .inl z
            · omega
          rcases ih n (c + 1) (p1 + 1) x1' V _ (s2.rd Rh) s2.2.1 r2 hVx (by omega) (by omega) (by omega) with ⟨fs, p', v, h', i1, i2, i3, i4, i5, i6, i7, i8, i9, i10, i11⟩ | ⟨f, t, v, h', i1, i2, i3, i4, i5, i6, i7, i8, i9⟩
          · rw [if_neg Vo.2.2.2] at i2
            have F3 := F2.tr' i3 up
            have old : ∀ x k, x < 64 + hN hh → ¬ KX o V x k → hI h' x k = hI hh x k ∧ hR h' x k = hR hh x k := fun x k hx z => by
              have e := i3.2.2.2 x k hx z
              have no2 : ¬ (x = o ∧ k = 2) := fun q => z (.inl ⟨q.1, by omega, by omega⟩)
              exact ⟨by rw [e.1, hI_pI, if_neg no2], by rw [e.2.2]; rfl⟩
            have nv : ∀ k, k ≠ 2 → ¬ KX o V V k := fun k hk z => by
              rcases z with z | z
              · exact Vo.1 z.1
              · exact hk z.2.2
            rw [hN_pI] at i7 i10
            rw [hL_pI] at i8
            have i3N := i3.1
            rw [hN_pI] at i3N
            refine .inl ⟨(q, num) :: fs, p', h', by rw [i1]; rfl, i2, F3, i4, i5, by omega, by omega, by omega, ?_, fun hx2 => ?_⟩
            · refine ⟨by omega, by omega, ?_, ?_, ?_, q1, t3, ?_⟩
              · rw [i3.2.2.1 V (by rw [hN_pI]; omega)]; exact t0
              · rw [(old V 0 (by omega) (nv 0 (by omega))).2]; exact t1
              · rw [(old V 1 (by omega) (nv 1 (by omega))).1]; exact t2
              · rw [i11 Vo.2.2.2]; exact i10.wd (by omega) (Nat.le_refl _)
            · have hx3 := (hx.resolve_left hx2).2.2
              rw [(old x2 2 (by omega) fun z => by
                rcases z with z | z
                · exact kx1 z.1
                · exact Vo.2.2.1 z.1.symm).2]
              exact t7 hx2
          · rw [hN_pI] at i7
            rw [hL_pI] at i8
            exact .inr ⟨f, t, v, h', by rw [i1]; rfl, by omega, i3, i4, F2.tr' i5 up, i6, by omega, by omega, i9⟩
        · rw [if_neg c124, if_neg c124]
          exact .inl ⟨_, p1, hh, rfl, rfl, Fh, zh, rh, Nat.le_refl _, by omega, by omega, ⟨by omega, by omega, t0, t1, t2, q1, t3, t6⟩, t7⟩
      have Vk : V < 64 + hN k := by omega
      have fin : ∀ (p1 num : Nat) (hh : hp), pFil L p = .inl ((q, num), p1) → fX7_readFilters_l6 (n + 1) o x1 x2 (iN c) h = t116 n o x1' V (iN c) hh → RD hh o tp bx L → ZH hh → RO hh o tp L p1 → p + 1 ≤ p1 → FG (KX o x2) h hh → hT hh V = (3, 3) → hR hh V 0 = fa q → hI hh V 1 = iN num → num < 100000 → hN hh = hN h + 1 → hL hh = hL h + 3 → hR hh V 2 = 0 → (x2 ≠ 0 → hR hh x2 2 = V) → ((∃ fs p' v h', pFils L (d + 1) p = .inl (fs, p') ∧ fX7_readFilters_l6 (n + 1) o x1 x2 (iN c) h = some (1, (if x2 = 0 then v else x1), h') ∧ FG (KX o x2) h h' ∧ ZH h' ∧ RO h' o tp L p' ∧ p < p' ∧ hN h' ≤ hN h + (p' - p) ∧ hL h' ≤ hL h + 3 * (p' - p) ∧ v ≠ 0 ∧ RepF h' (64 + hN h) (64 + hN h') fs v ∧ (x2 ≠ 0 → hR h' x2 2 = v)) ∨ (∃ f t v h', pFils L (d + 1) p = .inr f ∧ p ≤ f ∧ f ≤ 160 ∧ fX7_readFilters_l6 (n + 1) o x1 x2 (iN c) h = some (t, v, h') ∧ FG (KX o x2) h h' ∧ ZH h' ∧ hN h' ≤ hN h + (f - p) ∧ hL h' ≤ hL h + 3 * (f - p) ∧ ((t = 0 ∧ RO h' o tp L f) ∨ ((t = 1 ∨ t = 2) ∧ RG h' o f)))) := fun p1 num hh sf sl Rh zh rh hp1 Fh t0 t1 t2 t3 t4 t5 t6 t7 => by
        rcases tail hh p1 num Rh zh rh hp1 Fh t0 t1 t2 t3 t4 t5 t6 t7 with ⟨fs, p', h', i1, i2, i3, i4, i5, i6, i7, i8, i9, i10⟩ | ⟨f, t, v, h', i1, i2, i3, i4, i5, i6, i7, i8, i9⟩
        · exact .inl ⟨fs, p', V, h', by rw [sp, sf, bnd_l]; exact i1, by rw [sl, i2, hx1'], i3, i4, i5, by omega, by omega, by omega, Vo.2.2.2, i9, i10⟩
        · exact .inr ⟨f, t, v, h', by rw [sp, sf, bnd_l]; exact i1, by omega, i3, by rw [sl]; exact i4, i5, i6, by omega, by omega, i9⟩
      by_cases c13 : q < 13
      · rw [if_pos c13] at st2
        exact fin (p + m) 0 k (by unfold pFil; rw [hf]; dsimp only; rw [if_pos c13, hm]) st2 Rk kz rk (by omega) Fk kT k0 k1 (by omega) kN kL k2 kx
      · rw [if_neg c13] at st2
        have sf : pFil L p = bnd (pSign L 58 (p + m)) fun _ p1 => bnd (pFigs L p1) fun m p2 => .inl ((q, m), p2) := by unfold pFil; rw [hf]; dsimp only; rw [if_neg c13, hm]
        rw [ckO Rk, Option.bind_some] at st2
        obtain ⟨n', rfl⟩ : ∃ q, n = q + 1 := ⟨n - 1, by omega⟩
        have vv : ∀ {y : hp} {P : Nat → Nat → Prop}, FG P k y → (∀ x k, P x k → KO o x k) → hT y V = (3, 3) ∧ hR y V 0 = fa q ∧ hR y V 2 = 0 ∧ (x2 ≠ 0 → hR y x2 2 = V) := fun {y P} f hP => by
          have nV : ∀ k, ¬ P V k := fun j z => Vo.1 (hP _ _ z).1
          refine ⟨by rw [f.2.2.1 V Vk]; exact kT, by rw [(f.2.2.2 V 0 Vk (nV 0)).2.2]; exact k0, by rw [(f.2.2.2 V 2 Vk (nV 2)).2.2]; exact k2, fun hx2 => ?_⟩
          have hx3 := (hx.resolve_left hx2).2.2
          rw [(f.2.2.2 x2 2 (by omega) fun z => kx1 (hP _ _ z).1).2.2]; exact kx hx2
        have bad : ∀ (f : Nat) (h39 : hp) (v38 : Int32), pFils L (d + 1) p = .inr f → p ≤ f → f ≤ 160 → SS o k h39 0 0 → RG h39 o f → fX7_readFilters_l6 (n' + 1 + 1) o x1 x2 (iN c) h = ((pfI h39 V 3 1 v38).bind fun h41 => t116 (n' + 1) o x1' V (iN c) h41) → p + 1 ≤ f → (∃ f t v h', pFils L (d + 1) p = .inr f ∧ p ≤ f ∧ f ≤ 160 ∧ fX7_readFilters_l6 (n' + 1 + 1) o x1 x2 (iN c) h = some (t, v, h') ∧ FG (KX o x2) h h' ∧ ZH h' ∧ hN h' ≤ hN h + (f - p) ∧ hL h' ≤ hL h + 3 * (f - p) ∧ ((t = 0 ∧ RO h' o tp L f) ∨ ((t = 1 ∨ t = 2) ∧ RG h' o f))) := fun f h39 v38 b1 b2 b3 b4 b5 b6 b7 => by
          have R39 := b4.rd Rk
          have pf : pfI h39 V 3 1 v38 = some (pI h39 V 1 v38) := by unfold pfI; rw [(vv b4.1 fun _ _ z => z).1]; rfl
          have N39 := b4.1.1
          have F41 : FG (KX o x2) h (pI h39 V 1 v38) := fgIn (Fk.tr (b4.1.up fun _ _ z => .inl z)) 1 v38 (by omega)
          have z41 : ZH (pI h39 V 1 v38) := b4.2.1.pI 1 v38 (by omega)
          have R41 := R.fgP F41 kx3
          have g41 : RG (pI h39 V 1 v38) o f := ⟨by rw [hI_pI, if_neg (by omega)]; exact b5.1, b5.2⟩
          obtain ⟨t, h', ht, e1, s1, g1⟩ := t116_g R41 z41 g41 n' x1' V (iN c)
          have a1 := s1.2.2.1
          have a2 := s1.2.2.2
          have a3 := b4.2.2.1
          have a4 := b4.2.2.2
          rw [hN_pI] at a1
          rw [hL_pI] at a2
          exact ⟨f, t, x1', h', b1, b2, b3, by rw [b6, pf, Option.bind_some, e1], F41.tr (s1.1.up fun _ _ z => .inl z), s1.2.1, by omega, by omega, .inr ⟨ht, g1⟩⟩
        rcases sign_o Rk kz rk (c := 58) (by decide) with ⟨s1, h35, e1, S1, r35⟩ | ⟨s1, h35, e1, S1, g35⟩
        · have R35 := S1.rd Rk
          rw [e1, Option.bind_some, ckO R35, Option.bind_some] at st2
          rcases figures_o R35 S1.2.1 r35 with ⟨m2, p2, s2, u1, u2, h39, e2, S2, r39⟩ | ⟨s2, v, h39, e2, S2, g39⟩
          · have S3 := S1.tr S2
            rw [e2, bd2_s] at st2
            obtain ⟨w1, w2, w3, w4⟩ := vv S3.1 fun _ _ z => z
            have pf : pfI h39 V 3 1 (iN m2) = some (pI h39 V 1 (iN m2)) := by unfold pfI; rw [w1]; rfl
            rw [pf, Option.bind_some] at st2
            have N39 := S3.1.1
            have L39 := S3.1.2.1
            have a3 := S3.2.2.1
            have a4 := S3.2.2.2
            have F41 : FG (KX o x2) h (pI h39 V 1 (iN m2)) := fgIn (Fk.tr (S3.1.up fun _ _ z => .inl z)) 1 (iN m2) (by omega)
            exact fin p2 m2 (pI h39 V 1 (iN m2)) (by rw [sf, s1, bnd_l, s2, bnd_l]) st2 (R.fgP F41 kx3) (S3.2.1.pI 1 _ (by omega)) ⟨by rw [hI_pI, if_neg (by omega)]; exact r39.1, by rw [hI_pI, if_neg (by omega)]; exact r39.2.1, by rw [hI_pI, if_neg (by omega)]; exact r39.2.2.1, r39.2.2.2⟩ (by omega) F41 w1 w2 (by rw [hI_pI, if_pos ⟨rfl, rfl⟩]) u1 (by rw [hN_pI]; omega) (by rw [hL_pI]; omega) w3 w4
          · rw [e2, bd2_s] at st2
            have hl2 := r35.lt R35
            exact .inr (bad (p + m + 1) h39 v (by rw [sp, sf, s1, bnd_l, s2]; rfl) (by omega) (by omega) (S1.tr S2) g39 st2 (by omega))
        · have R35 := S1.rd Rk
          rw [e1, Option.bind_some, ckO R35, Option.bind_some] at st2
          obtain ⟨v, h39, e2, S2, g39⟩ := figures_g R35 S1.2.1 g35
          rw [e2, bd2_s] at st2
          exact .inr (bad (p + m) h39 v (by rw [sp, sf, s1]; rfl) (by omega) (by omega) (S1.tr S2) g39 st2 (by omega))

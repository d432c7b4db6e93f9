/-! the class's reader: a text as a value -/
theorem CV.cg {h : hp} {a b n : Nat} {f g : Nat → Int32} (H : CV h a b (3, 0, 0, n, f)) (e : ∀ k, k < n → f k = g k) : CV h a b (3, 0, 0, n, g) := by
  obtain ⟨h1, h2, h3, h4, h5, h6⟩ := H
  refine ⟨h1, h2, h3, h4, h5, fun q => ?_⟩
  obtain ⟨g1, g2, g3⟩ := h6 q
  exact ⟨g1, g2, fun k hk => (g3 k hk).trans (e k hk)⟩
theorem text_g {h : hp} {o tp bx f : Nat} {L : List Int32} (R : RD h o tp bx L) (z : ZH h) (g : RG h o f) : ∃ v h', fX7_readText o h = some (v, h') ∧ SS o h h' 4 39 ∧ RG h' o f := by
  obtain ⟨S1, V1, n1, l1, e1⟩ := nV_s z o
  have R1 := S1.rd R
  obtain ⟨S2, N2, n2, l2, e2⟩ := nM_s S1.2.1 o
  have R2 := S2.rd R1
  have S12 := S1.tr S2
  have ho := R.2.2.2.2.2.2.2.2.1
  have ht := R.2.2.2.2.2.2.2.2.2.1
  have S3 := SS.pO R2 S2.2.1 (k := 2) (hI (nM (nV h)) o 2 + 1) (by decide)
  have R3 := S3.rd R2
  have g3 : RG (pI (nM (nV h)) o 2 (hI (nM (nV h)) o 2 + 1)) o f := ⟨by rw [hI_pI, if_neg (by omega), e2, e1]; exact g.1, g.2⟩
  obtain ⟨y, hy⟩ : ∃ y, y = 64 + hN (nV h) := ⟨_, rfl⟩
  have hy2 : 65 + hN (nV h) = y + 1 := by omega
  rw [← hy, hy2] at N2
  have N3 : NL (pI (nM (nV h)) o 2 (hI (nM (nV h)) o 2 + 1)) y (y + 1) 16 [] := N2.fg S3.1 (by omega) (by omega) (fun k q => by have := q.1; omega) (fun k q => by have := q.1; omega)
  obtain ⟨h4, M', i1, i2, i3, i4, i5, i6, i7⟩ := txt_g (x1 := 64 + hN h) 16 0 FU _ [] R3 S3.2.1 g3 N3 rfl rfl (by show 16 < 1000000; omega) ⟨⟨by omega, by omega⟩, ⟨by rw [hN_pI]; omega, by rw [hN_pI]; omega⟩, ⟨by omega, by omega⟩, by omega, by omega⟩
  have F14 : FG (KO o) h h4 := (S12.tr S3).1.tr' i2 fun x k hx q => by
    rcases q with q | q | q
    · exact q
    · omega
    · omega
  rw [hN_pI] at i4
  rw [hL_pI] at i5
  have S4 : SS o h h4 4 39 := ⟨F14, i3, by omega, by omega⟩
  have R4 := S4.rd R
  obtain ⟨h5, e5, S5, g5⟩ := sign_g R4 i3 i6 39
  have R5 := S5.rd R4
  have N5 := S5.1.1
  have V5 : VO h5 (64 + hN h) (65 + hN h) := ((V1.fg (S2.tr S3).1 (by omega) (by omega) (fun q => by have := q.1; omega)).fg i2 (by rw [hN_pI]; omega) (by rw [hN_pI]; omega) (fun q => by unfold KT KO at q; omega)).fg S5.1 (by omega) (by omega) (fun q => by have := q.1; omega)
  have N6 : NL h5 y (y + 1) 16 M' := i7.fg S5.1 (by omega) (by omega) (fun k q => by have := q.1; omega) (fun k q => by have := q.1; omega)
  obtain ⟨h6, e6, _, F6⟩ := cText V5 N6 N6.2.2.1 (by omega) (by omega) (by omega) (by omega)
  have S6 := S4.tr S5
  have F16 : FG (KO o) h h6 := S6.1.tr' F6.fs.fg fun x k hx q => by
    have q' : x = 64 + hN h ∨ x = 65 + hN h := by simpa using q
    omega
  have zz : ZH h6 := F6.fs.zh S5.2.1 fun x k q => by
    have q' : x = 64 + hN h ∨ x = 65 + hN h := by simpa using q
    omega
  have oo : hI h6 o 4 = hI h5 o 4 := (F6.fs.2.2.2.2 o 4 (fun q => by
    have q' : o = 64 + hN h ∨ o = 65 + hN h := by simpa using q
    omega)).1
  refine ⟨64 + hN h, h6, ?_, ⟨F16, zz, by rw [F6.1]; exact S6.2.2.1, by rw [F6.2.1]; exact S6.2.2.2⟩, by rw [oo]; exact g5.1, g5.2⟩
  unfold fX7_readText
  rw [nV_k, nM_k, ← hy, gO R2, Option.bind_some, pO R2, Option.bind_some, show fX7_readText_l30 FU o (64 + hN h) y 0 _ = _ from i1, Option.bind_some, ckO R4, Option.bind_some, e5, Option.bind_some, ckV V5, Option.bind_some, e6, bd2_s]
theorem text_o {h : hp} {o tp bx p : Nat} {L : List Int32} (R : RD h o tp bx L) (z : ZH h) (r : RO h o tp L p) (hq : hereL L p = 39) :
    (∃ p' h', pSign L 39 (p + 1 + runT L 16 (p + 1)) = .inl ((), p') ∧ p < p' ∧ fX7_readText o h = some (64 + hN h, h') ∧ SS o h h' 4 39 ∧ RO h' o tp L p' ∧ RepV h' (64 + hN h) (64 + hN h') (64 + hN h) (3, 0, 0, runT L 16 (p + 1), fun i => L.getD (p + 1 + i) 0)) ∨
    (∃ f v h', pSign L 39 (p + 1 + runT L 16 (p + 1)) = .inr f ∧ p ≤ f ∧ f ≤ 160 ∧ fX7_readText o h = some (v, h') ∧ SS o h h' 4 39 ∧ RG h' o f) := by
  obtain ⟨S1, V1, n1, l1, e1⟩ := nV_s z o
  have R1 := S1.rd R
  obtain ⟨S2, N2, n2, l2, e2⟩ := nM_s S1.2.1 o
  have R2 := S2.rd R1
  have S12 := S1.tr S2
  have ho := R.2.2.2.2.2.2.2.2.1
  have ht := R.2.2.2.2.2.2.2.2.2.1
  obtain ⟨q1, q2⟩ := here_lt hq (by decide)
  have r2 : RO (nM (nV h)) o tp L p := ⟨by rw [e2, e1]; exact r.1, by rw [e2, e1]; exact r.2.1, by rw [e2, e1]; exact r.2.2.1, r.2.2.2⟩
  have S3 := SS.pO R2 S2.2.1 (k := 2) (iN (p + 1)) (by decide)
  have R3 := S3.rd R2
  have r3 := r2.step q1 (by rw [q2]; decide)
  obtain ⟨y, hy⟩ : ∃ y, y = 64 + hN (nV h) := ⟨_, rfl⟩
  have hy2 : 65 + hN (nV h) = y + 1 := by omega
  rw [← hy, hy2] at N2
  have N3 : NL (pI (nM (nV h)) o 2 (iN (p + 1))) y (y + 1) 16 [] := N2.fg S3.1 (by omega) (by omega) (fun k q => by have := q.1; omega) (fun k q => by have := q.1; omega)
  obtain ⟨h4, M', i1, i2, i3, i4, i5, i6, i7, i8, _, i10⟩ := txt_o (x1 := 64 + hN h) 16 0 FU (p + 1) _ [] R3 S3.2.1 r3 N3 rfl rfl (by show 16 < 1000000; omega) ⟨⟨by omega, by omega⟩, ⟨by rw [hN_pI]; omega, by rw [hN_pI]; omega⟩, ⟨by omega, by omega⟩, by omega, by omega⟩
  have F14 : FG (KO o) h h4 := (S12.tr S3).1.tr' i2 fun x k hx q => by
    rcases q with q | q | q
    · exact q
    · omega
    · omega
  rw [hN_pI] at i4
  rw [hL_pI] at i5
  have S4 : SS o h h4 4 39 := ⟨F14, i3, by omega, by omega⟩
  have R4 := S4.rd R
  have hl4 := i6.lt R4
  have rest : ∀ h5, SS o h4 h5 0 0 → fX7_expect o 39 h4 = some h5 → ∃ h6, fX7_readText o h = some (64 + hN h, h6) ∧ SS o h h6 4 39 ∧ (∀ k, hI h6 o k = hI h5 o k) ∧ CV h6 (64 + hN h) (65 + hN h) (3, 0, 0, runT L 16 (p + 1), fun i => L.getD (p + 1 + i) 0) ∧ hN h6 = hN h + 4 := by
    intro h5 S5 e5
    have R5 := S5.rd R4
    have N5 := S5.1.1
    have N5' := S5.2.2.1
    have V5 : VO h5 (64 + hN h) (65 + hN h) := ((V1.fg (S2.tr S3).1 (by omega) (by omega) (fun q => by have := q.1; omega)).fg i2 (by rw [hN_pI]; omega) (by rw [hN_pI]; omega) (fun q => by unfold KT KO at q; omega)).fg S5.1 (by omega) (by omega) (fun q => by have := q.1; omega)
    have N6 : NL h5 y (y + 1) 16 M' := i7.fg S5.1 (by omega) (by omega) (fun k q => by have := q.1; omega) (fun k q => by have := q.1; omega)
    obtain ⟨h6, e6, C6, F6⟩ := cText V5 N6 N6.2.2.1 (by omega) (by omega) (by omega) (by omega)
    have S6 := S4.tr S5
    have F16 : FG (KO o) h h6 := S6.1.tr' F6.fs.fg fun x k hx q => by
      have q' : x = 64 + hN h ∨ x = 65 + hN h := by simpa using q
      omega
    have zz : ZH h6 := F6.fs.zh S5.2.1 fun x k q => by
      have q' : x = 64 + hN h ∨ x = 65 + hN h := by simpa using q
      omega
    have oo : ∀ k, hI h6 o k = hI h5 o k := fun k => (F6.fs.2.2.2.2 o k (fun q => by
      have q' : o = 64 + hN h ∨ o = 65 + hN h := by simpa using q
      omega)).1
    have hlen : M'.length = runT L 16 (p + 1) := by rw [i8, Nat.zero_add]
    rw [hlen] at C6
    refine ⟨h6, ?_, ⟨F16, zz, by rw [F6.1]; exact S6.2.2.1, by rw [F6.2.1]; exact S6.2.2.2⟩, oo, C6.cg fun k hk => ?_, by rw [F6.1]; omega⟩
    · unfold fX7_readText
      rw [nV_k, nM_k, ← hy, gO R2, Option.bind_some, pO R2, Option.bind_some, r2.1, i_succ, show fX7_readText_l30 FU o (64 + hN h) y 0 _ = _ from i1, Option.bind_some, ckO R4, Option.bind_some, e5, Option.bind_some, ckV V5, Option.bind_some, e6, bd2_s]
    · have e := i10 k hk
      rw [Nat.zero_add] at e
      exact e
  rcases sign_o R4 i3 i6 (c := 39) (by decide) with ⟨s, h5, e5, S5, r5⟩ | ⟨s, h5, e5, S5, g5⟩
  · obtain ⟨h6, j1, j2, j3, j4, j5⟩ := rest h5 S5 e5
    have hT16 : runT L 16 (p + 1) ≤ 16 := by rw [← Nat.zero_add (runT L 16 (p + 1)), ← i8]; exact i7.2.2.1
    have r6 := i6.2.2.2
    refine .inl ⟨_, h6, s, by omega, j1, j2, ⟨by rw [j3]; exact r5.1, by rw [j3]; exact r5.2.1, by rw [j3]; exact r5.2.2.1, r5.2.2.2⟩, 65 + hN h, Nat.le_refl _, by omega, by omega, by omega, j4, by simp, by simp, by simp, fun _ => ⟨hT16, fun k hk => ?_⟩, by simp⟩
    have hk' : k < runT L 16 (p + 1) := hk
    exact R.2.2.2.2.2.2.2.2.2.2.2.2 (p + 1 + k) (by omega)
  · obtain ⟨h6, j1, j2, j3, j4, j5⟩ := rest h5 S5 e5
    exact .inr ⟨_, _, h6, s, by omega, hl4, j1, j2, by rw [j3]; exact g5.1, g5.2⟩

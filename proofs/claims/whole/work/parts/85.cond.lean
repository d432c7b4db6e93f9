/-! the class's reader: a condition's second expression -/
def c90 {α : Type} (o V : Nat) (s : Int32) (K : hp → Option α) (h : hp) : Option α :=
  (pfI h V 5 3 s).bind fun h38 =>
  (gfI h38 o 6 2).bind fun v40 =>
  (pfI h38 o 6 2 (v40 + 1)).bind fun h42 =>
  (ckT h42 o 6).bind fun _ =>
  bd2 (fX7_readExpression o h42) fun v45 h46 =>
  (pfR h46 V 5 5 v45).bind fun h48 =>
  K h48
theorem VF.op {h : hp} {V : Nat} {k ln v : Int32} {rr : Nat → Nat} (H : VF h V k ln v 0 rr) (x : Int32) : pfI h V 5 3 x = some (pI h V 3 x) ∧ VF (pI h V 3 x) V k ln v x rr := by
  obtain ⟨h1, h2, h3, h4⟩ := H
  refine ⟨by unfold pfI; rw [h1]; rfl, h1, fun j => ?_, h3, h4⟩
  rw [hI_pI]
  by_cases c3 : j = 3
  · rw [if_pos ⟨rfl, c3⟩, c3, if_neg (by decide), if_neg (by decide), if_neg (by decide), if_pos rfl]
  · rw [if_neg (fun q => c3 q.2), h2 j, if_neg c3, if_neg c3]
/-- from a start h0 on: V is new -/
theorem es_v {h0 h : hp} {o tp V a b : Nat} (E : ES o tp h0 h a b) (hV : 64 + hN h0 ≤ V) (hV2 : V < 64 + hN h) : (∀ j x, ES o tp h0 (pI h V j x) a b) ∧ ∀ j x, ES o tp h0 (pR h V j x) a b :=
  ⟨fun j x => ⟨fgIn E.1 j x hV, E.2.1.pI j x hV2, E.2.2.1, E.2.2.2⟩, fun j x => ⟨fgRn E.1 j x hV, E.2.1.pR j x hV2, E.2.2.1, E.2.2.2⟩⟩
theorem c90_g {α : Type} {h0 h : hp} {o tp bx V a b f : Nat} {L : List Int32} {k ln v s : Int32} {rr : Nat → Nat} (K : hp → Option α) (R : RD h0 o tp bx L) (E : ES o tp h0 h a b) (hV : 64 + hN h0 ≤ V) (W : VF h V k ln v 0 rr) (g : RG h o f) : ∃ h', c90 o V s K h = K h' ∧ ES o tp h0 h' (a + 5) (b + 43) ∧ RG h' o f ∧ ∃ rr', VF h' V k ln v s rr' := by
  have nV : ∀ j, ¬ KE o tp V j := ke_old R hV
  have ho := R.2.2.2.2.2.2.2.2.1
  obtain ⟨p1, W1⟩ := W.op s
  have E1 := (es_v E hV W.2.2.2).1 3 s
  have R1 := E1.rd R
  have g1 := g.nE (a := V) (k := 3) s (by omega)
  have S2 := SS.pO R1 E1.2.1 (k := 2) (hI (pI h V 3 s) o 2 + 1) (by decide)
  have E2 := E1.tr (S2.es (tp := tp))
  have W2 := W1.fg (S2.es (tp := tp)).1 nV
  obtain ⟨x, h3, e3, E3, g3⟩ := expr_g (E2.rd R) E2.2.1 (g1.pO _ (by decide))
  have E4 := E2.tr E3
  have W3 := W2.fg E3.1 nV
  obtain ⟨p4, W4⟩ := W3.r 5 x
  refine ⟨pR h3 V 5 x, ?_, (es_v E4 hV W3.2.2.2).2 5 x, g3, _, W4⟩
  unfold c90
  rw [p1, Option.bind_some, gO R1, Option.bind_some, pO R1, Option.bind_some, ckO (E2.rd R), Option.bind_some, e3, bd2_s, p4, Option.bind_some]
theorem c90_o {α : Type} {h0 h : hp} {o tp bx V a b p : Nat} {L : List Int32} {k ln v s c : Int32} {rr : Nat → Nat} (K : hp → Option α) (R : RD h0 o tp bx L) (E : ES o tp h0 h a b) (hV : 64 + hN h0 ≤ V) (W : VF h V k ln v 0 rr) (r : RO h o tp L p) (hc : hereL L p = c) (hc2 : c ≠ -1 ∧ c ≠ 10) :
    (∃ e p' h' q, pExpr L (p + 1) = .inl (e, p') ∧ c90 o V s K h = K h' ∧ ES o tp h0 h' (a + 5 + (p' - p)) (b + 43 + 3 * (p' - p)) ∧ RO h' o tp L p' ∧ p + 1 < p' ∧ VF h' V k ln v s (fun j => if j = 5 then q else rr j) ∧ FG (fun x k => KE o tp x k ∨ x = V) h h' ∧ RepE h' (64 + hN h) (64 + hN h') q e ∧ hI h' tp 7 = hI h tp 7 ||| varsE e) ∨
    (∃ f h', pExpr L (p + 1) = .inr f ∧ p ≤ f ∧ f ≤ 160 ∧ c90 o V s K h = K h' ∧ ES o tp h0 h' (a + 5 + (f - p)) (b + 43 + 3 * (f - p)) ∧ RG h' o f ∧ ∃ rr', VF h' V k ln v s rr') := by
  have nV : ∀ j, ¬ KE o tp V j := ke_old R hV
  have ho := R.2.2.2.2.2.2.2.2.1
  have htp := R.2.2.2.2.2.2.2.2.2.1
  have Vl := W.2.2.2
  obtain ⟨l1, l2⟩ := here_lt hc hc2.1
  obtain ⟨p1, W1⟩ := W.op s
  have E1 := (es_v E hV W.2.2.2).1 3 s
  have R1 := E1.rd R
  have r1 := r.nE (a := V) (k := 3) s (by omega)
  have S2 := SS.pO R1 E1.2.1 (k := 2) (iN (p + 1)) (by decide)
  have E2 := E1.tr (S2.es (tp := tp))
  have R2 := E2.rd R
  have W2 := W1.fg (S2.es (tp := tp)).1 nV
  have r2 := r1.step l1 (by rw [l2]; exact hc2.2)
  have F2 : FG (fun x k => KE o tp x k ∨ x = V) h (pI (pI h V 3 s) o 2 (iN (p + 1))) := (FG.pI (.inr rfl)).tr ((S2.es (tp := tp)).1.up fun _ _ q => .inl q)
  have st : ∀ x h3, fX7_readExpression o (pI (pI h V 3 s) o 2 (iN (p + 1))) = some (x, h3) → VF h3 V k ln v s rr → c90 o V s K h = K (pR h3 V 5 x) := by
    intro x h3 e3 W3
    unfold c90
    rw [p1, Option.bind_some, gO R1, Option.bind_some, pO R1, Option.bind_some, r1.1, i_succ, ckO R2, Option.bind_some, e3, bd2_s, (W3.r 5 x).1, Option.bind_some]
  rcases expr_o R2 E2.2.1 r2 with ⟨e, p', h3, s3, e3, E3, r3, q3, V3, m3⟩ | ⟨f, x, h3, s3, b1, b2, e3, E3, g3⟩
  · have E4 := E2.tr E3
    have W3 := W2.fg E3.1 nV
    have n3 := E3.1.1
    rw [hN_pI, hN_pI] at n3 V3
    refine .inl ⟨e, p', pR h3 V 5 (64 + hN h), 64 + hN h, s3, st _ h3 e3 W3, ?_, r3, by omega, (W3.r 5 _).2, (F2.tr (E3.1.up fun _ _ q => .inl q)).tr (fgR1 (.inr rfl)), V3.fg (P := fun x k => x = V) (fgR1 rfl) (Nat.le_refl _) (fun x k h1 _ q => by omega) (Nat.le_refl _) (Nat.le_refl _), ?_⟩
    · have E5 := (es_v E4 hV W3.2.2.2).2 5 (64 + hN h)
      exact ⟨E5.1, E5.2.1, by have := E5.2.2.1; omega, by have := E5.2.2.2; omega⟩
    · rw [hI_pR, m3, S2.tp R1, hI_pI, if_neg (by omega)]
  · have E4 := E2.tr E3
    have W3 := W2.fg E3.1 nV
    have E5 := (es_v E4 hV W3.2.2.2).2 5 x
    exact .inr ⟨f, pR h3 V 5 x, s3, by omega, b2, st x h3 e3 W3, ⟨E5.1, E5.2.1, by have := E5.2.2.1; omega, by have := E5.2.2.2; omega⟩, g3, _, (W3.r 5 x).2⟩

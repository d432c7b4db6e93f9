/-! the class's reader: a condition's second expression -/
def c90 {α : Type} (o V : Nat) (s : Int32) (K : hp → Option α) (h : hp) : Option α :=
  (pfI h V 5 3 s).bind fun h38 =>
  (gfI h38 o 6 2).bind fun v40 =>
  (pfI h38 o 6 2 (v40 + 1)).bind fun h42 =>
  (ckT h42 o 6).bind fun _ =>
  bd2 (fX7_readExpression o h42) fun v45 h46 =>
  (pfR h46 V 5 5 v45).bind fun h48 =>
  K h48
theorem VF.op {h : hp} {V : Nat} {k ln v : Int32} {rr : Nat → Nat} (H : VF h V k ln v 0 rr) (x : Int32) : pfI h V 5 3 x = some (pI h V 3 x) ∧ VF (pI h V 3 x) V k ln v x rr := by
  obtain ⟨h1, h2, h3, h4⟩ := H
  refine ⟨by unfold pfI; rw [h1]; rfl, h1, fun j => ?_, h3, h4⟩
  rw [hI_pI]
  by_cases c3 : j = 3
  · rw [if_pos ⟨rfl, c3⟩, c3, if_neg (by decide), if_neg (by decide), if_neg (by decide), if_pos rfl]
  · rw [if_neg (fun q => c3 q.2), h2 j, if_neg c3, if_neg c3]
/-- from a start h0 on: V is new -/
theorem es_v {h0 h : hp} {o tp V a b : Nat} (E : ES o tp h0 h a b) (hV : 64 + hN h0 ≤ V) (hV2 : V < 64 + hN h) : (∀ j x, ES o tp h0 (pI h V j x) a b) ∧ ∀ j x, ES o tp h0 (pR h V j x) a b :=
  ⟨fun j x => ⟨fgIn E.1 j x hV, E.2.1.pI j x hV2, E.2.2.1, E.2.2.2⟩, fun j x => ⟨fgRn E.1 j x hV, E.2.1.pR j x hV2, E.2.2.1, E.2.2.2⟩⟩
theorem c90_g {α : Type} {h0 h : hp} {o tp bx V a b f : Nat} {L : List Int32} {k ln v s : Int32} {rr : Nat → Nat} (K : hp → Option α) (R : RD h0 o tp bx L) (E : ES o tp h0 h a b) (hV : 64 + hN h0 ≤ V) (W : VF h V k ln v 0 rr) (g : RG h o f) : ∃ h', c90 o V s K h = K h' ∧ ES o tp h0 h' (a + 5) (b + 43) ∧ RG h' o f ∧ ∃ rr', VF h' V k ln v s rr' := by
  have nV : ∀ j, ¬ KE o tp V j := ke_old R hV
  have ho := R.2.2.2.2.2.2.2.2.1
  obtain ⟨p1, W1⟩ := W.op s
  have E1 := (es_v E hV W.2.2.2).1 3 s
  have R1 := E1.rd R
  have g1 := g.nE (a := V) (k := 3) s (by omega)
  have S2 := SS.pO R1 E1.2.1 (k := 2) (hI (pI h V 3 s) o 2 + 1) (by decide)
  have E2 := E1.tr (S2.es (tp := tp))
  have W2 := W1.fg (S2.es (tp := tp)).1 nV
  obtain ⟨x, h3, e3, E3, g3⟩ := expr_g (E2.rd R) E2.2.1 (g1.pO _ (by decide))
  have E4 := E2.tr E3
  have W3 := W2.fg E3.1 nV
  obtain ⟨p4, W4⟩ := W3.r 5 x
  refine ⟨pR h3 V 5 x, ?_, (es_v E4 hV W3.2.2.2).2 5 x, g3, _, W4⟩
  unfold c90
  rw [p1, Option.bind_some, gO R1, Option.bind_some, pO R1, Option.bind_some, ckO (E2.rd R), Option.bind_some, e3, bd2_s, p4, Option.bind_some]

/-! the class's reader: loops -/
def l3 (G : gG0) (o V : Nat) (d b : Int32) (h19 : hp) : Option (Nat × hp) :=
  (ckT h19 o 6).bind fun _ =>
  bd2 (fX7_readExpression o h19) fun v22 h23 =>
  (pfR h23 V 5 4 v22).bind fun h25 =>
  kT G o V d b h25
def l2 (G : gG0) (o V : Nat) (d b : Int32) (h16 : hp) : Option (Nat × hp) :=
  (ckT h16 o 6).bind fun _ =>
  (fX7_expect o 32 h16).bind fun h19 =>
  l3 G o V d b h19
def l1 (G : gG0) (o V : Nat) (d b : Int32) (h10 : hp) : Option (Nat × hp) :=
  (ckT h10 o 6).bind fun _ =>
  bd2 (fX7_readVariable o h10) fun v13 h14 =>
  (pfI h14 V 5 2 v13).bind fun h16 =>
  l2 G o V d b h16
theorem l3_g {h0 h : hp} {o tp bx V a b f : Nat} {L : List Int32} {G G' : gG0} {d bl k ln v q : Int32} {rr : Nat → Nat} (hG : G.2.2.2.2.1 = fX7_readBoth_b G') (R : RD h0 o tp bx L) (E : ES o tp h0 h a b) (hV : 64 + hN h0 ≤ V) (W : VF h V k ln v q rr) (g : RG h o f) : ∃ h', l3 G o V d bl h = some (V, h') ∧ QS o tp bx h0 h' (a + 5) (b + 43) ∧ RG h' o f ∧ hT h' V = (5, 9) := by
  have nV : ∀ j, ¬ KE o tp V j := ke_old R hV
  obtain ⟨x, h1, e1, E1, g1⟩ := expr_g (E.rd R) E.2.1 g
  have E2 := E.tr E1
  have W1 := W.fg E1.1 nV
  obtain ⟨p2, W2⟩ := W1.r 4 x
  have E3 := (es_v E2 hV W1.2.2.2).2 4 x
  unfold l3
  rw [ckO (E.rd R), Option.bind_some, e1, bd2_s, p2, Option.bind_some]
  exact kT_g hG R E3.qs hV W2.lv g1
theorem l2_g {h0 h : hp} {o tp bx V a b f : Nat} {L : List Int32} {G G' : gG0} {d bl k ln v q : Int32} {rr : Nat → Nat} (hG : G.2.2.2.2.1 = fX7_readBoth_b G') (R : RD h0 o tp bx L) (E : ES o tp h0 h a b) (hV : 64 + hN h0 ≤ V) (W : VF h V k ln v q rr) (g : RG h o f) : ∃ h', l2 G o V d bl h = some (V, h') ∧ QS o tp bx h0 h' (a + 5) (b + 43) ∧ RG h' o f ∧ hT h' V = (5, 9) := by
  have nV : ∀ j, ¬ KE o tp V j := ke_old R hV
  obtain ⟨h1, e1, S1, g1⟩ := sign_g (E.rd R) E.2.1 g 32
  unfold l2
  rw [ckO (E.rd R), Option.bind_some, e1, Option.bind_some]
  exact l3_g hG R (E.tr S1.es) hV (W.fg (S1.es (tp := tp)).1 nV) g1
theorem l1_g {h0 h : hp} {o tp bx V a b f : Nat} {L : List Int32} {G G' : gG0} {d bl k ln q : Int32} {rr : Nat → Nat} (hG : G.2.2.2.2.1 = fX7_readBoth_b G') (R : RD h0 o tp bx L) (E : ES o tp h0 h a b) (hV : 64 + hN h0 ≤ V) (W : VF h V k ln 0 q rr) (g : RG h o f) : ∃ h', l1 G o V d bl h = some (V, h') ∧ QS o tp bx h0 h' (a + 5) (b + 43) ∧ RG h' o f ∧ hT h' V = (5, 9) := by
  have nV : ∀ j, ¬ KE o tp V j := ke_old R hV
  have ho := R.2.2.2.2.2.2.2.2.1
  obtain ⟨x, h1, e1, E1, g1⟩ := var_g (E.rd R) E.2.1 g
  have E2 := E.tr E1
  have W1 := W.fg E1.1 nV
  obtain ⟨p2, W2⟩ := W1.v x
  have E3 := (es_v E2 hV W1.2.2.2).1 2 x
  unfold l1
  rw [ckO (E.rd R), Option.bind_some, e1, bd2_s, p2, Option.bind_some]
  exact l2_g hG R E3 hV W2 (g1.nE _ (by omega))
theorem loop_o {h : hp} {o tp bx p m : Nat} {L : List Int32} {G G' : gG0} {rc : pRec} {blk : Bool} (hG : G.2.2.2.2.1 = fX7_readBoth_b G') (R : RD h o tp bx L) (z : ZH h) (r : RO h o tp L p) (hc : hereL L p = 42) (hm : m ≤ 4)
    (ih : 1 ≤ m → ∀ (els : Bool) (g : hp) (p1 : Nat), p ≤ p1 → RD g o tp bx L → ZH g → RO g o tp L p1 → AR L o tp bx m g p1 (rc m blk els p1) (G'.1 o (iN (4 - m) + 1) (b2 blk) (b2 els) g)) :
    (∃ v e t1 t2 p' h', (if 1 ≤ m then bnd (pOne L 97 8 (p + 1)) fun v p1 => bnd (pSign L 32 p1) fun _ p2 => bnd (pExpr L p2) fun e p3 => bnd (pBoth L rc m blk p3) fun io p4 => .inl ((v, e, io), p4) else .inr p : PR (Nat × EX × TY m × TY m)) = .inl ((v, e, t1, t2), p') ∧ v < 8 ∧ fX7_readLoop_b G o (iN (4 - m)) (b2 blk) h = some (64 + hN h, h') ∧ QS o tp bx h h' (6 * (p' - p)) (60 * (p' - p)) ∧ RO h' o tp L p' ∧ p + 1 < p' ∧ RepN (RepT h' (65 + hN h) (64 + hN h') m) h' (64 + hN h) (64 + hN h') (3, lnAt L p, iN v, 0, e, eN, t1, t2) (64 + hN h) ∧ hR h' (64 + hN h) 8 = 0 ∧ TQ tp bx (65 + hN h) (64 + hN h') h h' (nodesT m t1 + nodesT m t2) (bitN (iN v) ||| varsE e ||| (varsT m t1 ||| varsT m t2)) (partsT m t1 ||| partsT m t2) (blksT m t1 ++ blksT m t2)) ∨
    (∃ f h', (if 1 ≤ m then bnd (pOne L 97 8 (p + 1)) fun v p1 => bnd (pSign L 32 p1) fun _ p2 => bnd (pExpr L p2) fun e p3 => bnd (pBoth L rc m blk p3) fun io p4 => .inl ((v, e, io), p4) else .inr p : PR (Nat × EX × TY m × TY m)) = .inr f ∧ p ≤ f ∧ f ≤ 160 ∧ fX7_readLoop_b G o (iN (4 - m)) (b2 blk) h = some (64 + hN h, h') ∧ QS o tp bx h h' (6 * (f - p) + 20) (60 * (f - p) + 200) ∧ RG h' o f ∧ hT h' (64 + hN h) = (5, 9)) := by
  have ho := R.2.2.2.2.2.2.2.2.1
  have htp := R.2.2.2.2.2.2.2.2.2.1
  have hbx := R.2.2.2.2.2.2.2.2.2.2.1
  have ne := R.2.2.2.2.2.2.2.2.2.2.2.1
  have hw := R.1.2.2
  have hl := r.lt R
  have hlen := R.len
  obtain ⟨l1', l2'⟩ := here_lt hc (by decide)
  obtain ⟨S0, a1, a2, a3, a4, a5, a6⟩ := nP_s z o 3 (hI h o 3) ho.2
  have W0 := VF.new z ho.2 3 (hI h o 3)
  have R0 := S0.rd R
  have r0 : RO (nP h 3 (hI h o 3)) o tp L p := ⟨by rw [a6 _ _ ho.2]; exact r.1, by rw [a6 _ _ ho.2]; exact r.2.1, by rw [a6 _ _ ho.2]; exact r.2.2.1, r.2.2.2⟩
  have nV : ∀ j, ¬ KE o tp (64 + hN h) j := ke_old R (Nat.le_refl _)
  have st : fX7_readLoop_b G o (iN (4 - m)) (b2 blk) h = (fX7_readNested o (iN (4 - m)) (nP h 3 (hI h o 3))).bind fun h10 => l1 G o (64 + hN h) (iN (4 - m)) (b2 blk) h10 := by
    unfold fX7_readLoop_b
    refine (nP_k R 3 _).trans ?_
    rw [ckO R0, Option.bind_some]; rfl
  obtain ⟨N1, N2⟩ := nest_o (d := 4 - m) R0 S0.2.1 r0 (by omega) l1' (by rw [l2']; decide)
  by_cases cm : 1 ≤ m
  · obtain ⟨h1, e1, S1, r1⟩ := N1 (by omega)
    have E1 : ES o tp h h1 (1 + 0) (9 + 0) := (S0.tr S1).es
    have W1 := W0.fg (S1.es (tp := tp)).1 nV
    have R1 := E1.rd R
    rw [e1, Option.bind_some, l1, ckO R1, Option.bind_some] at st
    rw [if_pos cm]
    rcases var_o R1 E1.2.1 r1 with ⟨k, k1, s2, g2, e2, E2, r2, m2⟩ | ⟨s2, v, g2, e2, E2, q2⟩
    · have E2' := E1.tr E2
      have W2 := W1.fg E2.1 nV
      obtain ⟨p2, W3⟩ := W2.v (iN k)
      have E3 := (es_v E2' (Nat.le_refl _) W2.2.2.2).1 2 (iN k)
      have R3 := E3.rd R
      have r3 : RO (pI g2 (64 + hN h) 2 (iN k)) o tp L (p + 2) := r2.nE _ (by omega)
      rw [e2, bd2_s, p2, Option.bind_some, l2, ckO R3, Option.bind_some] at st
      rw [s2, bnd_l]
      rcases sign_o R3 E3.2.1 r3 (c := 32) (by decide) with ⟨s4, g4, e4, S4, r4⟩ | ⟨s4, g4, e4, S4, q4⟩
      · have E4 := E3.tr (S4.es (tp := tp))
        have W4 := W3.fg (S4.es (tp := tp)).1 nV
        have R4 := E4.rd R
        rw [e4, Option.bind_some, l3, ckO R4, Option.bind_some] at st
        rw [s4, bnd_l]
        have Vl4 := W4.2.2.2
        rcases expr_o R4 E4.2.1 r4 with ⟨e, p5, g5, s5, e5, E5, r5, q5, V5, m5⟩ | ⟨f, v, g5, s5, b1, b2', e5, E5, q5⟩
        · have E6 := E4.tr E5
          have W5 := W4.fg E5.1 nV
          obtain ⟨p6, W6⟩ := W5.r 4 (64 + hN g4)
          have E7 := (es_v E6 (Nat.le_refl _) W5.2.2.2).2 4 (64 + hN g4)
          have r7 : RO (pR g5 (64 + hN h) 4 (64 + hN g4)) o tp L p5 := r5
          have n5 := E5.1.1
          rw [e5, bd2_s, p6, Option.bind_some] at st
          rw [s5, bnd_l]
          rcases kT_o (rc := rc) (blk := blk) (m := m) (d := iN (4 - m)) hG R (E7.qs (bx := bx)) (Nat.le_refl _) W6 ⟨rfl, rfl⟩ r7 hm (fun els g p1 hp1 => ih cm els g p1 (by omega)) with ⟨u1, u2, p', h', v1, v2, v3, v4, v5, v6, v7, v8, v9, rr', v10, v11⟩ | ⟨f, h', v1, v2, v3, v4, v5, v6, v7⟩
          · have n3 := v4.1
            rw [hN_pR] at n3
            rw [hN_pR] at v7 v8 v9
            obtain ⟨x1, x2, x3⟩ := es_tp E7 R
            have V6 : RepE (pR g5 (64 + hN h) 4 (64 + hN g4)) (64 + hN g4) (64 + hN g5) (64 + hN g4) e := V5.fg (P := fun x k => x = 64 + hN h) (fgR1 rfl) (Nat.le_refl _) (fun x k h1 _ q => by omega) (Nat.le_refl _) (Nat.le_refl _)
            have V7 : RepE h' (64 + hN h) (64 + hN h') (64 + hN g4) e := V6.fg v4 (by rw [hN_pR]; omega) (fun y k y1 y2 q => by
              rcases q with q | q
              · exact kp_old R (by omega) k q
              · omega) (by omega) (by omega)
            have x4 : hI (pR g5 (64 + hN h) 4 (64 + hN g4)) tp 7 = hI h tp 7 ||| (bitN (iN k) ||| varsE e) := by
              rw [hI_pR, m5, S4.tp R3, hI_pI, if_neg (by omega), m2, S1.tp R0, a6 _ _ htp.2, Int32.or_assoc]
            have K2 : TQ tp bx (65 + hN h) (64 + hN g5) h (pR g5 (64 + hN h) 4 (64 + hN g4)) 0 (bitN (iN k) ||| varsE e) 0 [] := TQ.of (by rw [x1]; exact (Int32.add_zero _).symm) x4 (by rw [x2, Int32.or_zero]) x3
            have K3 := K2.tr (lo' := 65 + hN h) (hi' := 64 + hN h') v9 v4 (by rw [hN_pR]; omega) (fun y k y1 y2 q => by
              rcases q with q | q
              · exact (kp_old R (by omega) k q).elim
              · omega) (by omega) (Nat.le_refl _) (by omega) (by omega) (Nat.le_refl _) (Nat.le_refl _)
            rw [Nat.zero_add, Int32.zero_or, List.nil_append] at K3
            refine .inl ⟨k, e, u1, u2, p', h', by rw [v1]; rfl, k1, st.trans v2, ⟨v3.1, v3.2.1, by have := v3.2.2.1; omega, by have := v3.2.2.2; omega⟩, v5, by omega, ⟨Nat.le_refl _, v10.2.2.2, v10.1, (show (3 : Nat) ≤ 7 by decide), by rw [v10.2.1]; rfl, by rw [v10.2.1]; exact r.2.1, by rw [v10.2.1]; rfl, Nat.zero_le _, by rw [v10.2.1]; rfl, fun _ => ?_, fun q => absurd q (show (3 : Nat) ≠ 2 by decide), ?_, ?_⟩, ?_, K3⟩
            · rw [v10.2.2.1, v11 4 (by decide) (by decide)]; exact V7
            · exact RepT.fg (FG.rf (fun _ _ => False) _) (Nat.le_refl _) (fun _ _ _ _ q => q) (by omega) (Nat.le_refl _) _ _ _ v7
            · exact RepT.fg (FG.rf (fun _ _ => False) _) (Nat.le_refl _) (fun _ _ _ _ q => q) (by omega) (Nat.le_refl _) _ _ _ v8
            · rw [v10.2.2.1, v11 8 (by decide) (by decide)]; rfl
          · exact .inr ⟨f, h', by rw [v1]; rfl, by omega, v3, st.trans v4, ⟨v5.1, v5.2.1, by have := v5.2.2.1; omega, by have := v5.2.2.2; omega⟩, v6, v7⟩
        · have E6 := E4.tr E5
          have W5 := W4.fg E5.1 nV
          obtain ⟨p6, W6⟩ := W5.r 4 v
          have E7 := (es_v E6 (Nat.le_refl _) W5.2.2.2).2 4 v
          rw [e5, bd2_s, p6, Option.bind_some] at st
          obtain ⟨h', j1, j2, j3, j4⟩ := kT_g (d := iN (4 - m)) (bl := b2 blk) hG R (E7.qs (bx := bx)) (Nat.le_refl _) W6.lv (show RG (pR g5 (64 + hN h) 4 v) o f from q5)
          exact .inr ⟨f, h', by rw [s5]; rfl, by omega, b2', st.trans j1, ⟨j2.1, j2.2.1, by have := j2.2.2.1; omega, by have := j2.2.2.2; omega⟩, j3, j4⟩
      · rw [e4, Option.bind_some] at st
        obtain ⟨h', j1, j2, j3, j4⟩ := l3_g (bx := bx) (d := iN (4 - m)) (bl := b2 blk) hG R (E3.tr (S4.es (tp := tp))) (Nat.le_refl _) (W3.fg (S4.es (tp := tp)).1 nV) q4
        exact .inr ⟨p + 2, h', by rw [s4]; rfl, by omega, by have := r2.2.2.2; omega, st.trans j1, ⟨j2.1, j2.2.1, by have := j2.2.2.1; omega, by have := j2.2.2.2; omega⟩, j3, j4⟩
    · have E2' := E1.tr E2
      have W2 := W1.fg E2.1 nV
      obtain ⟨p2, W3⟩ := W2.v v
      have E3 := (es_v E2' (Nat.le_refl _) W2.2.2.2).1 2 v
      rw [e2, bd2_s, p2, Option.bind_some] at st
      obtain ⟨h', j1, j2, j3, j4⟩ := l2_g (bx := bx) (d := iN (4 - m)) (bl := b2 blk) hG R E3 (Nat.le_refl _) W3 (q2.nE _ (by omega))
      exact .inr ⟨p + 1, h', by rw [s2]; rfl, by omega, by omega, st.trans j1, ⟨j2.1, j2.2.1, by have := j2.2.2.1; omega, by have := j2.2.2.2; omega⟩, j3, j4⟩
  · obtain ⟨h1, e1, S1, g1⟩ := N2 (by omega)
    have E1 : ES o tp h h1 (1 + 0) (9 + 0) := (S0.tr S1).es
    have W1 := W0.fg (S1.es (tp := tp)).1 nV
    rw [e1, Option.bind_some] at st
    rw [if_neg cm]
    obtain ⟨h', j1, j2, j3, j4⟩ := l1_g (bx := bx) (d := iN (4 - m)) (bl := b2 blk) hG R E1 (Nat.le_refl _) W1 g1
    exact .inr ⟨p, h', rfl, Nat.le_refl _, hl, st.trans j1, ⟨j2.1, j2.2.1, by have := j2.2.2.1; omega, by have := j2.2.2.2; omega⟩, j3, j4⟩

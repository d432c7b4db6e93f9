/-! the class's reader: the end of a branch or loop, branches -/
def kT (G : gG0) (o V : Nat) (d b : Int32) (h111j : hp) : Option (Nat × hp) :=
  (ckT h111j o 6).bind fun _ =>
  (fX7_expect o 125 h111j).bind fun h25 =>
  (ckT h25 o 6).bind fun _ =>
  (G.2.2.2.2.1 o V d b h25).bind fun h28 =>
  some (V, h28)
theorem kT_g {h0 h : hp} {o tp bx V a b f : Nat} {L : List Int32} {G G' : gG0} {d bl : Int32} (hG : G.2.2.2.2.1 = fX7_readBoth_b G') (R : RD h0 o tp bx L) (E : QS o tp bx h0 h a b) (hV : 64 + hN h0 ≤ V) (W : LV h V) (g : RG h o f) : ∃ h', kT G o V d bl h = some (V, h') ∧ QS o tp bx h0 h' a b ∧ RG h' o f ∧ hT h' V = (5, 9) := by
  have Rh := E.rd R
  obtain ⟨h1, e1, S1, g1⟩ := sign_g Rh E.2.1 g 125
  have R1 := S1.rd Rh
  unfold kT
  rw [ckO Rh, Option.bind_some, e1, Option.bind_some, ckO R1, Option.bind_some, hG, both_g R1 g1, Option.bind_some]
  exact ⟨h1, rfl, E.tr S1.es.qs, g1, by rw [S1.1.2.2.1 V W.2]; exact W.1⟩
/-- what was laid in a piece of V before, seen from behind -/
theorem QV.qs {o tp bx V a b c d : Nat} {h0 h h1 : hp} (x : QS o tp bx h0 h a b) (y : QV o tp bx V h h1 c d) (hV : 64 + hN h0 ≤ V) : QS o tp bx h0 h1 (a + c) (b + d) :=
  ⟨x.1.tr' y.1 fun y k hy q => by
    rcases q with q | q
    · exact q
    · omega, y.2.1, by have := x.2.2.1; have := y.2.2.1; omega, by have := x.2.2.2; have := y.2.2.2; omega⟩
theorem kT_o {h0 h : hp} {o tp bx V a b p m : Nat} {L : List Int32} {G G' : gG0} {rc : pRec} {d k ln v q : Int32} {rr : Nat → Nat} {blk : Bool} (hG : G.2.2.2.2.1 = fX7_readBoth_b G') (R : RD h0 o tp bx L) (E : QS o tp bx h0 h a b) (hV : 64 + hN h0 ≤ V) (W : VF h V k ln v q rr) (h6 : rr 6 = 0 ∧ rr 7 = 0) (r : RO h o tp L p) (hm : m ≤ 4)
    (ih : ∀ (els : Bool) (g : hp) (p1 : Nat), p ≤ p1 → RD g o tp bx L → ZH g → RO g o tp L p1 → AR L o tp bx m g p1 (rc m blk els p1) (G'.1 o (d + 1) (b2 blk) (b2 els) g)) :
    (∃ t1 t2 p' h', pBoth L rc m blk p = .inl ((t1, t2), p') ∧ kT G o V d (b2 blk) h = some (V, h') ∧ QS o tp bx h0 h' (a + 6 * (p' - p)) (b + 60 * (p' - p)) ∧ FG (fun x k => KP o tp bx x k ∨ (x = V ∧ 6 ≤ k)) h h' ∧ RO h' o tp L p' ∧ p < p' ∧ RepT h' (64 + hN h) (64 + hN h') m t1 (hR h' V 6) ∧ RepT h' (64 + hN h) (64 + hN h') m t2 (hR h' V 7) ∧ TQ tp bx (64 + hN h) (64 + hN h') h h' (nodesT m t1 + nodesT m t2) (varsT m t1 ||| varsT m t2) (partsT m t1 ||| partsT m t2) (blksT m t1 ++ blksT m t2) ∧ ∃ rr', VF h' V k ln v q rr' ∧ (∀ j, j ≠ 6 → j ≠ 7 → rr' j = rr j)) ∨
    (∃ f h', pBoth L rc m blk p = .inr f ∧ p ≤ f ∧ f ≤ 160 ∧ kT G o V d (b2 blk) h = some (V, h') ∧ QS o tp bx h0 h' (a + 6 * (f - p) + 20) (b + 60 * (f - p) + 200) ∧ RG h' o f ∧ hT h' V = (5, 9)) := by
  have ho := R.2.2.2.2.2.2.2.2.1
  have htp := R.2.2.2.2.2.2.2.2.2.1
  have hbx := R.2.2.2.2.2.2.2.2.2.2.1
  have ne := R.2.2.2.2.2.2.2.2.2.2.2.1
  have Rh := E.rd R
  have nh := E.1.1
  have hl := r.lt Rh
  have nV : ∀ j, ¬ KO o V j := fun j q => by have := q.1; omega
  unfold kT
  rw [ckO Rh, Option.bind_some, pBoth_e]
  rcases sign_o Rh E.2.1 r (c := 125) (by decide) with ⟨s1, h1, e1, S1, r1⟩ | ⟨s1, h1, e1, S1, g1⟩
  · have R1 := S1.rd Rh
    have W1 := W.fg S1.1 nV
    have i1 := S1.1.1
    have i2 := S1.2.2.1
    have i3 := S1.2.2.2
    rw [e1, Option.bind_some, ckO R1, Option.bind_some, hG, s1, bnd_l]
    rcases both_o (rc := rc) (G := G') R hV R1 S1.2.1 r1 W1 h6 hm (fun els g p1 hp1 => ih els g p1 (by omega)) with ⟨t1, t2, p', h', u1, u2, u3, u4, u5, u6, u7, u8, u9⟩ | ⟨f, h', u1, u2, u3, u4, u5, u6, u7⟩
    · have hN1 : hN h1 = hN h := by omega
      rw [hN1] at u6 u7 u8
      have u8' : TQ tp bx (64 + hN h) (64 + hN h') h h' (nodesT m t1 + nodesT m t2) (varsT m t1 ||| varsT m t2) (partsT m t1 ||| partsT m t2) (blksT m t1 ++ blksT m t2) := by
        have tpe := fun j => (S1.1.2.2.2 tp j (by omega) (fun q => ne.1 q.1.symm)).1
        have bxe := fun j => (S1.1.2.2.2 bx j (by omega) (fun q => ne.2.1 q.1.symm)).2.2
        refine ⟨by rw [← tpe 4]; exact u8.1, by rw [← tpe 7]; exact u8.2.1, by rw [← tpe 6]; exact u8.2.2.1, fun j hj => ?_⟩
        rw [← bxe j]; exact u8.2.2.2 j hj
      have Q := QV.qs (E.tr S1.es.qs) u3 hV
      refine .inl ⟨t1, t2, p', h', u1, by rw [u2, Option.bind_some], ⟨Q.1, Q.2.1, by have := Q.2.2.1; omega, by have := Q.2.2.2; omega⟩, (S1.1.up fun _ _ q => .inl (.inl q)).tr u3.1, u4, by omega, u6, u7, u8', u9⟩
    · have Q := QV.qs (E.tr S1.es.qs) u5 hV
      refine .inr ⟨f, h', u1, by omega, u3, by rw [u4, Option.bind_some], ⟨Q.1, Q.2.1, by have := Q.2.2.1; omega, by have := Q.2.2.2; omega⟩, u6, u7⟩
  · have R1 := S1.rd Rh
    have Q := E.tr S1.es.qs (tp := tp) (bx := bx)
    rw [e1, Option.bind_some, ckO R1, Option.bind_some, hG, both_g R1 g1, Option.bind_some]
    refine .inr ⟨p, h1, by rw [s1]; rfl, Nat.le_refl _, hl, rfl, ⟨Q.1, Q.2.1, by have := Q.2.2.1; omega, by have := Q.2.2.2; omega⟩, g1, by rw [S1.1.2.2.1 V W.2.2.2]; exact W.1⟩
theorem es_tp {o tp bx a b : Nat} {h h1 : hp} {L : List Int32} (x : ES o tp h h1 a b) (R : RD h o tp bx L) : hI h1 tp 4 = hI h tp 4 ∧ hI h1 tp 6 = hI h tp 6 ∧ ∀ j, hR h1 bx j = hR h bx j := by
  have htp := R.2.2.2.2.2.2.2.2.2.1
  have hbx := R.2.2.2.2.2.2.2.2.2.2.1
  have ne := R.2.2.2.2.2.2.2.2.2.2.2.1
  refine ⟨(x.1.2.2.2 tp 4 htp.2 fun q => ?_).1, (x.1.2.2.2 tp 6 htp.2 fun q => ?_).1, fun j => (x.1.2.2.2 bx j hbx.2 fun q => ?_).2.2⟩ <;> (unfold KE KO at q; omega)
theorem TQ.vars {tp bx lo hi n : Nat} {h h1 : hp} {v v' p : Int32} {bs : List (Int32 × Nat × (Σ q : Nat, TY q))} (A : TQ tp bx lo hi h h1 n v p bs) (e : v = v') : TQ tp bx lo hi h h1 n v' p bs := e ▸ A
theorem branch_o {h : hp} {o tp bx p m : Nat} {L : List Int32} {G G' : gG0} {rc : pRec} {blk : Bool} (hG : G.2.2.2.2.1 = fX7_readBoth_b G') (R : RD h o tp bx L) (z : ZH h) (r : RO h o tp L p) (hc : hereL L p = 63) (hm : m ≤ 4)
    (ih : 1 ≤ m → ∀ (els : Bool) (g : hp) (p1 : Nat), p ≤ p1 → RD g o tp bx L → ZH g → RO g o tp L p1 → AR L o tp bx m g p1 (rc m blk els p1) (G'.1 o (iN (4 - m) + 1) (b2 blk) (b2 els) g)) :
    (∃ c t1 t2 p' h', (if 1 ≤ m then bnd (pCond L (p + 1)) fun c p1 => bnd (pBoth L rc m blk p1) fun io p2 => .inl ((c, io), p2) else .inr p : PR ((Nat × EX × EX) × TY m × TY m)) = .inl ((c, t1, t2), p') ∧ fX7_readBranch_b G o (iN (4 - m)) (b2 blk) h = some (64 + hN h, h') ∧ QS o tp bx h h' (6 * (p' - p)) (60 * (p' - p)) ∧ RO h' o tp L p' ∧ p + 1 < p' ∧ RepN (RepT h' (65 + hN h) (64 + hN h') m) h' (64 + hN h) (64 + hN h') (2, lnAt L p, 0, c.1, c.2.1, c.2.2, t1, t2) (64 + hN h) ∧ hR h' (64 + hN h) 8 = 0 ∧ TQ tp bx (65 + hN h) (64 + hN h') h h' (nodesT m t1 + nodesT m t2) (varsE c.2.1 ||| varsE c.2.2 ||| (varsT m t1 ||| varsT m t2)) (partsT m t1 ||| partsT m t2) (blksT m t1 ++ blksT m t2)) ∨
    (∃ f h', (if 1 ≤ m then bnd (pCond L (p + 1)) fun c p1 => bnd (pBoth L rc m blk p1) fun io p2 => .inl ((c, io), p2) else .inr p : PR ((Nat × EX × EX) × TY m × TY m)) = .inr f ∧ p ≤ f ∧ f ≤ 160 ∧ fX7_readBranch_b G o (iN (4 - m)) (b2 blk) h = some (64 + hN h, h') ∧ QS o tp bx h h' (6 * (f - p) + 20) (60 * (f - p) + 200) ∧ RG h' o f ∧ hT h' (64 + hN h) = (5, 9)) := by
  have ho := R.2.2.2.2.2.2.2.2.1
  have htp := R.2.2.2.2.2.2.2.2.2.1
  have hbx := R.2.2.2.2.2.2.2.2.2.2.1
  have ne := R.2.2.2.2.2.2.2.2.2.2.2.1
  have hw := R.1.2.2
  have hl := r.lt R
  obtain ⟨l1, l2⟩ := here_lt hc (by decide)
  obtain ⟨S0, a1, a2, a3, a4, a5, a6⟩ := nP_s z o 2 (hI h o 3) ho.2
  have W0 := VF.new z ho.2 2 (hI h o 3)
  have R0 := S0.rd R
  have r0 : RO (nP h 2 (hI h o 3)) o tp L p := ⟨by rw [a6 _ _ ho.2]; exact r.1, by rw [a6 _ _ ho.2]; exact r.2.1, by rw [a6 _ _ ho.2]; exact r.2.2.1, r.2.2.2⟩
  have nV : ∀ j, ¬ KE o tp (64 + hN h) j := ke_old R (Nat.le_refl _)
  have st : fX7_readBranch_b G o (iN (4 - m)) (b2 blk) h = (fX7_readNested o (iN (4 - m)) (nP h 2 (hI h o 3))).bind fun h10 => c86 o (64 + hN h) (kT G o (64 + hN h) (iN (4 - m)) (b2 blk)) h10 := by
    unfold fX7_readBranch_b
    refine (nP_k R 2 _).trans ?_
    rw [ckO R0, Option.bind_some]; rfl
  obtain ⟨N1, N2⟩ := nest_o (d := 4 - m) R0 S0.2.1 r0 (by omega) l1 (by rw [l2]; decide)
  by_cases cm : 1 ≤ m
  · obtain ⟨h1, e1, S1, r1⟩ := N1 (by omega)
    have E1 : ES o tp h h1 (1 + 0) (9 + 0) := (S0.tr S1).es
    have W1 := W0.fg (S1.es (tp := tp)).1 nV
    have R1 := E1.rd R
    have i1 := S1.1.1
    rw [a2] at i1
    have i2 := S1.2.2.1
    rw [a2] at i2
    rw [e1, Option.bind_some] at st
    rw [if_pos cm]
    rcases c86_o (kT G o (64 + hN h) (iN (4 - m)) (b2 blk)) R E1 (Nat.le_refl _) W1 r1 with ⟨s', e1', e2', p2, h2, rr, t1, t2, t3, t4, t5, t6, t7, t8, t9, t10, t11⟩ | ⟨f, h2, t1, t2, t3, t4, t5, t6, t7⟩
    · rw [t1, bnd_l]
      have Q2 := t3.qs (bx := bx)
      rcases kT_o (rc := rc) (blk := blk) (m := m) (d := iN (4 - m)) hG R Q2 (Nat.le_refl _) t7 ⟨t8.1, t8.2.1⟩ t4 hm (fun els g p1 hp1 => ih cm els g p1 (by omega)) with ⟨u1, u2, p', h', v1, v2, v3, v4, v5, v6, v7, v8, v9, rr', v10, v11⟩ | ⟨f, h', v1, v2, v3, v4, v5, v6, v7⟩
      · have n2 : hN h1 ≤ hN h2 := by
          have q := t3.1.1
          -- h2 lies behind h1: V's object was laid before
          have := t7.2.2.2
          omega
        have n3 := v4.1
        have RepE' : ∀ x e, RepE h2 (64 + hN h + 1) (64 + hN h2) x e → RepE h' (64 + hN h) (64 + hN h') x e := fun x e E' => E'.fg v4 (Nat.le_refl _) (fun y k y1 y2 q => by
          rcases q with q | q
          · exact kp_old R (by omega) k q
          · omega) (by omega) (by omega)
        obtain ⟨x1, x2, x3⟩ := es_tp t3 R
        have x4 : hI h2 tp 7 = hI h tp 7 ||| (varsE e1' ||| varsE e2') := by
          rw [t11, Int32.or_assoc, S1.tp R0, a6 _ _ htp.2]
        have K2 : TQ tp bx (65 + hN h) (64 + hN h2) h h2 0 (varsE e1' ||| varsE e2') 0 [] := TQ.of (by rw [x1]; exact (Int32.add_zero _).symm) x4 (by rw [x2, Int32.or_zero]) x3
        have K3 := K2.tr (lo' := 65 + hN h) (hi' := 64 + hN h') v9 v4 (Nat.le_refl _) (fun y k y1 y2 q => by
          rcases q with q | q
          · exact (kp_old R (by omega) k q).elim
          · omega) (by omega) (Nat.le_refl _) (by omega) (by have := t7.2.2.2; omega) (Nat.le_refl _) (Nat.le_refl _)
        rw [Nat.zero_add, Int32.zero_or, List.nil_append] at K3
        refine .inl ⟨(s', e1', e2'), u1, u2, p', h', by rw [v1]; rfl, st.trans (t2.trans v2), ⟨v3.1, v3.2.1, by have := v3.2.2.1; omega, by have := v3.2.2.2; omega⟩, v5, by omega, ⟨Nat.le_refl _, v10.2.2.2, v10.1, (show (2 : Nat) ≤ 7 by decide), by rw [v10.2.1]; rfl, by rw [v10.2.1]; exact r.2.1, by rw [v10.2.1]; rfl, t6, by rw [v10.2.1]; rfl, fun _ => ?_, fun _ h2 => ?_, ?_, ?_⟩, ?_, K3⟩
        · rw [v10.2.2.1, v11 4 (by decide) (by decide)]; exact RepE' _ _ t9
        · rw [v10.2.2.1, v11 5 (by decide) (by decide)]; exact RepE' _ _ (t10 h2)
        · exact RepT.fg (FG.rf (fun _ _ => False) _) (Nat.le_refl _) (fun _ _ _ _ q => q) (by have := t7.2.2.2; omega) (Nat.le_refl _) _ _ _ v7
        · exact RepT.fg (FG.rf (fun _ _ => False) _) (Nat.le_refl _) (fun _ _ _ _ q => q) (by have := t7.2.2.2; omega) (Nat.le_refl _) _ _ _ v8
        · rw [v10.2.2.1, v11 8 (by decide) (by decide)]; exact t8.2.2
      · exact .inr ⟨f, h', by rw [v1]; rfl, by omega, v3, st.trans (t2.trans v4), ⟨v5.1, v5.2.1, by have := v5.2.2.1; omega, by have := v5.2.2.2; omega⟩, v6, v7⟩
    · obtain ⟨h', j1, j2, j3, j4⟩ := kT_g (d := iN (4 - m)) (bl := b2 blk) hG R (t5.qs (bx := bx)) (Nat.le_refl _) t7 t6
      exact .inr ⟨f, h', by rw [t1]; rfl, by omega, t3, st.trans (t4.trans j1), ⟨j2.1, j2.2.1, by have := j2.2.2.1; omega, by have := j2.2.2.2; omega⟩, j3, j4⟩
  · obtain ⟨h1, e1, S1, g1⟩ := N2 (by omega)
    have E1 : ES o tp h h1 (1 + 0) (9 + 0) := (S0.tr S1).es
    have W1 := W0.fg (S1.es (tp := tp)).1 nV
    rw [e1, Option.bind_some] at st
    rw [if_neg cm]
    obtain ⟨h2, t1, t2, t3, t4⟩ := c86_g (kT G o (64 + hN h) (iN (4 - m)) (b2 blk)) R E1 (Nat.le_refl _) W1 g1
    obtain ⟨h', j1, j2, j3, j4⟩ := kT_g (d := iN (4 - m)) (bl := b2 blk) hG R (t2.qs (bx := bx)) (Nat.le_refl _) t4 t3
    exact .inr ⟨p, h', rfl, Nat.le_refl _, hl, st.trans (t1.trans j1), ⟨j2.1, j2.2.1, by have := j2.2.2.1; omega, by have := j2.2.2.2; omega⟩, j3, j4⟩

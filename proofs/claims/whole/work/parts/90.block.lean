/-! the class's reader: blocks -/
theorem asR_e {h : hp} {j a n k x : Nat} (t : hT h a = (100 + j, n)) (hk : k < n) (hn : n ≤ 20000) (hx : x = 0 ∨ (hT h x).1 = g_cp j) : asR j h a (iN k) x = some (pR h a k x) := by
  unfold asR
  rw [t, i_toInt (by omega), i_clamp (by omega), if_pos ⟨rfl, by omega, by omega, hx⟩]
theorem addB {h : hp} {o tp bx V b : Nat} {L : List Int32} (R : RD h o tp bx L) (z : ZH h) (hb : b < 4) (tV : hT h V = (5, 9)) : fX10_addBlock tp (iN b) V h = some (if hR h bx b = 0 then pR h bx b V else h) := by
  have c : 0 ≤ (iN b).toInt ∧ (iN b).toInt < ((4 : Nat) : Int) := by rw [i_toInt (by omega)]; omega
  have tb := R.2.2.2.2.2.2.1
  have e1 : alR 3 h bx (iN b) = some (hR h bx b) := alR_e tb hb (by decide)
  have e2 : asR 3 h bx (iN b) V = some (pR h bx b V) := asR_e tb hb (by decide) (.inr (by rw [tV]; rfl))
  have e3 : gfR h tp 9 1 = some bx := by unfold gfR; rw [R.2.2.2.2.1, if_pos rfl, R.2.2.2.2.2.1]
  unfold fX10_addBlock
  rw [show fX13_among (iN b) 4 h = _ from am_e (iN b) 4 (by decide) h, bd2_s, if_pos c, if_neg z10, e3, Option.bind_some, e1, Option.bind_some]
  by_cases q : hR h bx b = 0
  · rw [if_pos q, if_pos q, Option.bind_some, e2, Option.bind_some]
  · rw [if_neg q, if_neg q]
def kB (G : gG0) (o V : Nat) (d : Int32) (h19 : hp) : Option (Nat × hp) :=
  (gfI h19 o 6 4).bind fun v21 =>
  if v21 < 0 then (
    (gfR h19 o 6 1).bind fun v23 =>
    (gfI h19 V 5 2).bind fun v25 =>
    (ckT h19 v23 9).bind fun _ =>
    (fX10_addBlock v23 v25 V h19).bind fun h28 =>
    (ckT h28 o 6).bind fun _ =>
    bd2 (G.1 o (d + 1) 1 0 h28) fun v31 h32 =>
    (pfR h32 V 5 6 v31).bind fun h34 =>
    some (V, h34)
  ) else (
    some (V, h19)
  )
theorem kB_g {h : hp} {o tp bx V f : Nat} {L : List Int32} {G : gG0} {d : Int32} (R : RD h o tp bx L) (g : RG h o f) : kB G o V d h = some (V, h) := by
  unfold kB
  have n : ¬ (hI h o 4 < 0) := by rw [i_nlt]; exact g.le
  rw [gO R, Option.bind_some, if_neg n]
theorem fB_hd (b : Nat) (x : Nat × (Σ q : Nat, TY q)) (bs : List (Int32 × Nat × (Σ q : Nat, TY q))) (j : Nat) (hb : b < 4) (hj : j < 4) : fB ((iN b, x) :: bs) j = if j = b then some (iN b, x) else fB bs j := by
  unfold fB
  rw [List.find?_cons]
  by_cases c : j = b
  · subst c
    rw [if_pos rfl, decide_eq_true rfl]
  · have : ¬ (iN b = iN j) := by rw [i_eq (by omega) (by omega)]; omega
    rw [if_neg c, decide_eq_false this]
theorem block_o {h : hp} {o tp bx p m : Nat} {L : List Int32} {G : gG0} {rc : pRec} (R : RD h o tp bx L) (z : ZH h) (r : RO h o tp L p) (hc : hereL L p = 61) (hm : m ≤ 4)
    (ih : 1 ≤ m → ∀ (g : hp) (p1 : Nat), p ≤ p1 → RD g o tp bx L → ZH g → RO g o tp L p1 → AR L o tp bx m g p1 (rc m true false p1) (G.1 o (iN (4 - m) + 1) 1 0 g)) :
    (∃ b t p' h', (if 1 ≤ m then bnd (pOne L 65 4 (p + 1)) fun b p1 => bnd (pSign L 125 p1) fun _ p2 => bnd (rc m true false p2) fun t p3 => .inl ((b, t.1), p3) else .inr p : PR (Nat × TY m)) = .inl ((b, t), p') ∧ b < 4 ∧ fX7_readBlock_b G o (iN (4 - m)) h = some (64 + hN h, h') ∧ QS o tp bx h h' (6 * (p' - p)) (60 * (p' - p)) ∧ RO h' o tp L p' ∧ p + 1 < p' ∧ RepN (RepT h' (65 + hN h) (64 + hN h') m) h' (64 + hN h) (64 + hN h') (4, lnAt L p, iN b, 0, eN, eN, t, tyN m) (64 + hN h) ∧ hR h' (64 + hN h) 8 = 0 ∧ TQ tp bx (64 + hN h) (64 + hN h') h h' (nodesT m t) (varsT m t) (partsT m t) ((iN b, lnAt L p, ⟨m, t⟩) :: blksT m t)) ∨
    (∃ f h', (if 1 ≤ m then bnd (pOne L 65 4 (p + 1)) fun b p1 => bnd (pSign L 125 p1) fun _ p2 => bnd (rc m true false p2) fun t p3 => .inl ((b, t.1), p3) else .inr p : PR (Nat × TY m)) = .inr f ∧ p ≤ f ∧ f ≤ 160 ∧ fX7_readBlock_b G o (iN (4 - m)) h = some (64 + hN h, h') ∧ QS o tp bx h h' (6 * (f - p) + 20) (60 * (f - p) + 200) ∧ RG h' o f ∧ hT h' (64 + hN h) = (5, 9)) := by
  have ho := R.2.2.2.2.2.2.2.2.1
  have htp := R.2.2.2.2.2.2.2.2.2.1
  have hbx := R.2.2.2.2.2.2.2.2.2.2.1
  have ne := R.2.2.2.2.2.2.2.2.2.2.2.1
  have hw := R.1.2.2
  have hl := r.lt R
  have hlen := R.len
  obtain ⟨l1', l2'⟩ := here_lt hc (by decide)
  obtain ⟨S0, a1, a2, a3, a4, a5, a6⟩ := nP_s z o 4 (hI h o 3) ho.2
  have W0 := VF.new z ho.2 4 (hI h o 3)
  have R0 := S0.rd R
  have r0 : RO (nP h 4 (hI h o 3)) o tp L p := ⟨by rw [a6 _ _ ho.2]; exact r.1, by rw [a6 _ _ ho.2]; exact r.2.1, by rw [a6 _ _ ho.2]; exact r.2.2.1, r.2.2.2⟩
  have nV : ∀ j, ¬ KO o (64 + hN h) j := fun j q => by have := q.1; omega
  have st : fX7_readBlock_b G o (iN (4 - m)) h = (fX7_readNested o (iN (4 - m)) (nP h 4 (hI h o 3))).bind fun h10 => (ckT h10 o 6).bind fun _ => bd2 (fX7_readOneOf o 65 4 h10) fun v13 h14 => (pfI h14 (64 + hN h) 5 2 v13).bind fun h16 => (ckT h16 o 6).bind fun _ => (fX7_expect o 125 h16).bind fun h19 => kB G o (64 + hN h) (iN (4 - m)) h19 := by
    unfold fX7_readBlock_b
    refine (nP_k R 4 _).trans ?_
    rw [ckO R0, Option.bind_some]; rfl
  -- the end with a fault told
  have bad : ∀ (f a b : Nat) (vv : Int32) (g : hp), SS o h g a b → RG g o f → VF g (64 + hN h) 4 (hI h o 3) vv 0 (fun _ => 0) → ∃ h', ((ckT g o 6).bind fun _ => (fX7_expect o 125 g).bind fun h19 => kB G o (64 + hN h) (iN (4 - m)) h19) = some (64 + hN h, h') ∧ SS o h h' a b ∧ RG h' o f ∧ hT h' (64 + hN h) = (5, 9) := by
    intro f a b vv g S q W
    obtain ⟨h', e, S', q'⟩ := sign_g (S.rd R) S.2.1 q 125
    rw [ckO (S.rd R), Option.bind_some, e, Option.bind_some, kB_g ((S.tr S').rd R) q']
    exact ⟨h', rfl, S.tr S', q', (W.fg S'.1 nV).1⟩
  have sv : ∀ (v : Int32) (a b : Nat) (g : hp), SS o h g a b → VF g (64 + hN h) 4 (hI h o 3) 0 0 (fun _ => 0) → SS o h (pI g (64 + hN h) 2 v) a b := fun v a b g S W => ⟨fgIn S.1 2 v (Nat.le_refl _), S.2.1.pI 2 v W.2.2.2, S.2.2.1, S.2.2.2⟩
  obtain ⟨N1, N2⟩ := nest_o (d := 4 - m) R0 S0.2.1 r0 (by omega) l1' (by rw [l2']; decide)
  by_cases cm : 1 ≤ m
  · obtain ⟨h1, e1, S1, r1⟩ := N1 (by omega)
    have E1 := S0.tr S1
    have W1 := W0.fg S1.1 nV
    have R1 := E1.rd R
    rw [e1, Option.bind_some, ckO R1, Option.bind_some] at st
    rw [if_pos cm]
    rcases one_o R1 E1.2.1 r1 (lo := 65) (n := 4) (by decide) (by decide) with ⟨k, k1, s2, g2, e2, S2, r2⟩ | ⟨s2, g2, e2, S2, q2⟩
    · have E2 := E1.tr S2
      have W2 := W1.fg S2.1 nV
      obtain ⟨p2, W3⟩ := W2.v (iN k)
      have E3 := sv (iN k) _ _ _ E2 W2
      have R3 := E3.rd R
      have r3 : RO (pI g2 (64 + hN h) 2 (iN k)) o tp L (p + 2) := r2.nE _ (by omega)
      rw [show fX7_readOneOf o 65 4 h1 = _ from e2, bd2_s, p2, Option.bind_some] at st
      rw [s2, bnd_l]
      rcases sign_o R3 E3.2.1 r3 (c := 125) (by decide) with ⟨s4, g4, e4, S4, r4⟩ | ⟨s4, g4, e4, S4, q4⟩
      · have E4 := E3.tr S4
        have W4 := W3.fg S4.1 nV
        have R4 := E4.rd R
        have Vl := W4.2.2.2
        have gV : gfI g4 (64 + hN h) 5 2 = some (iN k) := by
          unfold gfI
          rw [W4.1, if_pos rfl, W4.2.1 2, if_neg (by decide), if_neg (by decide), if_pos rfl]
        have ck9 : ckT g4 tp 9 = some () := by unfold ckT; rw [R4.2.2.2.2.1]; rfl
        rw [ckO R3, Option.bind_some, e4, Option.bind_some, kB, gO R4, Option.bind_some, r4.2.2.1, if_pos (show (-1 : Int32) < 0 by decide), gOR R4, Option.bind_some, R4.2.2.2.1, gV, Option.bind_some, ck9, Option.bind_some, addB R4 E4.2.1 k1 W4.1, Option.bind_some] at st
        rw [s4, bnd_l]
        -- the list of blocks behind it
        obtain ⟨g5, hg5⟩ : ∃ g5, g5 = (if hR g4 bx k = 0 then pR g4 bx k (64 + hN h) else g4) := ⟨_, rfl⟩
        rw [← hg5] at st
        have Q5 : QS o tp bx g4 g5 0 0 := by
          rw [hg5]
          by_cases c : hR g4 bx k = 0
          · rw [if_pos c]; exact ⟨fgR1 (.inr (.inr rfl)), E4.2.1.pR k _ (by omega), Nat.le_refl _, Nat.le_refl _⟩
          · rw [if_neg c]; exact ⟨FG.rf _ _, E4.2.1, Nat.le_refl _, Nat.le_refl _⟩
        have iR5 : ∀ x j, hI g5 x j = hI g4 x j := fun x j => by
          rw [hg5]
          by_cases c : hR g4 bx k = 0
          · rw [if_pos c]; rfl
          · rw [if_neg c]
        have bR5 : ∀ j, hR g5 bx j = if j = k ∧ hR g4 bx k = 0 then 64 + hN h else hR g4 bx j := fun j => by
          rw [hg5]
          by_cases c : hR g4 bx k = 0
          · rw [if_pos c, hR_pR]
            by_cases c2 : j = k
            · rw [if_pos ⟨rfl, c2⟩, if_pos ⟨c2, c⟩]
            · rw [if_neg (fun q => c2 q.2), if_neg (fun q => c2 q.1)]
          · rw [if_neg c, if_neg (fun q => c q.2)]
        have n5 : hN g5 = hN g4 := by rw [hg5]; by_cases c : hR g4 bx k = 0 <;> simp only [c, if_true, if_false] <;> rfl
        have R5 := Q5.rd R4
        have nK : ∀ j, ¬ KP o tp bx (64 + hN h) j := kp_old R (Nat.le_refl _)
        have W5 := W4.fg Q5.1 nK
        have r5 : RO g5 o tp L (p + 3) := ⟨by rw [iR5]; exact r4.1, by rw [iR5]; exact r4.2.1, by rw [iR5]; exact r4.2.2.1, r4.2.2.2⟩
        have Q05 : QS o tp bx h g5 _ _ := E4.es.qs.tr Q5
        -- what the template had so far
        have old4 : ∀ j, j = 4 ∨ j = 6 ∨ j = 7 → hI g5 tp j = hI h tp j := fun j hj => by
          rw [iR5]; exact (E4.1.2.2.2 tp j htp.2 (fun q => ne.1 q.1.symm)).1
        have oldB : ∀ j, hR g4 bx j = hR h bx j := fun j => (E4.1.2.2.2 bx j hbx.2 (fun q => ne.2.1 q.1.symm)).2.2
        rw [ckO R5, Option.bind_some] at st
        rcases ih cm g5 (p + 3) (by omega) R5 Q5.2.1 r5 with ⟨t, tn, p', h6, v6, s6, e6, Q6, r6, q6, T6, n6, K6⟩ | ⟨f, h6, v6, s6, b1, b2', e6, Q6, g6⟩
        · have W6 := W5.fg Q6.1 nK
          obtain ⟨pf, W7⟩ := W6.r 6 v6
          have i6 := Q6.1.1
          rw [e6, bd2_s, pf, Option.bind_some] at st
          have Q07 := QV.qs Q05 ((Q6.qv (V := 64 + hN h)).pR W6.2.2.2 (k := 6) (Nat.le_refl _) v6) (Nat.le_refl _)
          have T7 : RepT (pR h6 (64 + hN h) 6 v6) (65 + hN h) (64 + hN h6) m t v6 := RepT.fg (P := fun x _ => x = 64 + hN h) (fgR1 rfl) (Nat.le_refl _) (fun x k a b c => by omega) (by omega) (Nat.le_refl _) _ _ _ T6
          have K7 : TQ tp bx (64 + hN g5) (64 + hN h6) g5 (pR h6 (64 + hN h) 6 v6) (nodesT m t) (varsT m t) (partsT m t) (blksT m t) := K6.fr (P := fun x _ => x = 64 + hN h) (fgR1 rfl) (Nat.le_refl _) (fun y k a b c => by omega) (by omega) (by omega) (fun k c => by omega) (by omega) (fun k c => by omega)
          have m6 : hR (pR h6 (64 + hN h) 6 v6) (64 + hN h) 6 = v6 := by rw [hR_pR, if_pos ⟨rfl, rfl⟩]
          refine .inl ⟨k, t, p', _, by rw [s6]; rfl, k1, st, ⟨Q07.1, Q07.2.1, by have := Q07.2.2.1; omega, by have := Q07.2.2.2; omega⟩, r6, by omega, ⟨Nat.le_refl _, W7.2.2.2, W7.1, (show (4 : Nat) ≤ 7 by decide), by rw [W7.2.1]; rfl, by rw [W7.2.1]; exact r.2.1, by rw [W7.2.1]; rfl, Nat.zero_le _, by rw [W7.2.1]; rfl, fun q => ?_, fun q => absurd q (show (4 : Nat) ≠ 2 by decide), ?_, ?_⟩, ?_, ⟨?_, ?_, ?_, fun j hj => ⟨fun c => ?_, fun c => ?_⟩⟩⟩
          · have q' : (4 : Nat) = 1 ∨ (4 : Nat) = 2 ∨ (4 : Nat) = 3 ∨ (4 : Nat) = 7 := q
            omega
          · rw [m6, hN_pR]; exact T7
          · rw [W7.2.2.1]; exact RepT.nil _ _ _ m
          · rw [W7.2.2.1]; rfl
          · rw [← old4 4 (.inl rfl)]; exact K7.1
          · rw [← old4 7 (.inr (.inr rfl))]; exact K7.2.1
          · rw [← old4 6 (.inr (.inl rfl))]; exact K7.2.2.1
          · have c4 : hR g4 bx j ≠ 0 := by rw [oldB]; exact c
            have c5 : hR g5 bx j = hR h bx j := by
              rw [bR5, if_neg (fun q => c4 (by rw [q.1]; exact q.2)), oldB]
            rw [(K7.2.2.2 j hj).1 (by rw [c5]; exact c), c5]
          · rw [fB_hd _ _ _ _ k1 hj]
            by_cases ck : j = k
            · have c5 : hR g5 bx j = 64 + hN h := by rw [bR5, if_pos ⟨ck, by rw [oldB, ← ck]; exact c⟩]
              rw [if_pos ck, (K7.2.2.2 j hj).1 (by rw [c5]; omega), c5]
              refine ⟨Nat.le_refl _, by rw [hN_pR]; omega, W7.1, ?_⟩
              rw [m6, hN_pR]
              exact RepT.fg (FG.rf (fun _ _ => False) _) (by rw [hN_pR]; omega) (fun _ _ _ _ q => q) (by omega) (Nat.le_refl _) _ _ _ T7
            · have c5 : hR g5 bx j = 0 := by rw [bR5, if_neg (fun q => ck q.1), oldB]; exact c
              rw [if_neg ck]
              exact ((K7.2.2.2 j hj).2 c5).fg (FG.rf (fun _ _ => False) _) (by rw [hN_pR]; omega) (fun _ _ _ _ q => q.elim) (by omega) (by rw [hN_pR]; omega)
        · have W6 := W5.fg Q6.1 nK
          obtain ⟨pf, W7⟩ := W6.r 6 v6
          rw [e6, bd2_s, pf, Option.bind_some] at st
          have Q07 := QV.qs Q05 ((Q6.qv (V := 64 + hN h)).pR W6.2.2.2 (k := 6) (Nat.le_refl _) v6) (Nat.le_refl _)
          exact .inr ⟨f, _, by rw [s6]; rfl, by omega, b2', st, ⟨Q07.1, Q07.2.1, by have := Q07.2.2.1; omega, by have := Q07.2.2.2; omega⟩, g6, W7.1⟩
      · have R4 := (E3.tr S4).rd R
        rw [ckO R3, Option.bind_some, e4, Option.bind_some, kB_g R4 q4] at st
        have Q := (E3.tr S4).es.qs (tp := tp) (bx := bx)
        exact .inr ⟨p + 2, g4, by rw [s4]; rfl, by omega, by have := r2.2.2.2; omega, st, ⟨Q.1, Q.2.1, by have := Q.2.2.1; omega, by have := Q.2.2.2; omega⟩, q4, (W3.fg S4.1 nV).1⟩
    · have E2 := E1.tr S2
      have W2 := W1.fg S2.1 nV
      obtain ⟨p2, W3⟩ := W2.v 0
      have E3 := sv 0 _ _ _ E2 W2
      rw [show fX7_readOneOf o 65 4 h1 = _ from e2, bd2_s, p2, Option.bind_some] at st
      obtain ⟨h', j1, j2, j3, j4⟩ := bad (p + 1) _ _ 0 _ E3 (q2.nE _ (by omega)) W3
      have Q := j2.es.qs (tp := tp) (bx := bx)
      exact .inr ⟨p + 1, h', by rw [s2]; rfl, by omega, by omega, st.trans j1, ⟨Q.1, Q.2.1, by have := Q.2.2.1; omega, by have := Q.2.2.2; omega⟩, j3, j4⟩
  · obtain ⟨h1, e1, S1, g1⟩ := N2 (by omega)
    have E1 := S0.tr S1
    have W1 := W0.fg S1.1 nV
    have R1 := E1.rd R
    rw [e1, Option.bind_some, ckO R1, Option.bind_some] at st
    rw [if_neg cm]
    obtain ⟨v, g2, e2, S2, q2⟩ := one_g R1 E1.2.1 g1 65 4
    have E2 := E1.tr S2
    have W2 := W1.fg S2.1 nV
    obtain ⟨p2, W3⟩ := W2.v v
    have E3 := sv v _ _ _ E2 W2
    rw [e2, bd2_s, p2, Option.bind_some] at st
    obtain ⟨h', j1, j2, j3, j4⟩ := bad p _ _ v _ E3 (q2.nE _ (by omega)) W3
    have Q := j2.es.qs (tp := tp) (bx := bx)
    exact .inr ⟨p, h', rfl, Nat.le_refl _, hl, st.trans j1, ⟨Q.1, Q.2.1, by have := Q.2.2.1; omega, by have := Q.2.2.2; omega⟩, j3, j4⟩

/-! the class's reader: one piece, whichever it is -/
def nodesP (m : Nat) (pc : PD (TY m)) : Nat := if pc.1 = 0 then 0 else 1 + nodesT m pc.2.2.2.2.2.2.1 + nodesT m pc.2.2.2.2.2.2.2
def varsP (m : Nat) (pc : PD (TY m)) : Int32 := (if pc.1 = 3 ∨ pc.1 = 7 then bitN pc.2.2.1 else 0) ||| varsE pc.2.2.2.2.1 ||| varsE pc.2.2.2.2.2.1 ||| varsT m pc.2.2.2.2.2.2.1 ||| varsT m pc.2.2.2.2.2.2.2
def partsP (m : Nat) (pc : PD (TY m)) : Int32 := (if pc.1 = 6 then bitN pc.2.2.1 else 0) ||| partsT m pc.2.2.2.2.2.2.1 ||| partsT m pc.2.2.2.2.2.2.2
def blksP (m : Nat) (pc : PD (TY m)) : List (Int32 × Nat × (Σ q : Nat, TY q)) := (if pc.1 = 4 then [(pc.2.2.1, pc.2.1, ⟨m, pc.2.2.2.2.2.2.1⟩)] else []) ++ blksT m pc.2.2.2.2.2.2.1 ++ blksT m pc.2.2.2.2.2.2.2
theorem nodes_c (m : Nat) (pc : PD (TY m)) (t : List (PD (TY m))) : nodesT (m + 1) (pc :: t) = nodesP m pc + nodesT (m + 1) t := rfl
theorem vars_c (m : Nat) (pc : PD (TY m)) (t : List (PD (TY m))) : varsT (m + 1) (pc :: t) = (varsP m pc ||| varsT (m + 1) t) := rfl
theorem parts_c (m : Nat) (pc : PD (TY m)) (t : List (PD (TY m))) : partsT (m + 1) (pc :: t) = (partsP m pc ||| partsT (m + 1) t) := rfl
theorem blks_c (m : Nat) (pc : PD (TY m)) (t : List (PD (TY m))) : blksT (m + 1) (pc :: t) = blksP m pc ++ blksT (m + 1) t := rfl
theorem eN_vars : varsE eN = 0 := rfl
def mp {α β : Type} (x : PR α) (g : α → β) : PR β := bnd x fun a p => .inl (g a, p)
theorem mp_l {α β : Type} (a : α) (p : Nat) (g : α → β) : mp (.inl (a, p)) g = .inl (g a, p) := rfl
theorem mp_r {α β : Type} (q : Nat) (g : α → β) : mp (.inr q : PR α) g = .inr q := rfl
theorem bnd_bnd {α β γ : Type} (x : PR α) (f : α → Nat → PR β) (g : β → Nat → PR γ) : bnd (bnd x f) g = bnd x fun a p => bnd (f a p) g := by cases x <;> rfl
theorem TQ.up {tp bx lo hi lo' hi' n : Nat} {h h0 h1 : hp} {v p : Int32} {bs : List (Int32 × Nat × (Σ q : Nat, TY q))} (A : TQ tp bx lo hi h0 h1 n v p bs) (hh : hi ≤ 64 + hN h1) (l1 : lo' ≤ lo) (l2 : hi ≤ hi') (e4 : hI h0 tp 4 = hI h tp 4 + 1) (e6 : hI h0 tp 6 = hI h tp 6) (e7 : hI h0 tp 7 = hI h tp 7) (eb : ∀ j, hR h0 bx j = hR h bx j) {n' : Nat} {v' p' : Int32} {bs' : List (Int32 × Nat × (Σ q : Nat, TY q))} (hn : 1 + n = n') (hv : v = v') (hp1 : p = p') (hbs : bs = bs') : TQ tp bx lo' hi' h h1 n' v' p' bs' := by
  subst hn hv hp1 hbs
  obtain ⟨b1, b2', b3, b4⟩ := A.wd hh l1 l2
  refine ⟨by rw [b1, e4, Int32.add_assoc]; exact congrArg _ (i_add 1 n), by rw [b2', e7], by rw [b3, e6], fun j hj => ?_⟩
  rw [← eb j]; exact b4 j hj
theorem piece_o {h : hp} {o tp bx p m n : Nat} {L : List Int32} {rc : pRec} {blk : Bool} (R : RD h o tp bx L) (z : ZH h) (r : RO h o tp L p) (hp1 : p < L.length) (hm : m ≤ 4)
    (ih : 1 ≤ m → ∀ (k : Nat) (bl els : Bool) (g : hp) (p1 : Nat), n ≤ k → p < p1 → RD g o tp bx L → ZH g → RO g o tp L p1 → AR L o tp bx m g p1 (rc m bl els p1) ((G0 (k + 1)).1 o (iN (4 - m) + 1) (b2 bl) (b2 els) g)) :
    (∃ pc p' h', pPiece L rc m blk p = .inl (pc, p') ∧ fX7_readPiece_b (G0 (n + 3)) o (iN (4 - m)) (b2 blk) h = some (64 + hN h, h') ∧ QS o tp bx h h' (6 * (p' - p)) (60 * (p' - p)) ∧ RO h' o tp L p' ∧ p < p' ∧ RepN (RepT h' (65 + hN h) (64 + hN h') m) h' (64 + hN h) (64 + hN h') pc (64 + hN h) ∧ hR h' (64 + hN h) 8 = 0 ∧ TQ tp bx (64 + hN h) (64 + hN h') h h' (nodesP m pc) (varsP m pc) (partsP m pc) (blksP m pc)) ∨
    (∃ f h', pPiece L rc m blk p = .inr f ∧ p ≤ f ∧ f ≤ 160 ∧ fX7_readPiece_b (G0 (n + 3)) o (iN (4 - m)) (b2 blk) h = some (64 + hN h, h') ∧ QS o tp bx h h' (6 * (f - p) + 20) (60 * (f - p) + 200) ∧ RG h' o f) := by
  have ho := R.2.2.2.2.2.2.2.2.1
  have htp := R.2.2.2.2.2.2.2.2.2.1
  have hbx := R.2.2.2.2.2.2.2.2.2.2.1
  have ne := R.2.2.2.2.2.2.2.2.2.2.2.1
  have hw := R.1.2.2
  have hl := r.lt R
  have sub0 : ∀ (g : hp) (lo hi : Nat), (fun (g : hp) lo hi (t : TY m) v => RepT g (lo + 1) hi m t v) g lo hi (tyN m) 0 := fun g lo hi => RepT.nil _ _ _ m
  have st : fX7_readPiece_b (G0 (n + 3)) o (iN (4 - m)) (b2 blk) h = fX7_readPiece_b (G0 (n + 3)) o (iN (4 - m)) (b2 blk) h := rfl
  conv at st => rhs; unfold fX7_readPiece_b
  rw [ckO R, Option.bind_some, peek_p R (by omega) r.1, bd2_s] at st
  unfold pPiece
  by_cases c : hereL L p = 123
  · obtain ⟨l1', l2'⟩ := here_lt c (by decide)
    have S1 := SS.pO R z (k := 2) (iN (p + 1)) (by decide)
    have R1 := S1.rd R
    have r1 := r.step l1' (by rw [l2']; decide)
    have e4 : hI (pI h o 2 (iN (p + 1))) tp 4 = hI h tp 4 := S1.tp R 4
    have Q2 : QS o tp bx h (pI (pI h o 2 (iN (p + 1))) tp 4 (hI h tp 4 + 1)) 0 0 := ⟨S1.es.qs.1.tr (FG.pI (.inr (.inl ⟨rfl, .inl rfl⟩))), S1.2.1.pI 4 _ (by rw [hN_pI]; omega), Nat.le_refl _, Nat.le_refl _⟩
    have r2 : RO (pI (pI h o 2 (iN (p + 1))) tp 4 (hI h tp 4 + 1)) o tp L (p + 1) := r1.nE _ (by omega)
    obtain ⟨h2, hh2⟩ : ∃ h2, h2 = pI (pI h o 2 (iN (p + 1))) tp 4 (hI h tp 4 + 1) := ⟨_, rfl⟩
    have n2 : hN h2 = hN h := by rw [hh2]; rfl
    have q4 : hI h2 tp 4 = hI h tp 4 + 1 := by rw [hh2, hI_pI, if_pos ⟨rfl, rfl⟩]
    have q6 : hI h2 tp 6 = hI h tp 6 := by rw [hh2, hI_pI, if_neg (by omega)]; exact S1.tp R 6
    have q7 : hI h2 tp 7 = hI h tp 7 := by rw [hh2, hI_pI, if_neg (by omega)]; exact S1.tp R 7
    have qb : ∀ j, hR h2 bx j = hR h bx j := fun j => by rw [hh2]; rfl
    rw [if_pos c, gO R, Option.bind_some, pO R, Option.bind_some, r.1, i_succ, gOR R1, Option.bind_some, Option.bind_some, R1.2.2.2.1, gTp R1, Option.bind_some, pTp R1, Option.bind_some, e4] at st
    rw [← hh2] at st r2 Q2
    have R2 := Q2.rd R
    have z2 := Q2.2.1
    have ln1 : lnAt L (p + 1) = lnAt L p := ln_same (by rw [l2']; decide)
    rw [ckO R2, Option.bind_some, peek_p R2 (by omega) r2.1, bd2_s, ckO R2] at st
    rw [if_pos c]
    have up : ∀ {h' : hp} {n1 v1 p1 bs} (_ : TQ tp bx (64 + hN h) (64 + hN h') h2 h' n1 v1 p1 bs) (pc : PD (TY m)), 1 + n1 = nodesP m pc → v1 = varsP m pc → p1 = partsP m pc → bs = blksP m pc → TQ tp bx (64 + hN h) (64 + hN h') h h' (nodesP m pc) (varsP m pc) (partsP m pc) (blksP m pc) := fun A pc a1 a2 a3 a4 => A.up (Nat.le_refl _) (Nat.le_refl _) (Nat.le_refl _) q4 q6 q7 qb a1 a2 a3 a4
    have qs : ∀ {h' : hp} {a b a' b' : Nat}, QS o tp bx h2 h' a b → a ≤ a' → b ≤ b' → QS o tp bx h h' a' b' := fun Q x y => (Q2.tr Q).up (by omega) (by omega)
    by_cases c42 : hereL L (p + 1) = 42
    · rw [if_pos c42, Option.bind_some] at st
      rw [if_pos c42]
      have e : (if 1 ≤ m then bnd (pOne L 97 8 (p + 2)) fun v p1 => bnd (pSign L 32 p1) fun _ p2 => bnd (pExpr L p2) fun e p3 => bnd (pBoth L rc m blk p3) fun io p4 => .inl ((3, lnAt L p, iN v, 0, e, eN, io.1, io.2), p4) else .inr (p + 1) : PR (PD (TY m))) = mp (if 1 ≤ m then bnd (pOne L 97 8 (p + 2)) fun v p1 => bnd (pSign L 32 p1) fun _ p2 => bnd (pExpr L p2) fun e p3 => bnd (pBoth L rc m blk p3) fun io p4 => .inl ((v, e, io), p4) else .inr (p + 1) : PR (Nat × EX × TY m × TY m)) fun x => (3, lnAt L p, iN x.1, 0, x.2.1, eN, x.2.2.1, x.2.2.2) := by
        by_cases cm : 1 ≤ m
        · rw [if_pos cm, if_pos cm]; simp only [mp, bnd_bnd, bnd_l]
        · rw [if_neg cm, if_neg cm]; rfl
      rw [e]
      rcases loop_o (G := G0 (n + 2)) (G' := G0 (n + 1)) (rc := rc) (blk := blk) rfl R2 z2 r2 c42 hm (fun cm els g p1 hp' => ih cm n blk els g p1 (Nat.le_refl _) (by omega)) with ⟨v, ex, t1, t2, p', h', s, k1, e1, Q, r', hq, N, l8, K⟩ | ⟨f, h', s, b1, b2', e1, Q, g, t⟩
      · rw [n2] at e1 N l8 K
        refine .inl ⟨_, p', h', by rw [s, mp_l], st.trans (by rw [show (G0 (n + 3)).2.2.2.1 = fX7_readLoop_b (G0 (n + 2)) from rfl, e1]; rfl), qs Q (by omega) (by omega), r', by omega, by rw [ln1] at N; exact N, l8, up (K.wd (Nat.le_refl _) (by omega) (Nat.le_refl _)) _ ?_ ?_ ?_ ?_⟩
        · show 1 + (nodesT m t1 + nodesT m t2) = 1 + nodesT m t1 + nodesT m t2; omega
        · show _ = (bitN (iN v) ||| varsE ex ||| varsE eN ||| varsT m t1 ||| varsT m t2)
          rw [eN_vars, Int32.or_zero, ← Int32.or_assoc]
        · show _ = (0 ||| partsT m t1 ||| partsT m t2)
          rw [Int32.zero_or]
        · rfl
      · rw [n2] at e1
        exact .inr ⟨f, h', by rw [s, mp_r], by omega, b2', st.trans (by rw [show (G0 (n + 3)).2.2.2.1 = fX7_readLoop_b (G0 (n + 2)) from rfl, e1]; rfl), qs Q (by omega) (by omega), g⟩
    rw [if_neg c42] at st
    rw [if_neg c42]
    by_cases c61 : hereL L (p + 1) = 61
    · rw [if_pos c61, Option.bind_some] at st
      rw [if_pos c61]
      have e : (if 1 ≤ m then bnd (pOne L 65 4 (p + 2)) fun b p1 => bnd (pSign L 125 p1) fun _ p2 => bnd (rc m true false p2) fun t p3 => .inl ((4, lnAt L p, iN b, 0, eN, eN, t.1, tyN m), p3) else .inr (p + 1) : PR (PD (TY m))) = mp (if 1 ≤ m then bnd (pOne L 65 4 (p + 2)) fun b p1 => bnd (pSign L 125 p1) fun _ p2 => bnd (rc m true false p2) fun t p3 => .inl ((b, t.1), p3) else .inr (p + 1) : PR (Nat × TY m)) fun x => (4, lnAt L p, iN x.1, 0, eN, eN, x.2, tyN m) := by
        by_cases cm : 1 ≤ m
        · rw [if_pos cm, if_pos cm]; simp only [mp, bnd_bnd, bnd_l]
        · rw [if_neg cm, if_neg cm]; rfl
      rw [e]
      rcases block_o (G := G0 (n + 2)) (rc := rc) R2 z2 r2 c61 hm (fun cm g p1 hp' => ih cm (n + 1) true false g p1 (by omega) (by omega)) with ⟨b, t1, p', h', s, k1, e1, Q, r', hq, N, l8, K⟩ | ⟨f, h', s, b1, b2', e1, Q, g, t⟩
      · rw [n2] at e1 N l8 K
        refine .inl ⟨_, p', h', by rw [s, mp_l], st.trans (by rw [show (G0 (n + 3)).2.2.2.2.2 = fX7_readBlock_b (G0 (n + 2)) from rfl, e1]; rfl), qs Q (by omega) (by omega), r', by omega, by rw [ln1] at N; exact N, l8, up K _ ?_ ?_ ?_ ?_⟩
        · show 1 + nodesT m t1 = 1 + nodesT m t1 + nodesT m (tyN m); rw [nodes_nil]; rfl
        · show _ = (0 ||| varsE eN ||| varsE eN ||| varsT m t1 ||| varsT m (tyN m))
          rw [eN_vars, vars_nil, Int32.or_zero, Int32.or_zero, Int32.zero_or, Int32.zero_or]
        · show _ = (0 ||| partsT m t1 ||| partsT m (tyN m))
          rw [Int32.zero_or, parts_nil, Int32.or_zero]
        · show _ = [(iN b, lnAt L p, (⟨m, t1⟩ : Σ q : Nat, TY q))] ++ blksT m t1 ++ blksT m (tyN m)
          rw [blks_nil, List.append_nil, ln1]; rfl
      · rw [n2] at e1
        exact .inr ⟨f, h', by rw [s, mp_r], by omega, b2', st.trans (by rw [show (G0 (n + 3)).2.2.2.2.2 = fX7_readBlock_b (G0 (n + 2)) from rfl, e1]; rfl), qs Q (by omega) (by omega), g⟩
    rw [if_neg c61] at st
    rw [if_neg c61]
    by_cases c62 : hereL L (p + 1) = 62
    · rw [if_pos c62, Option.bind_some] at st
      rw [if_pos c62]
      have e : (bnd (pOne L 48 6 (p + 2)) fun k p1 => bnd (pSign L 125 p1) fun _ p2 => .inl ((6, lnAt L p, iN k, 0, eN, eN, tyN m, tyN m), p2) : PR (PD (TY m))) = mp (bnd (pOne L 48 6 (p + 2)) fun k p1 => bnd (pSign L 125 p1) fun _ p2 => .inl (k, p2) : PR Nat) fun k => (6, lnAt L p, iN k, 0, eN, eN, tyN m, tyN m) := by simp only [mp, bnd_bnd, bnd_l]
      rw [e]
      rcases part_o (m := m) sub0 R2 z2 r2 c62 with ⟨k, p', h', s, k1, e1, Q, r', hq, N, l8, x6, x4, x7, xb⟩ | ⟨f, h', s, b1, b2', e1, Q, g, t⟩
      · rw [n2] at e1 N l8
        refine .inl ⟨_, p', h', by rw [s, mp_l], st.trans (by rw [e1]; rfl), qs Q (by omega) (by omega), r', by omega, by rw [ln1] at N; rw [show 65 + hN h = 64 + hN h + 1 by omega]; exact N, l8, up (TQ.of (n := 0) (v := 0) (p := bitN (iN k)) (by rw [x4]; exact (Int32.add_zero _).symm) (by rw [x7, Int32.or_zero]) x6 xb) _ ?_ ?_ ?_ ?_⟩
        · show 1 + 0 = 1 + nodesT m (tyN m) + nodesT m (tyN m); rw [nodes_nil]
        · show _ = (0 ||| varsE eN ||| varsE eN ||| varsT m (tyN m) ||| varsT m (tyN m))
          rw [eN_vars, vars_nil]; rfl
        · show _ = (bitN (iN k) ||| partsT m (tyN m) ||| partsT m (tyN m))
          rw [parts_nil, Int32.or_zero, Int32.or_zero]
        · show _ = [] ++ blksT m (tyN m) ++ blksT m (tyN m)
          rw [blks_nil]; rfl
      · rw [n2] at e1
        exact .inr ⟨f, h', by rw [s, mp_r], by omega, b2', st.trans (by rw [e1]; rfl), qs Q (by omega) (by omega), g⟩
    rw [if_neg c62] at st
    rw [if_neg c62]
    by_cases c63 : hereL L (p + 1) = 63
    · rw [if_pos c63, Option.bind_some] at st
      rw [if_pos c63]
      have e : (if 1 ≤ m then bnd (pCond L (p + 2)) fun c p1 => bnd (pBoth L rc m blk p1) fun io p2 => .inl ((2, lnAt L p, 0, c.1, c.2.1, c.2.2, io.1, io.2), p2) else .inr (p + 1) : PR (PD (TY m))) = mp (if 1 ≤ m then bnd (pCond L (p + 2)) fun c p1 => bnd (pBoth L rc m blk p1) fun io p2 => .inl ((c, io), p2) else .inr (p + 1) : PR ((Nat × EX × EX) × TY m × TY m)) fun x => (2, lnAt L p, 0, x.1.1, x.1.2.1, x.1.2.2, x.2.1, x.2.2) := by
        by_cases cm : 1 ≤ m
        · rw [if_pos cm, if_pos cm]; simp only [mp, bnd_bnd, bnd_l]
        · rw [if_neg cm, if_neg cm]; rfl
      rw [e]
      rcases branch_o (G := G0 (n + 2)) (G' := G0 (n + 1)) (rc := rc) (blk := blk) rfl R2 z2 r2 c63 hm (fun cm els g p1 hp' => ih cm n blk els g p1 (Nat.le_refl _) (by omega)) with ⟨cd, t1, t2, p', h', s, e1, Q, r', hq, N, l8, K⟩ | ⟨f, h', s, b1, b2', e1, Q, g, t⟩
      · rw [n2] at e1 N l8 K
        refine .inl ⟨_, p', h', by rw [s, mp_l], st.trans (by rw [show (G0 (n + 3)).2.2.1 = fX7_readBranch_b (G0 (n + 2)) from rfl, e1]; rfl), qs Q (by omega) (by omega), r', by omega, by rw [ln1] at N; exact N, l8, up (K.wd (Nat.le_refl _) (by omega) (Nat.le_refl _)) _ ?_ ?_ ?_ ?_⟩
        · show 1 + (nodesT m t1 + nodesT m t2) = 1 + nodesT m t1 + nodesT m t2; omega
        · show _ = (0 ||| varsE cd.2.1 ||| varsE cd.2.2 ||| varsT m t1 ||| varsT m t2)
          rw [Int32.zero_or, ← Int32.or_assoc]
        · show _ = (0 ||| partsT m t1 ||| partsT m t2)
          rw [Int32.zero_or]
        · rfl
      · rw [n2] at e1
        exact .inr ⟨f, h', by rw [s, mp_r], by omega, b2', st.trans (by rw [show (G0 (n + 3)).2.2.1 = fX7_readBranch_b (G0 (n + 2)) from rfl, e1]; rfl), qs Q (by omega) (by omega), g⟩
    rw [if_neg c63] at st
    rw [if_neg c63]
    by_cases c64 : hereL L (p + 1) = 64
    · rw [if_pos c64, Option.bind_some] at st
      rw [if_pos c64]
      have e : (bnd (pOne L 97 8 (p + 2)) fun v p1 => bnd (pSign L 61 p1) fun _ p2 => bnd (pExpr L p2) fun e p3 => bnd (pSign L 125 p3) fun _ p4 => .inl ((7, lnAt L p, iN v, 0, e, eN, tyN m, tyN m), p4) : PR (PD (TY m))) = mp (bnd (pOne L 97 8 (p + 2)) fun v p1 => bnd (pSign L 61 p1) fun _ p2 => bnd (pExpr L p2) fun e p3 => bnd (pSign L 125 p3) fun _ p4 => .inl ((v, e), p4) : PR (Nat × EX)) fun x => (7, lnAt L p, iN x.1, 0, x.2, eN, tyN m, tyN m) := by simp only [mp, bnd_bnd, bnd_l]
      rw [e]
      rcases name_o (m := m) sub0 R2 z2 r2 c64 with ⟨v, ex, p', h', s, k1, e1, E, r', hq, N, l8, x7⟩ | ⟨f, h', s, b1, b2', e1, E, g, t⟩
      · rw [n2] at e1 N l8
        obtain ⟨x4, x6, xb⟩ := es_tp E R2
        refine .inl ⟨_, p', h', by rw [s, mp_l], st.trans (by rw [e1]; rfl), qs E.qs (by omega) (by omega), r', by omega, by rw [ln1] at N; rw [show 65 + hN h = 64 + hN h + 1 by omega]; exact N, l8, up (TQ.of (n := 0) (v := bitN (iN v) ||| varsE ex) (p := 0) (by rw [x4]; exact (Int32.add_zero _).symm) (by rw [x7, Int32.or_assoc]) (by rw [x6, Int32.or_zero]) xb) _ ?_ ?_ ?_ ?_⟩
        · show 1 + 0 = 1 + nodesT m (tyN m) + nodesT m (tyN m); rw [nodes_nil]
        · show _ = (bitN (iN v) ||| varsE ex ||| varsE eN ||| varsT m (tyN m) ||| varsT m (tyN m))
          rw [eN_vars, vars_nil, Int32.or_zero, Int32.or_zero, Int32.or_zero]
        · show _ = (0 ||| partsT m (tyN m) ||| partsT m (tyN m))
          rw [parts_nil]; rfl
        · show _ = [] ++ blksT m (tyN m) ++ blksT m (tyN m)
          rw [blks_nil]; rfl
      · rw [n2] at e1
        exact .inr ⟨f, h', by rw [s, mp_r], by omega, b2', st.trans (by rw [e1]; rfl), qs E.qs (by omega) (by omega), g⟩
    rw [if_neg c64] at st
    rw [if_neg c64]
    by_cases c94 : hereL L (p + 1) = 94
    · rw [if_pos c94, Option.bind_some] at st
      rw [if_pos c94]
      have e : (if blk = true then bnd (pSign L 125 (p + 2)) fun _ p1 => .inl ((5, lnAt L p, 0, 0, eN, eN, tyN m, tyN m), p1) else .inr (p + 1) : PR (PD (TY m))) = mp (if blk = true then bnd (pSign L 125 (p + 2)) fun _ p1 => .inl ((), p1) else .inr (p + 1) : PR Unit) fun _ => (5, lnAt L p, 0, 0, eN, eN, tyN m, tyN m) := by
        cases blk
        · rfl
        · rw [if_pos rfl, if_pos rfl]; simp only [mp, bnd_bnd, bnd_l]
      rw [e]
      rcases above_o (m := m) sub0 R2 z2 r2 c94 blk with ⟨p', h', s, e1, S, r', hq, N, l8⟩ | ⟨f, h', s, b1, b2', e1, S, g, t⟩
      · rw [n2] at e1 N l8
        obtain ⟨x4, x6, xb⟩ := es_tp (S.es (tp := tp)) R2
        have x7 := S.tp R2 7
        refine .inl ⟨_, p', h', by rw [s, mp_l], st.trans (by rw [show fX7_readAbove o (b2 blk) h2 = _ from e1]; rfl), qs S.es.qs (by omega) (by omega), r', by omega, by rw [ln1] at N; rw [show 65 + hN h = 64 + hN h + 1 by omega]; exact N, l8, up (TQ.of (n := 0) (v := 0) (p := 0) (by rw [x4]; exact (Int32.add_zero _).symm) (by rw [x7, Int32.or_zero]) (by rw [x6, Int32.or_zero]) xb) _ ?_ ?_ ?_ ?_⟩
        · show 1 + 0 = 1 + nodesT m (tyN m) + nodesT m (tyN m); rw [nodes_nil]
        · show _ = (0 ||| varsE eN ||| varsE eN ||| varsT m (tyN m) ||| varsT m (tyN m))
          rw [eN_vars, vars_nil]; rfl
        · show _ = (0 ||| partsT m (tyN m) ||| partsT m (tyN m))
          rw [parts_nil]; rfl
        · show _ = [] ++ blksT m (tyN m) ++ blksT m (tyN m)
          rw [blks_nil]; rfl
      · rw [n2] at e1
        exact .inr ⟨f, h', by rw [s, mp_r], by omega, b2', st.trans (by rw [show fX7_readAbove o (b2 blk) h2 = _ from e1]; rfl), qs S.es.qs (by omega) (by omega), g⟩
    rw [if_neg c94, Option.bind_some] at st
    rw [if_neg c94]
    have e : (bnd (pExpr L (p + 1)) fun e p1 => bnd (pSign L 125 p1) fun _ p2 => .inl ((1, lnAt L p, 0, 0, e, eN, tyN m, tyN m), p2) : PR (PD (TY m))) = mp (bnd (pExpr L (p + 1)) fun e p1 => bnd (pSign L 125 p1) fun _ p2 => .inl (e, p2) : PR EX) fun e => (1, lnAt L p, 0, 0, e, eN, tyN m, tyN m) := by simp only [mp, bnd_bnd, bnd_l]
    rw [e]
    rcases show_o (m := m) sub0 R2 z2 r2 with ⟨ex, p', h', s, e1, E, r', hq, N, l8, x7⟩ | ⟨f, h', s, b1, b2', e1, E, g, t⟩
    · rw [n2] at e1 N l8
      obtain ⟨x4, x6, xb⟩ := es_tp E R2
      refine .inl ⟨_, p', h', by rw [s, mp_l], st.trans (by rw [e1]; rfl), qs E.qs (by omega) (by omega), r', by omega, by rw [ln1] at N; rw [show 65 + hN h = 64 + hN h + 1 by omega]; exact N, l8, up (TQ.of (n := 0) (v := varsE ex) (p := 0) (by rw [x4]; exact (Int32.add_zero _).symm) x7 (by rw [x6, Int32.or_zero]) xb) _ ?_ ?_ ?_ ?_⟩
      · show 1 + 0 = 1 + nodesT m (tyN m) + nodesT m (tyN m); rw [nodes_nil]
      · show _ = (0 ||| varsE ex ||| varsE eN ||| varsT m (tyN m) ||| varsT m (tyN m))
        rw [eN_vars, vars_nil, Int32.or_zero, Int32.or_zero, Int32.or_zero, Int32.zero_or]
      · show _ = (0 ||| partsT m (tyN m) ||| partsT m (tyN m))
        rw [parts_nil]; rfl
      · show _ = [] ++ blksT m (tyN m) ++ blksT m (tyN m)
        rw [blks_nil]; rfl
    · rw [n2] at e1
      exact .inr ⟨f, h', by rw [s, mp_r], by omega, b2', st.trans (by rw [e1]; rfl), qs E.qs (by omega) (by omega), g⟩
  · rw [if_neg c, ckO R, Option.bind_some] at st
    rw [if_neg c]
    rcases byte_o (m := m) sub0 R z r hp1 with ⟨c1, h', e1, S, r', N, l8⟩ | ⟨c1, h', e1, S, g, t⟩
    · obtain ⟨x4, x6, xb⟩ := es_tp (S.es (tp := tp)) R
      have x7 := S.tp R 7
      have Q := S.es.qs (tp := tp) (bx := bx)
      have K : TQ tp bx (64 + hN h) (64 + hN h') h h' 0 0 0 [] := TQ.of (by rw [x4]; exact (Int32.add_zero _).symm) (by rw [x7, Int32.or_zero]) (by rw [x6, Int32.or_zero]) xb
      refine .inl ⟨_, p + 1, h', by rw [if_neg c1], st.trans (by rw [e1]; rfl), Q.up (by omega) (by omega), r', by omega, by rw [show 65 + hN h = 64 + hN h + 1 by omega]; exact N, l8, ?_⟩
      have w1 : varsP m (0, lnAt L p, hereL L p, 0, eN, eN, tyN m, tyN m) = 0 := by
        show (0 ||| varsE eN ||| varsE eN ||| varsT m (tyN m) ||| varsT m (tyN m)) = 0
        rw [eN_vars, vars_nil]; rfl
      have w2 : partsP m (0, lnAt L p, hereL L p, 0, eN, eN, tyN m, tyN m) = 0 := by
        show (0 ||| partsT m (tyN m) ||| partsT m (tyN m)) = 0
        rw [parts_nil]; rfl
      have w3 : blksP m (0, lnAt L p, hereL L p, 0, eN, eN, tyN m, tyN m) = [] := by
        show [] ++ blksT m (tyN m) ++ blksT m (tyN m) = []
        rw [blks_nil]; rfl
      rw [w1, w2, w3]; exact K
    · have Q := S.es.qs (tp := tp) (bx := bx)
      exact .inr ⟨p, h', by rw [if_pos c1], Nat.le_refl _, hl, st.trans (by rw [e1]; rfl), Q.up (by omega) (by omega), g⟩

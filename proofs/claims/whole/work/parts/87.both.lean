/-! the class's reader: what a template gathers; the texts within a branch or a loop -/
def BR (h : hp) (lo hi : Nat) (b : Int32 × Nat × (Σ q : Nat, TY q)) (x : Nat) : Prop := lo ≤ x ∧ x < hi ∧ hT h x = (5, 9) ∧ RepT h (x + 1) hi b.2.2.1 b.2.2.2 (hR h x 6)
def BO (h : hp) (lo hi : Nat) (b : Option (Int32 × Nat × (Σ q : Nat, TY q))) (x : Nat) : Prop :=
  match b with
  | none => x = 0
  | some b => BR h lo hi b x
def fB (bs : List (Int32 × Nat × (Σ q : Nat, TY q))) (j : Nat) : Option (Int32 × Nat × (Σ q : Nat, TY q)) := bs.find? fun b => decide (b.1 = iN j)
def BK (bx lo hi : Nat) (h h' : hp) (bs : List (Int32 × Nat × (Σ q : Nat, TY q))) : Prop := ∀ j, j < 4 → (hR h bx j ≠ 0 → hR h' bx j = hR h bx j) ∧ (hR h bx j = 0 → BO h' lo hi (fB bs j) (hR h' bx j))
def TQ (tp bx lo hi : Nat) (h h' : hp) (n : Nat) (v p : Int32) (bs : List (Int32 × Nat × (Σ q : Nat, TY q))) : Prop := hI h' tp 4 = hI h tp 4 + iN n ∧ hI h' tp 7 = hI h tp 7 ||| v ∧ hI h' tp 6 = hI h tp 6 ||| p ∧ BK bx lo hi h h' bs
theorem BR.fg {P : Nat → Nat → Prop} {h h' : hp} {lo hi lo' hi' x : Nat} {b : Int32 × Nat × (Σ q : Nat, TY q)} (H : BR h lo hi b x) (f : FG P h h') (hh : hi ≤ 64 + hN h) (hP : ∀ y k, lo ≤ y → y < hi → P y k → y = lo ∧ k = 8) (h1 : lo' ≤ lo) (h2 : hi ≤ hi') : BR h' lo' hi' b x := by
  obtain ⟨b1, b2, b3, b4⟩ := H
  have e := (f.2.2.2 x 6 (by omega) (fun q => by have := hP x 6 b1 b2 q; omega)).2.2
  refine ⟨by omega, by omega, by rw [f.2.2.1 x (by omega)]; exact b3, ?_⟩
  rw [e]
  exact RepT.fg f hh (fun y k y1 y2 q => by have := hP y k (by omega) y2 q; omega) (Nat.le_refl _) h2 _ _ _ b4
theorem BO.fg {P : Nat → Nat → Prop} {h h' : hp} {lo hi lo' hi' x : Nat} {b : Option (Int32 × Nat × (Σ q : Nat, TY q))} (H : BO h lo hi b x) (f : FG P h h') (hh : hi ≤ 64 + hN h) (hP : ∀ y k, lo ≤ y → y < hi → P y k → y = lo ∧ k = 8) (h1 : lo' ≤ lo) (h2 : hi ≤ hi') : BO h' lo' hi' b x := by
  cases b with
  | none => exact H
  | some b => exact BR.fg H f hh hP h1 h2
theorem fB_app (a b : List (Int32 × Nat × (Σ q : Nat, TY q))) (j : Nat) : fB (a ++ b) j = (fB a j).or (fB b j) := by
  unfold fB
  exact List.find?_append
theorem TQ.rf (tp bx lo hi : Nat) (h : hp) : TQ tp bx lo hi h h 0 0 0 [] := by
  refine ⟨?_, (Int32.or_zero).symm, (Int32.or_zero).symm, fun j _ => ⟨fun _ => rfl, fun q => q⟩⟩
  show hI h tp 4 = hI h tp 4 + 0
  rw [Int32.add_zero]
theorem TQ.tr {P : Nat → Nat → Prop} {tp bx lo hi lo2 hi2 lo' hi' n n2 : Nat} {h h1 h2 : hp} {v v2 p p2 : Int32} {bs bs2 : List (Int32 × Nat × (Σ q : Nat, TY q))} (A : TQ tp bx lo hi h h1 n v p bs) (B : TQ tp bx lo2 hi2 h1 h2 n2 v2 p2 bs2) (f : FG P h1 h2) (hh : hi ≤ 64 + hN h1) (hP : ∀ y k, lo ≤ y → y < hi → P y k → y = lo ∧ k = 8) (l0 : 0 < lo) (l1 : lo' ≤ lo) (l2 : hi ≤ hi') (l3 : lo' ≤ lo2) (l4 : hi2 ≤ hi') (l5 : hi2 ≤ 64 + hN h2) : TQ tp bx lo' hi' h h2 (n + n2) (v ||| v2) (p ||| p2) (bs ++ bs2) := by
  obtain ⟨a1, a2, a3, a4⟩ := A
  obtain ⟨b1, b2, b3, b4⟩ := B
  refine ⟨by rw [b1, a1, Int32.add_assoc, i_add], by rw [b2, a2, Int32.or_assoc], by rw [b3, a3, Int32.or_assoc], fun j hj => ?_⟩
  obtain ⟨c1, c2⟩ := a4 j hj
  obtain ⟨d1, d2⟩ := b4 j hj
  refine ⟨fun q => ?_, fun q => ?_⟩
  · have e := c1 q
    rw [d1 (by rw [e]; exact q), e]
  · have e := c2 q
    rw [fB_app]
    cases hb : fB bs j with
    | none =>
      rw [hb] at e
      rw [Option.none_or]
      exact BO.fg (d2 e) (FG.rf (fun _ _ => False) _) l5 (fun _ _ _ _ z => z.elim) l3 l4
    | some b =>
      rw [hb] at e
      rw [Option.some_or]
      have e' : BR h1 lo hi b (hR h1 bx j) := e
      have ne : hR h1 bx j ≠ 0 := by have := e'.1; omega
      rw [d1 ne]
      exact BR.fg e' f hh hP l1 l2
theorem TQ.wd {tp bx lo hi lo' hi' n : Nat} {h h1 : hp} {v p : Int32} {bs : List (Int32 × Nat × (Σ q : Nat, TY q))} (A : TQ tp bx lo hi h h1 n v p bs) (hh : hi ≤ 64 + hN h1) (l1 : lo' ≤ lo) (l2 : hi ≤ hi') : TQ tp bx lo' hi' h h1 n v p bs :=
  ⟨A.1, A.2.1, A.2.2.1, fun j hj => ⟨(A.2.2.2 j hj).1, fun q => ((A.2.2.2 j hj).2 q).fg (FG.rf (fun _ _ => False) _) hh (fun _ _ _ _ z => z.elim) l1 l2⟩⟩
/-- nothing is gathered but variables and nodes -/
theorem TQ.of {tp bx lo hi n : Nat} {h h1 : hp} {v p : Int32} (a1 : hI h1 tp 4 = hI h tp 4 + iN n) (a2 : hI h1 tp 7 = hI h tp 7 ||| v) (a3 : hI h1 tp 6 = hI h tp 6 ||| p) (a4 : ∀ j, hR h1 bx j = hR h bx j) : TQ tp bx lo hi h h1 n v p [] :=
  ⟨a1, a2, a3, fun j _ => ⟨fun _ => a4 j, fun q => by rw [a4 j]; exact q⟩⟩
/-- what a change elsewhere leaves -/
theorem TQ.fr {P : Nat → Nat → Prop} {tp bx lo hi n : Nat} {h h1 h2 : hp} {v p : Int32} {bs : List (Int32 × Nat × (Σ q : Nat, TY q))} (A : TQ tp bx lo hi h h1 n v p bs) (f : FG P h1 h2) (hh : hi ≤ 64 + hN h1) (hP : ∀ y k, lo ≤ y → y < hi → P y k → y = lo ∧ k = 8) (l0 : 0 < lo) (t : tp < 64 + hN h1) (tP : ∀ k, ¬ P tp k) (b : bx < 64 + hN h1) (bP : ∀ k, ¬ P bx k) : TQ tp bx lo hi h h2 n v p bs := by
  have e1 := fun k => (f.2.2.2 tp k t (tP k)).1
  have e2 := fun k => (f.2.2.2 bx k b (bP k)).2.2
  refine ⟨by rw [e1]; exact A.1, by rw [e1]; exact A.2.1, by rw [e1]; exact A.2.2.1, fun j hj => ?_⟩
  rw [e2]
  exact ⟨(A.2.2.2 j hj).1, fun q => ((A.2.2.2 j hj).2 q).fg f hh hP (Nat.le_refl _) (Nat.le_refl _)⟩
def b2 (b : Bool) : Int32 := if b then 1 else 0
/-- what reading pieces to their end gives -/
def AR (L : List Int32) (o tp bx M : Nat) (h : hp) (p : Nat) (res : PR (TY M × Bool)) (out : Option (Nat × hp)) : Prop :=
  (∃ t tn p' h' v, res = .inl ((t, tn), p') ∧ out = some (v, h') ∧ QS o tp bx h h' (6 * (p' - p)) (60 * (p' - p)) ∧ RO h' o tp L p' ∧ p ≤ p' ∧ RepT h' (64 + hN h) (64 + hN h') M t v ∧ (M ≤ 4 → hI h' o 5 = b2 tn) ∧ TQ tp bx (64 + hN h) (64 + hN h') h h' (nodesT M t) (varsT M t) (partsT M t) (blksT M t)) ∨
  (∃ f h' v, res = .inr f ∧ p ≤ f ∧ f ≤ 160 ∧ out = some (v, h') ∧ QS o tp bx h h' (6 * (f - p) + 20) (60 * (f - p) + 200) ∧ RG h' o f)
/-- a step in which a piece's links are laid too -/
def QV (o tp bx V : Nat) (h h' : hp) (a b : Nat) : Prop := FG (fun x k => KP o tp bx x k ∨ (x = V ∧ 6 ≤ k)) h h' ∧ ZH h' ∧ hN h' ≤ hN h + a ∧ hL h' ≤ hL h + b
theorem QS.qv {o tp bx V a b : Nat} {h h1 : hp} (x : QS o tp bx h h1 a b) : QV o tp bx V h h1 a b := ⟨x.1.up fun _ _ q => .inl q, x.2.1, x.2.2.1, x.2.2.2⟩
theorem QV.tr {o tp bx V a b c d : Nat} {h h1 h2 : hp} (x : QV o tp bx V h h1 a b) (y : QV o tp bx V h1 h2 c d) : QV o tp bx V h h2 (a + c) (b + d) :=
  ⟨x.1.tr y.1, y.2.1, by have := x.2.2.1; have := y.2.2.1; omega, by have := x.2.2.2; have := y.2.2.2; omega⟩
theorem QV.pR {o tp bx V a b : Nat} {h h1 : hp} (x : QV o tp bx V h h1 a b) (hV : V < 64 + hN h1) {k : Nat} (hk : 6 ≤ k) (v : Nat) : QV o tp bx V h (pR h1 V k v) a b :=
  ⟨x.1.tr (fgR1 (.inr ⟨rfl, hk⟩)), x.2.1.pR k v hV, x.2.2.1, x.2.2.2⟩
theorem QV.rd {o tp bx V a b : Nat} {h h1 : hp} {L : List Int32} (x : QV o tp bx V h h1 a b) (R : RD h o tp bx L) (hV : 204 ≤ V ∧ V ≠ o ∧ V ≠ tp) : RD h1 o tp bx L :=
  R.fgP x.1 fun y k q => by
    have := R.2.2.2.2.2.2.2.2.1
    have := R.2.2.2.2.2.2.2.2.2.1
    have := R.2.2.2.2.2.2.2.2.2.2.1
    have := R.2.2.2.2.2.2.2.2.2.2.2.1
    unfold KP at q
    omega
theorem kp_old {o tp bx V : Nat} {h : hp} {L : List Int32} (R : RD h o tp bx L) (hV : 64 + hN h ≤ V) (k : Nat) : ¬ KP o tp bx V k := fun q => by
  have := R.2.2.2.2.2.2.2.2.1
  have := R.2.2.2.2.2.2.2.2.2.1
  have := R.2.2.2.2.2.2.2.2.2.2.1
  unfold KP at q
  omega
def pBody (rc : pRec) (m : Nat) (blk : Bool) (p1 : Nat) : PR (TY m × TY m) :=
  bnd (rc m blk true p1) fun t p2 => if t.2 = true then bnd (rc m blk false p2) fun o p3 => .inl ((t.1, o.1), p3) else .inl ((t.1, tyN m), p2)
theorem pBoth_e (L : List Int32) (rc : pRec) (m : Nat) (blk : Bool) (p : Nat) : pBoth L rc m blk p = bnd (pSign L 125 p) fun _ p1 => pBody rc m blk p1 := rfl
theorem nodes_nil : ∀ m, nodesT m (tyN m) = 0 := fun m => by cases m <;> rfl
theorem vars_nil : ∀ m, varsT m (tyN m) = 0 := fun m => by cases m <;> rfl
theorem parts_nil : ∀ m, partsT m (tyN m) = 0 := fun m => by cases m <;> rfl
theorem blks_nil : ∀ m, blksT m (tyN m) = [] := fun m => by cases m <;> rfl
theorem both_o {h h0 : hp} {o tp bx p m V : Nat} {L : List Int32} {rc : pRec} {G : gG0} {blk : Bool} {d k ln v q : Int32} {rr : Nat → Nat} (R0 : RD h0 o tp bx L) (hV : 64 + hN h0 ≤ V) (R : RD h o tp bx L) (z : ZH h) (r : RO h o tp L p) (W : VF h V k ln v q rr) (h6 : rr 6 = 0 ∧ rr 7 = 0) (hm : m ≤ 4)
    (ih : ∀ (els : Bool) (g : hp) (p1 : Nat), p ≤ p1 → RD g o tp bx L → ZH g → RO g o tp L p1 → AR L o tp bx m g p1 (rc m blk els p1) (G.1 o (d + 1) (b2 blk) (b2 els) g)) :
    (∃ t1 t2 p' h', pBody rc m blk p = .inl ((t1, t2), p') ∧ fX7_readBoth_b G o V d (b2 blk) h = some h' ∧ QV o tp bx V h h' (6 * (p' - p)) (60 * (p' - p)) ∧ RO h' o tp L p' ∧ p ≤ p' ∧ RepT h' (64 + hN h) (64 + hN h') m t1 (hR h' V 6) ∧ RepT h' (64 + hN h) (64 + hN h') m t2 (hR h' V 7) ∧ TQ tp bx (64 + hN h) (64 + hN h') h h' (nodesT m t1 + nodesT m t2) (varsT m t1 ||| varsT m t2) (partsT m t1 ||| partsT m t2) (blksT m t1 ++ blksT m t2) ∧ ∃ rr', VF h' V k ln v q rr' ∧ (∀ j, j ≠ 6 → j ≠ 7 → rr' j = rr j)) ∨
    (∃ f h', pBody rc m blk p = .inr f ∧ p ≤ f ∧ f ≤ 160 ∧ fX7_readBoth_b G o V d (b2 blk) h = some h' ∧ QV o tp bx V h h' (6 * (f - p) + 20) (60 * (f - p) + 200) ∧ RG h' o f ∧ hT h' V = (5, 9)) := by
  have ho := R.2.2.2.2.2.2.2.2.1
  have htp := R.2.2.2.2.2.2.2.2.2.1
  have hbx := R.2.2.2.2.2.2.2.2.2.2.1
  have ho0 := R0.2.2.2.2.2.2.2.2.1
  have htp0 := R0.2.2.2.2.2.2.2.2.2.1
  have hbx0 := R0.2.2.2.2.2.2.2.2.2.2.1
  have hw := R0.1.2.2
  have Vl := W.2.2.2
  have nV : ∀ j, ¬ KP o tp bx V j := kp_old R0 hV
  have vo : 204 ≤ V ∧ V ≠ o ∧ V ≠ tp := by omega
  have l1 : (-1 : Int32) < 0 := by decide
  unfold fX7_readBoth_b
  rw [gO R, Option.bind_some, r.2.2.1, if_pos l1, ckO R, Option.bind_some]
  rcases ih true h p (Nat.le_refl _) R z r with ⟨t1, tn, p1, h1, v1, s1, e1, Q1, r1, q1, T1, n1, K1⟩ | ⟨f, h1, v1, s1, b1, b2', e1, Q1, g1⟩
  · have W1 := W.fg Q1.1 nV
    obtain ⟨pf, W2⟩ := W1.r 6 v1
    have QV1 := (Q1.qv (V := V)).pR W1.2.2.2 (k := 6) (Nat.le_refl _) v1
    have R2 := QV1.rd R vo
    have r2 : RO (pR h1 V 6 v1) o tp L p1 := r1
    have i1 := Q1.1.1
    have T2 : RepT (pR h1 V 6 v1) (64 + hN h) (64 + hN h1) m t1 v1 := RepT.fg (P := fun x _ => x = V) (fgR1 rfl) (Nat.le_refl _) (fun x k a b c => by omega) (Nat.le_refl _) (Nat.le_refl _) _ _ _ T1
    have K2 : TQ tp bx (64 + hN h) (64 + hN h1) h (pR h1 V 6 v1) (nodesT m t1) (varsT m t1) (partsT m t1) (blksT m t1) := K1.fr (P := fun x _ => x = V) (fgR1 rfl) (Nat.le_refl _) (fun y k a b c => by omega) (by omega) (by omega) (fun k c => by omega) (by omega) (fun k c => by omega)
    rw [show G.1 o (d + 1) (b2 blk) 1 h = _ from e1, bd2_s, pf, Option.bind_some, gO R2, Option.bind_some, r2.2.2.1, if_neg n0_le, gO R2, Option.bind_some, show hI (pR h1 V 6 v1) o 5 = b2 tn from n1 hm]
    cases tn with
    | false =>
      rw [show b2 false = (0 : Int32) from rfl, if_pos rfl]
      refine .inl ⟨t1, tyN m, p1, _, ?_, rfl, QV1, r2, q1, ?_, ?_, ?_, _, W2, fun j j6 _ => ?_⟩
      · unfold pBody; rw [s1, bnd_l]; rfl
      · rw [hR_pR, if_pos ⟨rfl, rfl⟩]; exact T2
      · rw [hR_pR, if_neg (by omega), W1.2.2.1, h6.2]; exact RepT.nil _ _ _ m
      · rw [nodes_nil, vars_nil, parts_nil, blks_nil, Int32.or_zero, Int32.or_zero, List.append_nil, Nat.add_zero]; exact K2
      · rw [if_neg j6]
    | true =>
      rw [show b2 true = (1 : Int32) from rfl, if_neg z10, ckO R2, Option.bind_some]
      rcases ih false (pR h1 V 6 v1) p1 q1 R2 QV1.2.1 r2 with ⟨t2, tn2, p3, h3, v3, s3, e3, Q3, r3, q3, T3, n3, K3⟩ | ⟨f, h3, v3, s3, c1, c2, e3, Q3, g3⟩
      · have W3 := W2.fg Q3.1 nV
        obtain ⟨pf3, W4⟩ := W3.r 7 v3
        have i3 := Q3.1.1
        rw [hN_pR] at i3
        have QV3 := (QV1.tr (Q3.qv (V := V))).pR W3.2.2.2 (k := 7) (by omega) v3
        rw [show G.1 o (d + 1) (b2 blk) 0 (pR h1 V 6 v1) = _ from e3, bd2_s, pf3, Option.bind_some]
        have T4 : RepT (pR h3 V 7 v3) (64 + hN h) (64 + hN h3) m t1 v1 := RepT.fg (P := fun x k => KP o tp bx x k ∨ x = V) ((Q3.1.up fun _ _ q => .inl q).tr (fgR1 (.inr rfl))) (Nat.le_refl _) (fun x k a b c => by rcases c with c | c; exact kp_old R (by omega) k c; omega) (Nat.le_refl _) (by rw [hN_pR]; omega) _ _ _ T2
        have T5 : RepT (pR h3 V 7 v3) (64 + hN h) (64 + hN h3) m t2 v3 := RepT.fg (P := fun x _ => x = V) (fgR1 rfl) (Nat.le_refl _) (fun x k a b c => by rw [hN_pR] at a; omega) (by rw [hN_pR]; omega) (Nat.le_refl _) _ _ _ T3
        have K4 : TQ tp bx (64 + hN h) (64 + hN h3) h h3 (nodesT m t1 + nodesT m t2) (varsT m t1 ||| varsT m t2) (partsT m t1 ||| partsT m t2) (blksT m t1 ++ blksT m t2) := K2.tr K3 Q3.1 (by rw [hN_pR]; omega) (fun y k a b c => (kp_old R a k c).elim) (by omega) (Nat.le_refl _) (by omega) (by rw [hN_pR]; omega) (Nat.le_refl _) (Nat.le_refl _)
        refine .inl ⟨t1, t2, p3, _, ?_, rfl, ⟨QV3.1, QV3.2.1, by have := QV3.2.2.1; omega, by have := QV3.2.2.2; omega⟩, r3, by omega, ?_, ?_, ?_, _, W4, fun j j6 j7 => ?_⟩
        · unfold pBody; rw [s1, bnd_l, if_pos rfl, s3, bnd_l]
        · rw [hR_pR, if_neg (by omega), W3.2.2.1]; exact T4
        · rw [hR_pR, if_pos ⟨rfl, rfl⟩, hN_pR]; exact T5
        · rw [hN_pR]
          exact K4.fr (P := fun x _ => x = V) (fgR1 rfl) (Nat.le_refl _) (fun y k a b c => by omega) (by omega) (by omega) (fun k c => by omega) (by omega) (fun k c => by omega)
        · rw [if_neg j7, if_neg j6]
      · have W3 := W2.fg Q3.1 nV
        obtain ⟨pf3, W4⟩ := W3.r 7 v3
        have QV3 := (QV1.tr (Q3.qv (V := V))).pR W3.2.2.2 (k := 7) (by omega) v3
        rw [show G.1 o (d + 1) (b2 blk) 0 (pR h1 V 6 v1) = _ from e3, bd2_s, pf3, Option.bind_some]
        refine .inr ⟨f, _, ?_, by omega, c2, rfl, ⟨QV3.1, QV3.2.1, by have := QV3.2.2.1; omega, by have := QV3.2.2.2; omega⟩, g3, W4.1⟩
        unfold pBody; rw [s1, bnd_l, if_pos rfl, s3]; rfl
  · have W1 := W.fg Q1.1 nV
    obtain ⟨pf, W2⟩ := W1.r 6 v1
    have QV1 := (Q1.qv (V := V)).pR W1.2.2.2 (k := 6) (Nat.le_refl _) v1
    have R2 := QV1.rd R vo
    rw [show G.1 o (d + 1) (b2 blk) 1 h = _ from e1, bd2_s, pf, Option.bind_some, gO R2, Option.bind_some, if_pos (show 0 ≤ hI (pR h1 V 6 v1) o 4 from g1.le)]
    refine .inr ⟨f, _, ?_, b1, b2', rfl, QV1, g1, W2.1⟩
    unfold pBody; rw [s1]; rfl

/-! the reference's recognizer: pieces up to an end, what is within a branch, a loop, a block -/
def tNil (m : Nat) : TY (m + 1) := ([] : List (PD (TY m)))
def tCons {m : Nat} (pc : PD (TY m)) (t : TY (m + 1)) : TY (m + 1) := List.cons pc t
theorem nodes_k {m : Nat} (pc : PD (TY m)) (t : TY (m + 1)) : nodesT (m + 1) (tCons pc t) = nodesP m pc + nodesT (m + 1) t := rfl
theorem nodes_0 (m : Nat) : nodesT (m + 1) (tNil m) = 0 := rfl
theorem pAll_s (L : List Int32) (n m : Nat) (blk els : Bool) (p : Nat) : pAll L (n + 1) (m + 1) blk els p = (if L.length ≤ p then (if m = 4 then .inl ((tNil m, false), p) else .inr p)
  else if hereL L p = 123 ∧ hereL L (p + 1) = 47 ∧ m ≠ 4 then bnd (pSign L 125 (p + 2)) fun _ q => .inl ((tNil m, false), q)
  else if hereL L p = 123 ∧ hereL L (p + 1) = 58 ∧ els = true then bnd (pSign L 125 (p + 2)) fun _ q => .inl ((tNil m, true), q)
  else bnd (pPiece L (pAll L n) m blk p) fun pc q => bnd (pAll L n (m + 1) blk els q) fun r q2 => .inl ((tCons pc r.1, r.2), q2) : PR (TY (m + 1) × Bool)) := rfl
def pPcs (L : List Int32) : Nat → (m : Nat) → Bool → Nat → PR (TY (m + 1))
  | 0, _, _, p => .inr p
  | n + 1, m, blk, p => if L.length ≤ p then .inl (tNil m, p) else if hereL L p = 123 ∧ (hereL L (p + 1) = 47 ∨ hereL L (p + 1) = 58) then .inl (tNil m, p) else bnd (pPiece L (pAll L n) m blk p) fun pc q => bnd (pPcs L n m blk q) fun r q2 => .inl (tCons pc r, q2)
def pEnd (L : List Int32) (m : Nat) (els : Bool) (ps : TY (m + 1)) (q : Nat) : PR (TY (m + 1) × Bool) :=
  if L.length ≤ q then (if m = 4 then .inl ((ps, false), q) else .inr q)
  else if hereL L (q + 1) = 47 ∧ m ≠ 4 then bnd (pSign L 125 (q + 2)) fun _ r => .inl ((ps, false), r)
  else if hereL L (q + 1) = 58 ∧ els = true then bnd (pSign L 125 (q + 2)) fun _ r => .inl ((ps, true), r)
  else .inr (q + 1)
def eP (L : List Int32) (q : Nat) : Prop := L.length ≤ q ∨ (q < L.length ∧ hereL L q = 123 ∧ (hereL L (q + 1) = 47 ∨ hereL L (q + 1) = 58))
theorem pcs_end (L : List Int32) : ∀ (n m : Nat) (blk : Bool) (p q : Nat) (t : TY (m + 1)), pPcs L n m blk p = .inl (t, q) → eP L q := by
  intro n
  induction n with
  | zero => intro m blk p q t e; cases e
  | succ n ih =>
    intro m blk p q t e
    unfold pPcs at e
    by_cases c : L.length ≤ p
    · rw [if_pos c] at e
      have : p = q := congrArg Prod.snd (Sum.inl.inj e)
      exact .inl (by omega)
    rw [if_neg c] at e
    by_cases c2 : hereL L p = 123 ∧ (hereL L (p + 1) = 47 ∨ hereL L (p + 1) = 58)
    · rw [if_pos c2] at e
      have : p = q := congrArg Prod.snd (Sum.inl.inj e)
      subst this
      exact .inr ⟨by omega, c2⟩
    rw [if_neg c2] at e
    cases h1 : pPiece L (pAll L n) m blk p with
    | inr f => rw [h1] at e; cases e
    | inl a =>
      rw [h1, show (Sum.inl a : PR (PD (TY m))) = .inl (a.1, a.2) from rfl, bnd_l] at e
      cases h2 : pPcs L n m blk a.2 with
      | inr f => rw [h2] at e; cases e
      | inl b =>
        rw [h2, show (Sum.inl b : PR (TY (m + 1))) = .inl (b.1, b.2) from rfl, bnd_l] at e
        have e2 : b.2 = q := congrArg Prod.snd (Sum.inl.inj e)
        exact ih m blk a.2 q b.1 (by rw [h2, ← e2])
/-- a sign that no expression begins with -/
theorem expr_bad {L : List Int32} {p : Nat} {c : Int32} (e : hereL L p = c) (h1 : ¬ (97 ≤ c.toInt ∧ c.toInt < 105)) (h2 : c ≠ 35) (h3 : c ≠ 39) (h4 : c ≠ 45) (h5 : isF c = false) : pExpr L p = .inr p := by
  have f : pFigs L p = .inr p := by unfold pFigs; rw [e, h5]; rfl
  have a : pAtom L p = .inr p := by
    unfold pAtom
    rw [e, if_neg h1, if_neg h2, if_neg h3, if_neg h4, f]; rfl
  unfold pExpr
  rw [a]; rfl
theorem piece_bad {L : List Int32} {rc : pRec} {m p : Nat} {blk : Bool} {c : Int32} (h0 : hereL L p = 123) (e : hereL L (p + 1) = c) (hc : c = 47 ∨ c = 58 ∨ c = 60) : pPiece L rc m blk p = .inr (p + 1) := by
  have b : pExpr L (p + 1) = .inr (p + 1) := by
    rcases hc with q | q | q <;> subst q <;> exact expr_bad e (by decide) (by decide) (by decide) (by decide) (by decide)
  unfold pPiece
  rw [if_pos h0, e]
  rcases hc with q | q | q <;> (subst q; rw [if_neg (by decide), if_neg (by decide), if_neg (by decide), if_neg (by decide), if_neg (by decide), if_neg (by decide), b]; rfl)
theorem all_pcs (L : List Int32) : ∀ (n m : Nat) (blk els : Bool) (p : Nat), pAll L n (m + 1) blk els p = bnd (pPcs L n m blk p) fun ps q => pEnd L m els ps q := by
  intro n
  induction n with
  | zero => intro m blk els p; rfl
  | succ n ih =>
    intro m blk els p
    rw [pAll_s, pPcs]
    by_cases c : L.length ≤ p
    · rw [if_pos c, if_pos c, bnd_l, pEnd, if_pos c]
    rw [if_neg c, if_neg c]
    by_cases c2 : hereL L p = 123 ∧ (hereL L (p + 1) = 47 ∨ hereL L (p + 1) = 58)
    · rw [if_pos c2, bnd_l, pEnd, if_neg c]
      by_cases c3 : hereL L (p + 1) = 47 ∧ m ≠ 4
      · rw [if_pos ⟨c2.1, c3⟩, if_pos c3]
      · rw [if_neg (fun q => c3 q.2), if_neg c3]
        by_cases c4 : hereL L (p + 1) = 58 ∧ els = true
        · rw [if_pos ⟨c2.1, c4⟩, if_pos c4]
        · rw [if_neg (fun q => c4 q.2), if_neg c4, piece_bad c2.1 rfl (by rcases c2.2 with q | q; exact .inl q; exact .inr (.inl q))]; rfl
    · rw [if_neg c2, if_neg (fun q => c2 ⟨q.1, .inl q.2.1⟩), if_neg (fun q => c2 ⟨q.1, .inr q.2.1⟩), bnd_bnd]
      congr 1
      funext pc q
      rw [bnd_bnd, ih, bnd_bnd]
      congr 1
      funext r q2
      rw [bnd_l]
      unfold pEnd
      by_cases d1 : L.length ≤ q2
      · rw [if_pos d1, if_pos d1]
        by_cases d2 : m = 4
        · rw [if_pos d2, if_pos d2, bnd_l]
        · rw [if_neg d2, if_neg d2, bnd_r]
      rw [if_neg d1, if_neg d1]
      by_cases d3 : hereL L (q2 + 1) = 47 ∧ m ≠ 4
      · rw [if_pos d3, if_pos d3, bnd_bnd]; rfl
      rw [if_neg d3, if_neg d3]
      by_cases d4 : hereL L (q2 + 1) = 58 ∧ els = true
      · rw [if_pos d4, if_pos d4, bnd_bnd]; rfl
      · rw [if_neg d4, if_neg d4, bnd_r]
theorem MB.b2 {α β : Type} {L : List Int32} {h : hp} {S off p : Nat} {res : PR α} {d : α → Nat} {e : β → Nat} {out : Option (Int32 × hp)} {f : α → Nat → PR β} {K : hp → Option (Int32 × hp)} (X : MX h S off L) (A : MB L h p res d out) (B : ∀ a p' h', res = .inl (a, p') → MX h' S off L → MP h' p' (d a) → p ≤ p' → p' ≤ L.length → MB L h' p' (f a p') e (K h')) : MB L h p (bnd res f) e (bd2 out fun v h => if v = 0 then some (0, h) else K h) := by
  rcases A with ⟨a, p', h', b1, b2, b3, b4, b5, b6⟩ | ⟨q, h', b1, b2, b3, b4, b5⟩
  · have B' := B a p' h' b1 (X.fs b3) b4 b5 b6
    rw [b1, b2, bnd_l, bd2_s, if_neg z10]
    exact B'.up b3 b5
  · rw [b1, b2, bnd_r, bd2_s, if_pos rfl]
    exact .inr ⟨q, h', rfl, rfl, b3, b4, b5⟩
def kZ (h77j : hp) : Option (Int32 × hp) :=
  (gfI h77j 165 13 14).bind fun v9 =>
  (gfI h77j 165 13 13).bind fun v11 =>
  if v9 = v11 then (
    (gfI h77j 165 13 13).bind fun v25 =>
    (ckT h77j 165 13).bind fun _ =>
    bd2 (fX14_fails 165 v25 h77j) fun v28 h29 =>
    (zck v28).bind fun _ =>
    some (v28, h29)
  ) else (
    (gfI h77j 165 13 14).bind fun v13 =>
    (pfI h77j 165 13 14 (v13 + 1)).bind fun h15 =>
    (ckT h15 165 13).bind fun _ =>
    bd2 (fX14_isSign 165 47 h15) fun v18 h19 =>
    if v18 = 0 then (
      some (0, h19)
    ) else (
      (ckT h19 165 13).bind fun _ =>
      bd2 (fX14_isSign 165 125 h19) fun v22 h23 =>
      if v22 = 0 then (
        some (0, h23)
      ) else (
        some (1, h23)
      )
    )
  )
theorem end_e {L : List Int32} {m q : Nat} (hm : m ≠ 4) (ps : TY (m + 1)) (E : eP L q) (hq : q < L.length) : pEnd L m false ps q = bnd (pSign L 47 (q + 1)) fun _ r => bnd (pSign L 125 r) fun _ r2 => .inl ((ps, false), r2) := by
  unfold pEnd
  rw [if_neg (by omega)]
  by_cases c : hereL L (q + 1) = 47
  · rw [if_pos ⟨c, hm⟩, show pSign L 47 (q + 1) = .inl ((), q + 2) by unfold pSign; rw [if_pos c], bnd_l]
  · rw [if_neg (fun z => c z.1), if_neg (fun z => by cases z.2), show pSign L 47 (q + 1) = .inr (q + 1) by unfold pSign; rw [if_neg c], bnd_r]
theorem kZ_m {β : Type} {h : hp} {S off q c m : Nat} {L : List Int32} (X : MX h S off L) (mp' : MP h q c) (hq : q ≤ L.length) (hm : m ≠ 4) (ps : TY (m + 1)) (E : eP L q) (g : TY (m + 1) → β) (e : β → Nat) (he : e (g ps) = c) : MB L h q (bnd (pEnd L m false ps q) fun t p3 => .inl (g t.1, p3)) e (kZ h) := by
  have w := X.1
  have hl := X.2.2.2.2.2.2.2.2
  unfold kZ
  rw [gM w, Option.bind_some, gM w, Option.bind_some, mp'.1, X.2.2.2.1]
  by_cases c1 : q < L.length
  · rw [if_neg (by rw [i_eq (by omega) (by omega)]; omega), Option.bind_some, pM w, Option.bind_some, i_succ, ckM (X.fs (MS.at _)).1, Option.bind_some, end_e hm ps E c1, bnd_bnd]
    refine MB.up (h1 := pI h 165 14 (iN (q + 1))) (p1 := q + 1) ?_ (MS.at _) (Nat.le_succ q)
    refine MB.bd (X.fs (MS.at _)) (sign_m (X.fs (MS.at _)) (mp'.at (q + 1)) c1 (by decide)) fun a p1 h1 X1 m1 hp1 hp2 => ?_
    rw [ckM X1.1, Option.bind_some, bnd_bnd]
    exact MB.bd X1 (sign_m X1 m1 hp2 (by decide)) fun a p2 h2 X2 m2 hp3 hp4 => by rw [bnd_l]; exact MB.yes m2 hp4 _ he
  · obtain rfl : q = L.length := by omega
    rw [if_pos rfl, Option.bind_some, ckM w, Option.bind_some, pEnd, if_pos (Nat.le_refl _), if_neg hm, bnd_r]
    exact MB.no X mp' _ hl
theorem tb_end {L : List Int32} {m q : Nat} (ps : TY (m + 1)) (c : hereL L (q + 1) ≠ 58 ∨ L.length ≤ q) : pEnd L m true ps q = pEnd L m false ps q := by
  unfold pEnd
  by_cases d : L.length ≤ q
  · rw [if_pos d, if_pos d]
  · rw [if_neg d, if_neg d, if_neg (fun z : hereL L (q + 1) = 58 ∧ true = true => by rcases c with c | c; exact c z.1; exact d c), if_neg (fun z : hereL L (q + 1) = 58 ∧ false = true => by cases z.2)]
theorem end_f {L : List Int32} {m q : Nat} (ps : TY (m + 1)) {α : Type} (f g : TY (m + 1) × Bool → Nat → PR α) (e : ∀ t r, t.2 = false → f t r = g t r) : bnd (pEnd L m false ps q) f = bnd (pEnd L m false ps q) g := by
  unfold pEnd
  by_cases d : L.length ≤ q
  · rw [if_pos d]
    by_cases d2 : m = 4
    · rw [if_pos d2, bnd_l, bnd_l]; exact e _ _ rfl
    · rw [if_neg d2]; rfl
  rw [if_neg d]
  by_cases d3 : hereL L (q + 1) = 47 ∧ m ≠ 4
  · rw [if_pos d3, bnd_bnd, bnd_bnd]
    congr 1
    funext a r
    rw [bnd_l, bnd_l]; exact e _ _ rfl
  · rw [if_neg d3, if_neg (fun z => by cases z.2)]; rfl
theorem body_m {h : hp} {S off p c m n d : Nat} {L : List Int32} {G : gG2} {blk : Bool} (X : MX h S off L) (mp' : MP h p c) (hp' : p ≤ L.length) (hm : m ≤ 3)
    (ih : ∀ (bl : Bool) (g : hp) (p1 c' : Nat), p < p1 → p1 ≤ L.length → MX g S off L → MP g p1 c' → MB L g p1 (pPcs L n m bl p1) (fun t => c' + nodesT (m + 1) t) (G.2.2 165 (iN d + 1) (b2 bl) g)) :
    MB L h p (pBoth L (pAll L n) (m + 1) blk p) (fun io => c + (nodesT (m + 1) io.1 + nodesT (m + 1) io.2)) (fX14_isBodyRead_b G 165 (iN d) (b2 blk) 1 h) ∧
    MB L h p (bnd (pSign L 125 p) fun _ p2 => bnd (pAll L n (m + 1) blk false p2) fun t p3 => .inl (t.1, p3)) (fun t => c + nodesT (m + 1) t) (fX14_isBodyRead_b G 165 (iN d) (b2 blk) 0 h) := by
  have w := X.1
  have hl := X.2.2.2.2.2.2.2.2
  have m4 : m ≠ 4 := by omega
  constructor
  · unfold fX14_isBodyRead_b
    rw [ckM w, Option.bind_some, pBoth_e]
    rcases sign_m X mp' hp' (s := 125) (by decide) with ⟨u, p1, h1, b1, b2', b3, b4, b5, b6⟩ | ⟨f, h1, b1, b2', b3, b4, b5⟩
    · have hlt : p < p1 := by
        unfold pSign at b1
        by_cases q : hereL L p = 125
        · rw [if_pos q] at b1
          have : p + 1 = p1 := congrArg Prod.snd (Sum.inl.inj b1)
          omega
        · rw [if_neg q] at b1; cases b1
      have X1 := X.fs b3
      rw [b1, bnd_l, b2', bd2_s, if_neg z10, ckM X1.1, Option.bind_some]
      refine MB.up (h1 := h1) (p1 := p1) ?_ b3 b5
      unfold pBody
      rw [all_pcs, bnd_bnd]
      refine MB.b2 X1 (ih blk h1 p1 c hlt b6 X1 b4) fun ps q h2 s2 X2 m2 hp1 hp2 => ?_
      have E := pcs_end L _ _ _ _ _ _ s2
      rw [jn_e, if_neg z10, ckM X2.1, Option.bind_some, here_m X2 m2 (by omega), bd2_s]
      have plain : (hereL L (q + 1) ≠ 58 ∨ L.length ≤ q) → MB L h2 q (bnd (pEnd L m true ps q) fun t p2 => if t.2 = true then bnd (pAll L n (m + 1) blk false p2) fun o p3 => .inl ((t.1, o.1), p3) else .inl ((t.1, tyN (m + 1)), p2)) (fun io => c + (nodesT (m + 1) io.1 + nodesT (m + 1) io.2)) (kZ h2) := fun cc => by
        rw [tb_end ps cc, end_f ps _ (fun t p2 => .inl ((t.1, tyN (m + 1)), p2)) (fun t r ht => by rw [if_neg (by rw [ht]; decide)])]
        exact kZ_m X2 m2 hp2 m4 ps E (fun t => (t, tyN (m + 1))) _ (by show c + (nodesT (m + 1) ps + nodesT (m + 1) (tyN (m + 1))) = _; rw [nodes_nil]; rfl)
      by_cases c1 : hereL L q = 123
      · have hq := (here_lt c1 (by decide)).1
        rw [if_pos c1, ckM X2.1, Option.bind_some, ahead_m X2 m2 (by omega), bd2_s]
        by_cases c2 : hereL L (q + 1) = 58
        · obtain ⟨l3, _⟩ := here_lt c2 (by decide)
          rw [if_pos c2, gM X2.1, Option.bind_some, pM X2.1, Option.bind_some, m2.1, show iN q + 2 = iN (q + 2) from i_add q 2, ckM (X2.fs (MS.at _)).1, Option.bind_some]
          have e : pEnd L m true ps q = bnd (pSign L 125 (q + 2)) fun _ r => .inl ((ps, true), r) := by
            unfold pEnd
            rw [if_neg (by omega), if_neg (fun z => by rw [c2] at z; exact absurd z.1 (by decide)), if_pos ⟨c2, rfl⟩]
          rw [e, bnd_bnd]
          refine MB.up (h1 := pI h2 165 14 (iN (q + 2))) (p1 := q + 2) ?_ (MS.at _) (by omega)
          refine MB.bd (X2.fs (MS.at _)) (sign_m (X2.fs (MS.at _)) (m2.at (q + 2)) l3 (by decide)) fun a p3 h3 X3 m3 hp3 hp4 => ?_
          rw [bnd_l, if_pos rfl, ckM X3.1, Option.bind_some, all_pcs, bnd_bnd]
          refine MB.b2 X3 (ih blk h3 p3 _ (by omega) hp4 X3 m3) fun ps2 q2 h4 s4 X4 m4' hp5 hp6 => ?_
          exact kZ_m X4 m4' hp6 m4 ps2 (pcs_end L _ _ _ _ _ _ s4) (fun t => (ps, t)) _ (by show c + (nodesT (m + 1) ps + nodesT (m + 1) ps2) = c + nodesT (m + 1) ps + nodesT (m + 1) ps2; omega)
        · rw [if_neg c2]; exact plain (.inl c2)
      · rw [if_neg c1]
        refine plain (.inr ?_)
        rcases E with E | E
        · exact E
        · exact absurd E.2.1 c1
    · rw [b1, bnd_r, b2', bd2_s, if_pos rfl]
      exact .inr ⟨f, h1, rfl, rfl, b3, b4, b5⟩
  · unfold fX14_isBodyRead_b
    rw [ckM w, Option.bind_some]
    rcases sign_m X mp' hp' (s := 125) (by decide) with ⟨u, p1, h1, b1, b2', b3, b4, b5, b6⟩ | ⟨f, h1, b1, b2', b3, b4, b5⟩
    · have hlt : p < p1 := by
        unfold pSign at b1
        by_cases q : hereL L p = 125
        · rw [if_pos q] at b1
          have : p + 1 = p1 := congrArg Prod.snd (Sum.inl.inj b1)
          omega
        · rw [if_neg q] at b1; cases b1
      have X1 := X.fs b3
      rw [b1, bnd_l, b2', bd2_s, if_neg z10, ckM X1.1, Option.bind_some]
      refine MB.up (h1 := h1) (p1 := p1) ?_ b3 b5
      rw [all_pcs, bnd_bnd]
      refine MB.b2 X1 (ih blk h1 p1 c hlt b6 X1 b4) fun ps q h2 s2 X2 m2 hp1 hp2 => ?_
      rw [jn_e, if_pos rfl]
      exact kZ_m X2 m2 hp2 m4 ps (pcs_end L _ _ _ _ _ _ s2) (fun t => t) _ rfl
    · rw [b1, bnd_r, b2', bd2_s, if_pos rfl]
      exact .inr ⟨f, h1, rfl, rfl, b3, b4, b5⟩

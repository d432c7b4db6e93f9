/-! a text in the reference, gone through from left to right -/
/-- the text of a place -/
def TX (h : hp) (k : Nat) (L : List Int32) : Prop := WF h ∧ k < 6 ∧ L.length ≤ 160 ∧ hI h 174 k = iN L.length ∧ (∀ i, i < L.length → hI h 173 (160 * k + i) = L.getD i 0) ∧ ∀ i, i < L.length → 1 ≤ (L.getD i 0).toInt ∧ (L.getD i 0).toInt ≤ 127
theorem TX.tx {h : hp} {k i : Nat} {L : List Int32} (T : TX h k L) (hi : i < L.length) : alI h 173 (iN (160 * k + i)) = some (L.getD i 0) := by
  obtain ⟨w, t1, t2, t3, t4, t5⟩ := T
  rw [ML173 w (by omega), t4 i hi]
theorem TX.sz {h : hp} {k : Nat} {L : List Int32} (T : TX h k L) : alI h 174 (iN k) = some (iN L.length) := by
  rw [ML174 T.1 T.2.1, T.2.2.2.1]
theorem k160 (k : Nat) : (160 : Int32) * iN k = iN (160 * k) := i_mullit 160 k
theorem byte_e {h : hp} {k i : Nat} {L : List Int32} (T : TX h k L) (hi : i < L.length) : fX14_byteAt 165 (iN k) (iN i) h = some (L.getD i 0, h) := by
  unfold fX14_byteAt
  rw [MR8 T.1, Option.bind_some, k160, i_add, T.tx hi, Option.bind_some]
theorem line_l {h : hp} {k p : Nat} {L : List Int32} (T : TX h k L) (hp' : p ≤ L.length) : ∀ (d i n : Nat), i + d = p → d < n → fX14_lineAt_l5 n 165 (iN k) (iN p) (iN (lnAt L i)) (iN i) h = some (iN (lnAt L p), h) := by
  have hl := T.2.2.1
  intro d
  induction d with
  | zero =>
    intro i n hi hn
    obtain ⟨n, rfl⟩ : ∃ q, n = q + 1 := ⟨n - 1, by omega⟩
    have : i = p := by omega
    subst this
    rw [fX14_lineAt_l5, if_pos (by rw [i_le (by omega) (by omega)]; omega)]
  | succ d ih =>
    intro i n hi hn
    obtain ⟨n, rfl⟩ : ∃ q, n = q + 1 := ⟨n - 1, by omega⟩
    rw [fX14_lineAt_l5, if_neg (by rw [i_le (by omega) (by omega)]; omega), MR8 T.1, Option.bind_some, k160, i_add, T.tx (by omega), Option.bind_some]
    simp only [jn_e]
    have key := ih (i + 1) n (by omega) (by omega)
    by_cases c : L.getD i 0 = 10
    · rw [if_pos c, i_succ, i_succ, ← ln_more c]; exact key
    · rw [if_neg c, i_succ, show iN (lnAt L i) + 0 = iN (lnAt L i) from i_add _ 0, ← ln_same c]; exact key
theorem line_e {h : hp} {k p : Nat} {L : List Int32} (T : TX h k L) (hp' : p ≤ L.length) : fX14_lineAt 165 (iN k) (iN p) h = some (iN (lnAt L p), h) := by
  have hl := T.2.2.1
  have e := line_l T hp' p 0 FU (by omega) (by show _ < 1000000; omega)
  unfold fX14_lineAt
  rw [show fX14_lineAt_l5 FU 165 (iN k) (iN p) 1 0 h = _ from e, bd2_s]
/-- a way of going through all pieces -/
theorem pcs_ind {L : List Int32} (Q : (m : Nat) → Nat → TY (m + 1) → Nat → Prop)
    (h0 : ∀ m p, p ≤ L.length → eP L p → Q m p (tNil m) p)
    (hb : ∀ m p t q, p < L.length → hereL L p ≠ 123 → hereL L p ≠ 125 → Q m (p + 1) t q → Q m p (tCons (0, lnAt L p, hereL L p, 0, eN, eN, tyN m, tyN m) t) q)
    (hl : ∀ m p b (pc : PD (TY m)) t q, HdP L p b pc → (pc.1 = 1 ∨ pc.1 = 5 ∨ pc.1 = 6 ∨ pc.1 = 7) → pc.2.2.2.2.2.2.1 = tyN m → pc.2.2.2.2.2.2.2 = tyN m → Q m b t q → Q m p (tCons pc t) q)
    (hn : ∀ m p b (pc : PD (TY (m + 1))) t e0 q, m ≤ 3 → HdP L p b pc → (pc.1 = 2 ∨ pc.1 = 3 ∨ pc.1 = 4) → (pc.1 = 4 → ∃ n, pPcs L n m true b = .inl (pc.2.2.2.2.2.2.1, e0)) → Q m b pc.2.2.2.2.2.2.1 e0 → b ≤ e0 → e0 + 2 < L.length → hereL L e0 = 123 → hereL L (e0 + 1) = 47 → hereL L (e0 + 2) = 125 → pc.2.2.2.2.2.2.2 = tyN (m + 1) → Q (m + 1) (e0 + 3) t q → Q (m + 1) p (tCons pc t) q)
    (ho : ∀ m p b (pc : PD (TY (m + 1))) t e0 e1 q, m ≤ 3 → HdP L p b pc → (pc.1 = 2 ∨ pc.1 = 3) → Q m b pc.2.2.2.2.2.2.1 e0 → b ≤ e0 → e0 + 2 < L.length → hereL L e0 = 123 → hereL L (e0 + 1) = 58 → hereL L (e0 + 2) = 125 → Q m (e0 + 3) pc.2.2.2.2.2.2.2 e1 → e0 + 3 ≤ e1 → e1 + 2 < L.length → hereL L e1 = 123 → hereL L (e1 + 1) = 47 → hereL L (e1 + 2) = 125 → Q (m + 1) (e1 + 3) t q → Q (m + 1) p (tCons pc t) q) :
    ∀ (n m : Nat) (blk : Bool) (p q : Nat) (t : TY (m + 1)), m ≤ 4 → p ≤ L.length → pPcs L n m blk p = .inl (t, q) → p ≤ q ∧ q ≤ L.length ∧ Q m p t q := by
  intro n
  induction n with
  | zero => intro m blk p q t _ _ e; cases e
  | succ n ih =>
    intro m blk p q t hm hp' e
    have E := pcs_end L _ _ _ _ _ _ e
    unfold pPcs at e
    by_cases c : L.length ≤ p
    · rw [if_pos c] at e
      have a1 : tNil m = t := congrArg Prod.fst (Sum.inl.inj e)
      have a2 : p = q := congrArg Prod.snd (Sum.inl.inj e)
      subst a1 a2
      exact ⟨Nat.le_refl _, hp', h0 m p hp' E⟩
    rw [if_neg c] at e
    by_cases c2 : hereL L p = 123 ∧ (hereL L (p + 1) = 47 ∨ hereL L (p + 1) = 58)
    · rw [if_pos c2] at e
      have a1 : tNil m = t := congrArg Prod.fst (Sum.inl.inj e)
      have a2 : p = q := congrArg Prod.snd (Sum.inl.inj e)
      subst a1 a2
      exact ⟨Nat.le_refl _, hp', h0 m p hp' E⟩
    rw [if_neg c2] at e
    obtain ⟨pc, p1, s1, e⟩ := bnd_i e
    obtain ⟨r, q2, s2, e⟩ := bnd_i e
    have a1 : tCons pc r = t := congrArg Prod.fst (Sum.inl.inj e)
    have a2 : q2 = q := congrArg Prod.snd (Sum.inl.inj e)
    subst a1 a2
    rcases piece_i s1 (by omega) with ⟨i1, i2, i3, i4⟩ | ⟨b, H, i⟩
    · subst i3 i4
      obtain ⟨j1, j2, j3⟩ := ih m blk (p + 1) q2 r hm (by omega) s2
      exact ⟨by omega, j2, hb m p r q2 (by omega) i1 i2 j3⟩
    · have hb1 := H.1.2.1
      have hb2 := H.1.2.2.1
      rcases i with ⟨i1, i2, i3, i4, _⟩ | ⟨i0, i1, i2, tn, i3⟩ | ⟨i0, i1, i3⟩
      · subst i4
        obtain ⟨j1, j2, j3⟩ := ih m blk p1 q2 r hm hb2 s2
        exact ⟨by omega, j2, hl m p p1 pc r q2 H i1 i2 i3 j3⟩
      · obtain ⟨m, rfl⟩ : ∃ q, m = q + 1 := ⟨m - 1, by omega⟩
        obtain ⟨e0, k1, k2, k3, k4, k5, k6, k7⟩ := within_i (by omega) i3
        have tf : ¬ tn = true := fun z => by have := k7 z; cases this
        rw [if_neg tf] at k5
        subst k2
        obtain ⟨j1, j2, j3⟩ := ih m true b e0 _ (by omega) hb2 k1
        have k8 := (here_lt k6 (by decide)).1
        obtain ⟨l1, l2, l3⟩ := ih (m + 1) blk (e0 + 3) q2 r hm (by omega) s2
        exact ⟨by omega, l2, hn m p b pc r e0 q2 (by omega) H (.inr (.inr i1)) (fun _ => ⟨n, k1⟩) j3 j1 k8 k4 k5 k6 i2 l3⟩
      · obtain ⟨m, rfl⟩ : ∃ q, m = q + 1 := ⟨m - 1, by omega⟩
        obtain ⟨e0, k1, k3, k4, k6, k7⟩ := body_i (by omega) i3
        obtain ⟨j1, j2, j3⟩ := ih m blk b e0 _ (by omega) hb2 k1
        have k8 := (here_lt k6 (by decide)).1
        rcases k7 with ⟨u1, u2, u3⟩ | ⟨u1, e1, u2, u3, u4, u5, u6, u7⟩
        · subst u3
          obtain ⟨l1, l2, l3⟩ := ih (m + 1) blk (e0 + 3) q2 r hm (by omega) s2
          exact ⟨by omega, l2, hn m p b pc r e0 q2 (by omega) H (i1.elim .inl fun z => .inr (.inl z)) (fun z => by omega) j3 j1 k8 k4 u1 k6 u2 l3⟩
        · subst u7
          obtain ⟨v1, v2, v3⟩ := ih m blk (e0 + 3) e1 _ (by omega) (by omega) u2
          have w8 := (here_lt u6 (by decide)).1
          obtain ⟨l1, l2, l3⟩ := ih (m + 1) blk (e1 + 3) q2 r hm (by omega) s2
          exact ⟨by omega, l2, ho m p b pc r e0 e1 q2 (by omega) H i1 j3 j1 k8 k4 u1 k6 v3 v1 w8 u4 u5 u6 l3⟩
theorem top_i {L : List Int32} {b : Option Nat} {t : TY 5} {q : Nat} (h : pTop L = .inl ((b, t), q)) : q = L.length ∧ ∃ n p0, pPcs L n 4 false p0 = .inl (t, q) ∧ ((b = none ∧ p0 = 0 ∧ ¬ (hereL L 0 = 123 ∧ hereL L 1 = 60)) ∨ ∃ k, k < 6 ∧ b = some k ∧ p0 = 4 ∧ 4 ≤ L.length ∧ hereL L 0 = 123 ∧ hereL L 1 = 60 ∧ hereL L 2 = iN (48 + k) ∧ hereL L 3 = 125) := by
  have fin : ∀ (p0 : Nat) (r : TY 5 × Bool) (q : Nat), p0 ≤ L.length → pAll L 161 5 false false p0 = .inl (r, q) → q = L.length ∧ pPcs L 161 4 false p0 = .inl (r.1, q) := by
    intro p0 r q hp' e
    rw [all_pcs] at e
    obtain ⟨ps, e0, s1, e⟩ := bnd_i e
    unfold pEnd at e
    by_cases c : L.length ≤ e0
    · rw [if_pos c, if_pos rfl] at e
      have a1 : (ps, false) = r := congrArg Prod.fst (Sum.inl.inj e)
      have a2 : e0 = q := congrArg Prod.snd (Sum.inl.inj e)
      subst a1 a2
      have := (pcs_ind (L := L) (fun _ _ _ _ => True) (fun _ _ _ _ => trivial) (fun _ _ _ _ _ _ _ _ => trivial) (fun _ _ _ _ _ _ _ _ _ _ _ => trivial) (fun _ _ _ _ _ _ _ _ _ _ _ _ _ _ _ _ _ _ _ => trivial) (fun _ _ _ _ _ _ _ _ _ _ _ _ _ _ _ _ _ _ _ _ _ _ _ _ => trivial) 161 4 false p0 e0 ps (by decide) hp' s1).2.1
      exact ⟨by omega, s1⟩
    · rw [if_neg c, if_neg (fun z => z.2 rfl), if_neg (fun z => by cases z.2)] at e; cases e
  unfold pTop at h
  by_cases c : hereL L 0 = 123 ∧ hereL L 1 = 60
  · rw [if_pos c] at h
    obtain ⟨k, p1, s1, h⟩ := bnd_i h
    obtain ⟨u, p2, s2, h⟩ := bnd_i h
    obtain ⟨r, q', s3, h⟩ := bnd_i h
    have h1 := Sum.inl.inj h
    have a1 : (some k, r.1) = (b, t) := congrArg Prod.fst h1
    have a2 : q' = q := congrArg Prod.snd h1
    have a3 : some k = b := congrArg Prod.fst a1
    have a4 : r.1 = t := congrArg Prod.snd a1
    subst a2 a3 a4
    obtain ⟨b1, b2', b3⟩ := one_i (by decide) s1
    obtain ⟨d1, d2⟩ := sign_i s2
    subst b2' d2
    have hlt := (here_lt d1 (by decide)).1
    obtain ⟨f1, f2⟩ := fin 4 r q' (by omega) s3
    exact ⟨f1, 161, 4, f2, .inr ⟨k, b3, rfl, rfl, by omega, c.1, c.2, b1, d1⟩⟩
  · rw [if_neg c] at h
    obtain ⟨r, q', s3, h⟩ := bnd_i h
    have h1 := Sum.inl.inj h
    have a1 : (none, r.1) = (b, t) := congrArg Prod.fst h1
    have a2 : q' = q := congrArg Prod.snd h1
    have a3 : none = b := congrArg Prod.fst a1
    have a4 : r.1 = t := congrArg Prod.snd a1
    subst a2 a3 a4
    obtain ⟨f1, f2⟩ := fin 0 r q' (Nat.zero_le _) s3
    exact ⟨f1, 161, 0, f2, .inl ⟨rfl, rfl, c⟩⟩

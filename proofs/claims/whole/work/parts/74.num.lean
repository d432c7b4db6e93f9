/-! the class's reader: all filters; values newly laid; numbers -/
theorem filters_o {h : hp} {o tp bx p : Nat} {L : List Int32} (R : RD h o tp bx L) (z : ZH h) (r : RO h o tp L p) :
    (∃ fs p' v h', pFils L 161 p = .inl (fs, p') ∧ fX7_readFilters o h = some (v, h') ∧ FG (KO o) h h' ∧ ZH h' ∧ RO h' o tp L p' ∧ p < p' ∧ hN h' ≤ hN h + (p' - p) ∧ hL h' ≤ hL h + 3 * (p' - p) ∧ RepF h' (64 + hN h) (64 + hN h') fs v) ∨
    (∃ f v h', pFils L 161 p = .inr f ∧ p ≤ f ∧ f ≤ 160 ∧ fX7_readFilters o h = some (v, h') ∧ FG (KO o) h h' ∧ ZH h' ∧ hN h' ≤ hN h + (f - p) ∧ hL h' ≤ hL h + 3 * (f - p) ∧ RG h' o f) := by
  have up : ∀ x k, KX o 0 x k → KO o x k := fun x k q => by
    rcases q with q | q
    · exact q
    · exact absurd rfl q.2.1
  rcases fils_o 161 FU 0 p 0 0 h R z r (.inl rfl) (Nat.zero_le _) (by omega) (by show 161 < 1000000; omega) with ⟨fs, p', v, h', i1, i2, i3, i4, i5, i6, i7, i8, i9, i10, i11⟩ | ⟨f, t, v, h', i1, i2, i3, i4, i5, i6, i7, i8, i9⟩
  · refine .inl ⟨fs, p', v, h', i1, ?_, i3.up up, i4, i5, i6, i7, i8, i10⟩
    unfold fX7_readFilters
    rw [show fX7_readFilters_l6 FU o 0 0 0 h = _ from i2]
    rfl
  · rcases i9 with ⟨rfl, r'⟩ | ⟨ht, g'⟩
    · have F := i5.up up
      have R' := R.fg (F.up fun _ _ q => .inl q)
      have s := SS.pO R' i6 (k := 4) (hI h' o 2) (by decide)
      refine .inr ⟨f, v, pI h' o 4 (hI h' o 2), i1, i2, i3, ?_, F.tr s.1, s.2.1, i7, i8, by rw [r'.1]; exact RG.of (by omega)⟩
      unfold fX7_readFilters
      rw [show fX7_readFilters_l6 FU o 0 0 0 h = _ from i4]
      show ((ckT h' o 6).bind fun _ => (fX7_refuse o h').bind fun h6 => some (v, h6)) = _
      rw [ckO R', Option.bind_some, refuse_p R' r'.2.2.1, Option.bind_some]
    · refine .inr ⟨f, v, h', i1, i2, i3, ?_, i5.up up, i6, i7, i8, g'⟩
      unfold fX7_readFilters
      rw [show fX7_readFilters_l6 FU o 0 0 0 h = _ from i4]
      rcases ht with rfl | rfl <;> rfl
theorem filters_g {h : hp} {o tp bx f : Nat} {L : List Int32} (R : RD h o tp bx L) (g : RG h o f) : fX7_readFilters o h = some (0, h) := by
  unfold fX7_readFilters
  rw [show fX7_readFilters_l6 FU o 0 0 0 h = _ from fils_g R g 999999 0 0 0]
  rfl
/-- a Value newly laid -/
def nV (h : hp) : hp := pR (nw (nw h 10 5) 100 16) (64 + hN h) 4 (65 + hN h)
theorem nV_k {α : Type} {h : hp} (K : Nat → hp → Option α) : (bd2 (nwO h 10 5) fun v1 h2 => (ckT h2 v1 10).bind fun _ => (fX11_init v1 h2).bind fun h5 => K v1 h5) = K (64 + hN h) (nV h) := by
  have t1 : hT (nw h 10 5) (64 + hN h) = (10, 5) := by rw [hT_nw]; dsimp only; rw [if_pos rfl]
  have t2 : hT (nw (nw h 10 5) 100 16) (64 + hN h) = (10, 5) := by rw [hT_nw]; dsimp only; rw [hN_nw, if_neg (by omega)]; exact t1
  have c1 : ckT (nw h 10 5) (64 + hN h) 10 = some () := by unfold ckT; rw [t1]; rfl
  have c2 : pfR (nw (nw h 10 5) 100 16) (64 + hN h) 10 4 (65 + hN h) = some (nV h) := by unfold pfR; rw [t2]; rfl
  have c3 : nwA (nw h 10 5) 0 16 = some (65 + hN h, nw (nw h 10 5) 100 16) := by
    have : nwA (nw h 10 5) 0 16 = some (64 + hN (nw h 10 5), nw (nw h 10 5) (100 + 0) 16) := rfl
    rw [this, hN_nw, show 64 + (hN h + 1) = 65 + hN h by omega]
  have c4 : fX11_init (64 + hN h) (nw h 10 5) = some (nV h) := by
    unfold fX11_init
    rw [c1, Option.bind_some, c3, bd2_s, c2, Option.bind_some]
  show ((ckT (nw h 10 5) (64 + hN h) 10).bind fun _ => (fX11_init (64 + hN h) (nw h 10 5)).bind fun h5 => K (64 + hN h) h5) = _
  rw [c1, Option.bind_some, c4, Option.bind_some]
theorem nV_s {h : hp} (z : ZH h) (o : Nat) : SS o h (nV h) 2 21 ∧ VO (nV h) (64 + hN h) (65 + hN h) ∧ hN (nV h) = hN h + 2 ∧ hL (nV h) = hL h + 21 ∧ ∀ x k, hI (nV h) x k = hI h x k := by
  refine ⟨⟨fgRn ((FG.nw h 10 5).tr (FG.nw _ 100 16)) 4 _ (Nat.le_refl _), ((z.nw 10 5).nw 100 16).pR 4 _ (by rw [hN_nw, hN_nw]; omega), by show hN h + 1 + 1 ≤ _; omega, by show hL h + 5 + 16 ≤ _; omega⟩, ⟨?_, ?_, ?_, by omega⟩, rfl, rfl, fun _ _ => rfl⟩
  · show hT (nw (nw h 10 5) 100 16) (64 + hN h) = _
    rw [hT_nw]; dsimp only; rw [hN_nw, if_neg (by omega), hT_nw]; dsimp only; rw [if_pos rfl]
  · show hT (nw (nw h 10 5) 100 16) (65 + hN h) = _
    rw [hT_nw]; dsimp only; rw [hN_nw, if_pos (by omega)]
  · show hR (pR _ _ _ _) _ _ = _
    rw [hR_pR, if_pos ⟨rfl, rfl⟩]
/-- a value in the heap -/
def RepV (h : hp) (lo hi a : Nat) (c : vT) : Prop := ∃ b, lo ≤ a ∧ a < hi ∧ lo ≤ b ∧ b < hi ∧ CV h a b c ∧ gV c
theorem VO.fg {P : Nat → Nat → Prop} {h h' : hp} {a b : Nat} (v : VO h a b) (f : FG P h h') (ha : a < 64 + hN h) (hb : b < 64 + hN h) (pa : ¬ P a 4) : VO h' a b :=
  ⟨by rw [f.2.2.1 a ha]; exact v.1, by rw [f.2.2.1 b hb]; exact v.2.1, by rw [(f.2.2.2 a 4 ha pa).2.2]; exact v.2.2.1, v.2.2.2⟩
/-- a number put into a Value -/
theorem bI_e {h : hp} {a b : Nat} (v : VO h a b) (x : Int32) : fX11_becomeInt a x h = some (pI (pI (pI h a 0 1) a 1 x) a 3 0) ∧ CV (pI (pI (pI h a 0 1) a 1 x) a 3 0) a b (vI x) := by
  have p : ∀ {g : hp} (k : Nat) (y : Int32), hT g a = (10, 5) → pfI g a 10 k y = some (pI g a k y) := fun k y t => by unfold pfI; rw [t]; rfl
  refine ⟨?_, ⟨v.1, v.2.1, v.2.2.1, v.2.2.2⟩, ?_, by simp [vI], fun _ => ?_, fun q => by simp [vI] at q, fun q => by simp [vI] at q⟩
  · unfold fX11_becomeInt
    rw [p 0 1 v.1, Option.bind_some, p 1 x (by exact v.1), Option.bind_some, p 3 0 (by exact v.1), Option.bind_some]
  · rw [hI_pI, if_neg (by omega), hI_pI, if_neg (by omega), hI_pI, if_pos ⟨rfl, rfl⟩]; rfl
  · rw [hI_pI, if_neg (by omega), hI_pI, if_pos ⟨rfl, rfl⟩]; rfl
theorem num_g {h : hp} {o tp bx f : Nat} {L : List Int32} (R : RD h o tp bx L) (z : ZH h) (g : RG h o f) : ∃ v h', fX7_readNumber o h = some (v, h') ∧ SS o h h' 2 21 ∧ RG h' o f := by
  obtain ⟨S1, V1, n1, l1, e1⟩ := nV_s z o
  have R1 := S1.rd R
  have g1 : RG (nV h) o f := ⟨by rw [e1]; exact g.1, g.2⟩
  have ho := R.2.2.2.2.2.2.2.2.1
  have tail : ∀ (hh : hp) (y : Int32), SS o (nV h) hh 0 0 → RG hh o f → ∃ v h', ((ckT hh o 6).bind fun _ => bd2 (fX7_readFigures o hh) fun v12 h13 => jn (fun (s53_0 : Int32) (h53j : hp) => ((ckT h53j (64 + hN h) 10).bind fun _ => (fX11_becomeInt (64 + hN h) s53_0 h53j).bind fun h16 => some (64 + hN h, h16) : Option (Nat × hp))) fun k53 => if y = 0 then k53 v12 h13 else k53 (-v12) h13) = some (v, h') ∧ SS o h h' 2 21 ∧ RG h' o f := by
    intro hh y S2 g2
    have R2 := S2.rd R1
    obtain ⟨v, h3, e3, S3, g3⟩ := figures_g R2 S2.2.1 g2
    have S4 := S2.tr S3
    have V3 : VO h3 (64 + hN h) (65 + hN h) := V1.fg S4.1 (by omega) (by omega) (fun q => by have := q.1; omega)
    have fin : ∀ x : Int32, ∃ v h', ((ckT h3 (64 + hN h) 10).bind fun _ => (fX11_becomeInt (64 + hN h) x h3).bind fun h16 => some (64 + hN h, h16)) = some (v, h') ∧ SS o h h' 2 21 ∧ RG h' o f := fun x => by
      have S5 := S1.tr S4
      have N5 := S4.1.1
      rw [ckV V3, Option.bind_some, (bI_e V3 x).1, Option.bind_some]
      refine ⟨_, _, rfl, ⟨fgIn (fgIn (fgIn S5.1 0 1 (Nat.le_refl _)) 1 x (Nat.le_refl _)) 3 0 (Nat.le_refl _), ((S5.2.1.pI 0 1 (by omega)).pI 1 x (by rw [hN_pI]; omega)).pI 3 0 (by rw [hN_pI, hN_pI]; omega), S5.2.2.1, S5.2.2.2⟩, ⟨?_, g3.2⟩⟩
      rw [hI_pI, if_neg (by omega), hI_pI, if_neg (by omega), hI_pI, if_neg (by omega)]; exact g3.1
    rw [ckO R2, Option.bind_some, e3, bd2_s, jn_e]
    by_cases c : y = 0
    · rw [if_pos c]; exact fin v
    · rw [if_neg c]; exact fin (-v)
  unfold fX7_readNumber
  rw [nV_k]
  rw [ckO R1, Option.bind_some, peek_e R1, bd2_s, jn_e]
  by_cases c : hv L (hI (nV h) o 2) = 45
  · rw [if_pos c]; dsimp only
    rw [jn_e, if_neg z10, gO R1, Option.bind_some, pO R1, Option.bind_some]
    exact tail _ 1 (SS.pO R1 S1.2.1 _ (by decide)) (g1.pO _ (by decide))
  · rw [if_neg c]; dsimp only
    rw [jn_e, if_pos rfl]
    exact tail _ 0 (SS.rf S1.2.1) g1
def pNum (L : List Int32) (p : Nat) : PR vT :=
  if hereL L p = 45 then bnd (pFigs L (p + 1)) fun m q => .inl (vI (-iN m), q) else bnd (pFigs L p) fun m q => .inl (vI (iN m), q)
theorem inI_n {m : Nat} (h : m < 100000) : inI (iN m) ∧ inI (-iN m) := by
  have e : (iN m).toInt = m := i_toInt (by omega)
  have e2 : (-iN m).toInt = -(m : Int) := by
    rw [Int32.toInt_neg, e, Int.bmod_eq_of_le (by omega) (by omega)]
  refine ⟨?_, ?_⟩
  · show -1000000 ≤ (iN m).toInt ∧ (iN m).toInt ≤ 1000000
    omega
  · show -1000000 ≤ (-iN m).toInt ∧ (-iN m).toInt ≤ 1000000
    omega
theorem num_o {h : hp} {o tp bx p : Nat} {L : List Int32} (R : RD h o tp bx L) (z : ZH h) (r : RO h o tp L p) :
    (∃ c p' h', pNum L p = .inl (c, p') ∧ fX7_readNumber o h = some (64 + hN h, h') ∧ SS o h h' 2 21 ∧ RO h' o tp L p' ∧ p < p' ∧ RepV h' (64 + hN h) (64 + hN h') (64 + hN h) c) ∨
    (∃ f v h', pNum L p = .inr f ∧ p ≤ f ∧ f ≤ 160 ∧ fX7_readNumber o h = some (v, h') ∧ SS o h h' 2 21 ∧ RG h' o f) := by
  obtain ⟨S1, V1, n1, l1, e1⟩ := nV_s z o
  have R1 := S1.rd R
  have hp' := r.lt R
  have r1 : RO (nV h) o tp L p := ⟨by rw [e1]; exact r.1, by rw [e1]; exact r.2.1, by rw [e1]; exact r.2.2.1, r.2.2.2⟩
  have ho := R.2.2.2.2.2.2.2.2.1
  have tail : ∀ (hh : hp) (y : Int32) (p1 : Nat), SS o (nV h) hh 0 0 → RO hh o tp L p1 → p ≤ p1 →
      (∃ m p', pFigs L p1 = .inl (m, p') ∧ m < 100000 ∧ p < p' ∧ ∃ h', ((ckT hh o 6).bind fun _ => bd2 (fX7_readFigures o hh) fun v12 h13 => jn (fun (s53_0 : Int32) (h53j : hp) => ((ckT h53j (64 + hN h) 10).bind fun _ => (fX11_becomeInt (64 + hN h) s53_0 h53j).bind fun h16 => some (64 + hN h, h16) : Option (Nat × hp))) fun k53 => if y = 0 then k53 v12 h13 else k53 (-v12) h13) = some (64 + hN h, h') ∧ SS o h h' 2 21 ∧ RO h' o tp L p' ∧ RepV h' (64 + hN h) (64 + hN h') (64 + hN h) (vI (if y = 0 then iN m else -iN m))) ∨
      (pFigs L p1 = .inr p1 ∧ p1 ≤ 160 ∧ ∃ v h', ((ckT hh o 6).bind fun _ => bd2 (fX7_readFigures o hh) fun v12 h13 => jn (fun (s53_0 : Int32) (h53j : hp) => ((ckT h53j (64 + hN h) 10).bind fun _ => (fX11_becomeInt (64 + hN h) s53_0 h53j).bind fun h16 => some (64 + hN h, h16) : Option (Nat × hp))) fun k53 => if y = 0 then k53 v12 h13 else k53 (-v12) h13) = some (v, h') ∧ SS o h h' 2 21 ∧ RG h' o p1) := by
    intro hh y p1 S2 r2 hp1
    have R2 := S2.rd R1
    have hl2 := r2.lt R2
    have fin : ∀ (h3 : hp) (x : Int32), SS o (nV h) h3 0 0 → ((ckT h3 (64 + hN h) 10).bind fun _ => (fX11_becomeInt (64 + hN h) x h3).bind fun h16 => some (64 + hN h, h16)) = some (64 + hN h, pI (pI (pI h3 (64 + hN h) 0 1) (64 + hN h) 1 x) (64 + hN h) 3 0) ∧ SS o h (pI (pI (pI h3 (64 + hN h) 0 1) (64 + hN h) 1 x) (64 + hN h) 3 0) 2 21 ∧ CV (pI (pI (pI h3 (64 + hN h) 0 1) (64 + hN h) 1 x) (64 + hN h) 3 0) (64 + hN h) (65 + hN h) (vI x) ∧ ∀ k, hI (pI (pI (pI h3 (64 + hN h) 0 1) (64 + hN h) 1 x) (64 + hN h) 3 0) o k = hI h3 o k := fun h3 x S4 => by
      have S5 := S1.tr S4
      have N5 := S4.1.1
      have V3 : VO h3 (64 + hN h) (65 + hN h) := V1.fg S4.1 (by omega) (by omega) (fun q => by have := q.1; omega)
      rw [ckV V3, Option.bind_some, (bI_e V3 x).1, Option.bind_some]
      refine ⟨rfl, ⟨fgIn (fgIn (fgIn S5.1 0 1 (Nat.le_refl _)) 1 x (Nat.le_refl _)) 3 0 (Nat.le_refl _), ((S5.2.1.pI 0 1 (by omega)).pI 1 x (by rw [hN_pI]; omega)).pI 3 0 (by rw [hN_pI, hN_pI]; omega), S5.2.2.1, S5.2.2.2⟩, (bI_e V3 x).2, fun k => ?_⟩
      rw [hI_pI, if_neg (by omega), hI_pI, if_neg (by omega), hI_pI, if_neg (by omega)]
    rcases figures_o R2 S2.2.1 r2 with ⟨m, p', s3, u1, u2, h3, e3, S3, r3⟩ | ⟨s3, v, h3, e3, S3, g3⟩
    · have S4 := S2.tr S3
      have N5 := S4.1.1
      refine .inl ⟨m, p', s3, u1, by omega, ?_⟩
      have key : ∀ x : Int32, inI x → ∃ h', ((ckT h3 (64 + hN h) 10).bind fun _ => (fX11_becomeInt (64 + hN h) x h3).bind fun h16 => some (64 + hN h, h16)) = some (64 + hN h, h') ∧ SS o h h' 2 21 ∧ RO h' o tp L p' ∧ RepV h' (64 + hN h) (64 + hN h') (64 + hN h) (vI x) := fun x hx => by
        obtain ⟨f1, f2, f3, f4⟩ := fin h3 x S4
        exact ⟨_, f1, f2, ⟨by rw [f4]; exact r3.1, by rw [f4]; exact r3.2.1, by rw [f4]; exact r3.2.2.1, r3.2.2.2⟩, 65 + hN h, Nat.le_refl _, by rw [hN_pI, hN_pI, hN_pI]; omega, by omega, by rw [hN_pI, hN_pI, hN_pI]; omega, f3, gvI hx⟩
      rw [ckO R2, Option.bind_some, e3, bd2_s, jn_e]
      by_cases c : y = 0
      · rw [if_pos c, if_pos c]; exact key (iN m) (inI_n u1).1
      · rw [if_neg c, if_neg c]; exact key (-iN m) (inI_n u1).2
    · have S4 := S2.tr S3
      refine .inr ⟨s3, hl2, ?_⟩
      have key : ∀ x : Int32, ∃ v h', ((ckT h3 (64 + hN h) 10).bind fun _ => (fX11_becomeInt (64 + hN h) x h3).bind fun h16 => some (64 + hN h, h16)) = some (v, h') ∧ SS o h h' 2 21 ∧ RG h' o p1 := fun x => by
        obtain ⟨f1, f2, f3, f4⟩ := fin h3 x S4
        exact ⟨_, _, f1, f2, by rw [f4]; exact g3.1, g3.2⟩
      rw [ckO R2, Option.bind_some, e3, bd2_s, jn_e]
      by_cases c : y = 0
      · rw [if_pos c]; exact key v
      · rw [if_neg c]; exact key (-v)
  unfold fX7_readNumber pNum
  rw [nV_k]
  rw [ckO R1, Option.bind_some, peek_p R1 (by omega) r1.1, bd2_s, jn_e]
  by_cases c : hereL L p = 45
  · obtain ⟨l1, l2⟩ := here_lt c (by decide)
    rw [if_pos c, if_pos c]; dsimp only
    rw [jn_e, if_neg z10, gO R1, Option.bind_some, pO R1, Option.bind_some, r1.1, i_succ]
    rcases tail _ 1 (p + 1) (SS.pO R1 S1.2.1 _ (by decide)) (r1.step l1 (by rw [l2]; decide)) (by omega) with ⟨m, p', s3, u1, u2, h', t1, t2, t3, t4⟩ | ⟨s3, u1, v, h', t1, t2, t3⟩
    · rw [if_neg z10] at t4
      exact .inl ⟨_, p', h', by rw [s3]; rfl, t1, t2, t3, u2, t4⟩
    · exact .inr ⟨p + 1, v, h', by rw [s3]; rfl, by omega, u1, t1, t2, t3⟩
  · rw [if_neg c, if_neg c]; dsimp only
    rw [jn_e, if_pos rfl]
    rcases tail _ 0 p (SS.rf S1.2.1) r1 (Nat.le_refl _) with ⟨m, p', s3, u1, u2, h', t1, t2, t3, t4⟩ | ⟨s3, u1, v, h', t1, t2, t3⟩
    · rw [if_pos rfl] at t4
      exact .inl ⟨_, p', h', by rw [s3]; rfl, t1, t2, t3, u2, t4⟩
    · exact .inr ⟨p, v, h', by rw [s3]; rfl, Nat.le_refl _, u1, t1, t2, t3⟩

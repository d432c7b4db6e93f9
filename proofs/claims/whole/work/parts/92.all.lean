/-! the class's reader: pieces to their end -/
theorem RepE.lk {P : Nat → Nat → Prop} {h h' : hp} {lo hi lo' hi' v V : Nat} {e : EX} (H : RepE h lo hi v e) (f : FG (fun x k => P x k ∨ (x = V ∧ k = 8)) h h') (hh : hi ≤ 64 + hN h) (hP : ∀ x k, lo ≤ x → x < hi → ¬ P x k) (tV : hT h V = (5, 9)) (h1 : lo' ≤ lo) (h2 : hi ≤ hi') : RepE h' lo' hi' v e := by
  have fr : ∀ x, lo ≤ x → x < hi → hT h x ≠ (5, 9) → hT h' x = hT h x ∧ ∀ k, hI h' x k = hI h x k ∧ hF h' x k = hF h x k ∧ hR h' x k = hR h x k := fun x x1 x2 x3 => ⟨f.2.2.1 x (by omega), fun k => f.2.2.2 x k (by omega) (fun q => by
    rcases q with q | q
    · exact hP x k x1 x2 q
    · rw [q.1] at x3; exact x3 tV)⟩
  have fF : ∀ (fs : List (Nat × Nat)) (v : Nat), RepF h lo hi fs v → RepF h' lo' hi' fs v := by
    intro fs
    induction fs with
    | nil => intro v r; exact r
    | cons f fs ih =>
      intro v r
      obtain ⟨r1, r2, r3, r4, r5, r6, r7, r8⟩ := r
      obtain ⟨a, b⟩ := fr v r1 r2 (by rw [r3]; decide)
      refine ⟨by omega, by omega, by rw [a]; exact r3, by rw [(b 0).2.2]; exact r4, by rw [(b 1).1]; exact r5, r6, r7, ?_⟩
      rw [(b 2).2.2]; exact ih _ r8
  obtain ⟨e1, e2, e3, e4, e5, e6, e7, e8⟩ := H
  obtain ⟨a, b⟩ := fr v e1 e2 (by rw [e3]; decide)
  refine ⟨by omega, by omega, by rw [a]; exact e3, e4, by rw [(b 0).1]; exact e5, fun q => by rw [(b 1).1]; exact e6 q, fun q => ?_, ?_⟩
  · rw [(b 2).2.2]
    obtain ⟨c, c1, c2, c3, c4, C, g⟩ := e7 q
    obtain ⟨⟨v1, v2, v3, v4⟩, h2', h3, h4, h5, h6⟩ := C
    obtain ⟨aa, ab⟩ := fr _ c1 c2 (by rw [v1]; decide)
    obtain ⟨ba, bb⟩ := fr _ c3 c4 (by rw [v2]; decide)
    refine ⟨c, by omega, by omega, by omega, by omega, ⟨⟨by rw [aa]; exact v1, by rw [ba]; exact v2, by rw [(ab 4).2.2]; exact v3, v4⟩, by rw [(ab 0).1]; exact h2', h3, by rw [(ab 1).1]; exact h4, by rw [(ab 2).2.1]; exact h5, fun hv => ?_⟩, g⟩
    obtain ⟨g1, g2, g3⟩ := h6 hv
    exact ⟨by rw [(ab 3).1]; exact g1, g2, fun k hk => by rw [(bb k).1]; exact g3 k hk⟩
  · rw [(b 3).2.2]; exact fF _ _ e8
theorem RepN.lk {P : Nat → Nat → Prop} {h h' : hp} {V hi hi' m : Nat} {pc : PD (TY m)} (H : RepN (RepT h (V + 1) hi m) h V hi pc V) (f : FG (fun x k => P x k ∨ (x = V ∧ k = 8)) h h') (hh : hi ≤ 64 + hN h) (hP : ∀ x k, V ≤ x → x < hi → ¬ P x k) (h2 : hi ≤ hi') : RepN (RepT h' V hi' m) h' V hi' pc V := by
  obtain ⟨e1, e2, e3, e4, e5, e6, e7, e8, e9, e10, e11, e12, e13⟩ := H
  have q := fun k (hk : k ≠ 8) => f.2.2.2 V k (by omega) (fun q => by
    rcases q with q | q
    · exact hP V k e1 e2 q
    · exact hk q.2)
  have hs : ∀ (t : TY m) x, RepT h (V + 1) hi m t x → RepT h' V hi' m t x := fun t x T => RepT.fg f hh (fun y k y1 y2 q => by
    rcases q with q | q
    · exact hP y k (by omega) y2 q
    · omega) (by omega) h2 _ _ _ T
  refine ⟨by omega, by omega, by rw [f.2.2.1 V (by omega)]; exact e3, e4, by rw [(q 0 (by decide)).1]; exact e5, by rw [(q 1 (by decide)).1]; exact e6, by rw [(q 2 (by decide)).1]; exact e7, e8, by rw [(q 3 (by decide)).1]; exact e9, fun x => ?_, fun x y => ?_, ?_, ?_⟩
  · rw [(q 4 (by decide)).2.2]; exact (e10 x).lk f hh hP e3 (Nat.le_refl _) h2
  · rw [(q 5 (by decide)).2.2]; exact (e11 x y).lk f hh hP e3 (Nat.le_refl _) h2
  · rw [(q 6 (by decide)).2.2]; exact hs _ _ e12
  · rw [(q 7 (by decide)).2.2]; exact hs _ _ e13
def k88 (g : gG0) (n x0 : Nat) (x1 x2 x3 : Int32) (x4 x5 : Nat) (x6 : Int32) (h : hp) : Option (Nat × Nat × hp) :=
  (ckT h x0 6).bind fun _ =>
  bd2 (g.2.1 x0 x1 x2 h) fun v14 h15 =>
  if x5 = 0 then fX7_readAll_l14 g n x0 x1 x2 x3 v14 v14 (x6 + 1) h15
  else (pfR h15 x5 5 8 v14).bind fun h17 => fX7_readAll_l14 g n x0 x1 x2 x3 x4 v14 (x6 + 1) h17
theorem l14_st {h : hp} {o tp bx p i : Nat} {L : List Int32} (R : RD h o tp bx L) (r : RO h o tp L p) (hi : i ≤ 160) (g : gG0) (n : Nat) (x1 x2 x3 : Int32) (x4 x5 : Nat) : fX7_readAll_l14 g (n + 1) o x1 x2 x3 x4 x5 (iN i) h = if p < L.length then (if hereL L p = 123 then bd2 (fX7_endsHere o (hereL L (p + 1)) x1 x3 h) fun v28 h29 => if v28 = 0 then k88 g n o x1 x2 x3 x4 x5 (iN i) h29 else some (1, x4, h29) else k88 g n o x1 x2 x3 x4 x5 (iN i) h) else some (0, x4, h) := by
  have hl := r.lt R
  have N := R.2.2.2.2.2.2.2.1
  have hlen := R.len
  have c1 : ¬ (160 < iN i) := by rw [i_lit_lt (by decide) (by omega)]; show ¬ (160 < i); omega
  have g128 : gfI h 128 4 1 = some (iN L.length) := by rw [gIN N.1, N.2.1]
  have ck4 : ckT h 128 4 = some () := ckN N.1
  have c2 : iN p < iN L.length ↔ p < L.length := by rw [i_lt (by omega) (by omega)]
  have at1 : fX5_at 128 (iN p + 1) h = some (hereL L (p + 1), h) := by
    rw [i_succ, nAt N.1 N.2.1 N.2.2.1, i_toInt (by omega), i_clamp (by omega)]
    unfold hereL
    by_cases c : p + 1 < L.length
    · rw [if_pos (by omega), if_pos c, N.2.2.2 _ c]
    · rw [if_neg (by omega), if_neg c]
  rw [fX7_readAll_l14, if_neg c1, gO R, Option.bind_some, r.2.2.1, if_neg n0_le, gO R, Option.bind_some, gOR R, Option.bind_some, R.2.2.1, g128, Option.bind_some, r.1]
  by_cases c3 : p < L.length
  · rw [if_pos (c2.mpr c3), if_pos c3, ckO R, Option.bind_some, peek_p R (by omega) r.1, bd2_s]
    simp only [jn_e]
    by_cases c4 : hereL L p = 123
    · rw [if_pos c4, if_pos c4, gOR R, Option.bind_some, R.2.2.1, gO R, Option.bind_some, ck4, Option.bind_some, r.1, at1, bd2_s, ckO R, Option.bind_some]
      rfl
    · rw [if_neg c4, if_neg c4]
      rfl
  · rw [if_neg (fun q => c3 (c2.mp q)), if_neg c3]
theorem l14_e {h : hp} {o tp bx f : Nat} {L : List Int32} (R : RD h o tp bx L) (g : RG h o f) (G : gG0) (n : Nat) (hn : 0 < n) (x1 x2 x3 x6 : Int32) (x4 x5 : Nat) : fX7_readAll_l14 G n o x1 x2 x3 x4 x5 x6 h = some (2, x4, h) := by
  obtain ⟨n, rfl⟩ : ∃ q, n = q + 1 := ⟨n - 1, by omega⟩
  rw [fX7_readAll_l14]
  by_cases c : 160 < x6
  · rw [if_pos c]
  · rw [if_neg c, gO R, Option.bind_some, if_pos g.le]
/-- what the loop gives -/
def LR (L : List Int32) (o tp bx m : Nat) (h : hp) (p x4 x5 : Nat) (res : PR (TY (m + 1) × Bool)) (out : Option (Nat × Nat × hp)) : Prop :=
  (∃ t tn p' h' v tq, res = .inl ((t, tn), p') ∧ out = some (tq, (if x5 = 0 then v else x4), h') ∧ (tq = 0 ∧ m = 4 ∨ tq = 1) ∧ FG (fun x k => KP o tp bx x k ∨ (x = x5 ∧ k = 8 ∧ x5 ≠ 0)) h h' ∧ ZH h' ∧ hN h' ≤ hN h + 6 * (p' - p) ∧ hL h' ≤ hL h + 60 * (p' - p) ∧ RO h' o tp L p' ∧ p ≤ p' ∧ RepT h' (64 + hN h) (64 + hN h') (m + 1) t v ∧ (x5 ≠ 0 → hR h' x5 8 = v) ∧ (m + 1 ≤ 4 → hI h' o 5 = b2 tn) ∧ TQ tp bx (64 + hN h) (64 + hN h') h h' (nodesT (m + 1) t) (varsT (m + 1) t) (partsT (m + 1) t) (blksT (m + 1) t)) ∨
  (∃ f h' v tq, res = .inr f ∧ p ≤ f ∧ f ≤ 160 ∧ out = some (tq, v, h') ∧ ((tq = 2 ∨ tq = 1) ∧ RG h' o f ∨ tq = 0 ∧ m ≠ 4 ∧ RO h' o tp L f) ∧ FG (fun x k => KP o tp bx x k ∨ (x = x5 ∧ k = 8 ∧ x5 ≠ 0)) h h' ∧ ZH h' ∧ hN h' ≤ hN h + 6 * (f - p) + 20 ∧ hL h' ≤ hL h + 60 * (f - p) + 200)
/-- the piece that is last so far -/
def LX (h : hp) (o tp bx x4 x5 : Nat) : Prop := (x5 = 0 → x4 = 0) ∧ (x5 ≠ 0 → 204 ≤ x5 ∧ x5 < 64 + hN h ∧ x5 ≠ o ∧ x5 ≠ tp ∧ x5 ≠ bx ∧ hT h x5 = (5, 9) ∧ hR h x5 8 = 0)
theorem loop_all {o tp bx : Nat} {L : List Int32} : ∀ (n m k : Nat) (blk els : Bool) (h : hp) (p x4 x5 i N : Nat), m ≤ 4 → 4 * m + 3 ≤ k → RD h o tp bx L → ZH h → RO h o tp L p → L.length - p < n → i ≤ p → L.length - p + 1 < N → LX h o tp bx x4 x5 →
    LR L o tp bx m h p x4 x5 (pAll L n (m + 1) blk els p) (fX7_readAll_l14 (G0 (k + 1)) N o (iN (4 - m)) (b2 blk) (b2 els) x4 x5 (iN i) h) := by
  intro n
  induction n with
  | zero => intro m k blk els h p x4 x5 i N _ _ _ _ _ q; omega
  | succ n ih =>
    -- a whole call, out of the loop
    have all : ∀ (m k : Nat) (blk els : Bool) (h : hp) (p : Nat), m ≤ 4 → 4 * m + 3 ≤ k → RD h o tp bx L → ZH h → RO h o tp L p → L.length - p < n → AR L o tp bx (m + 1) h p (pAll L n (m + 1) blk els p) (fX7_readAll_b (G0 (k + 1)) o (iN (4 - m)) (b2 blk) (b2 els) h) := by
      intro m k blk els h p hm hk R z r hp'
      have hl := r.lt R
      have hlen := R.len
      have ho := R.2.2.2.2.2.2.2.2.1
      have htp := R.2.2.2.2.2.2.2.2.2.1
      have hbx := R.2.2.2.2.2.2.2.2.2.2.1
      have ne := R.2.2.2.2.2.2.2.2.2.2.2.1
      have pz : pfZ h o 6 5 0 = some (pI h o 5 0) := by
        unfold pfZ
        rw [R.2.1, if_pos ⟨rfl, .inl rfl⟩]
      have S1 := SS.pO R z (k := 5) 0 (by decide)
      have R1 := S1.rd R
      have r1 : RO (pI h o 5 0) o tp L p := ⟨by rw [hI_pI, if_neg (by omega)]; exact r.1, by rw [hI_pI, if_neg (by omega)]; exact r.2.1, by rw [hI_pI, if_neg (by omega)]; exact r.2.2.1, r.2.2.2⟩
      have key := ih m k blk els (pI h o 5 0) p 0 0 0 FU hm hk R1 S1.2.1 r1 hp' (Nat.zero_le _) (by show _ < 1000000; omega) ⟨fun _ => rfl, fun q => absurd rfl q⟩
      have up0 : ∀ {h'}, FG (fun x k => KP o tp bx x k ∨ (x = 0 ∧ k = 8 ∧ (0 : Nat) ≠ 0)) (pI h o 5 0) h' → FG (KP o tp bx) h h' := fun {h'} f => (FG.pI (.inl ⟨rfl, by decide⟩)).tr (f.up fun x k q => by
        rcases q with q | q
        · exact q
        · exact absurd rfl q.2.2)
      unfold fX7_readAll_b
      rw [pz, Option.bind_some]
      rcases key with ⟨t, tn, p', h', v, tq, s, e, tqs, f, zz, n1, n2, r', hq, T, _, tu, K⟩ | ⟨f', h', v, tq, s, q1, q2, e, tqs, f, zz, n1, n2⟩
      · rw [show (0 : Int32) = iN 0 from rfl] at e ⊢
        rw [e]
        have F := up0 f
        have hend : (bd3 (some (tq, (if (0 : Nat) = 0 then v else 0), h')) fun t6 v5 h4 => if t6 = 0 then (if iN (4 - m) ≤ iN 0 then some (v5, h4) else ((ckT h4 o 6).bind fun _ => (fX7_refuse o h4).bind fun h8 => some (v5, h8))) else if t6 = 1 then some (v5, h4) else if t6 = 2 then some (v5, h4) else none) = some (v, h') := by
          show (if tq = 0 then (if iN (4 - m) ≤ iN 0 then some ((if (0 : Nat) = 0 then v else 0), h') else _) else _) = _
          rw [if_pos rfl]
          rcases tqs with ⟨q, q'⟩ | q
          · rw [if_pos q, if_pos (by rw [i_le (by omega) (by omega)]; omega)]
          · rw [if_neg (by omega), if_pos q]
        refine .inl ⟨t, tn, p', h', v, s, hend, ⟨F, zz, n1, n2⟩, r', hq, T, tu, ?_⟩
        refine ⟨by rw [K.1, hI_pI, if_neg (by omega)], by rw [K.2.1, hI_pI, if_neg (by omega)], by rw [K.2.2.1, hI_pI, if_neg (by omega)], fun j hj => K.2.2.2 j hj⟩
      · rw [show (0 : Int32) = iN 0 from rfl] at e ⊢
        rw [e]
        have F := up0 f
        have R' := R.fg F
        rcases tqs with ⟨tqs, g⟩ | ⟨tqs, m4, g⟩
        · refine .inr ⟨f', h', v, s, q1, q2, ?_, ⟨F, zz, by rw [hN_pI] at n1; omega, by rw [hL_pI] at n2; omega⟩, g⟩
          show (if tq = 0 then _ else if tq = 1 then some (v, h') else if tq = 2 then some (v, h') else none) = _
          rcases tqs with q | q
          · rw [if_neg (by omega), if_neg (by omega), if_pos q]
          · rw [if_neg (by omega), if_pos q]
        · have S2 := SS.pO R' zz (k := 4) (iN f') (by decide)
          refine .inr ⟨f', pI h' o 4 (iN f'), v, s, q1, q2, ?_, ⟨F.tr S2.es.qs.1, S2.2.1, by rw [hN_pI] at n1 ⊢; omega, by rw [hL_pI] at n2 ⊢; omega⟩, RG.of (by omega)⟩
          show (if tq = 0 then (if iN (4 - m) ≤ iN 0 then some (v, h') else ((ckT h' o 6).bind fun _ => (fX7_refuse o h').bind fun h8 => some (v, h8))) else _) = _
          rw [if_pos tqs, if_neg (by rw [i_le (by omega) (by omega)]; omega), ckO R', Option.bind_some, refuse_p R' g.2.2.1, Option.bind_some, g.1]
    intro m k blk els h p x4 x5 i N hm hk R z r hn hi hN1 X
    have hl := r.lt R
    have hlen := R.len
    have ho := R.2.2.2.2.2.2.2.2.1
    have htp := R.2.2.2.2.2.2.2.2.2.1
    have hbx := R.2.2.2.2.2.2.2.2.2.2.1
    have ne := R.2.2.2.2.2.2.2.2.2.2.2.1
    have hw := R.1.2.2
    obtain ⟨N, rfl⟩ : ∃ q, N = q + 1 := ⟨N - 1, by omega⟩
    rw [l14_st R r (by omega)]
    show LR L o tp bx m h p x4 x5 (pAllB L (pAll L n) m blk els p) _
    unfold pAllB
    by_cases c0 : p < L.length
    · rw [if_pos c0, if_neg (by omega)]
      -- one piece, and the others behind it
      have pieces : LR L o tp bx m h p x4 x5 (bnd (pPiece L (pAll L n) m blk p) fun pc q => bnd (pAll L n (m + 1) blk els q) fun r q2 => .inl ((pc :: r.1, r.2), q2)) (k88 (G0 (k + 1)) N o (iN (4 - m)) (b2 blk) (b2 els) x4 x5 (iN i) h) := by
        obtain ⟨k', rfl⟩ : ∃ q, k = q + 3 := ⟨k - 3, by omega⟩
        unfold k88
        rw [ckO R, Option.bind_some, show (G0 (k' + 3 + 1)).2.1 = fX7_readPiece_b (G0 (k' + 3)) from rfl]
        rcases piece_o (n := k') (rc := pAll L n) (blk := blk) R z r c0 hm (fun cm kk bl els g p1 hkk hp' Rg zg rg => by
            obtain ⟨m', rfl⟩ : ∃ q, m = q + 1 := ⟨m - 1, by omega⟩
            obtain ⟨k2, rfl⟩ : ∃ q, kk = q + 1 := ⟨kk - 1, by omega⟩
            have := all m' k2 bl els g p1 (by omega) (by omega) Rg zg rg (by omega)
            rw [show iN (4 - (m' + 1)) + 1 = iN (4 - m') by rw [i_succ]; congr 1; omega]
            exact this) with ⟨pc, p1, h1, s1, e1, Q1, r1, hq1, N1, l8, K1⟩ | ⟨f, h1, s1, b1, b2', e1, Q1, g1⟩
        · rw [s1, bnd_l, e1, bd2_s]
          have i1 := Q1.1.1
          have V2 := N1.2.1
          have nV : ∀ j, ¬ KP o tp bx (64 + hN h) j := kp_old R (Nat.le_refl _)
          -- the link
          obtain ⟨h2, y4, hh2, F2, Z2, T2, n2, l2, o2, R2, a8, y0⟩ : ∃ h2 y4, (if x5 = 0 then fX7_readAll_l14 (G0 (k' + 3 + 1)) N o (iN (4 - m)) (b2 blk) (b2 els) (64 + hN h) (64 + hN h) (iN i + 1) h1 else (pfR h1 x5 5 8 (64 + hN h)).bind fun h17 => fX7_readAll_l14 (G0 (k' + 3 + 1)) N o (iN (4 - m)) (b2 blk) (b2 els) x4 (64 + hN h) (iN i + 1) h17) = fX7_readAll_l14 (G0 (k' + 3 + 1)) N o (iN (4 - m)) (b2 blk) (b2 els) y4 (64 + hN h) (iN i + 1) h2 ∧ FG (fun x k => x = x5 ∧ k = 8 ∧ x5 ≠ 0) h1 h2 ∧ ZH h2 ∧ hT h2 (64 + hN h) = (5, 9) ∧ hN h2 = hN h1 ∧ hL h2 = hL h1 ∧ (∀ x j, hI h2 x j = hI h1 x j) ∧ RD h2 o tp bx L ∧ (x5 ≠ 0 → hR h2 x5 8 = 64 + hN h) ∧ y4 = (if x5 = 0 then 64 + hN h else x4) := by
            have R1 := Q1.rd R
            by_cases c5 : x5 = 0
            · exact ⟨h1, 64 + hN h, by rw [if_pos c5], FG.rf _ _, Q1.2.1, N1.2.2.1, rfl, rfl, fun _ _ => rfl, R1, fun q => absurd c5 q, by rw [if_pos c5]⟩
            · obtain ⟨x1, x2, x3, x3', x3'', x6, x7⟩ := X.2 c5
              have t5 : hT h1 x5 = (5, 9) := by rw [Q1.1.2.2.1 x5 x2]; exact x6
              have pf : pfR h1 x5 5 8 (64 + hN h) = some (pR h1 x5 8 (64 + hN h)) := by unfold pfR; rw [t5]; rfl
              refine ⟨pR h1 x5 8 (64 + hN h), x4, by rw [if_neg c5, pf, Option.bind_some], fgR1 ⟨rfl, rfl, c5⟩, Q1.2.1.pR 8 _ (by omega), N1.2.2.1, rfl, rfl, fun _ _ => rfl, ?_, fun _ => by rw [hR_pR, if_pos ⟨rfl, rfl⟩], by rw [if_neg c5]⟩
              exact R1.fgP (fgR1 (P := fun x k => x = x5 ∧ k = 8) ⟨rfl, rfl⟩) fun x k q => by omega
          rw [hh2, i_succ]
          have r2 : RO h2 o tp L p1 := ⟨by rw [o2]; exact r1.1, by rw [o2]; exact r1.2.1, by rw [o2]; exact r1.2.2.1, r1.2.2.2⟩
          have x5V : x5 ≠ 0 → x5 < 64 + hN h := fun q => (X.2 q).2.1
          have b8 : hR h2 (64 + hN h) 8 = 0 := by rw [(F2.2.2.2 (64 + hN h) 8 V2 (fun q => by have := x5V q.2.2; omega)).2.2]; exact l8
          have K2 : TQ tp bx (64 + hN h) (64 + hN h1) h h2 (nodesP m pc) (varsP m pc) (partsP m pc) (blksP m pc) := K1.fr F2 (Nat.le_refl _) (fun y k a b c => by have := x5V c.2.2; omega) (by omega) (by omega) (fun k c => by have := X.2 c.2.2; omega) (by omega) (fun k c => by have := X.2 c.2.2; omega)
          have key := ih m (k' + 3) blk els h2 p1 y4 (64 + hN h) (i + 1) N hm hk R2 Z2 r2 (by omega) (by omega) (by omega) ⟨fun q => by omega, fun _ => ⟨by omega, by omega, by omega, by omega, by omega, T2, b8⟩⟩
          rcases key with ⟨t, tn, p', h', v, tq, s, e, tqs, f, zz, n3, n4, r', hq, T, v8, tu, K⟩ | ⟨f', h', v, tq, s, q1, q2, e, tqs, f, zz, n3, n4⟩
          · have i3 := f.1
            have F12 : FG (fun x k => (KP o tp bx x k ∨ (x = x5 ∧ k = 8 ∧ x5 ≠ 0)) ∨ (x = 64 + hN h ∧ k = 8)) h1 h' := (F2.up fun x k q => .inl (.inr q)).tr (f.up fun x k q => by
              rcases q with q | q
              · exact .inl (.inl q)
              · exact .inr ⟨q.1, q.2.1⟩)
            have N2 : RepN (RepT h' (64 + hN h) (64 + hN h') m) h' (64 + hN h) (64 + hN h') pc (64 + hN h) := RepN.lk (by rw [show 65 + hN h = 64 + hN h + 1 by omega] at N1; exact N1) F12 (Nat.le_refl _) (fun x k a b c => by
              rcases c with c | c
              · exact kp_old R a k c
              · have := x5V c.2.2; omega) (by omega)
            have TT : RepT h' (64 + hN h) (64 + hN h') (m + 1) (pc :: t) (64 + hN h) := by
              refine ⟨N2, ?_⟩
              rw [v8 (by omega)]
              exact RepT.fg (FG.rf (fun _ _ => False) _) (Nat.le_refl _) (fun _ _ _ _ q => q) (by omega) (Nat.le_refl _) (m + 1) t v T
            have KK := K2.tr (lo' := 64 + hN h) (hi' := 64 + hN h') K f (by omega) (fun y k a b c => by
              rcases c with c | c
              · exact (kp_old R a k c).elim
              · exact ⟨c.1, c.2.1⟩) (by omega) (Nat.le_refl _) (by omega) (by omega) (Nat.le_refl _) (Nat.le_refl _)
            have FF : FG (fun x k => KP o tp bx x k ∨ (x = x5 ∧ k = 8 ∧ x5 ≠ 0)) h h' := ((Q1.1.up fun _ _ q => .inl q).tr (F2.up fun x k q => .inr q)).tr' f fun x k hx q => by
              rcases q with q | q
              · exact .inl q
              · omega
            refine .inl ⟨pc :: t, tn, p', h', 64 + hN h, tq, by rw [s, bnd_l], ?_, tqs, FF, zz, by have := Q1.2.2.1; omega, by have := Q1.2.2.2; omega, r', by omega, TT, fun q => ?_, tu, ?_⟩
            · rw [e, if_neg (show ¬ (64 + hN h = 0) by omega), y0]
            · rw [(f.2.2.2 x5 8 (by have := x5V q; omega) (fun c => by
                have := X.2 q
                rcases c with c | c
                · unfold KP at c; omega
                · omega)).2.2]
              exact a8 q
            · exact KK
          · have FF : FG (fun x k => KP o tp bx x k ∨ (x = x5 ∧ k = 8 ∧ x5 ≠ 0)) h h' := ((Q1.1.up fun _ _ q => .inl q).tr (F2.up fun x k q => .inr q)).tr' f fun x k hx q => by
              rcases q with q | q
              · exact .inl q
              · omega
            exact .inr ⟨f', h', v, tq, by rw [s]; rfl, by omega, q2, e, tqs, FF, zz, by have := Q1.2.2.1; omega, by have := Q1.2.2.2; omega⟩
        · rw [s1, e1, bd2_s]
          have R1 := Q1.rd R
          by_cases c5 : x5 = 0
          · rw [if_pos c5, l14_e R1 g1 _ _ (by omega)]
            exact .inr ⟨f, h1, _, 2, rfl, b1, b2', rfl, .inl ⟨.inl rfl, g1⟩, Q1.1.up fun _ _ q => .inl q, Q1.2.1, by have := Q1.2.2.1; omega, by have := Q1.2.2.2; omega⟩
          · obtain ⟨x1, x2, x3, x3', x3'', x6, x7⟩ := X.2 c5
            have t5 : hT h1 x5 = (5, 9) := by rw [Q1.1.2.2.1 x5 x2]; exact x6
            have pf : pfR h1 x5 5 8 (64 + hN h) = some (pR h1 x5 8 (64 + hN h)) := by unfold pfR; rw [t5]; rfl
            have R2 : RD (pR h1 x5 8 (64 + hN h)) o tp bx L := R1.fgP (fgR1 (P := fun x k => x = x5 ∧ k = 8) ⟨rfl, rfl⟩) fun x k q => by omega
            have i1 := Q1.1.1
            rw [if_neg c5, pf, Option.bind_some, l14_e R2 (show RG (pR h1 x5 8 (64 + hN h)) o f from g1) _ _ (by omega)]
            exact .inr ⟨f, _, _, 2, rfl, b1, b2', rfl, .inl ⟨.inl rfl, g1⟩, (Q1.1.up fun _ _ q => .inl q).tr (fgR1 (.inr ⟨rfl, rfl, c5⟩)), Q1.2.1.pR 8 _ (by omega), by have := Q1.2.2.1; rw [hN_pR]; omega, by have := Q1.2.2.2; rw [hL_pR]; omega⟩
      -- an end
      have ends : ∀ (x : Int32) (b : Bool), hereL L p = 123 → hereL L (p + 1) = x → x ≠ -1 ∧ x ≠ 10 → LR L o tp bx m h p x4 x5 (bnd (pSign L 125 (p + 2)) fun _ q => .inl (([], b), q)) (bd2 (endK o (b2 b) h) fun v28 h29 => if v28 = 0 then k88 (G0 (k + 1)) N o (iN (4 - m)) (b2 blk) (b2 els) x4 x5 (iN i) h29 else some (1, x4, h29)) := by
        intro x b h0 h1 hx
        rcases endK_o R z r h0 h1 hx b with ⟨s, h', e, S, r', tu⟩ | ⟨s, h', e, S, g⟩
        · rw [s, bnd_l, show endK o (b2 b) h = _ from e, bd2_s, if_neg z10]
          obtain ⟨y4, y6, yb⟩ := es_tp (S.es (tp := tp)) R
          have y7 := S.tp R 7
          have Q := S.es.qs (tp := tp) (bx := bx)
          refine .inl ⟨[], b, p + 3, h', 0, 1, rfl, ?_, .inr rfl, Q.1.up fun _ _ q => .inl q, Q.2.1, by have := Q.2.2.1; omega, by have := Q.2.2.2; omega, r', by omega, rfl, fun q => ?_, fun _ => tu, ?_⟩
          · by_cases c5 : x5 = 0
            · rw [if_pos c5, X.1 c5]
            · rw [if_neg c5]
          · have := X.2 q
            rw [(S.1.2.2.2 x5 8 this.2.1 (fun c => this.2.2.1 c.1)).2.2]
            exact this.2.2.2.2.2.2
          · exact TQ.of (n := 0) (v := 0) (p := 0) (by rw [y4]; exact (Int32.add_zero _).symm) (by rw [y7, Int32.or_zero]) (by rw [y6, Int32.or_zero]) yb
        · rw [s, show endK o (b2 b) h = _ from e, bd2_s, if_neg z10]
          have Q := S.es.qs (tp := tp) (bx := bx)
          have hlt := (here_lt h1 hx.1).1
          exact .inr ⟨p + 2, h', x4, 1, rfl, by omega, by omega, rfl, .inl ⟨.inr rfl, g⟩, Q.1.up fun _ _ q => .inl q, Q.2.1, by have := Q.2.2.1; omega, by have := Q.2.2.2; omega⟩
      have hd : iN (4 - m) ≤ 0 ↔ m = 4 := by
        rw [show (0 : Int32) = iN 0 from rfl, i_le (by omega) (by omega)]; omega
      by_cases c1 : hereL L p = 123
      · rw [if_pos c1, ends_st]
        by_cases c47 : hereL L (p + 1) = 47
        · rw [if_pos c47]
          by_cases m4 : m = 4
          · rw [if_pos (hd.mpr m4), bd2_s, if_pos rfl, if_neg (fun q => q.2.2 m4), if_neg (fun q => by rw [c47] at q; exact absurd q.2.1 (by decide))]
            exact pieces
          · rw [if_neg (fun q => m4 (hd.mp q)), if_pos ⟨c1, c47, m4⟩]
            exact ends 47 false c1 c47 (by decide)
        · rw [if_neg c47, if_neg (fun q => c47 q.2.1)]
          by_cases c58 : hereL L (p + 1) = 58
          · rw [if_pos c58]
            cases els with
            | true => rw [if_neg (show ¬ b2 true = 0 from z10), if_pos ⟨c1, c58, rfl⟩]; exact ends 58 true c1 c58 (by decide)
            | false => rw [if_pos (show b2 false = 0 from rfl), bd2_s, if_pos rfl, if_neg (fun q => by cases q.2.2)]; exact pieces
          · rw [if_neg c58, bd2_s, if_pos rfl, if_neg (fun q => c58 q.2.1)]
            exact pieces
      · rw [if_neg c1, if_neg (fun q => c1 q.1), if_neg (fun q => c1 q.1)]
        exact pieces
    · have pe : p = L.length := by have := r.2.2.2; omega
      rw [if_neg c0, if_pos (by omega)]
      by_cases m4 : m = 4
      · rw [if_pos m4]
        refine .inl ⟨[], false, p, h, 0, 0, rfl, ?_, .inl ⟨rfl, m4⟩, FG.rf _ _, z, by omega, by omega, r, Nat.le_refl _, rfl, fun q => (X.2 q).2.2.2.2.2.2, fun q => by omega, TQ.rf _ _ _ _ _⟩
        by_cases c5 : x5 = 0
        · rw [if_pos c5, X.1 c5]
        · rw [if_neg c5]
      · rw [if_neg m4]
        exact .inr ⟨p, h, x4, 0, rfl, Nat.le_refl _, hl, rfl, .inr ⟨rfl, m4, r⟩, FG.rf _ _, z, by omega, by omega⟩

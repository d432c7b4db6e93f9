/-! a new reader; a whole call of reading pieces -/
def nRd (h : hp) (n : Int32) : hp := pR (pI (pI (pR (nw (nw (pR (pI (pI (nw h 6 6) (64 + hN h) 3 1) (64 + hN h) 4 (-1)) (64 + hN h) 0 128) 9 8) 103 4) (64 + (hN h + 1)) 1 (64 + (hN h + 2))) (64 + (hN h + 1)) 3 (-1)) (64 + (hN h + 1)) 0 n) (64 + hN h) 1 (64 + (hN h + 1))
theorem nRd_I (h : hp) (n : Int32) (x j : Nat) : hI (nRd h n) x j = if x = 64 + (hN h + 1) ∧ j = 0 then n else if x = 64 + (hN h + 1) ∧ j = 3 then -1 else if x = 64 + hN h ∧ j = 4 then -1 else if x = 64 + hN h ∧ j = 3 then 1 else hI h x j := by
  unfold nRd
  simp only [hI_pR, hI_pI, hI_nw]
theorem nRd_R (h : hp) (n : Int32) (x j : Nat) : hR (nRd h n) x j = if x = 64 + hN h ∧ j = 1 then 64 + (hN h + 1) else if x = 64 + (hN h + 1) ∧ j = 1 then 64 + (hN h + 2) else if x = 64 + hN h ∧ j = 0 then 128 else hR h x j := by
  unfold nRd
  simp only [hR_pR, hR_pI, hR_nw]
theorem nRd_T (h : hp) (n : Int32) (x : Nat) : hT (nRd h n) x = if x = 64 + (hN h + 2) then (103, 4) else if x = 64 + (hN h + 1) then (9, 8) else if x = 64 + hN h then (6, 6) else hT h x := by
  unfold nRd
  simp only [hT_pR, hT_pI, hT_nw, hN_pR, hN_pI, hN_nw]
  rfl
theorem nRd_f {h : hp} (z : ZH h) (n : Int32) : FG (fun _ _ => False) h (nRd h n) ∧ ZH (nRd h n) ∧ hN (nRd h n) = hN h + 3 ∧ hL (nRd h n) = hL h + 18 := by
  have f0 : FG (fun _ _ => False) h (pR (pI (pI (nw h 6 6) (64 + hN h) 3 1) (64 + hN h) 4 (-1)) (64 + hN h) 0 128) := fgRn (fgIn (fgIn (FG.nw h 6 6) 3 1 (Nat.le_refl _)) 4 (-1) (Nat.le_refl _)) 0 128 (Nat.le_refl _)
  have f1 := f0.tr (FG.nw _ 9 8)
  have f2 := f1.tr (FG.nw _ 103 4)
  have z0 := ((((z.nw 6 6).pI (a := 64 + hN h) 3 1 (by rw [hN_nw]; omega)).pI (a := 64 + hN h) 4 (-1) (by rw [hN_pI, hN_nw]; omega)).pR (a := 64 + hN h) 0 128 (by rw [hN_pI, hN_pI, hN_nw]; omega))
  have z2 := (z0.nw 9 8).nw 103 4
  refine ⟨fgRn (fgIn (fgIn (fgRn f2 1 _ (by omega)) 3 _ (by omega)) 0 _ (by omega)) 1 _ (by omega), ?_, rfl, rfl⟩
  unfold nRd
  refine (((z2.pR 1 _ ?_).pI 3 _ ?_).pI 0 _ ?_).pR 1 _ ?_ <;> (simp only [hN_pR, hN_pI, hN_nw]; omega)
theorem rd_new {α : Type} {h : hp} {L : List Int32} (w : WF h) (z : ZH h) (N : NL h 128 129 160 L) (hb : ∀ k, k < L.length → 1 ≤ (L.getD k 0).toInt ∧ (L.getD k 0).toInt ≤ 127) (K : Nat → hp → Option α) :
    (bd2 (nwO h 6 6) fun v4 h5 => (gfR h5 64 12 3).bind fun v7 => (ckT h5 v4 6).bind fun _ => (fX7_init v4 v7 h5).bind fun h10 => K v4 h10) = K (64 + hN h) (nRd h (iN L.length)) ∧ RD (nRd h (iN L.length)) (64 + hN h) (64 + (hN h + 1)) (64 + (hN h + 2)) L ∧ RO (nRd h (iN L.length)) (64 + hN h) (64 + (hN h + 1)) L 0 := by
  have hn := w.2.2
  obtain ⟨f, zz, n1, l1⟩ := nRd_f z (iN L.length)
  have hI0 : ∀ x k, 64 + hN h ≤ x → hI h x k = 0 := fun x k hx => (z x k hx).1
  refine ⟨?_, ⟨⟨fun i hi => by rw [nRd_T, if_neg (by omega), if_neg (by omega), if_neg (by omega)]; exact w.1 i hi, fun q hq => ?_, by rw [n1]; omega⟩, by rw [nRd_T, if_neg (by omega), if_neg (by omega), if_pos rfl], by rw [nRd_R, if_neg (by omega), if_neg (by omega), if_pos ⟨rfl, rfl⟩], by rw [nRd_R, if_pos ⟨rfl, rfl⟩], by rw [nRd_T, if_neg (by omega), if_pos rfl], by rw [nRd_R, if_neg (by omega), if_pos ⟨rfl, rfl⟩], by rw [nRd_T, if_pos rfl], N.fg f (by omega) (by omega) (fun _ q => q) (fun _ q => q), by rw [n1]; omega, by rw [n1]; omega, by rw [n1]; omega, by omega, hb⟩, ⟨?_, ?_, ?_, Nat.zero_le _⟩⟩
  · have g3 : gfR (nw h 6 6) 64 12 3 = some 128 := by
      have t : hT (nw h 6 6) 64 = (12, 10) := by
        rw [hT_nw]; dsimp only
        rw [if_neg (by omega)]; exact T64 w
      unfold gfR
      rw [t]
      show some (hR h 64 3) = _
      rw [R64_3 w]
    have t6 : ∀ g : hp, hT g (64 + hN h) = (6, 6) → ckT g (64 + hN h) 6 = some () ∧ (∀ k x, pfI g (64 + hN h) 6 k x = some (pI g (64 + hN h) k x)) ∧ ∀ k x, pfR g (64 + hN h) 6 k x = some (pR g (64 + hN h) k x) := fun g t => by
      unfold ckT pfI pfR
      rw [t]; exact ⟨rfl, fun _ _ => rfl, fun _ _ => rfl⟩
    have t9 : ∀ g : hp, hT g (64 + (hN h + 1)) = (9, 8) → ckT g (64 + (hN h + 1)) 9 = some () ∧ (∀ k x, pfI g (64 + (hN h + 1)) 9 k x = some (pI g (64 + (hN h + 1)) k x)) ∧ ∀ k x, pfR g (64 + (hN h + 1)) 9 k x = some (pR g (64 + (hN h + 1)) k x) := fun g t => by
      unfold ckT pfI pfR
      rw [t]; exact ⟨rfl, fun _ _ => rfl, fun _ _ => rfl⟩
    have e1 : hT (nw h 6 6) (64 + hN h) = (6, 6) := by rw [hT_nw]; dsimp only; rw [if_pos rfl]
    obtain ⟨h9, hh9⟩ : ∃ h9, h9 = nw (pR (pI (pI (nw h 6 6) (64 + hN h) 3 1) (64 + hN h) 4 (-1)) (64 + hN h) 0 128) 9 8 := ⟨_, rfl⟩
    have T9 : hT h9 (64 + (hN h + 1)) = (9, 8) := by
      rw [hh9, hT_nw]; dsimp only
      exact if_pos rfl
    have T6 : hT h9 (64 + hN h) = (6, 6) := by
      rw [hh9, hT_nw]; dsimp only
      rw [if_neg (by simp only [hN_pR, hN_pI, hN_nw]; omega)]; exact e1
    have g128 : gfI h9 128 4 1 = some (iN L.length) := by
      have t : hT h9 128 = (4, 2) := by
        rw [hh9, hT_nw]; dsimp only
        rw [if_neg (by simp only [hN_pR, hN_pI, hN_nw]; omega)]
        show hT (nw h 6 6) 128 = _
        rw [hT_nw]; dsimp only
        rw [if_neg (by omega)]; exact N.1.1
      unfold gfI
      rw [t, if_pos rfl, hh9]
      show some (hI (pI (pI (nw h 6 6) (64 + hN h) 3 1) (64 + hN h) 4 (-1)) 128 1) = _
      rw [hI_pI, if_neg (by omega), hI_pI, if_neg (by omega)]
      show some (hI h 128 1) = _
      rw [N.2.1]
    have n9 : 64 + hN h9 = 64 + (hN h + 2) := by rw [hh9]; rfl
    have i10 : fX10_init (64 + (hN h + 1)) (iN L.length) h9 = some (pI (pI (pR (nw h9 103 4) (64 + (hN h + 1)) 1 (64 + (hN h + 2))) (64 + (hN h + 1)) 3 (-1)) (64 + (hN h + 1)) 0 (iN L.length)) := by
      have e4 : nwA h9 3 4 = some (64 + hN h9, nw h9 103 4) := by
        unfold nwA
        rw [if_pos (by decide)]; rfl
      have T9' : hT (nw h9 103 4) (64 + (hN h + 1)) = (9, 8) := by
        rw [hT_nw]; dsimp only
        rw [if_neg (by omega)]; exact T9
      unfold fX10_init
      rw [(t9 h9 T9).1, Option.bind_some, e4, bd2_s, (t9 _ T9').2.2, Option.bind_some, (t9 _ (by rw [hT_pR]; exact T9')).2.1, Option.bind_some, (t9 _ (by rw [hT_pI, hT_pR]; exact T9')).2.1, Option.bind_some, n9]
    have i7 : fX7_init (64 + hN h) 128 (nw h 6 6) = some (nRd h (iN L.length)) := by
      unfold fX7_init
      rw [(t6 _ e1).1, Option.bind_some, (t6 _ e1).2.1, Option.bind_some, (t6 _ (by rw [hT_pI]; exact e1)).2.1, Option.bind_some, (t6 _ (by rw [hT_pI, hT_pI]; exact e1)).2.2, Option.bind_some]
      show (bd2 (some (64 + (hN h + 1), nw (pR (pI (pI (nw h 6 6) (64 + hN h) 3 1) (64 + hN h) 4 (-1)) (64 + hN h) 0 128) 9 8)) _) = _
      rw [← hh9, bd2_s, g128, Option.bind_some, (t9 h9 T9).1, Option.bind_some, i10, Option.bind_some, (t6 _ (by simp only [hT_pI, hT_pR]; rw [hT_nw]; dsimp only; rw [if_neg (by omega)]; exact T6)).2.2, Option.bind_some, hh9]
      rfl
    show ((gfR (nw h 6 6) 64 12 3).bind fun v7 => (ckT (nw h 6 6) (64 + hN h) 6).bind fun _ => (fX7_init (64 + hN h) v7 (nw h 6 6)).bind fun h10 => K (64 + hN h) h10) = _
    rw [g3, Option.bind_some, (t6 _ e1).1, Option.bind_some, i7, Option.bind_some]
  · have hq1 : q.1 < 204 := by
      have : ∀ q ∈ R0l, q.1 < 204 := by decide +kernel
      exact this q hq
    rw [nRd_R, if_neg (by omega), if_neg (by omega), if_neg (by omega)]
    exact w.2.1 q hq
  · rw [nRd_I, if_neg (by omega), if_neg (by omega), if_neg (by omega), if_neg (by omega)]
    exact hI0 _ _ (by omega)
  · rw [nRd_I, if_neg (by omega), if_neg (by omega), if_neg (by omega), if_pos ⟨rfl, rfl⟩]; rfl
  · rw [nRd_I, if_neg (by omega), if_neg (by omega), if_pos ⟨rfl, rfl⟩]
/-- reading pieces with a fault told -/
theorem all_g {h : hp} {o tp bx f : Nat} {L : List Int32} (R : RD h o tp bx L) (z : ZH h) (g : RG h o f) (k : Nat) (d b e : Int32) : ∃ h', fX7_readAll_b (G0 k) o d b e h = some (0, h') ∧ SS o h h' 0 0 ∧ RG h' o f := by
  have pz : pfZ h o 6 5 0 = some (pI h o 5 0) := by
    unfold pfZ
    rw [R.2.1, if_pos ⟨rfl, .inl rfl⟩]
  have S1 := SS.pO R z (k := 5) 0 (by decide)
  have g1 := g.pO (k := 5) 0 (by decide)
  refine ⟨pI h o 5 0, ?_, S1, g1⟩
  unfold fX7_readAll_b
  rw [pz, Option.bind_some, l14_e (S1.rd R) g1 _ _ (by show 0 < 1000000; omega)]
  rfl
/-- reading pieces -/
theorem all_o {o tp bx : Nat} {L : List Int32} (n m k : Nat) (blk els : Bool) (h : hp) (p : Nat) (hm : m ≤ 4) (hk : 4 * m + 3 ≤ k) (R : RD h o tp bx L) (z : ZH h) (r : RO h o tp L p) (hp' : L.length - p < n) : AR L o tp bx (m + 1) h p (pAll L n (m + 1) blk els p) (fX7_readAll_b (G0 (k + 1)) o (iN (4 - m)) (b2 blk) (b2 els) h) := by
  have hl := r.lt R
  have hlen := R.len
  have ho := R.2.2.2.2.2.2.2.2.1
  have htp := R.2.2.2.2.2.2.2.2.2.1
  have hbx := R.2.2.2.2.2.2.2.2.2.2.1
  have ne := R.2.2.2.2.2.2.2.2.2.2.2.1
  have pz : pfZ h o 6 5 0 = some (pI h o 5 0) := by
    unfold pfZ
    rw [R.2.1, if_pos ⟨rfl, .inl rfl⟩]
  have S1 := SS.pO R z (k := 5) 0 (by decide)
  have R1 := S1.rd R
  have r1 : RO (pI h o 5 0) o tp L p := ⟨by rw [hI_pI, if_neg (by omega)]; exact r.1, by rw [hI_pI, if_neg (by omega)]; exact r.2.1, by rw [hI_pI, if_neg (by omega)]; exact r.2.2.1, r.2.2.2⟩
  have key := loop_all n m k blk els (pI h o 5 0) p 0 0 0 FU hm hk R1 S1.2.1 r1 hp' (Nat.zero_le _) (by show _ < 1000000; omega) ⟨fun _ => rfl, fun q => absurd rfl q⟩
  have up0 : ∀ {h'}, FG (fun x k => KP o tp bx x k ∨ (x = 0 ∧ k = 8 ∧ (0 : Nat) ≠ 0)) (pI h o 5 0) h' → FG (KP o tp bx) h h' := fun {h'} f => (FG.pI (.inl ⟨rfl, by decide⟩)).tr (f.up fun x k q => by
    rcases q with q | q
    · exact q
    · exact absurd rfl q.2.2)
  unfold fX7_readAll_b
  rw [pz, Option.bind_some]
  rcases key with ⟨t, tn, p', h', v, tq, s, e, tqs, f, zz, n1, n2, r', hq, T, _, tu, K⟩ | ⟨f', h', v, tq, s, q1, q2, e, tqs, f, zz, n1, n2⟩
  · rw [show (0 : Int32) = iN 0 from rfl] at e ⊢
    rw [e]
    have F := up0 f
    have hend : (bd3 (some (tq, (if (0 : Nat) = 0 then v else 0), h')) fun t6 v5 h4 => if t6 = 0 then (if iN (4 - m) ≤ iN 0 then some (v5, h4) else ((ckT h4 o 6).bind fun _ => (fX7_refuse o h4).bind fun h8 => some (v5, h8))) else if t6 = 1 then some (v5, h4) else if t6 = 2 then some (v5, h4) else none) = some (v, h') := by
      show (if tq = 0 then (if iN (4 - m) ≤ iN 0 then some ((if (0 : Nat) = 0 then v else 0), h') else _) else _) = _
      rw [if_pos rfl]
      rcases tqs with ⟨q, q'⟩ | q
      · rw [if_pos q, if_pos (by rw [i_le (by omega) (by omega)]; omega)]
      · rw [if_neg (by omega), if_pos q]
    refine .inl ⟨t, tn, p', h', v, s, hend, ⟨F, zz, n1, n2⟩, r', hq, T, tu, ?_⟩
    refine ⟨by rw [K.1, hI_pI, if_neg (by omega)], by rw [K.2.1, hI_pI, if_neg (by omega)], by rw [K.2.2.1, hI_pI, if_neg (by omega)], fun j hj => K.2.2.2 j hj⟩
  · rw [show (0 : Int32) = iN 0 from rfl] at e ⊢
    rw [e]
    have F := up0 f
    have R' := R.fg F
    rcases tqs with ⟨tqs, g⟩ | ⟨tqs, m4, g⟩
    · refine .inr ⟨f', h', v, s, q1, q2, ?_, ⟨F, zz, by rw [hN_pI] at n1; omega, by rw [hL_pI] at n2; omega⟩, g⟩
      show (if tq = 0 then _ else if tq = 1 then some (v, h') else if tq = 2 then some (v, h') else none) = _
      rcases tqs with q | q
      · rw [if_neg (by omega), if_neg (by omega), if_pos q]
      · rw [if_neg (by omega), if_pos q]
    · have S2 := SS.pO R' zz (k := 4) (iN f') (by decide)
      refine .inr ⟨f', pI h' o 4 (iN f'), v, s, q1, q2, ?_, ⟨F.tr S2.es.qs.1, S2.2.1, by rw [hN_pI] at n1 ⊢; omega, by rw [hL_pI] at n2 ⊢; omega⟩, RG.of (by omega)⟩
      show (if tq = 0 then (if iN (4 - m) ≤ iN 0 then some (v, h') else ((ckT h' o 6).bind fun _ => (fX7_refuse o h').bind fun h8 => some (v, h8))) else _) = _
      rw [if_pos tqs, if_neg (by rw [i_le (by omega) (by omega)]; omega), ckO R', Option.bind_some, refuse_p R' g.2.2.1, Option.bind_some, g.1]

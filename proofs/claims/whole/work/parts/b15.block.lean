/-! the class's walk: blocks, what stands elsewhere, all of it -/
/-- the block looked for in a chain -/
theorem bl_l {g : gG1} {own : Nat → Nat} {tp : Tp} {i v b : Nat} {c : List Nat} {pl : Nat} {bb : Option Nat} (x4 x5 x6 x7 : Int32) (hi : i < 9) (okt : okTp tp) (hb : b < 4) : ∀ (dd q k : Nat) (h : hp), q + dd = c.length → dd + 1 < k → WF h → JG h own tp → CHh h i c pl bb → ∃ a h', fX12_walkBlock_l43 g k 134 (147 + 2 * i) v x4 x5 x6 x7 (iN b) 0 (iN q) h = some (a, h') ∧ match fdB tp b (c.drop q) q with | none => a = 0 ∧ h' = h | some x => a ≠ 0 ∧ hT h a = (5, 9) ∧ TT h own x.2.1 x.2.2 (hR h a 6) ∧ h' = pI h (147 + 2 * i) 2 (iN x.1) ∧ x.1 < c.length ∧ okT x.2.1 x.2.2 ∧ x.2.1 ≤ 5 := by
  intro dd
  induction dd with
  | zero =>
    intro q k h hq hk w G C
    obtain ⟨k, rfl⟩ : ∃ n, k = n + 1 := ⟨k - 1, by omega⟩
    have c6 := C.2.2.2.1
    refine ⟨0, h, ?_, ?_⟩
    · rw [fX12_walkBlock_l43, gC w hi, Option.bind_some, C.1, if_pos (by rw [i_le (by omega) (by omega)]; omega)]
    · rw [List.drop_of_length_le (by omega)]
      exact ⟨rfl, rfl⟩
  | succ dd ih =>
    intro q k h hq hk w G C
    obtain ⟨k, rfl⟩ : ∃ n, k = n + 1 := ⟨k - 1, by omega⟩
    have c6 := C.2.2.2.1
    have hn2 := w.2.2
    have hc := C.2.2.2.2.2 q (by omega)
    have ed : c.drop q = c.getD q 0 :: c.drop (q + 1) := by
      rw [List.drop_eq_getElem_cons (show q < c.length by omega), List.getD_eq_getElem?_getD, List.getElem?_eq_getElem (show q < c.length by omega)]; rfl
    have nle : ¬ (iN c.length ≤ iN q) := by rw [i_le (by omega) (by omega)]; omega
    have Gk := G (c.getD q 0) hc.2
    have am : fX13_among (iN b) 4 h = some (1, h) := amk hb (by decide) h
    obtain ⟨a', h', e', r'⟩ := ih (q + 1) k h (by omega) (by omega) w G C
    have pre : ∀ n, fX12_walkBlock_l43 g (n + 1) 134 (147 + 2 * i) v x4 x5 x6 x7 (iN b) 0 (iN q) h = jn (fun (s88_0 : Nat) (h88j : hp) => ((if s88_0 = 0 then fX12_walkBlock_l43 g n 134 (147 + 2 * i) v x4 x5 x6 x7 (iN b) s88_0 (iN q + 1) h88j else (pfI h88j (147 + 2 * i) 0 2 (iN q)).bind fun h13 => fX12_walkBlock_l43 g n 134 (147 + 2 * i) v x4 x5 x6 x7 (iN b) s88_0 (iN q + 1) h13) : Option (Nat × hp))) fun k88 => if hR h 67 (c.getD q 0) = 0 then k88 0 h else (ckT h (hR h 67 (c.getD q 0)) 9).bind fun _ => bd2 (fX10_block (hR h 67 (c.getD q 0)) (iN b) h) fun v16 h17 => k88 v16 h17 := by
      intro n
      rw [fX12_walkBlock_l43, gC w hi, Option.bind_some, C.1, if_neg nle, if_pos rfl, gWR w, R134_0 w, Option.bind_some, ckC w hi, Option.bind_some, at_e w hi C (by omega), bd2_s, ck65 w, Option.bind_some, held_e w hc.2, bd2_s]
    rw [pre k, jn_e, ed]
    cases ht : tp (c.getD q 0) with
    | none =>
      rw [ht] at Gk
      have ef : fdB tp b (c.getD q 0 :: c.drop (q + 1)) q = fdB tp b (c.drop (q + 1)) (q + 1) := by
        show (match tp (c.getD q 0) with | none => _ | some x => _) = _
        rw [ht]
      refine ⟨a', h', ?_, by rw [ef]; exact r'⟩
      rw [if_pos Gk]
      dsimp only
      rw [if_pos rfl, i_succ]
      exact e'
    | some x =>
      rw [ht] at Gk
      obtain ⟨g1, g2, lo, hi', g3, g4⟩ := Gk
      obtain ⟨t1, t2, t3, t4, t5, ⟨bx, u1, u2, u3, u4, u5⟩, _⟩ := g3
      have ckt : ckT h (hR h 67 (c.getD q 0)) 9 = some () := by unfold ckT; rw [t5]; rfl
      have u := u5 b hb
      rw [if_neg g1, ckt, Option.bind_some, blk_at t5 u1 u4 hb, bd2_s]
      cases hf : fB (blksT 5 x.2.2) b with
      | none =>
        rw [hf] at u
        have u' : hR h bx b = 0 := u
        have ef : fdB tp b (c.getD q 0 :: c.drop (q + 1)) q = fdB tp b (c.drop (q + 1)) (q + 1) := by
          show (match tp (c.getD q 0) with | none => _ | some x => match fB (blksT 5 x.2.2) b with | none => _ | some y => _) = _
          rw [ht]
          dsimp only
          rw [hf]
        refine ⟨a', h', ?_, by rw [ef]; exact r'⟩
        rw [u']
        dsimp only
        rw [if_pos rfl, i_succ]
        exact e'
      | some y =>
        rw [hf] at u
        obtain ⟨y1, y2, y3, y4⟩ := u
        have ef : fdB tp b (c.getD q 0 :: c.drop (q + 1)) q = some (q, y.2.2) := by
          show (match tp (c.getD q 0) with | none => _ | some x => match fB (blksT 5 x.2.2) b with | none => _ | some y => _) = _
          rw [ht]
          dsimp only
          rw [hf]
        have bo := blk_ok 5 x.2.2 (okt _ x ht) y (fB_mem hf)
        have n0 : ¬ hR h bx b = 0 := by omega
        refine ⟨hR h bx b, pI h (147 + 2 * i) 2 (iN q), ?_, ?_⟩
        · dsimp only
          rw [if_neg n0, pC w hi, Option.bind_some]
          obtain ⟨k, rfl⟩ : ∃ n, k = n + 1 := ⟨k - 1, by omega⟩
          have w1 : WF (pI h (147 + 2 * i) 2 (iN q)) := w
          rw [fX12_walkBlock_l43, gC w1 hi, Option.bind_some]
          by_cases z : hI (pI h (147 + 2 * i) 2 (iN q)) (147 + 2 * i) 1 ≤ iN q + 1
          · rw [if_pos z]
          · rw [if_neg z, if_neg n0]
        · rw [ef]
          exact ⟨n0, y3, ⟨hR h bx b + 1, hi', ⟨by omega, t4, fun z z1 z2 => g4 z (by omega) z2⟩, y4⟩, rfl, by show q < c.length; omega, bo.2, by show y.2.2.1 ≤ 5; omega⟩
/-- no letter: no block -/
theorem bl_n {g : gG1} {own : Nat → Nat} {tp : Tp} {i v : Nat} {c : List Nat} {pl : Nat} {bb : Option Nat} (x4 x5 x6 x7 : Int32) (hi : i < 9) : ∀ (dd q k : Nat) (h : hp), q + dd = c.length → dd < k → WF h → JG h own tp → CHh h i c pl bb → fX12_walkBlock_l43 g k 134 (147 + 2 * i) v x4 x5 x6 x7 (-1) 0 (iN q) h = some (0, h) := by
  intro dd
  induction dd with
  | zero =>
    intro q k h hq hk w G C
    obtain ⟨k, rfl⟩ : ∃ n, k = n + 1 := ⟨k - 1, by omega⟩
    have c6 := C.2.2.2.1
    rw [fX12_walkBlock_l43, gC w hi, Option.bind_some, C.1, if_pos (by rw [i_le (by omega) (by omega)]; omega)]
  | succ dd ih =>
    intro q k h hq hk w G C
    obtain ⟨k, rfl⟩ : ∃ n, k = n + 1 := ⟨k - 1, by omega⟩
    have c6 := C.2.2.2.1
    have hc := C.2.2.2.2.2 q (by omega)
    have nle : ¬ (iN c.length ≤ iN q) := by rw [i_le (by omega) (by omega)]; omega
    have e' := ih (q + 1) k h (by omega) (by omega) w G C
    rw [fX12_walkBlock_l43, gC w hi, Option.bind_some, C.1, if_neg nle, if_pos rfl, gWR w, R134_0 w, Option.bind_some, ckC w hi, Option.bind_some, at_e w hi C (by omega), bd2_s, ck65 w, Option.bind_some, held_e w hc.2, bd2_s, jn_e]
    by_cases z : hR h 67 (c.getD q 0) = 0
    · rw [if_pos z]
      dsimp only
      rw [if_pos rfl, i_succ]
      exact e'
    · rw [if_neg z]
      have Gk := G (c.getD q 0) hc.2
      cases ht : tp (c.getD q 0) with
      | none => rw [ht] at Gk; exact absurd Gk z
      | some x =>
        rw [ht] at Gk
        obtain ⟨g1, g2, lo, hi', g3, g4⟩ := Gk
        obtain ⟨t1, t2, t3, t4, t5, _⟩ := g3
        have ckt : ckT h (hR h 67 (c.getD q 0)) 9 = some () := by unfold ckT; rw [t5]; rfl
        have fb : fX10_block (hR h 67 (c.getD q 0)) (-1) h = some (0, h) := by
          unfold fX10_block
          rw [show fX13_among (-1) 4 h = some (0, h) by unfold fX13_among; rw [if_pos (by decide)], bd2_s, if_pos rfl]
        rw [ckt, Option.bind_some, fb, bd2_s]
        dsimp only
        rw [if_pos rfl, i_succ]
        exact e'
def blW (lk : Bool) (lim : Nat) (tp : Tp) (d : Nat) (lt : Option Nat) (fm ln : Nat) (ρ : Rh) (σ : St) : Ot :=
  match lt with
  | none => ftW ρ σ ln 8
  | some b => wBk lk true lim tp (wE lk true lim tp d) b fm ln ρ σ
theorem block_w {d f : Nat} (A : ∀ q, q ≤ 5 → AP d q f) {h : hp} {own : Nat → Nat} {tp : Tp} {lim : Nat} {KL : List (Nat × vT)} {LL : Nat → Option vT} {fr : Fr} {trn : Option Nat} {lk : Bool} {dp : Nat} {c : List Nat} {j : Nat} {bb : Option Nat} {σ : St} {v lv ln kd fm : Nat} {sg : Int32} {lt : Option Nat} (hd : dp + d = 8) (H : CX h own tp lim KL LL fr (some (c, j, bb)) trn lk dp σ false) (p : PN h own v ln) (po : own v = 1) (h0 : hI h v 0 = iN kd) (h2 : hI h v 2 = sg) (hkd : (kd = 4 ∧ ∃ b, b < 4 ∧ sg = iN b ∧ lt = some b) ∨ (kd = 5 ∧ lt = bb)) (okt : okTp tp) (bb4 : ∀ b, bb = some b → b < 4) (hfm : fm ≤ c.length) (hl : lv + 1 + 5 ≤ 5 * dp + 5) (hk : KL.length ≤ σ.2.2.2 + lv) (hL : ∀ l V, LL l = some V → l < lv) : ∃ h' own', (G1 (f + 1)).2.2.2.2.2.2.2.2 134 (147 + 2 * fr.length) v (iN fm) (iN lv) h = some h' ∧ TRn own h own' h' ∧ CQ h' own' tp lim KL LL fr (some (c, j, bb)) trn lk dp σ.1 (blW lk lim tp d lt fm ln (preF fr, c, j, bb, trn) σ) := by
  have w := H.w
  have h8 := H.1.2.2.2.2.2.2.2
  have hi : fr.length < 9 := by omega
  have C := H.2.2.1 _ rfl
  have C' : CHh h fr.length c j bb := C
  have c6 := C'.2.2.2.1
  have lt4 : ∀ b, lt = some b → b < 4 := by
    intro b e
    rcases hkd with ⟨_, b', hb', _, e'⟩ | ⟨_, e'⟩
    · rw [e'] at e; cases e; exact hb'
    · exact bb4 b (by rw [← e', e])
  obtain ⟨K, hK⟩ : ∃ K : Int32 → Option hp, K = fun s35_0 => bd2 (fX12_walkBlock_l43 (G1 f) FU 134 (147 + 2 * fr.length) v (iN lv) (iN j) (oB bb) (iN σ.2.1) s35_0 0 (iN fm) h) fun v11 h10 => if v11 = 0 then (gfI h10 v 5 1).bind fun v30 => (ckT h10 134 11).bind fun _ => (fX12_fail 134 v30 8 h10).bind fun h33 => some h33 else (pfI h10 (147 + 2 * fr.length) 0 3 s35_0).bind fun h12 => (gfR h12 v11 5 6).bind fun v14 => (ckT h12 134 11).bind fun _ => ((G1 f).2.1 134 v14 (iN lv + 1) h12).bind fun h17 => (pfI h17 (147 + 2 * fr.length) 0 2 (iN j)).bind fun h19 => (pfI h19 (147 + 2 * fr.length) 0 3 (oB bb)).bind fun h21 => (gfI h21 134 11 13).bind fun v23 => if v23 = iN σ.2.1 then some h21 else (gfI h21 v 5 1).bind fun v25 => (ckT h21 134 11).bind fun _ => (fX12_fail 134 v25 3 h21).bind fun h28 => some h28 := ⟨_, rfl⟩
  have st : (G1 (f + 1)).2.2.2.2.2.2.2.2 134 (147 + 2 * fr.length) v (iN fm) (iN lv) h = K (oB lt) := by
    show fX12_walkBlock_b (G1 f) 134 (147 + 2 * fr.length) v (iN fm) (iN lv) h = _
    unfold fX12_walkBlock_b
    rw [gC w hi, Option.bind_some, C'.2.1, gC w hi, Option.bind_some, C'.2.2.1, gW w, Option.bind_some, H.f13, p.g, Option.bind_some, h0, jn_e, hK]
    rcases hkd with ⟨k4, b, hb, e1, e2⟩ | ⟨k5, e2⟩
    · rw [if_pos (show iN kd = 4 by rw [k4]; rfl), p.g, Option.bind_some, h2, e1, e2]
      rfl
    · rw [if_neg (show ¬ iN kd = 4 by rw [k5]; decide), e2]
  rw [st, hK]
  dsimp only
  have none8 : ∃ h' own', ((gfI h v 5 1).bind fun v30 => (ckT h 134 11).bind fun _ => (fX12_fail 134 v30 8 h).bind fun h33 => some h33) = some h' ∧ TRn own h own' h' ∧ CQ h' own' tp lim KL LL fr (some (c, j, bb)) trn lk dp σ.1 (ftW (preF fr, c, j, bb, trn) σ ln 8) := by
    obtain ⟨h3, e3, f3, R3⟩ := ft_e H ln 8
    exact ⟨h3, own, by rw [p.g, Option.bind_some, ckW w, Option.bind_some, p.2.2.2, show fX12_fail 134 (iN ln) 8 h = _ from e3, Option.bind_some], TRn.plf f3.psf.plf, R3⟩
  cases hlt : lt with
  | none =>
    rw [show fX12_walkBlock_l43 (G1 f) FU 134 (147 + 2 * fr.length) v (iN lv) (iN j) (oB bb) (iN σ.2.1) (oB none) 0 (iN fm) h = some (0, h) from bl_n _ _ _ _ hi (c.length - fm) fm FU h (by omega) (FU_pos _ (by omega)) w H.1.2.1.2 C', bd2_s, if_pos rfl]
    exact none8
  | some b =>
    have b4 := lt4 b hlt
    obtain ⟨a, h1, e1, r1⟩ := bl_l (g := G1 f) (own := own) (v := v) (iN lv) (iN j) (oB bb) (iN σ.2.1) hi okt b4 (c.length - fm) fm FU h (by omega) (FU_pos _ (by omega)) w H.1.2.1.2 C'
    rw [show fX12_walkBlock_l43 (G1 f) FU 134 (147 + 2 * fr.length) v (iN lv) (iN j) (oB bb) (iN σ.2.1) (oB (some b)) 0 (iN fm) h = some (a, h1) from e1, bd2_s]
    unfold blW wBk
    dsimp only
    cases hF : fdB tp b (c.drop fm) fm with
    | none =>
      rw [hF] at r1
      obtain ⟨a0, eh⟩ := r1
      rw [if_pos a0, eh]
      exact none8
    | some x =>
      rw [hF] at r1
      obtain ⟨a0, ta, TTa, eh, xl, xok, x5⟩ := r1
      subst eh
      have X1 := H.put2 (j' := x.1) xl
      have w1 := X1.w
      have X2 := X1.put3 (some b)
      have w2 := X2.w
      have t2 : TRn own h own (pI (pI h (147 + 2 * fr.length) 2 (iN x.1)) (147 + 2 * fr.length) 3 (oB (some b))) := (TRn.pch hi 2 (iN x.1)).tr (TRn.pch hi 3 (oB (some b)))
      have ga : gfR (pI (pI h (147 + 2 * fr.length) 2 (iN x.1)) (147 + 2 * fr.length) 3 (oB (some b))) a 5 6 = some (hR h a 6) := by unfold gfR; rw [show hT (pI (pI h (147 + 2 * fr.length) 2 (iN x.1)) (147 + 2 * fr.length) 3 (oB (some b))) a = hT h a from rfl, ta]; rfl
      obtain ⟨h3, own3, e3, t3, q3⟩ := A x.2.1 x5 _ σ x.2.2 (hR h a 6) (lv + 1) hd X2 (TTa.tr t2) xok okt (fun b' e => by cases e; exact b4) (by omega) (by omega) (fun l V e => Nat.lt_succ_of_lt (hL l V e))
      have t23 := t2.tr t3
      have t5 : TRn own3 h3 own3 (pI (pI h3 (147 + 2 * fr.length) 2 (iN j)) (147 + 2 * fr.length) 3 (oB bb)) := (TRn.pch hi 2 (iN j)).tr (TRn.pch hi 3 (oB bb))
      have t25 := t23.tr t5
      obtain ⟨p5, po5⟩ := p.tr po t25
      rw [if_neg a0, pC w1 hi, Option.bind_some, ga, Option.bind_some, ckW w2, Option.bind_some, i_succ, e3, Option.bind_some]
      dsimp only
      have jl : j < c.length := C'.2.2.2.2.1
      cases hR1 : wTr lk true lim (wE lk true lim tp d) x.2.1 x.2.2 (preF fr, c, x.1, some b, trn) σ with
      | inl τ =>
        rw [hR1] at q3
        obtain ⟨X3, u3⟩ := q3
        have w3 := X3.w
        have X4 := X3.put2 (j' := j) jl
        have w4 := X4.w
        have X5 := X4.put3 bb
        have w5 := X5.w
        rw [pC w3 hi, Option.bind_some, pC w4 hi, Option.bind_some, gW w5, Option.bind_some, X5.f13, bO_l, ctx_if X3.2.2.2.2.2.1 H.2.2.2.2.2.1]
        by_cases z : τ.2.1 = σ.2.1
        · rw [if_pos z, if_neg (fun q => q.2 z)]
          exact ⟨_, own3, rfl, t25, X5, u3⟩
        · rw [if_neg z, if_pos ⟨rfl, z⟩, p5.g, Option.bind_some, ckW w5, Option.bind_some, p5.2.2.2]
          obtain ⟨h6, e6, f6, R6⟩ := ft_e X5 ln 3
          rw [u3] at R6
          exact ⟨h6, own3, by rw [show fX12_fail 134 (iN ln) 3 _ = _ from e6, Option.bind_some], t25.tr (TRn.plf f6.psf.plf), R6⟩
      | inr e =>
        rw [hR1] at q3
        obtain ⟨ctx, out, X3, N3⟩ := q3
        have w3 := X3.w
        have X4 := X3.put2 (j' := j) jl
        have w4 := X4.w
        have X5 := X4.put3 bb
        have w5 := X5.w
        have q5 : CF (pI (pI h3 (147 + 2 * fr.length) 2 (iN j)) (147 + 2 * fr.length) 3 (oB bb)) own3 tp lim KL LL fr (some (c, j, bb)) trn lk dp σ.1 e := ⟨ctx, out, X5, (N3.pch _ _ _).pch _ _ _⟩
        rw [pC w3 hi, Option.bind_some, pC w4 hi, Option.bind_some, gW w5, Option.bind_some, bO_r]
        refine ⟨_, own3, ?_, t25, q5⟩
        by_cases z : hI (pI (pI h3 (147 + 2 * fr.length) 2 (iN j)) (147 + 2 * fr.length) 3 (oB bb)) 134 13 = iN σ.2.1
        · rw [if_pos z]
        · rw [if_neg z, p5.g, Option.bind_some, ckW w5, Option.bind_some, q5.no, Option.bind_some]

/-! the class's walk: one piece -/
theorem TG.slot {h : hp} {own : Nat → Nat} {kl : Nat} {LL : Nat → Option vT} {a lv : Nat} (S : SLo h own a (400 + lv)) (hk : kl ≤ 348) (hL : LL lv = none) : TG h own kl LL a (hR h a 4) := by
  obtain ⟨vo, s1, s2, s3, s4, s5, s6⟩ := S
  refine ⟨vo, .inr (.inr ⟨s3, s4, s5, s6, 400 + lv, s1, s2, by omega, fun i hi => by omega, fun l V e => ?_⟩)⟩
  intro q
  rw [show l = lv by omega, hL] at e
  cases e
/-- a loop, printed -/
theorem loopP_w {d m f : Nat} (A : AP d m (f + 1)) {h : hp} {own : Nat → Nat} {tp : Tp} {lim : Nat} {KL : List (Nat × vT)} {LL : Nat → Option vT} {fr : Fr} {trn : Option Nat} {dp : Nat} {c : List Nat} {j : Nat} {bb : Option Nat} {σ : St} {pc : PD (TY m)} {v lv lo hi : Nat} (hd : dp + d = 8) (H : CX h own tp lim KL LL fr (some (c, j, bb)) trn false dp σ false) (O : OW own h lo hi) (r : RepN (RepT h lo hi m) h lo hi pc v) (k3 : pc.1 = 3) (ok : okP pc) (ok1 : okT m pc.2.2.2.2.2.2.1) (ok2 : okT m pc.2.2.2.2.2.2.2) (okt : okTp tp) (bb4 : ∀ b, bb = some b → b < 4) (hl : lv + (m + 1) ≤ 5 * dp + 5) (hk : KL.length ≤ σ.2.2.2 + lv) (hL : ∀ l V, LL l = some V → l < lv) : ∃ h' own', (G1 (f + 2)).2.2.2.2.2.2.1 134 v (iN lv) h = some h' ∧ TRn own h own' h' ∧ CQ h' own' tp lim KL LL fr (some (c, j, bb)) trn false dp σ.1 (if (evE σ.1 trn pc.2.2.2.2.1).1 ≠ 0 then ftW (preF fr, c, j, bb, trn) σ pc.2.1 (evE σ.1 trn pc.2.2.2.2.1).1 else if (evE σ.1 trn pc.2.2.2.2.1).2.1 ≠ 4 then ftW (preF fr, c, j, bb, trn) σ pc.2.1 2 else if (evE σ.1 trn pc.2.2.2.2.1).2.2.2.2.1 = 0 then wTr false true lim (wE false true lim tp d) m pc.2.2.2.2.2.2.2 (preF fr, c, j, bb, trn) σ else rnds (fun i τ => bO (wTr false true lim (wE false true lim tp d) m pc.2.2.2.2.2.2.1 (preF fr, c, j, bb, some i) (upV τ.1 pc.2.2.1.toNatClampNeg (vI ((evE σ.1 trn pc.2.2.2.2.1).2.2.2.2.2 i)), τ.2)) fun τ' => .inl (τ.1, τ'.2)) (evE σ.1 trn pc.2.2.2.2.1).2.2.2.2.1 0 σ) := by
  have w := H.w
  have d8 := H.2.2.2.2.2.2.2.2.2
  have kl := H.1.2.2.2.2.1.1
  obtain ⟨n, hn, en⟩ := ok.1 (.inl k3)
  have tc : pc.2.2.1.toNatClampNeg = n := by rw [en, i_clamp (by omega)]
  rw [tc]
  obtain ⟨p, po⟩ := r.po O
  have hLn : LL lv = none := by
    cases q : LL lv with
    | none => rfl
    | some V => have := hL lv V q; omega
  obtain ⟨a, h1, own1, e1, t1, X1, ea, S1⟩ := list_e H (lv := lv) (by omega) hLn
  have w1 := X1.w
  have T1 : TG h1 own1 KL.length LL a (hR h1 a 4) := TG.slot S1 kl hLn
  have O1 := O.tr t1
  have r1 := r.tr O t1
  obtain ⟨p1, po1⟩ := p.tr po t1
  have a0 : a ≠ 0 := by have := S1.2.2.2.1; omega
  obtain ⟨h2, e2, f2, T2, R2⟩ := wo_e X1 T1 O1 (r1.2.2.2.2.2.2.2.2.2.1 (.inr (.inr (.inl k3)))) ok.2.2.2.1 pc.2.1
  have t2 : TRn own1 h1 own1 h2 := TRn.fs f2 fun x k q => by
    have s3 := S1.2.2.2.1
    have s5 := S1.2.2.2.2.2.1
    have o1 := S1.2.1
    have o2 := S1.2.2.1
    unfold PCo
    rcases q with q | q | q
    · unfold Psf at q; omega
    · exact .inr (.inr ⟨by omega, by rw [q, o1]; omega⟩)
    · exact .inr (.inr ⟨by omega, by rw [q, o2]; omega⟩)
  have t12 := t1.tr t2
  have w2 := f2.wf w1
  have O2 := O.tr t12
  have r2 := r.tr O t12
  obtain ⟨p2, po2⟩ := p.tr po t12
  have n15 : ∀ {g : hp} {own : Nat → Nat} {LL : Nat → Option vT} {σ : St} {fl : Bool}, CX g own tp lim KL LL fr (some (c, j, bb)) trn false dp σ fl → hI g 134 15 = oB trn := fun q => q.2.2.2.1.2.2.2.2.2.1
  show ∃ h' own', fX12_walkLoop_b (G1 (f + 1)) 134 v (iN lv) h = some h' ∧ _
  unfold fX12_walkLoop_b
  rw [ckW w, Option.bind_some, e1, bd2_s, if_neg a0, p1.gR, Option.bind_some, p1.g, Option.bind_some, ckW w1, Option.bind_some, p1.2.2.2, e2, Option.bind_some, gW w2, Option.bind_some]
  rcases R2 with ⟨z, X2, C2, g2⟩ | ⟨z, Q2⟩
  · have ea2 : hR h2 136 lv = a := by rw [f2.2.2.2.1, ea]
    have eb2 : hR h2 a 4 = hR h1 a 4 := by rw [f2.2.2.2.1]
    rw [if_neg (show ¬ (evE σ.1 trn pc.2.2.2.2.1).1 ≠ 0 from fun q => q z), if_pos X2.f17, gIV T2.1, Option.bind_some, C2.2.1]
    have V4 := C2.2.2.1
    by_cases y4 : (evE σ.1 trn pc.2.2.2.2.1).2.1 = 4
    · rw [if_neg (show ¬ (evE σ.1 trn pc.2.2.2.2.1).2.1 ≠ 4 from fun q => q y4), if_pos (show iN (evE σ.1 trn pc.2.2.2.2.1).2.1 = 4 by rw [y4]; rfl), gIV T2.1, Option.bind_some, (C2.2.2.2.2.2 (by omega)).1, jn_e]
      have l6 := (g2.2.2.2.2 y4).1
      have X2' : CX h2 own1 tp lim KL (setL LL lv (evE σ.1 trn pc.2.2.2.2.1).2) fr (some (c, j, bb)) trn false dp σ false := X2.lset (by omega) g2 (by rw [ea2]; exact a0) (by rw [ea2, eb2]; exact C2)
      have n0 : hR h2 136 lv ≠ 0 := by rw [ea2]; exact a0
      have hL' : ∀ l W, setL LL lv (evE σ.1 trn pc.2.2.2.2.1).2 l = some W → l < lv + 1 := fun l W e => by
        unfold setL at e
        by_cases q : l = lv
        · omega
        · rw [if_neg q] at e; have := hL l W e; omega
      by_cases l0 : (evE σ.1 trn pc.2.2.2.2.1).2.2.2.2.1 = 0
      · rw [if_pos l0, if_pos (show iN (evE σ.1 trn pc.2.2.2.2.1).2.2.2.2.1 = 0 by rw [l0]; rfl), p2.gR, Option.bind_some, ckW w2, Option.bind_some]
        obtain ⟨h3, own3, e3, t3, q3⟩ := A h2 σ pc.2.2.2.2.2.2.2 (hR h2 v 7) (lv + 1) hd X2' ⟨lo, hi, O2, r2.2.2.2.2.2.2.2.2.2.2.2.2⟩ ok2 okt bb4 (by omega) (by omega) hL'
        have ea3 : hR h3 136 lv = a := by rw [t3.2.2.2.2 lv n0, ea2]
        rw [i_succ, e3, Option.bind_some]
        -- behind it the loop has no round
        have noround : ∀ {σ' : St} {fl : Bool}, CX h3 own3 tp lim KL (setL LL lv (evE σ.1 trn pc.2.2.2.2.1).2) fr (some (c, j, bb)) trn false dp σ' fl → ((gfI h3 134 11 15).bind fun v18 => (fX12_walkLoop_l87 (G1 (f + 1)) FU 134 v (iN lv) a v18 0 h3).bind fun h21 => (pfI h21 134 11 15 v18).bind fun h22 => some h22) = some (pI h3 134 15 (oB trn)) := by
          intro σ' fl X
          have C := X.lget.1
          rw [ea3] at C
          have w3 := X.w
          have l3 := (C.2.2.2.2.2 (by omega)).1
          have rr : fX12_walkLoop_l87 (G1 (f + 1)) FU 134 v (iN lv) a (oB trn) 0 h3 = some h3 := by
            show fX12_walkLoop_l87 (G1 (f + 1)) (999999 + 1) 134 v (iN lv) a (oB trn) 0 h3 = some h3
            rw [fX12_walkLoop_l87, gIV C.1, Option.bind_some, l3, l0]
            exact if_pos (by decide)
          rw [gW w3, Option.bind_some, n15 X, rr, Option.bind_some, pW w3, Option.bind_some]
        refine ⟨pI h3 134 15 (oB trn), own3, ?_, (t12.tr t3).tr (TRn.p134 15 _), ?_⟩
        · cases hR1 : wTr false true lim (wE false true lim tp d) m pc.2.2.2.2.2.2.2 (preF fr, c, j, bb, trn) σ with
          | inl τ => rw [hR1] at q3; exact noround q3.1
          | inr e => rw [hR1] at q3; obtain ⟨ctx, out, X3, N3⟩ := q3; exact noround X3
        · cases hR1 : wTr false true lim (wE false true lim tp d) m pc.2.2.2.2.2.2.2 (preF fr, c, j, bb, trn) σ with
          | inl τ => rw [hR1] at q3; exact ⟨(q3.1.trn X2.2.2.2.2.2.2.2.1).ldrop hLn, q3.2⟩
          | inr e => rw [hR1] at q3; obtain ⟨ctx, out, X3, N3⟩ := q3; exact ⟨ctx, out, (X3.trn X2.2.2.2.2.2.2.2.1).ldrop hLn, N3.p134 _ _⟩
      · rw [if_neg l0, if_neg (show ¬ iN (evE σ.1 trn pc.2.2.2.2.1).2.2.2.2.1 = 0 from fun q => l0 ((i_eq (b := 0) (by omega) (by decide)).mp q))]
        obtain ⟨h3, own3, e3, t3, t', q3⟩ := rnds_w A y4 g2 hn (by omega) (oB trn) (evE σ.1 trn pc.2.2.2.2.1).2.2.2.2.1 0 FU h2 (tr0 := none) σ pc (by omega) (FU_pos _ (by omega)) hd X2' ea2 O2 r2 en ok1 okt bb4 hl hk hL
        dsimp only
        rw [gW w2, Option.bind_some, n15 X2]
        refine ⟨pI h3 134 15 (oB trn), own3, ?_, (t12.tr t3).tr (TRn.p134 15 _), ?_⟩
        · have w3 : WF h3 := by
            cases hR1 : rnds (fun i τ => bO (wTr false true lim (wE false true lim tp d) m pc.2.2.2.2.2.2.1 (preF fr, c, j, bb, some i) (upV τ.1 n (vI ((evE σ.1 trn pc.2.2.2.2.1).2.2.2.2.2 i)), τ.2)) fun τ' => .inl (τ.1, τ'.2)) (evE σ.1 trn pc.2.2.2.2.1).2.2.2.2.1 0 σ with
            | inl τ => rw [hR1] at q3; exact q3.1.w
            | inr e => rw [hR1] at q3; obtain ⟨ctx, out, X3, N3⟩ := q3; exact X3.w
          rw [show fX12_walkLoop_l87 (G1 (f + 1)) FU 134 v (iN lv) a (oB trn) 0 h2 = some h3 from e3, Option.bind_some, pW w3, Option.bind_some]
        · cases hR1 : rnds (fun i τ => bO (wTr false true lim (wE false true lim tp d) m pc.2.2.2.2.2.2.1 (preF fr, c, j, bb, some i) (upV τ.1 n (vI ((evE σ.1 trn pc.2.2.2.2.1).2.2.2.2.2 i)), τ.2)) fun τ' => .inl (τ.1, τ'.2)) (evE σ.1 trn pc.2.2.2.2.1).2.2.2.2.1 0 σ with
          | inl τ => rw [hR1] at q3; exact ⟨(q3.1.trn X2.2.2.2.2.2.2.2.1).ldrop hLn, q3.2⟩
          | inr e => rw [hR1] at q3; obtain ⟨ctx, out, X3, N3⟩ := q3; exact ⟨ctx, out, (X3.trn X2.2.2.2.2.2.2.2.1).ldrop hLn, N3.p134 _ _⟩
    · rw [if_pos (show (evE σ.1 trn pc.2.2.2.2.1).2.1 ≠ 4 from y4), if_neg (show ¬ iN (evE σ.1 trn pc.2.2.2.2.1).2.1 = 4 from fun q => y4 ((i_eq (b := 4) (by omega) (by decide)).mp q)), p2.g, Option.bind_some, ckW w2, Option.bind_some, p2.2.2.2]
      obtain ⟨h3, e3, f3, R3⟩ := ft_e X2 pc.2.1 2
      exact ⟨h3, own1, by rw [show fX12_fail 134 (iN pc.2.1) 2 h2 = _ from e3, Option.bind_some], t12.tr (TRn.plf f3.psf.plf), R3⟩
  · rw [if_pos z]
    have Q2' : CF h2 own1 tp lim KL LL fr (some (c, j, bb)) trn false dp σ.1 (σ.2.2.2, lks (preF fr, c, j, bb, trn) pc.2.1 (evE σ.1 trn pc.2.2.2.2.1).1) := Q2
    rw [if_neg Q2'.f17]
    exact ⟨h2, own1, rfl, t12, Q2⟩
/-- bytes are not put while it is looked -/
theorem putB_k {h : hp} {own : Nat → Nat} {tp : Tp} {lim : Nat} {KL : List (Nat × vT)} {LL : Nat → Option vT} {fr : Fr} {trn : Option Nat} {dp : Nat} {ch : Option (List Nat × Nat × Option Nat)} {σ : St} {fl : Bool} (H : CX h own tp lim KL LL fr ch trn true dp σ fl) (a b : Int32) : fX12_putByte 134 a b h = some h := by
  unfold fX12_putByte
  rw [gW H.w, Option.bind_some, H.2.2.2.1.2.2.2.2.2.2.1, if_neg (by decide)]
theorem OP.of {d m f : Nat} (A : AP d m (f + 1)) (E : EP d (f + 2)) : OP d m (f + 3) := by
  intro h own tp lim KL LL fr trn lk dp c j bb σ pc v lv lo hi hd H O r ok ok1 ok2 okt bb4 hl hk hL
  have w := H.w
  have d8 := H.2.2.2.2.2.2.2.2.2
  have c3 := H.2.2.2.2.2.1
  have s3 := H.2.2.2.2.2.2.1
  obtain ⟨p, po⟩ := r.po O
  have r4 := r.2.2.2.1
  have r5 := r.2.2.2.2.1
  have r7 := r.2.2.2.2.2.2.1
  have ii : ∀ q, q ≤ 7 → (iN pc.1 = iN q ↔ pc.1 = q) := fun q hq => by rw [i_eq (by omega) (by omega)]
  show ∃ h' own', fX12_walkOne_b (G1 (f + 2)) 134 v (iN lv) h = some h' ∧ _
  unfold fX12_walkOne_b wPc
  rw [p.g, Option.bind_some, r5]
  by_cases k0 : pc.1 = 0
  · rw [if_pos (show iN pc.1 = 0 from (ii 0 (by decide)).mpr k0), if_pos k0, p.g, Option.bind_some, r7, p.g, Option.bind_some, p.2.2.2, ckW w, Option.bind_some]
    cases lk with
    | true =>
      rw [if_pos rfl, putB_k H, Option.bind_some, gW w, Option.bind_some, H.f13, p.g, Option.bind_some, r7, (behind_e _ c3 _ h).1, bd2_s, pW w, Option.bind_some]
      exact ⟨_, own, rfl, TRn.p134 13 _, [], H.ctx (behind_e _ c3 pc.2.2.1 h).2, rfl, hk⟩
    | false =>
      rw [if_neg (by decide)]
      obtain ⟨h1, e1, f1, R1⟩ := putB_e H pc.2.1 pc.2.2.1
      have t1 : TRn own h own h1 := TRn.plf f1.plf
      obtain ⟨p1, po1⟩ := p.tr po t1
      have w1 := f1.wf w
      have q2 : hI h1 v 2 = pc.2.2.1 := by rw [(t1.1.2.2.2 v 2 p.2.1 (own_np p.1 po 2)).1]; exact r7
      rw [e1, Option.bind_some, gW w1, Option.bind_some, p1.g, Option.bind_some, q2]
      cases hR : putW lim (preF fr, c, j, bb, trn) pc.2.1 pc.2.2.1 σ with
      | inl τ =>
        rw [hR] at R1
        obtain ⟨X1, u1⟩ := R1
        have b1 := X1.2.2.2.2.2.1
        have s1 : σ.2.2.2 ≤ τ.2.2.2 := putW_s lim (preF fr, c, j, bb, trn) pc.2.1 pc.2.2.1 σ τ hR
        rw [X1.f13, (behind_e _ b1 _ h1).1, bd2_s, pW w1, Option.bind_some]
        exact ⟨_, own, rfl, t1.tr (TRn.p134 13 _), [], X1.ctx (behind_e _ b1 pc.2.2.1 h1).2, u1, by show KL.length ≤ τ.2.2.2 + lv; omega⟩
      | inr e =>
        rw [hR] at R1
        have R1' : CF h1 own tp lim KL LL fr (some (c, j, bb)) trn false dp σ.1 e := R1
        obtain ⟨c', hc', e13⟩ := R1'.f13
        rw [e13, (behind_e _ hc' _ h1).1, bd2_s, pW w1, Option.bind_some]
        exact ⟨_, own, rfl, t1.tr (TRn.p134 13 _), R1'.ctx (behind_e _ hc' pc.2.2.1 h1).2⟩
  rw [if_neg (show ¬ iN pc.1 = 0 from fun q => k0 ((ii 0 (by decide)).mp q)), if_neg k0, gW w, Option.bind_some, H.2.2.2.1.2.2.2.2.1]
  by_cases ks : 300 ≤ σ.2.2.2
  · rw [if_neg (show ¬ iN σ.2.2.2 < 300 from fun q => by have := (i_lt (b := 300) (by omega) (by decide)).mp q; omega), if_pos ks, p.g, Option.bind_some, ckW w, Option.bind_some, p.2.2.2]
    obtain ⟨h3, e3, f3, R3⟩ := ft_e H pc.2.1 6
    exact ⟨h3, own, by rw [show fX12_fail 134 (iN pc.2.1) 6 h = _ from e3, Option.bind_some], TRn.plf f3.psf.plf, R3⟩
  rw [if_pos (show iN σ.2.2.2 < 300 from (i_lt (b := 300) (by omega) (by decide)).mpr (by show σ.2.2.2 < 300; omega)), if_neg ks, Option.bind_some, i_succ, pW w, Option.bind_some]
  have X1 := H.stp (s := σ.2.2.2 + 1) (by omega)
  have t1 : TRn own h own (pI h 134 14 (iN (σ.2.2.2 + 1))) := TRn.p134 14 _
  have w1 := X1.w
  have O1 := O.tr t1
  have r1 := r.tr O t1
  obtain ⟨p1, po1⟩ := p.tr po t1
  have n16 := X1.2.2.2.1.2.2.2.2.2.2.1
  have r15 := r1.2.2.2.2.1
  have r17 := r1.2.2.2.2.2.2.1
  have hk1 : KL.length ≤ σ.2.2.2 + 1 + lv := by omega
  rw [p1.g, Option.bind_some, r15]
  by_cases k1 : pc.1 = 1
  · rw [if_pos (show iN pc.1 = 1 from (ii 1 (by decide)).mpr k1), if_pos k1, gW w1, Option.bind_some, n16]
    cases lk with
    | true =>
      rw [if_pos rfl, if_neg (by decide)]
      exact ⟨_, own, rfl, t1, [], X1, rfl, hk1⟩
    | false =>
      rw [if_neg (show ¬ false = true by decide), if_pos b2_0, ckW w1, Option.bind_some]
      obtain ⟨h2, e2, f2, R2⟩ := putVal_e X1 p1 O1 (r1.2.2.2.2.2.2.2.2.2.1 (.inl k1)) ok.2.2.2.1
      refine ⟨h2, own, by rw [e2, Option.bind_some], t1.tr (TRn.plf f2), OQ.of R2 fun τ hR => ?_⟩
      have := (show sMn (σ.2.2.2 + 1) (if (evE σ.1 trn pc.2.2.2.2.1).1 ≠ 0 then ftW (preF fr, c, j, bb, trn) (σ.1, σ.2.1, σ.2.2.1, σ.2.2.2 + 1) pc.2.1 (evE σ.1 trn pc.2.2.2.2.1).1 else putV lim (preF fr, c, j, bb, trn) pc.2.1 (shV (evE σ.1 trn pc.2.2.2.2.1).2) (σ.1, σ.2.1, σ.2.2.1, σ.2.2.2 + 1)) by
        split
        · exact sMn.ft _ _ _ _ _
        · exact putV_s _ _ _ _ (σ.1, σ.2.1, σ.2.2.1, σ.2.2.2 + 1)) τ hR
      omega
  rw [if_neg (show ¬ iN pc.1 = 1 from fun q => k1 ((ii 1 (by decide)).mp q)), if_neg k1]
  by_cases k2 : pc.1 = 2
  · rw [if_pos (show iN pc.1 = 2 from (ii 2 (by decide)).mpr k2), if_neg (show ¬ pc.1 = 7 by omega), if_pos k2, gW w1, Option.bind_some, n16]
    cases lk with
    | true =>
      rw [if_pos rfl, if_neg (by decide), ckW w1, Option.bind_some]
      obtain ⟨h2, own2, e2, t2, q2⟩ := lookB_w A hd X1 O1 r1 ok1 ok2 okt bb4 hl hk1 hL
      refine ⟨h2, own2, by rw [e2, Option.bind_some], t1.tr t2, OQ.of q2 fun τ hR => ?_⟩
      have := (show sMn (σ.2.2.2 + 1) _ from (wTr_s (wE_s true true lim tp d) m pc.2.2.2.2.2.2.1 (preF fr, c, j, bb, trn) (σ.1, σ.2.1, σ.2.2.1, σ.2.2.2 + 1)).bd fun σ1 h1 => ((wTr_s (wE_s true true lim tp d) m pc.2.2.2.2.2.2.2 (preF fr, c, j, bb, trn) (σ1.1, σ.2.1, σ1.2.2)).le h1).bd fun σ2 h2 => (by
        show sMn _ (if σ2.2.1 = σ1.2.1 then .inl σ2 else ftW (preF fr, c, j, bb, trn) σ2 pc.2.1 3)
        split
        · exact sMn.ok h2
        · exact sMn.ft _ _ _ _ _)) τ hR
      omega
    | false =>
      rw [if_neg (show ¬ false = true by decide), if_pos b2_0, ckW w1, Option.bind_some]
      obtain ⟨h2, own2, e2, t2, q2⟩ := branch_w A hd X1 O1 r1 k2 ok ok1 ok2 okt bb4 hl hk1 hL
      refine ⟨h2, own2, by rw [e2, Option.bind_some], t1.tr t2, OQ.of q2 fun τ hR => ?_⟩
      have := (show sMn (σ.2.2.2 + 1) (match cvE σ.1 trn pc.2.2.2.1 pc.2.2.2.2.1 pc.2.2.2.2.2.1 with | .inr s => ftW (preF fr, c, j, bb, trn) (σ.1, σ.2.1, σ.2.2.1, σ.2.2.2 + 1) pc.2.1 s | .inl b => if b = true then wTr false true lim (wE false true lim tp d) m pc.2.2.2.2.2.2.1 (preF fr, c, j, bb, trn) (σ.1, σ.2.1, σ.2.2.1, σ.2.2.2 + 1) else wTr false true lim (wE false true lim tp d) m pc.2.2.2.2.2.2.2 (preF fr, c, j, bb, trn) (σ.1, σ.2.1, σ.2.2.1, σ.2.2.2 + 1)) by
        split
        · exact sMn.ft _ _ _ _ _
        · split
          · exact wTr_s (wE_s false true lim tp d) m _ _ (σ.1, σ.2.1, σ.2.2.1, σ.2.2.2 + 1)
          · exact wTr_s (wE_s false true lim tp d) m _ _ (σ.1, σ.2.1, σ.2.2.1, σ.2.2.2 + 1)) τ hR
      omega
  rw [if_neg (show ¬ iN pc.1 = 2 from fun q => k2 ((ii 2 (by decide)).mp q))]
  by_cases k3 : pc.1 = 3
  · rw [if_pos (show iN pc.1 = 3 from (ii 3 (by decide)).mpr k3), if_neg (show ¬ pc.1 = 7 by omega), if_neg k2, if_pos k3, gW w1, Option.bind_some, n16]
    cases lk with
    | true =>
      rw [if_pos rfl, if_neg (by decide), ckW w1, Option.bind_some]
      obtain ⟨h2, own2, e2, t2, q2⟩ := lookL_w A hd X1 O1 r1 ok1 ok2 okt bb4 hl hk1 hL
      refine ⟨h2, own2, by rw [e2, Option.bind_some], t1.tr t2, OQ.of q2 fun τ hR => ?_⟩
      have := (show sMn (σ.2.2.2 + 1) _ from (wTr_s (wE_s true true lim tp d) m pc.2.2.2.2.2.2.1 (preF fr, c, j, bb, trn) (σ.1, σ.2.1, σ.2.2.1, σ.2.2.2 + 1)).bd fun σ1 h1 => (by
        show sMn _ (if σ1.2.1 = σ.2.1 then (bO (wTr true true lim (wE true true lim tp d) m pc.2.2.2.2.2.2.2 (preF fr, c, j, bb, trn) σ1) fun σ2 => if σ2.2.1 = σ.2.1 then .inl σ2 else ftW (preF fr, c, j, bb, trn) σ2 pc.2.1 3) else ftW (preF fr, c, j, bb, trn) σ1 pc.2.1 3)
        split
        · refine ((wTr_s (wE_s true true lim tp d) m pc.2.2.2.2.2.2.2 (preF fr, c, j, bb, trn) σ1).le h1).bd fun σ2 h2 => ?_
          split
          · exact sMn.ok h2
          · exact sMn.ft _ _ _ _ _
        · exact sMn.ft _ _ _ _ _)) τ hR
      omega
    | false =>
      rw [if_neg (show ¬ false = true by decide), if_pos b2_0, ckW w1, Option.bind_some]
      obtain ⟨h2, own2, e2, t2, q2⟩ := loopP_w A hd X1 O1 r1 k3 ok ok1 ok2 okt bb4 hl hk1 hL
      refine ⟨h2, own2, by rw [e2, Option.bind_some], t1.tr t2, OQ.of q2 fun τ hR => ?_⟩
      have hs := wPc_s (lk := false) (cc := true) (lim := lim) (E := wE false true lim tp d) (wI := wTr false true lim (wE false true lim tp d) m) (wE_s false true lim tp d) (fun t ρ σ => wTr_s (wE_s false true lim tp d) m t ρ σ) pc (preF fr, c, j, bb, trn) σ τ (by
        unfold wPc
        rw [if_neg k0, if_neg ks, if_neg k1, if_neg (show ¬ pc.1 = 7 by omega), if_neg k2, if_pos k3, if_neg (show ¬ false = true by decide)]
        exact hR)
      omega
  rw [if_neg (show ¬ iN pc.1 = 3 from fun q => k3 ((ii 3 (by decide)).mp q))]
  by_cases k7 : pc.1 = 7
  · rw [if_pos (show iN pc.1 = 7 from (ii 7 (by decide)).mpr k7), if_pos k7, gW w1, Option.bind_some, n16]
    cases lk with
    | true =>
      rw [if_pos rfl, if_neg (by decide)]
      exact ⟨_, own, rfl, t1, [], X1, rfl, hk1⟩
    | false =>
      obtain ⟨n, hn, en⟩ := ok.1 (.inr k7)
      have tc : pc.2.2.1.toNatClampNeg = n := by rw [en, i_clamp (by omega)]
      rw [if_neg (show ¬ false = true by decide), if_pos b2_0, ckW w1, Option.bind_some, tc]
      obtain ⟨h2, own2, e2, t2, q2⟩ := name_w (lv := lv) X1 p1 O1 (r1.2.2.2.2.2.2.2.2.2.1 (.inr (.inr (.inr k7)))) ok.2.2.2.1 hn (by rw [r17, en]) (by show KL.length + 1 ≤ σ.2.2.2 + 1 + lv; omega) (by omega)
      exact ⟨h2, own2, by rw [e2, Option.bind_some], t1.tr t2, q2⟩
  rw [if_neg (show ¬ iN pc.1 = 7 from fun q => k7 ((ii 7 (by decide)).mp q)), if_neg k7, if_neg k2, if_neg k3, ckW w1, Option.bind_some]
  obtain ⟨h2, own2, e2, t2, q2⟩ := E (pI h 134 14 (iN (σ.2.2.2 + 1))) (σ.1, σ.2.1, σ.2.2.1, σ.2.2.2 + 1) v lv pc.2.1 pc.1 pc.2.2.1 hd X1 p1 po1 r15 r17 (by omega) ok.2.1 ok.2.2.1 okt bb4 (by omega) hk1 hL
  refine ⟨h2, own2, by rw [e2, Option.bind_some], t1.tr t2, OQ.of q2 fun τ hR => ?_⟩
  have := wE_s lk true lim tp d pc.1 pc.2.2.1 pc.2.1 (preF fr, c, j, bb, trn) (σ.1, σ.2.1, σ.2.2.1, σ.2.2.2 + 1) τ hR
  have t' : σ.2.2.2 + 1 ≤ τ.2.2.2 := this
  omega

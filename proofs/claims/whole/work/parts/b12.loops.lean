/-! the class's walk: loops, names -/
theorem lookL_w {d m f : Nat} (A : AP d m (f + 1)) {h : hp} {own : Nat → Nat} {tp : Tp} {lim : Nat} {KL : List (Nat × vT)} {LL : Nat → Option vT} {fr : Fr} {trn : Option Nat} {dp : Nat} {c : List Nat} {j : Nat} {bb : Option Nat} {σ : St} {pc : PD (TY m)} {v lv lo hi : Nat} (hd : dp + d = 8) (H : CX h own tp lim KL LL fr (some (c, j, bb)) trn true dp σ false) (O : OW own h lo hi) (r : RepN (RepT h lo hi m) h lo hi pc v) (ok1 : okT m pc.2.2.2.2.2.2.1) (ok2 : okT m pc.2.2.2.2.2.2.2) (okt : okTp tp) (bb4 : ∀ b, bb = some b → b < 4) (hl : lv + (m + 1) ≤ 5 * dp + 5) (hk : KL.length ≤ σ.2.2.2 + lv) (hL : ∀ l V, LL l = some V → l < lv) : ∃ h' own', (G1 (f + 2)).2.2.2.2.1 134 v (iN lv) h = some h' ∧ TRn own h own' h' ∧ CQ h' own' tp lim KL LL fr (some (c, j, bb)) trn true dp σ.1 (bO (wTr true true lim (wE true true lim tp d) m pc.2.2.2.2.2.2.1 (preF fr, c, j, bb, trn) σ) fun σ1 => if σ1.2.1 = σ.2.1 then (bO (wTr true true lim (wE true true lim tp d) m pc.2.2.2.2.2.2.2 (preF fr, c, j, bb, trn) σ1) fun σ2 => if σ2.2.1 = σ.2.1 then .inl σ2 else ftW (preF fr, c, j, bb, trn) σ2 pc.2.1 3) else ftW (preF fr, c, j, bb, trn) σ1 pc.2.1 3) := by
  have w := H.w
  obtain ⟨p, po⟩ := r.po O
  obtain ⟨_, _, _, _, _, _, _, _, _, _, _, r12, r13⟩ := id r
  have c3 := H.2.2.2.2.2.1
  have d8 := H.2.2.2.2.2.2.2.2.2
  obtain ⟨h1, own1, e1, t1, q1⟩ := A h σ pc.2.2.2.2.2.2.1 (hR h v 6) (lv + 1) hd H ⟨lo, hi, O, r12⟩ ok1 okt bb4 (by omega) (by omega) (fun l V e => Nat.lt_succ_of_lt (hL l V e))
  obtain ⟨p1, po1⟩ := p.tr po t1
  -- what comes behind a fault
  have after : ∀ (g : hp) (own2 : Nat → Nat) (e : Nat × List Lk), TRn own h own2 g → CF g own2 tp lim KL LL fr (some (c, j, bb)) trn true dp σ.1 e → ∃ h', ((gfR g v 5 7).bind fun v10 => (ckT g 134 11).bind fun _ => ((G1 (f + 1)).2.1 134 v10 (iN lv + 1) g).bind fun h13 => (gfI h13 134 11 13).bind fun v15 => if v15 = iN σ.2.1 then some h13 else (gfI h13 v 5 1).bind fun v17 => (ckT h13 134 11).bind fun _ => (fX12_fail 134 v17 3 h13).bind fun h20 => some h20) = some h' ∧ TRn own h own2 h' ∧ CF h' own2 tp lim KL LL fr (some (c, j, bb)) trn true dp σ.1 e := by
    intro g own2 e t q
    obtain ⟨p2, po2⟩ := p.tr po t
    have wg := q.w
    obtain ⟨h3, e3, t3, q3⟩ := CF.all q (f := f) (v := hR g v 7) (lv := lv + 1) (by omega)
    obtain ⟨p3, po3⟩ := p2.tr po2 t3
    have w3 := q3.w
    refine ⟨h3, ?_, t.tr t3, q3⟩
    rw [p2.gR, Option.bind_some, ckW wg, Option.bind_some, i_succ, e3, Option.bind_some, gW w3, Option.bind_some]
    by_cases z : hI h3 134 13 = iN σ.2.1
    · rw [if_pos z]
    · rw [if_neg z, p3.g, Option.bind_some, ckW w3, Option.bind_some, q3.no, Option.bind_some]
  show ∃ h' own', fX12_lookIntoLoop_b (G1 (f + 1)) 134 v (iN lv) h = some h' ∧ _
  unfold fX12_lookIntoLoop_b
  rw [gW w, Option.bind_some, H.f13, p.gR, Option.bind_some, ckW w, Option.bind_some]
  rw [show (G1 (f + 1)).2.1 134 (hR h v 6) (iN lv + 1) h = some h1 by rw [i_succ]; exact e1, Option.bind_some]
  cases hR1 : wTr true true lim (wE true true lim tp d) m pc.2.2.2.2.2.2.1 (preF fr, c, j, bb, trn) σ with
  | inl σ1 =>
    rw [hR1] at q1
    obtain ⟨X1, u1⟩ := q1
    have w1 := X1.w
    have s1 : σ.2.2.2 ≤ σ1.2.2.2 := wTr_s (wE_s _ _ _ _ d) m _ _ σ σ1 hR1
    rw [gW w1, Option.bind_some, X1.f13, jn_e, bO_l, ctx_if X1.2.2.2.2.2.1 c3]
    by_cases z1 : σ1.2.1 = σ.2.1
    · rw [if_pos z1, if_pos z1]
      have r7 : hR h1 v 7 = hR h v 7 := (t1.1.2.2.2 v 7 p.2.1 (own_np p.1 po 7)).2.2
      obtain ⟨h3, own3, e3, t3, q3⟩ := A h1 σ1 pc.2.2.2.2.2.2.2 (hR h v 7) (lv + 1) hd X1 (TT.tr t1 ⟨lo, hi, O, r13⟩) ok2 okt bb4 (by omega) (by omega) (fun l V e => Nat.lt_succ_of_lt (hL l V e))
      obtain ⟨p3, po3⟩ := p1.tr po1 t3
      dsimp only
      rw [p1.gR, Option.bind_some, r7, ckW w1, Option.bind_some, show (G1 (f + 1)).2.1 134 (hR h v 7) (iN lv + 1) h1 = some h3 by rw [i_succ]; exact e3, Option.bind_some]
      cases hR2 : wTr true true lim (wE true true lim tp d) m pc.2.2.2.2.2.2.2 (preF fr, c, j, bb, trn) σ1 with
      | inl σ2 =>
        rw [hR2] at q3
        obtain ⟨X3, u3⟩ := q3
        have w3 := X3.w
        rw [gW w3, Option.bind_some, X3.f13, bO_l, ctx_if X3.2.2.2.2.2.1 c3]
        have u : σ2.1 = σ.1 := u3.trans u1
        by_cases z : σ2.2.1 = σ.2.1
        · rw [if_pos z, if_pos z]
          exact ⟨h3, own3, rfl, t1.tr t3, X3, u⟩
        · rw [if_neg z, if_neg z]
          obtain ⟨h4, e4, f4, R4⟩ := ft_e X3 pc.2.1 3
          refine ⟨h4, own3, by rw [p3.g, Option.bind_some, ckW w3, Option.bind_some, p3.2.2.2, show fX12_fail 134 (iN pc.2.1) 3 h3 = _ from e4, Option.bind_some], (t1.tr t3).tr (TRn.plf f4.psf.plf), ?_⟩
          rw [u] at R4; exact R4
      | inr e =>
        rw [hR2] at q3
        have q3' : CF h3 own3 tp lim KL LL fr (some (c, j, bb)) trn true dp σ1.1 e := q3
        rw [u1] at q3'
        have w3 := q3'.w
        rw [gW w3, Option.bind_some, bO_r]
        refine ⟨h3, own3, ?_, t1.tr t3, q3'⟩
        by_cases z : hI h3 134 13 = iN σ.2.1
        · rw [if_pos z]
        · rw [if_neg z, p3.g, Option.bind_some, ckW w3, Option.bind_some, q3'.no, Option.bind_some]
    · rw [if_neg z1, if_neg z1]
      obtain ⟨h4, e4, f4, R4⟩ := ft_e X1 pc.2.1 3
      rw [u1] at R4
      obtain ⟨h5, e5, t5, R5⟩ := after h4 own1 _ (t1.tr (TRn.plf f4.psf.plf)) R4
      refine ⟨h5, own1, ?_, t5, R5⟩
      rw [p1.g, Option.bind_some, ckW w1, Option.bind_some, p1.2.2.2, show fX12_fail 134 (iN pc.2.1) 3 h1 = _ from e4, Option.bind_some]
      exact e5
  | inr e =>
    rw [hR1] at q1
    have q1' : CF h1 own1 tp lim KL LL fr (some (c, j, bb)) trn true dp σ.1 e := q1
    have w1 := q1'.w
    obtain ⟨h5, e5, t5, R5⟩ := after h1 own1 e t1 q1'
    rw [gW w1, Option.bind_some, jn_e, bO_r]
    refine ⟨h5, own1, ?_, t5, R5⟩
    by_cases z : hI h1 134 13 = iN σ.2.1
    · rw [if_pos z]; exact e5
    · rw [if_neg z, p1.g, Option.bind_some, ckW w1, Option.bind_some, q1'.no, Option.bind_some]; exact e5
/-- a name told -/
theorem name_w {h : hp} {own : Nat → Nat} {tp : Tp} {lim : Nat} {KL : List (Nat × vT)} {LL : Nat → Option vT} {fr : Fr} {trn : Option Nat} {dp : Nat} {c : List Nat} {j : Nat} {bb : Option Nat} {σ : St} {a lo hi ln n lv : Nat} {e : EX} (H : CX h own tp lim KL LL fr (some (c, j, bb)) trn false dp σ false) (p : PN h own a ln) (O : OW own h lo hi) (E : RepE h lo hi (hR h a 4) e) (hl : e.2.2.2.length ≤ 161) (hn : n < 8) (h2 : hI h a 2 = iN n) (hk : KL.length + 1 ≤ σ.2.2.2 + lv) (hv : lv ≤ 45) : ∃ h' own', fX12_tellName 134 a h = some h' ∧ TRn own h own' h' ∧ OQ own' h' tp lim KL LL fr (some (c, j, bb)) trn false dp lv σ.1 (if (evE σ.1 trn e).1 ≠ 0 then ftW (preF fr, c, j, bb, trn) σ ln (evE σ.1 trn e).1 else .inl (upV σ.1 n (evE σ.1 trn e).2, σ.2)) := by
  have w := H.w
  have s3 := H.2.2.2.2.2.2.1
  obtain ⟨h1, e1, f1, T1, r1⟩ := wo_e H (TG.left w) O E hl ln
  have f1' := f1.pw1
  have w1 := f1.wf w
  have t1 : TRn own h own h1 := TRn.plf f1'
  have p1 := p.fs f1' fun x k q => plf_lt q
  have hi2 : hI h1 a 2 = iN n := by rw [(f1'.2.2.2.2 a 2 (fun q => by have := plf_lt q; have := p.1; omega)).1]; exact h2
  unfold fX12_tellName
  rw [p.gR, Option.bind_some, gWR w, R134_4 w, Option.bind_some, p.g, Option.bind_some, ckW w, Option.bind_some, p.2.2.2, e1, Option.bind_some, gW w1, Option.bind_some]
  rcases r1 with ⟨z, X1, C1, g1⟩ | ⟨z, R1⟩
  · rw [if_neg (show ¬ (evE σ.1 trn e).1 ≠ 0 from fun q => q z), if_pos X1.f17]
    obtain ⟨h3, own3, e3, t3, X3⟩ := give_e X1 (by omega) hn C1 g1
    refine ⟨h3, own3, by rw [p1.g, Option.bind_some, gWR w1, R134_4 w1, Option.bind_some, ckW w1, Option.bind_some, hi2, e3, Option.bind_some], t1.tr t3, [(n, σ.1 n)], X3, und_one _ _ _, ?_⟩
    show KL.length + 1 ≤ _
    exact hk
  · rw [if_pos z]
    have R1' : CF h1 own tp lim KL LL fr (some (c, j, bb)) trn false dp σ.1 (σ.2.2.2, lks (preF fr, c, j, bb, trn) ln (evE σ.1 trn e).1) := R1
    rw [if_neg R1'.f17]
    exact ⟨h1, own, rfl, t1, R1⟩
def setL (LL : Nat → Option vT) (lv : Nat) (V : vT) : Nat → Option vT := fun l => if l = lv then some V else LL l
theorem CX.lset {h : hp} {own : Nat → Nat} {tp : Tp} {lim : Nat} {KL : List (Nat × vT)} {LL : Nat → Option vT} {fr : Fr} {trn : Option Nat} {lk : Bool} {dp : Nat} {ch : Option (List Nat × Nat × Option Nat)} {σ : St} {fl : Bool} {lv : Nat} {V : vT} (H : CX h own tp lim KL LL fr ch trn lk dp σ fl) (hl : lv < 48) (g : gV V) (n0 : hR h 136 lv ≠ 0) (C : CV h (hR h 136 lv) (hR h (hR h 136 lv) 4) V) : CX h own tp lim KL (setL LL lv V) fr ch trn lk dp σ fl := by
  obtain ⟨⟨b1, b2, b3, b4, b5, b6, b7⟩, r⟩ := H
  refine ⟨⟨b1, b2, b3, b4, b5, fun l W e => ?_, b7⟩, r⟩
  unfold setL at e
  by_cases q : l = lv
  · rw [if_pos q] at e
    cases e
    rw [q]
    exact ⟨hl, g, n0, C⟩
  · rw [if_neg q] at e
    exact b6 l W e
theorem CX.ldrop {h : hp} {own : Nat → Nat} {tp : Tp} {lim : Nat} {KL : List (Nat × vT)} {LL : Nat → Option vT} {fr : Fr} {trn : Option Nat} {lk : Bool} {dp : Nat} {ch : Option (List Nat × Nat × Option Nat)} {σ : St} {fl : Bool} {lv : Nat} {V : vT} (H : CX h own tp lim KL (setL LL lv V) fr ch trn lk dp σ fl) (hL : LL lv = none) : CX h own tp lim KL LL fr ch trn lk dp σ fl := by
  obtain ⟨⟨b1, b2, b3, b4, b5, b6, b7⟩, r⟩ := H
  refine ⟨⟨b1, b2, b3, b4, b5, fun l W e => b6 l W ?_, b7⟩, r⟩
  unfold setL
  rw [if_neg (fun q => by rw [q, hL] at e; cases e)]
  exact e
theorem CX.lget {h : hp} {own : Nat → Nat} {tp : Tp} {lim : Nat} {KL : List (Nat × vT)} {LL : Nat → Option vT} {fr : Fr} {trn : Option Nat} {lk : Bool} {dp : Nat} {ch : Option (List Nat × Nat × Option Nat)} {σ : St} {fl : Bool} {lv : Nat} {V : vT} (H : CX h own tp lim KL (setL LL lv V) fr ch trn lk dp σ fl) : CV h (hR h 136 lv) (hR h (hR h 136 lv) 4) V ∧ hR h 136 lv ≠ 0 := by
  have := H.1.2.2.2.2.2.1 lv V (by unfold setL; rw [if_pos rfl])
  exact ⟨this.2.2.2, this.2.2.1⟩
theorem CF.tr {h : hp} {own : Nat → Nat} {tp : Tp} {lim : Nat} {KL : List (Nat × vT)} {LL : Nat → Option vT} {fr : Fr} {trn : Option Nat} {lk : Bool} {dp : Nat} {ch : Option (List Nat × Nat × Option Nat)} {vs : Nat → vT} {e : Nat × List Lk} (H : CF h own tp lim KL LL fr ch trn lk dp vs e) {t : Option Nat} (ht : ∀ i, t = some i → i < 6) : CF (pI h 134 15 (oB t)) own tp lim KL LL fr ch t lk dp vs e := by
  obtain ⟨ctx, out, X, N⟩ := H
  exact ⟨ctx, out, X.trn ht, N.p134 _ _⟩
/-- the rounds of a loop -/
theorem rnds_w {d m f : Nat} (A : AP d m (f + 1)) {lv n a v lo hi : Nat} {V : vT} (V4 : V.1 = 4) (g : gV V) (hn : n < 8) (hv : lv ≤ 45) (x4 : Int32) : ∀ (dd i k : Nat) (h : hp) {own : Nat → Nat} {tp : Tp} {lim : Nat} {KL : List (Nat × vT)} {LL : Nat → Option vT} {fr : Fr} {trn : Option Nat} {dp : Nat} {tr0 : Option Nat} {c : List Nat} {j : Nat} {bb : Option Nat} (τ : St) (pc : PD (TY m)), i + dd = V.2.2.2.1 → dd < k → dp + d = 8 → CX h own tp lim KL (setL LL lv V) fr (some (c, j, bb)) trn false dp τ false → hR h 136 lv = a → OW own h lo hi → RepN (RepT h lo hi m) h lo hi pc v → pc.2.2.1 = iN n → okT m pc.2.2.2.2.2.2.1 → okTp tp → (∀ b, bb = some b → b < 4) → lv + (m + 1) ≤ 5 * dp + 5 → KL.length ≤ τ.2.2.2 + lv → (∀ l W, LL l = some W → l < lv) → ∃ h' own', fX12_walkLoop_l87 (G1 (f + 1)) k 134 v (iN lv) a x4 (iN i) h = some h' ∧ TRn own h own' h' ∧ ∃ t', CQ h' own' tp lim KL (setL LL lv V) fr (some (c, j, bb)) t' false dp τ.1 (rnds (fun i τ => bO (wTr false true lim (wE false true lim tp d) m pc.2.2.2.2.2.2.1 (preF fr, c, j, bb, some i) (upV τ.1 n (vI (V.2.2.2.2 i)), τ.2)) fun τ' => .inl (τ.1, τ'.2)) dd i τ) := by
  intro dd
  induction dd with
  | zero =>
    intro i k h own tp lim KL LL fr trn dp tr0 c j bb τ pc hi' hk' hd H ha O r _ _ _ _ _ _ _
    obtain ⟨k, rfl⟩ : ∃ q, k = q + 1 := ⟨k - 1, by omega⟩
    have C := H.lget.1
    rw [ha] at C
    have l6 := (g.2.2.2.2 V4).1
    have h3 := (C.2.2.2.2.2 (by omega)).1
    refine ⟨h, own, ?_, TRn.rf own h, trn, H, rfl⟩
    rw [fX12_walkLoop_l87, gIV C.1, Option.bind_some, h3, if_pos (by rw [i_le (by omega) (by omega)]; omega)]
  | succ dd ih =>
    intro i k h own tp lim KL LL fr trn dp tr0 c j bb τ pc hi' hk' hd H ha O r h2 ok okt bb4 hl hk hL
    obtain ⟨k, rfl⟩ : ∃ q, k = q + 1 := ⟨k - 1, by omega⟩
    have w := H.w
    have hn2 := w.2.2
    have C := H.lget.1
    rw [ha] at C
    have l6 := (g.2.2.2.2 V4).1
    have il := (g.2.2.2.2 V4).2 i (by omega)
    have h3 := (C.2.2.2.2.2 (by omega)).1
    have hit := (C.2.2.2.2.2 (by omega)).2.2 i (by omega)
    have n10 := H.2.2.2.1.1
    have st3 := H.2.2.2.2.2.2.1
    obtain ⟨p, po⟩ := r.po O
    have at1 : fX11_at a (iN i) h = some (V.2.2.2.2 i, h) := by rw [vAt C.1 h3 (by omega) (show i < V.2.2.2.1 by omega), hit]
    have TL : TG h own KL.length (setL LL lv V) 137 138 := TG.left w
    obtain ⟨h1, e1, C1, f1⟩ := cInt (V.2.2.2.2 i) TL.1
    have gi : gV (vI (V.2.2.2.2 i)) := gvI il
    have X1 := H.tgt TL f1.fs (fun x k q => .inl (by simpa using q)) C1 gi
    have t1 : TRn own h own h1 := TRn.fs f1.fs fun x k q => by simp at q; unfold PCo; omega
    have w1 := X1.w
    obtain ⟨p1, po1⟩ := p.tr po t1
    have r21 : hI h1 v 2 = iN n := by rw [(t1.1.2.2.2 v 2 p.2.1 (own_np p.1 po 2)).1, r.2.2.2.2.2.2.1, h2]
    obtain ⟨h3', own3, e3, t3, X3⟩ := give_e X1 (by omega) hn C1 gi
    have t13 := t1.tr t3
    have X4 := X3.trn (t := some i) (fun q e => by cases e; omega)
    have t4 : TRn own3 h3' own3 (pI h3' 134 15 (oB (some i))) := TRn.p134 15 _
    have t14 := t13.tr t4
    have w3 := X3.w
    have w4 := X4.w
    obtain ⟨p4, po4⟩ := p.tr po t14
    have r6 : hR (pI h3' 134 15 (oB (some i))) v 6 = hR h v 6 := (t14.1.2.2.2 v 6 p.2.1 (own_np p.1 po 6)).2.2
    have TA : TT (pI h3' 134 15 (oB (some i))) own3 m pc.2.2.2.2.2.2.1 (hR h v 6) := TT.tr t14 ⟨lo, hi, O, r.2.2.2.2.2.2.2.2.2.2.2.1⟩
    obtain ⟨h5, own5, e5, t5, q5⟩ := A (pI h3' 134 15 (oB (some i))) (upV τ.1 n (vI (V.2.2.2.2 i)), τ.2) pc.2.2.2.2.2.2.1 (hR h v 6) (lv + 1) hd X4 TA ok okt bb4 (by omega) (by show KL.length + 1 ≤ τ.2.2.2 + (lv + 1); omega) (fun l W e => by
      unfold setL at e
      by_cases q : l = lv
      · omega
      · rw [if_neg q] at e; have := hL l W e; omega)
    have t15 := t14.tr t5
    have nle : ¬ (iN V.2.2.2.1 ≤ iN i) := by rw [i_le (by omega) (by omega)]; omega
    have p4' : ∀ q, gfR (pI h3' 134 15 (iN i)) v 5 q = some (hR (pI h3' 134 15 (iN i)) v q) := p4.gR
    have r6' : hR (pI h3' 134 15 (iN i)) v 6 = hR h v 6 := r6
    have w4' : WF (pI h3' 134 15 (iN i)) := w4
    have e5' : (G1 (f + 1)).2.1 134 (hR h v 6) (iN (lv + 1)) (pI h3' 134 15 (iN i)) = some h5 := e5
    have st : fX12_walkLoop_l87 (G1 (f + 1)) (k + 1) 134 v (iN lv) a x4 (iN i) h = (ckT h5 134 11).bind fun _ => (fX12_giveBack 134 (iN KL.length) h5).bind fun h31 => fX12_walkLoop_l87 (G1 (f + 1)) k 134 v (iN lv) a x4 (iN (i + 1)) h31 := by
      rw [fX12_walkLoop_l87, gIV C.1, Option.bind_some, h3, if_neg nle, gW w, Option.bind_some, if_pos H.f17, gW w, Option.bind_some, n10, gWR w, R134_4 w, Option.bind_some, ckV C.1, Option.bind_some, at1, bd2_s, ckV TL.1, Option.bind_some, e1, Option.bind_some, p1.g, Option.bind_some, r21, gWR w1, R134_4 w1, Option.bind_some, ckW w1, Option.bind_some, e3, Option.bind_some, pW w3, Option.bind_some, p4', Option.bind_some, r6', ckW w4', Option.bind_some, i_succ, e5', Option.bind_some, i_succ]
    have er : rnds (fun i τ => bO (wTr false true lim (wE false true lim tp d) m pc.2.2.2.2.2.2.1 (preF fr, c, j, bb, some i) (upV τ.1 n (vI (V.2.2.2.2 i)), τ.2)) fun τ' => .inl (τ.1, τ'.2)) (dd + 1) i τ = bO (bO (wTr false true lim (wE false true lim tp d) m pc.2.2.2.2.2.2.1 (preF fr, c, j, bb, some i) (upV τ.1 n (vI (V.2.2.2.2 i)), τ.2)) fun τ' => .inl (τ.1, τ'.2)) (rnds (fun i τ => bO (wTr false true lim (wE false true lim tp d) m pc.2.2.2.2.2.2.1 (preF fr, c, j, bb, some i) (upV τ.1 n (vI (V.2.2.2.2 i)), τ.2)) fun τ' => .inl (τ.1, τ'.2)) dd (i + 1)) := rfl
    rw [er]
    cases hR1 : wTr false true lim (wE false true lim tp d) m pc.2.2.2.2.2.2.1 (preF fr, c, j, bb, some i) (upV τ.1 n (vI (V.2.2.2.2 i)), τ.2) with
    | inl τ1 =>
      rw [hR1] at q5
      obtain ⟨X5, u5⟩ := q5
      have s1 : τ.2.2.2 ≤ τ1.2.2.2 := wTr_s (wE_s _ _ _ _ d) m _ _ (upV τ.1 n (vI (V.2.2.2.2 i)), τ.2) τ1 hR1
      obtain ⟨h6, e6, t6, f6, X6⟩ := back_e (KL := KL) [(n, τ.1 n)] X5
      have X6' : CX h6 own5 tp lim KL (setL LL lv V) fr (some (c, j, bb)) (some i) false dp (τ.1, τ1.2) false := by
        rw [u5] at X6
        rw [show und [(n, τ.1 n)] (upV τ.1 n (vI (V.2.2.2.2 i)), τ.2).1 = τ.1 from und_one _ _ _] at X6
        exact X6
      have t16 := t15.tr t6
      have ha6 : hR h6 136 lv = a := by rw [t16.2.2.2.2 lv (by have := H.lget.2; exact this), ha]
      obtain ⟨h7, own7, e7, t7, t', q7⟩ := ih (i + 1) k h6 (tr0 := none) (τ.1, τ1.2) pc (by omega) (by omega) hd X6' ha6 (O.tr t16) (r.tr O t16) h2 ok okt bb4 hl (by show _ ≤ τ1.2.2.2 + lv; omega) hL
      refine ⟨h7, own7, ?_, t16.tr t7, t', ?_⟩
      · rw [st, ckW X5.w, Option.bind_some, e6, Option.bind_some, e7]
      · rw [bO_l, bO_l]; exact q7
    | inr e =>
      rw [hR1] at q5
      obtain ⟨ctx, out, X5, N5⟩ := q5
      obtain ⟨h6, e6, t6, f6, X6⟩ := back_e (KL := KL) [(n, τ.1 n)] X5
      have X6' : CX h6 own5 tp lim KL (setL LL lv V) fr (some (c, j, bb)) (some i) false dp (τ.1, ctx, out, e.1) true := by
        have X6 : CX h6 own5 tp lim KL (setL LL lv V) fr (some (c, j, bb)) (some i) false dp (und [(n, τ.1 n)] (upV τ.1 n (vI (V.2.2.2.2 i))), ctx, out, e.1) true := X6
        rw [und_one] at X6
        exact X6
      have q6 : CF h6 own5 tp lim KL (setL LL lv V) fr (some (c, j, bb)) (some i) false dp τ.1 e := ⟨ctx, out, X6', N5.fs f6 (fun k q => by omega) (fun k q => by omega)⟩
      have t16 := t15.tr t6
      have ha6 : hR h6 136 lv = a := by rw [t16.2.2.2.2 lv (by have := H.lget.2; exact this), ha]
      have C6 := X6'.lget.1
      rw [ha6] at C6
      refine ⟨h6, own5, ?_, t16, some i, by rw [bO_r, bO_r]; exact q6⟩
      rw [st, ckW X5.w, Option.bind_some, e6, Option.bind_some]
      obtain ⟨k, rfl⟩ : ∃ q, k = q + 1 := ⟨k - 1, by omega⟩
      rw [fX12_walkLoop_l87, gIV C6.1, Option.bind_some]
      by_cases z : hI h6 a 3 ≤ iN (i + 1)
      · rw [if_pos z]
      · rw [if_neg z, gW q6.w, Option.bind_some, if_neg q6.f17]

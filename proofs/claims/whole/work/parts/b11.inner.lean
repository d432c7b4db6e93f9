/-! the class's walk: branches, loops, names -/
theorem RepN.po {X : Type} {sub : X → Nat → Prop} {h : hp} {own : Nat → Nat} {lo hi v : Nat} {pc : PD X} (O : OW own h lo hi) (r : RepN sub h lo hi pc v) : PN h own v pc.2.1 ∧ own v = 1 := by
  obtain ⟨a, b, c, _, _, e, _⟩ := r
  have o1 := O.1
  have o2 := O.2.1
  exact ⟨⟨by omega, by omega, c, e⟩, O.2.2 v a b⟩
theorem PN.tr {h h' : hp} {own own' : Nat → Nat} {a ln : Nat} (p : PN h own a ln) (o : own a = 1) (t : TRn own h own' h') : PN h' own' a ln ∧ own' a = 1 := by
  have np : ¬ PCo own a 1 := fun q => by
    have := p.1
    unfold PCo at q
    rcases q with q | q | q
    · omega
    · omega
    · exact q.2 o
  exact ⟨⟨p.1, by have := p.2.1; have := t.1.1; omega, by rw [t.1.2.2.1 a p.2.1]; exact p.2.2.1, by rw [(t.1.2.2.2 a 1 p.2.1 np).1]; exact p.2.2.2⟩, by rw [t.2.1 a p.2.1]; exact o⟩
theorem own_np {own : Nat → Nat} {a : Nat} (h2 : 204 ≤ a) (o : own a = 1) (k : Nat) : ¬ PCo own a k := fun q => by
  unfold PCo at q
  rcases q with q | q | q
  · omega
  · omega
  · exact q.2 o
theorem RepN.tr {m : Nat} {h h' : hp} {own own' : Nat → Nat} {lo hi v : Nat} {pc : PD (TY m)} (O : OW own h lo hi) (r : RepN (RepT h lo hi m) h lo hi pc v) (t : TRn own h own' h') : RepN (RepT h' lo hi m) h' lo hi pc v :=
  r.fg t.1 O.2.1 (fun x k a b => O.np x k a b) (Nat.le_refl _) (Nat.le_refl _) fun tt x q => RepT.fg t.1 O.2.1 (fun x k a b => O.np x k a b) (Nat.le_refl _) (Nat.le_refl _) m tt x q
/-- a branch, printed -/
theorem branch_w {d m f : Nat} (A : AP d m f) {h : hp} {own : Nat → Nat} {tp : Tp} {lim : Nat} {KL : List (Nat × vT)} {LL : Nat → Option vT} {fr : Fr} {trn : Option Nat} {dp : Nat} {c : List Nat} {j : Nat} {bb : Option Nat} {σ : St} {pc : PD (TY m)} {v lv lo hi : Nat} (hd : dp + d = 8) (H : CX h own tp lim KL LL fr (some (c, j, bb)) trn false dp σ false) (O : OW own h lo hi) (r : RepN (RepT h lo hi m) h lo hi pc v) (k2 : pc.1 = 2) (ok : okP pc) (ok1 : okT m pc.2.2.2.2.2.2.1) (ok2 : okT m pc.2.2.2.2.2.2.2) (okt : okTp tp) (bb4 : ∀ b, bb = some b → b < 4) (hl : lv + (m + 1) ≤ 5 * dp + 5) (hk : KL.length ≤ σ.2.2.2 + lv) (hL : ∀ l V, LL l = some V → l < lv) : ∃ h' own', (G1 (f + 1)).2.2.2.2.2.1 134 v (iN lv) h = some h' ∧ TRn own h own' h' ∧ CQ h' own' tp lim KL LL fr (some (c, j, bb)) trn false dp σ.1 (match cvE σ.1 trn pc.2.2.2.1 pc.2.2.2.2.1 pc.2.2.2.2.2.1 with | .inr s => ftW (preF fr, c, j, bb, trn) σ pc.2.1 s | .inl b => if b = true then wTr false true lim (wE false true lim tp d) m pc.2.2.2.2.2.2.1 (preF fr, c, j, bb, trn) σ else wTr false true lim (wE false true lim tp d) m pc.2.2.2.2.2.2.2 (preF fr, c, j, bb, trn) σ) := by
  have w := H.w
  obtain ⟨p, po⟩ := r.po O
  obtain ⟨_, _, _, _, _, _, _, r8, r9, r10, r11, r12, r13⟩ := id r
  obtain ⟨y, h1, e1, f1, R1⟩ := hlds_e H p O r9 r8 (r10 (.inr (.inl k2))) (r11 k2) ok.2.2.2.1 ok.2.2.2.2
  have t1 : TRn own h own h1 := TRn.plf f1
  have p1 := p.fs f1 fun x k q => plf_lt q
  show ∃ h' own', fX12_walkBranch_b (G1 f) 134 v (iN lv) h = some h' ∧ _
  unfold fX12_walkBranch_b
  rw [ckW w, Option.bind_some, e1, bd2_s]
  cases hc : cvE σ.1 trn pc.2.2.2.1 pc.2.2.2.2.1 pc.2.2.2.2.2.1 with
  | inl b =>
    rw [hc] at R1
    obtain ⟨ey, X1⟩ := R1
    have w1 := X1.w
    rw [gW w1, Option.bind_some, if_pos X1.f17, jn_e]
    cases b with
    | true =>
      obtain ⟨h2, own2, e2, t2, q2⟩ := A h1 σ pc.2.2.2.2.2.2.1 (hR h v 6) (lv + 1) hd X1 (TT.tr t1 ⟨lo, hi, O, r12⟩) ok1 okt bb4 (by omega) (by omega) (fun l V e => Nat.lt_succ_of_lt (hL l V e))
      refine ⟨h2, own2, ?_, t1.tr t2, q2⟩
      rw [ey, if_neg (show ¬ (b2 true = 0) by decide), p1.gR, Option.bind_some, f1.2.2.2.1]
      dsimp only
      rw [ckW w1, Option.bind_some, i_succ, e2, Option.bind_some]
    | false =>
      obtain ⟨h2, own2, e2, t2, q2⟩ := A h1 σ pc.2.2.2.2.2.2.2 (hR h v 7) (lv + 1) hd X1 (TT.tr t1 ⟨lo, hi, O, r13⟩) ok2 okt bb4 (by omega) (by omega) (fun l V e => Nat.lt_succ_of_lt (hL l V e))
      refine ⟨h2, own2, ?_, t1.tr t2, q2⟩
      rw [ey, if_pos (show (b2 false = 0) by decide), p1.gR, Option.bind_some, f1.2.2.2.1]
      dsimp only
      rw [ckW w1, Option.bind_some, i_succ, e2, Option.bind_some]
  | inr s =>
    rw [hc] at R1
    have R1' : CF h1 own tp lim KL LL fr (some (c, j, bb)) trn false dp σ.1 (σ.2.2.2, lks (preF fr, c, j, bb, trn) pc.2.1 s) := R1
    refine ⟨h1, own, ?_, t1, R1⟩
    rw [gW R1'.w, Option.bind_some, if_neg R1'.f17]
/-- nothing is walked behind a fault -/
theorem CF.all {h : hp} {own : Nat → Nat} {tp : Tp} {lim : Nat} {KL : List (Nat × vT)} {LL : Nat → Option vT} {fr : Fr} {trn : Option Nat} {lk : Bool} {dp : Nat} {ch : Option (List Nat × Nat × Option Nat)} {vs : Nat → vT} {e : Nat × List Lk} (H : CF h own tp lim KL LL fr ch trn lk dp vs e) {f v lv : Nat} (hl : lv < 48) : ∃ h', (G1 (f + 1)).2.1 134 v (iN lv) h = some h' ∧ TRn own h own h' ∧ CF h' own tp lim KL LL fr ch trn lk dp vs e := by
  have w := H.w
  have n17 := H.f17
  obtain ⟨ctx, out, X, N⟩ := H
  have lt : iN lv < 48 := (i_lt (b := 48) (by omega) (by decide)).mpr hl
  obtain ⟨h2, e2, t2, f2, X2⟩ := back_e (KL := KL) [] X
  refine ⟨h2, ?_, t2, ctx, out, X2, N.fs f2 (fun k q => by omega) (fun k q => by omega)⟩
  show fX12_walkAll_b (G1 f) 134 v (iN lv) h = _
  unfold fX12_walkAll_b
  have e1 : fX12_walkAll_l22 (G1 f) FU 134 (iN lv) (iN KL.length) v h = some h := by
    show fX12_walkAll_l22 (G1 f) (999999 + 1) 134 (iN lv) (iN KL.length) v h = some h
    rw [fX12_walkAll_l22]
    by_cases z : v = 0
    · rw [if_pos z]
    · rw [if_neg z, gW w, Option.bind_some, if_neg n17]
  rw [if_pos lt, gW w, Option.bind_some, X.2.2.2.1.1, e1, Option.bind_some, ckW w, Option.bind_some, e2, Option.bind_some]
/-- contexts told apart -/
theorem ctx_if {α : Type} {a b : Nat} (ha : a ≤ 3) (hb : b ≤ 3) {x y : α} : (if iN a = iN b then x else y) = if a = b then x else y := by
  by_cases e : a = b
  · rw [if_pos e, e, if_pos rfl]
  · rw [if_neg e, if_neg (fun q => e ((i_eq (by omega) (by omega)).mp q))]
/-- a branch, looked at -/
theorem lookB_w {d m f : Nat} (A : AP d m (f + 1)) {h : hp} {own : Nat → Nat} {tp : Tp} {lim : Nat} {KL : List (Nat × vT)} {LL : Nat → Option vT} {fr : Fr} {trn : Option Nat} {dp : Nat} {c : List Nat} {j : Nat} {bb : Option Nat} {σ : St} {pc : PD (TY m)} {v lv lo hi : Nat} (hd : dp + d = 8) (H : CX h own tp lim KL LL fr (some (c, j, bb)) trn true dp σ false) (O : OW own h lo hi) (r : RepN (RepT h lo hi m) h lo hi pc v) (ok1 : okT m pc.2.2.2.2.2.2.1) (ok2 : okT m pc.2.2.2.2.2.2.2) (okt : okTp tp) (bb4 : ∀ b, bb = some b → b < 4) (hl : lv + (m + 1) ≤ 5 * dp + 5) (hk : KL.length ≤ σ.2.2.2 + lv) (hL : ∀ l V, LL l = some V → l < lv) : ∃ h' own', (G1 (f + 2)).2.2.2.1 134 v (iN lv) h = some h' ∧ TRn own h own' h' ∧ CQ h' own' tp lim KL LL fr (some (c, j, bb)) trn true dp σ.1 (bO (wTr true true lim (wE true true lim tp d) m pc.2.2.2.2.2.2.1 (preF fr, c, j, bb, trn) σ) fun σ1 => bO (wTr true true lim (wE true true lim tp d) m pc.2.2.2.2.2.2.2 (preF fr, c, j, bb, trn) (σ1.1, σ.2.1, σ1.2.2)) fun σ2 => if σ2.2.1 = σ1.2.1 then .inl σ2 else ftW (preF fr, c, j, bb, trn) σ2 pc.2.1 3) := by
  have w := H.w
  obtain ⟨p, po⟩ := r.po O
  obtain ⟨_, _, _, _, _, _, _, _, _, _, _, r12, r13⟩ := id r
  have c3 := H.2.2.2.2.2.1
  obtain ⟨h1, own1, e1, t1, q1⟩ := A h σ pc.2.2.2.2.2.2.1 (hR h v 6) (lv + 1) hd H ⟨lo, hi, O, r12⟩ ok1 okt bb4 (by omega) (by omega) (fun l V e => Nat.lt_succ_of_lt (hL l V e))
  have t2 : TRn own1 h1 own1 (pI h1 134 13 (iN σ.2.1)) := TRn.p134 13 _
  have t12 := t1.tr t2
  obtain ⟨p1, po1⟩ := p.tr po t1
  obtain ⟨p2, po2⟩ := p1.tr po1 t2
  have r7 : hR (pI h1 134 13 (iN σ.2.1)) v 7 = hR h v 7 := (t12.1.2.2.2 v 7 p.2.1 (own_np p.1 po 7)).2.2
  show ∃ h' own', fX12_lookIntoBranch_b (G1 (f + 1)) 134 v (iN lv) h = some h' ∧ _
  unfold fX12_lookIntoBranch_b
  rw [gW w, Option.bind_some, H.f13, p.gR, Option.bind_some, ckW w, Option.bind_some, i_succ, e1, Option.bind_some]
  have O12 : OW own1 (pI h1 134 13 (iN σ.2.1)) lo hi := O.tr t12
  have T7 : TT (pI h1 134 13 (iN σ.2.1)) own1 m pc.2.2.2.2.2.2.2 (hR h v 7) := TT.tr t12 ⟨lo, hi, O, r13⟩
  cases hR1 : wTr true true lim (wE true true lim tp d) m pc.2.2.2.2.2.2.1 (preF fr, c, j, bb, trn) σ with
  | inl σ1 =>
    rw [hR1] at q1
    obtain ⟨X1, u1⟩ := q1
    have w1 := X1.w
    have s1 : σ.2.2.2 ≤ σ1.2.2.2 := wTr_s (wE_s _ _ _ _ d) m _ _ σ σ1 hR1
    have X2 := X1.ctx c3
    have w2 := X2.w
    obtain ⟨h3, own3, e3, t3, q3⟩ := A (pI h1 134 13 (iN σ.2.1)) (σ1.1, σ.2.1, σ1.2.2) pc.2.2.2.2.2.2.2 (hR h v 7) (lv + 1) hd X2 T7 ok2 okt bb4 (by omega) (by show _ ≤ σ1.2.2.2 + _; omega) (fun l V e => Nat.lt_succ_of_lt (hL l V e))
    rw [gW w1, Option.bind_some, X1.f13, pW w1, Option.bind_some, p2.gR, r7, Option.bind_some, ckW w2, Option.bind_some, e3, Option.bind_some, bO_l]
    cases hR2 : wTr true true lim (wE true true lim tp d) m pc.2.2.2.2.2.2.2 (preF fr, c, j, bb, trn) (σ1.1, σ.2.1, σ1.2.2) with
    | inl σ2 =>
      rw [hR2] at q3
      obtain ⟨X3, u3⟩ := q3
      have w3 := X3.w
      rw [gW w3, Option.bind_some, X3.f13, bO_l, ctx_if X3.2.2.2.2.2.1 X1.2.2.2.2.2.1]
      have u : σ2.1 = σ.1 := u3.trans u1
      by_cases z : σ2.2.1 = σ1.2.1
      · rw [if_pos z, if_pos z]
        exact ⟨h3, own3, rfl, t12.tr t3, X3, u⟩
      · rw [if_neg z, if_neg z]
        obtain ⟨p3, po3⟩ := p2.tr po2 t3
        obtain ⟨h4, e4, f4, R4⟩ := ft_e X3 pc.2.1 3
        refine ⟨h4, own3, by rw [p3.g, Option.bind_some, ckW w3, Option.bind_some, p3.2.2.2, show fX12_fail 134 (iN pc.2.1) 3 h3 = _ from e4, Option.bind_some], (t12.tr t3).tr (TRn.plf f4.psf.plf), ?_⟩
        rw [u] at R4; exact R4
    | inr e =>
      rw [hR2] at q3
      have q3' : CF h3 own3 tp lim KL LL fr (some (c, j, bb)) trn true dp σ1.1 e := q3
      rw [u1] at q3'
      have w3 := q3'.w
      obtain ⟨p3, po3⟩ := p2.tr po2 t3
      rw [gW w3, Option.bind_some, bO_r]
      refine ⟨h3, own3, ?_, t12.tr t3, q3'⟩
      by_cases z : hI h3 134 13 = iN σ1.2.1
      · rw [if_pos z]
      · rw [if_neg z, p3.g, Option.bind_some, ckW w3, Option.bind_some, q3'.no, Option.bind_some]
  | inr e =>
    rw [hR1] at q1
    have q1' : CF h1 own1 tp lim KL LL fr (some (c, j, bb)) trn true dp σ.1 e := q1
    have w1 := q1'.w
    have q2 := q1'.ctx c3
    have w2 := q2.w
    obtain ⟨h3, e3, t3, q3⟩ := CF.all q2 (f := f) (v := hR h v 7) (lv := lv + 1) (by have := H.2.2.2.2.2.2.2.2.2; omega)
    obtain ⟨p3, po3⟩ := p2.tr po2 t3
    have w3 := q3.w
    rw [gW w1, Option.bind_some, pW w1, Option.bind_some, p2.gR, r7, Option.bind_some, ckW w2, Option.bind_some, e3, Option.bind_some, gW w3, Option.bind_some, bO_r]
    refine ⟨h3, own1, ?_, t12.tr t3, q3⟩
    by_cases z : hI h3 134 13 = hI h1 134 13
    · rw [if_pos z]
    · rw [if_neg z, p3.g, Option.bind_some, ckW w3, Option.bind_some, q3.no, Option.bind_some]

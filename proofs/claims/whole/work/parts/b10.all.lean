/-! the class's walk: pieces one behind the other -/
abbrev okTp (tp : Tp) : Prop := ∀ k x, tp k = some x → okT 5 x.2.2
/-- trees of depth m, with d left -/
def AP (d m f : Nat) : Prop := ∀ (h : hp) {own : Nat → Nat} {tp : Tp} {lim : Nat} {KL : List (Nat × vT)} {LL : Nat → Option vT} {fr : Fr} {trn : Option Nat} {lk : Bool} {dp : Nat} {c : List Nat} {j : Nat} {bb : Option Nat} (σ : St) (t : TY m) (v lv : Nat), dp + d = 8 → CX h own tp lim KL LL fr (some (c, j, bb)) trn lk dp σ false → TT h own m t v → okT m t → okTp tp → (∀ b, bb = some b → b < 4) → lv + m ≤ 5 * dp + 5 → KL.length ≤ σ.2.2.2 + lv → (∀ l V, LL l = some V → l < lv) → ∃ h' own', (G1 f).2.1 134 v (iN lv) h = some h' ∧ TRn own h own' h' ∧ CQ h' own' tp lim KL LL fr (some (c, j, bb)) trn lk dp σ.1 (wTr lk true lim (wE lk true lim tp d) m t (preF fr, c, j, bb, trn) σ)
/-- what stands elsewhere -/
def EP (d f : Nat) : Prop := ∀ (h : hp) {own : Nat → Nat} {tp : Tp} {lim : Nat} {KL : List (Nat × vT)} {LL : Nat → Option vT} {fr : Fr} {trn : Option Nat} {lk : Bool} {dp : Nat} {c : List Nat} {j : Nat} {bb : Option Nat} (σ : St) (v lv ln kd : Nat) (sg : Int32), dp + d = 8 → CX h own tp lim KL LL fr (some (c, j, bb)) trn lk dp σ false → PN h own v ln → own v = 1 → hI h v 0 = iN kd → hI h v 2 = sg → (kd = 4 ∨ kd = 5 ∨ kd = 6) → (kd = 6 → ∃ n, n < 6 ∧ sg = iN n) → (kd = 4 → ∃ n, n < 4 ∧ sg = iN n) → okTp tp → (∀ b, bb = some b → b < 4) → lv ≤ 5 * dp + 4 → KL.length ≤ σ.2.2.2 + lv → (∀ l V, LL l = some V → l < lv) → ∃ h' own', (G1 f).2.2.2.2.2.2.2.1 134 v (iN lv) h = some h' ∧ TRn own h own' h' ∧ CQ h' own' tp lim KL LL fr (some (c, j, bb)) trn lk dp σ.1 (wE lk true lim tp d kd sg ln (preF fr, c, j, bb, trn) σ)
/-- behind one piece -/
def OQ (own : Nat → Nat) (h' : hp) (tp : Tp) (lim : Nat) (KL : List (Nat × vT)) (LL : Nat → Option vT) (fr : Fr) (ch : Option (List Nat × Nat × Option Nat)) (trn : Option Nat) (lk : Bool) (dp lv : Nat) (vs : Nat → vT) (R : Ot) : Prop :=
  match R with
  | .inl σ => ∃ ext, CX h' own tp lim (ext ++ KL) LL fr ch trn lk dp σ false ∧ und ext σ.1 = vs ∧ (ext ++ KL).length ≤ σ.2.2.2 + lv
  | .inr e => CF h' own tp lim KL LL fr ch trn lk dp vs e
/-- one piece -/
def OP (d m f : Nat) : Prop := ∀ (h : hp) {own : Nat → Nat} {tp : Tp} {lim : Nat} {KL : List (Nat × vT)} {LL : Nat → Option vT} {fr : Fr} {trn : Option Nat} {lk : Bool} {dp : Nat} {c : List Nat} {j : Nat} {bb : Option Nat} (σ : St) (pc : PD (TY m)) (v lv lo hi : Nat), dp + d = 8 → CX h own tp lim KL LL fr (some (c, j, bb)) trn lk dp σ false → OW own h lo hi → RepN (RepT h lo hi m) h lo hi pc v → okP pc → okT m pc.2.2.2.2.2.2.1 → okT m pc.2.2.2.2.2.2.2 → okTp tp → (∀ b, bb = some b → b < 4) → lv + (m + 1) ≤ 5 * dp + 5 → KL.length ≤ σ.2.2.2 + lv → (∀ l V, LL l = some V → l < lv) → ∃ h' own', (G1 f).2.2.1 134 v (iN lv) h = some h' ∧ TRn own h own' h' ∧ OQ own' h' tp lim KL LL fr (some (c, j, bb)) trn lk dp lv σ.1 (wPc lk true lim (wE lk true lim tp d) (wTr lk true lim (wE lk true lim tp d) m) pc (preF fr, c, j, bb, trn) σ)
theorem OQ.of {h : hp} {own : Nat → Nat} {tp : Tp} {lim : Nat} {KL : List (Nat × vT)} {LL : Nat → Option vT} {fr : Fr} {trn : Option Nat} {lk : Bool} {dp : Nat} {ch : Option (List Nat × Nat × Option Nat)} {lv : Nat} {vs : Nat → vT} {R : Ot} (H : CQ h own tp lim KL LL fr ch trn lk dp vs R) (hk : ∀ σ, R = .inl σ → KL.length ≤ σ.2.2.2 + lv) : OQ own h tp lim KL LL fr ch trn lk dp lv vs R := by
  cases R with
  | inl σ => exact ⟨[], H.1, H.2, hk σ rfl⟩
  | inr e => exact H
theorem CF.k {h : hp} {own : Nat → Nat} {tp : Tp} {lim : Nat} {KL : List (Nat × vT)} {LL : Nat → Option vT} {fr : Fr} {trn : Option Nat} {lk : Bool} {dp : Nat} {ch : Option (List Nat × Nat × Option Nat)} {vs : Nat → vT} {e : Nat × List Lk} (H : CF h own tp lim KL LL fr ch trn lk dp vs e) (n : Nat) (K : hp → Option hp) : True := trivial
theorem loop_w {d m f : Nat} (O : OP d m f) {lv : Nat} {vs0 : Nat → vT} (x3 : Int32) : ∀ (ps : List (PD (TY m))) (n : Nat) (h : hp) {own : Nat → Nat} {tp : Tp} {lim : Nat} {KL : List (Nat × vT)} {LL : Nat → Option vT} {fr : Fr} {trn : Option Nat} {lk : Bool} {dp : Nat} {c : List Nat} {j : Nat} {bb : Option Nat} (σ : St) (ext : List (Nat × vT)) (v lo hi : Nat), ps.length < n → dp + d = 8 → CX h own tp lim (ext ++ KL) LL fr (some (c, j, bb)) trn lk dp σ false → und ext σ.1 = vs0 → OW own h lo hi → RepL (X := TY m) (RepT h lo hi m) h lo hi ps v → (∀ pc : PD (TY m), pc ∈ ps → okP pc ∧ okT m pc.2.2.2.2.2.2.1 ∧ okT m pc.2.2.2.2.2.2.2) → okTp tp → (∀ b, bb = some b → b < 4) → lv + (m + 1) ≤ 5 * dp + 5 → (ext ++ KL).length ≤ σ.2.2.2 + lv → (∀ l V, LL l = some V → l < lv) → ∃ h' own', fX12_walkAll_l22 (G1 f) n 134 (iN lv) x3 v h = some h' ∧ TRn own h own' h' ∧ match wL (fun pc => wPc lk true lim (wE lk true lim tp d) (wTr lk true lim (wE lk true lim tp d) m) pc (preF fr, c, j, bb, trn)) ps σ with
  | .inl σ' => ∃ ext', CX h' own' tp lim (ext' ++ KL) LL fr (some (c, j, bb)) trn lk dp σ' false ∧ und ext' σ'.1 = vs0
  | .inr e => ∃ ext' vs', CF h' own' tp lim (ext' ++ KL) LL fr (some (c, j, bb)) trn lk dp vs' e ∧ und ext' vs' = vs0 := by
  intro ps
  induction ps with
  | nil =>
    intro n h own tp lim KL LL fr trn lk dp c j bb σ ext v lo hi hn hd H hu hO r _ _ _ _ _ _
    obtain ⟨n, rfl⟩ : ∃ q, n = q + 1 := ⟨n - 1, by omega⟩
    have v0 : v = 0 := r
    refine ⟨h, own, ?_, TRn.rf own h, ext, H, hu⟩
    rw [fX12_walkAll_l22, if_pos v0]
  | cons pc ps ih =>
    intro n h own tp lim KL LL fr trn lk dp c j bb σ ext v lo hi hn hd H hu hO r ok okt bb4 hl hk hL
    obtain ⟨n, rfl⟩ : ∃ q, n = q + 1 := ⟨n - 1, by omega⟩
    have hn' : ps.length + 1 < n + 1 := hn
    have w := H.w
    obtain ⟨r1, r2⟩ := r
    obtain ⟨o1, o2, o3⟩ := ok pc (List.mem_cons_self ..)
    have a1 := r1.1
    have a2 := r1.2.1
    have a3 := r1.2.2.1
    have b1 := hO.1
    have b2 := hO.2.1
    obtain ⟨h1, own1, e1, t1, q1⟩ := O h σ pc v lv lo hi hd H hO r1 o1 o2 o3 okt bb4 hl hk hL
    have nx : hR h1 v 8 = hR h v 8 := (t1.1.2.2.2 v 8 (by omega) (hO.np v 8 a1 a2)).2.2
    have g8 : gfR h1 v 5 8 = some (hR h v 8) := by unfold gfR; rw [t1.1.2.2.1 v (by omega), a3]; show some (hR h1 v 8) = _; rw [nx]
    have st : fX12_walkAll_l22 (G1 f) (n + 1) 134 (iN lv) x3 v h = fX12_walkAll_l22 (G1 f) n 134 (iN lv) x3 (hR h v 8) h1 := by
      rw [fX12_walkAll_l22, if_neg (show ¬ v = 0 by omega), gW w, Option.bind_some, if_pos H.f17, ckW w, Option.bind_some, e1, Option.bind_some, g8, Option.bind_some]
    have ew : wL (fun pc => wPc lk true lim (wE lk true lim tp d) (wTr lk true lim (wE lk true lim tp d) m) pc (preF fr, c, j, bb, trn)) (pc :: ps) σ = bO (wPc lk true lim (wE lk true lim tp d) (wTr lk true lim (wE lk true lim tp d) m) pc (preF fr, c, j, bb, trn) σ) (wL (fun pc => wPc lk true lim (wE lk true lim tp d) (wTr lk true lim (wE lk true lim tp d) m) pc (preF fr, c, j, bb, trn)) ps) := rfl
    cases hR1 : wPc lk true lim (wE lk true lim tp d) (wTr lk true lim (wE lk true lim tp d) m) pc (preF fr, c, j, bb, trn) σ with
    | inl σ1 =>
      rw [hR1] at q1
      obtain ⟨e', X1, u1, k1⟩ := q1
      rw [← List.append_assoc] at X1 k1
      have r2' : RepL (X := TY m) (RepT h1 lo hi m) h1 lo hi ps (hR h v 8) := RepL.fg t1.1 b2 (fun x k p q => hO.np x k p q) (Nat.le_refl _) (Nat.le_refl _) (fun t x q => RepT.fg t1.1 b2 (fun x k p q => hO.np x k p q) (Nat.le_refl _) (Nat.le_refl _) m t x q) ps _ r2
      obtain ⟨h2, own2, e2, t2, q2⟩ := ih n h1 (KL := KL) σ1 (e' ++ ext) (hR h v 8) lo hi (by omega) hd X1 (by rw [und_app, u1]; exact hu) (hO.tr t1) r2' (fun pc hp => ok pc (List.mem_cons_of_mem _ hp)) okt bb4 hl k1 hL
      refine ⟨h2, own2, by rw [st, e2], t1.tr t2, ?_⟩
      rw [ew, hR1, bO_l]
      exact q2
    | inr e =>
      rw [hR1] at q1
      have q1' : CF h1 own1 tp lim (ext ++ KL) LL fr (some (c, j, bb)) trn lk dp σ.1 e := q1
      refine ⟨h1, own1, ?_, t1, ?_⟩
      · rw [st]
        obtain ⟨n, rfl⟩ : ∃ q, n = q + 1 := ⟨n - 1, by omega⟩
        rw [fX12_walkAll_l22]
        by_cases z : hR h v 8 = 0
        · rw [if_pos z]
        · rw [if_neg z, gW q1'.w, Option.bind_some, if_neg q1'.f17]
      · rw [ew, hR1, bO_r]
        exact ⟨ext, σ.1, q1', hu⟩
theorem AP.succ {d m f : Nat} (O : OP d m f) : AP d (m + 1) (f + 1) := by
  intro h own tp lim KL LL fr trn lk dp c j bb σ t v lv hd H T ok okt bb4 hl hk hL
  have w := H.w
  obtain ⟨lo, hi, hO, r⟩ := T
  have hdp := H.2.2.2.2.2.2.2.2.2
  have lt : iN lv < 48 := (i_lt (b := 48) (by omega) (by decide)).mpr (by show lv < 48; omega)
  have n10 := H.2.2.2.1.1
  obtain ⟨h1, own1, e1, t1, q1⟩ := loop_w O (lv := lv) (vs0 := σ.1) (iN KL.length) t FU h (KL := KL) σ [] v lo hi (FU_pos _ (by have := ok.1; omega)) hd H rfl hO r ok.2 okt bb4 hl hk hL
  have st : (G1 (f + 1)).2.1 134 v (iN lv) h = (ckT h1 134 11).bind fun _ => (fX12_giveBack 134 (iN KL.length) h1).bind fun h6 => some h6 := by
    show fX12_walkAll_b (G1 f) 134 v (iN lv) h = _
    unfold fX12_walkAll_b
    rw [if_pos lt, gW w, Option.bind_some, n10, e1, Option.bind_some]
  have ew : wTr lk true lim (wE lk true lim tp d) (m + 1) t (preF fr, c, j, bb, trn) σ = bO (wL (X := TY m) (fun pc => wPc lk true lim (wE lk true lim tp d) (wTr lk true lim (wE lk true lim tp d) m) pc (preF fr, c, j, bb, trn)) t σ) fun σ' => .inl (σ.1, σ'.2) := rfl
  rw [ew]
  cases hR1 : wL (X := TY m) (fun pc => wPc lk true lim (wE lk true lim tp d) (wTr lk true lim (wE lk true lim tp d) m) pc (preF fr, c, j, bb, trn)) t σ with
  | inl σ1 =>
    rw [hR1] at q1
    obtain ⟨ext, X1, u1⟩ := q1
    obtain ⟨h2, e2, t2, f2, X2⟩ := back_e ext X1
    refine ⟨h2, own1, by rw [st, ckW X1.w, Option.bind_some, e2, Option.bind_some], t1.tr t2, ?_⟩
    rw [bO_l]
    rw [u1] at X2
    exact ⟨X2, rfl⟩
  | inr e =>
    rw [hR1] at q1
    obtain ⟨ext, vs', X1, u1⟩ := q1
    obtain ⟨ctx, out, X1, N1⟩ := X1
    obtain ⟨h2, e2, t2, f2, X2⟩ := back_e ext X1
    refine ⟨h2, own1, by rw [st, ckW X1.w, Option.bind_some, e2, Option.bind_some], t1.tr t2, ?_⟩
    rw [bO_r]
    have X2' : CX h2 own1 tp lim KL LL fr (some (c, j, bb)) trn lk dp (und ext vs', ctx, out, e.1) true := X2
    rw [u1] at X2'
    exact ⟨ctx, out, X2', N1.fs f2 (fun k q => by omega) (fun k q => by omega)⟩
theorem AP.zero {d f : Nat} : AP d 0 (f + 1) := by
  intro h own tp lim KL LL fr trn lk dp c j bb σ t v lv hd H T ok okt bb4 hl hk hL
  have w := H.w
  obtain ⟨lo, hi, hO, r⟩ := T
  have v0 : v = 0 := r
  have hdp := H.2.2.2.2.2.2.2.2.2
  have lt : iN lv < 48 := (i_lt (b := 48) (by omega) (by decide)).mpr (by show lv < 48; omega)
  have n10 := H.2.2.2.1.1
  obtain ⟨h2, e2, t2, f2, X2⟩ := back_e (KL := KL) [] H
  refine ⟨h2, own, ?_, t2, X2, rfl⟩
  show fX12_walkAll_b (G1 f) 134 v (iN lv) h = _
  unfold fX12_walkAll_b
  have e1 : fX12_walkAll_l22 (G1 f) FU 134 (iN lv) (iN KL.length) v h = some h := by
    show fX12_walkAll_l22 (G1 f) (999999 + 1) 134 (iN lv) (iN KL.length) v h = some h
    rw [fX12_walkAll_l22, if_pos v0]
  rw [if_pos lt, gW w, Option.bind_some, n10, e1, Option.bind_some, ckW w, Option.bind_some, e2, Option.bind_some]

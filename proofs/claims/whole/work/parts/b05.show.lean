/-! the class's walk: values shown, conditions -/
abbrev PLf (x k : Nat) : Prop := Psf x k ∨ (137 ≤ x ∧ x ≤ 142)
theorem CX.shown {P : Nat → Nat → Prop} {h h' : hp} {own : Nat → Nat} {tp : Tp} {lim : Nat} {KL : List (Nat × vT)} {LL : Nat → Option vT} {fr : Fr} {trn : Option Nat} {lk : Bool} {dp : Nat} {ch : Option (List Nat × Nat × Option Nat)} {σ : St} {fl : Bool} {L : List Int32} (H : CX h own tp lim KL LL fr ch trn lk dp σ fl) (f : FS P h h') (hP : ∀ x k, P x k → x = 141 ∨ x = 142) (N' : NL h' 141 142 53 L) : CX h' own tp lim KL LL fr ch trn lk dp σ fl := by
  obtain ⟨B, ⟨⟨V1, a1, a2⟩, ⟨V2, a3, a4⟩, L, a5⟩, Ch, N, O, r⟩ := H
  have hn := B.1.1.2.2
  have h8 := B.2.2.2.2.2.2.2
  have nn : ∀ x k, x ≠ 141 → x ≠ 142 → ¬ P x k := fun x k p q z => (hP x k z).elim p q
  refine ⟨B.fs f fun x k q => ?_, ⟨⟨V1, a1.fs f (fun k => nn _ k (by decide) (by decide)) (fun k => nn _ k (by decide) (by decide)), a2⟩, ⟨V2, a3.fs f (fun k => nn _ k (by decide) (by decide)) (fun k => nn _ k (by decide) (by decide)), a4⟩, _, N'⟩, Ch.fs f (fun k _ => nn _ k (by omega) (by omega)) (fun k => nn _ k (by omega) (by omega)), N.fs f (fun k => nn _ k (by omega) (by omega)), O.fs f (fun k => nn _ k (by omega) (by omega)) (fun k => nn _ k (by omega) (by omega)) (fun k => ⟨nn _ k (by omega) (by omega), nn _ k (by omega) (by omega)⟩), r⟩
  have := hP x k q
  refine ⟨by omega, ?_⟩
  unfold PA
  omega
/-- a value of the register shown -/
theorem shw_e {h : hp} {own : Nat → Nat} {tp : Tp} {lim : Nat} {KL : List (Nat × vT)} {LL : Nat → Option vT} {fr : Fr} {trn : Option Nat} {lk : Bool} {dp : Nat} {ch : Option (List Nat × Nat × Option Nat)} {σ : St} {fl : Bool} {V : vT} (H : CX h own tp lim KL LL fr ch trn lk dp σ fl) (C : CV h 137 138 V) (g : gV V) : ∃ h1 h', fX5_empty 141 h = some h1 ∧ WF h1 ∧ fX11_showInto 137 141 h1 = some h' ∧ FS (fun x _ => x = 141 ∨ x = 142) h h' ∧ NL h' 141 142 53 (shV V) ∧ CX h' own tp lim KL LL fr ch trn lk dp σ fl := by
  have w := H.w
  obtain ⟨L, a5⟩ := H.2.1.2.2
  have f1 : FS (fun x _ => x = 141 ∨ x = 142) h (pI h 141 1 0) := FS.pI (.inl rfl)
  have N1 : NL (pI h 141 1 0) 141 142 53 [] := ⟨NO_shown (f1.wf w), by rw [hI_pI, if_pos ⟨rfl, rfl⟩]; rfl, by decide, fun k hk => absurd hk (Nat.not_lt_zero _)⟩
  have C1 : CV (pI h 141 1 0) 137 138 V := C.fs f1 (fun k q => by omega) (fun k q => by omega)
  obtain ⟨h2, e2, N2, f2⟩ := cShV C1 g (by decide) (by decide) N1 (by decide)
  have f12 := f1.tr (f2.fs.up (Q := fun x _ => x = 141 ∨ x = 142) fun x k q => by simpa using q)
  exact ⟨_, h2, nEmpty (NO_shown w), f1.wf w, e2, f12, N2, H.shown f12 (fun x k q => q) N2⟩
theorem FS.plf {h h' : hp} (f : FS Psf h h') : FS PLf h h' := f.up fun _ _ q => .inl q
/-- a piece -/
def PN (h : hp) (own : Nat → Nat) (a ln : Nat) : Prop := 204 ≤ a ∧ a < 64 + hN h ∧ hT h a = (5, 9) ∧ hI h a 1 = iN ln
theorem PN.g {h : hp} {own : Nat → Nat} {a ln : Nat} (H : PN h own a ln) (k : Nat) : gfI h a 5 k = some (hI h a k) := by unfold gfI; rw [H.2.2.1]; rfl
theorem PN.gR {h : hp} {own : Nat → Nat} {a ln : Nat} (H : PN h own a ln) (k : Nat) : gfR h a 5 k = some (hR h a k) := by unfold gfR; rw [H.2.2.1]; rfl
theorem PN.fs {P : Nat → Nat → Prop} {h h' : hp} {own : Nat → Nat} {a ln : Nat} (H : PN h own a ln) (f : FS P h h') (hP : ∀ x k, P x k → x < 204) : PN h' own a ln :=
  ⟨H.1, by rw [f.1]; exact H.2.1, by rw [f.2.2.1]; exact H.2.2.1, by rw [(f.2.2.2.2 a 1 (fun q => by have := hP a 1 q; have := H.1; omega)).1]; exact H.2.2.2⟩
theorem TG.left {h : hp} {own : Nat → Nat} {kl : Nat} {LL : Nat → Option vT} (w : WF h) : TG h own kl LL 137 138 := ⟨⟨T137 w, T138 w, R137_4 w, by decide⟩, .inl ⟨rfl, rfl⟩⟩
theorem TG.right {h : hp} {own : Nat → Nat} {kl : Nat} {LL : Nat → Option vT} (w : WF h) : TG h own kl LL 139 140 := ⟨⟨T139 w, T140 w, R139_4 w, by decide⟩, .inr (.inl ⟨rfl, rfl⟩)⟩
theorem FS.pw1 {h h' : hp} (f : FS (PW 137 138) h h') : FS PLf h h' := f.up fun x k q => q.elim .inl fun q => .inr (by omega)
theorem FS.pw2 {h h' : hp} (f : FS (PW 139 140) h h') : FS PLf h h' := f.up fun x k q => q.elim .inl fun q => .inr (by omega)
theorem plf_lt {x k : Nat} (q : PLf x k) : x < 204 := by unfold PLf Psf at q; omega
theorem putVal_e {h : hp} {own : Nat → Nat} {tp : Tp} {lim : Nat} {KL : List (Nat × vT)} {LL : Nat → Option vT} {fr : Fr} {trn : Option Nat} {dp : Nat} {c : List Nat} {j : Nat} {bb : Option Nat} {σ : St} {a lo hi ln : Nat} {e : EX} (H : CX h own tp lim KL LL fr (some (c, j, bb)) trn false dp σ false) (p : PN h own a ln) (O : OW own h lo hi) (E : RepE h lo hi (hR h a 4) e) (hl : e.2.2.2.length ≤ 161) : ∃ h', fX12_putValue 134 a h = some h' ∧ FS PLf h h' ∧ CQ h' own tp lim KL LL fr (some (c, j, bb)) trn false dp σ.1 (if (evE σ.1 trn e).1 ≠ 0 then ftW (preF fr, c, j, bb, trn) σ ln (evE σ.1 trn e).1 else putV lim (preF fr, c, j, bb, trn) ln (shV (evE σ.1 trn e).2) σ) := by
  have w := H.w
  obtain ⟨h1, e1, f1, T1, r1⟩ := wo_e H (TG.left w) O E hl ln
  have f1' := f1.pw1
  have w1 := f1.wf w
  have p1 := p.fs f1' fun x k q => plf_lt q
  have sp : ∀ h1' h2 : hp, fX5_empty 141 h1 = some h1' → WF h1' → fX11_showInto 137 141 h1' = some h2 → fX12_putValue 134 a h = (fX12_putValue_l36 FU 134 a 0 h2).bind fun h23 => some h23 := by
    intro h1' h2 ee w1' es
    unfold fX12_putValue
    rw [p.gR, Option.bind_some, gWR w, R134_4 w, Option.bind_some, p.g, Option.bind_some, ckW w, Option.bind_some, p.2.2.2, e1, Option.bind_some, gWR w1, R134_6 w1, Option.bind_some, ckN (NO_shown w1), Option.bind_some, ee, Option.bind_some, gWR w1', R134_4 w1', Option.bind_some, gWR w1', R134_6 w1', Option.bind_some, ckV (TG.left (own := own) (kl := 0) (LL := LL) w1').1, Option.bind_some, es, Option.bind_some]
  have na : a ∉ [134, 86, 87, 143, 144] := by have := p.1; simp; omega
  have up : ∀ {g g' : hp}, FS (fun x _ => x = 141 ∨ x = 142) g g' → FS PLf g g' := fun f => f.up fun x k q => by unfold PLf; omega
  rcases r1 with ⟨z, X1, C1, g1⟩ | ⟨z, R1⟩
  · rw [if_neg (fun q => q z)]
    obtain ⟨h1', h2, ee, w1', es, f2, N2, X2⟩ := shw_e X1 C1 g1
    have p2 := p1.fs f2 fun x k q => by omega
    have sl := shV_len g1
    obtain ⟨h3, e3, f3, R3⟩ := putV_l (ln := ln) (a := a) (b := 0) (f := fun _ => 0) (shV (evE σ.1 trn e).2).length 0 FU h2 σ X2 N2 p2.2.2.1 p2.2.2.2 na (by omega) (FU_pos _ (by omega))
    refine ⟨h3, by rw [sp h1' h2 ee w1' es, show fX12_putValue_l36 FU 134 a 0 h2 = _ from e3, Option.bind_some], (f1'.tr (up f2)).tr f3.plf, R3⟩
  · rw [if_pos z]
    obtain ⟨ctx, out, C, N⟩ := id R1
    obtain ⟨V, cv, gv⟩ := C.2.1.1
    obtain ⟨h1', h2, ee, w1', es, f2, N2, X2⟩ := shw_e C cv gv
    have w2 := X2.w
    have sl := shV_len gv
    refine ⟨h2, ?_, f1'.tr (up f2), ctx, out, X2, N.fs f2 (fun k q => by omega) (fun k q => by omega)⟩
    rw [sp h1' h2 ee w1' es]
    have g141 : gfI h2 141 4 1 = some (iN (shV V).length) := by unfold gfI; rw [N2.1.1]; show some (hI h2 141 1) = _; rw [N2.2.1]
    have : fX12_putValue_l36 FU 134 a 0 h2 = some h2 := by
      show fX12_putValue_l36 (999999 + 1) 134 a 0 h2 = _
      rw [fX12_putValue_l36, gWR w2, R134_6 w2, Option.bind_some, g141, Option.bind_some, gW w2, Option.bind_some, X2.2.2.2.1.2.2.2.2.2.2.2]
      by_cases y : iN (shV V).length ≤ 0
      · rw [if_pos y]
      · rw [if_neg y, if_neg (by decide)]
    rw [this, Option.bind_some]
theorem trS_01 (V : vT) : trS V = 0 ∨ trS V = 1 := by
  unfold trS
  repeat' split
  all_goals first | exact .inl rfl | exact .inr rfl
theorem trS_z (V : vT) : zck (trS V) = some () := by rcases trS_01 V with e | e <;> (rw [e]; rfl)
/-- whether a condition holds -/
theorem hlds_e {h : hp} {own : Nat → Nat} {tp : Tp} {lim : Nat} {KL : List (Nat × vT)} {LL : Nat → Option vT} {fr : Fr} {trn : Option Nat} {dp : Nat} {c : List Nat} {j : Nat} {bb : Option Nat} {σ : St} {a lo hi ln ts : Nat} {e1 e2 : EX} (H : CX h own tp lim KL LL fr (some (c, j, bb)) trn false dp σ false) (p : PN h own a ln) (O : OW own h lo hi) (ht : hI h a 3 = iN ts) (ht3 : ts ≤ 3) (E1 : RepE h lo hi (hR h a 4) e1) (E2 : 2 ≤ ts → RepE h lo hi (hR h a 5) e2) (hl1 : e1.2.2.2.length ≤ 161) (hl2 : e2.2.2.2.length ≤ 161) : ∃ y h', fX12_holds 134 a h = some (y, h') ∧ FS PLf h h' ∧ (match cvE σ.1 trn ts e1 e2 with | .inl b => y = b2 b ∧ CX h' own tp lim KL LL fr (some (c, j, bb)) trn false dp σ false | .inr s => CQ h' own tp lim KL LL fr (some (c, j, bb)) trn false dp σ.1 (ftW (preF fr, c, j, bb, trn) σ ln s)) := by
  have w := H.w
  obtain ⟨h1, x1, f1, T1, r1⟩ := wo_e H (TG.left w) O E1 hl1 ln
  have f1' := f1.pw1
  have w1 := f1.wf w
  have p1 := p.fs f1' fun x k q => plf_lt q
  have npl : ¬ PLf a 3 := fun q => by have := plf_lt q; have := p.1; omega
  have ht1 : hI h1 a 3 = iN ts := by rw [(f1'.2.2.2.2 a 3 npl).1]; exact ht
  have it : ∀ k, k ≤ 3 → (iN ts = iN k ↔ ts = k) := fun k hk => by rw [i_eq (by omega) (by omega)]
  have n17 : ∀ {g : hp} {σ' : St} {fl : Bool}, CX g own tp lim KL LL fr (some (c, j, bb)) trn false dp σ' fl → hI g 134 17 = b2 fl := fun q => q.2.2.2.1.2.2.2.2.2.2.2
  -- the first expression's value
  have left : ∀ {g : hp} {σ' : St} {fl : Bool}, CX g own tp lim KL LL fr (some (c, j, bb)) trn false dp σ' fl → ∃ V, CV g 137 138 V ∧ gV V := fun q => q.2.1.1
  have hd : fX12_holds 134 a h = (if iN ts = 0 then (gfR h1 134 11 4).bind fun v48 => (ckT h1 v48 10).bind fun _ => bd2 (fX11_isTrue v48 h1) fun v51 h52 => (zck v51).bind fun _ => some (v51, h52) else (if iN ts = 1 then (gfR h1 134 11 4).bind fun v42 => (ckT h1 v42 10).bind fun _ => bd2 (fX11_isTrue v42 h1) fun v45 h46 => if v45 = 0 then some (1, h46) else some (0, h46) else (jn (fun (h78j : hp) => (gfI h78j 134 11 17).bind fun v16 => if v16 = 0 then (gfR h78j 134 11 4).bind fun v18 => (gfR h78j 134 11 5).bind fun v20 => (ckT h78j v18 10).bind fun _ => bd2 (fX11_compareWith v18 v20 h78j) fun v23 h24 => jn (fun (h113j : hp) => ((gfI h113j a 5 3).bind fun v26 => if v26 = 2 then (if 0 ≤ v23 then some (0, h113j) else some (1, h113j)) else (if v23 = 0 then some (1, h113j) else some (0, h113j)) : Option (Int32 × hp))) fun k113 => if v23 = 2 then (gfI h24 a 5 1).bind fun v28 => (ckT h24 134 11).bind fun _ => (fX12_fail 134 v28 2 h24).bind fun h31 => k113 h31 else k113 h24 else some (0, h78j)) fun k78 => if hI h1 134 17 = 0 then (gfR h1 a 5 5).bind fun v33 => (gfR h1 134 11 5).bind fun v35 => (gfI h1 a 5 1).bind fun v37 => (ckT h1 134 11).bind fun _ => (fX12_workOut 134 v33 v35 v37 h1).bind fun h40 => k78 h40 else k78 h1))) := by
    unfold fX12_holds
    rw [p.gR, Option.bind_some, gWR w, R134_4 w, Option.bind_some, p.g, Option.bind_some, ckW w, Option.bind_some, p.2.2.2, x1, Option.bind_some, p1.g, Option.bind_some, ht1, Option.bind_some, gW w1, Option.bind_some]
  rw [hd]
  unfold cvE
  by_cases t0 : ts = 0
  · rw [if_pos (show iN ts = 0 from (it 0 (by decide)).mpr t0), gWR w1, R134_4 w1, Option.bind_some, ckV T1.1, Option.bind_some]
    rcases r1 with ⟨z, X1, C1, g1⟩ | ⟨z, R1⟩
    · rw [if_neg (fun q => q z), if_pos t0, cTrue C1, bd2_s, trS_z, Option.bind_some]
      refine ⟨_, h1, rfl, f1', ?_, X1⟩
      rcases trS_01 (evE σ.1 trn e1).2 with q | q <;> rw [q] <;> rfl
    · rw [if_pos z]
      obtain ⟨ctx, out, C, N⟩ := id R1
      obtain ⟨V, cv, gv⟩ := left C
      rw [cTrue cv, bd2_s, trS_z, Option.bind_some]
      exact ⟨_, h1, rfl, f1', R1⟩
  rw [if_neg (show ¬ iN ts = 0 from fun q => t0 ((it 0 (by decide)).mp q))]
  by_cases t1 : ts = 1
  · rw [if_pos (show iN ts = 1 from (it 1 (by decide)).mpr t1), gWR w1, R134_4 w1, Option.bind_some, ckV T1.1, Option.bind_some]
    rcases r1 with ⟨z, X1, C1, g1⟩ | ⟨z, R1⟩
    · rw [if_neg (fun q => q z), if_neg t0, if_pos t1, cTrue C1, bd2_s]
      rcases trS_01 (evE σ.1 trn e1).2 with q | q
      · rw [q, if_pos rfl]; exact ⟨_, h1, rfl, f1', rfl, X1⟩
      · rw [q, if_neg (by decide)]; exact ⟨_, h1, rfl, f1', rfl, X1⟩
    · rw [if_pos z]
      obtain ⟨ctx, out, C, N⟩ := id R1
      obtain ⟨V, cv, gv⟩ := left C
      rw [cTrue cv, bd2_s]
      rcases trS_01 V with q | q
      · rw [q, if_pos rfl]; exact ⟨_, h1, rfl, f1', R1⟩
      · rw [q, if_neg (by decide)]; exact ⟨_, h1, rfl, f1', R1⟩
  rw [if_neg (show ¬ iN ts = 1 from fun q => t1 ((it 1 (by decide)).mp q)), jn_e]
  have t2 : 2 ≤ ts := by omega
  rcases r1 with ⟨z, X1, C1, g1⟩ | ⟨z, R1⟩
  · have O1 : OW own h1 lo hi := ⟨O.1, by rw [f1.1]; exact O.2.1, O.2.2⟩
    have E2' : RepE h1 lo hi (hR h1 a 5) e2 := by
      have := (E2 t2).fg f1'.fg O.2.1 (fun x k q1 q2 q => by have := plf_lt q; have := O.1; omega) (Nat.le_refl _) (Nat.le_refl _)
      rw [f1'.2.2.2.1]; exact this
    obtain ⟨h2, x2, f2, T2, r2⟩ := wo_e X1 (TG.right w1) O1 E2' hl2 ln
    have f2' := f2.pw2
    have f12 := f1'.tr f2'
    have w2 := f2.wf w1
    have p2 := p1.fs f2' fun x k q => plf_lt q
    have ht2 : hI h2 a 3 = iN ts := by rw [(f2'.2.2.2.2 a 3 npl).1]; exact ht1
    rw [if_pos (show hI h1 134 17 = 0 from n17 X1), p1.gR, Option.bind_some, gWR w1, R134_5 w1, Option.bind_some, p1.g, Option.bind_some, ckW w1, Option.bind_some, p1.2.2.2, x2, Option.bind_some, if_neg (fun q => q z), if_neg t0, if_neg t1]
    dsimp only
    rw [gW w2, Option.bind_some]
    rcases r2 with ⟨z2, X2, C2, g2⟩ | ⟨z2, R2⟩
    · have C1' : CV h2 137 138 (evE σ.1 trn e1).2 := C1.fs f2 (fun k q => by unfold PW Psf at q; omega) (fun k q => by unfold PW Psf at q; omega)
      rw [if_neg (show ¬ (evE σ.1 trn e2).1 ≠ 0 from fun q => q z2), if_pos (show hI h2 134 17 = 0 from n17 X2), gWR w2, R134_4 w2, Option.bind_some, gWR w2, R134_5 w2, Option.bind_some, ckV C1'.1, Option.bind_some, cCmp C1' C2 g1 g2, bd2_s, jn_e]
      cases hc : cmS (evE σ.1 trn e1).2 (evE σ.1 trn e2).2 with
      | none =>
        dsimp only
        obtain ⟨h3, x3, f3, R3⟩ := ft_e X2 ln 2
        have w3 := f3.wf w2
        have p3 := p2.fs f3 (fun x k q => by unfold Pfl at q; omega)
        rw [if_pos rfl, p2.g, Option.bind_some, ckW w2, Option.bind_some, p2.2.2.2, show fX12_fail 134 (iN ln) 2 h2 = _ from x3, Option.bind_some, p3.g, Option.bind_some, if_pos (show (0 : Int32) ≤ 2 by decide), if_neg (show ¬ ((2 : Int32) = 0) by decide)]
        by_cases y : hI h3 a 3 = 2
        · rw [if_pos y]; exact ⟨_, h3, rfl, f12.tr f3.psf.plf, R3⟩
        · rw [if_neg y]; exact ⟨_, h3, rfl, f12.tr f3.psf.plf, R3⟩
      | some x =>
        dsimp only
        have s1 : ¬ sgI x = 2 := by
          unfold sgI
          by_cases q : x < 0
          · rw [if_pos q]; decide
          · rw [if_neg q]
            by_cases q2 : x = 0
            · rw [if_pos q2]; decide
            · rw [if_neg q2]; decide
        rw [if_neg s1, p2.g, Option.bind_some, ht2]
        by_cases y : ts = 2
        · rw [if_pos (show iN ts = 2 from (it 2 (by decide)).mpr y), if_pos y]
          by_cases q : x < 0
          · rw [if_neg (show ¬ 0 ≤ sgI x by unfold sgI; rw [if_pos q]; decide)]
            exact ⟨_, h2, rfl, f12, by rw [decide_eq_true q]; rfl, X2⟩
          · rw [if_pos (show 0 ≤ sgI x by unfold sgI; rw [if_neg q]; split <;> decide)]
            exact ⟨_, h2, rfl, f12, by rw [decide_eq_false q]; rfl, X2⟩
        · rw [if_neg (show ¬ iN ts = 2 from fun q => y ((it 2 (by decide)).mp q)), if_neg y]
          by_cases q : x = 0
          · rw [if_pos (show sgI x = 0 by rw [q]; decide)]
            exact ⟨_, h2, rfl, f12, by rw [decide_eq_true q]; rfl, X2⟩
          · rw [if_neg (show ¬ sgI x = 0 by unfold sgI; by_cases q2 : x < 0; rw [if_pos q2]; decide; rw [if_neg q2, if_neg q]; decide)]
            exact ⟨_, h2, rfl, f12, by rw [decide_eq_false q]; rfl, X2⟩
    · rw [if_pos z2]
      obtain ⟨ctx, out, C, N⟩ := id R2
      rw [if_neg (show ¬ hI h2 134 17 = 0 by rw [n17 C]; decide)]
      exact ⟨_, h2, rfl, f12, R2⟩
  · obtain ⟨ctx, out, C, N⟩ := id R1
    rw [if_neg (show ¬ hI h1 134 17 = 0 by rw [n17 C]; decide), if_pos z]
    dsimp only
    rw [gW w1, Option.bind_some, if_neg (show ¬ hI h1 134 17 = 0 by rw [n17 C]; decide)]
    exact ⟨_, h1, rfl, f1', R1⟩

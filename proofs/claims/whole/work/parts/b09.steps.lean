/-! the class's walk: steps, numbers put, pieces one behind the other -/
def sMn (n : Nat) (R : Ot) : Prop := ∀ σ, R = .inl σ → n ≤ σ.2.2.2
theorem sMn.bd {n : Nat} {x : Ot} {f : St → Ot} (a : sMn n x) (b : ∀ σ, n ≤ σ.2.2.2 → sMn n (f σ)) : sMn n (bO x f) := by
  cases x with
  | inl σ => exact b σ (a σ rfl)
  | inr e => intro σ h; cases h
theorem sMn.ft (n : Nat) (ρ : Rh) (σ : St) (ln s : Nat) : sMn n (ftW ρ σ ln s) := fun σ h => by cases h
theorem sMn.ok {n : Nat} {σ : St} (h : n ≤ σ.2.2.2) : sMn n (.inl σ) := fun σ' e => by cases e; exact h
theorem sMn.le {n k : Nat} {R : Ot} (a : sMn k R) (h : n ≤ k) : sMn n R := fun σ e => Nat.le_trans h (a σ e)
theorem putW_s (lim : Nat) (ρ : Rh) (ln : Nat) (x : Int32) (σ : St) : sMn σ.2.2.2 (putW lim ρ ln x σ) := by
  unfold putW
  split
  · exact sMn.ft _ _ _ _ _
  · exact sMn.ok (Nat.le_refl _)
theorem putL_s (lim : Nat) (ρ : Rh) (ln : Nat) : ∀ (xs : List Int32) (σ : St), sMn σ.2.2.2 (putL lim ρ ln xs σ) := by
  intro xs
  induction xs with
  | nil => intro σ; exact sMn.ok (Nat.le_refl _)
  | cons x xs ih => intro σ; exact (putW_s lim ρ ln x σ).bd fun τ h => (ih τ).le h
theorem putV_s (lim : Nat) (ρ : Rh) (ln : Nat) : ∀ (xs : List Int32) (σ : St), sMn σ.2.2.2 (putV lim ρ ln xs σ) := by
  intro xs
  induction xs with
  | nil => intro σ; exact sMn.ok (Nat.le_refl _)
  | cons x xs ih => intro σ; exact (putL_s lim ρ ln (escW σ.2.1 x) σ).bd fun τ h => (ih τ).le h
def EwS (E : Ew) : Prop := ∀ kd sg ln ρ σ, sMn σ.2.2.2 (E kd sg ln ρ σ)
theorem rnds_s {f : Nat → St → Ot} (h : ∀ i σ, sMn σ.2.2.2 (f i σ)) : ∀ (d i : Nat) (σ : St), sMn σ.2.2.2 (rnds f d i σ) := by
  intro d
  induction d with
  | zero => intro i σ; exact sMn.ok (Nat.le_refl _)
  | succ d ih => intro i σ; exact (h i σ).bd fun τ q => (ih (i + 1) τ).le q
theorem wPc_s {lk cc : Bool} {lim : Nat} {E : Ew} {X : Type} {wI : X → Rh → St → Ot} (hE : EwS E) (hI : ∀ t ρ σ, sMn σ.2.2.2 (wI t ρ σ)) (pc : PD X) (ρ : Rh) (σ : St) : sMn σ.2.2.2 (wPc lk cc lim E wI pc ρ σ) := by
  have s1 : ∀ {R : Ot}, sMn (σ.2.2.2 + 1) R → sMn σ.2.2.2 R := fun a => a.le (Nat.le_succ _)
  unfold wPc
  by_cases c0 : pc.1 = 0
  · rw [if_pos c0]
    split
    · exact sMn.ok (Nat.le_refl _)
    · exact (putW_s _ _ _ _ _).bd fun τ h => sMn.ok h
  rw [if_neg c0]
  by_cases cs : 300 ≤ σ.2.2.2
  · rw [if_pos cs]; exact sMn.ft _ _ _ _ _
  rw [if_neg cs]
  by_cases c1 : pc.1 = 1
  · rw [if_pos c1]
    split
    · exact sMn.ok (Nat.le_succ _)
    · split
      · exact sMn.ft _ _ _ _ _
      · exact s1 (putV_s _ _ _ _ _)
  rw [if_neg c1]
  by_cases c7 : pc.1 = 7
  · rw [if_pos c7]
    split
    · exact sMn.ok (Nat.le_succ _)
    · split
      · exact sMn.ft _ _ _ _ _
      · exact sMn.ok (Nat.le_succ _)
  rw [if_neg c7]
  by_cases c2 : pc.1 = 2
  · rw [if_pos c2]
    split
    · refine s1 ((hI _ ρ (σ.1, σ.2.1, σ.2.2.1, σ.2.2.2 + 1)).bd fun σ1 h1 => ((hI _ ρ (σ1.1, σ.2.1, σ1.2.2)).le h1).bd fun σ2 h2 => ?_)
      split
      · exact sMn.ok h2
      · exact sMn.ft _ _ _ _ _
    · split
      · exact sMn.ft _ _ _ _ _
      · split
        · exact s1 (hI _ ρ (σ.1, σ.2.1, σ.2.2.1, σ.2.2.2 + 1))
        · exact s1 (hI _ ρ (σ.1, σ.2.1, σ.2.2.1, σ.2.2.2 + 1))
  rw [if_neg c2]
  by_cases c3 : pc.1 = 3
  · rw [if_pos c3]
    split
    · refine s1 ((hI _ ρ (σ.1, σ.2.1, σ.2.2.1, σ.2.2.2 + 1)).bd fun σ1 h1 => ?_)
      split
      · refine ((hI _ ρ σ1).le h1).bd fun σ2 h2 => ?_
        split
        · exact sMn.ok h2
        · exact sMn.ft _ _ _ _ _
      · exact sMn.ft _ _ _ _ _
    · split
      · exact sMn.ft _ _ _ _ _
      · split
        · exact sMn.ft _ _ _ _ _
        · split
          · exact s1 (hI _ ρ (σ.1, σ.2.1, σ.2.2.1, σ.2.2.2 + 1))
          · apply s1
            refine rnds_s (fun i τ => ?_) _ _ (σ.1, σ.2.1, σ.2.2.1, σ.2.2.2 + 1)
            exact (hI _ _ (upV τ.1 pc.2.2.1.toNatClampNeg (vI ((evE σ.1 ρ.2.2.2.2 pc.2.2.2.2.1).2.2.2.2.2 i)), τ.2)).bd fun τ' h => sMn.ok h
  rw [if_neg c3]
  exact s1 (hE _ _ _ ρ (σ.1, σ.2.1, σ.2.2.1, σ.2.2.2 + 1))
theorem wL_s {X : Type} {f : PD X → St → Ot} (h : ∀ pc σ, sMn σ.2.2.2 (f pc σ)) : ∀ (ps : List (PD X)) (σ : St), sMn σ.2.2.2 (wL f ps σ) := by
  intro ps
  induction ps with
  | nil => intro σ; exact sMn.ok (Nat.le_refl _)
  | cons pc ps ih => intro σ; exact (h pc σ).bd fun τ q => (ih τ).le q
theorem wTr_s {lk cc : Bool} {lim : Nat} {E : Ew} (hE : EwS E) : ∀ (m : Nat) (t : TY m) (ρ : Rh) (σ : St), sMn σ.2.2.2 (wTr lk cc lim E m t ρ σ) := by
  intro m
  induction m with
  | zero => intro t ρ σ; exact sMn.ok (Nat.le_refl _)
  | succ m ih => intro t ρ σ; exact (wL_s (fun pc τ => wPc_s hE ih pc ρ τ) t σ).bd fun τ h => sMn.ok h
theorem wTp_s {lk cc : Bool} {lim : Nat} {tp : Tp} {E : Ew} (hE : EwS E) (k : Nat) (pre : List Lk) (trn : Option Nat) (σ : St) : sMn σ.2.2.2 (wTp lk cc lim tp E k pre trn σ) := by
  unfold wTp
  split
  · exact sMn.ft _ _ _ _ _
  · refine (wTr_s hE 5 _ _ σ).bd fun τ h => ?_
    split
    · exact sMn.ft _ _ _ _ _
    · exact sMn.ok h
theorem wBk_s {lk cc : Bool} {lim : Nat} {tp : Tp} {E : Ew} (hE : EwS E) (b fr ln : Nat) (ρ : Rh) (σ : St) : sMn σ.2.2.2 (wBk lk cc lim tp E b fr ln ρ σ) := by
  unfold wBk
  split
  · exact sMn.ft _ _ _ _ _
  · refine (wTr_s hE _ _ _ σ).bd fun τ h => ?_
    split
    · exact sMn.ft _ _ _ _ _
    · exact sMn.ok h
theorem wE_s (lk cc : Bool) (lim : Nat) (tp : Tp) : ∀ d, EwS (wE lk cc lim tp d) := by
  intro d
  induction d with
  | zero => intro kd sg ln ρ σ; exact sMn.ft _ _ _ _ _
  | succ d ih =>
    intro kd sg ln ρ σ
    unfold wE
    split
    · exact wTp_s ih _ _ _ _
    · split
      · exact wBk_s ih _ _ _ _ _
      · split
        · exact sMn.ft _ _ _ _ _
        · exact wBk_s ih _ _ _ _ _
/-- a number of the walk put -/
theorem CX.fld {h : hp} {own : Nat → Nat} {tp : Tp} {lim : Nat} {KL : List (Nat × vT)} {LL : Nat → Option vT} {fr : Fr} {trn : Option Nat} {lk : Bool} {dp : Nat} {ch : Option (List Nat × Nat × Option Nat)} {σ : St} {fl : Bool} {K : Nat} {x : Int32} {dp' ctx st : Nat} {trn' : Option Nat} (H : CX h own tp lim KL LL fr ch trn lk dp σ fl) (hK : 10 ≤ K) (N' : CN (pI h 134 K x) KL.length (opN fr ch) dp' ctx st trn' lk fl) (b1 : ctx ≤ 3) (b2 : st ≤ 300) (t : ∀ i, trn' = some i → i < 6) (d1 : fr.length ≤ dp') (d2 : dp' ≤ 8) : CX (pI h 134 K x) own tp lim KL LL fr ch trn' lk dp' (σ.1, ctx, σ.2.2.1, st) fl := by
  obtain ⟨B, R, Ch, N, O, r⟩ := H
  have hn := B.1.1.2.2
  have h8 := B.2.2.2.2.2.2.2
  have F : FS (fun x k => x = 134 ∧ 10 ≤ k) h (pI h 134 K x) := FS.pI ⟨rfl, hK⟩
  exact ⟨B.fs F (fun x k q => ⟨by omega, .inl q⟩), R.fs F (fun x k _ _ q => by omega), Ch.fs F (fun k _ q => by omega) (fun k q => by omega), N', O.fs F (fun k q => by omega) (fun k q => by omega) (fun k => ⟨fun q => by omega, fun q => by omega⟩), b1, b2, t, d1, d2⟩
theorem CX.ctx {h : hp} {own : Nat → Nat} {tp : Tp} {lim : Nat} {KL : List (Nat × vT)} {LL : Nat → Option vT} {fr : Fr} {trn : Option Nat} {lk : Bool} {dp : Nat} {ch : Option (List Nat × Nat × Option Nat)} {σ : St} {fl : Bool} (H : CX h own tp lim KL LL fr ch trn lk dp σ fl) {c : Nat} (hc : c ≤ 3) : CX (pI h 134 13 (iN c)) own tp lim KL LL fr ch trn lk dp (σ.1, c, σ.2.2) fl := by
  have N := H.2.2.2.1
  refine H.fld (by decide) ?_ hc H.2.2.2.2.2.2.1 H.2.2.2.2.2.2.2.1 H.2.2.2.2.2.2.2.2.1 H.2.2.2.2.2.2.2.2.2
  unfold CN at N ⊢
  have e : ∀ k, k ≠ 13 → hI (pI h 134 13 (iN c)) 134 k = hI h 134 k := fun k hk => by rw [hI_pI, if_neg (fun q => hk q.2)]
  rw [e 10 (by decide), e 11 (by decide), e 12 (by decide), e 14 (by decide), e 15 (by decide), e 16 (by decide), e 17 (by decide)]
  exact ⟨N.1, N.2.1, N.2.2.1, by rw [hI_pI, if_pos ⟨rfl, rfl⟩], N.2.2.2.2⟩
theorem CX.stp {h : hp} {own : Nat → Nat} {tp : Tp} {lim : Nat} {KL : List (Nat × vT)} {LL : Nat → Option vT} {fr : Fr} {trn : Option Nat} {lk : Bool} {dp : Nat} {ch : Option (List Nat × Nat × Option Nat)} {σ : St} {fl : Bool} (H : CX h own tp lim KL LL fr ch trn lk dp σ fl) {s : Nat} (hs : s ≤ 300) : CX (pI h 134 14 (iN s)) own tp lim KL LL fr ch trn lk dp (σ.1, σ.2.1, σ.2.2.1, s) fl := by
  have N := H.2.2.2.1
  refine H.fld (by decide) ?_ H.2.2.2.2.2.1 hs H.2.2.2.2.2.2.2.1 H.2.2.2.2.2.2.2.2.1 H.2.2.2.2.2.2.2.2.2
  unfold CN at N ⊢
  have e : ∀ k, k ≠ 14 → hI (pI h 134 14 (iN s)) 134 k = hI h 134 k := fun k hk => by rw [hI_pI, if_neg (fun q => hk q.2)]
  rw [e 10 (by decide), e 11 (by decide), e 12 (by decide), e 13 (by decide), e 15 (by decide), e 16 (by decide), e 17 (by decide)]
  exact ⟨N.1, N.2.1, N.2.2.1, N.2.2.2.1, by rw [hI_pI, if_pos ⟨rfl, rfl⟩], N.2.2.2.2.2⟩
theorem CX.trn {h : hp} {own : Nat → Nat} {tp : Tp} {lim : Nat} {KL : List (Nat × vT)} {LL : Nat → Option vT} {fr : Fr} {trn : Option Nat} {lk : Bool} {dp : Nat} {ch : Option (List Nat × Nat × Option Nat)} {σ : St} {fl : Bool} (H : CX h own tp lim KL LL fr ch trn lk dp σ fl) {t : Option Nat} (ht : ∀ i, t = some i → i < 6) : CX (pI h 134 15 (oB t)) own tp lim KL LL fr ch t lk dp σ fl := by
  have N := H.2.2.2.1
  refine H.fld (by decide) ?_ H.2.2.2.2.2.1 H.2.2.2.2.2.2.1 ht H.2.2.2.2.2.2.2.2.1 H.2.2.2.2.2.2.2.2.2
  unfold CN at N ⊢
  have e : ∀ k, k ≠ 15 → hI (pI h 134 15 (oB t)) 134 k = hI h 134 k := fun k hk => by rw [hI_pI, if_neg (fun q => hk q.2)]
  rw [e 10 (by decide), e 11 (by decide), e 12 (by decide), e 13 (by decide), e 14 (by decide), e 16 (by decide), e 17 (by decide)]
  exact ⟨N.1, N.2.1, N.2.2.1, N.2.2.2.1, N.2.2.2.2.1, by rw [hI_pI, if_pos ⟨rfl, rfl⟩], N.2.2.2.2.2.2⟩
theorem CX.dep {h : hp} {own : Nat → Nat} {tp : Tp} {lim : Nat} {KL : List (Nat × vT)} {LL : Nat → Option vT} {fr : Fr} {trn : Option Nat} {lk : Bool} {dp : Nat} {ch : Option (List Nat × Nat × Option Nat)} {σ : St} {fl : Bool} (H : CX h own tp lim KL LL fr ch trn lk dp σ fl) {d : Nat} (h1 : fr.length ≤ d) (h2 : d ≤ 8) : CX (pI h 134 12 (iN d)) own tp lim KL LL fr ch trn lk d σ fl := by
  have N := H.2.2.2.1
  refine H.fld (by decide) ?_ H.2.2.2.2.2.1 H.2.2.2.2.2.2.1 H.2.2.2.2.2.2.2.1 h1 h2
  unfold CN at N ⊢
  have e : ∀ k, k ≠ 12 → hI (pI h 134 12 (iN d)) 134 k = hI h 134 k := fun k hk => by rw [hI_pI, if_neg (fun q => hk q.2)]
  rw [e 10 (by decide), e 11 (by decide), e 13 (by decide), e 14 (by decide), e 15 (by decide), e 16 (by decide), e 17 (by decide)]
  exact ⟨N.1, N.2.1, by rw [hI_pI, if_pos ⟨rfl, rfl⟩], N.2.2.2⟩
theorem TRn.p134 {own : Nat → Nat} {h : hp} (K : Nat) (x : Int32) : TRn own h own (pI h 134 K x) := TRn.fs (P := fun x _ => x = 134) (FS.pI rfl) fun x k q => by unfold PCo; omega
theorem NL.p134 {h : hp} {L : List Int32} (N : NL h 86 87 162 L) (K : Nat) (x : Int32) : NL (pI h 134 K x) 86 87 162 L := N.fs (P := fun x _ => x = 134) (FS.pI rfl) (fun k q => by omega) (fun k q => by omega)
theorem CF.ctx {h : hp} {own : Nat → Nat} {tp : Tp} {lim : Nat} {KL : List (Nat × vT)} {LL : Nat → Option vT} {fr : Fr} {trn : Option Nat} {lk : Bool} {dp : Nat} {ch : Option (List Nat × Nat × Option Nat)} {vs : Nat → vT} {e : Nat × List Lk} (H : CF h own tp lim KL LL fr ch trn lk dp vs e) {c : Nat} (hc : c ≤ 3) : CF (pI h 134 13 (iN c)) own tp lim KL LL fr ch trn lk dp vs e := by
  obtain ⟨ctx, out, X, N⟩ := H
  exact ⟨c, out, X.ctx hc, N.p134 _ _⟩
theorem CF.no {h : hp} {own : Nat → Nat} {tp : Tp} {lim : Nat} {KL : List (Nat × vT)} {LL : Nat → Option vT} {fr : Fr} {trn : Option Nat} {lk : Bool} {dp : Nat} {ch : Option (List Nat × Nat × Option Nat)} {vs : Nat → vT} {e : Nat × List Lk} (H : CF h own tp lim KL LL fr ch trn lk dp vs e) (a b : Int32) : fX12_fail 134 a b h = some h := by
  obtain ⟨ctx, out, X, N⟩ := H
  exact fail_no X.w X.2.2.2.1.2.2.2.2.2.2.2 a b
theorem CF.w {h : hp} {own : Nat → Nat} {tp : Tp} {lim : Nat} {KL : List (Nat × vT)} {LL : Nat → Option vT} {fr : Fr} {trn : Option Nat} {lk : Bool} {dp : Nat} {ch : Option (List Nat × Nat × Option Nat)} {vs : Nat → vT} {e : Nat × List Lk} (H : CF h own tp lim KL LL fr ch trn lk dp vs e) : WF h := by
  obtain ⟨ctx, out, X, N⟩ := H
  exact X.w
theorem CF.f17 {h : hp} {own : Nat → Nat} {tp : Tp} {lim : Nat} {KL : List (Nat × vT)} {LL : Nat → Option vT} {fr : Fr} {trn : Option Nat} {lk : Bool} {dp : Nat} {ch : Option (List Nat × Nat × Option Nat)} {vs : Nat → vT} {e : Nat × List Lk} (H : CF h own tp lim KL LL fr ch trn lk dp vs e) : ¬ hI h 134 17 = 0 := by
  obtain ⟨ctx, out, X, N⟩ := H
  rw [X.2.2.2.1.2.2.2.2.2.2.2]
  decide
theorem CF.f13 {h : hp} {own : Nat → Nat} {tp : Tp} {lim : Nat} {KL : List (Nat × vT)} {LL : Nat → Option vT} {fr : Fr} {trn : Option Nat} {lk : Bool} {dp : Nat} {ch : Option (List Nat × Nat × Option Nat)} {vs : Nat → vT} {e : Nat × List Lk} (H : CF h own tp lim KL LL fr ch trn lk dp vs e) : ∃ c, c ≤ 3 ∧ hI h 134 13 = iN c := by
  obtain ⟨ctx, out, X, N⟩ := H
  exact ⟨ctx, X.2.2.2.2.2.1, X.2.2.2.1.2.2.2.1⟩
theorem CX.f17 {h : hp} {own : Nat → Nat} {tp : Tp} {lim : Nat} {KL : List (Nat × vT)} {LL : Nat → Option vT} {fr : Fr} {trn : Option Nat} {lk : Bool} {dp : Nat} {ch : Option (List Nat × Nat × Option Nat)} {σ : St} (H : CX h own tp lim KL LL fr ch trn lk dp σ false) : hI h 134 17 = 0 := H.2.2.2.1.2.2.2.2.2.2.2
theorem CX.f13 {h : hp} {own : Nat → Nat} {tp : Tp} {lim : Nat} {KL : List (Nat × vT)} {LL : Nat → Option vT} {fr : Fr} {trn : Option Nat} {lk : Bool} {dp : Nat} {ch : Option (List Nat × Nat × Option Nat)} {σ : St} {fl : Bool} (H : CX h own tp lim KL LL fr ch trn lk dp σ fl) : hI h 134 13 = iN σ.2.1 := H.2.2.2.1.2.2.2.1

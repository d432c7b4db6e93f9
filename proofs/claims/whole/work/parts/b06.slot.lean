/-! the class's walk: slots, names given and given back -/
def PCo (own : Nat → Nat) (x _k : Nat) : Prop := (70 ≤ x ∧ x ≤ 87) ∨ (134 ≤ x ∧ x ≤ 164) ∨ (204 ≤ x ∧ own x ≠ 1)
/-- how many of the first n are 0 -/
def zC (f : Nat → Nat) : Nat → Nat
  | 0 => 0
  | n + 1 => zC f n + (if f n = 0 then 1 else 0)
def Zf (h : hp) : Nat := zC (hR h 145) 348 + zC (hR h 136) 48
def TRn (own : Nat → Nat) (h : hp) (own' : Nat → Nat) (h' : hp) : Prop := FG (PCo own) h h' ∧ (∀ x, x < 64 + hN h → own' x = own x) ∧ hN h' + 2 * Zf h' ≤ hN h + 2 * Zf h ∧ hL h' + 21 * Zf h' ≤ hL h + 21 * Zf h ∧ ∀ k, hR h 136 k ≠ 0 → hR h' 136 k = hR h 136 k
theorem TRn.tr {own own1 own2 : Nat → Nat} {h h1 h2 : hp} (a : TRn own h own1 h1) (b : TRn own1 h1 own2 h2) : TRn own h own2 h2 := by
  have g := a.1.1
  refine ⟨a.1.tr' b.1 (fun x k hx q => ?_), fun x hx => by rw [b.2.1 x (by omega), a.2.1 x hx], by have := a.2.2.1; have := b.2.2.1; omega, by have := a.2.2.2.1; have := b.2.2.2.1; omega, fun k hk => by have e := a.2.2.2.2 k hk; rw [b.2.2.2.2 k (by rw [e]; exact hk), e]⟩
  unfold PCo at q ⊢
  rw [a.2.1 x hx] at q
  exact q
theorem TRn.fs {P : Nat → Nat → Prop} {h h' : hp} {own : Nat → Nat} (f : FS P h h') (hP : ∀ x k, P x k → PCo own x k) : TRn own h own h' := by
  refine ⟨f.fg.up hP, fun _ _ => rfl, ?_, ?_, fun k _ => by rw [f.2.2.2.1]⟩
  · unfold Zf; rw [f.1, f.2.2.2.1]; exact Nat.le_refl _
  · unfold Zf; rw [f.2.1, f.2.2.2.1]; exact Nat.le_refl _
theorem TRn.plf {h h' : hp} {own : Nat → Nat} (f : FS PLf h h') : TRn own h own h' := TRn.fs f fun x k q => by unfold PLf Psf at q; unfold PCo; omega
theorem TRn.rf (own : Nat → Nat) (h : hp) : TRn own h own h := TRn.fs (FS.rf (fun _ _ => False) h) fun _ _ q => q.elim
theorem zC_c {f g : Nat → Nat} : ∀ n, (∀ k, k < n → (g k = 0 ↔ f k = 0)) → zC g n = zC f n := by
  intro n
  induction n with
  | zero => intro _; rfl
  | succ n ih =>
    intro e
    show zC g n + _ = zC f n + _
    rw [ih fun k hk => e k (by omega)]
    by_cases c : f n = 0
    · rw [if_pos c, if_pos ((e n (by omega)).mpr c)]
    · rw [if_neg c, if_neg fun q => c ((e n (by omega)).mp q)]
theorem zC_d {f g : Nat → Nat} {i : Nat} : ∀ n, i < n → (∀ k, k ≠ i → g k = f k) → f i = 0 → g i ≠ 0 → zC g n + 1 = zC f n := by
  intro n
  induction n with
  | zero => intro hi; omega
  | succ n ih =>
    intro hi e f0 g0
    show (zC g n + _) + 1 = zC f n + _
    by_cases c : n = i
    · subst c
      rw [if_neg g0, if_pos f0, zC_c n fun k hk => by rw [e k (by omega)]]
    · have := ih (by omega) e f0 g0
      rw [e n c]
      omega
theorem R0l_s : ∀ q ∈ R0l, q.1 ≠ 145 ∧ q.1 ≠ 136 := by decide +kernel
theorem RGh.fg {P : Nat → Nat → Prop} {h h' : hp} (w : WF h) (H : RGh h) (f : FG P h h') (hP : ∀ x k, 137 ≤ x → x ≤ 142 → ¬ P x k) : RGh h' := by
  have hn := w.2.2
  obtain ⟨⟨V, r1, r2⟩, ⟨V', r3, r4⟩, L, r5⟩ := H
  exact ⟨⟨V, r1.fg f (by omega) (by omega) (fun k => hP _ k (by decide) (by decide)) (fun k => hP _ k (by decide) (by decide)), r2⟩, ⟨V', r3.fg f (by omega) (by omega) (fun k => hP _ k (by decide) (by decide)) (fun k => hP _ k (by decide) (by decide)), r4⟩, L, r5.fg f (by omega) (by omega) (fun k => hP _ k (by decide) (by decide)) (fun k => hP _ k (by decide) (by decide))⟩
theorem CN.fg {P : Nat → Nat → Prop} {h h' : hp} {kl op dp ctx st : Nat} {trn : Option Nat} {lk fl : Bool} (w : WF h) (H : CN h kl op dp ctx st trn lk fl) (f : FG P h h') (hP : ∀ k, ¬ P 134 k) : CN h' kl op dp ctx st trn lk fl := by
  have hn := w.2.2
  have e : ∀ k, hI h' 134 k = hI h 134 k := fun k => (f.2.2.2 134 k (by omega) (hP k)).1
  unfold CN at *
  rw [e, e, e, e, e, e, e, e]
  exact H
theorem SLo.fg {P : Nat → Nat → Prop} {h h' : hp} {own own' : Nat → Nat} {a s : Nat} (H : SLo h own a s) (f : FG P h h') (hP : ¬ P a 4) (ho : ∀ x, x < 64 + hN h → own' x = own x) : SLo h' own' a s := by
  obtain ⟨v, a1, a2, a3, a4, a5, a6⟩ := H
  have e := (f.2.2.2 a 4 a4 hP).2.2
  have n := f.1
  unfold SLo
  rw [e]
  exact ⟨v.fg f a4 a6 hP, by rw [ho a a4]; exact a1, by rw [ho _ a6]; exact a2, a3, by omega, a5, by omega⟩
def nOwn (own : Nat → Nat) (h : hp) (o : Nat) : Nat → Nat := fun x => if x = 64 + hN h ∨ x = 65 + hN h then o else own x
/-- a slot newly laid -/
theorem slot_n {h : hp} {own : Nat → Nat} {tp : Tp} {lim : Nat} {KL : List (Nat × vT)} {LL : Nat → Option vT} {fr : Fr} {trn : Option Nat} {lk : Bool} {dp : Nat} {ch : Option (List Nat × Nat × Option Nat)} {σ : St} {fl : Bool} {arr k o : Nat} (H : CX h own tp lim KL LL fr ch trn lk dp σ fl) (z : hR h arr k = 0) (ho : (arr = 145 ∧ k < 348 ∧ o = 2 + k ∧ KL.length ≤ k) ∨ (arr = 136 ∧ k < 48 ∧ o = 400 + k ∧ LL k = none)) :
    asR 6 (nV h) arr (iN k) (64 + hN h) = some (pR (nV h) arr k (64 + hN h)) ∧ CX (pR (nV h) arr k (64 + hN h)) (nOwn own h o) tp lim KL LL fr ch trn lk dp σ fl ∧ TRn own h (nOwn own h o) (pR (nV h) arr k (64 + hN h)) ∧ SLo (pR (nV h) arr k (64 + hN h)) (nOwn own h o) (64 + hN h) o ∧ hR (pR (nV h) arr k (64 + hN h)) arr k = 64 + hN h ∧ ∀ x j, hI (pR (nV h) arr k (64 + hN h)) x j = hI h x j ∧ hF (pR (nV h) arr k (64 + hN h)) x j = hF h x j := by
  obtain ⟨B, R, Ch, N, O, r⟩ := H
  have w := B.1.1
  have hn := w.2.2
  have h8 := B.2.2.2.2.2.2.2
  obtain ⟨⟨s1, s2, s3, s4⟩, s5, s6, s7, s8⟩ := nV_s B.1.2 204
  have F0 : FG (fun _ _ => False) h (nV h) := fgRn ((FG.nw h 10 5).tr (FG.nw _ 100 16)) 4 _ (Nat.le_refl _)
  have F : FG (fun x i => x = arr ∧ i = k) h (pR (nV h) arr k (64 + hN h)) := (F0.up fun _ _ q => q.elim).tr (fgR1 ⟨rfl, rfl⟩)
  have ta : hT h arr = (106, if arr = 145 then 348 else 48) := by
    rcases ho with ⟨rfl, _⟩ | ⟨rfl, _⟩
    · rw [if_pos rfl]; exact T145 w
    · rw [if_neg (by decide)]; exact T136 w
  have tn : hT (nV h) arr = (106, if arr = 145 then 348 else 48) := by rw [F0.2.2.1 arr (by omega)]; exact ta
  have as1 : asR 6 (nV h) arr (iN k) (64 + hN h) = some (pR (nV h) arr k (64 + hN h)) := asR_e (j := 6) tn (by split <;> omega) (by split <;> omega) (.inr (by rw [s5.1]; rfl))
  have w1 : WF (nV h) := F0.wf w fun _ _ q => q.elim
  have w2 : WF (pR (nV h) arr k (64 + hN h)) := WF_pR w1 fun q hq e => by have := R0l_s q hq; omega
  have z2 : ZH (pR (nV h) arr k (64 + hN h)) := s2.pR k _ (by omega)
  have own' : ∀ x, x < 64 + hN h → nOwn own h o x = own x := fun x hx => by unfold nOwn; rw [if_neg (by omega)]
  have S : SLo (pR (nV h) arr k (64 + hN h)) (nOwn own h o) (64 + hN h) o := by
    have e4 : hR (pR (nV h) arr k (64 + hN h)) (64 + hN h) 4 = 65 + hN h := by rw [hR_pR, if_neg (by omega)]; exact s5.2.2.1
    unfold SLo
    rw [e4]
    refine ⟨⟨s5.1, s5.2.1, by rw [hR_pR, if_neg (by omega)]; exact s5.2.2.1, s5.2.2.2⟩, by unfold nOwn; rw [if_pos (.inl rfl)], by unfold nOwn; rw [if_pos (.inr rfl)], by omega, ?_, by omega, ?_⟩
    · rw [hN_pR, s6]; omega
    · rw [hN_pR, s6]; omega
  have X' : JX (pR (nV h) arr k (64 + hN h)) (nOwn own h o) := by
    have old : ∀ x j s, (hR h x j = 0 ∨ SLo h own (hR h x j) s) → x < 204 → ¬ (x = arr ∧ j = k) → hR (pR (nV h) arr k (64 + hN h)) x j = 0 ∨ SLo (pR (nV h) arr k (64 + hN h)) (nOwn own h o) (hR (pR (nV h) arr k (64 + hN h)) x j) s := by
      intro x j s a hx ne
      rw [(F.2.2.2 x j (by omega) ne).2.2]
      exact a.imp id fun q => q.fg F (fun e => by have := q.2.2.2.1; omega) own'
    have new : ∀ s, s = o → hR (pR (nV h) arr k (64 + hN h)) arr k = 0 ∨ SLo (pR (nV h) arr k (64 + hN h)) (nOwn own h o) (hR (pR (nV h) arr k (64 + hN h)) arr k) s := by
      intro s e
      rw [hR_pR, if_pos ⟨rfl, rfl⟩, e]
      exact .inr S
    refine ⟨fun i hi => ?_, fun l hl => ?_⟩
    · by_cases e : 145 = arr ∧ i = k
      · have := new (2 + i) (by omega)
        rw [← e.1, ← e.2] at this ⊢
        exact this
      · exact old 145 i _ (B.2.1.1.1 i hi) (by decide) e
    · by_cases e : 136 = arr ∧ l = k
      · have := new (400 + l) (by omega)
        rw [← e.1, ← e.2] at this ⊢
        exact this
      · exact old 136 l _ (B.2.1.1.2 l hl) (by decide) e
  have np : ∀ x j, x ≠ arr → ¬ (x = arr ∧ j = k) := fun x j q e => q e.1
  have hP : ∀ x j, (x = arr ∧ j = k) → PA own KL.length LL fr.length x j := by
    rintro x j ⟨rfl, rfl⟩
    unfold PA
    rcases ho with ⟨e, _, _, q⟩ | ⟨e, _, _, q⟩
    · exact .inr (.inr (.inr (.inr (.inl ⟨e, q⟩))))
    · exact .inr (.inr (.inr (.inr (.inr (.inr (.inl ⟨e, q⟩))))))
  have zz : Zf (pR (nV h) arr k (64 + hN h)) + 1 = Zf h := by
    have e : ∀ x j, x < 204 → ¬ (x = arr ∧ j = k) → hR (pR (nV h) arr k (64 + hN h)) x j = hR h x j := fun x j hx ne => (F.2.2.2 x j (by omega) ne).2.2
    have g0 : hR (pR (nV h) arr k (64 + hN h)) arr k ≠ 0 := by rw [hR_pR, if_pos ⟨rfl, rfl⟩]; omega
    unfold Zf
    rcases ho with ⟨q, q2, _⟩ | ⟨q, q2, _⟩
    · rw [q] at g0 z
      have a1 := zC_d (f := hR h 145) (g := hR (pR (nV h) arr k (64 + hN h)) 145) (i := k) 348 q2 (fun j hj => e 145 j (by decide) (fun c => hj c.2)) z (by rw [q]; exact g0)
      have a2 := zC_c (f := hR h 136) (g := hR (pR (nV h) arr k (64 + hN h)) 136) 48 (fun j _ => by rw [e 136 j (by decide) (fun c => by omega)])
      omega
    · rw [q] at g0 z
      have a1 := zC_d (f := hR h 136) (g := hR (pR (nV h) arr k (64 + hN h)) 136) (i := k) 48 q2 (fun j hj => e 136 j (by decide) (fun c => hj c.2)) z (by rw [q]; exact g0)
      have a2 := zC_c (f := hR h 145) (g := hR (pR (nV h) arr k (64 + hN h)) 145) 348 (fun j _ => by rw [e 145 j (by decide) (fun c => by omega)])
      omega
  refine ⟨as1, ⟨B.fg (F.up hP) w2 z2 X' own', R.fg w F (fun x j _ _ => np x j (by omega)), fun x e => (Ch x e).fg F (by omega) (fun j _ => np _ j (by omega)) (fun j => np _ j (by omega)), N.fg w F (fun j => np _ j (by omega)), O.fg F (by omega) (by omega) (fun j => np _ j (by omega)) (fun j => np _ j (by omega)) (fun j => ⟨np _ j (by omega), np _ j (by omega)⟩), r⟩, ⟨F.up (by rintro x j ⟨rfl, rfl⟩; unfold PCo; omega), own', ?_, ?_, fun q hq => (F.2.2.2 136 q (by omega) (fun e => hq (by rw [e.1, e.2]; exact z))).2.2⟩, S, by rw [hR_pR, if_pos ⟨rfl, rfl⟩], fun x j => ⟨s8 x j, rfl⟩⟩
  · rw [hN_pR, s6]
    omega
  · rw [hL_pR, s7]
    omega

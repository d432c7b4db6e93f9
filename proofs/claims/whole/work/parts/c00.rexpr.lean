/-! the reference's walk: what it changes, figures, operands -/
def FM (P : Nat → Nat → Prop) (h h' : hp) : Prop := hN h' = hN h ∧ hL h' = hL h ∧ hT h' = hT h ∧ (∀ x k, ¬ (x = 165 ∧ k = 11) → hR h' x k = hR h x k) ∧ ∀ x k, ¬ P x k → hI h' x k = hI h x k ∧ hF h' x k = hF h x k
theorem FS.fm {P : Nat → Nat → Prop} {h h' : hp} (f : FS P h h') : FM P h h' := ⟨f.1, f.2.1, f.2.2.1, fun x k _ => by rw [f.2.2.2.1], f.2.2.2.2⟩
theorem FM.rf (P : Nat → Nat → Prop) (h : hp) : FM P h h := (FS.rf P h).fm
theorem FM.tr {P : Nat → Nat → Prop} {h h1 h2 : hp} (a : FM P h h1) (b : FM P h1 h2) : FM P h h2 :=
  ⟨b.1.trans a.1, b.2.1.trans a.2.1, b.2.2.1.trans a.2.2.1, fun x k q => (b.2.2.2.1 x k q).trans (a.2.2.2.1 x k q), fun x k q => ⟨(b.2.2.2.2 x k q).1.trans (a.2.2.2.2 x k q).1, (b.2.2.2.2 x k q).2.trans (a.2.2.2.2 x k q).2⟩⟩
theorem FM.up {P Q : Nat → Nat → Prop} {h h' : hp} (a : FM P h h') (q : ∀ x k, P x k → Q x k) : FM Q h h' := ⟨a.1, a.2.1, a.2.2.1, a.2.2.2.1, fun x k hx => a.2.2.2.2 x k fun z => hx (q x k z)⟩
theorem R0l_11 : ∀ q ∈ R0l, ¬ (q.1 = 165 ∧ q.2.1 = 11) := by decide +kernel
theorem FM.wf {P : Nat → Nat → Prop} {h h' : hp} (a : FM P h h') (w : WF h) : WF h' := ⟨fun i hi => by rw [a.2.2.1]; exact w.1 i hi, fun q hq => by rw [a.2.2.2.1 _ _ (R0l_11 q hq)]; exact w.2.1 q hq, by rw [a.1]; exact w.2.2⟩
theorem FM.i {P : Nat → Nat → Prop} {h h' : hp} (a : FM P h h') {x k : Nat} (q : ¬ P x k) : hI h' x k = hI h x k := (a.2.2.2.2 x k q).1
theorem FM.f {P : Nat → Nat → Prop} {h h' : hp} (a : FM P h h') {x k : Nat} (q : ¬ P x k) : hF h' x k = hF h x k := (a.2.2.2.2 x k q).2
theorem FM.p11 {P : Nat → Nat → Prop} {h : hp} (v : Nat) : FM P h (pR h 165 11 v) := ⟨rfl, rfl, rfl, fun x k q => by rw [hR_pR, if_neg q], fun x k _ => ⟨rfl, rfl⟩⟩
theorem MV.fm {P : Nat → Nat → Prop} {h h' : hp} {s : Nat} {V : vT} (H : MV h s V) (f : FM P h h') (hP : ∀ x k, sP s x k → ¬ P x k) : MV h' s V := by
  obtain ⟨h1, h2, h3, h4, h5⟩ := H
  have e : ∀ x, (x = 166 ∨ x = 167 ∨ x = 168 ∨ x = 170) → hI h' x s = hI h x s ∧ hF h' x s = hF h x s := fun x q => f.2.2.2.2 x s (hP x s (.inl ⟨q, rfl⟩))
  refine ⟨by rw [(e 166 (by simp)).1]; exact h1, h2, by rw [(e 167 (by simp)).1]; exact h3, by rw [(e 170 (by simp)).2]; exact h4, fun hv => ?_⟩
  obtain ⟨a, b, c⟩ := h5 hv
  exact ⟨by rw [(e 168 (by simp)).1]; exact a, b, fun k hk => by rw [(f.2.2.2.2 169 (16 * s + k) (hP _ _ (.inr ⟨rfl, by omega, by omega⟩))).1]; exact c k hk⟩
theorem TX.fm {P : Nat → Nat → Prop} {h h' : hp} {k : Nat} {L : List Int32} (T : TX h k L) (f : FM P h h') (hP : ∀ x j, P x j → x ≠ 173 ∧ x ≠ 174) : TX h' k L := by
  obtain ⟨w, t1, t2, t3, t4, t5⟩ := T
  exact ⟨f.wf w, t1, t2, by rw [f.i (fun q => (hP _ _ q).2 rfl)]; exact t3, fun i hi => by rw [f.i (fun q => (hP _ _ q).1 rfl)]; exact t4 i hi, t5⟩
abbrev P17 : Nat → Nat → Prop := fun x k => x = 165 ∧ k = 17
theorem ite10b {c : Prop} [Decidable c] : ((if c then (1 : Int32) else 0) = 0) ↔ ¬ c := by
  by_cases h : c
  · rw [if_pos h]; exact ⟨fun q => absurd q (by decide), fun q => absurd h q⟩
  · rw [if_neg h]; exact ⟨fun _ => h, fun _ => rfl⟩
theorem isInF (v : Int32) (h : hp) : fX14_isIn v.toInt64 48 57 h = some (if isF v = true then 1 else 0, h) := by
  rw [isIn_e, Int32.toInt_toInt64, show (48 : Int64).toInt = 48 by decide, show (57 : Int64).toInt = 57 by decide]
  by_cases c : isF v = true
  · rw [if_pos c, if_pos ((isF_i v).mp c)]
  · rw [if_neg c, if_neg (fun q => c ((isF_i v).mpr q))]
theorem isInL (v : Int32) (h : hp) : fX14_isIn v.toInt64 97 122 h = some (if isL v = true then 1 else 0, h) := by
  rw [isIn_e, Int32.toInt_toInt64, show (97 : Int64).toInt = 97 by decide, show (122 : Int64).toInt = 122 by decide]
  by_cases c : isL v = true
  · rw [if_pos c, if_pos ((isL_i v).mp c)]
  · rw [if_neg c, if_neg (fun q => c ((isL_i v).mpr q))]
theorem hereL_in {L : List Int32} {p : Nat} (h : p < L.length) : hereL L p = L.getD p 0 := by unfold hereL; rw [if_pos h]
/-- figures read while it walks -/
theorem fg_l {k n q : Nat} {L : List Int32} (hq : q < L.length) (nf : ¬ isF (L.getD q 0) = true) : ∀ (d p acc m : Nat) (h : hp), TX h k L → figs L d p acc = (n, q) → hI h 165 17 = iN p → p ≤ L.length → d < m → ∃ h', fX14_figuresAt_l2 m 165 (iN k) (iN acc) h = some (iN n, h') ∧ hI h' 165 17 = iN q ∧ FM P17 h h' := by
  intro d
  induction d with
  | zero =>
    intro p acc m h T e a hp hm
    obtain ⟨m, rfl⟩ : ∃ x, m = x + 1 := ⟨m - 1, by omega⟩
    have e1 : acc = n := congrArg Prod.fst e
    have e2 : p = q := congrArg Prod.snd e
    subst e1 e2
    refine ⟨h, ?_, a, FM.rf _ h⟩
    rw [fX14_figuresAt_l2, gM T.1, Option.bind_some, ckM T.1, Option.bind_some, a, byte_e T hq, bd2_s, isInF, bd2_s, if_neg nf, if_pos rfl]
  | succ d ih =>
    intro p acc m h T e a hp hm
    obtain ⟨m, rfl⟩ : ∃ x, m = x + 1 := ⟨m - 1, by omega⟩
    have e1 : figs L (d + 1) p acc = if isF (hereL L p) = true then figs L d (p + 1) (acc * 10 + ((hereL L p).toInt.toNat - 48)) else (acc, p) := rfl
    rw [e1] at e
    by_cases c : isF (hereL L p) = true
    · have hlt := here_in (by decide) c
      rw [if_pos c] at e
      rw [hereL_in hlt] at c e
      have ci := (isF_i _).mp c
      have cv : L.getD p 0 = iN (L.getD p 0).toInt.toNat := Int32.toInt_inj.mp (by rw [i_toInt (by omega)]; omega)
      have w1 : WF (pI h 165 17 (iN (p + 1))) := T.1
      have f1 : FM P17 h (pI h 165 17 (iN (p + 1))) := (FS.pI ⟨rfl, rfl⟩).fm
      obtain ⟨h', e2, a2, f2⟩ := ih (p + 1) _ m (pI h 165 17 (iN (p + 1))) (T.fm f1 fun x j q => by unfold P17 at q; omega) e (by rw [hI_pI, if_pos ⟨rfl, rfl⟩]) hlt (by omega)
      refine ⟨h', ?_, a2, f1.tr f2⟩
      have ar : 10 * iN acc + L.getD p 0 - 48 = iN (acc * 10 + ((L.getD p 0).toInt.toNat - 48)) := by
        rw [cv, i_mullit, i_add, show (48 : Int32) = iN 48 from rfl, i_sub (by omega), i_toInt (by omega)]
        congr 1
        omega
      rw [fX14_figuresAt_l2, gM T.1, Option.bind_some, ckM T.1, Option.bind_some, a, byte_e T hlt, bd2_s, isInF, bd2_s, if_pos c, if_neg (by decide), gM T.1, Option.bind_some, ckM T.1, Option.bind_some, a, byte_e T hlt, bd2_s, gM T.1, Option.bind_some, a, i_succ, pM T.1, Option.bind_some, ar, e2]
    · rw [if_neg c] at e
      have e1 : acc = n := congrArg Prod.fst e
      have e2 : p = q := congrArg Prod.snd e
      subst e1 e2
      refine ⟨h, ?_, a, FM.rf _ h⟩
      rw [fX14_figuresAt_l2, gM T.1, Option.bind_some, ckM T.1, Option.bind_some, a, byte_e T hq, bd2_s, isInF, bd2_s, if_neg nf, if_pos rfl]
theorem fg_e {k n p q : Nat} {L : List Int32} {h : hp} (T : TX h k L) (e : pFigs L p = .inl (n, q)) (hq : q < L.length) (nf : ¬ isF (L.getD q 0) = true) (a : hI h 165 17 = iN p) (hp : p ≤ L.length) : ∃ h', fX14_figuresAt 165 (iN k) h = some (iN n, h') ∧ hI h' 165 17 = iN q ∧ FM P17 h h' := by
  unfold pFigs at e
  by_cases c : isF (hereL L p) = true
  · rw [if_pos c] at e
    obtain ⟨h', e1, a1, f1⟩ := fg_l hq nf 5 p 0 FU h T (Sum.inl.inj e) a hp (FU_pos _ (by decide))
    refine ⟨h', ?_, a1, f1⟩
    unfold fX14_figuresAt
    rw [show fX14_figuresAt_l2 FU 165 (iN k) 0 h = _ from e1, bd2_s]
  · rw [if_neg c] at e; cases e
/-- the values of the reference, the loops' counts -/
def RVs (h : hp) (vs : Nat → vT) (trn : Option Nat) : Prop := (∀ v, v < 8 → MV h v (vs v) ∧ gV (vs v)) ∧ (trn = none → hI h 165 37 = 0) ∧ ∀ i, trn = some i → i < 6 ∧ ∃ l, hI h 165 37 = iN (l + 1) ∧ l < 80 ∧ hI h 186 l = iN i
def PE (s x k : Nat) : Prop := sP s x k ∨ (x = 165 ∧ (k = 12 ∨ k = 17))
theorem RVs.fm {P : Nat → Nat → Prop} {h h' : hp} {vs : Nat → vT} {trn : Option Nat} {s : Nat} (H : RVs h vs trn) (hs : 8 ≤ s) (f : FM P h h') (hP : ∀ x k, P x k → PE s x k) : RVs h' vs trn := by
  have np : ∀ x k, ¬ PE s x k → ¬ P x k := fun x k q z => q (hP x k z)
  have n37 : hI h' 165 37 = hI h 165 37 := f.i (np _ _ (fun q => by unfold PE sP at q; omega))
  refine ⟨fun v hv => ⟨(H.1 v hv).1.fm f fun x k q => np x k (fun z => by unfold PE at z; unfold sP at q z; omega), (H.1 v hv).2⟩, fun e => by rw [n37]; exact H.2.1 e, fun i e => ?_⟩
  obtain ⟨a, l, b, c, d⟩ := H.2.2 i e
  exact ⟨a, l, by rw [n37]; exact b, c, by rw [f.i (np _ _ (fun q => by unfold PE sP at q; omega))]; exact d⟩
/-- a text's signs copied -/
theorem tx_l {k s p : Nat} {L : List Int32} (hs : s < 10) (hb : p + runT L 16 p < L.length) (hq : L.getD (p + runT L 16 p) 0 = 39) : ∀ (d j m : Nat) (h : hp), TX h k L → j + d = runT L 16 p → d < m → hI h 165 17 = iN (p + j) → hI h 168 s = iN j → (∀ i, i < j → hI h 169 (16 * s + i) = L.getD (p + i) 0) → ∃ h', fX14_operand_l119 m 165 (iN k) (iN s) h = some h' ∧ hI h' 165 17 = iN (p + runT L 16 p) ∧ hI h' 168 s = iN (runT L 16 p) ∧ (∀ i, i < runT L 16 p → hI h' 169 (16 * s + i) = L.getD (p + i) 0) ∧ FM (fun x k => (x = 165 ∧ k = 17) ∨ (x = 168 ∧ k = s) ∨ (x = 169 ∧ 16 * s ≤ k ∧ k < 16 * s + 16)) h h' := by
  have n16 : ∀ d p, runT L d p ≤ d := by
    intro d
    induction d with
    | zero => intro p; exact Nat.le_refl _
    | succ d ih =>
      intro p
      show (if isT (hereL L p) = true then runT L d (p + 1) + 1 else 0) ≤ _
      split
      · have := ih (p + 1); omega
      · omega
  have hn := n16 16 p
  intro d
  induction d with
  | zero =>
    intro j m h T hj hm a s1 it
    obtain ⟨m, rfl⟩ : ∃ x, m = x + 1 := ⟨m - 1, by omega⟩
    have hj' : j = runT L 16 p := by omega
    subst hj'
    refine ⟨h, ?_, a, s1, it, FM.rf _ h⟩
    rw [fX14_operand_l119, gM T.1, Option.bind_some, ckM T.1, Option.bind_some, a, byte_e T hb, bd2_s, if_pos hq]
  | succ d ih =>
    intro j m h T hj hm a s1 it
    obtain ⟨m, rfl⟩ : ∃ x, m = x + 1 := ⟨m - 1, by omega⟩
    have w := T.1
    have hlt : p + j < L.length := by omega
    have hT := runT_all (L := L) 16 p (p + j) (by omega) (by omega)
    have n39 : L.getD (p + j) 0 ≠ 39 := ((isT_i _).mp hT).2.1
    have w1 : WF (pI h 169 (16 * s + j) (L.getD (p + j) 0)) := w
    have w2 : WF (pI (pI h 169 (16 * s + j) (L.getD (p + j) 0)) 168 s (iN (j + 1))) := w
    have F : FM (fun x k => (x = 165 ∧ k = 17) ∨ (x = 168 ∧ k = s) ∨ (x = 169 ∧ 16 * s ≤ k ∧ k < 16 * s + 16)) h (pI (pI (pI h 169 (16 * s + j) (L.getD (p + j) 0)) 168 s (iN (j + 1))) 165 17 (iN (p + j + 1))) := (((FS.pI (.inr (.inr ⟨rfl, by omega, by omega⟩))).tr (FS.pI (.inr (.inl ⟨rfl, rfl⟩)))).tr (FS.pI (.inl ⟨rfl, rfl⟩))).fm
    obtain ⟨h', e', a', b', c', f'⟩ := ih (j + 1) m _ (T.fm F fun x k q => by omega) (by omega) (by omega) (by rw [hI_pI, if_pos ⟨rfl, rfl⟩]; rfl) (by rw [hI_pI, if_neg (by omega), hI_pI, if_pos ⟨rfl, rfl⟩]) (fun i hi => by
      rw [hI_pI, if_neg (by omega), hI_pI, if_neg (by omega), hI_pI]
      by_cases c : i = j
      · rw [if_pos ⟨rfl, by omega⟩, c]
      · rw [if_neg (by omega)]; exact it i (by omega))
    refine ⟨h', ?_, a', b', c', F.tr f'⟩
    have s2 : hI (pI h 169 (16 * s + j) (L.getD (p + j) 0)) 168 s = iN j := by rw [hI_pI, if_neg (by omega)]; exact s1
    have a2 : hI (pI (pI h 169 (16 * s + j) (L.getD (p + j) 0)) 168 s (iN (j + 1))) 165 17 = iN (p + j) := by rw [hI_pI, if_neg (by omega), hI_pI, if_neg (by omega)]; exact a
    rw [fX14_operand_l119, gM w, Option.bind_some, ckM w, Option.bind_some, a, byte_e T hlt, bd2_s, if_neg n39, MR3 w, Option.bind_some, MR2 w, Option.bind_some, ML168 w hs, Option.bind_some, s1, gM w, Option.bind_some, ckM w, Option.bind_some, a, byte_e T hlt, bd2_s, i_mullit, i_add, MS169 w (by omega), Option.bind_some, MR2 w1, Option.bind_some, ML168 w1 hs, Option.bind_some, s2, i_succ, MS168 w1 hs, Option.bind_some, gM w2, Option.bind_some, a2, i_succ, pM w2, Option.bind_some, e']

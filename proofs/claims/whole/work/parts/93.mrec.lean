/-! the reference's recognizer: its state, single signs, figures -/
def PM (x k : Nat) : Prop := x = 165 ∧ 14 ≤ k ∧ k ≤ 16
def MS (h h' : hp) : Prop := FS PM h h'
/-- what the recognizer reads: L, in a list from a place on -/
def MX (h : hp) (S off : Nat) (L : List Int32) : Prop := WF h ∧ hR h 165 11 = S ∧ hI h 165 12 = iN off ∧ hI h 165 13 = iN L.length ∧ (∃ n, hT h S = (100, n) ∧ off + L.length ≤ n ∧ n ≤ 20000) ∧ S ≠ 165 ∧ (∀ k, k < L.length → hI h S (off + k) = L.getD k 0) ∧ (∀ k, k < L.length → 1 ≤ (L.getD k 0).toInt ∧ (L.getD k 0).toInt ≤ 127) ∧ L.length ≤ 160
theorem WF.fs {P : Nat → Nat → Prop} {h h' : hp} (w : WF h) (f : FS P h h') : WF h' := by
  refine ⟨fun i hi => by rw [f.2.2.1]; exact w.1 i hi, fun q hq => by rw [f.2.2.2.1]; exact w.2.1 q hq, by rw [f.1]; exact w.2.2⟩
theorem MX.fs {h h' : hp} {S off : Nat} {L : List Int32} (X : MX h S off L) (f : MS h h') : MX h' S off L := by
  obtain ⟨w, x1, x2, x3, x4, x5, x6, x7, x8⟩ := X
  have e := fun x k q => (f.2.2.2.2 x k q).1
  refine ⟨w.fs f, by rw [f.2.2.2.1]; exact x1, by rw [e _ _ (fun q => by unfold PM at q; omega)]; exact x2, by rw [e _ _ (fun q => by unfold PM at q; omega)]; exact x3, by rw [f.2.2.1]; exact x4, x5, fun k hk => by rw [e _ _ (fun q => x5 q.1)]; exact x6 k hk, x7, x8⟩
/-- at a place, with no fault told, so many nodes -/
def MP (h : hp) (p c : Nat) : Prop := hI h 165 14 = iN p ∧ hI h 165 15 = -1 ∧ hI h 165 16 = iN c
def MB {α : Type} (L : List Int32) (h : hp) (p : Nat) (res : PR α) (d : α → Nat) (out : Option (Int32 × hp)) : Prop :=
  (∃ a p' h', res = .inl (a, p') ∧ out = some (1, h') ∧ MS h h' ∧ MP h' p' (d a) ∧ p ≤ p' ∧ p' ≤ L.length) ∨
  (∃ f h', res = .inr f ∧ out = some (0, h') ∧ MS h h' ∧ hI h' 165 15 = iN f ∧ f ≤ 160)
theorem MS.at {h : hp} (v : Int32) : MS h (pI h 165 14 v) := FS.pI ⟨rfl, by decide, by decide⟩
theorem MS.fa {h : hp} (v : Int32) : MS h (pI h 165 15 v) := FS.pI ⟨rfl, by decide, by decide⟩
theorem MS.no {h : hp} (v : Int32) : MS h (pI h 165 16 v) := FS.pI ⟨rfl, by decide, by decide⟩
theorem MP.at {h : hp} {p c : Nat} (m : MP h p c) (q : Nat) : MP (pI h 165 14 (iN q)) q c := ⟨by rw [hI_pI, if_pos ⟨rfl, rfl⟩], by rw [hI_pI, if_neg (by omega)]; exact m.2.1, by rw [hI_pI, if_neg (by omega)]; exact m.2.2⟩
theorem gSrc {h : hp} (w : WF h) : gfR h 165 13 11 = some (hR h 165 11) := by unfold gfR; rw [T165 w]; rfl
theorem src_at {h : hp} {S off q : Nat} {L : List Int32} (X : MX h S off L) (hq : q < L.length) : alI h S (iN (off + q)) = some (L.getD q 0) := by
  obtain ⟨w, x1, x2, x3, ⟨n, t, b, c⟩, x5, x6, x7, x8⟩ := X
  rw [al_e t (by omega) c, x6 q hq]
theorem here_m {h : hp} {S off p c : Nat} {L : List Int32} (X : MX h S off L) (m : MP h p c) (hp' : p ≤ 1000) : fX14_here 165 h = some (hereL L p, h) := by
  have X' := X
  obtain ⟨w, x1, x2, x3, ⟨n, t, b, cn⟩, x5, x6, x7, x8⟩ := X'
  unfold fX14_here hereL
  rw [gM w, Option.bind_some, gM w, Option.bind_some, m.1, x3]
  by_cases c : p < L.length
  · rw [if_neg (by rw [i_le (by omega) (by omega)]; omega), if_pos c, gSrc w, Option.bind_some, gM w, Option.bind_some, Option.bind_some, x1, x2, i_add, src_at X c, Option.bind_some]
  · rw [if_pos (by rw [i_le (by omega) (by omega)]; omega), if_neg c]
theorem ahead_m {h : hp} {S off p c : Nat} {L : List Int32} (X : MX h S off L) (m : MP h p c) (hp' : p ≤ 1000) : fX14_ahead 165 1 h = some (hereL L (p + 1), h) := by
  have X' := X
  obtain ⟨w, x1, x2, x3, ⟨n, t, b, cn⟩, x5, x6, x7, x8⟩ := X'
  unfold fX14_ahead hereL
  rw [gM w, Option.bind_some, gM w, Option.bind_some, m.1, x3, i_succ]
  by_cases c : p + 1 < L.length
  · rw [if_neg (by rw [i_le (by omega) (by omega)]; omega), if_pos c, gSrc w, Option.bind_some, gM w, Option.bind_some, Option.bind_some, x1, x2, i_add, i_succ, show off + p + 1 = off + (p + 1) by omega, src_at X c, Option.bind_some]
  · rw [if_pos (by rw [i_le (by omega) (by omega)]; omega), if_neg c]
theorem fails_m {h : hp} {p c : Nat} (w : WF h) (m : MP h p c) (f : Nat) : fX14_fails 165 (iN f) h = some (0, pI h 165 15 (iN f)) := by
  unfold fX14_fails
  rw [gM w, Option.bind_some, m.2.1, if_neg n0_le, pM w, Option.bind_some]
theorem zck0 : zck 0 = some () := by decide
theorem zck1 : zck 1 = some () := by decide
/-- a fault told at a place -/
theorem MB.no {α : Type} {L : List Int32} {h : hp} {S off p c : Nat} (X : MX h S off L) (m : MP h p c) (d : α → Nat) {f : Nat} (hf : f ≤ 160) : MB L h p (.inr f : PR α) d (bd2 (fX14_fails 165 (iN f) h) fun v13 h14 => (zck v13).bind fun _ => some (v13, h14)) := by
  rw [fails_m X.1 m, bd2_s, zck0, Option.bind_some]
  exact .inr ⟨f, _, rfl, rfl, MS.fa _, by rw [hI_pI, if_pos ⟨rfl, rfl⟩], hf⟩
theorem MB.up {α : Type} {L : List Int32} {h h1 : hp} {p p1 : Nat} {res : PR α} {d : α → Nat} {out : Option (Int32 × hp)} (B : MB L h1 p1 res d out) (s : MS h h1) (hp' : p ≤ p1) : MB L h p res d out := by
  rcases B with ⟨a, p', h', b1, b2, b3, b4, b5, b6⟩ | ⟨f, h', b1, b2, b3, b4, b5⟩
  · exact .inl ⟨a, p', h', b1, b2, s.tr b3, b4, by omega, b6⟩
  · exact .inr ⟨f, h', b1, b2, s.tr b3, b4, b5⟩
/-- one behind the other -/
theorem MB.bd {α β : Type} {L : List Int32} {h : hp} {S off p : Nat} {res : PR α} {d : α → Nat} {e : β → Nat} {out : Option (Int32 × hp)} {f : α → Nat → PR β} {K : hp → Option (Int32 × hp)} (X : MX h S off L) (A : MB L h p res d out) (B : ∀ a p' h', MX h' S off L → MP h' p' (d a) → p ≤ p' → p' ≤ L.length → MB L h' p' (f a p') e (K h')) : MB L h p (bnd res f) e (bd2 out fun v h => if v = 0 then some (0, h) else K h) := by
  rcases A with ⟨a, p', h', b1, b2, b3, b4, b5, b6⟩ | ⟨q, h', b1, b2, b3, b4, b5⟩
  · rw [b1, b2, bnd_l, bd2_s, if_neg z10]
    exact (B a p' h' (X.fs b3) b4 b5 b6).up b3 b5
  · rw [b1, b2, bnd_r, bd2_s, if_pos rfl]
    exact .inr ⟨q, h', rfl, rfl, b3, b4, b5⟩
theorem MB.zc {α : Type} {L : List Int32} {h : hp} {p : Nat} {res : PR α} {d : α → Nat} {out : Option (Int32 × hp)} (A : MB L h p res d out) : MB L h p res d (bd2 out fun v h => (zck v).bind fun _ => some (v, h)) := by
  rcases A with ⟨a, p', h', b1, b2, b3, b4, b5, b6⟩ | ⟨q, h', b1, b2, b3, b4, b5⟩
  · rw [b2, bd2_s, zck1, Option.bind_some]; exact .inl ⟨a, p', h', b1, rfl, b3, b4, b5, b6⟩
  · rw [b2, bd2_s, zck0, Option.bind_some]; exact .inr ⟨q, h', b1, rfl, b3, b4, b5⟩
theorem MB.yes {α : Type} {L : List Int32} {h : hp} {p c : Nat} (m : MP h p c) (hp' : p ≤ L.length) {d : α → Nat} (a : α) (e : d a = c) : MB L h p (.inl (a, p)) d (some (1, h)) :=
  .inl ⟨a, p, h, rfl, rfl, FS.rf _ _, by rw [e]; exact m, Nat.le_refl _, hp'⟩
/-- the answer told over: only what is read counts -/
theorem MB.dn {α : Type} {L : List Int32} {h : hp} {p : Nat} {res : PR α} {d d' : α → Nat} {out : Option (Int32 × hp)} (A : MB L h p res d out) (e : ∀ a, d a = d' a) : MB L h p res d' out := by
  rw [show d' = d from funext fun a => (e a).symm]; exact A
theorem MB.mp {α β : Type} {L : List Int32} {h : hp} {p : Nat} {res : PR α} {g : α → β} {d : β → Nat} {out : Option (Int32 × hp)} (A : MB L h p res (fun a => d (g a)) out) : MB L h p (mp res g) d out := by
  rcases A with ⟨a, p', h', b1, b2, b3, b4, b5, b6⟩ | ⟨q, h', b1, b2, b3, b4, b5⟩
  · exact .inl ⟨g a, p', h', by rw [b1, mp_l], b2, b3, b4, b5, b6⟩
  · exact .inr ⟨q, h', by rw [b1, mp_r], b2, b3, b4, b5⟩
theorem ite10 {α : Type} {c : Prop} [Decidable c] (A B : α) : (if (if c then (1 : Int32) else 0) = 0 then A else B) = if c then B else A := by
  by_cases h : c
  · rw [if_pos h, if_pos h, if_neg z10]
  · rw [if_neg h, if_neg h, if_pos rfl]
theorem mHB {L : List Int32} {h : hp} {S off : Nat} (X : MX h S off L) (p : Nat) : -1 ≤ (hereL L p).toInt ∧ (hereL L p).toInt ≤ 127 := by
  unfold hereL
  by_cases q : p < L.length
  · rw [if_pos q]; have := X.2.2.2.2.2.2.2.1 p q; omega
  · rw [if_neg q]; decide
theorem sign_m {h : hp} {S off p c : Nat} {L : List Int32} (X : MX h S off L) (m : MP h p c) (hp' : p ≤ L.length) {s : Int32} (hs : s ≠ -1) : MB L h p (pSign L s p) (fun _ => c) (fX14_isSign 165 s h) := by
  have w := X.1
  have hl := X.2.2.2.2.2.2.2.2
  unfold fX14_isSign pSign
  rw [ckM w, Option.bind_some, here_m X m (by omega), bd2_s]
  by_cases q : hereL L p = s
  · rw [if_pos q, if_pos q, gM w, Option.bind_some, pM w, Option.bind_some, m.1, i_succ]
    obtain ⟨l1, _⟩ := here_lt q hs
    exact (MB.yes (m.at (p + 1)) l1 (d := fun _ => c) () rfl).up (MS.at _) (Nat.le_succ p)
  · rw [if_neg q, if_neg q, gM w, Option.bind_some, ckM w, Option.bind_some, m.1]
    exact MB.no X m _ (by omega)
theorem isIn_c (v : Int32) (lo hi : Nat) (hlo : lo < 1000) (hhi : hi < 1000) (l : Int64) (t : Int64) (el : l.toInt = lo) (et : t.toInt = hi) (h : hp) : fX14_isIn v.toInt64 l t h = some (if (lo : Int) ≤ v.toInt ∧ v.toInt ≤ hi then 1 else 0, h) := by
  rw [isIn_e, Int32.toInt_toInt64, el, et]
theorem one_m {h : hp} {S off p c lo n : Nat} {L : List Int32} (X : MX h S off L) (m : MP h p c) (hp' : p ≤ L.length) (hlo : 11 ≤ lo) (hn : 0 < n ∧ lo + n ≤ 127) : MB L h p (pOne L lo n p) (fun _ => c) (fX14_isOneOf 165 (iN lo) (iN (lo + n - 1)) h) := by
  have w := X.1
  have hl := X.2.2.2.2.2.2.2.2
  have hb := mHB X p
  unfold fX14_isOneOf pOne
  rw [ckM w, Option.bind_some, here_m X m (by omega), bd2_s, isIn_e, Int32.toInt_toInt64, Int32.toInt_toInt64, Int32.toInt_toInt64, i_toInt (by omega), i_toInt (by omega), bd2_s, ite10]
  by_cases q : (lo : Int) ≤ (hereL L p).toInt ∧ (hereL L p).toInt < (lo + n : Nat)
  · have nz : hereL L p ≠ -1 := fun e => by rw [e, show (-1 : Int32).toInt = -1 by decide] at q; omega
    obtain ⟨l1, _⟩ := here_lt (L := L) (p := p) rfl nz
    have q' : (lo : Int) ≤ (hereL L p).toInt ∧ (hereL L p).toInt ≤ (lo + n - 1 : Nat) := by omega
    rw [if_pos q, if_pos q', gM w, Option.bind_some, pM w, Option.bind_some, m.1, i_succ]
    exact (MB.yes (m.at (p + 1)) l1 (d := fun _ => c) _ rfl).up (MS.at _) (Nat.le_succ p)
  · have q' : ¬ ((lo : Int) ≤ (hereL L p).toInt ∧ (hereL L p).toInt ≤ (lo + n - 1 : Nat)) := by omega
    rw [if_neg q, if_neg q', gM w, Option.bind_some, ckM w, Option.bind_some, m.1]
    exact MB.no X m _ (by omega)
theorem isF_i (v : Int32) : isF v = true ↔ 48 ≤ v.toInt ∧ v.toInt ≤ 57 := by unfold isF; exact decide_eq_true_iff
theorem isL_i (v : Int32) : isL v = true ↔ 97 ≤ v.toInt ∧ v.toInt ≤ 122 := by unfold isL; exact decide_eq_true_iff
theorem here_in {L : List Int32} {p : Nat} {b : Int32 → Bool} (hb : b (-1) = false) (e : b (hereL L p) = true) : p < L.length := by
  have nz : hereL L p ≠ -1 := fun q => by rw [q, hb] at e; exact absurd e (by decide)
  exact (here_lt (L := L) (p := p) rfl nz).1
theorem figs_l {S off c : Nat} {L : List Int32} : ∀ (d p i n : Nat) (acc : Nat) (h : hp), MX h S off L → MP h p c → p ≤ L.length → i + d = 5 → d < n → ∃ h', fX14_isFigures_l28 n 165 (iN i) h = some h' ∧ MS h h' ∧ MP h' (figs L d p acc).2 c ∧ p ≤ (figs L d p acc).2 ∧ (figs L d p acc).2 ≤ L.length := by
  intro d
  induction d with
  | zero =>
    intro p i n acc h X m hp' hi hn
    obtain ⟨n, rfl⟩ : ∃ q, n = q + 1 := ⟨n - 1, by omega⟩
    rw [fX14_isFigures_l28, if_pos (by rw [i_lit_le (by decide) (by omega)]; show 5 ≤ i; omega)]
    exact ⟨h, rfl, FS.rf _ _, m, Nat.le_refl _, hp'⟩
  | succ d ih =>
    intro p i n acc h X m hp' hi hn
    have w := X.1
    have hl := X.2.2.2.2.2.2.2.2
    obtain ⟨n, rfl⟩ : ∃ q, n = q + 1 := ⟨n - 1, by omega⟩
    have e1 : figs L (d + 1) p acc = if isF (hereL L p) = true then figs L d (p + 1) (acc * 10 + ((hereL L p).toInt.toNat - 48)) else (acc, p) := rfl
    rw [fX14_isFigures_l28, if_neg (by rw [i_lit_le (by decide) (by omega)]; show ¬ 5 ≤ i; omega), ckM w, Option.bind_some, here_m X m (by omega), bd2_s, isIn_c _ 48 57 (by decide) (by decide) 48 57 (by decide) (by decide), bd2_s, ite10, e1]
    by_cases q : isF (hereL L p) = true
    · have hlt := here_in (by decide) q
      rw [if_pos q, if_pos (show ((48 : Nat) : Int) ≤ (hereL L p).toInt ∧ (hereL L p).toInt ≤ ((57 : Nat) : Int) by rw [isF_i] at q; omega), gM w, Option.bind_some, pM w, Option.bind_some, m.1, i_succ, i_succ]
      obtain ⟨h', a1, a2, a3, a4, a5⟩ := ih (p + 1) (i + 1) n (acc * 10 + ((hereL L p).toInt.toNat - 48)) _ (X.fs (MS.at _)) (m.at (p + 1)) hlt (by omega) (by omega)
      exact ⟨h', a1, (MS.at _).tr a2, a3, by omega, a5⟩
    · rw [if_neg q, if_neg (show ¬ (((48 : Nat) : Int) ≤ (hereL L p).toInt ∧ (hereL L p).toInt ≤ ((57 : Nat) : Int)) by rw [isF_i] at q; omega)]
      exact ⟨h, rfl, FS.rf _ _, m, Nat.le_refl _, hp'⟩
theorem figs_m {h : hp} {S off p c : Nat} {L : List Int32} (X : MX h S off L) (m : MP h p c) (hp' : p ≤ L.length) : MB L h p (pFigs L p) (fun _ => c) (fX14_isFigures 165 h) := by
  have w := X.1
  have hl := X.2.2.2.2.2.2.2.2
  unfold fX14_isFigures pFigs
  rw [ckM w, Option.bind_some, here_m X m (by omega), bd2_s, isIn_c _ 48 57 (by decide) (by decide) 48 57 (by decide) (by decide), bd2_s, ite10]
  by_cases q : isF (hereL L p) = true
  · rw [if_pos q, if_pos (show ((48 : Nat) : Int) ≤ (hereL L p).toInt ∧ (hereL L p).toInt ≤ ((57 : Nat) : Int) by rw [isF_i] at q; omega)]
    obtain ⟨h', a1, a2, a3, a4, a5⟩ := figs_l 5 p 0 FU 0 h X m hp' rfl (by show 5 < 1000000; omega)
    rw [show fX14_isFigures_l28 FU 165 0 h = _ from a1, Option.bind_some]
    exact .inl ⟨(figs L 5 p 0).1, (figs L 5 p 0).2, h', rfl, rfl, a2, a3, a4, a5⟩
  · rw [if_neg q, if_neg (show ¬ (((48 : Nat) : Int) ≤ (hereL L p).toInt ∧ (hereL L p).toInt ≤ ((57 : Nat) : Int)) by rw [isF_i] at q; omega), gM w, Option.bind_some, ckM w, Option.bind_some, m.1]
    exact MB.no X m _ (by omega)

/-! the class's walk: names given, given back; lists of loops -/
def und : List (Nat × vT) → (Nat → vT) → (Nat → vT)
  | [], vs => vs
  | e :: r, vs => und r (upV vs e.1 e.2)
theorem und_app : ∀ (a b : List (Nat × vT)) (vs : Nat → vT), und (a ++ b) vs = und b (und a vs) := by
  intro a
  induction a with
  | nil => intro b vs; rfl
  | cons e a ih => intro b vs; exact ih b _
theorem und_one (vs : Nat → vT) (n : Nat) (V : vT) : und [(n, vs n)] (upV vs n V) = vs := by
  funext u
  show (if u = n then vs n else if u = n then V else vs u) = vs u
  by_cases c : u = n
  · rw [if_pos c, c]
  · rw [if_neg c, if_neg c]
theorem CB.cons {h : hp} {own : Nat → Nat} {tp : Tp} {lim : Nat} {KL : List (Nat × vT)} {LL : Nat → Option vT} {fr : Fr} {vs : Nat → vT} (H : CB h own tp lim KL LL fr vs) {n : Nat} {V : vT} (hk : KL.length < 348) (hn : n < 8) (g : gV V) (e1 : hI h 146 KL.length = iN n) (e2 : hR h 145 KL.length ≠ 0) (C : CV h (hR h 145 KL.length) (hR h (hR h 145 KL.length) 4) V) : CB h own tp lim ((n, V) :: KL) LL fr vs := by
  obtain ⟨a, b, c, d, ⟨k1, k2⟩, r⟩ := H
  exact ⟨a, b, c, d, ⟨by show KL.length + 1 ≤ 348; omega, ⟨hn, g, e1, e2, C⟩, k2⟩, r⟩
theorem CB.tl {h : hp} {own : Nat → Nat} {tp : Tp} {lim : Nat} {e : Nat × vT} {KL : List (Nat × vT)} {LL : Nat → Option vT} {fr : Fr} {vs : Nat → vT} (H : CB h own tp lim (e :: KL) LL fr vs) : CB h own tp lim KL LL fr vs := by
  obtain ⟨a, b, c, d, ⟨k1, k2⟩, r⟩ := H
  exact ⟨a, b, c, d, ⟨by have k1 : KL.length + 1 ≤ 348 := k1; omega, k2.2⟩, r⟩
abbrev Pvr (n x _k : Nat) : Prop := x = 70 + 2 * n ∨ x = 71 + 2 * n
/-- a variable put -/
theorem CB.var {h h' : hp} {own : Nat → Nat} {tp : Tp} {lim : Nat} {KL : List (Nat × vT)} {LL : Nat → Option vT} {fr : Fr} {vs : Nat → vT} {n : Nat} {W : vT} (H : CB h own tp lim KL LL fr vs) (f : FS (Pvr n) h h') (hn : n < 8) (C : CV h' (70 + 2 * n) (71 + 2 * n) W) (g : gV W) : CB h' own tp lim KL LL fr (upV vs n W) := by
  obtain ⟨⟨w, z⟩, ⟨x1, x2⟩, ⟨l1, l2⟩, vv, ⟨k1, k2⟩, ll, ff, c8⟩ := H
  have h2 := w.2.2
  have np : ∀ x k, (x < 70 ∨ 86 ≤ x) → ¬ Pvr n x k := fun x k a q => by unfold Pvr at q; omega
  refine ⟨⟨f.wf w, FS.zh f z fun x k q => by unfold Pvr at q; omega⟩, ⟨x1.fs f, x2.fg w f.fg (fun x k a _ _ => np x k (by omega)) (fun k => np 67 k (by omega)) (fun _ _ => rfl)⟩, ⟨by rw [(f.2.2.2.2 65 3 (np 65 3 (by omega))).1]; exact l1, l2⟩, fun v hv => ?_, ⟨k1, KHh.fg w x1 f.fg KL k1 k2 (fun k _ => ⟨np _ k (by omega), np _ k (by omega)⟩) (fun x k a _ _ => np x k (by omega))⟩, ll.fg w x1 f.fg (fun l V _ => np 136 l (by omega)) (fun x k a _ _ => np x k (by omega)), ff.fs f (fun i k _ => ⟨np _ k (by omega), np _ k (by omega)⟩), c8⟩
  unfold upV
  by_cases c : v = n
  · rw [if_pos c, c]; exact ⟨C, g⟩
  · rw [if_neg c]
    exact ⟨(vv v hv).1.fs f (fun k q => by unfold Pvr at q; omega) (fun k q => by unfold Pvr at q; omega), (vv v hv).2⟩
theorem CX.var {h h' : hp} {own : Nat → Nat} {tp : Tp} {lim : Nat} {KL : List (Nat × vT)} {LL : Nat → Option vT} {fr : Fr} {trn : Option Nat} {lk : Bool} {dp : Nat} {ch : Option (List Nat × Nat × Option Nat)} {σ : St} {fl : Bool} {n : Nat} {W : vT} (H : CX h own tp lim KL LL fr ch trn lk dp σ fl) (f : FS (Pvr n) h h') (hn : n < 8) (C : CV h' (70 + 2 * n) (71 + 2 * n) W) (g : gV W) : CX h' own tp lim KL LL fr ch trn lk dp (upV σ.1 n W, σ.2) fl := by
  obtain ⟨B, R, Ch, N, O, r⟩ := H
  have np : ∀ x k, (x < 70 ∨ 86 ≤ x) → ¬ Pvr n x k := fun x k a q => by unfold Pvr at q; omega
  exact ⟨B.var f hn C g, R.fs f (fun x k _ _ => np x k (by omega)), Ch.fs f (fun k _ => np _ k (by omega)) (fun k => np _ k (by omega)), N.fs f (fun k => np _ k (by omega)), O.fs f (fun k => np _ k (by omega)) (fun k => np _ k (by omega)) (fun k => ⟨np _ k (by omega), np _ k (by omega)⟩), r⟩
theorem var_at {h : hp} (w : WF h) {n : Nat} (hn : n < 8) : fX9_variable 65 (iN n) h = some (70 + 2 * n, h) := by
  rcases cVar w (iN n) with ⟨k, hk, ek, e'⟩ | ⟨c', _⟩
  · rw [i_eq (by omega) (by omega)] at ek; subst ek; exact e'
  · exact absurd (by rw [i_toInt (by omega)]; omega) c'
theorem amk {k n : Nat} (hk : k < n) (hn : n < 2147483648) (h : hp) : fX13_among (iN k) (iN n) h = some (1, h) := amn hk hn h
/-- a name given: behind it its slot is there -/
theorem give2 {h : hp} {own : Nat → Nat} {tp : Tp} {lim : Nat} {KL : List (Nat × vT)} {LL : Nat → Option vT} {fr : Fr} {trn : Option Nat} {lk : Bool} {dp : Nat} {ch : Option (List Nat × Nat × Option Nat)} {σ : St} {n : Nat} {V : vT} (H : CX h own tp lim KL LL fr ch trn lk dp σ false) (hs : hR h 145 KL.length ≠ 0) (hk : KL.length < 348) (hn : n < 8) (C : CV h 137 138 V) (g : gV V) : ∃ h', ((gfR h 134 11 8).bind fun v18 => (gfI h 134 11 10).bind fun v20 => (alR 6 h v18 v20).bind fun v22 => (ckT h v22 10).bind fun _ => (fX11_copy v22 (70 + 2 * n) h).bind fun h25 => (gfR h25 134 11 9).bind fun v27 => (gfI h25 134 11 10).bind fun v29 => (asI h25 v27 v29 (iN n)).bind fun h31 => (gfI h31 134 11 10).bind fun v33 => (pfI h31 134 11 10 (v33 + 1)).bind fun h35 => (ckT h35 (70 + 2 * n) 10).bind fun _ => (fX11_copy (70 + 2 * n) 137 h35).bind fun h38 => some h38) = some h' ∧ TRn own h own h' ∧ CX h' own tp lim ((n, σ.1 n) :: KL) LL fr ch trn lk dp (upV σ.1 n V, σ.2) false := by
  have w := H.w
  have hn2 := w.2.2
  have n10 := H.2.2.2.1.1
  rcases H.1.2.1.1.1 KL.length hk with z | S
  · exact absurd z hs
  obtain ⟨vo, s1, s2, s3, s4, s5, s6⟩ := S
  obtain ⟨cv, gv⟩ := H.1.2.2.2.1 n hn
  obtain ⟨h2, e2, C2, f2⟩ := cCopy vo cv
  have hs2 : hR h2 = hR h := f2.2.2.2.1
  have w2 := f2.fs.wf w
  have F2 : FS (fun x k => (x = hR h 145 KL.length ∨ x = hR h (hR h 145 KL.length) 4) ∨ (x = 146 ∧ k = KL.length) ∨ (x = 134 ∧ k = 10)) h (pI (pI h2 146 KL.length (iN n)) 134 10 (iN (KL.length + 1))) := ((f2.fs.up fun x k q => .inl (by simpa using q)).tr (FS.pI (.inr (.inl ⟨rfl, rfl⟩)))).tr (FS.pI (.inr (.inr ⟨rfl, rfl⟩)))
  have hP : ∀ x k, ((x = hR h 145 KL.length ∨ x = hR h (hR h 145 KL.length) 4) ∨ (x = 146 ∧ k = KL.length) ∨ (x = 134 ∧ k = 10)) → x < 64 + hN h ∧ PA own KL.length LL fr.length x k := by
    intro x k q
    refine ⟨by rcases q with (rfl | rfl) | q | q <;> omega, ?_⟩
    unfold PA
    rcases q with (q | q) | q | q
    · subst q
      exact .inr (.inr (.inr (.inr (.inr (.inr (.inr (.inr ⟨s3, by omega, fun i hi => by omega, fun l V e => by have := H.1.2.2.2.2.2.1 l V e; omega⟩)))))))
    · subst q
      exact .inr (.inr (.inr (.inr (.inr (.inr (.inr (.inr ⟨s5, by omega, fun i hi => by omega, fun l V e => by have := H.1.2.2.2.2.2.1 l V e; omega⟩)))))))
    · omega
    · omega
  have B3 := H.1.fs F2 hP
  have w3 := B3.1.1
  have np : ∀ x k, x ≠ 134 → x ≠ 146 → x < 204 → ¬ ((x = hR h 145 KL.length ∨ x = hR h (hR h 145 KL.length) 4) ∨ (x = 146 ∧ k = KL.length) ∨ (x = 134 ∧ k = 10)) := fun x k a b c q => by rcases q with (q | q) | q | q <;> omega
  have h8 := H.1.2.2.2.2.2.2.2
  have C3 : CV (pI (pI h2 146 KL.length (iN n)) 134 10 (iN (KL.length + 1))) (hR h 145 KL.length) (hR h (hR h 145 KL.length) 4) (σ.1 n) := C2.fs (P := fun x _ => x = 146 ∨ x = 134) ((FS.pI (.inl rfl)).tr (FS.pI (.inr rfl))) (fun k q => by omega) (fun k q => by omega)
  have B4 : CB (pI (pI h2 146 KL.length (iN n)) 134 10 (iN (KL.length + 1))) own tp lim ((n, σ.1 n) :: KL) LL fr σ.1 := by
    refine B3.cons hk hn gv ?_ ?_ ?_
    · rw [hI_pI, if_neg (by omega), hI_pI, if_pos ⟨rfl, rfl⟩]
    · show hR h2 145 _ ≠ 0
      rw [hs2]; exact hs
    · show CV _ (hR h2 145 _) (hR h2 (hR h2 145 _) 4) _
      rw [hs2]; exact C3
  have N4 : CN (pI (pI h2 146 KL.length (iN n)) 134 10 (iN (KL.length + 1))) (KL.length + 1) (opN fr ch) dp σ.2.1 σ.2.2.2 trn lk false := by
    have e : ∀ k, k ≠ 10 → hI (pI (pI h2 146 KL.length (iN n)) 134 10 (iN (KL.length + 1))) 134 k = hI h 134 k := fun k hk => (F2.2.2.2.2 134 k (fun q => by rcases q with (q | q) | q | q <;> omega)).1
    have N := H.2.2.2.1
    unfold CN at N ⊢
    rw [e 11 (by decide), e 12 (by decide), e 13 (by decide), e 14 (by decide), e 15 (by decide), e 16 (by decide), e 17 (by decide)]
    exact ⟨by rw [hI_pI, if_pos ⟨rfl, rfl⟩], N.2⟩
  have X4 : CX (pI (pI h2 146 KL.length (iN n)) 134 10 (iN (KL.length + 1))) own tp lim ((n, σ.1 n) :: KL) LL fr ch trn lk dp σ false :=
    ⟨B4, H.2.1.fs F2 (fun x k a b => np x k (by omega) (by omega) (by omega)), H.2.2.1.fs F2 (fun k _ => np _ k (by omega) (by omega) (by omega)) (fun k => np _ k (by omega) (by omega) (by omega)), N4, H.2.2.2.2.1.fs F2 (fun k => np _ k (by omega) (by omega) (by omega)) (fun k => np _ k (by omega) (by omega) (by omega)) (fun k => ⟨np _ k (by omega) (by omega) (by omega), np _ k (by omega) (by omega) (by omega)⟩), H.2.2.2.2.2⟩
  have C5 : CV (pI (pI h2 146 KL.length (iN n)) 134 10 (iN (KL.length + 1))) 137 138 V := C.fs F2 (fun k => np _ k (by omega) (by omega) (by omega)) (fun k => np _ k (by omega) (by omega) (by omega))
  have vo4 : VO (pI (pI h2 146 KL.length (iN n)) 134 10 (iN (KL.length + 1))) (70 + 2 * n) (71 + 2 * n) := (B4.2.2.2.1 n hn).1.1
  obtain ⟨h5, e5, C6, f5⟩ := cCopy vo4 C5
  refine ⟨h5, ?_, (TRn.fs F2 fun x k q => ?_).tr (TRn.fs f5.fs fun x k q => by simp at q; unfold PCo; omega), X4.var (f5.fs.up fun x k q => by simpa using q) hn C6 g⟩
  · have r2 : hI h2 134 10 = iN KL.length := by rw [(f2.2.2.2.2 134 (by simp; omega)).1]; exact n10
    have r3 : hI (pI h2 146 KL.length (iN n)) 134 10 = iN KL.length := by rw [hI_pI, if_neg (by omega)]; exact r2
    have as2 : asI h2 146 (iN KL.length) (iN n) = some (pI h2 146 KL.length (iN n)) := as_e (T146 w2) hk (by decide)
    have w3' : WF (pI h2 146 KL.length (iN n)) := w2
    rw [gWR w, R134_8 w, Option.bind_some, gW w, Option.bind_some, n10, alR_e (j := 6) (T145 w) hk (by decide), Option.bind_some, ckV vo, Option.bind_some, e2, Option.bind_some, gWR w2, R134_9 w2, Option.bind_some, gW w2, Option.bind_some, r2, as2, Option.bind_some, gW w3', Option.bind_some, r3, i_succ, pW w3', Option.bind_some, ckV vo4, Option.bind_some, e5, Option.bind_some]
  · unfold PCo
    rcases q with (q | q) | q | q
    · rw [q]; omega
    · rw [q]; omega
    · omega
    · omega
theorem give_e {h : hp} {own : Nat → Nat} {tp : Tp} {lim : Nat} {KL : List (Nat × vT)} {LL : Nat → Option vT} {fr : Fr} {trn : Option Nat} {lk : Bool} {dp : Nat} {ch : Option (List Nat × Nat × Option Nat)} {σ : St} {n : Nat} {V : vT} (H : CX h own tp lim KL LL fr ch trn lk dp σ false) (hk : KL.length < 348) (hn : n < 8) (C : CV h 137 138 V) (g : gV V) : ∃ h' own', fX12_giveName 134 (iN n) 137 h = some h' ∧ TRn own h own' h' ∧ CX h' own' tp lim ((n, σ.1 n) :: KL) LL fr ch trn lk dp (upV σ.1 n V, σ.2) false := by
  have w := H.w
  have n10 := H.2.2.2.1.1
  obtain ⟨K, hK⟩ : ∃ K : hp → Option hp, K = fun h => ((gfR h 134 11 8).bind fun v18 => (gfI h 134 11 10).bind fun v20 => (alR 6 h v18 v20).bind fun v22 => (ckT h v22 10).bind fun _ => (fX11_copy v22 (70 + 2 * n) h).bind fun h25 => (gfR h25 134 11 9).bind fun v27 => (gfI h25 134 11 10).bind fun v29 => (asI h25 v27 v29 (iN n)).bind fun h31 => (gfI h31 134 11 10).bind fun v33 => (pfI h31 134 11 10 (v33 + 1)).bind fun h35 => (ckT h35 (70 + 2 * n) 10).bind fun _ => (fX11_copy (70 + 2 * n) 137 h35).bind fun h38 => some h38) := ⟨_, rfl⟩
  have st : fX12_giveName 134 (iN n) 137 h = (if hR h 145 KL.length = 0 then (bd2 (nwO h 10 5) fun v44 h45 => (ckT h45 v44 10).bind fun _ => (fX11_init v44 h45).bind fun h48 => (asR 6 h48 145 (iN KL.length) v44).bind fun h50 => K h50) else K h) := by
    have am : fX13_among (iN KL.length) 348 h = some (1, h) := amk hk (by decide) h
    unfold fX12_giveName
    rw [gWR w, R134_0 w, Option.bind_some, ck65 w, Option.bind_some, var_at w hn, bd2_s, if_neg (show ¬ 70 + 2 * n = 0 by omega), gW w, Option.bind_some, n10, am, bd2_s, if_neg (show ¬ ((1 : Int32) = 0) by decide), gWR w, R134_8 w, Option.bind_some, gW w, Option.bind_some, n10, alR_e (j := 6) (T145 w) hk (by decide), Option.bind_some, jn_e, ← hK, Option.bind_some, Option.bind_some]
  by_cases z : hR h 145 KL.length = 0
  · obtain ⟨e1, X1, t1, S1, r1, i1⟩ := slot_n (arr := 145) (k := KL.length) (o := 2 + KL.length) H z (.inl ⟨rfl, hk, rfl, Nat.le_refl _⟩)
    have C1 : CV (pR (nV h) 145 KL.length (64 + hN h)) 137 138 V := by
      obtain ⟨_, c2, c3, c4, c5, c6⟩ := C
      exact ⟨(TG.left (own := own) (kl := 0) (LL := LL) X1.w).1, by rw [(i1 _ _).1]; exact c2, c3, fun e => by rw [(i1 _ _).1]; exact c4 e, fun e => by rw [(i1 _ _).2]; exact c5 e, fun e => ⟨by rw [(i1 _ _).1]; exact (c6 e).1, (c6 e).2.1, fun k hk => by rw [(i1 _ _).1]; exact (c6 e).2.2 k hk⟩⟩
    obtain ⟨h', e2, t2, X2⟩ := give2 X1 (by rw [r1]; omega) hk hn C1 g
    refine ⟨h', nOwn own h (2 + KL.length), ?_, t1.tr t2, X2⟩
    rw [st, if_pos z, nV_k, e1, Option.bind_some, hK]
    exact e2
  · obtain ⟨h', e2, t2, X2⟩ := give2 H z hk hn C g
    exact ⟨h', own, by rw [st, if_neg z, hK]; exact e2, t2, X2⟩

/-- names given back -/
theorem back_l {own : Nat → Nat} {tp : Tp} {lim : Nat} {KL : List (Nat × vT)} {LL : Nat → Option vT} {fr : Fr} : ∀ (ext : List (Nat × vT)) (m : Nat) (h : hp) (vs : Nat → vT), CB h own tp lim (ext ++ KL) LL fr vs → ext.length < m → ∃ h', fX12_giveBack_l7 m 134 (iN KL.length) (iN (ext.length + KL.length) - 1) h = some h' ∧ FS (fun x _ => 70 ≤ x ∧ x ≤ 85) h h' ∧ CB h' own tp lim KL LL fr (und ext vs) := by
  intro ext
  induction ext with
  | nil =>
    intro m h vs B hm
    obtain ⟨m, rfl⟩ : ∃ q, m = q + 1 := ⟨m - 1, by omega⟩
    have k1 := B.2.2.2.2.1.1
    have k2 : KL.length ≤ 348 := k1
    refine ⟨h, ?_, FS.rf _ h, B⟩
    have lt : iN (0 + KL.length) - 1 < iN KL.length := by
      rw [Nat.zero_add]
      by_cases z : KL.length = 0
      · rw [z]; decide
      · rw [show (1 : Int32) = iN 1 from rfl, i_sub (by omega), i_lt (by omega) (by omega)]; omega
    rw [fX12_giveBack_l7]
    exact if_pos lt
  | cons e r ih =>
    intro m h vs B hm
    obtain ⟨m, rfl⟩ : ∃ q, m = q + 1 := ⟨m - 1, by omega⟩
    have hm' : r.length + 1 < m + 1 := hm
    have w := B.1.1
    have hn2 := w.2.2
    obtain ⟨k1, ⟨a1, a2, a3, a4, a5⟩, k3⟩ := B.2.2.2.2.1
    have k2 : (r ++ KL).length + 1 ≤ 348 := k1
    have el : (r ++ KL).length = r.length + KL.length := List.length_append
    have el' : (r.append KL).length = r.length + KL.length := el
    rw [el'] at a3 a4 a5
    rw [el] at k2
    have ix : iN ((e :: r).length + KL.length) - 1 = iN (r.length + KL.length) := by
      show iN (r.length + 1 + KL.length) - 1 = _
      rw [show (1 : Int32) = iN 1 from rfl, i_sub (by omega)]
      congr 1
      omega
    have nlt : ¬ iN (r.length + KL.length) < iN KL.length := by rw [i_lt (by omega) (by omega)]; omega
    have am : fX13_among (iN (r.length + KL.length)) 348 h = some (1, h) := amk (show r.length + KL.length < 348 by omega) (by decide) h
    obtain ⟨cv, gv⟩ := B.2.2.2.1 e.1 a1
    obtain ⟨h1, e1, C1, f1⟩ := cCopy cv.1 a5
    have B1 : CB h1 own tp lim (e :: (r ++ KL)) LL fr (upV vs e.1 e.2) := CB.var B (f1.fs.up fun x k q => by simpa using q) a1 C1 a2
    have ne : iN (r.length + KL.length) + -1 = iN (r.length + KL.length) - 1 := by rw [Int32.sub_eq_add_neg]
    obtain ⟨h2, e2, f2, B2⟩ := ih m h1 _ B1.tl (by omega)
    refine ⟨h2, ?_, (f1.fs.up fun x k q => by simp at q; omega).tr f2, B2⟩
    rw [ix, fX12_giveBack_l7, if_neg nlt, am, bd2_s, if_neg (show ¬ ((1 : Int32) = 0) by decide), gWR w, R134_0 w, Option.bind_some, gWR w, R134_9 w, Option.bind_some, al_e (T146 w) (by omega) (by decide), Option.bind_some, a3, ck65 w, Option.bind_some, var_at w a1, bd2_s, if_neg (show ¬ 70 + 2 * e.1 = 0 by omega), gWR w, R134_8 w, Option.bind_some, alR_e (j := 6) (T145 w) (by omega) (by decide), Option.bind_some, if_neg a4, Option.bind_some, alR_e (j := 6) (T145 w) (by omega) (by decide), Option.bind_some, ckV cv.1, Option.bind_some, e1, Option.bind_some, ne, e2]
theorem back_e {h : hp} {own : Nat → Nat} {tp : Tp} {lim : Nat} {KL : List (Nat × vT)} {LL : Nat → Option vT} {fr : Fr} {trn : Option Nat} {lk : Bool} {dp : Nat} {ch : Option (List Nat × Nat × Option Nat)} {σ : St} {fl : Bool} (ext : List (Nat × vT)) (H : CX h own tp lim (ext ++ KL) LL fr ch trn lk dp σ fl) : ∃ h', fX12_giveBack 134 (iN KL.length) h = some h' ∧ TRn own h own h' ∧ FS (fun x k => (70 ≤ x ∧ x ≤ 85) ∨ (x = 134 ∧ k = 10)) h h' ∧ CX h' own tp lim KL LL fr ch trn lk dp (und ext σ.1, σ.2) fl := by
  obtain ⟨B, R, Ch, N, O, r⟩ := H
  have w := B.1.1
  have hn2 := w.2.2
  have kk : (ext ++ KL).length ≤ 348 := B.2.2.2.2.1.1
  have el : (ext ++ KL).length = ext.length + KL.length := List.length_append
  obtain ⟨h1, e1, f1, B1⟩ := back_l ext FU h σ.1 B (FU_pos _ (by omega))
  have w1 := B1.1.1
  have n10 := N.1
  rw [el] at n10
  have F : FS (fun x k => (70 ≤ x ∧ x ≤ 85) ∨ (x = 134 ∧ k = 10)) h (pI h1 134 10 (iN KL.length)) := (f1.up fun x k q => .inl q).tr (FS.pI (.inr ⟨rfl, rfl⟩))
  have np : ∀ x k, 86 ≤ x → (x ≠ 134 ∨ k ≠ 10) → ¬ ((70 ≤ x ∧ x ≤ 85) ∨ (x = 134 ∧ k = 10)) := fun x k a b q => by omega
  refine ⟨pI h1 134 10 (iN KL.length), ?_, TRn.fs F fun x k q => by unfold PCo; omega, F, B1.fs (P := fun x k => x = 134 ∧ k = 10) (FS.pI ⟨rfl, rfl⟩) (fun x k q => ⟨by rw [f1.1]; omega, by unfold PA; omega⟩), R.fs F (fun x k _ _ => np x k (by omega) (by omega)), Ch.fs F (fun k _ => np _ k (by omega) (by omega)) (fun k => np _ k (by omega) (by omega)), ?_, O.fs F (fun k => np _ k (by omega) (by omega)) (fun k => np _ k (by omega) (by omega)) (fun k => ⟨np _ k (by omega) (by omega), np _ k (by omega) (by omega)⟩), r⟩
  · unfold fX12_giveBack
    rw [gW w, Option.bind_some, n10, e1, Option.bind_some, pW w1, Option.bind_some]
  · have e : ∀ k, k ≠ 10 → hI (pI h1 134 10 (iN KL.length)) 134 k = hI h 134 k := fun k hk => (F.2.2.2.2 134 k (np _ k (by omega) (by omega))).1
    unfold CN at N ⊢
    rw [e 11 (by decide), e 12 (by decide), e 13 (by decide), e 14 (by decide), e 15 (by decide), e 16 (by decide), e 17 (by decide)]
    exact ⟨by rw [hI_pI, if_pos ⟨rfl, rfl⟩], N.2⟩
/-- the list of a loop of this level -/
theorem list_e {h : hp} {own : Nat → Nat} {tp : Tp} {lim : Nat} {KL : List (Nat × vT)} {LL : Nat → Option vT} {fr : Fr} {trn : Option Nat} {lk : Bool} {dp : Nat} {ch : Option (List Nat × Nat × Option Nat)} {σ : St} {fl : Bool} {lv : Nat} (H : CX h own tp lim KL LL fr ch trn lk dp σ fl) (hl : lv < 48) (hL : LL lv = none) : ∃ a h' own', fX12_listAt 134 (iN lv) h = some (a, h') ∧ TRn own h own' h' ∧ CX h' own' tp lim KL LL fr ch trn lk dp σ fl ∧ a = hR h' 136 lv ∧ SLo h' own' a (400 + lv) := by
  have w := H.w
  have am : fX13_among (iN lv) 48 h = some (1, h) := amk hl (by decide) h
  obtain ⟨K, hK⟩ : ∃ K : hp → Option (Nat × hp), K = fun h33j => ((gfR h33j 134 11 3).bind fun v8 => (alR 6 h33j v8 (iN lv)).bind fun v10 => some (v10, h33j)) := ⟨_, rfl⟩
  have st : fX12_listAt 134 (iN lv) h = (if hR h 136 lv = 0 then (bd2 (nwO h 10 5) fun v14 h15 => (ckT h15 v14 10).bind fun _ => (fX11_init v14 h15).bind fun h18 => (asR 6 h18 136 (iN lv) v14).bind fun h20 => K h20) else K h) := by
    unfold fX12_listAt
    rw [am, bd2_s, if_neg (show ¬ ((1 : Int32) = 0) by decide), gWR w, R134_3 w, Option.bind_some, alR_e (j := 6) (T136 w) hl (by decide), Option.bind_some, jn_e, ← hK, Option.bind_some]
  have Kv : ∀ g : hp, WF g → K g = some (hR g 136 lv, g) := fun g wg => by rw [hK]; show ((gfR g 134 11 3).bind fun v8 => (alR 6 g v8 (iN lv)).bind fun v10 => some (v10, g)) = _; rw [gWR wg, R134_3 wg, Option.bind_some, alR_e (j := 6) (T136 wg) hl (by decide), Option.bind_some]
  by_cases z : hR h 136 lv = 0
  · obtain ⟨e1, X1, t1, S1, r1, i1⟩ := slot_n (arr := 136) (k := lv) (o := 400 + lv) H z (.inr ⟨rfl, hl, rfl, hL⟩)
    refine ⟨64 + hN h, _, nOwn own h (400 + lv), ?_, t1, X1, r1.symm, S1⟩
    rw [st, if_pos z, nV_k, e1, Option.bind_some, Kv _ X1.w, r1]
  · rcases H.1.2.1.1.2 lv hl with q | S
    · exact absurd q z
    · exact ⟨_, h, own, by rw [st, if_neg z, Kv h w], TRn.rf own h, H, rfl, S⟩

/-! numbered FILTERS, truth and order, on both sides -/
theorem pad0 {h : hp} {a : Nat} {t m z : Int32} (hz : ¬ z = 3) : ∀ k, fX14_numbered_l76 (k + 1) a t m z h = some h := fun k => by
  simp only [fX14_numbered_l76, hz, if_false]
theorem mNum {h : hp} (w : WF h) {t m q : Nat} {V : vT} (ht : t < 10) (H : MV h t V) (g : gV V) (hm : m < 2147483648) (h1 : 13 ≤ q) (h2 : q < 18) : ∃ h', fX14_numbered 165 (iN t) (iN q) (iN m) h = some (iN (fltS q (iN m) V).1, h') ∧ MV h' t (fltS q (iN m) V).2 ∧ FS (sP t) h h' := by
  obtain ⟨s, x, r, n, f⟩ := V
  have hk : hI h 166 t = iN s := H.1
  have hs4 : s ≤ 4 := H.2.1
  have hsc : s = 0 ∨ s = 1 ∨ s = 2 ∨ s = 3 ∨ s = 4 := by omega
  have hqs : q = 13 ∨ q = 14 ∨ q = 15 ∨ q = 16 ∨ q = 17 := by omega
  unfold fX14_numbered
  rw [MR0 w, Option.bind_some, ML166 w ht, Option.bind_some, hk]
  rcases hqs with rfl | rfl | rfl | rfl | rfl
  · rw [if_pos (show iN 13 = 13 from rfl)]
    rcases hsc with rfl | rfl | rfl | rfl | rfl
    · exact ⟨h, rfl, H, FS.rf _ _⟩
    · exact ⟨h, rfl, H, FS.rf _ _⟩
    · exact ⟨h, rfl, H, FS.rf _ _⟩
    · obtain ⟨hs, hn, -⟩ := H.2.2.2.2 (by show 3 ≤ 3; decide)
      replace hs : hI h 168 t = iN n := hs
      replace hn : n ≤ 16 := hn
      rw [show fltS 13 (iN m) (3, x, r, n, f) = (0, vL 3 (min n (iN m).toNatClampNeg) f) from rfl, i_clamp hm]
      by_cases c : m ≤ n
      · have c1 : iN m ≤ iN n := by rw [i_le hm (by omega)]; exact c
        simp (disch := (first | assumption | (simp only [WF_e1, WF_e2, WF_e3, WF_e4, WF_e5]; assumption) | omega | decide)) only [jn_e, show iN 3 = 3 from rfl, zz01, zz02, zz03, zz04, zz10, zz12, zz13, zz14, zz20, zz21, zz23, zz24, zz30, zz31, zz32, zz34, zz40, zz41, zz42, zz43, if_true, if_false, MR2, ML168, MS168, Option.bind_some, hs, c1]
        exact ⟨_, rfl, by rw [show min n m = m by omega]; exact H.cut (by decide) c, FS.pI (by simp [sP])⟩
      · have c1 : ¬ (iN m ≤ iN n) := by rw [i_le hm (by omega)]; exact c
        simp (disch := (first | assumption | (simp only [WF_e1, WF_e2, WF_e3, WF_e4, WF_e5]; assumption) | omega | decide)) only [jn_e, show iN 3 = 3 from rfl, zz01, zz02, zz03, zz04, zz10, zz12, zz13, zz14, zz20, zz21, zz23, zz24, zz30, zz31, zz32, zz34, zz40, zz41, zz42, zz43, if_true, if_false, MR2, ML168, MS168, Option.bind_some, hs, c1]
        exact ⟨_, rfl, by rw [show min n m = n by omega]; exact H.cut (by decide) (Nat.le_refl _), FS.pI (by simp [sP])⟩
    · obtain ⟨hs, hn, -⟩ := H.2.2.2.2 (by show 3 ≤ 4; decide)
      replace hs : hI h 168 t = iN n := hs
      replace hn : n ≤ 16 := hn
      rw [show fltS 13 (iN m) (4, x, r, n, f) = (0, vL 4 (min n (iN m).toNatClampNeg) f) from rfl, i_clamp hm]
      by_cases c : m ≤ n
      · have c1 : iN m ≤ iN n := by rw [i_le hm (by omega)]; exact c
        simp (disch := (first | assumption | (simp only [WF_e1, WF_e2, WF_e3, WF_e4, WF_e5]; assumption) | omega | decide)) only [jn_e, show iN 4 = 4 from rfl, zz01, zz02, zz03, zz04, zz10, zz12, zz13, zz14, zz20, zz21, zz23, zz24, zz30, zz31, zz32, zz34, zz40, zz41, zz42, zz43, if_true, if_false, MR2, ML168, MS168, Option.bind_some, hs, c1]
        exact ⟨_, rfl, by rw [show min n m = m by omega]; exact H.cut (by decide) c, FS.pI (by simp [sP])⟩
      · have c1 : ¬ (iN m ≤ iN n) := by rw [i_le hm (by omega)]; exact c
        simp (disch := (first | assumption | (simp only [WF_e1, WF_e2, WF_e3, WF_e4, WF_e5]; assumption) | omega | decide)) only [jn_e, show iN 4 = 4 from rfl, zz01, zz02, zz03, zz04, zz10, zz12, zz13, zz14, zz20, zz21, zz23, zz24, zz30, zz31, zz32, zz34, zz40, zz41, zz42, zz43, if_true, if_false, MR2, ML168, MS168, Option.bind_some, hs, c1]
        exact ⟨_, rfl, by rw [show min n m = n by omega]; exact H.cut (by decide) (Nat.le_refl _), FS.pI (by simp [sP])⟩
  · rw [if_neg (by decide), if_pos (show iN 14 = 14 from rfl)]
    rcases hsc with rfl | rfl | rfl | rfl | rfl
    · have e : fX14_numbered_l76 FU 165 (iN t) (iN m) (iN 0) h = some h := pad0 (by decide) 999999
      rw [e]
      exact ⟨h, rfl, H, FS.rf _ _⟩
    · have e : fX14_numbered_l76 FU 165 (iN t) (iN m) (iN 1) h = some h := pad0 (by decide) 999999
      rw [e]
      exact ⟨h, rfl, H, FS.rf _ _⟩
    · have e : fX14_numbered_l76 FU 165 (iN t) (iN m) (iN 2) h = some h := pad0 (by decide) 999999
      rw [e]
      exact ⟨h, rfl, H, FS.rf _ _⟩
    · obtain ⟨hs, hn, hf⟩ := H.2.2.2.2 (by show 3 ≤ 3; decide)
      replace hs : hI h 168 t = iN n := hs
      replace hn : n ≤ 16 := hn
      replace hf : ∀ k, k < n → hI h 169 (16 * t + k) = f k := hf
      have e := mPad_l (h := h) (p := m) w ht hm (min m 16 - n) FU n (hI h 169) hn rfl (by show _ < 1000000; omega)
      have eh : pI (sI h 169 (hI h 169)) 168 t (iN n) = h := by
        refine hp_ext rfl rfl rfl (fun a j => ?_) (fun _ _ => rfl) (fun _ _ => rfl)
        rw [hI_pI, hI_sI]
        by_cases c1 : a = 168 ∧ j = t
        · rw [if_pos c1, c1.1, c1.2, hs]
        · rw [if_neg c1]; by_cases c2 : a = 169 <;> simp [c2]
      rw [eh] at e
      rw [show fX14_numbered_l76 FU 165 (iN t) (iN m) (iN 3) h = _ from e]
      rw [show fltS 14 (iN m) (3, x, r, n, f) = (0, vL 3 (max n (min (iN m).toNatClampNeg 16)) (fun k => if k < n then f k else 32)) from rfl, i_clamp hm]
      refine ⟨_, rfl, ⟨by rw [hI_pI, if_neg (by simp), hI_sI, if_neg (by decide)]; exact hk, by show 3 ≤ 4; decide, fun e => absurd e (by show ¬ 3 = 1; decide), fun e => absurd e (by show ¬ 3 = 2; decide), fun _ => ⟨by rw [hI_pI, if_pos ⟨rfl, rfl⟩]; rfl, by show max n (min m 16) ≤ 16; omega, fun k hk => ?_⟩⟩, FS.tr (fsRow fun j hj => ?_) (FS.pI (by simp [sP]))⟩
      · have hk : k < max n (min m 16) := hk
        rw [hI_pI, if_neg (by simp), hI_sI, if_pos rfl]
        show _ = if k < n then f k else 32
        by_cases c : k < n
        · rw [if_pos c, if_neg (by omega), hf k c]
        · rw [if_neg c, if_pos (by omega)]
      · rw [if_neg (by omega)]
    · have e : fX14_numbered_l76 FU 165 (iN t) (iN m) (iN 4) h = some h := pad0 (by decide) 999999
      rw [e]
      exact ⟨h, rfl, H, FS.rf _ _⟩
  · rw [if_neg (by decide), if_neg (by decide), if_neg (by decide)]
    have zq : ((iN 15 : Int32) = 15) = True := eq_true rfl
    rcases hsc with rfl | rfl | rfl | rfl | rfl
    · exact ⟨h, rfl, H, FS.rf _ _⟩
    · have hx : hI h 167 t = x := H.2.2.1 rfl
      obtain ⟨h1, e1, e2, e3⟩ := mBecomes w ht (x.toInt64 + (iN m).toInt64) H
      simp (disch := (first | assumption | (simp only [WF_e1, WF_e2, WF_e3, WF_e4, WF_e5]; assumption) | omega | decide)) only [jn_e, show iN 1 = 1 from rfl, zz01, zz02, zz03, zz04, zz10, zz12, zz13, zz14, zz20, zz21, zz23, zz24, zz30, zz31, zz32, zz34, zz40, zz41, zz42, zz43, zq, if_true, if_false, MR1, ML167, Option.bind_some, hx, ckM, bd2, e1]
      exact ⟨h1, rfl, e2, e3⟩
    · have hx : hF h 170 t = r := H.2.2.2.1 rfl
      have nn : Jvm.FP.Core.fIsNaN (FP.fadd r (FP.i2f (iN m))) = false := Jvm.FP.Core.fadd_out (gF_fin (g.2.2.1 rfl)).notNaN (Jvm.FP.Core.i2f_fin _)
      simp (disch := (first | assumption | (simp only [WF_e1, WF_e2, WF_e3, WF_e4, WF_e5]; assumption) | omega | decide)) only [jn_e, show iN 2 = 2 from rfl, zz01, zz02, zz03, zz04, zz10, zz12, zz13, zz14, zz20, zz21, zz23, zz24, zz30, zz31, zz32, zz34, zz40, zz41, zz42, zz43, zq, if_true, if_false, MR4, ML170, Option.bind_some, hx, ckM, mReal, fnn_ok nn]
      exact ⟨_, rfl, mvReal _, fsReal _⟩
    · exact ⟨h, rfl, H, FS.rf _ _⟩
    · exact ⟨h, rfl, H, FS.rf _ _⟩
  · rw [if_neg (by decide), if_neg (by decide), if_neg (by decide)]
    have zq : ((iN 16 : Int32) = 15) = False := eq_false (by decide)
    rcases hsc with rfl | rfl | rfl | rfl | rfl
    · exact ⟨h, rfl, H, FS.rf _ _⟩
    · have hx : hI h 167 t = x := H.2.2.1 rfl
      obtain ⟨h1, e1, e2, e3⟩ := mBecomes w ht (x.toInt64 * (iN m).toInt64) H
      simp (disch := (first | assumption | (simp only [WF_e1, WF_e2, WF_e3, WF_e4, WF_e5]; assumption) | omega | decide)) only [jn_e, show iN 1 = 1 from rfl, zz01, zz02, zz03, zz04, zz10, zz12, zz13, zz14, zz20, zz21, zz23, zz24, zz30, zz31, zz32, zz34, zz40, zz41, zz42, zz43, zq, if_true, if_false, MR1, ML167, Option.bind_some, hx, ckM, bd2, e1]
      exact ⟨h1, rfl, e2, e3⟩
    · have hx : hF h 170 t = r := H.2.2.2.1 rfl
      have nn : Jvm.FP.Core.fIsNaN (FP.fmul r (FP.i2f (iN m))) = false := Jvm.FP.Core.fmul_out (gF_fin (g.2.2.1 rfl)) (Jvm.FP.Core.i2f_fin _)
      simp (disch := (first | assumption | (simp only [WF_e1, WF_e2, WF_e3, WF_e4, WF_e5]; assumption) | omega | decide)) only [jn_e, show iN 2 = 2 from rfl, zz01, zz02, zz03, zz04, zz10, zz12, zz13, zz14, zz20, zz21, zz23, zz24, zz30, zz31, zz32, zz34, zz40, zz41, zz42, zz43, zq, if_true, if_false, MR4, ML170, Option.bind_some, hx, ckM, mReal, fnn_ok nn]
      exact ⟨_, rfl, mvReal _, fsReal _⟩
    · exact ⟨h, rfl, H, FS.rf _ _⟩
    · exact ⟨h, rfl, H, FS.rf _ _⟩
  · rw [if_neg (by decide), if_neg (by decide), if_pos (show iN 17 = 17 from rfl)]
    rcases hsc with rfl | rfl | rfl | rfl | rfl
    · simp (disch := (first | assumption | (simp only [WF_e1, WF_e2, WF_e3, WF_e4, WF_e5]; assumption) | omega | decide)) only [show iN 0 = 0 from rfl, if_true, ckM, mInt, Option.bind_some]
      exact ⟨_, rfl, mvInt _, fsInt _⟩
    · exact ⟨h, rfl, H, FS.rf _ _⟩
    · exact ⟨h, rfl, H, FS.rf _ _⟩
    · exact ⟨h, rfl, H, FS.rf _ _⟩
    · exact ⟨h, rfl, H, FS.rf _ _⟩
/-- a FILTER of the reference -/
theorem mFlt {h : hp} (w : WF h) {t m q : Nat} {V : vT} (ht : t < 10) (H : MV h t V) (g : gV V) (hm : m < 2147483648) (hq : q < 18) : ∃ h', fX14_filtered 165 (iN t) (iN q) (iN m) h = some (iN (fltS q (iN m) V).1, h') ∧ MV h' t (fltS q (iN m) V).2 ∧ FS (sP t) h h' := by
  unfold fX14_filtered
  by_cases c : 13 ≤ q
  · have c1 : (13 : Int32) ≤ iN q := by rw [i_lit_le (by decide) (by omega)]; exact c
    obtain ⟨h1, e1, e2, e3⟩ := mNum w ht H g hm c hq
    simp only [c1, if_true, ckM w, Option.bind_some, bd2, e1]
    exact ⟨h1, rfl, e2, e3⟩
  · have c1 : ¬ ((13 : Int32) ≤ iN q) := by rw [i_lit_le (by decide) (by omega)]; exact c
    simp only [c1, if_false, ckM w, Option.bind_some, bd2]
    have key : ∃ h', fX14_plain 165 (iN t) (iN q) h = some (iN (fltS q (iN m) V).1, h') ∧ MV h' t (fltS q (iN m) V).2 ∧ FS (sP t) h h' := by
      obtain ⟨s, x, r, n, f⟩ := V
      have hs4 : s ≤ 4 := H.2.1
      have hsc : s = 0 ∨ s = 1 ∨ s = 2 ∨ s = 3 ∨ s = 4 := by omega
      rcases hsc with rfl | rfl | rfl | rfl | rfl
      · exact mFP0 w ht H (by omega)
      · exact mFP1 w ht H (by omega)
      · exact mFP2 w ht H (g.2.2.1 rfl) (by omega)
      · exact mFP3 w ht H (by omega)
      · exact mFP4 w ht H (by omega)
    obtain ⟨h1, e1, e2, e3⟩ := key
    rw [e1]
    exact ⟨h1, rfl, e2, e3⟩
theorem cnt_good {x : Int64} {V : vT} (g : gV V) : gV (cnt x V).2 := by
  unfold cnt
  by_cases c : inL x = true
  · rw [if_pos c]
    have c' : -1000000 ≤ x.toInt ∧ x.toInt ≤ 1000000 := of_decide_eq_true c
    refine gvI ?_
    unfold inI
    rw [Jvm.Kit.i32_of_i64 (by omega) (by omega)]
    exact c'
  · rw [if_neg c]; exact g
theorem inI_of {n : Nat} (h : n ≤ 1000000) : inI (iN n) := by
  unfold inI; rw [i_toInt (by omega)]; omega
theorem fg_in (f : Nat → Int32) : ∀ (d k : Nat) (acc : Int32), 0 ≤ acc.toInt → acc.toInt + d ≤ 1000000 → 0 ≤ (fgF f d k acc).toInt ∧ (fgF f d k acc).toInt ≤ acc.toInt + d := by
  intro d
  induction d with
  | zero => intro k acc h1 h2; simp only [fgF]; omega
  | succ d ih =>
    intro k acc h1 h2
    simp only [fgF]
    by_cases c : 48 ≤ f k ∧ f k ≤ 57
    · rw [if_pos c]
      have e1 : (acc + 1).toInt = acc.toInt + 1 := Jvm.Kit.i32_add (by rw [show (1 : Int32).toInt = 1 by decide]; omega) (by rw [show (1 : Int32).toInt = 1 by decide]; omega)
      have := ih (k + 1) (acc + 1) (by omega) (by omega)
      omega
    · rw [if_neg c]
      have := ih (k + 1) acc (by omega) (by omega)
      omega
theorem so_mem (P : Int32 → Prop) (n : Nat) : ∀ (d a : Nat) (p : Nat → Int32), a + d ≤ max n 1 → (∀ k, k < n → P (p k)) → ∀ k, k < n → P (soF d a p k) := by
  have sh : ∀ (v : Int32), P v → ∀ (j : Nat) (p : Nat → Int32), j < n → (∀ k, k < n → P (p k)) → ∀ k, k < n → P (shF v j p k) := by
    intro v hv j
    induction j with
    | zero => intro p _ h k hk; simp only [shF]; by_cases c : k = 0 <;> simp [c, h k hk, hv]
    | succ j ih =>
      intro p hj h k hk
      simp only [shF]
      by_cases c : p j ≤ v
      · simp only [c, if_true]; by_cases ck : k = j + 1 <;> simp [ck, h k hk, hv]
      · simp only [c, if_false]
        exact ih _ (by omega) (fun i hi => by by_cases ci : i = j + 1 <;> simp [ci, h i hi, h j (by omega)]) k hk
  intro d
  induction d with
  | zero => intro a p _ h k hk; exact h k hk
  | succ d ih =>
    intro a p ha h k hk
    simp only [soF]
    exact ih (a + 1) _ (by omega) (sh _ (h a (by omega)) a p (by omega) h) k hk
theorem gvT {n : Nat} {f : Nat → Int32} (hn : n ≤ 16) (hf : ∀ k, k < n → 1 ≤ (f k).toInt ∧ (f k).toInt ≤ 127) : gV (vL 3 n f) :=
  ⟨by show 3 ≤ 4; decide, fun e => absurd e (by show ¬ 3 = 1; decide), fun e => absurd e (by show ¬ 3 = 2; decide), fun _ => ⟨hn, hf⟩, fun e => absurd e (by show ¬ 3 = 4; decide)⟩
theorem gvL {n : Nat} {f : Nat → Int32} (hn : n ≤ 6) (hf : ∀ k, k < n → inI (f k)) : gV (vL 4 n f) :=
  ⟨by show 4 ≤ 4; decide, fun e => absurd e (by show ¬ 4 = 1; decide), fun e => absurd e (by show ¬ 4 = 2; decide), fun e => absurd e (by show ¬ 4 = 3; decide), fun _ => ⟨hn, hf⟩⟩
theorem up_in {c : Int32} (h : 1 ≤ c.toInt ∧ c.toInt ≤ 127) : 1 ≤ (upF c).toInt ∧ (upF c).toInt ≤ 127 := by
  unfold upF
  split
  · rename_i q
    have q1 := Int32.le_iff_toInt_le.mp q.1
    rw [show (97 : Int32).toInt = 97 by decide] at q1
    have e : (c + (-32)).toInt = c.toInt + (-32) := Jvm.Kit.i32_add (by rw [show (-32 : Int32).toInt = -32 by decide]; omega) (by rw [show (-32 : Int32).toInt = -32 by decide]; omega)
    rw [e]; omega
  · exact h
theorem lo_in {c : Int32} (h : 1 ≤ c.toInt ∧ c.toInt ≤ 127) : 1 ≤ (loF c).toInt ∧ (loF c).toInt ≤ 127 := by
  unfold loF
  split
  · rename_i q
    have q1 := Int32.le_iff_toInt_le.mp q.2
    rw [show (90 : Int32).toInt = 90 by decide] at q1
    have e : (c + 32).toInt = c.toInt + 32 := Jvm.Kit.i32_add (by rw [show (32 : Int32).toInt = 32 by decide]; omega) (by rw [show (32 : Int32).toInt = 32 by decide]; omega)
    rw [e]; omega
  · exact h
theorem pad_in {n : Nat} {f : Nat → Int32} (gb : ∀ k, k < n → 1 ≤ (f k).toInt ∧ (f k).toInt ≤ 127) (k : Nat) : 1 ≤ (if k < n then f k else 32).toInt ∧ (if k < n then f k else 32).toInt ≤ 127 := by
  split
  · rename_i c; exact gb k c
  · decide
theorem ends_good {n : Nat} {f : Nat → Int32} (gb : ∀ k, k < n → inI (f k)) (i : Nat) (hi : n ≠ 0 → i < n) : gV (if n = 0 then vN else vI (f i)) := by
  split
  · exact gvN
  · rename_i c; exact gvI (gb i (hi c))
/-- a FILTER keeps what is promised of a value -/
theorem flt_good {q m : Nat} {V : vT} (g : gV V) (hm : m ≤ 1000000) (hq : q < 18) : gV (fltS q (iN m) V).2 := by
  obtain ⟨s, x, r, n, f⟩ := V
  have hs4 : s ≤ 4 := g.1
  have hsc : s = 0 ∨ s = 1 ∨ s = 2 ∨ s = 3 ∨ s = 4 := by omega
  have hqs : q = 0 ∨ q = 1 ∨ q = 2 ∨ q = 3 ∨ q = 4 ∨ q = 5 ∨ q = 6 ∨ q = 7 ∨ q = 8 ∨ q = 9 ∨ q = 10 ∨ q = 11 ∨ q = 12 ∨ q = 13 ∨ q = 14 ∨ q = 15 ∨ q = 16 ∨ q = 17 := by omega
  rcases hsc with rfl | rfl | rfl | rfl | rfl
  · rcases hqs with rfl | rfl | rfl | rfl | rfl | rfl | rfl | rfl | rfl | rfl | rfl | rfl | rfl | rfl | rfl | rfl | rfl | rfl
    · exact g
    · exact g
    · exact g
    · exact g
    · exact g
    · exact g
    · exact g
    · exact g
    · exact g
    · exact g
    · exact g
    · exact g
    · exact g
    · exact g
    · exact g
    · exact g
    · exact g
    · exact gvI (inI_of hm)
  · have gx : inI x := g.2.1 rfl
    rcases hqs with rfl | rfl | rfl | rfl | rfl | rfl | rfl | rfl | rfl | rfl | rfl | rfl | rfl | rfl | rfl | rfl | rfl | rfl
    · exact g
    · exact g
    · exact g
    · exact g
    · exact gvI (inI_div (.inl (by decide)) (.inr gx))
    · exact gvR (limF_good (Jvm.FP.Core.fdiv_out ((Jvm.FP.Core.i2f_fin x).notNaN) (by rw [Jvm.FP.Core.fin_bits32]; decide) (by rw [Jvm.FP.Core.zero_bits232]; decide)))
    · exact g
    · exact gvR (limF_good (Jvm.FP.Core.i2f_fin x).notNaN)
    · exact gvI (inI_div (k := 4096) (.inr (by decide)) (.inl (by decide)))
    · exact g
    · exact g
    · exact g
    · exact g
    · exact g
    · exact g
    · exact cnt_good g
    · exact cnt_good g
    · exact g
  · have gr : gF r := g.2.2.1 rfl
    have gf := gF_fin gr
    rcases hqs with rfl | rfl | rfl | rfl | rfl | rfl | rfl | rfl | rfl | rfl | rfl | rfl | rfl | rfl | rfl | rfl | rfl | rfl
    · exact g
    · exact g
    · exact g
    · exact g
    · exact gvR (limF_good (Jvm.FP.Core.fmul_out gf (by rw [Jvm.FP.Core.fin_bits32]; decide)))
    · exact gvR (limF_good (Jvm.FP.Core.fdiv_out (gf.notNaN) (by rw [Jvm.FP.Core.fin_bits32]; decide) (by rw [Jvm.FP.Core.zero_bits232]; decide)))
    · exact gvI (f2i_in gr).1
    · exact g
    · exact gvI (inI_div (k := 4096) (.inr (by decide)) (.inl (by decide)))
    · exact g
    · exact g
    · exact g
    · exact g
    · exact g
    · exact g
    · exact gvR (limF_good (Jvm.FP.Core.fadd_out gf.notNaN (Jvm.FP.Core.i2f_fin _)))
    · exact gvR (limF_good (Jvm.FP.Core.fmul_out gf (Jvm.FP.Core.i2f_fin _)))
    · exact g
  · have gn : n ≤ 16 := (g.2.2.2.1 rfl).1
    have gb : ∀ k, k < n → 1 ≤ (f k).toInt ∧ (f k).toInt ≤ 127 := (g.2.2.2.1 rfl).2
    rcases hqs with rfl | rfl | rfl | rfl | rfl | rfl | rfl | rfl | rfl | rfl | rfl | rfl | rfl | rfl | rfl | rfl | rfl | rfl
    · exact gvT (n := n) (f := fun k => upF (f k)) gn fun k hk => up_in (gb k hk)
    · exact gvT (n := n) (f := fun k => loF (f k)) gn fun k hk => lo_in (gb k hk)
    · exact gvT (n := n) (f := fun k => f (n - 1 - k)) gn fun k hk => gb _ (by omega)
    · exact gvI (x := iN n) (inI_of (by omega))
    · exact g
    · exact g
    · have e6 := fg_in f n 0 0 (by decide) (by rw [show (0 : Int32).toInt = 0 by decide]; omega)
      rw [show (0 : Int32).toInt = 0 by decide] at e6
      exact gvI (x := fgF f n 0 0) ⟨by omega, by omega⟩
    · exact g
    · exact g
    · exact gvT (n := min n 1) (f := f) (by omega) fun k hk => gb k (by omega)
    · exact gvT (n := min n 1) (f := fun _ => f (n - 1)) (by omega) fun k hk => gb (n - 1) (by omega)
    · exact g
    · exact g
    · exact gvT (n := min n (iN m).toNatClampNeg) (f := f) (by omega) fun k hk => gb k (by omega)
    · exact gvT (n := max n (min (iN m).toNatClampNeg 16)) (f := fun k => if k < n then f k else 32) (by omega) fun k hk => pad_in gb k
    · exact g
    · exact g
    · exact g
  · have gn : n ≤ 6 := (g.2.2.2.2 rfl).1
    have gb : ∀ k, k < n → inI (f k) := (g.2.2.2.2 rfl).2
    rcases hqs with rfl | rfl | rfl | rfl | rfl | rfl | rfl | rfl | rfl | rfl | rfl | rfl | rfl | rfl | rfl | rfl | rfl | rfl
    · exact g
    · exact g
    · exact gvL (n := n) (f := fun k => f (n - 1 - k)) gn fun k hk => gb _ (by omega)
    · exact gvI (x := iN n) (inI_of (by omega))
    · exact g
    · exact g
    · exact g
    · exact g
    · exact g
    · exact ends_good gb 0 (by omega)
    · exact ends_good gb (n - 1) (by omega)
    · exact cnt_good g
    · exact gvL (n := n) (f := soF (n - 1) 1 f) gn fun k hk => so_mem inI n _ _ f (by omega) gb k hk
    · exact gvL (n := min n (iN m).toNatClampNeg) (f := f) (by omega) fun k hk => gb k (by omega)
    · exact g
    · exact g
    · exact g
    · exact g

/-! the calls of variables -/
theorem vIn {k : Nat} (hk : k < 8) : 0 ≤ (iN k).toInt ∧ (iN k).toInt < 8 := by rw [i_toInt (by omega)]; omega
theorem z10 : ¬ ((1 : Int32) = 0) := by decide
theorem ne0 (k : Nat) : ¬ (70 + 2 * k = 0) := by omega
/-- both calls begin with the variable -/
theorem call_none {h : hp} (w : WF h) (J : Jv h) (v : Int32) : C2 (fX13_none 64 v) (fX14_none 165 v) h Pv Jv := by
  have J0 := J
  obtain ⟨vs, H⟩ := J
  rcases cVar w v with ⟨k, hk, rfl, ev⟩ | ⟨c, ev⟩
  · obtain ⟨C, M, g⟩ := H k hk
    obtain ⟨h1, e1, C1, F1⟩ := cNothing C.1
    have w1 := F1.wf w
    have M1 : hI h1 166 k = iN (vs k).1 := by rw [(F1.2.2.2.2 166 (by simp; omega)).1]; exact M.1
    refine ⟨iN (vs k).1, h1, pI h1 166 k 0, ?_, ?_, ?_, ?_⟩
    · unfold fX13_none
      rw [gR64 w, Option.bind_some, R64_0 w, ck65 w, Option.bind_some, ev, bd2_s, if_neg (ne0 k), gIV C.1, Option.bind_some, ckV C.1, Option.bind_some, e1, Option.bind_some, C.2.1]
    · unfold fX14_none
      simp (disch := (first | assumption | (simp only [WF_e1, WF_e2, WF_e3, WF_e4, WF_e5]; assumption) | omega | decide)) only [mIsV, bd2_s, vIn hk, and_self, if_true, z10, if_false, MR0, Option.bind_some, ML166, MS166, M1]
    · refine (F1.fs.up fun x j q => ?_).tr (FS.pI (.inr (.inl ⟨.inl rfl, hk⟩)))
      simp at q; subst q; exact .inl (by omega)
    · refine Jv.set w hk vs H ((F1.fs.up fun x j q => ?_).tr (FS.pI (.inr (.inr (.inl (by simp [sP])))))) (V := vN) ?_ ?_ gvN
      · simp at q; exact .inl q
      · exact C1.fr (FI.pI h1 166 k 0) (by simp; omega) (by simp; omega)
      · exact ⟨by rw [hI_pI, if_pos ⟨rfl, rfl⟩]; rfl, by show 0 ≤ 4; decide, fun e => absurd e (by show ¬ 0 = 1; decide), fun e => absurd e (by show ¬ 0 = 2; decide), fun e => absurd e (by show ¬ 3 ≤ 0; decide)⟩
  · refine ⟨-1, h, h, ?_, ?_, FS.rf _ _, J0⟩
    · unfold fX13_none
      rw [gR64 w, Option.bind_some, R64_0 w, ck65 w, Option.bind_some, ev, bd2_s, if_pos rfl]
    · unfold fX14_none
      rw [mIsV, bd2_s, if_neg c, if_pos rfl]
theorem call_number {h : hp} (w : WF h) (J : Jv h) (v n : Int32) : C2 (fX13_number 64 v n) (fX14_number 165 v n) h Pv Jv := by
  have J0 := J
  obtain ⟨vs, H⟩ := J
  rcases cVar w v with ⟨k, hk, rfl, ev⟩ | ⟨c, ev⟩
  · obtain ⟨C, M, g⟩ := H k hk
    by_cases cn : inL n.toInt64 = true
    · have hn : inI n := by have := of_decide_eq_true cn; rw [Int32.toInt_toInt64] at this; exact this
      obtain ⟨h1, e1, C1, F1⟩ := cInt n C.1
      have w1 := F1.wf w
      have M1 : hI h1 166 k = iN (vs k).1 := by rw [(F1.2.2.2.2 166 (by simp; omega)).1]; exact M.1
      have q1 : -1000000 ≤ n.toInt ∧ n.toInt ≤ 1000000 := hn
      refine ⟨iN (vs k).1, h1, pI (pI h1 166 k 1) 167 k n, ?_, ?_, ?_, ?_⟩
      · simp only [fX13_number, gR64 w, R64_0 w, ck65 w, Option.bind_some, ev, bd2_s, ne0 k, if_false, if_true, isInt_e, cn, z10, gIV C.1, ckV C.1, e1, C.2.1]
      · simp (disch := (first | assumption | (simp only [WF_e1, WF_e2, WF_e3, WF_e4, WF_e5]; assumption) | omega | decide)) only [fX14_number, mIsV, bd2_s, vIn hk, and_self, if_true, z10, if_false, Option.bind_some, isIn_e, Int32.toInt_toInt64, show (-1000000 : Int64).toInt = -1000000 by decide, show (1000000 : Int64).toInt = 1000000 by decide, q1, MR0, ML166, ckM, mInt, M1]
      · refine (F1.fs.up fun x j q => ?_).tr ((fsInt (h := h1) n).up fun x j q => sP_Pv hk q)
        simp at q; subst q; exact .inl (by omega)
      · refine Jv.set w hk vs H ((F1.fs.up fun x j q => ?_).tr ((fsInt (h := h1) n).up fun x j q => .inr (.inr (.inl q)))) (V := vI n) ?_ ?_ (gvI hn)
        · simp at q; exact .inl q
        · exact C1.fg (fsInt (h := h1) n).fg (by have := w1.2.2; omega) (by have := w1.2.2; omega) (fun j q => by unfold sP at q; omega) (fun j q => by unfold sP at q; omega)
        · exact mvInt n
    · have q1 : ¬ (-1000000 ≤ n.toInt ∧ n.toInt ≤ 1000000) := fun q => cn (decide_eq_true (by rw [Int32.toInt_toInt64]; exact q))
      refine ⟨-2, h, h, ?_, ?_, FS.rf _ _, J0⟩
      · simp only [fX13_number, gR64 w, R64_0 w, ck65 w, Option.bind_some, ev, bd2_s, ne0 k, if_false, if_true, isInt_e, cn]
        rfl
      · simp (disch := (first | assumption | (simp only [WF_e1, WF_e2, WF_e3, WF_e4, WF_e5]; assumption) | omega | decide)) only [fX14_number, mIsV, bd2_s, vIn hk, and_self, if_true, z10, if_false, Option.bind_some, isIn_e, Int32.toInt_toInt64, show (-1000000 : Int64).toInt = -1000000 by decide, show (1000000 : Int64).toInt = 1000000 by decide, q1]
  · refine ⟨-1, h, h, ?_, ?_, FS.rf _ _, J0⟩
    · unfold fX13_number
      rw [gR64 w, Option.bind_some, R64_0 w, ck65 w, Option.bind_some, ev, bd2_s, if_pos rfl]
    · unfold fX14_number
      rw [mIsV, bd2_s, if_neg c, if_pos rfl]
theorem call_real {h : hp} (w : WF h) (J : Jv h) (v n d : Int32) : C2 (fX13_real 64 v n d) (fX14_real 165 v n d) h Pv Jv := by
  have J0 := J
  obtain ⟨vs, H⟩ := J
  rcases cVar w v with ⟨k, hk, rfl, ev⟩ | ⟨c, ev⟩
  · obtain ⟨C, M, g⟩ := H k hk
    by_cases cd : d = 0
    · refine ⟨-2, h, h, ?_, ?_, FS.rf _ _, J0⟩
      · simp only [fX13_real, gR64 w, R64_0 w, ck65 w, Option.bind_some, ev, bd2_s, ne0 k, if_false, if_true, cd]
      · simp (disch := (first | assumption | (simp only [WF_e1, WF_e2, WF_e3, WF_e4, WF_e5]; assumption) | omega | decide)) only [fX14_real, mIsV, bd2_s, vIn hk, and_self, if_true, z10, if_false, Option.bind_some, cd]
    · have nn : Jvm.FP.Core.fIsNaN (FP.fdiv (FP.i2f n) (FP.i2f d)) = false := Jvm.FP.Core.fdiv_out (Jvm.FP.Core.i2f_fin n).notNaN (Jvm.FP.Core.i2f_fin d) (by rw [Jvm.FP.Core.zero_bits232]; exact Jvm.FP.Core.i2f_ne_zero cd)
      obtain ⟨h1, e1, C1, F1⟩ := cReal (FP.fdiv (FP.i2f n) (FP.i2f d)) C.1
      have w1 := F1.wf w
      have M1 : hI h1 166 k = iN (vs k).1 := by rw [(F1.2.2.2.2 166 (by simp; omega)).1]; exact M.1
      refine ⟨iN (vs k).1, h1, pF (pI h1 166 k 2) 170 k (limF (FP.fdiv (FP.i2f n) (FP.i2f d))), ?_, ?_, ?_, ?_⟩
      · simp only [fX13_real, gR64 w, R64_0 w, ck65 w, Option.bind_some, ev, bd2_s, ne0 k, if_false, if_true, cd, fnn_ok nn, gIV C.1, ckV C.1, e1, C.2.1]
      · simp (disch := (first | assumption | (simp only [WF_e1, WF_e2, WF_e3, WF_e4, WF_e5]; assumption) | omega | decide)) only [fX14_real, mIsV, bd2_s, vIn hk, and_self, if_true, z10, if_false, Option.bind_some, cd, fnn_ok nn, MR0, ML166, ckM, mReal, M1]
      · refine (F1.fs.up fun x j q => ?_).tr ((fsReal (h := h1) _).up fun x j q => sP_Pv hk q)
        simp at q; subst q; exact .inl (by omega)
      · refine Jv.set w hk vs H ((F1.fs.up fun x j q => ?_).tr ((fsReal (h := h1) _).up fun x j q => .inr (.inr (.inl q)))) (V := vR (limF (FP.fdiv (FP.i2f n) (FP.i2f d)))) ?_ ?_ (gvR (limF_good nn))
        · simp at q; exact .inl q
        · exact C1.fg (fsReal (h := h1) (limF (FP.fdiv (FP.i2f n) (FP.i2f d)))).fg (by have := w1.2.2; omega) (by have := w1.2.2; omega) (fun j q => by unfold sP at q; omega) (fun j q => by unfold sP at q; omega)
        · exact mvReal _
  · refine ⟨-1, h, h, ?_, ?_, FS.rf _ _, J0⟩
    · unfold fX13_real
      rw [gR64 w, Option.bind_some, R64_0 w, ck65 w, Option.bind_some, ev, bd2_s, if_pos rfl]
    · unfold fX14_real
      rw [mIsV, bd2_s, if_neg c, if_pos rfl]
theorem mList_l {h : hp} (w : WF h) {t n : Nat} (x3 : Int32) (ht : t < 10) (hn : n ≤ 16) : ∀ (d k m : Nat) (g : Nat → Int32), k + d = n → d < m → fX14_list_l48 m 165 (iN t) (iN n) x3 (iN k) (sI h 169 g) = some (sI h 169 (fun j => if 16 * t + k ≤ j ∧ j < 16 * t + n then 0 else g j)) := by
  intro d
  induction d with
  | zero =>
    intro k m g hk hm
    obtain ⟨m, rfl⟩ : ∃ q, m = q + 1 := ⟨m - 1, by omega⟩
    have e : iN n ≤ iN k := by rw [i_le (by omega) (by omega)]; omega
    simp only [fX14_list_l48, e, if_true]
    exact congrArg some (sI_congr h 169 fun j => by rw [if_neg (by omega)])
  | succ d ih =>
    intro k m g hk hm
    obtain ⟨m, rfl⟩ : ∃ q, m = q + 1 := ⟨m - 1, by omega⟩
    have e : ¬ (iN n ≤ iN k) := by rw [i_le (by omega) (by omega)]; omega
    simp (disch := (first | assumption | (simp only [WF_e1, WF_e2, WF_e3, WF_e4, WF_e5]; assumption) | omega | decide)) only [fX14_list_l48, e, if_false, MR3, MS169, Option.bind_some, i_mullit, i_add, i_succ, pI_sI]
    rw [ih (k + 1) m _ (by omega) (by omega)]
    refine congrArg some (sI_congr h 169 fun j => ?_)
    by_cases c : 16 * t + (k + 1) ≤ j ∧ j < 16 * t + n
    · have c3 : 16 * t + k ≤ j ∧ j < 16 * t + n := by omega
      rw [if_pos c, if_pos c3]
    · rw [if_neg c]
      by_cases c2 : j = 16 * t + k
      · subst c2
        have c3 : 16 * t + k ≤ 16 * t + k ∧ 16 * t + k < 16 * t + n := by omega
        rw [if_pos rfl, if_pos c3]
      · have c3 : ¬ (16 * t + k ≤ j ∧ j < 16 * t + n) := by omega
        rw [if_neg c2, if_neg c3]
theorem cList {h : hp} {a b n : Nat} (H : VO h a b) (hn : n ≤ 16) : ∃ h', fX11_becomeList a (iN n) h = some h' ∧ CV h' a b (vL 4 n (fun _ => 0)) ∧ FI [a, b] h h' := by
  obtain ⟨t1, t2, r1, ne⟩ := id H
  have hs : hI (pI (pI h a 0 4) a 3 (iN n)) a 3 = iN n := by rw [hI_pI, if_pos ⟨rfl, rfl⟩]
  have e := cZero_l (h := pI (pI h a 0 4) a 3 (iN n)) H hs hn n 0 FU (hI (pI (pI h a 0 4) a 3 (iN n)) b) (by omega) (by show n < 1000000; omega)
  rw [sI_self] at e
  refine ⟨sI (pI (pI h a 0 4) a 3 (iN n)) b (fun j => if 0 ≤ j ∧ j < n then 0 else hI (pI (pI h a 0 4) a 3 (iN n)) b j), ?_, (CV.row (s := 4) (h := pI (pI h a 0 4) a 3 (iN n)) H (by rw [hI_pI, if_neg (by simp), hI_pI, if_pos ⟨rfl, rfl⟩]; rfl) hs (by decide) (by decide) hn).ext fun k hk => ?_, FI.tr (FI.tr' (FI.pI h a 0 4) (FI.pI _ a 3 _)) (FI.sI _ b _) (by simp) (by simp)⟩
  · have v := vResize (h := pI h a 0 4) (a := a) (b := b) (m := n) H (by omega)
    rw [show min n 16 = n by omega] at v
    simp only [fX11_becomeList, pfI, ckT, t1, hT_pI, if_true, Option.bind_some, v]
    rw [show fX11_becomeList_l12 FU a 0 _ = _ from e]
    rfl
  · rw [if_pos (by omega)]
theorem call_list {h : hp} (w : WF h) (J : Jv h) (v n : Int32) : C2 (fX13_list 64 v n) (fX14_list 165 v n) h Pv Jv := by
  have J0 := J
  obtain ⟨vs, H⟩ := J
  rcases cVar w v with ⟨k, hk, rfl, ev⟩ | ⟨c, ev⟩
  · obtain ⟨C, M, g⟩ := H k hk
    by_cases cn : 0 ≤ n.toInt ∧ n.toInt ≤ 6
    · obtain ⟨m, hm, rfl⟩ := i_of2 (v := n) (n := 7) (by omega)
      obtain ⟨h1, e1, C1, F1⟩ := cList (n := m) C.1 (by omega)
      have w1 := F1.wf w
      have M1 : hI h1 166 k = iN (vs k).1 := by rw [(F1.2.2.2.2 166 (by simp; omega)).1]; exact M.1
      have n1 : ¬ (iN m < 0) := by rw [i_lt_lit (by decide) (by omega)]; omega
      have n2 : iN m ≤ 6 := by rw [i_le_lit (by decide) (by omega)]; omega
      have q1 : 0 ≤ (iN m).toInt ∧ (iN m).toInt ≤ 6 := cn
      have e2 := mList_l (h := pI (pI h1 166 k 4) 168 k (iN m)) w1 (iN (vs k).1) (show k < 10 by omega) (show m ≤ 16 by omega) m 0 FU (hI (pI (pI h1 166 k 4) 168 k (iN m)) 169) (by omega) (by show m < 1000000; omega)
      rw [sI_self] at e2
      have F2 : FS (sP k) h1 (sI (pI (pI h1 166 k 4) 168 k (iN m)) 169 (fun j => if 16 * k + 0 ≤ j ∧ j < 16 * k + m then 0 else hI (pI (pI h1 166 k 4) 168 k (iN m)) 169 j)) := FS.tr (FS.tr (FS.pI (by simp [sP])) (FS.pI (by simp [sP]))) (fsRow fun j hj => by rw [if_neg (by omega)])
      refine ⟨iN (vs k).1, h1, sI (pI (pI h1 166 k 4) 168 k (iN m)) 169 (fun j => if 16 * k + 0 ≤ j ∧ j < 16 * k + m then 0 else hI (pI (pI h1 166 k 4) 168 k (iN m)) 169 j), ?_, ?_, ?_, ?_⟩
      · simp only [fX13_list, gR64 w, R64_0 w, ck65 w, Option.bind_some, ev, bd2_s, ne0 k, if_false, if_true, n1, n2, gIV C.1, ckV C.1, e1, C.2.1]
      · simp (disch := (first | assumption | (simp only [WF_e1, WF_e2, WF_e3, WF_e4, WF_e5]; assumption) | omega | decide)) only [fX14_list, mIsV, bd2_s, vIn hk, and_self, if_true, z10, if_false, Option.bind_some, isIn_e, Int32.toInt_toInt64, show (0 : Int64).toInt = 0 by decide, show (6 : Int64).toInt = 6 by decide, q1, MR0, MR2, ML166, MS166, MS168, M1]
        rw [show fX14_list_l48 FU 165 (iN k) (iN m) (iN (vs k).1) 0 _ = _ from e2]
        rfl
      · refine (F1.fs.up fun x j q => ?_).tr (F2.up fun x j q => sP_Pv hk q)
        simp at q; exact .inl (by omega)
      · refine Jv.set w hk vs H ((F1.fs.up fun x j q => ?_).tr (F2.up fun x j q => .inr (.inr (.inl q)))) (V := vL 4 m (fun _ => 0)) ?_ ?_ (gvL (by omega) fun _ _ => by unfold inI; decide)
        · simp at q; rcases q with q | q
          · exact .inl q
          · exact .inr (.inl q)
        · exact C1.fg F2.fg (by have := w1.2.2; omega) (by have := w1.2.2; omega) (fun j q => by unfold sP at q; omega) (fun j q => by unfold sP at q; omega)
        · exact MV.row (s := 4) (n := m) (by rw [hI_pI, if_neg (by simp), hI_pI, if_pos ⟨rfl, rfl⟩]; rfl) (by rw [hI_pI, if_pos ⟨rfl, rfl⟩]) (by decide) (by decide) (by omega) fun j hj => by rw [if_pos (by omega)]
    · refine ⟨-2, h, h, ?_, ?_, FS.rf _ _, J0⟩
      · by_cases n1 : n < 0
        · simp only [fX13_list, gR64 w, R64_0 w, ck65 w, Option.bind_some, ev, bd2_s, ne0 k, if_false, if_true, n1]
        · have n2 : ¬ n ≤ 6 := fun q => cn ⟨by rw [Int32.lt_iff_toInt_lt, show (0 : Int32).toInt = 0 by decide] at n1; omega, by rw [Int32.le_iff_toInt_le, show (6 : Int32).toInt = 6 by decide] at q; exact q⟩
          simp only [fX13_list, gR64 w, R64_0 w, ck65 w, Option.bind_some, ev, bd2_s, ne0 k, if_false, if_true, n1, n2]
      · simp (disch := (first | assumption | (simp only [WF_e1, WF_e2, WF_e3, WF_e4, WF_e5]; assumption) | omega | decide)) only [fX14_list, mIsV, bd2_s, vIn hk, and_self, if_true, z10, if_false, Option.bind_some, isIn_e, Int32.toInt_toInt64, show (0 : Int64).toInt = 0 by decide, show (6 : Int64).toInt = 6 by decide, cn]
  · refine ⟨-1, h, h, ?_, ?_, FS.rf _ _, J0⟩
    · unfold fX13_list
      rw [gR64 w, Option.bind_some, R64_0 w, ck65 w, Option.bind_some, ev, bd2_s, if_pos rfl]
    · unfold fX14_list
      rw [mIsV, bd2_s, if_neg c, if_pos rfl]

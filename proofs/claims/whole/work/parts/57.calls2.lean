/-! text, item, of, shown -/
theorem cText_l {h : hp} {a b x1 b1 cap n : Nat} {f : Nat → Int32} (H : VO h a b) (N : NO h x1 b1 cap) (hx : hI h x1 1 = iN n) (hnc : n ≤ cap) (hf : ∀ k, k < n → hI h b1 k = f k) (hs : hI h a 3 = iN n) (hn : n ≤ 16) (ne1 : b ≠ x1) (ne2 : b ≠ b1) : ∀ (d k m : Nat) (g : Nat → Int32), k + d = n → d < m → fX11_becomeText_l26 m a x1 (iN k) (sI h b g) = some (sI h b (fun j => if k ≤ j ∧ j < n then f j else g j)) := by
  obtain ⟨t1, t2, r1, ne⟩ := id H
  intro d
  induction d with
  | zero =>
    intro k m g hk hm
    obtain ⟨m, rfl⟩ : ∃ q, m = q + 1 := ⟨m - 1, by omega⟩
    have e : iN n ≤ iN k := by rw [i_le (by omega) (by omega)]; omega
    have e2 : hI (sI h b g) a 3 = iN n := by rw [hI_sI, if_neg ne]; exact hs
    simp only [fX11_becomeText_l26, gfI, hT_sI, t1, e2, e, if_true, Option.bind_some]
    exact congrArg some (sI_congr h b fun j => by rw [if_neg (by omega)])
  | succ d ih =>
    intro k m g hk hm
    obtain ⟨m, rfl⟩ : ∃ q, m = q + 1 := ⟨m - 1, by omega⟩
    have e : ¬ (iN n ≤ iN k) := by rw [i_le (by omega) (by omega)]; omega
    have H2 : VO (sI h b g) a b := H
    have N2 : NO (sI h b g) x1 b1 cap := N
    have e2 : hI (sI h b g) a 3 = iN n := by rw [hI_sI, if_neg ne]; exact hs
    have e3 : hI (sI h b g) x1 1 = iN n := by rw [hI_sI, if_neg (fun q => ne1 q.symm)]; exact hx
    have e4 : hI (sI h b g) b1 k = f k := by rw [hI_sI, if_neg (fun q => ne2 q.symm)]; exact hf k (by omega)
    have at1 : fX5_at x1 (iN k) (sI h b g) = some (f k, sI h b g) := by rw [nAtK N2 e3 hnc (by omega), e4]
    have pt1 : ∀ v, fX11_put a (iN k) v (sI h b g) = some (sI h b (fun j => if j = k then v else g j)) := fun v => by rw [vPut H2 e2 hn (by omega), pI_sI]
    simp only [fX11_becomeText_l26, gfI, ckT, hT_sI, t1, N.1, e2, e, if_true, if_false, Option.bind_some, bd2_s, at1, pt1, i_succ]
    rw [ih (k + 1) m _ (by omega) (by omega)]
    refine congrArg some (sI_congr h b fun j => ?_)
    by_cases ej : j = k
    · subst ej
      have c3 : j ≤ j ∧ j < n := by omega
      rw [if_neg (by omega), if_pos rfl, if_pos c3]
    · by_cases c3 : k ≤ j ∧ j < n
      · rw [if_pos c3, if_pos (by omega)]
      · rw [if_neg c3, if_neg (by omega), if_neg ej]
theorem cText {h : hp} {a b x1 b1 cap : Nat} {L : List Int32} (H : VO h a b) (N : NL h x1 b1 cap L) (hn : L.length ≤ 16) (q1 : a ≠ x1) (q2 : a ≠ b1) (ne1 : b ≠ x1) (ne2 : b ≠ b1) : ∃ h', fX11_becomeText a x1 h = some (1, h') ∧ CV h' a b (vL 3 L.length (fun k => L.getD k 0)) ∧ FI [a, b] h h' := by
  obtain ⟨t1, t2, r1, ne⟩ := id H
  obtain ⟨n1, n2, n3, n4⟩ := N
  have c1 : iN L.length ≤ 16 := by rw [i_le_lit (by decide) (by omega)]; exact hn
  have ex : ∀ h' : hp, FI [a] h h' → hI h' x1 1 = iN L.length := fun h' F => by rw [(F.2.2.2.2 x1 (by simp; exact fun q => q1 q.symm)).1]; exact n2
  have F1 : FI [a] h (pI h a 0 3) := FI.pI ..
  have F2 : FI [a] h (pI (pI h a 0 3) a 3 (iN L.length)) := FI.tr' F1 (FI.pI ..)
  have hs : hI (pI (pI h a 0 3) a 3 (iN L.length)) a 3 = iN L.length := by rw [hI_pI, if_pos ⟨rfl, rfl⟩]
  have e := cText_l (h := pI (pI h a 0 3) a 3 (iN L.length)) (f := fun k => L.getD k 0) H n1 (ex _ F2) n3 (fun k hk => by rw [(F2.2.2.2.2 b1 (by simp; exact fun q => q2 q.symm)).1]; exact n4 k hk) hs hn ne1 ne2 L.length 0 FU (hI (pI (pI h a 0 3) a 3 (iN L.length)) b) (by omega) (by show L.length < 1000000; omega)
  rw [sI_self] at e
  refine ⟨sI (pI (pI h a 0 3) a 3 (iN L.length)) b (fun j => if 0 ≤ j ∧ j < L.length then L.getD j 0 else hI (pI (pI h a 0 3) a 3 (iN L.length)) b j), ?_, (CV.row (s := 3) (h := pI (pI h a 0 3) a 3 (iN L.length)) H (by rw [hI_pI, if_neg (by simp), hI_pI, if_pos ⟨rfl, rfl⟩]; rfl) hs (by decide) (by decide) hn).ext fun k hk => ?_, FI.tr F2 (FI.sI _ b _) (by simp) (by simp)⟩
  · have v := vResize (h := pI h a 0 3) (a := a) (b := b) (m := L.length) H (by omega)
    rw [show min L.length 16 = L.length by omega] at v
    have e5 := ex _ F1
    have t5 : hT (pI h a 0 3) x1 = (4, 2) := n1.1
    simp only [fX11_becomeText, gfI, pfI, ckT, t1, n1.1, t5, hT_pI, if_true, Option.bind_some, n2, c1, e5, v]
    rw [show fX11_becomeText_l26 FU a x1 0 _ = _ from e]
    rfl
  · rw [if_pos (by omega)]
theorem cText2 {h : hp} {a x1 b1 cap : Nat} {L : List Int32} (N : NL h x1 b1 cap L) (hc : cap < 20001) (hn : ¬ L.length ≤ 16) : fX11_becomeText a x1 h = some (0, h) := by
  have c1 : ¬ (iN L.length ≤ 16) := by rw [i_le_lit (by decide) (by have := N.2.2.1; omega)]; exact hn
  simp only [fX11_becomeText, gfI, N.1.1, if_true, Option.bind_some, N.2.1, c1, if_false]
theorem mText_l {h : hp} (w : WF h) {t n : Nat} {f : Nat → Int32} (x3 : Int32) (ht : t < 10) (hn : n ≤ 16) (hf : ∀ k, k < n → hI h 172 k = f k) : ∀ (d k m : Nat) (g : Nat → Int32), k + d = n → d < m → fX14_text_l52 m 165 (iN t) (iN n) x3 (iN k) (sI h 169 g) = some (sI h 169 (fun j => if 16 * t + k ≤ j ∧ j < 16 * t + n then f (j - 16 * t) else g j)) := by
  intro d
  induction d with
  | zero =>
    intro k m g hk hm
    obtain ⟨m, rfl⟩ : ∃ q, m = q + 1 := ⟨m - 1, by omega⟩
    have e : iN n ≤ iN k := by rw [i_le (by omega) (by omega)]; omega
    simp only [fX14_text_l52, e, if_true]
    exact congrArg some (sI_congr h 169 fun j => by rw [if_neg (by omega)])
  | succ d ih =>
    intro k m g hk hm
    obtain ⟨m, rfl⟩ : ∃ q, m = q + 1 := ⟨m - 1, by omega⟩
    have e : ¬ (iN n ≤ iN k) := by rw [i_le (by omega) (by omega)]; omega
    have e2 : hI (sI h 169 g) 172 k = f k := by rw [hI_sI, if_neg (by decide)]; exact hf k (by omega)
    simp (disch := (first | assumption | (simp only [WF_e1, WF_e2, WF_e3, WF_e4, WF_e5]; assumption) | omega | decide)) only [fX14_text_l52, e, if_false, MR3, MR7, ML172, MS169, Option.bind_some, i_mullit, i_add, i_succ, e2, pI_sI]
    rw [ih (k + 1) m _ (by omega) (by omega)]
    refine congrArg some (sI_congr h 169 fun j => ?_)
    by_cases c : 16 * t + (k + 1) ≤ j ∧ j < 16 * t + n
    · have c3 : 16 * t + k ≤ j ∧ j < 16 * t + n := by omega
      rw [if_pos c, if_pos c3]
    · rw [if_neg c]
      by_cases c2 : j = 16 * t + k
      · subst c2
        have c3 : 16 * t + k ≤ 16 * t + k ∧ 16 * t + k < 16 * t + n := by omega
        rw [if_pos rfl, if_pos c3, show 16 * t + k - 16 * t = k by omega]
      · have c3 : ¬ (16 * t + k ≤ j ∧ j < 16 * t + n) := by omega
        rw [if_neg c2, if_neg c3]
theorem nil_NL {h : hp} {a b c : Nat} (N : NO h a b c) (e : hI h a 1 = 0) : NL h a b c [] := ⟨N, e, Nat.zero_le _, fun k hk => absurd hk (by simp)⟩
/-- both tapes emptied -/
theorem Jt_nil {h : hp} (w : WF h) (e1 : hI h 128 1 = 0) (e2 : hI h 165 10 = 0) : Jt h := ⟨[], nil_NL (NO_tape w) e1, e2, fun k hk => absurd hk (by simp), fun k hk => absurd hk (by simp)⟩
theorem call_text {h : hp} (w : WF h) (J : Jv h) (T : Jt h) (v : Int32) : C2 (fX13_text 64 v) (fX14_text 165 v) h (fun x k => Pv x k ∨ Pt x k) (fun h => Jv h ∧ Jt h) := by
  have J0 := J
  obtain ⟨vs, H⟩ := J
  rcases cVar w v with ⟨k, hk, rfl, ev⟩ | ⟨c, ev⟩
  · obtain ⟨C, M, g⟩ := H k hk
    obtain ⟨L, N, hm, hl, hb⟩ := T
    have hL := N.2.2.1
    by_cases cl : L.length ≤ 16
    · obtain ⟨h1, e1, C1, F1⟩ := cText C.1 N cl (by omega) (by omega) (by omega) (by omega)
      have w1 := F1.wf w
      have N1 : NO h1 128 129 160 := NO_tape w1
      have w2 : WF (pI h1 128 1 0) := w1
      have F2 : FI [70 + 2 * k, 71 + 2 * k, 128] h (pI h1 128 1 0) := F1.tr (FI.pI ..) (by simp) (by simp)
      have ef : ∀ x, x ≠ 70 + 2 * k → x ≠ 71 + 2 * k → x ≠ 128 → hI (pI h1 128 1 0) x = hI h x := fun x q1 q2 q3 => (F2.2.2.2.2 x (by simp; exact ⟨q1, q2, q3⟩)).1
      have M1 : hI (pI (pI h1 128 1 0) 165 10 0) 166 k = iN (vs k).1 := by rw [hI_pI, if_neg (by simp), ef _ (by omega) (by omega) (by omega)]; exact M.1
      have m10 : hI (pI h1 128 1 0) 165 10 = iN L.length := by rw [ef _ (by omega) (by omega) (by omega)]; exact hm
      have c1 : iN L.length ≤ 16 := by rw [i_le_lit (by decide) (by omega)]; exact cl
      have e2 := mText_l (h := pI (pI (pI (pI h1 128 1 0) 165 10 0) 166 k 3) 168 k (iN L.length)) (f := fun j => L.getD j 0) w1 (iN (vs k).1) (show k < 10 by omega) cl (fun j hj => by rw [hI_pI, if_neg (by simp), hI_pI, if_neg (by simp), hI_pI, if_neg (by simp), ef _ (by omega) (by omega) (by omega)]; exact hl j hj) L.length 0 FU (hI (pI (pI (pI (pI h1 128 1 0) 165 10 0) 166 k 3) 168 k (iN L.length)) 169) (by omega) (by show L.length < 1000000; omega)
      rw [sI_self] at e2
      obtain ⟨h2, hh2⟩ : ∃ h2, h2 = sI (pI (pI (pI (pI h1 128 1 0) 165 10 0) 166 k 3) 168 k (iN L.length)) 169 (fun j => if 16 * k + 0 ≤ j ∧ j < 16 * k + L.length then L.getD (j - 16 * k) 0 else hI (pI (pI (pI (pI h1 128 1 0) 165 10 0) 166 k 3) 168 k (iN L.length)) 169 j) := ⟨_, rfl⟩
      rw [← hh2] at e2
      have F3 : FS (fun x j => sP k x j ∨ (x = 165 ∧ j = 10)) (pI h1 128 1 0) h2 := by
        rw [hh2]
        exact FS.tr (FS.tr (FS.tr (FS.pI (.inr ⟨rfl, rfl⟩)) (FS.pI (.inl (by simp [sP])))) (FS.pI (.inl (by simp [sP])))) ((fsRow fun j hj => by rw [if_neg (by omega)]).up fun x j q => .inl q)
      have F4 : FS (fun x j => x = 70 + 2 * k ∨ x = 71 + 2 * k ∨ x = 128 ∨ sP k x j ∨ (x = 165 ∧ j = 10)) h h2 := (F2.fs.up fun x j q => by simp at q; rcases q with q | q | q <;> simp [q]).tr (F3.up fun x j q => .inr (.inr (.inr q)))
      refine ⟨iN (vs k).1, pI h1 128 1 0, h2, ?_, ?_, ?_, ?_, ?_⟩
      · simp only [fX13_text, gR64 w, R64_0 w, ck65 w, Option.bind_some, ev, bd2_s, ne0 k, if_false, if_true, gIV C.1, ckV C.1, C.2.1, R64_3 w, e1, z10, gR64 w1, R64_3 w1, ckN N1, nEmpty N1]
      · simp (disch := (first | assumption | (simp only [WF_e1, WF_e2, WF_e3, WF_e4, WF_e5]; assumption) | omega | decide)) only [fX14_text, mIsV, bd2_s, vIn hk, and_self, if_true, z10, if_false, Option.bind_some, gM, pM, m10, c1, MR0, MR2, ML166, MS166, MS168, M1]
        rw [show fX14_text_l52 FU 165 (iN k) (iN L.length) (iN (vs k).1) 0 _ = _ from e2]
        rfl
      · refine F4.up fun x j q => ?_
        rcases q with q | q | q | q | q
        · exact .inl (.inl (by omega))
        · exact .inl (.inl (by omega))
        · exact .inr (.inl q)
        · exact .inl (sP_Pv hk q)
        · exact .inr (.inr (.inr (.inr q)))
      · refine Jv.set w hk vs H (F4.up fun x j q => ?_) (V := vL 3 L.length (fun j => L.getD j 0)) ?_ ?_ (gvT cl hb)
        · rcases q with q | q | q | q | q
          · exact .inl q
          · exact .inr (.inl q)
          · exact .inr (.inr (.inr (.inr (.inl (.inl q)))))
          · exact .inr (.inr (.inl q))
          · exact .inr (.inr (.inr (.inr (.inl (.inr (.inr (.inr q)))))))
        · exact (C1.fr (FI.pI h1 128 1 0) (by simp; omega) (by simp; omega)).fg F3.fg (by have := w2.2.2; omega) (by have := w2.2.2; omega) (fun j q => by unfold sP at q; omega) (fun j q => by unfold sP at q; omega)
        · rw [hh2]
          exact MV.row (s := 3) (n := L.length) (by rw [hI_pI, if_neg (by simp), hI_pI, if_pos ⟨rfl, rfl⟩]; rfl) (by rw [hI_pI, if_pos ⟨rfl, rfl⟩]) (by decide) (by decide) cl fun j hj => by rw [if_pos (by omega), show 16 * k + j - 16 * k = j by omega]
      · refine Jt_nil (F3.wf w2) ?_ ?_
        · rw [(F3.2.2.2.2 128 1 (by unfold sP; omega)).1, hI_pI, if_pos ⟨rfl, rfl⟩]
        · rw [hh2, hI_sI, if_neg (by decide), hI_pI, if_neg (by simp), hI_pI, if_neg (by simp), hI_pI, if_pos ⟨rfl, rfl⟩]
    · have c1 : ¬ (iN L.length ≤ 16) := by rw [i_le_lit (by decide) (by omega)]; exact cl
      have w2 : WF (pI h 128 1 0) := w
      have m10 : hI (pI h 128 1 0) 165 10 = iN L.length := by rw [hI_pI, if_neg (by simp)]; exact hm
      have F : FS (fun x j => x = 128 ∨ (x = 165 ∧ j = 10)) h (pI (pI h 128 1 0) 165 10 0) := FS.tr (FS.pI (.inl rfl)) (FS.pI (.inr ⟨rfl, rfl⟩))
      refine ⟨-2, pI h 128 1 0, pI (pI h 128 1 0) 165 10 0, ?_, ?_, F.up fun x j q => ?_, J0.fg w F.fg fun x j q => ?_, Jt_nil w2 ?_ ?_⟩
      · simp only [fX13_text, gR64 w, R64_0 w, ck65 w, Option.bind_some, ev, bd2_s, ne0 k, if_false, if_true, gIV C.1, ckV C.1, C.2.1, R64_3 w, cText2 N (by decide) cl, ckN N.1, nEmpty N.1]
      · simp (disch := (first | assumption | (simp only [WF_e1, WF_e2, WF_e3, WF_e4, WF_e5]; assumption) | omega | decide)) only [fX14_text, mIsV, bd2_s, vIn hk, and_self, if_true, z10, if_false, Option.bind_some, gM, pM, m10, c1]
      · unfold Pt; omega
      · unfold Pv at q; omega
      · rw [hI_pI, if_neg (by simp), hI_pI, if_pos ⟨rfl, rfl⟩]
      · rw [hI_pI, if_pos ⟨rfl, rfl⟩]
  · refine ⟨-1, h, h, ?_, ?_, FS.rf _ _, J0, T⟩
    · unfold fX13_text
      rw [gR64 w, Option.bind_some, R64_0 w, ck65 w, Option.bind_some, ev, bd2_s, if_pos rfl]
    · unfold fX14_text
      rw [mIsV, bd2_s, if_neg c, if_pos rfl]
theorem last_e {n : Nat} (h : n < 2147483648) : (iN n - 1).toInt = (n : Int) - 1 := by
  rw [Jvm.Kit.i32_sub (by rw [i_toInt h, show (1 : Int32).toInt = 1 by decide]; omega) (by rw [i_toInt h, show (1 : Int32).toInt = 1 by decide]; omega), i_toInt h]; rfl
theorem call_item {h : hp} (w : WF h) (J : Jv h) (v i n : Int32) : C2 (fX13_item 64 v i n) (fX14_item 165 v i n) h Pv Jv := by
  have J0 := J
  obtain ⟨vs, H⟩ := J
  rcases cVar w v with ⟨k, hk, rfl, ev⟩ | ⟨c, ev⟩
  · obtain ⟨C, M, g⟩ := H k hk
    have hs4 := C.2.2.1
    have q4 : (iN (vs k).1 = 4) = ((vs k).1 = 4) := i_eq_lit (by decide) (by omega)
    by_cases c4 : (vs k).1 = 4
    · obtain ⟨hs, hn, hf⟩ := C.2.2.2.2.2 (by omega)
      obtain ⟨ms, -, mf⟩ := M.2.2.2.2 (by omega)
      have g4 := g.2.2.2.2 c4
      obtain ⟨m, hm⟩ : ∃ m, m = (vs k).2.2.2.1 := ⟨_, rfl⟩
      obtain ⟨f, hff⟩ : ∃ f, f = (vs k).2.2.2.2 := ⟨_, rfl⟩
      rw [← hm] at hs hn hf ms mf g4
      rw [← hff] at hf mf g4
      have l1 := last_e (n := m) (by omega)
      by_cases ci : 0 ≤ i.toInt ∧ i.toInt < m
      · obtain ⟨j, hj, rfl⟩ := i_of2 ci
        have ci2 : 0 ≤ (iN j).toInt ∧ (iN j).toInt ≤ (m : Int) - 1 := by omega
        by_cases cn : inL n.toInt64 = true
        · have q1 : -1000000 ≤ n.toInt ∧ n.toInt ≤ 1000000 := by have := of_decide_eq_true cn; rw [Int32.toInt_toInt64] at this; exact this
          have F1 : FI [71 + 2 * k] h (pI h (71 + 2 * k) j n) := FI.pI ..
          have w1 : WF (pI h (71 + 2 * k) j n) := w
          have e1 : hI (pI h (71 + 2 * k) j n) 169 (16 * k + j) = f j := by rw [hI_pI, if_neg (by omega)]; exact mf j hj
          have mk : hI (pI h (71 + 2 * k) j n) 166 k = iN (vs k).1 := by rw [hI_pI, if_neg (by omega)]; exact M.1
          have mm : hI (pI h (71 + 2 * k) j n) 168 k = iN m := by rw [hI_pI, if_neg (by omega)]; exact ms
          have F : FS (fun x p => x = 71 + 2 * k ∨ sP k x p) h (pI (pI h (71 + 2 * k) j n) 169 (16 * k + j) n) := FS.tr (FS.pI (.inl rfl)) (FS.pI (.inr (.inr ⟨rfl, by omega, by omega⟩)))
          refine ⟨f j, pI h (71 + 2 * k) j n, pI (pI h (71 + 2 * k) j n) 169 (16 * k + j) n, ?_, ?_, F.up fun x p q => ?_, ?_⟩
          · simp only [fX13_item, gR64 w, R64_0 w, ck65 w, Option.bind_some, ev, bd2_s, ne0 k, if_false, if_true, gIV C.1, C.2.1, c4, show iN 4 = 4 from rfl, hs, am_e (iN j) m (by omega) h, ci, and_self, z10, isInt_e, cn, ckV C.1, vAt C.1 hs hn hj, vPut C.1 hs hn hj, hf j hj]
          · simp (disch := (first | assumption | (simp only [WF_e1, WF_e2, WF_e3, WF_e4, WF_e5]; assumption) | omega | decide)) only [fX14_item, mIsV, bd2_s, vIn hk, and_self, if_true, z10, if_false, Option.bind_some, MR0, MR2, MR3, ML166, ML168, ML169, MS169, mk, mm, c4, show iN 4 = 4 from rfl, isIn_e, Int32.toInt_toInt64, show (0 : Int64).toInt = 0 by decide, l1, ci2, show (-1000000 : Int64).toInt = -1000000 by decide, show (1000000 : Int64).toInt = 1000000 by decide, q1, i_mullit, i_add, e1]
          · rcases q with q | q
            · exact .inl (by omega)
            · exact sP_Pv hk q
          · refine Jv.set w hk vs H (F.up fun x p q => ?_) (V := vL 4 m (fun p => if p = j then n else f p)) ?_ ?_ (gvL g4.1 fun p hp => ?_)
            · rcases q with q | q
              · exact .inr (.inl q)
              · exact .inr (.inr (.inl q))
            · refine ⟨C.1, ?_, by show 4 ≤ 4; decide, fun e => absurd e (by show ¬ 4 = 1; decide), fun e => absurd e (by show ¬ 4 = 2; decide), fun _ => ⟨?_, hn, fun p hp => ?_⟩⟩
              · rw [hI_pI, if_neg (by omega), hI_pI, if_neg (by omega), C.2.1, c4]; rfl
              · rw [hI_pI, if_neg (by omega), hI_pI, if_neg (by omega)]; exact hs
              · rw [hI_pI, if_neg (by omega), hI_pI]
                show _ = if p = j then n else f p
                by_cases cp : p = j
                · rw [if_pos ⟨rfl, cp⟩, if_pos cp]
                · rw [if_neg (fun q => cp q.2), if_neg cp]; exact hf p hp
            · refine ⟨?_, by show 4 ≤ 4; decide, fun e => absurd e (by show ¬ 4 = 1; decide), fun e => absurd e (by show ¬ 4 = 2; decide), fun _ => ⟨?_, hn, fun p hp => ?_⟩⟩
              · rw [hI_pI, if_neg (by simp), mk, c4]; rfl
              · rw [hI_pI, if_neg (by simp)]; exact mm
              · rw [hI_pI]
                show _ = if p = j then n else f p
                by_cases cp : p = j
                · rw [if_pos ⟨rfl, by omega⟩, if_pos cp]
                · rw [if_neg (by omega), if_neg cp, hI_pI, if_neg (by omega)]; exact mf p hp
            · show inI (if p = j then n else f p)
              split
              · exact q1
              · exact g4.2 p hp
        · have q1 : ¬ (-1000000 ≤ n.toInt ∧ n.toInt ≤ 1000000) := fun q => cn (decide_eq_true (by rw [Int32.toInt_toInt64]; exact q))
          refine ⟨-2, h, h, ?_, ?_, FS.rf _ _, J0⟩
          · simp only [fX13_item, gR64 w, R64_0 w, ck65 w, Option.bind_some, ev, bd2_s, ne0 k, if_false, if_true, gIV C.1, C.2.1, c4, show iN 4 = 4 from rfl, hs, am_e (iN j) m (by omega) h, ci, and_self, z10, isInt_e, cn]
            rfl
          · simp (disch := (first | assumption | (simp only [WF_e1, WF_e2, WF_e3, WF_e4, WF_e5]; assumption) | omega | decide)) only [fX14_item, mIsV, bd2_s, vIn hk, and_self, if_true, z10, if_false, Option.bind_some, MR0, MR2, ML166, ML168, M.1, ms, c4, show iN 4 = 4 from rfl, isIn_e, Int32.toInt_toInt64, show (0 : Int64).toInt = 0 by decide, l1, ci2, show (-1000000 : Int64).toInt = -1000000 by decide, show (1000000 : Int64).toInt = 1000000 by decide, q1]
      · have ci2 : ¬ (0 ≤ i.toInt ∧ i.toInt ≤ (m : Int) - 1) := by omega
        refine ⟨-1, h, h, ?_, ?_, FS.rf _ _, J0⟩
        · simp only [fX13_item, gR64 w, R64_0 w, ck65 w, Option.bind_some, ev, bd2_s, ne0 k, if_false, if_true, gIV C.1, C.2.1, c4, show iN 4 = 4 from rfl, hs, am_e i m (by omega) h, ci]
        · simp (disch := (first | assumption | (simp only [WF_e1, WF_e2, WF_e3, WF_e4, WF_e5]; assumption) | omega | decide)) only [fX14_item, mIsV, bd2_s, vIn hk, and_self, if_true, z10, if_false, Option.bind_some, MR0, MR2, ML166, ML168, M.1, ms, c4, show iN 4 = 4 from rfl, isIn_e, Int32.toInt_toInt64, show (0 : Int64).toInt = 0 by decide, l1, ci2]
    · refine ⟨-3, h, h, ?_, ?_, FS.rf _ _, J0⟩
      · simp only [fX13_item, gR64 w, R64_0 w, ck65 w, Option.bind_some, ev, bd2_s, ne0 k, if_false, if_true, gIV C.1, C.2.1, q4, c4]
      · simp (disch := (first | assumption | (simp only [WF_e1, WF_e2, WF_e3, WF_e4, WF_e5]; assumption) | omega | decide)) only [fX14_item, mIsV, bd2_s, vIn hk, and_self, if_true, z10, if_false, Option.bind_some, MR0, ML166, M.1, q4, c4]
  · refine ⟨-1, h, h, ?_, ?_, FS.rf _ _, J0⟩
    · unfold fX13_item
      rw [gR64 w, Option.bind_some, R64_0 w, ck65 w, Option.bind_some, ev, bd2_s, if_pos rfl]
    · unfold fX14_item
      rw [mIsV, bd2_s, if_neg c, if_pos rfl]
/-- the class's list of what is shown -/
theorem cFig {h : hp} (w : WF h) {a b : Nat} {V : vT} (C : CV h a b V) (g : gV V) (ha : a ∉ [130, 131]) (hb : b ∉ [130, 131]) : ∃ h', fX13_showFigures 64 a h = some (iN (shV V).length, h') ∧ NL h' 130 131 53 (shV V) ∧ FI [130, 131] h h' := by
  have N0 : NL (pI h 130 1 0) 130 131 53 [] := nil_NL (NO_figs w) (by rw [hI_pI, if_pos ⟨rfl, rfl⟩])
  have F0 : FI [130, 131] h (pI h 130 1 0) := (FI.pI h 130 1 0).up (by simp)
  have w1 : WF (pI h 130 1 0) := w
  obtain ⟨h1, e1, N1, F1⟩ := cShV (C.fr F0 ha hb) g ha hb N0 (by simp)
  have w2 := F1.wf w1
  refine ⟨h1, ?_, by simpa using N1, F0.tr' F1⟩
  simp only [fX13_showFigures, gR64 w, gR64 w1, gR64 w2, R64_5 w, R64_5 w1, R64_5 w2, ckN (NO_figs w), nEmpty (NO_figs w), ckV (C.fr F0 ha hb).1, e1, gIN (NO_figs w2), Option.bind_some, N1.2.1, List.nil_append]
theorem call_of {h : hp} (w : WF h) (J : Jv h) (v n : Int32) : C2 (fX13_of 64 v n) (fX14_of 165 v n) h (fun x k => Pv x k ∨ Pz x k) Jv := by
  have J0 := J
  obtain ⟨vs, H⟩ := J
  rcases cVar w v with ⟨k, hk, rfl, ev⟩ | ⟨c, ev⟩
  · obtain ⟨C, M, g⟩ := H k hk
    by_cases c0 : n = 0
    · subst c0
      refine ⟨iN (vs k).1, h, h, ?_, ?_, FS.rf _ _, J0⟩
      · simp only [fX13_of, gR64 w, R64_0 w, ck65 w, Option.bind_some, ev, bd2_s, ne0 k, if_false, if_true, gIV C.1, C.2.1]
      · simp (disch := (first | assumption | (simp only [WF_e1, WF_e2, WF_e3, WF_e4, WF_e5]; assumption) | omega | decide)) only [fX14_of, mIsV, bd2_s, vIn hk, and_self, if_true, z10, if_false, Option.bind_some, isIn_e, show (0 : Int32).toInt64.toInt = 0 by decide, show (0 : Int64).toInt = 0 by decide, show (3 : Int64).toInt = 3 by decide, Int.le_refl, show (0 : Int) ≤ 3 by decide, MR0, ML166, M.1]
    · by_cases c1 : n = 1
      · subst c1
        obtain ⟨h1, e1, N1, F1⟩ := cFig w C g (by simp; omega) (by simp; omega)
        have w1 := F1.wf w
        have M1 : MV h1 k (vs k) := M.fr F1.fs fun x j q => by unfold sP at q; simp; omega
        obtain ⟨h2, e2, N2, F2⟩ := mShV w1 (show k < 10 by omega) M1 g
        have w2 := F2.wf w1
        have F3 : FS Pz h h2 := (F1.fs.up fun x j q => by simp at q; unfold Pz; omega).tr (F2.up fun x j q => by unfold shP at q; unfold Pz; omega)
        refine ⟨iN (shV (vs k)).length, h1, h2, ?_, ?_, F3.up fun x j q => .inr q, J0.fg w F3.fg fun x j q => by unfold Pv at q; unfold Pz; omega⟩
        · have ck : ckT h 64 12 = some () := by unfold ckT; rw [T64 w]; rfl
          simp only [fX13_of, gR64 w, R64_0 w, ck65 w, Option.bind_some, ev, bd2_s, ne0 k, if_false, if_true, show ((1 : Int32) = 0) = False from eq_false z10, ck, e1]
        · simp (disch := (first | assumption | (simp only [WF_e1, WF_e2, WF_e3, WF_e4, WF_e5]; assumption) | omega | decide)) only [fX14_of, mIsV, bd2_s, vIn hk, and_self, if_true, z10, if_false, Option.bind_some, isIn_e, show (1 : Int32).toInt64.toInt = 1 by decide, show (0 : Int64).toInt = 0 by decide, show (3 : Int64).toInt = 3 by decide, show (0 : Int) ≤ 1 by decide, show (1 : Int) ≤ 3 by decide, ckM, e2, gM, N2.1, zz13]
      · by_cases c2 : n = 2
        · subst c2
          refine ⟨if (vs k).1 = 1 then (vs k).2.1 else if (vs k).1 = 2 then (vs k).2.2.1.toInt32 else if (vs k).1 = 0 then 0 else iN (vs k).2.2.2.1, h, h, ?_, ?_, FS.rf _ _, J0⟩
          · simp only [fX13_of, gR64 w, R64_0 w, ck65 w, Option.bind_some, ev, bd2_s, ne0 k, if_false, if_true, zz20, zz21, ckV C.1, cMeas C g]
          · have q0 : (iN (vs k).1 = 0) = ((vs k).1 = 0) := i_eq_lit (by decide) (by have := M.2.1; omega)
            have q1 : (iN (vs k).1 = 1) = ((vs k).1 = 1) := i_eq_lit (by decide) (by have := M.2.1; omega)
            have q2 : (iN (vs k).1 = 2) = ((vs k).1 = 2) := i_eq_lit (by decide) (by have := M.2.1; omega)
            simp (disch := (first | assumption | (simp only [WF_e1, WF_e2, WF_e3, WF_e4, WF_e5]; assumption) | omega | decide)) only [fX14_of, mIsV, bd2_s, vIn hk, and_self, if_true, z10, if_false, Option.bind_some, isIn_e, show (2 : Int32).toInt64.toInt = 2 by decide, show (0 : Int64).toInt = 0 by decide, show (3 : Int64).toInt = 3 by decide, show (0 : Int) ≤ 2 by decide, show (2 : Int) ≤ 3 by decide, zz20, zz21, zz23, MR0, MR1, MR2, MR4, ML166, ML167, ML168, ML170, M.1, q0, q1, q2]
            by_cases d0 : (vs k).1 = 0
            · simp only [d0, if_true, show ¬ (0 = 1) by decide, show ¬ (0 = 2) by decide, if_false]
            · by_cases d1 : (vs k).1 = 1
              · simp only [d1, if_true, show ¬ (1 = 0) by decide, if_false, M.2.2.1 d1]
              · by_cases d2 : (vs k).1 = 2
                · simp only [d2, if_true, show ¬ (2 = 0) by decide, show ¬ (2 = 1) by decide, if_false, M.2.2.2.1 d2, mFbits (gF_fin (g.2.2.1 d2)), bd2_s]
                · simp only [d0, d1, d2, if_false, (M.2.2.2.2 (by have := M.2.1; omega)).1]
        · by_cases c3 : n = 3
          · subst c3
            have zt : trS (vs k) = 0 ∨ trS (vs k) = 1 := by
              unfold trS
              repeat' split
              all_goals simp
            refine ⟨trS (vs k), h, h, ?_, ?_, FS.rf _ _, J0⟩
            · simp only [fX13_of, gR64 w, R64_0 w, ck65 w, Option.bind_some, ev, bd2_s, ne0 k, if_false, if_true, zz30, zz31, zz32, ckV C.1, cTrue C]
              rcases zt with zt | zt <;> rw [zt] <;> rfl
            · simp (disch := (first | assumption | (simp only [WF_e1, WF_e2, WF_e3, WF_e4, WF_e5]; assumption) | omega | decide)) only [fX14_of, mIsV, bd2_s, vIn hk, and_self, if_true, z10, if_false, Option.bind_some, isIn_e, show (3 : Int32).toInt64.toInt = 3 by decide, show (0 : Int64).toInt = 0 by decide, show (3 : Int64).toInt = 3 by decide, show (0 : Int) ≤ 3 by decide, Int.le_refl, zz30, ckM, mTrue w (show k < 10 by omega) M]
              rcases zt with zt | zt <;> rw [zt] <;> rfl
          · refine ⟨-1, h, h, ?_, ?_, FS.rf _ _, J0⟩
            · simp only [fX13_of, gR64 w, R64_0 w, ck65 w, Option.bind_some, ev, bd2_s, ne0 k, if_false, if_true, c0, c1, c2, c3]
            · have cn : ¬ (0 ≤ n.toInt ∧ n.toInt ≤ 3) := fun q => by
                obtain ⟨j, hj, rfl⟩ := i_of2 (v := n) (n := 4) (by omega)
                have : j = 0 ∨ j = 1 ∨ j = 2 ∨ j = 3 := by omega
                rcases this with rfl | rfl | rfl | rfl
                · exact c0 rfl
                · exact c1 rfl
                · exact c2 rfl
                · exact c3 rfl
              simp (disch := (first | assumption | (simp only [WF_e1, WF_e2, WF_e3, WF_e4, WF_e5]; assumption) | omega | decide)) only [fX14_of, mIsV, bd2_s, vIn hk, and_self, if_true, z10, if_false, Option.bind_some, isIn_e, Int32.toInt_toInt64, show (0 : Int64).toInt = 0 by decide, show (3 : Int64).toInt = 3 by decide, cn]
  · refine ⟨-1, h, h, ?_, ?_, FS.rf _ _, J0⟩
    · unfold fX13_of
      rw [gR64 w, Option.bind_some, R64_0 w, ck65 w, Option.bind_some, ev, bd2_s, if_pos rfl]
    · unfold fX14_of
      rw [mIsV, bd2_s, if_neg c, if_pos rfl]
theorem call_shown {h : hp} (w : WF h) (J : Jv h) (v i : Int32) : C2 (fX13_shown 64 v i) (fX14_shown 165 v i) h (fun x k => Pv x k ∨ Pz x k) Jv := by
  have J0 := J
  obtain ⟨vs, H⟩ := J
  rcases cVar w v with ⟨k, hk, rfl, ev⟩ | ⟨c, ev⟩
  · obtain ⟨C, M, g⟩ := H k hk
    obtain ⟨h1, e1, N1, F1⟩ := cFig w C g (by simp; omega) (by simp; omega)
    have w1 := F1.wf w
    have M1 : MV h1 k (vs k) := M.fr F1.fs fun x j q => by unfold sP at q; simp; omega
    obtain ⟨h2, e2, N2, F2⟩ := mShV w1 (show k < 10 by omega) M1 g
    have w2 := F2.wf w1
    have F3 : FS Pz h h2 := (F1.fs.up fun x j q => by simp at q; unfold Pz; omega).tr (F2.up fun x j q => by unfold shP at q; unfold Pz; omega)
    have ck : ckT h 64 12 = some () := by unfold ckT; rw [T64 w]; rfl
    have hl := N2.2.1
    have ca : fX5_at 130 i h1 = some (if 0 ≤ i.toInt ∧ i.toInt < (shV (vs k)).length then (shV (vs k)).getD i.toNatClampNeg 0 else -1, h1) := by
      rw [nAt N1.1 N1.2.1 N1.2.2.1]
      by_cases ci : 0 ≤ i.toInt ∧ i.toInt < (shV (vs k)).length
      · rw [if_pos ci, if_pos ci, N1.2.2.2 _ (by unfold Int32.toNatClampNeg; omega)]
      · rw [if_neg ci, if_neg ci]
    refine ⟨if 0 ≤ i.toInt ∧ i.toInt < (shV (vs k)).length then (shV (vs k)).getD i.toNatClampNeg 0 else -1, h1, h2, ?_, ?_, F3.up fun x j q => .inr q, J0.fg w F3.fg fun x j q => by unfold Pv at q; unfold Pz; omega⟩
    · simp only [fX13_shown, gR64 w, R64_0 w, ck65 w, Option.bind_some, ev, bd2_s, ne0 k, if_false, if_true, ck, e1, gR64 w1, R64_5 w1, ckN N1.1, ca]
    · have l1 := last_e (n := (shV (vs k)).length) (by omega)
      simp (disch := (first | assumption | (simp only [WF_e1, WF_e2, WF_e3, WF_e4, WF_e5]; assumption) | omega | decide)) only [fX14_shown, mIsV, bd2_s, vIn hk, and_self, if_true, z10, if_false, Option.bind_some, ckM, e2, gM, N2.1, isIn_e, Int32.toInt_toInt64, show (0 : Int64).toInt = 0 by decide, l1]
      by_cases ci : 0 ≤ i.toInt ∧ i.toInt < (shV (vs k)).length
      · obtain ⟨j, hj, rfl⟩ := i_of2 ci
        have ci2 : 0 ≤ (iN j).toInt ∧ (iN j).toInt ≤ ((shV (vs k)).length : Int) - 1 := by omega
        simp (disch := (first | assumption | (simp only [WF_e1, WF_e2, WF_e3, WF_e4, WF_e5]; assumption) | omega | decide)) only [ci, ci2, and_self, if_true, z10, if_false, MR5, Option.bind_some, ML171, N2.2.2 j hj, i_clamp]
      · have ci2 : ¬ (0 ≤ i.toInt ∧ i.toInt ≤ ((shV (vs k)).length : Int) - 1) := by omega
        simp only [ci, ci2, if_false, if_true]
  · refine ⟨-1, h, h, ?_, ?_, FS.rf _ _, J0⟩
    · unfold fX13_shown
      rw [gR64 w, Option.bind_some, R64_0 w, ck65 w, Option.bind_some, ev, bd2_s, if_pos rfl]
    · unfold fX14_shown
      rw [mIsV, bd2_s, if_neg c, if_pos rfl]

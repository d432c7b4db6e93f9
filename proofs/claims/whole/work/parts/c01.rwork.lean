/-! the reference's walk: expressions worked out -/
theorem figs_lt {L : List Int32} : ∀ (d p acc c : Nat), acc < 10 ^ c → (figs L d p acc).1 < 10 ^ (c + d) := by
  intro d
  induction d with
  | zero => intro p acc c h; exact h
  | succ d ih =>
    intro p acc c h
    show (if isF (hereL L p) = true then figs L d (p + 1) (acc * 10 + ((hereL L p).toInt.toNat - 48)) else (acc, p)).1 < _
    by_cases q : isF (hereL L p) = true
    · rw [if_pos q]
      have ci := (isF_i _).mp q
      have := ih (p + 1) (acc * 10 + ((hereL L p).toInt.toNat - 48)) (c + 1) (by rw [Nat.pow_succ]; omega)
      rw [show c + 1 + d = c + (d + 1) by omega] at this
      exact this
    · rw [if_neg q]
      show acc < _
      exact Nat.lt_of_lt_of_le h (Nat.pow_le_pow_right (by decide) (by omega))
theorem pfigs_lt {L : List Int32} {p n q : Nat} (e : pFigs L p = .inl (n, q)) : n < 100000 := by
  unfold pFigs at e
  by_cases c : isF (hereL L p) = true
  · rw [if_pos c] at e
    have := figs_lt (L := L) 5 p 0 0 (by decide)
    rw [Sum.inl.inj e] at this
    exact this
  · rw [if_neg c] at e; cases e
theorem isInV (v : Int32) (h : hp) : fX14_isIn v.toInt64 97 104 h = some (if 97 ≤ v.toInt ∧ v.toInt ≤ 104 then 1 else 0, h) := by
  rw [isIn_e, Int32.toInt_toInt64, show (97 : Int64).toInt = 97 by decide, show (104 : Int64).toInt = 104 by decide]
theorem FM.wk {s : Nat} {h h' : hp} (f : FM P17 h h') : FM (PE s) h h' := f.up fun x k q => .inr (by unfold P17 at q; omega)
theorem FM.sp {s : Nat} {h h' : hp} (f : FS (sP s) h h') : FM (PE s) h h' := f.fm.up fun x k q => .inl q
theorem pe_tx {s x k : Nat} (q : PE s x k) : x ≠ 173 ∧ x ≠ 174 := by unfold PE sP at q; omega
theorem op_e {h : hp} {k p p1 s : Nat} {L : List Int32} {vs : Nat → vT} {trn : Option Nat} {e0 : EX} (T : TX h k L) (R : RVs h vs trn) (hs : s = 8 ∨ s = 9) (e : pAtom L p = .inl (e0, p1)) (hp1 : p1 < L.length) (nf : ¬ isF (L.getD p1 0) = true) (a : hI h 165 17 = iN p) : ∃ h', fX14_operand 165 (iN k) (iN s) h = some (iN (if e0.1 = 2 ∧ trn = none then 9 else 0), h') ∧ FM (PE s) h h' ∧ (¬ (e0.1 = 2 ∧ trn = none) → hI h' 165 17 = iN p1 ∧ MV h' s (bsE vs trn e0) ∧ gV (bsE vs trn e0)) := by
  have w := T.1
  have hs10 : s < 10 := by omega
  obtain ⟨nb, lt, le, em, cs⟩ := atom_i e
  have hpl : p < L.length := by omega
  have hv : hereL L p = L.getD p 0 := hereL_in hpl
  have c1 := T.2.2.2.2.2 p hpl
  -- behind the number
  have num : ∀ (g : hp) (n : Nat) (x : Int32) (sg : Bool), FM (PE s) h g → pFigs L (if sg then p + 1 else p) = .inl (n, p1) → hI g 165 17 = iN (if sg then p + 1 else p) → x = (if sg then -iN n else iN n) → ∃ h', ((ckT g 165 13).bind fun _ => bd2 (fX14_figuresAt 165 (iN k) g) fun v15 h16 => jn (fun (s236_0 : Int32) (h236j : hp) => ((ckT h236j 165 13).bind fun _ => (fX14_isInt 165 (iN s) s236_0 h236j).bind fun h19 => some ((0 : Int32), h19) : Option (Int32 × hp))) fun k236 => if L.getD p 0 = 45 then k236 (-v15) h16 else k236 v15 h16) = some (0, h') ∧ FM (PE s) h h' ∧ hI h' 165 17 = iN p1 ∧ ((L.getD p 0 = 45 ↔ sg = true) → MV h' s (vI x) ∧ gV (vI x)) := by
    intro g n x sg f ef ag ex
    have wg := f.wf w
    have lt5 := pfigs_lt ef
    have hsl : (if sg then p + 1 else p) ≤ L.length := by split <;> omega
    obtain ⟨g1, e1, a1, f1⟩ := fg_e (T.fm f fun x k q => pe_tx q) ef hp1 nf ag hsl
    have w1 := f1.wf wg
    rw [ckM wg, Option.bind_some, e1, bd2_s, jn_e]
    have fin : ∀ y, ∃ h', ((ckT g1 165 13).bind fun _ => (fX14_isInt 165 (iN s) y g1).bind fun h19 => some ((0 : Int32), h19)) = some (0, h') ∧ FM (PE s) h h' ∧ hI h' 165 17 = iN p1 ∧ MV h' s (vI y) := by
      intro y
      refine ⟨pI (pI g1 166 s 1) 167 s y, by rw [ckM w1, Option.bind_some, mInt w1 hs10, Option.bind_some], (f.tr f1.wk).tr (FM.sp (fsInt y)), ?_, mvInt y⟩
      rw [hI_pI, if_neg (by omega), hI_pI, if_neg (by omega)]; exact a1
    by_cases m : L.getD p 0 = 45
    · rw [if_pos m]
      obtain ⟨h', e', f', a', v'⟩ := fin (-iN n)
      refine ⟨h', e', f', a', fun z => ?_⟩
      rw [ex, if_pos (z.mp m)]
      exact ⟨v', gvI (inI_n lt5).2⟩
    · rw [if_neg m]
      obtain ⟨h', e', f', a', v'⟩ := fin (iN n)
      refine ⟨h', e', f', a', fun z => ?_⟩
      rw [ex, if_neg (fun q => m (z.mpr q))]
      exact ⟨v', gvI (inI_n lt5).1⟩
  unfold fX14_operand
  rw [gM w, Option.bind_some, ckM w, Option.bind_some, a, byte_e T hpl, bd2_s, isInV, bd2_s, ite10]
  rcases cs with ⟨v, hv8, b1, b2', b3⟩ | ⟨b1, b2', b3⟩ | ⟨b1, b2', b3, b4⟩ | ⟨n, b1, b2', b3⟩ | ⟨n, b1, b2', b3⟩
  · -- a variable
    rw [hv] at b1
    subst b2' b3
    rw [b1, if_pos (show 97 ≤ (iN (97 + v)).toInt ∧ (iN (97 + v)).toInt ≤ 104 by rw [i_toInt (by omega)]; omega), ckM w, Option.bind_some, show (97 : Int32) = iN 97 from rfl, i_sub (by omega), Nat.add_sub_cancel_left]
    obtain ⟨mv, gv⟩ := R.1 v hv8
    obtain ⟨h1, e1, v1, f1⟩ := mCopies w (s := v) (t := s) (by omega) hs10 mv
    have w1 := f1.wf w
    have a1 : hI h1 165 17 = iN p := by rw [(f1.2.2.2.2 165 17 (fun q => by unfold sP at q; omega)).1]; exact a
    refine ⟨pI h1 165 17 (iN (p + 1)), ?_, (FM.sp f1).tr (FS.pI (.inr ⟨rfl, .inr rfl⟩)).fm, fun _ => ⟨by rw [hI_pI, if_pos ⟨rfl, rfl⟩], v1.fr (P := fun x _ => x = 165) (FS.pI rfl) (fun x k q z => by unfold sP at q; omega), gv⟩⟩
    rw [e1, Option.bind_some, gM w1, Option.bind_some, a1, i_succ, pM w1, Option.bind_some]
    rfl
  · -- the loop's count
    rw [hv] at b1
    subst b2' b3
    have w1 : WF (pI h 165 17 (iN (p + 1))) := w
    have n37 : hI (pI h 165 17 (iN (p + 1))) 165 37 = hI h 165 37 := by rw [hI_pI, if_neg (by omega)]
    have f0 : FM (PE s) h (pI h 165 17 (iN (p + 1))) := (FS.pI (.inr ⟨rfl, .inr rfl⟩)).fm
    rw [b1, if_neg (show ¬ (97 ≤ (35 : Int32).toInt ∧ (35 : Int32).toInt ≤ 104) by decide), if_pos rfl, gM w, Option.bind_some, a, i_succ, pM w, Option.bind_some, gM w1, Option.bind_some, n37]
    cases ht : trn with
    | none =>
      rw [if_pos (R.2.1 ht)]
      exact ⟨_, rfl, f0, fun z => absurd ⟨rfl, rfl⟩ z⟩
    | some i =>
      obtain ⟨i6, l, q1, q2, q3⟩ := R.2.2 i ht
      have n0 : ¬ iN (l + 1) = 0 := fun q => by have := (i_eq (b := 0) (by omega) (by decide)).mp q; omega
      have al : alI (pI h 165 17 (iN (p + 1))) 186 (iN l) = some (iN i) := by rw [ML186 w1 q2, hI_pI, if_neg (by omega), q3]
      rw [q1, if_neg n0, MR39 w1, Option.bind_some, Option.bind_some, show (1 : Int32) = iN 1 from rfl, i_sub (by omega), Nat.add_sub_cancel, al, Option.bind_some, ckM w1, Option.bind_some, mInt w1 hs10, Option.bind_some]
      refine ⟨_, rfl, f0.tr (FM.sp (fsInt _)), fun _ => ⟨?_, ?_, ?_⟩⟩
      · rw [hI_pI, if_neg (by omega), hI_pI, if_neg (by omega), hI_pI, if_pos ⟨rfl, rfl⟩]
      · exact mvInt _
      · exact (show gV (vI (iN i)) from gvI (by unfold inI; rw [i_toInt (by omega)]; omega))
  · -- a text
    rw [hv] at b1
    subst b3
    have hq39 : L.getD (p + 1 + runT L 16 (p + 1)) 0 = 39 := (here_lt b2' (by decide)).2
    have hql := (here_lt b2' (by decide)).1
    subst b4
    have w1 : WF (pI h 166 s 3) := w
    have w2 : WF (pI (pI h 166 s 3) 168 s 0) := w
    have w3 : WF (pI (pI (pI h 166 s 3) 168 s 0) 165 17 (iN (p + 1))) := w
    have a2 : hI (pI (pI h 166 s 3) 168 s 0) 165 17 = iN p := by rw [hI_pI, if_neg (by omega), hI_pI, if_neg (by omega)]; exact a
    have f0 : FM (PE s) h (pI (pI (pI h 166 s 3) 168 s 0) 165 17 (iN (p + 1))) := (((FS.pI (.inl (.inl ⟨by omega, rfl⟩))).tr (FS.pI (.inl (.inl ⟨by omega, rfl⟩)))).tr (FS.pI (.inr ⟨rfl, .inr rfl⟩))).fm
    have n16 : runT L 16 (p + 1) ≤ 16 := by
      have : ∀ d p, runT L d p ≤ d := by
        intro d
        induction d with
        | zero => intro p; exact Nat.le_refl _
        | succ d ih =>
          intro p
          show (if isT (hereL L p) = true then runT L d (p + 1) + 1 else 0) ≤ _
          split
          · have := ih (p + 1); omega
          · omega
      exact this 16 (p + 1)
    obtain ⟨h', e', a', s', it', f'⟩ := tx_l hs10 hql hq39 (runT L 16 (p + 1)) 0 FU _ (T.fm f0 fun x k q => pe_tx q) (by omega) (FU_pos _ (by omega)) (by rw [hI_pI, if_pos ⟨rfl, rfl⟩, Nat.add_zero]) (by rw [hI_pI, if_neg (by omega), hI_pI, if_pos ⟨rfl, rfl⟩]; rfl) (fun i hi => by omega)
    have w' := f'.wf w3
    have tag : hI h' 166 s = 3 := by rw [f'.i (by omega), hI_pI, if_neg (by omega), hI_pI, if_neg (by omega), hI_pI, if_pos ⟨rfl, rfl⟩]
    rw [b1, if_neg (show ¬ (97 ≤ (39 : Int32).toInt ∧ (39 : Int32).toInt ≤ 104) by decide), if_neg (show ¬ ((39 : Int32) = 35) by decide), if_pos rfl, MR0 w, Option.bind_some, MS166 w hs10, Option.bind_some, MR2 w1, Option.bind_some, MS168 w1 hs10, Option.bind_some, gM w2, Option.bind_some, a2, i_succ, pM w2, Option.bind_some, e', Option.bind_some, gM w', Option.bind_some, a', i_succ, pM w', Option.bind_some]
    refine ⟨_, rfl, (f0.tr (f'.up fun x k q => ?_)).tr (FS.pI (.inr ⟨rfl, .inr rfl⟩)).fm, fun _ => ⟨?_, ⟨?_, by show 3 ≤ 4; decide, fun z => absurd z (by show ¬ 3 = 1; decide), fun z => absurd z (by show ¬ 3 = 2; decide), fun _ => ⟨?_, n16, fun i hi => ?_⟩⟩, ?_⟩⟩
    · unfold PE sP; omega
    · rw [hI_pI, if_pos ⟨rfl, rfl⟩, show p + 1 + runT L 16 (p + 1) + 1 = p + 2 + runT L 16 (p + 1) by omega]
    · rw [hI_pI, if_neg (by omega)]; exact tag
    · rw [hI_pI, if_neg (by omega)]; exact s'
    · rw [hI_pI, if_neg (by omega)]; exact it' i hi
    · exact gvT n16 fun i hi => T.2.2.2.2.2 _ (by omega)
  · -- a number below 0
    rw [hv] at b1
    subst b3
    rw [b1, if_neg (show ¬ (97 ≤ (45 : Int32).toInt ∧ (45 : Int32).toInt ≤ 104) by decide), if_neg (show ¬ ((45 : Int32) = 35) by decide), if_neg (show ¬ ((45 : Int32) = 39) by decide), gM w, Option.bind_some, a, jn_e, if_pos rfl]
    dsimp only
    rw [i_succ, pM w, Option.bind_some]
    obtain ⟨h', e', f', a', v'⟩ := num (pI h 165 17 (iN (p + 1))) n (-iN n) true (FS.pI (.inr ⟨rfl, .inr rfl⟩)).fm b2' (by rw [hI_pI, if_pos ⟨rfl, rfl⟩]; rfl) rfl
    rw [b1] at e'
    refine ⟨h', e', f', fun _ => ⟨a', v' ⟨fun _ => rfl, fun _ => b1⟩⟩⟩
  · -- a number
    rw [hv] at b1
    subst b3
    have ci := (isF_i _).mp b1
    have q1 : ¬ (97 ≤ (L.getD p 0).toInt ∧ (L.getD p 0).toInt ≤ 104) := by omega
    have q2 : ¬ L.getD p 0 = 35 := fun z => by rw [z, show (35 : Int32).toInt = 35 by decide] at ci; omega
    have q3 : ¬ L.getD p 0 = 39 := fun z => by rw [z, show (39 : Int32).toInt = 39 by decide] at ci; omega
    have q4 : ¬ L.getD p 0 = 45 := fun z => by rw [z, show (45 : Int32).toInt = 45 by decide] at ci; omega
    rw [if_neg q1, if_neg q2, if_neg q3, gM w, Option.bind_some, a, jn_e, if_neg q4]
    dsimp only
    rw [show iN p + 0 = iN (p + 0) from i_add p 0, Nat.add_zero, pM w, Option.bind_some]
    obtain ⟨h', e', f', a', v'⟩ := num (pI h 165 17 (iN p)) n (iN n) false (FS.pI (.inr ⟨rfl, .inr rfl⟩)).fm b2' (by rw [hI_pI, if_pos ⟨rfl, rfl⟩]; rfl) rfl
    exact ⟨h', e', f', fun _ => ⟨a', v' ⟨fun z => absurd z q4, fun z => by cases z⟩⟩⟩

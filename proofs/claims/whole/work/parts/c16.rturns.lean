/-! the reference's walk: a context looked at, turns of a loop -/
set_option maxHeartbeats 300000
theorem ea_e {h : hp} {tp : Tp} {lim : Nat} {fr : Fr} {c : List Nat} {ol lp : Nat} {trn : Option Nat} {lk : Bool} {dp : Nat} {R : Ot} {j was : Nat} (w : WF h) (l42 : hI h 165 42 = b2 lk) (Ro : RoQ h tp lim fr c ol lp trn lk dp R) (C : okC tp c) (hj : j < c.length) (bb : Option Nat) (ln : Nat) (hw : was ≤ 3) : ∃ h', fX14_endsAsAhead 165 (iN fr.length) (iN j) (iN ln) (iN was) h = some h' ∧ FM (PRn fr.length ol lp) h h' ∧ RoQ h' tp lim fr c ol lp trn lk dp (bO R fun σ' => if lk = true ∧ σ'.2.1 ≠ was then ftW (preF fr, c, j, bb, trn) σ' ln 3 else .inl σ') ∧ ∀ vs : Nat → vT, (∀ u, u < 8 → MV h u (vs u)) → ∀ u, u < 8 → MV h' u (vs u) := by
  cases lk with
  | false =>
    refine ⟨h, ?_, FM.rf _ h, ?_, fun _ q => q⟩
    · unfold fX14_endsAsAhead
      rw [gM w, Option.bind_some, l42, if_pos (show b2 false = 0 by decide)]
    · cases R with
      | inl σ' =>
        show RoQ h tp lim fr c ol lp trn false dp (if false = true ∧ σ'.2.1 ≠ was then ftW (preF fr, c, j, bb, trn) σ' ln 3 else .inl σ')
        rw [if_neg (fun q => by cases q.1)]; exact Ro
      | inr e => exact Ro
  | true =>
    cases R with
    | inr e =>
      have r : RFt h ol e := Ro
      refine ⟨h, ?_, FM.rf _ h, Ro, fun _ q => q⟩
      unfold fX14_endsAsAhead
      rw [gM w, Option.bind_some, l42, if_neg (show ¬ b2 true = 0 by decide), gM w, Option.bind_some, r.1, if_neg (by decide)]
    | inl σ' =>
      have H : RX h tp lim fr c ol lp trn true dp σ' := Ro
      have cx := H.rn.cx
      have ec : (iN σ'.2.1 = iN was) = (σ'.2.1 = was) := i_eq (by omega) (by omega)
      show ∃ h', _ ∧ _ ∧ RoQ h' tp lim fr c ol lp trn true dp (if true = true ∧ σ'.2.1 ≠ was then ftW (preF fr, c, j, bb, trn) σ' ln 3 else .inl σ') ∧ _
      unfold fX14_endsAsAhead
      rw [gM w, Option.bind_some, l42, if_neg (show ¬ b2 true = 0 by decide), gM w, Option.bind_some, H.fl, if_pos rfl, gM w, Option.bind_some, cx.1]
      by_cases z : σ'.2.1 = was
      · rw [if_pos (ec.mpr z), if_neg (fun q => q.2 z)]
        exact ⟨h, rfl, FM.rf _ h, H, fun _ q => q⟩
      · obtain ⟨h2, e2, f2, v2, r2⟩ := H.ft C hj bb ln 3
        rw [if_neg (fun q => z (ec.mp q)), if_pos ⟨rfl, z⟩, ckM w, Option.bind_some, show fX14_faults 165 (iN fr.length) (iN j) (iN ln) 3 h = _ from e2, Option.bind_some]
        exact ⟨h2, rfl, f2.fm.up fun x k q => pfr_n q, r2, fun vs q u hu => (q u hu).fr f2 (fun x k q z => by unfold sP at q; unfold Pfr at z; omega)⟩
/-- a row of a loop's numbers -/
theorem tc_l {g : gG3} {n lp : Nat} {f : Nat → Int32} (x1 x2 x3 x4 x5 x6 : Int32) (hn : n ≤ 6) (hl : lp ≤ 70) : ∀ (d k m : Nat) (h : hp), k + d = n → d < m → WF h → hI h 165 37 = iN lp → (∀ i, i < n → hI h 169 (128 + i) = f i) → (∀ i, i < k → hI h 187 (6 * lp + i) = f i) → ∃ h', fX14_turns_l12 g m 165 x1 x2 x3 x4 x5 x6 (iN n) (iN k) h = some h' ∧ FS (fun x k => x = 187 ∧ 6 * lp ≤ k) h h' ∧ ∀ i, i < n → hI h' 187 (6 * lp + i) = f i := by
  intro d
  induction d with
  | zero =>
    intro k m h hk hm w a I J
    obtain ⟨m, rfl⟩ : ∃ q, m = q + 1 := ⟨m - 1, by omega⟩
    refine ⟨h, ?_, FS.rf _ h, fun i hi => J i (by omega)⟩
    rw [fX14_turns_l12, if_pos (by rw [i_le (by omega) (by omega)]; omega)]
  | succ d ih =>
    intro k m h hk hm w a I J
    obtain ⟨m, rfl⟩ : ∃ q, m = q + 1 := ⟨m - 1, by omega⟩
    have w1 : WF (pI h 187 (6 * lp + k) (f k)) := w
    obtain ⟨h', e', f', r'⟩ := ih (k + 1) m (pI h 187 (6 * lp + k) (f k)) (by omega) (by omega) w1 (by rw [hI_pI, if_neg (by omega)]; exact a) (fun i hi => by rw [hI_pI, if_neg (by omega)]; exact I i hi) (fun i hi => by
      rw [hI_pI]
      by_cases c : i = k
      · rw [if_pos ⟨rfl, by omega⟩, c]
      · rw [if_neg (by omega)]; exact J i (by omega))
    have f0 : FS (fun x k => x = 187 ∧ 6 * lp ≤ k) h (pI h 187 (6 * lp + k) (f k)) := FS.pI ⟨rfl, by omega⟩
    refine ⟨h', ?_, f0.tr f', r'⟩
    rw [fX14_turns_l12, if_neg (by rw [i_le (by omega) (by omega)]; omega), MR40 w, Option.bind_some, gM w, Option.bind_some, a, MR3 w, Option.bind_some, show (128 : Int32) + iN k = iN (128 + k) from i_add 128 k, ML169 w (by omega), Option.bind_some, I k (by omega), six, MS187 w (by omega), Option.bind_some, i_succ, e']
/-- the variables, told alone -/
def VAL (h : hp) (vs : Nat → vT) : Prop := ∀ v, v < 8 → MV h v (vs v) ∧ gV (vs v)
/-- between the turns of a loop -/
def TI (h : hp) (tp : Tp) (lim : Nat) (ol lp : Nat) (lk : Bool) (dp : Nat) (n : Nat) (f : Nat → Int32) (τ : St) : Prop := VAL h τ.1 ∧ hI h 165 37 = iN (lp + 1) ∧ RN h lim τ.2.2.2 dp ol τ.2.1 τ.2.2.1 lk false ∧ (∀ i, i < n → hI h 187 (6 * lp + i) = f i) ∧ WRs h tp
def TIo (h : hp) (tp : Tp) (lim : Nat) (ol lp : Nat) (lk : Bool) (dp : Nat) (n : Nat) (f : Nat → Int32) (R : Ot) : Prop :=
  match R with
  | .inl τ => TI h tp lim ol lp lk dp n f τ
  | .inr e => RFt h ol e
theorem tn_l {d m f : Nat} (A : RA d m f) {h0 : hp} {tp : Tp} {lim : Nat} {fr : Fr} {c : List Nat} {ol lp : Nat} {trn : Option Nat} {lk : Bool} {dp : Nat} {σ : St} {j b n e0 v : Nat} {bb : Option Nat} {x : List Int32 × Option Nat × TY 5} {blk : Bool} {t : TY (m + 1)} {F : Nat → Int32} (hd : dp + d = 8) (H0 : RX h0 tp lim fr c ol lp trn lk dp σ) (C : okC tp c) (hj : j < c.length) (hx : tp (c.getD j 0) = some x) (e : pPcs x.1 n m blk b = .inl (t, e0)) (hbl : b ≤ x.1.length) (hm : m ≤ 4) (hb : blk = true → bb ≠ none) (b4 : ∀ b, bb = some b → b < 4) (ho : ol + 1 + m ≤ 5 * dp + 5) (hl : lp ≤ ol) (hv : v < 8) {N : Nat} (hN : N ≤ 6) (gF : ∀ i, i < N → inI (F i)) : ∀ (dd i lf : Nat) (h : hp) (τ : St), i + dd = N → dd + 1 < lf → FM (PRn fr.length ol lp) h0 h → TI h tp lim ol lp lk dp N F τ → ∃ h', fX14_turns_l64 (G3 f) lf 165 (iN fr.length) (iN j) (iN b) (bjE j bb) (oB bb) (iN v) (iN N) (iN i) h = some h' ∧ FM (PRn fr.length ol lp) h0 h' ∧ TIo h' tp lim ol lp lk dp N F (rnds (fun i τ => bO (wTr lk lk lim (wE lk lk lim tp d) (m + 1) t (preF fr, c, j, bb, some i) (upV τ.1 v (vI (F i)), τ.2)) fun τ' => .inl (τ.1, τ'.2)) dd i τ) := by
  have d8 := H0.rn.dp8.2
  intro dd
  induction dd with
  | zero =>
    intro i lf h τ hi hf f0 I
    obtain ⟨lf, rfl⟩ : ∃ q, lf = q + 1 := ⟨lf - 1, by omega⟩
    refine ⟨h, ?_, f0, I⟩
    rw [fX14_turns_l64, if_pos (by rw [i_le (by omega) (by omega)]; omega)]
  | succ dd ih =>
    intro i lf h τ hi hf f0 I
    obtain ⟨lf, rfl⟩ : ∃ q, lf = q + 1 := ⟨lf - 1, by omega⟩
    obtain ⟨V, a37, N0, It, Wy⟩ := I
    have w := f0.wf H0.w
    obtain ⟨h1, e1, f1, a1, O1⟩ := keeps_e w (show ol < 80 by omega) N0.o30 (fun u hu => (V u hu).1)
    have w1 := f1.wf w
    have n1 : ∀ x k, x ≠ 177 → x ≠ 178 → x ≠ 179 → x ≠ 180 → x ≠ 181 → ¬ (x = 165 ∧ k = 30) → hI h1 x k = hI h x k := fun x k q1 q2 q3 q4 q5 q6 => (f1.2.2.2.2 x k (by unfold Pol; omega)).1
    have w2 : WF (pI h1 186 lp (iN i)) := w1
    have w3 : WF (pI (pI (pI h1 186 lp (iN i)) 166 v 1) 167 v (F i)) := w1
    have b37 : hI h1 165 37 = iN (lp + 1) := by rw [n1 165 37 (by decide) (by decide) (by decide) (by decide) (by decide) (by decide)]; exact a37
    have f2 : FS (fun x k => (x = 186 ∧ k = lp) ∨ (x = 166 ∧ k = v) ∨ (x = 167 ∧ k = v)) h1 (pI (pI (pI h1 186 lp (iN i)) 166 v 1) 167 v (F i)) := ((FS.pI (.inl ⟨rfl, rfl⟩)).tr (FS.pI (.inr (.inl ⟨rfl, rfl⟩)))).tr (FS.pI (.inr (.inr ⟨rfl, rfl⟩)))
    have F1 : FM (PRn fr.length ol lp) h0 h1 := f0.tr (f1.fm.up fun x k q => by
    unfold Pol at q
    rcases q with (q | q) | q <;> (first | exact .inl (by omega) | exact .inr (.inl (by omega)) | exact .inr (.inr (.inl (by omega))) | exact .inr (.inr (.inr (.inl (by omega)))) | exact .inr (.inr (.inr (.inr (.inl (by omega))))) | exact .inr (.inr (.inr (.inr (.inr (.inl (by omega)))))) | exact .inr (.inr (.inr (.inr (.inr (.inr (.inl (by omega))))))) | exact .inr (.inr (.inr (.inr (.inr (.inr (.inr (.inl (by omega)))))))) | exact .inr (.inr (.inr (.inr (.inr (.inr (.inr (.inr (.inl (by omega))))))))) | exact .inr (.inr (.inr (.inr (.inr (.inr (.inr (.inr (.inr (.inl (by omega)))))))))) | exact .inr (.inr (.inr (.inr (.inr (.inr (.inr (.inr (.inr (.inr (by omega))))))))))))
    have F2 : FM (PRn fr.length ol lp) h0 (pI (pI (pI h1 186 lp (iN i)) 166 v 1) 167 v (F i)) := F1.tr (f2.fm.up fun x k q => by
    rcases q with q | q | q <;> (first | exact .inl (by omega) | exact .inr (.inl (by omega)) | exact .inr (.inr (.inl (by omega))) | exact .inr (.inr (.inr (.inl (by omega)))) | exact .inr (.inr (.inr (.inr (.inl (by omega))))) | exact .inr (.inr (.inr (.inr (.inr (.inl (by omega)))))) | exact .inr (.inr (.inr (.inr (.inr (.inr (.inl (by omega))))))) | exact .inr (.inr (.inr (.inr (.inr (.inr (.inr (.inl (by omega)))))))) | exact .inr (.inr (.inr (.inr (.inr (.inr (.inr (.inr (.inl (by omega))))))))) | exact .inr (.inr (.inr (.inr (.inr (.inr (.inr (.inr (.inr (.inl (by omega)))))))))) | exact .inr (.inr (.inr (.inr (.inr (.inr (.inr (.inr (.inr (.inr (by omega))))))))))))
    have n2 : ∀ x k, x ≠ 166 → x ≠ 167 → x ≠ 186 → hI (pI (pI (pI h1 186 lp (iN i)) 166 v 1) 167 v (F i)) x k = hI h1 x k := fun x k q1 q2 q3 => (f2.2.2.2.2 x k (by omega)).1
    have MVv : MV (pI (pI (pI h1 186 lp (iN i)) 166 v 1) 167 v (F i)) v (vI (F i)) := ⟨by rw [hI_pI, if_neg (by omega), hI_pI, if_pos ⟨rfl, rfl⟩]; rfl, (show (1 : Nat) ≤ 4 by decide), fun _ => by rw [hI_pI, if_pos ⟨rfl, rfl⟩]; rfl, fun z => absurd z (show ¬ (1 : Nat) = 2 by decide), fun z => absurd z (show ¬ 3 ≤ (1 : Nat) by decide)⟩
    have H3 : RX (pI (pI (pI h1 186 lp (iN i)) 166 v 1) 167 v (F i)) tp lim fr c (ol + 1) (lp + 1) (some i) lk dp (upV τ.1 v (vI (F i)), τ.2) := by
      refine H0.gn C F2 (fun _ _ q => q) ⟨fun u hu => ?_, (fun z => by cases z), fun i' z => ?_⟩ ⟨by rw [n2 165 37 (by decide) (by decide) (by decide)]; exact b37, by omega⟩ (N0.re (fun k q => by rw [n2 165 k (by decide) (by decide) (by decide)]; exact n1 165 k (by decide) (by decide) (by decide) (by decide) (by decide) (by omega)) (fun k => by rw [n2 176 k (by decide) (by decide) (by decide)]; exact n1 176 k (by decide) (by decide) (by decide) (by decide) (by decide) (by omega)) ⟨by rw [n2 165 35 (by decide) (by decide) (by decide), n1 165 35 (by decide) (by decide) (by decide) (by decide) (by decide) (by omega)]; exact N0.stp.1, N0.stp.2⟩ ⟨by rw [n2 165 36 (by decide) (by decide) (by decide), n1 165 36 (by decide) (by decide) (by decide) (by decide) (by decide) (by omega)]; exact N0.dp8.1, N0.dp8.2⟩ (by rw [n2 165 30 (by decide) (by decide) (by decide)]; exact a1) ⟨by rw [n2 165 23 (by decide) (by decide) (by decide), n1 165 23 (by decide) (by decide) (by decide) (by decide) (by decide) (by omega)]; exact N0.cx.1, N0.cx.2⟩) H0.1.2.2.2.2.1 ((Wy.fm f1.fm (fun x k q => by unfold Pol at q; omega)).fm f2.fm (fun x k q => by omega))
      · show MV _ u (upV τ.1 v (vI (F i)) u) ∧ gV (upV τ.1 v (vI (F i)) u)
        unfold upV
        by_cases q : u = v
        · rw [if_pos q, q]
          exact ⟨MVv, (show (1 : Nat) ≤ 4 by decide), fun _ => gF i (by omega), fun z => absurd z (show ¬ (1 : Nat) = 2 by decide), fun z => absurd z (show ¬ (1 : Nat) = 3 by decide), fun z => absurd z (show ¬ (1 : Nat) = 4 by decide)⟩
        · rw [if_neg q]
          exact ⟨((V u hu).1.fr f1 (fun x k y z => by unfold sP at y; unfold Pol at z; omega)).fr f2 (fun x k y z => by unfold sP at y; omega), (V u hu).2⟩
      · cases z
        exact ⟨by omega, lp, by rw [n2 165 37 (by decide) (by decide) (by decide)]; exact b37, by omega, by rw [hI_pI, if_neg (by omega), hI_pI, if_neg (by omega), hI_pI, if_pos ⟨rfl, rfl⟩]⟩
    obtain ⟨r, h4, e4, f4, o4⟩ := A _ tp lim fr c (ol + 1) (lp + 1) (some i) lk dp _ j bb x n b e0 blk t hd H3 C hj hx e hbl hm hb b4 ho (by omega)
    have w4 := f4.wf w3
    have f4' : FM (PRn fr.length ol lp) (pI (pI (pI h1 186 lp (iN i)) 166 v 1) 167 v (F i)) h4 := f4.up fun x k q => by
        unfold PRn at q
        rcases q with q | q | q | q | q | q | q | q | q | q | q <;> (first | exact .inl (by omega) | exact .inr (.inl (by omega)) | exact .inr (.inr (.inl (by omega))) | exact .inr (.inr (.inr (.inl (by omega)))) | exact .inr (.inr (.inr (.inr (.inl (by omega))))) | exact .inr (.inr (.inr (.inr (.inr (.inl (by omega)))))) | exact .inr (.inr (.inr (.inr (.inr (.inr (.inl (by omega))))))) | exact .inr (.inr (.inr (.inr (.inr (.inr (.inr (.inl (by omega)))))))) | exact .inr (.inr (.inr (.inr (.inr (.inr (.inr (.inr (.inl (by omega))))))))) | exact .inr (.inr (.inr (.inr (.inr (.inr (.inr (.inr (.inr (.inl (by omega)))))))))) | exact .inr (.inr (.inr (.inr (.inr (.inr (.inr (.inr (.inr (.inr (by omega)))))))))))
    obtain ⟨h5, e5, f5, v5, o5⟩ := RoQ.cb (vs := τ.1) C w4 o4 (fun u hu => (((O1 u hu).fs f2 (fun x k q z => by unfold oP at q; omega)).fm f4 (fun x k q z => by unfold oP at q; unfold PRn at z; omega))) (fun u hu => (V u hu).2) (by omega)
    have w5 := f5.wf w4
    have It5 : ∀ k, k < N → hI h5 187 (6 * lp + k) = F k := fun k hk => by
      rw [f5.i (fun z => by unfold PRn at z; omega), f4.i (fun z => by unfold PRn at z; omega), n2 187 _ (by decide) (by decide) (by decide), n1 187 _ (by decide) (by decide) (by decide) (by decide) (by decide) (by omega)]
      exact It k hk
    have F5 : FM (PRn fr.length ol lp) h0 h5 := (F2.tr f4').tr (f5.up fun x k q => by
        unfold PRn at q
        rcases q with q | q | q | q | q | q | q | q | q | q | q <;> (first | exact .inl (by omega) | exact .inr (.inl (by omega)) | exact .inr (.inr (.inl (by omega))) | exact .inr (.inr (.inr (.inl (by omega)))) | exact .inr (.inr (.inr (.inr (.inl (by omega))))) | exact .inr (.inr (.inr (.inr (.inr (.inl (by omega)))))) | exact .inr (.inr (.inr (.inr (.inr (.inr (.inl (by omega))))))) | exact .inr (.inr (.inr (.inr (.inr (.inr (.inr (.inl (by omega)))))))) | exact .inr (.inr (.inr (.inr (.inr (.inr (.inr (.inr (.inl (by omega))))))))) | exact .inr (.inr (.inr (.inr (.inr (.inr (.inr (.inr (.inr (.inl (by omega)))))))))) | exact .inr (.inr (.inr (.inr (.inr (.inr (.inr (.inr (.inr (.inr (by omega))))))))))))
    have st : fX14_turns_l64 (G3 f) (lf + 1) 165 (iN fr.length) (iN j) (iN b) (bjE j bb) (oB bb) (iN v) (iN N) (iN i) h = fX14_turns_l64 (G3 f) lf 165 (iN fr.length) (iN j) (iN b) (bjE j bb) (oB bb) (iN v) (iN N) (iN (i + 1)) h5 := by
      have hfl : hI h 165 43 = 0 := N0.2.2.2.2.2.2.2.2.2.2.2
      have it1 : hI (pI h1 186 lp (iN i)) 187 (6 * lp + i) = F i := by rw [hI_pI, if_neg (by omega), n1 187 _ (by decide) (by decide) (by decide) (by decide) (by decide) (by omega)]; exact It i (by omega)
      have c37 : hI (pI h1 186 lp (iN i)) 165 37 = iN (lp + 1) := by rw [hI_pI, if_neg (by omega)]; exact b37
      rw [fX14_turns_l64, if_neg (by rw [i_le (by omega) (by omega)]; omega), gM w, Option.bind_some, hfl, if_pos rfl, ckM w, Option.bind_some, e1, Option.bind_some, MR39 w1, Option.bind_some, gM w1, Option.bind_some, b37, show iN (lp + 1) - 1 = iN lp from i_sub1 (by omega), MS186 w1 (by omega), Option.bind_some, MR40 w2, Option.bind_some, gM w2, Option.bind_some, c37, show iN (lp + 1) - 1 = iN lp from i_sub1 (by omega), six, ML187 w2 (by omega), Option.bind_some, it1, ckM w2, Option.bind_some, mInt w2 (by omega), Option.bind_some, ckM w3, Option.bind_some, e4, bd2_s, ckM w4, Option.bind_some, e5, Option.bind_some, i_succ]
    rw [st]
    have eF : ∀ R : Ot, (bO (bO R fun σ' => (.inl ((upV τ.1 v (vI (F i)), τ.2).1, σ'.2) : Ot)) fun τ' => .inl (τ.1, τ'.2)) = bO R fun σ' => .inl (τ.1, σ'.2) := fun R => by cases R <;> rfl
    show ∃ h', _ ∧ _ ∧ TIo h' tp lim ol lp lk dp N F (bO (bO (wTr lk lk lim (wE lk lk lim tp d) (m + 1) t (preF fr, c, j, bb, some i) (upV τ.1 v (vI (F i)), τ.2)) fun τ' => .inl (τ.1, τ'.2)) (rnds _ dd (i + 1)))
    rw [show wTr lk lk lim (wE lk lk lim tp d) (m + 1) t (preF fr, c, j, bb, some i) (upV τ.1 v (vI (F i)), τ.2) = bO (wL (X := TY m) (fun pc => wPc lk lk lim (wE lk lk lim tp d) (wTr lk lk lim (wE lk lk lim tp d) m) pc (preF fr, c, j, bb, some i)) t (upV τ.1 v (vI (F i)), τ.2)) fun σ' => .inl ((upV τ.1 v (vI (F i)), τ.2).1, σ'.2) from rfl, eF]
    cases hR : wL (X := TY m) (fun pc => wPc lk lk lim (wE lk lk lim tp d) (wTr lk lk lim (wE lk lk lim tp d) m) pc (preF fr, c, j, bb, some i)) t (upV τ.1 v (vI (F i)), τ.2) with
    | inl σ1 =>
      rw [hR] at o5
      have H5 : RX h5 tp lim fr c ol (lp + 1) (some i) lk dp (τ.1, σ1.2) := o5
      obtain ⟨h', a, b', c'⟩ := ih (i + 1) lf h5 (τ.1, σ1.2) (by omega) (by omega) F5 ⟨H5.1.2.2.1.1.1, H5.1.2.2.1.2.1, H5.rn, It5, H5.1.2.2.2.2.2⟩
      exact ⟨h', a, b', c'⟩
    | inr e' =>
      rw [hR] at o5
      have r5 : RFt h5 ol e' := o5
      refine ⟨h5, ?_, F5, r5⟩
      obtain ⟨lf, rfl⟩ : ∃ q, lf = q + 1 := ⟨lf - 1, by omega⟩
      rw [fX14_turns_l64]
      by_cases z : iN N ≤ iN (i + 1)
      · rw [if_pos z]
      · rw [if_neg z, gM w5, Option.bind_some, r5.1, if_neg (by decide)]
theorem turns_r {d m f : Nat} (A : RA d m f) {h : hp} {tp : Tp} {lim : Nat} {fr : Fr} {c : List Nat} {ol lp : Nat} {trn : Option Nat} {lk : Bool} {dp : Nat} {σ : St} {j b n e0 v : Nat} {bb : Option Nat} {x : List Int32 × Option Nat × TY 5} {blk : Bool} {t : TY (m + 1)} {V : vT} (hd : dp + d = 8) (H : RX h tp lim fr c ol lp trn lk dp σ) (C : okC tp c) (hj : j < c.length) (hx : tp (c.getD j 0) = some x) (e : pPcs x.1 n m blk b = .inl (t, e0)) (hbl : b ≤ x.1.length) (hm : m ≤ 4) (hb : blk = true → bb ≠ none) (b4 : ∀ b, bb = some b → b < 4) (ho : ol + 1 + m ≤ 5 * dp + 5) (hl : lp ≤ ol) (hv : v < 8) (M : MV h 8 V) (g : gV V) (V4 : V.1 = 4) : ∃ h', (G3 (f + 1)).2.2.2.2.2.1 165 (iN fr.length) (iN j) (iN b) (bjE j bb) (oB bb) (iN v) h = some h' ∧ FM (PRn fr.length ol lp) h h' ∧ RoQ h' tp lim fr c ol lp trn lk dp (rnds (fun i τ => bO (wTr lk lk lim (wE lk lk lim tp d) (m + 1) t (preF fr, c, j, bb, some i) (upV τ.1 v (vI (V.2.2.2.2 i)), τ.2)) fun τ' => .inl (τ.1, τ'.2)) V.2.2.2.1 0 σ) := by
  have d8 := H.rn.dp8.2
  obtain ⟨g6, gI⟩ := g.2.2.2.2 V4
  obtain ⟨m1, _, _, _, m5⟩ := M
  obtain ⟨y1, y2, y3⟩ := m5 (by omega)
  have w := H.w
  obtain ⟨_, ⟨a37, l79⟩⟩ := H.1.2.2.1
  obtain ⟨h1, e1, f1, r1⟩ := tc_l (g := G3 f) (f := V.2.2.2.2) (iN fr.length) (iN j) (iN b) (bjE j bb) (oB bb) (iN v) g6 (show lp ≤ 70 by omega) V.2.2.2.1 0 FU h (by omega) (FU_pos _ (by omega)) w a37 (fun i hi => y3 i hi) (fun i hi => absurd hi (Nat.not_lt_zero _))
  have w1 := f1.wf w
  have b37 : hI h1 165 37 = iN lp := by rw [(f1.2.2.2.2 165 37 (by omega)).1]; exact a37
  have w2 : WF (pI h1 165 37 (iN (lp + 1))) := w1
  have f2 : FS (fun x k => (x = 187 ∧ 6 * lp ≤ k) ∨ (x = 165 ∧ k = 37)) h (pI h1 165 37 (iN (lp + 1))) := (f1.up fun _ _ q => .inl q).tr (FS.pI (.inr ⟨rfl, rfl⟩))
  have F2 : FM (PRn fr.length ol lp) h (pI h1 165 37 (iN (lp + 1))) := f2.fm.up fun x k q => by
    rcases q with q | q <;> (first | exact .inl (by omega) | exact .inr (.inl (by omega)) | exact .inr (.inr (.inl (by omega))) | exact .inr (.inr (.inr (.inl (by omega)))) | exact .inr (.inr (.inr (.inr (.inl (by omega))))) | exact .inr (.inr (.inr (.inr (.inr (.inl (by omega)))))) | exact .inr (.inr (.inr (.inr (.inr (.inr (.inl (by omega))))))) | exact .inr (.inr (.inr (.inr (.inr (.inr (.inr (.inl (by omega)))))))) | exact .inr (.inr (.inr (.inr (.inr (.inr (.inr (.inr (.inl (by omega))))))))) | exact .inr (.inr (.inr (.inr (.inr (.inr (.inr (.inr (.inr (.inl (by omega)))))))))) | exact .inr (.inr (.inr (.inr (.inr (.inr (.inr (.inr (.inr (.inr (by omega)))))))))))
  obtain ⟨h3, e3, f3, o3⟩ := tn_l A hd H C hj hx e hbl hm hb b4 ho hl hv g6 gI V.2.2.2.1 0 FU (pI h1 165 37 (iN (lp + 1))) σ (by omega) (FU_pos _ (by omega)) F2 ⟨fun u hu => ⟨(H.1.2.2.1.1.1 u hu).1.fr f2 (fun x k q z => by unfold sP at q; omega), (H.1.2.2.1.1.1 u hu).2⟩, by rw [hI_pI, if_pos ⟨rfl, rfl⟩], H.rn.fm f2.fm (fun x k q => by omega), fun i hi => by rw [hI_pI, if_neg (by omega)]; exact r1 i hi, H.1.2.2.2.2.2.fm f2.fm (fun x k q => by omega)⟩
  have w3 := f3.wf w
  have st : (G3 (f + 1)).2.2.2.2.2.1 165 (iN fr.length) (iN j) (iN b) (bjE j bb) (oB bb) (iN v) h = some (pI h3 165 37 (hI h3 165 37 - 1)) := by
    show fX14_turns_b (G3 f) 165 (iN fr.length) (iN j) (iN b) (bjE j bb) (oB bb) (iN v) h = _
    unfold fX14_turns_b
    rw [MR2 w, Option.bind_some, show alI h 168 8 = some (hI h 168 8) from ML168 w (by decide), Option.bind_some, y1, show fX14_turns_l12 (G3 f) FU 165 _ _ _ _ _ _ (iN V.2.2.2.1) 0 h = _ from e1, Option.bind_some, gM w1, Option.bind_some, b37, i_succ, pM w1, Option.bind_some, show fX14_turns_l64 (G3 f) FU 165 _ _ _ _ _ _ (iN V.2.2.2.1) 0 _ = _ from e3, Option.bind_some, gM w3, Option.bind_some, pM w3, Option.bind_some]
  have f4 : FM (fun x k => x = 165 ∧ k = 37) h3 (pI h3 165 37 (hI h3 165 37 - 1)) := (FS.pI ⟨rfl, rfl⟩).fm
  have F4 : FM (PRn fr.length ol lp) h (pI h3 165 37 (hI h3 165 37 - 1)) := f3.tr (f4.up fun x k q => by
    (first | exact .inl (by omega) | exact .inr (.inl (by omega)) | exact .inr (.inr (.inl (by omega))) | exact .inr (.inr (.inr (.inl (by omega)))) | exact .inr (.inr (.inr (.inr (.inl (by omega))))) | exact .inr (.inr (.inr (.inr (.inr (.inl (by omega)))))) | exact .inr (.inr (.inr (.inr (.inr (.inr (.inl (by omega))))))) | exact .inr (.inr (.inr (.inr (.inr (.inr (.inr (.inl (by omega)))))))) | exact .inr (.inr (.inr (.inr (.inr (.inr (.inr (.inr (.inl (by omega))))))))) | exact .inr (.inr (.inr (.inr (.inr (.inr (.inr (.inr (.inr (.inl (by omega)))))))))) | exact .inr (.inr (.inr (.inr (.inr (.inr (.inr (.inr (.inr (.inr (by omega))))))))))))
  refine ⟨_, st, F4, ?_⟩
  cases hR : rnds (fun i τ => bO (wTr lk lk lim (wE lk lk lim tp d) (m + 1) t (preF fr, c, j, bb, some i) (upV τ.1 v (vI (V.2.2.2.2 i)), τ.2)) fun τ' => .inl (τ.1, τ'.2)) V.2.2.2.1 0 σ with
  | inl τ =>
    rw [hR] at o3
    obtain ⟨V3, c37, N3, _, Wy⟩ := o3
    have d37 : hI (pI h3 165 37 (hI h3 165 37 - 1)) 165 37 = iN lp := by rw [hI_pI, if_pos ⟨rfl, rfl⟩, c37]; exact i_sub1 (by omega)
    refine H.re C F4 (fun _ _ q => q) ⟨fun u hu => ⟨(V3 u hu).1.fm f4 (fun x k q z => by unfold sP at q; omega), (V3 u hu).2⟩, fun z => by rw [d37, ← a37]; exact H.1.2.2.1.1.2.1 z, fun i z => ?_⟩ d37 (N3.fm f4 (fun x k q => by omega)) (Wy.fm f4 (fun x k q => by omega))
    obtain ⟨i6, l, k1, k2, k3⟩ := H.1.2.2.1.1.2.2 i z
    have el : lp = l + 1 := (i_eq (by omega) (by omega)).mp (a37.symm.trans k1)
    refine ⟨i6, l, by rw [d37, el], k2, ?_⟩
    rw [f4.i (fun z => by omega), f3.i (fun z => by unfold PRn at z; omega)]
    exact k3
  | inr e' =>
    rw [hR] at o3
    exact RFt.fm o3 f4 (fun x k q => by omega) (by rw [hI_pI, if_neg (by decide)]; exact RFt.o o3)

/-! REALS, TEXTS, LISTS SHOWN -/
theorem fneg_mod (r : UInt32) : (FP.fneg r).toNat % 2 ^ 31 = r.toNat % 2 ^ 31 := by
  unfold FP.fneg
  rw [UInt32.toNat_xor, Nat.xor_mod_two_pow]
  have : (2147483648 : UInt32).toNat % 2 ^ 31 = 0 := by decide
  rw [this, Nat.xor_zero]
theorem fneg_lt {r : UInt32} (h : 2 ^ 31 ≤ r.toNat) : (FP.fneg r).toNat < 2 ^ 31 := by
  unfold FP.fneg
  have hb := r.toNat_lt
  have e1 : (r ^^^ 2147483648).toNat / 2 ^ 31 = 0 := by
    rw [UInt32.toNat_xor, Nat.xor_div_two_pow, show r.toNat / 2 ^ 31 = 1 by omega, show (2147483648 : UInt32).toNat / 2 ^ 31 = 1 by decide]
    rfl
  omega
theorem bd2_s {A B C : Type} (a : A) (b : B) (f : A → B → Option C) : bd2 (some (a, b)) f = f a b := rfl
/-- the amount of a REAL -/
def amF (r : UInt32) : UInt32 := if 0 ≤ (Op.cmpValue (FP.fcmp r FP.fconst0) .g) then r else FP.fneg r
theorem gF_sign {r : UInt32} (g : gF r) : 0 ≤ (Op.cmpValue (FP.fcmp r FP.fconst0) .g) ↔ r.toNat < 2 ^ 31 := by
  rw [cmpg_ge (gF_fin g).ne_nan nn0, ky0]
  unfold Jvm.FP.Core.fkey
  have := g.2
  have := r.toNat_lt
  split <;> omega
theorem amF_good {r : UInt32} (g : gF r) : gF (amF r) ∧ (amF r).toNat < 2 ^ 31 := by
  unfold amF
  by_cases c : 0 ≤ (Op.cmpValue (FP.fcmp r FP.fconst0) .g)
  · rw [if_pos c]; exact ⟨g, (gF_sign g).mp c⟩
  · rw [if_neg c]
    have h1 : 2 ^ 31 ≤ r.toNat := Nat.le_of_not_lt fun q => c ((gF_sign g).mpr q)
    have h2 := fneg_lt h1
    exact ⟨⟨by rw [fneg_mod]; exact g.1, by omega⟩, h2⟩
/-- the three figures behind the point, as an int -/
def reF (r : UInt32) : Int32 := FP.f2i (FP.fmul (FP.fsub (amF r) (FP.i2f (FP.f2i (amF r)))) 1148846080)
def d1F (x : Int32) : Int32 := 48 + (x / 100 - x / 100 / 10 * 10)
def d2F (x : Int32) : Int32 := 48 + (x / 10 - x / 10 / 10 * 10)
def d3F (x : Int32) : Int32 := 48 + (x - x / 10 * 10)
/-- a REAL SHOWN -/
def shR (r : UInt32) : List Int32 := (if 0 ≤ (Op.cmpValue (FP.fcmp r FP.fconst0) .g) then [] else [45]) ++ shI (FP.f2i (amF r)) ++ [46] ++ [d1F (reF r)] ++ [d2F (reF r)] ++ [d3F (reF r)]
theorem dv_l {x k : Int32} (hk : k ≠ 0) : dvI x k = some (x / k) := by unfold dvI; rw [if_neg hk]
theorem rm_l {x k : Int32} (hk : k ≠ 0) : rmI x k = some (x - x / k * k) := by unfold rmI; rw [if_neg hk]
theorem re_nn {r : UInt32} (g : gF r) : fnn (FP.fsub (amF r) (FP.i2f (FP.f2i (amF r)))) = some (FP.fsub (amF r) (FP.i2f (FP.f2i (amF r)))) ∧ fnn (FP.fmul (FP.fsub (amF r) (FP.i2f (FP.f2i (amF r)))) 1148846080) = some (FP.fmul (FP.fsub (amF r) (FP.i2f (FP.f2i (amF r)))) 1148846080) := by
  have h1 : Jvm.FP.Core.fIsNaN (FP.fsub (amF r) (FP.i2f (FP.f2i (amF r)))) = false := Jvm.FP.Core.fsub_out (gF_fin (amF_good g).1).notNaN (Jvm.FP.Core.i2f_fin _)
  exact ⟨fnn_ok h1, fnn_ok (Jvm.FP.Core.fmul_out' h1 (by rw [Jvm.FP.Core.fin_bits32]; decide) (by rw [Jvm.FP.Core.zero_bits232]; decide))⟩
theorem shR_len (r : UInt32) : (shR r).length ≤ 13 := by
  unfold shR
  have := shI_len (FP.f2i (amF r))
  simp only [List.length_append]
  split <;> simp <;> omega
theorem cShR {h : hp} {a b x1 b1 cap : Nat} {L : List Int32} {r : UInt32} (g : gF r) (H : VO h a b) (hr : hF h a 2 = r) (ha : a ∉ [x1, b1]) (N : NL h x1 b1 cap L) (hl : L.length + 13 ≤ cap) : ∃ h', fX11_showReal a x1 h = some h' ∧ NL h' x1 b1 cap (L ++ shR r) ∧ FI [x1, b1] h h' := by
  obtain ⟨t1, t2, r1, ne⟩ := id H
  obtain ⟨n1, n2⟩ := re_nn g
  have wi := f2i_in (amF_good g).1
  have z100 : (100 : Int32) ≠ 0 := by decide
  have z10 : (10 : Int32) ≠ 0 := by decide
  have tail : ∀ (h1 : hp) (L1 : List Int32), FI [x1, b1] h h1 → NL h1 x1 b1 cap L1 → L1.length + 12 ≤ cap → ∃ h', ((fX11_showInt (FP.f2i (amF r)) x1 h1).bind fun h10 => (ckT h10 x1 4).bind fun _ => bd2 (fX5_add x1 46 h10) fun _ h13 => (dvI (reF r) 100).bind fun v15 => (rmI v15 10).bind fun v17 => (ckT h13 x1 4).bind fun _ => bd2 (fX5_add x1 (48 + v17) h13) fun _ h21 => (dvI (reF r) 10).bind fun v23 => (rmI v23 10).bind fun v25 => (ckT h21 x1 4).bind fun _ => bd2 (fX5_add x1 (48 + v25) h21) fun _ h29 => (rmI (reF r) 10).bind fun v31 => (ckT h29 x1 4).bind fun _ => bd2 (fX5_add x1 (48 + v31) h29) fun _ h35 => some h35) = some h' ∧ NL h' x1 b1 cap (L1 ++ shI (FP.f2i (amF r)) ++ [46] ++ [d1F (reF r)] ++ [d2F (reF r)] ++ [d3F (reF r)]) ∧ FI [x1, b1] h h' := by
    intro h1 L1 F1 N1 hl1
    have sl := shI_len (FP.f2i (amF r))
    obtain ⟨h2, e2, N2, F2⟩ := cShI wi.1 N1 (by omega)
    obtain ⟨h3, e3, N3, F3⟩ := nAdd' 46 N2 (by rw [List.length_append]; omega)
    obtain ⟨h4, e4, N4, F4⟩ := nAdd' (d1F (reF r)) N3 (by simp only [List.length_append, List.length_singleton]; omega)
    obtain ⟨h5, e5, N5, F5⟩ := nAdd' (d2F (reF r)) N4 (by simp only [List.length_append, List.length_singleton]; omega)
    obtain ⟨h6, e6, N6, F6⟩ := nAdd' (d3F (reF r)) N5 (by simp only [List.length_append, List.length_singleton]; omega)
    refine ⟨h6, ?_, N6, FI.tr' (FI.tr' (FI.tr' (FI.tr' (FI.tr' F1 F2) F3) F4) F5) F6⟩
    have c2 : ckT h2 x1 4 = some () := by unfold ckT; rw [N2.1.1]; rfl
    have c3 : ckT h3 x1 4 = some () := by unfold ckT; rw [N3.1.1]; rfl
    have c4 : ckT h4 x1 4 = some () := by unfold ckT; rw [N4.1.1]; rfl
    have c5 : ckT h5 x1 4 = some () := by unfold ckT; rw [N5.1.1]; rfl
    rw [e2, Option.bind_some, c2, Option.bind_some]
    rw [e3, bd2_s, dv_l z100, Option.bind_some, rm_l z10, Option.bind_some, c3, Option.bind_some]
    rw [show fX5_add x1 (48 + (reF r / 100 - reF r / 100 / 10 * 10)) h3 = _ from e4, bd2_s, dv_l z10, Option.bind_some, rm_l z10, Option.bind_some, c4, Option.bind_some]
    rw [show fX5_add x1 (48 + (reF r / 10 - reF r / 10 / 10 * 10)) h4 = _ from e5, bd2_s, rm_l z10, Option.bind_some, c5, Option.bind_some]
    rw [show fX5_add x1 (48 + (reF r - reF r / 10 * 10)) h5 = _ from e6, bd2_s]
  have g2 : ∀ h1 : hp, FI [x1, b1] h h1 → gfF h1 a 10 2 = some r := fun h1 F1 => by
    unfold gfF; rw [F1.2.2.1, t1, if_pos rfl, (F1.2.2.2.2 a ha).2, hr]
  unfold fX11_showReal shR
  rw [g2 h (FI.rf _ _), Option.bind_some]
  by_cases c : 0 ≤ (Op.cmpValue (FP.fcmp r FP.fconst0) .g)
  · have ea : amF r = r := by unfold amF; rw [if_pos c]
    obtain ⟨h', e, N', F'⟩ := tail h L (FI.rf _ _) N (by omega)
    rw [if_pos c]
    refine ⟨h', ?_, by simpa using N', F'⟩
    simp only [jn_e]
    rw [if_pos c, g2 h (FI.rf _ _), Option.bind_some, if_pos c, Option.bind_some]
    rw [ea] at n1 n2 e
    rw [n1, Option.bind_some, n2, Option.bind_some]
    unfold reF at e
    rw [ea] at e
    exact e
  · have ea : amF r = FP.fneg r := by unfold amF; rw [if_neg c]
    obtain ⟨h1, e1, N1, F1⟩ := nAdd' 45 N (by omega)
    obtain ⟨h', e, N', F'⟩ := tail h1 (L ++ [45]) F1 N1 (by rw [List.length_append]; simp; omega)
    rw [if_neg c]
    refine ⟨h', ?_, by simpa using N', F'⟩
    have c1 : ckT h x1 4 = some () := by unfold ckT; rw [N.1.1]; rfl
    simp only [jn_e]
    rw [if_neg c, c1, Option.bind_some]
    rw [e1, bd2_s, g2 h1 F1, Option.bind_some, if_neg c, Option.bind_some]
    rw [ea] at n1 n2 e
    rw [n1, Option.bind_some, n2, Option.bind_some]
    unfold reF at e
    rw [ea] at e
    exact e
theorem mShR {h : hp} (w : WF h) {L : List Int32} {r : UInt32} (g : gF r) (N : ML h L) (hl : L.length + 13 ≤ 64) : ∃ h', fX14_showsReal 165 r h = some h' ∧ ML h' (L ++ shR r) ∧ FS shP h h' := by
  obtain ⟨n1, n2⟩ := re_nn g
  have wi := f2i_in (amF_good g).1
  have z100 : (100 : Int32) ≠ 0 := by decide
  have z10 : (10 : Int32) ≠ 0 := by decide
  have tail : ∀ (h1 : hp) (L1 : List Int32), WF h1 → FS shP h h1 → ML h1 L1 → L1.length + 12 ≤ 64 → ∃ h', ((ckT h1 165 13).bind fun _ => (fX14_showsInt 165 (FP.f2i (amF r)) h1).bind fun h6 => (ckT h6 165 13).bind fun _ => (fX14_shows 165 46 h6).bind fun h9 => (dvI (reF r) 100).bind fun v11 => (rmI v11 10).bind fun v13 => (ckT h9 165 13).bind fun _ => (fX14_shows 165 (48 + v13) h9).bind fun h16 => (dvI (reF r) 10).bind fun v18 => (rmI v18 10).bind fun v20 => (ckT h16 165 13).bind fun _ => (fX14_shows 165 (48 + v20) h16).bind fun h23 => (rmI (reF r) 10).bind fun v25 => (ckT h23 165 13).bind fun _ => (fX14_shows 165 (48 + v25) h23).bind fun h28 => some h28) = some h' ∧ ML h' (L1 ++ shI (FP.f2i (amF r)) ++ [46] ++ [d1F (reF r)] ++ [d2F (reF r)] ++ [d3F (reF r)]) ∧ FS shP h h' := by
    intro h1 L1 w1 F1 N1 hl1
    have sl := shI_len (FP.f2i (amF r))
    obtain ⟨h2, e2, N2, F2⟩ := mShI w1 wi.1 N1 (by omega)
    have w2 := F2.wf w1
    obtain ⟨h3, e3, N3, F3⟩ := mShows w2 46 N2 (by rw [List.length_append]; omega)
    have w3 := F3.wf w2
    obtain ⟨h4, e4, N4, F4⟩ := mShows w3 (d1F (reF r)) N3 (by simp only [List.length_append, List.length_singleton]; omega)
    have w4 := F4.wf w3
    obtain ⟨h5, e5, N5, F5⟩ := mShows w4 (d2F (reF r)) N4 (by simp only [List.length_append, List.length_singleton]; omega)
    have w5 := F5.wf w4
    obtain ⟨h6, e6, N6, F6⟩ := mShows w5 (d3F (reF r)) N5 (by simp only [List.length_append, List.length_singleton]; omega)
    refine ⟨h6, ?_, N6, FS.tr (FS.tr (FS.tr (FS.tr (FS.tr F1 F2) F3) F4) F5) F6⟩
    rw [ckM w1, Option.bind_some, e2, Option.bind_some, ckM w2, Option.bind_some]
    rw [e3, Option.bind_some, dv_l z100, Option.bind_some, rm_l z10, Option.bind_some, ckM w3, Option.bind_some]
    rw [show fX14_shows 165 (48 + (reF r / 100 - reF r / 100 / 10 * 10)) h3 = _ from e4, Option.bind_some, dv_l z10, Option.bind_some, rm_l z10, Option.bind_some, ckM w4, Option.bind_some]
    rw [show fX14_shows 165 (48 + (reF r / 10 - reF r / 10 / 10 * 10)) h4 = _ from e5, Option.bind_some, rm_l z10, Option.bind_some, ckM w5, Option.bind_some]
    rw [show fX14_shows 165 (48 + (reF r - reF r / 10 * 10)) h5 = _ from e6, Option.bind_some]
  unfold fX14_showsReal shR
  by_cases c : 0 ≤ (Op.cmpValue (FP.fcmp r FP.fconst0) .g)
  · have ea : amF r = r := by unfold amF; rw [if_pos c]
    obtain ⟨h', e, N', F'⟩ := tail h L w (FS.rf _ _) N (by omega)
    rw [if_pos c]
    refine ⟨h', ?_, by simpa using N', F'⟩
    simp only [jn_e]
    rw [if_pos c, if_pos c]
    rw [ea] at n1 n2 e
    rw [n1, Option.bind_some, n2, Option.bind_some]
    unfold reF at e
    rw [ea] at e
    exact e
  · have ea : amF r = FP.fneg r := by unfold amF; rw [if_neg c]
    obtain ⟨h1, e1, N1, F1⟩ := mShows w 45 N (by omega)
    obtain ⟨h', e, N', F'⟩ := tail h1 (L ++ [45]) (F1.wf w) F1 N1 (by rw [List.length_append]; simp; omega)
    rw [if_neg c]
    refine ⟨h', ?_, by simpa using N', F'⟩
    simp only [jn_e]
    rw [if_neg c, ckM w, Option.bind_some, e1, Option.bind_some, if_neg c]
    rw [ea] at n1 n2 e
    rw [n1, Option.bind_some, n2, Option.bind_some]
    unfold reF at e
    rw [ea] at e
    exact e
/-- d bytes of a TEXT from place k on; d INTS of a LIST -/
def shT (f : Nat → Int32) : Nat → Nat → List Int32
  | 0, _ => []
  | d + 1, k => f k :: shT f d (k + 1)
def shLi (f : Nat → Int32) : Nat → Nat → List Int32
  | 0, _ => []
  | d + 1, k => (if k = 0 then [] else [44]) ++ shI (f k) ++ shLi f d (k + 1)
/-- a VALUE SHOWN -/
def shV (V : vT) : List Int32 := if V.1 = 1 then shI V.2.1 else if V.1 = 2 then shR V.2.2.1 else if V.1 = 3 then shT V.2.2.2.2 V.2.2.2.1 0 else if V.1 = 4 then shLi V.2.2.2.2 V.2.2.2.1 0 else []
theorem shT_len (f : Nat → Int32) : ∀ d k, (shT f d k).length = d := by
  intro d
  induction d with
  | zero => intro k; rfl
  | succ d ih => intro k; simp [shT, ih]
theorem shLi_len (f : Nat → Int32) : ∀ d k, (shLi f d k).length ≤ 9 * d := by
  intro d
  induction d with
  | zero => intro k; simp [shLi]
  | succ d ih =>
    intro k
    have h1 := ih (k + 1)
    have h2 := shI_len (f k)
    simp only [shLi, List.length_append]
    split <;> simp <;> omega
theorem shLi_len0 (f : Nat → Int32) (d : Nat) (hd : d ≤ 6) : (shLi f d 0).length ≤ 53 := by
  cases d with
  | zero => simp [shLi]
  | succ d =>
    have h1 := shLi_len f d (0 + 1)
    have h2 := shI_len (f 0)
    simp only [shLi, List.length_append, if_true, List.length_nil]
    omega
theorem shV_len {V : vT} (g : gV V) : (shV V).length ≤ 53 := by
  obtain ⟨s, x, r, n, f⟩ := V
  unfold shV
  by_cases c1 : s = 1
  · subst c1; have := shI_len x; simp only [if_true]; omega
  · by_cases c2 : s = 2
    · subst c2; have := shR_len r; simp only [c1, if_false, if_true]; omega
    · by_cases c3 : s = 3
      · subst c3; have h1 : n ≤ 16 := (g.2.2.2.1 rfl).1
        simp only [c1, c2, if_false, if_true, shT_len]; omega
      · by_cases c4 : s = 4
        · subst c4; have h1 : n ≤ 6 := (g.2.2.2.2 rfl).1
          simp only [c1, c2, c3, if_false, if_true]; exact shLi_len0 f n h1
        · simp only [c1, c2, c3, c4, if_false]; decide
theorem shP_no {x j : Nat} (h1 : x ≠ 171) (h2 : x ≠ 165) : ¬ shP x j := fun h => h.elim h1 fun q => h2 q.1
theorem cShT {a b x1 b1 cap n : Nat} {f : Nat → Int32} (ha : a ∉ [x1, b1]) (hb : b ∉ [x1, b1]) : ∀ (d k m : Nat) (h : hp) (L : List Int32), k + d = n → n ≤ 16 → d < m → VO h a b → hI h a 3 = iN n → (∀ k, k < n → hI h b k = f k) → NL h x1 b1 cap L → L.length + d ≤ cap → ∃ h', fX11_showInto_l53 m a x1 (iN k) h = some h' ∧ NL h' x1 b1 cap (L ++ shT f d k) ∧ FI [x1, b1] h h' := by
  intro d
  induction d with
  | zero =>
    intro k m h L hk hn hm H hs hf N hl
    obtain ⟨m, rfl⟩ : ∃ q, m = q + 1 := ⟨m - 1, by omega⟩
    have e : iN n ≤ iN k := by rw [i_le (by omega) (by omega)]; omega
    refine ⟨h, ?_, by simpa [shT] using N, FI.rf _ _⟩
    simp only [fX11_showInto_l53, gfI, H.1, hs, if_true, Option.bind_some, e]
  | succ d ih =>
    intro k m h L hk hn hm H hs hf N hl
    obtain ⟨m, rfl⟩ : ∃ q, m = q + 1 := ⟨m - 1, by omega⟩
    have e : ¬ (iN n ≤ iN k) := by rw [i_le (by omega) (by omega)]; omega
    obtain ⟨h1, e1, N1, F1⟩ := nAdd' (f k) N (by omega)
    obtain ⟨h2, e2, N2, F2⟩ := ih (k + 1) m h1 (L ++ [f k]) (by omega) hn (by omega) (F1.vo H) (by rw [(F1.2.2.2.2 a ha).1]; exact hs) (by rw [(F1.2.2.2.2 b hb).1]; exact hf) N1 (by rw [List.length_append]; simp; omega)
    refine ⟨h2, ?_, by simpa [shT] using N2, FI.tr' F1 F2⟩
    simp only [fX11_showInto_l53, gfI, ckT, H.1, hs, N.1.1, if_true, if_false, Option.bind_some, e, bd2, vAt H hs hn (show k < n by omega), hf k (by omega), e1, i_succ]
    exact e2
theorem cShL {a b x1 b1 cap n : Nat} {f : Nat → Int32} (ha : a ∉ [x1, b1]) (hb : b ∉ [x1, b1]) (bf : ∀ k, k < n → inI (f k)) : ∀ (d k m : Nat) (h : hp) (L : List Int32), k + d = n → n ≤ 16 → d < m → VO h a b → hI h a 3 = iN n → (∀ k, k < n → hI h b k = f k) → NL h x1 b1 cap L → L.length + (if k = 0 then 9 * d - 1 else 9 * d) ≤ cap → ∃ h', fX11_showInto_l80 m a x1 (iN k) h = some h' ∧ NL h' x1 b1 cap (L ++ shLi f d k) ∧ FI [x1, b1] h h' := by
  intro d
  induction d with
  | zero =>
    intro k m h L hk hn hm H hs hf N hl
    obtain ⟨m, rfl⟩ : ∃ q, m = q + 1 := ⟨m - 1, by omega⟩
    have e : iN n ≤ iN k := by rw [i_le (by omega) (by omega)]; omega
    refine ⟨h, ?_, by simpa [shLi] using N, FI.rf _ _⟩
    simp only [fX11_showInto_l80, gfI, H.1, hs, if_true, Option.bind_some, e]
  | succ d ih =>
    intro k m h L hk hn hm H hs hf N hl
    obtain ⟨m, rfl⟩ : ∃ q, m = q + 1 := ⟨m - 1, by omega⟩
    have e : ¬ (iN n ≤ iN k) := by rw [i_le (by omega) (by omega)]; omega
    have sl := shI_len (f k)
    by_cases c : k = 0
    · subst c
      rw [if_pos rfl] at hl
      have c0 : iN 0 ≤ 0 := le0
      obtain ⟨h1, e1, N1, F1⟩ := cShI (bf 0 (by omega)) N (by omega)
      obtain ⟨h2, e2, N2, F2⟩ := ih (0 + 1) m h1 (L ++ shI (f 0)) (by omega) hn (by omega) (F1.vo H) (by rw [(F1.2.2.2.2 a ha).1]; exact hs) (by rw [(F1.2.2.2.2 b hb).1]; exact hf) N1 (by rw [List.length_append, if_neg (by omega)]; omega)
      refine ⟨h2, ?_, by simpa [shLi] using N2, FI.tr' F1 F2⟩
      simp only [fX11_showInto_l80, gfI, ckT, H.1, hs, N.1.1, if_true, if_false, Option.bind_some, e, jn_e, c0, bd2, vAt H hs hn (show 0 < n by omega), hf 0 (by omega), e1, i_succ]
      exact e2
    · rw [if_neg c] at hl
      have c0 : ¬ (iN k ≤ 0) := nle0 (by omega) (by omega)
      obtain ⟨h0, e0, N0, F0⟩ := nAdd' 44 N (by omega)
      have H0 := F0.vo H
      have hs0 : hI h0 a 3 = iN n := by rw [(F0.2.2.2.2 a ha).1]; exact hs
      have hf0 : ∀ k, k < n → hI h0 b k = f k := by rw [(F0.2.2.2.2 b hb).1]; exact hf
      obtain ⟨h1, e1, N1, F1⟩ := cShI (bf k (by omega)) N0 (by rw [List.length_append]; simp; omega)
      obtain ⟨h2, e2, N2, F2⟩ := ih (k + 1) m h1 (L ++ [44] ++ shI (f k)) (by omega) hn (by omega) (F1.vo H0) (by rw [(F1.2.2.2.2 a ha).1]; exact hs0) (by rw [(F1.2.2.2.2 b hb).1]; exact hf0) N1 (by rw [List.length_append, List.length_append, if_neg (by omega)]; simp; omega)
      refine ⟨h2, ?_, by simpa [shLi, c] using N2, FI.tr' (FI.tr' F0 F1) F2⟩
      simp only [fX11_showInto_l80, gfI, ckT, H.1, H0.1, hs, N.1.1, if_true, if_false, Option.bind_some, e, jn_e, c0, bd2, e0, vAt H0 hs0 hn (show k < n by omega), hf0 k (by omega), e1, i_succ]
      exact e2
/-- a VALUE of the class SHOWN -/
theorem cShV {h : hp} {a b x1 b1 cap : Nat} {V : vT} {L : List Int32} (H : CV h a b V) (g : gV V) (ha : a ∉ [x1, b1]) (hb : b ∉ [x1, b1]) (N : NL h x1 b1 cap L) (hl : L.length + 53 ≤ cap) : ∃ h', fX11_showInto a x1 h = some h' ∧ NL h' x1 b1 cap (L ++ shV V) ∧ FI [x1, b1] h h' := by
  obtain ⟨s, x, r, n, f⟩ := V
  obtain ⟨t1, t2, r1, ne⟩ := id H.1
  have hk : hI h a 0 = iN s := H.2.1
  have hs4 : s ≤ 4 := H.2.2.1
  have hsc : s = 0 ∨ s = 1 ∨ s = 2 ∨ s = 3 ∨ s = 4 := by omega
  unfold fX11_showInto
  rcases hsc with rfl | rfl | rfl | rfl | rfl
  · refine ⟨h, ?_, by rw [show shV (0, x, r, n, f) = [] from rfl, List.append_nil]; exact N, FI.rf _ _⟩
    simp only [gfI, t1, hk, if_true, Option.bind_some, show iN 0 = 0 from rfl, zz01, zz02, zz03, zz04, zz10, zz12, zz13, zz14, zz20, zz21, zz23, zz24, zz30, zz31, zz32, zz34, zz40, zz41, zz42, zz43, if_false]
  · have hx : hI h a 1 = x := H.2.2.2.1 rfl
    obtain ⟨h1, e1, N1, F1⟩ := cShI (g.2.1 rfl) N (by omega)
    refine ⟨h1, ?_, N1, F1⟩
    simp only [gfI, t1, hk, if_true, Option.bind_some, show iN 1 = 1 from rfl, zz01, zz02, zz03, zz04, zz10, zz12, zz13, zz14, zz20, zz21, zz23, zz24, zz30, zz31, zz32, zz34, zz40, zz41, zz42, zz43, if_false, hx]
    rw [show fX11_showInt x x1 h = _ from e1, Option.bind_some]
  · have hx : hF h a 2 = r := H.2.2.2.2.1 rfl
    obtain ⟨h1, e1, N1, F1⟩ := cShR (g.2.2.1 rfl) H.1 hx ha N (by omega)
    refine ⟨h1, ?_, N1, F1⟩
    simp only [gfI, ckT, t1, hk, if_true, Option.bind_some, show iN 2 = 2 from rfl, zz01, zz02, zz03, zz04, zz10, zz12, zz13, zz14, zz20, zz21, zz23, zz24, zz30, zz31, zz32, zz34, zz40, zz41, zz42, zz43, if_false, e1]
  · obtain ⟨hs, hn, hf⟩ := H.2.2.2.2.2 (by show 3 ≤ 3; decide)
    replace hs : hI h a 3 = iN n := hs
    replace hn : n ≤ 16 := hn
    obtain ⟨h1, e1, N1, F1⟩ := cShT ha hb n 0 FU h L (by omega) hn (by show n < 1000000; omega) H.1 hs hf N (by omega)
    refine ⟨h1, ?_, N1, F1⟩
    simp only [gfI, t1, hk, if_true, Option.bind_some, show iN 3 = 3 from rfl, zz01, zz02, zz03, zz04, zz10, zz12, zz13, zz14, zz20, zz21, zz23, zz24, zz30, zz31, zz32, zz34, zz40, zz41, zz42, zz43, if_false]
    rw [show fX11_showInto_l53 FU a x1 0 h = _ from e1, Option.bind_some]
  · obtain ⟨hs, hn, hf⟩ := H.2.2.2.2.2 (by show 3 ≤ 4; decide)
    replace hs : hI h a 3 = iN n := hs
    have hn6 : n ≤ 6 := (g.2.2.2.2 rfl).1
    obtain ⟨h1, e1, N1, F1⟩ := cShL ha hb (g.2.2.2.2 rfl).2 n 0 FU h L (by show 0 + n = n; omega) (by show n ≤ 16; omega) (by show n < 1000000; omega) H.1 hs hf N (by rw [if_pos rfl]; omega)
    refine ⟨h1, ?_, N1, F1⟩
    simp only [gfI, t1, hk, if_true, Option.bind_some, show iN 4 = 4 from rfl, zz01, zz02, zz03, zz04, zz10, zz12, zz13, zz14, zz20, zz21, zz23, zz24, zz30, zz31, zz32, zz34, zz40, zz41, zz42, zz43, if_false]
    rw [show fX11_showInto_l80 FU a x1 0 h = _ from e1, Option.bind_some]
theorem mShT {t n : Nat} {f : Nat → Int32} (ht : t < 10) : ∀ (d k m : Nat) (h : hp) (L : List Int32), WF h → k + d = n → n ≤ 16 → d < m → hI h 166 t = 3 → hI h 168 t = iN n → (∀ k, k < n → hI h 169 (16 * t + k) = f k) → ML h L → L.length + d ≤ 64 → ∃ h', fX14_showsValue_l47 m 165 (iN t) (iN k) h = some h' ∧ ML h' (L ++ shT f d k) ∧ FS shP h h' := by
  intro d
  induction d with
  | zero =>
    intro k m h L w hk hn hm h0 hs hf N hl
    obtain ⟨m, rfl⟩ : ∃ q, m = q + 1 := ⟨m - 1, by omega⟩
    have e : iN n ≤ iN k := by rw [i_le (by omega) (by omega)]; omega
    refine ⟨h, ?_, by simpa [shT] using N, FS.rf _ _⟩
    simp (disch := (first | assumption | (simp only [WF_e1, WF_e2, WF_e3, WF_e4, WF_e5]; assumption) | omega | decide)) only [fX14_showsValue_l47, MR0, MR2, ML166, ML168, h0, hs, if_true, Option.bind_some, e]
  | succ d ih =>
    intro k m h L w hk hn hm h0 hs hf N hl
    obtain ⟨m, rfl⟩ : ∃ q, m = q + 1 := ⟨m - 1, by omega⟩
    have e : ¬ (iN n ≤ iN k) := by rw [i_le (by omega) (by omega)]; omega
    obtain ⟨h1, e1, N1, F1⟩ := mShows w (f k) N (by omega)
    have fr : ∀ x j, x ≠ 171 → x ≠ 165 → hI h1 x j = hI h x j := fun x j q1 q2 => (F1.2.2.2.2 x j (shP_no q1 q2)).1
    obtain ⟨h2, e2, N2, F2⟩ := ih (k + 1) m h1 (L ++ [f k]) (F1.wf w) (by omega) hn (by omega) (by rw [fr _ _ (by decide) (by decide)]; exact h0) (by rw [fr _ _ (by decide) (by decide)]; exact hs) (fun j hj => by rw [fr _ _ (by decide) (by decide)]; exact hf j hj) N1 (by rw [List.length_append]; simp; omega)
    refine ⟨h2, ?_, by simpa [shT] using N2, FS.tr F1 F2⟩
    simp (disch := (first | assumption | (simp only [WF_e1, WF_e2, WF_e3, WF_e4, WF_e5]; assumption) | omega | decide)) only [fX14_showsValue_l47, MR0, MR2, MR3, ML166, ML168, ML169, h0, hs, if_true, if_false, Option.bind_some, e, i_mullit, i_add, hf k (by omega), ckM, e1, i_succ]
    exact e2
theorem mShL {t n : Nat} {f : Nat → Int32} (ht : t < 10) (bf : ∀ k, k < n → inI (f k)) : ∀ (d k m : Nat) (h : hp) (L : List Int32), WF h → k + d = n → n ≤ 16 → d < m → hI h 166 t = 4 → hI h 168 t = iN n → (∀ k, k < n → hI h 169 (16 * t + k) = f k) → ML h L → L.length + 9 * d ≤ 64 → ∃ h', fX14_showsValue_l90 m 165 (iN t) (iN k) h = some h' ∧ ML h' (L ++ shLi f d k) ∧ FS shP h h' := by
  intro d
  induction d with
  | zero =>
    intro k m h L w hk hn hm h0 hs hf N hl
    obtain ⟨m, rfl⟩ : ∃ q, m = q + 1 := ⟨m - 1, by omega⟩
    have e : iN n ≤ iN k := by rw [i_le (by omega) (by omega)]; omega
    refine ⟨h, ?_, by simpa [shLi] using N, FS.rf _ _⟩
    simp (disch := (first | assumption | (simp only [WF_e1, WF_e2, WF_e3, WF_e4, WF_e5]; assumption) | omega | decide)) only [fX14_showsValue_l90, MR0, MR2, ML166, ML168, h0, hs, if_true, Option.bind_some, e]
  | succ d ih =>
    intro k m h L w hk hn hm h0 hs hf N hl
    obtain ⟨m, rfl⟩ : ∃ q, m = q + 1 := ⟨m - 1, by omega⟩
    have e : ¬ (iN n ≤ iN k) := by rw [i_le (by omega) (by omega)]; omega
    have sl := shI_len (f k)
    have fr : ∀ {g g' : hp}, FS shP g g' → ∀ x j, x ≠ 171 → x ≠ 165 → hI g' x j = hI g x j := fun F x j q1 q2 => (F.2.2.2.2 x j (shP_no q1 q2)).1
    by_cases c : k = 0
    · subst c
      have c0 : iN 0 ≤ 0 := le0
      obtain ⟨h1, e1, N1, F1⟩ := mShI w (bf 0 (by omega)) N (by omega)
      obtain ⟨h2, e2, N2, F2⟩ := ih (0 + 1) m h1 (L ++ shI (f 0)) (F1.wf w) (by omega) hn (by omega) (by rw [fr F1 _ _ (by decide) (by decide)]; exact h0) (by rw [fr F1 _ _ (by decide) (by decide)]; exact hs) (fun j hj => by rw [fr F1 _ _ (by decide) (by decide)]; exact hf j hj) N1 (by rw [List.length_append]; omega)
      refine ⟨h2, ?_, by simpa [shLi] using N2, FS.tr F1 F2⟩
      simp (disch := (first | assumption | (simp only [WF_e1, WF_e2, WF_e3, WF_e4, WF_e5]; assumption) | omega | decide)) only [fX14_showsValue_l90, MR0, MR2, MR3, ML166, ML168, ML169, h0, hs, if_true, if_false, Option.bind_some, e, jn_e, c0, i_mullit, i_add, hf 0 (by omega), ckM, e1, i_succ]
      exact e2
    · have c0 : ¬ (iN k ≤ 0) := nle0 (by omega) (by omega)
      obtain ⟨g1, e0, N0, F0⟩ := mShows w 44 N (by omega)
      have w0 := F0.wf w
      have hf0 : hI g1 169 (16 * t + k) = f k := by rw [fr F0 _ _ (by decide) (by decide)]; exact hf k (by omega)
      obtain ⟨h1, e1, N1, F1⟩ := mShI w0 (bf k (by omega)) N0 (by rw [List.length_append]; simp; omega)
      have F01 := FS.tr F0 F1
      obtain ⟨h2, e2, N2, F2⟩ := ih (k + 1) m h1 (L ++ [44] ++ shI (f k)) (F1.wf w0) (by omega) hn (by omega) (by rw [fr F01 _ _ (by decide) (by decide)]; exact h0) (by rw [fr F01 _ _ (by decide) (by decide)]; exact hs) (fun j hj => by rw [fr F01 _ _ (by decide) (by decide)]; exact hf j hj) N1 (by rw [List.length_append, List.length_append]; simp; omega)
      refine ⟨h2, ?_, by simpa [shLi, c] using N2, FS.tr F01 F2⟩
      simp (disch := (first | assumption | (simp only [WF_e1, WF_e2, WF_e3, WF_e4, WF_e5]; assumption) | omega | decide)) only [fX14_showsValue_l90, MR0, MR2, MR3, ML166, ML168, ML169, h0, hs, if_true, if_false, Option.bind_some, e, jn_e, c0, ckM, e0, i_mullit, i_add, hf0, e1, i_succ]
      exact e2
/-- a VALUE of the reference SHOWN -/
theorem mShV {h : hp} (w : WF h) {t : Nat} {V : vT} (ht : t < 10) (H : MV h t V) (g : gV V) : ∃ h', fX14_showsValue 165 (iN t) h = some h' ∧ ML h' (shV V) ∧ FS shP h h' := by
  obtain ⟨s, x, r, n, f⟩ := V
  have w1 : WF (pI h 165 6 0) := w
  have F0 : FS shP h (pI h 165 6 0) := FS.pI (by simp [shP])
  have N0 : ML (pI h 165 6 0) [] := ⟨by rw [hI_pI, if_pos ⟨rfl, rfl⟩]; rfl, by decide, fun k hk => absurd hk (by simp)⟩
  have fr : ∀ {g g' : hp}, FS shP g g' → ∀ x j, x ≠ 171 → x ≠ 165 → hI g' x j = hI g x j ∧ hF g' x j = hF g x j := fun F x j q1 q2 => F.2.2.2.2 x j (shP_no q1 q2)
  have hk : ∀ {g : hp}, FS shP h g → hI g 166 t = iN s := fun F => by rw [(fr F _ _ (by decide) (by decide)).1]; exact H.1
  have hs4 : s ≤ 4 := H.2.1
  have hsc : s = 0 ∨ s = 1 ∨ s = 2 ∨ s = 3 ∨ s = 4 := by omega
  -- the loops of other sorts
  have nT : ∀ {g : hp}, WF g → FS shP h g → s ≠ 3 → ∀ m, fX14_showsValue_l47 (m + 1) 165 (iN t) 0 g = some g := fun {g} wg F hs m => by
    have hz : ¬ (iN s = 3) := by rw [i_eq_lit (by decide) (by omega)]; exact hs
    have hkg := hk F
    simp only [fX14_showsValue_l47, MR0 wg, Option.bind_some, ML166 wg ht, hkg, hz, if_false]
  have nL : ∀ {g : hp}, WF g → FS shP h g → s ≠ 4 → ∀ m, fX14_showsValue_l90 (m + 1) 165 (iN t) 0 g = some g := fun {g} wg F hs m => by
    have hz : ¬ (iN s = 4) := by rw [i_eq_lit (by decide) (by omega)]; exact hs
    have hkg := hk F
    simp only [fX14_showsValue_l90, MR0 wg, Option.bind_some, ML166 wg ht, hkg, hz, if_false]
  unfold fX14_showsValue
  rw [pM w, Option.bind_some, MR0 w1, Option.bind_some, ML166 w1 ht, Option.bind_some, hk F0]
  simp only [jn_e]
  rcases hsc with rfl | rfl | rfl | rfl | rfl
  · refine ⟨pI h 165 6 0, ?_, by rw [show shV (0, x, r, n, f) = [] from rfl]; exact N0, F0⟩
    rw [if_neg (by decide), MR0 w1, Option.bind_some, ML166 w1 ht, Option.bind_some, hk F0, if_neg (by decide)]
    rw [show fX14_showsValue_l47 FU 165 (iN t) 0 _ = _ from nT w1 F0 (by decide) 999999, Option.bind_some, show fX14_showsValue_l90 FU 165 (iN t) 0 _ = _ from nL w1 F0 (by decide) 999999, Option.bind_some]
  · have hx : hI (pI h 165 6 0) 167 t = x := by rw [(fr F0 _ _ (by decide) (by decide)).1]; exact H.2.2.1 rfl
    obtain ⟨h1, e1, N1, F1⟩ := mShI w1 (g.2.1 rfl) N0 (by decide)
    have F01 := FS.tr F0 F1
    have w2 := F1.wf w1
    refine ⟨h1, ?_, N1, F01⟩
    rw [if_pos (show iN 1 = 1 from rfl), MR1 w1, Option.bind_some, ML167 w1 ht, Option.bind_some, hx, ckM w1, Option.bind_some, show fX14_showsInt 165 x _ = _ from e1, Option.bind_some]
    rw [MR0 w2, Option.bind_some, ML166 w2 ht, Option.bind_some, hk F01, if_neg (by decide)]
    rw [show fX14_showsValue_l47 FU 165 (iN t) 0 _ = _ from nT w2 F01 (by decide) 999999, Option.bind_some, show fX14_showsValue_l90 FU 165 (iN t) 0 _ = _ from nL w2 F01 (by decide) 999999, Option.bind_some]
  · have hx : hF (pI h 165 6 0) 170 t = r := by rw [(fr F0 _ _ (by decide) (by decide)).2]; exact H.2.2.2.1 rfl
    obtain ⟨h1, e1, N1, F1⟩ := mShR w1 (g.2.2.1 rfl) N0 (by decide)
    have F01 := FS.tr F0 F1
    have w2 := F1.wf w1
    refine ⟨h1, ?_, N1, F01⟩
    rw [if_neg (by decide), MR0 w1, Option.bind_some, ML166 w1 ht, Option.bind_some, hk F0, if_pos (show iN 2 = 2 from rfl), MR4 w1, Option.bind_some, ML170 w1 ht, Option.bind_some, hx, ckM w1, Option.bind_some, show fX14_showsReal 165 r _ = _ from e1, Option.bind_some]
    rw [show fX14_showsValue_l47 FU 165 (iN t) 0 _ = _ from nT w2 F01 (by decide) 999999, Option.bind_some, show fX14_showsValue_l90 FU 165 (iN t) 0 _ = _ from nL w2 F01 (by decide) 999999, Option.bind_some]
  · obtain ⟨hs, hn, hf⟩ := H.2.2.2.2 (by show 3 ≤ 3; decide)
    replace hs : hI h 168 t = iN n := hs
    replace hn : n ≤ 16 := hn
    obtain ⟨h1, e1, N1, F1⟩ := mShT (f := f) ht n 0 FU (pI h 165 6 0) [] w1 (by omega) hn (by show n < 1000000; omega) (hk F0) (by rw [(fr F0 _ _ (by decide) (by decide)).1]; exact hs) (fun j hj => by rw [(fr F0 _ _ (by decide) (by decide)).1]; exact hf j hj) N0 (by simp; omega)
    have F01 := FS.tr F0 F1
    have w2 := F1.wf w1
    refine ⟨h1, ?_, N1, F01⟩
    rw [if_neg (by decide), MR0 w1, Option.bind_some, ML166 w1 ht, Option.bind_some, hk F0, if_neg (by decide)]
    rw [show fX14_showsValue_l47 FU 165 (iN t) 0 _ = _ from e1, Option.bind_some, show fX14_showsValue_l90 FU 165 (iN t) 0 _ = _ from nL w2 F01 (by decide) 999999, Option.bind_some]
  · obtain ⟨hs, hn, hf⟩ := H.2.2.2.2 (by show 3 ≤ 4; decide)
    replace hs : hI h 168 t = iN n := hs
    have hn6 : n ≤ 6 := (g.2.2.2.2 rfl).1
    obtain ⟨h1, e1, N1, F1⟩ := mShL ht (g.2.2.2.2 rfl).2 n 0 FU (pI h 165 6 0) [] w1 (by show 0 + n = n; omega) (by show n ≤ 16; omega) (by show n < 1000000; omega) (hk F0) (by rw [(fr F0 _ _ (by decide) (by decide)).1]; exact hs) (fun j hj => by rw [(fr F0 _ _ (by decide) (by decide)).1]; exact hf j hj) N0 (by simp; omega)
    have F01 := FS.tr F0 F1
    refine ⟨h1, ?_, N1, F01⟩
    rw [if_neg (by decide), MR0 w1, Option.bind_some, ML166 w1 ht, Option.bind_some, hk F0, if_neg (by decide)]
    rw [show fX14_showsValue_l47 FU 165 (iN t) 0 _ = _ from nT w1 F0 (by decide) 999999, Option.bind_some, show fX14_showsValue_l90 FU 165 (iN t) 0 _ = _ from e1, Option.bind_some]

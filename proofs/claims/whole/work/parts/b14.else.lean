/-! the class's walk: templates, blocks -/
theorem CX.chg {P : Nat → Nat → Prop} {h h' : hp} {own : Nat → Nat} {tp : Tp} {lim : Nat} {KL : List (Nat × vT)} {LL : Nat → Option vT} {fr : Fr} {trn : Option Nat} {lk : Bool} {dp : Nat} {σ : St} {fl : Bool} {c c' : List Nat} {j j' : Nat} {bb bb' : Option Nat} (H : CX h own tp lim KL LL fr (some (c, j, bb)) trn lk dp σ fl) (f : FS P h h') (hP : ∀ x k, P x k → Pch fr.length x k) (C : CHh h' fr.length c' j' bb') : CX h' own tp lim KL LL fr (some (c', j', bb')) trn lk dp σ fl := by
  obtain ⟨B, R, Ch, N, O, r⟩ := H
  have hn := B.1.1.2.2
  have h8 := B.2.2.2.2.2.2.2
  have np : ∀ x k, x < 147 → ¬ P x k := fun x k a q => by have := hP x k q; unfold Pch at this; omega
  refine ⟨B.fs f fun x k q => ?_, R.fs f (fun x k _ _ => np x k (by omega)), fun x e => by cases e; exact C, N.fs f (fun k => np _ k (by omega)), O.fs f (fun k => np _ k (by omega)) (fun k => np _ k (by omega)) (fun k => ⟨np _ k (by omega), np _ k (by omega)⟩), r⟩
  have := hP x k q
  unfold Pch at this
  refine ⟨by omega, ?_⟩
  unfold PA
  omega
theorem CHh.put2 {h : hp} {i : Nat} {c : List Nat} {j : Nat} {bb : Option Nat} (C : CHh h i c j bb) {j' : Nat} (hj : j' < c.length) : CHh (pI h (147 + 2 * i) 2 (iN j')) i c j' bb := by
  obtain ⟨a1, a2, a3, a4, a5, a6⟩ := C
  exact ⟨by rw [hI_pI, if_neg (by omega)]; exact a1, by rw [hI_pI, if_pos ⟨rfl, rfl⟩], by rw [hI_pI, if_neg (by omega)]; exact a3, a4, hj, fun q hq => by rw [hI_pI, if_neg (by omega)]; exact a6 q hq⟩
theorem CHh.put3 {h : hp} {i : Nat} {c : List Nat} {j : Nat} {bb : Option Nat} (C : CHh h i c j bb) (b' : Option Nat) : CHh (pI h (147 + 2 * i) 3 (oB b')) i c j b' := by
  obtain ⟨a1, a2, a3, a4, a5, a6⟩ := C
  exact ⟨by rw [hI_pI, if_neg (by omega)]; exact a1, by rw [hI_pI, if_neg (by omega)]; exact a2, by rw [hI_pI, if_pos ⟨rfl, rfl⟩], a4, a5, fun q hq => by rw [hI_pI, if_neg (by omega)]; exact a6 q hq⟩
theorem CX.put2 {h : hp} {own : Nat → Nat} {tp : Tp} {lim : Nat} {KL : List (Nat × vT)} {LL : Nat → Option vT} {fr : Fr} {trn : Option Nat} {lk : Bool} {dp : Nat} {σ : St} {fl : Bool} {c : List Nat} {j : Nat} {bb : Option Nat} (H : CX h own tp lim KL LL fr (some (c, j, bb)) trn lk dp σ fl) {j' : Nat} (hj : j' < c.length) : CX (pI h (147 + 2 * fr.length) 2 (iN j')) own tp lim KL LL fr (some (c, j', bb)) trn lk dp σ fl :=
  H.chg (P := Pch fr.length) (FS.pI (.inl rfl)) (fun _ _ q => q) ((H.2.2.1 _ rfl).put2 hj)
theorem CX.put3 {h : hp} {own : Nat → Nat} {tp : Tp} {lim : Nat} {KL : List (Nat × vT)} {LL : Nat → Option vT} {fr : Fr} {trn : Option Nat} {lk : Bool} {dp : Nat} {σ : St} {fl : Bool} {c : List Nat} {j : Nat} {bb : Option Nat} (H : CX h own tp lim KL LL fr (some (c, j, bb)) trn lk dp σ fl) (b' : Option Nat) : CX (pI h (147 + 2 * fr.length) 3 (oB b')) own tp lim KL LL fr (some (c, j, b')) trn lk dp σ fl :=
  H.chg (P := Pch fr.length) (FS.pI (.inl rfl)) (fun _ _ q => q) ((H.2.2.1 _ rfl).put3 b')
theorem NL.pch {h : hp} {L : List Int32} (N : NL h 86 87 162 L) (i K : Nat) (x : Int32) : NL (pI h (147 + 2 * i) K x) 86 87 162 L := N.fs (P := Pch i) (FS.pI (.inl rfl)) (fun k q => by unfold Pch at q; omega) (fun k q => by unfold Pch at q; omega)
theorem TRn.pch {own : Nat → Nat} {h : hp} {i : Nat} (hi : i < 9) (K : Nat) (x : Int32) : TRn own h own (pI h (147 + 2 * i) K x) := TRn.fs (P := Pch i) (FS.pI (.inl rfl)) (pch_o hi)
theorem CX.fin {h : hp} {own : Nat → Nat} {tp : Tp} {lim : Nat} {KL : List (Nat × vT)} {LL : Nat → Option vT} {fr : Fr} {trn : Option Nat} {lk : Bool} {dp : Nat} {σ : St} {fl : Bool} {c : List Nat} {j : Nat} {bb : Option Nat} (H : CX h own tp lim KL LL fr (some (c, j, bb)) trn lk dp σ fl) : CX (pI h 134 11 (iN fr.length)) own tp lim KL LL fr none trn lk dp σ fl := by
  obtain ⟨B, R, Ch, N, O, r⟩ := H
  have hn := B.1.1.2.2
  have h8 := B.2.2.2.2.2.2.2
  have F : FS (fun x k => x = 134 ∧ k = 11) h (pI h 134 11 (iN fr.length)) := FS.pI ⟨rfl, rfl⟩
  refine ⟨B.fs F (fun x k q => ⟨by omega, .inl (by omega)⟩), R.fs F (fun x k _ _ q => by omega), (fun x e => by cases e), ?_, O.fs F (fun k q => by omega) (fun k q => by omega) (fun k => ⟨fun q => by omega, fun q => by omega⟩), r⟩
  unfold CN at N ⊢
  have e : ∀ k, k ≠ 11 → hI (pI h 134 11 (iN fr.length)) 134 k = hI h 134 k := fun k hk => by rw [hI_pI, if_neg (fun q => hk q.2)]
  rw [e 10 (by decide), e 12 (by decide), e 13 (by decide), e 14 (by decide), e 15 (by decide), e 16 (by decide), e 17 (by decide)]
  exact ⟨N.1, by rw [hI_pI, if_pos ⟨rfl, rfl⟩]; rfl, N.2.2⟩
theorem CQ.fin {h : hp} {own : Nat → Nat} {tp : Tp} {lim : Nat} {KL : List (Nat × vT)} {LL : Nat → Option vT} {fr : Fr} {trn : Option Nat} {lk : Bool} {dp : Nat} {vs : Nat → vT} {R : Ot} {c : List Nat} {j : Nat} {bb : Option Nat} (H : CQ h own tp lim KL LL fr (some (c, j, bb)) trn lk dp vs R) : CQ (pI h 134 11 (iN fr.length)) own tp lim KL LL fr none trn lk dp vs R := by
  cases R with
  | inl σ => exact ⟨H.1.fin, H.2⟩
  | inr e =>
    obtain ⟨ctx, out, X, N⟩ := H
    exact ⟨ctx, out, X.fin, N.p134 _ _⟩
theorem CQ.op {h : hp} {own : Nat → Nat} {tp : Tp} {lim : Nat} {KL : List (Nat × vT)} {LL : Nat → Option vT} {fr : Fr} {trn : Option Nat} {lk : Bool} {dp : Nat} {ch : Option (List Nat × Nat × Option Nat)} {vs : Nat → vT} {R : Ot} (H : CQ h own tp lim KL LL fr ch trn lk dp vs R) : hI h 134 11 = iN (opN fr ch) ∧ WF h ∧ hI h 134 12 = iN dp := by
  cases R with
  | inl σ => exact ⟨H.1.2.2.2.1.2.1, H.1.w, H.1.2.2.2.1.2.2.1⟩
  | inr e =>
    obtain ⟨ctx, out, X, N⟩ := H
    exact ⟨X.2.2.2.1.2.1, X.w, X.2.2.2.1.2.2.1⟩
theorem chW_ne {tp : Tp} : ∀ (n k : Nat) (c : List Nat), n + c.length = 6 → match chW tp n k c with | .inl x => x.1.length ≤ 6 | .inr x => x.1.length ≤ 6 := by
  intro n
  induction n with
  | zero => intro k c h; exact (by omega : c.length ≤ 6)
  | succ n ih =>
    intro k c h
    have l : (c ++ [k]).length = c.length + 1 := List.length_append
    show (match (match tp k with | none => (.inr (c ++ [k], 0, 1) : Sum (List Nat × TY 5) (List Nat × Nat × Nat)) | some x => match x.2.1 with | none => .inl (c ++ [k], x.2.2) | some k' => chW tp n k' (c ++ [k])) with | .inl x => x.1.length ≤ 6 | .inr x => x.1.length ≤ 6)
    cases tp k with
    | none => exact (by omega : (c ++ [k]).length ≤ 6)
    | some x =>
      cases hx : x.2.1 with
      | none => dsimp only; rw [hx]; exact (by omega : (c ++ [k]).length ≤ 6)
      | some k' => dsimp only; rw [hx]; exact ih k' (c ++ [k]) (by omega)
/-- a template walked, from the state in which no chain is open -/
theorem tmpl_w {d f : Nat} (A : AP d 5 f) {h : hp} {own : Nat → Nat} {tp : Tp} {lim : Nat} {KL : List (Nat × vT)} {LL : Nat → Option vT} {fr : Fr} {trn : Option Nat} {lk : Bool} {dp : Nat} {σ : St} {k lv : Nat} (hd : dp + d = 8) (H : CX h own tp lim KL LL fr none trn lk dp σ false) (hk6 : k < 6) (okt : okTp tp) (hl : lv + 5 ≤ 5 * dp + 5) (hk : KL.length ≤ σ.2.2.2 + lv) (hL : ∀ l V, LL l = some V → l < lv) : ∃ h' own', (G1 (f + 1)).1 134 (iN k) (iN lv) h = some h' ∧ TRn own h own' h' ∧ CQ h' own' tp lim KL LL fr none trn lk dp σ.1 (wTp lk true lim tp (wE lk true lim tp d) k (preF fr) trn σ) := by
  have w := H.w
  have hn2 := w.2.2
  have h8 := H.1.2.2.2.2.2.2.2
  have n11 : hI h 134 11 = iN fr.length := H.2.2.2.1.2.1
  have am : fX13_among (iN fr.length) (iN 9) h = some (1, h) := amk (by omega) (by decide) h
  have al : aln 2 h 135 = some (iN 9) := by unfold aln; rw [T135 w]; rfl
  have hi : fr.length < 9 := by omega
  -- the chain begun
  have f0 : FS (fun x k => Pch fr.length x k ∨ (x = 134 ∧ k = 11)) h (pI h 134 11 (iN (fr.length + 1))) := FS.pI (.inr ⟨rfl, rfl⟩)
  have w0 : WF (pI h 134 11 (iN (fr.length + 1))) := w
  have f1 : FS (fun x k => Pch fr.length x k ∨ (x = 134 ∧ k = 11)) h (pI (pI (pI (pI h 134 11 (iN (fr.length + 1))) (147 + 2 * fr.length) 1 0) (147 + 2 * fr.length) 2 0) (147 + 2 * fr.length) 3 (-1)) := ((f0.tr (FS.pI (.inl (.inl rfl)))).tr (FS.pI (.inl (.inl rfl)))).tr (FS.pI (.inl (.inl rfl)))
  have w1 := f1.wf w
  have eb : fX1_begin (147 + 2 * fr.length) (pI h 134 11 (iN (fr.length + 1))) = some (pI (pI (pI (pI h 134 11 (iN (fr.length + 1))) (147 + 2 * fr.length) 1 0) (147 + 2 * fr.length) 2 0) (147 + 2 * fr.length) 3 (-1)) := by
    unfold fX1_begin
    rw [pC w0 hi, Option.bind_some, pC (h := pI (pI h 134 11 (iN (fr.length + 1))) (147 + 2 * fr.length) 1 0) w0 hi, Option.bind_some, pC (h := pI (pI (pI h 134 11 (iN (fr.length + 1))) (147 + 2 * fr.length) 1 0) (147 + 2 * fr.length) 2 0) w0 hi, Option.bind_some]
  have C0 : CHp (pI (pI (pI (pI h 134 11 (iN (fr.length + 1))) (147 + 2 * fr.length) 1 0) (147 + 2 * fr.length) 2 0) (147 + 2 * fr.length) 3 (-1)) fr.length [] := by
    refine ⟨?_, fun q => absurd rfl q, ?_, by decide, fun q hq => absurd hq (Nat.not_lt_zero _)⟩
    · rw [hI_pI, if_neg (by omega), hI_pI, if_neg (by omega), hI_pI, if_pos ⟨rfl, rfl⟩]; rfl
    · rw [hI_pI, if_pos ⟨rfl, rfl⟩]
  have G0 : JG (pI (pI (pI (pI h 134 11 (iN (fr.length + 1))) (147 + 2 * fr.length) 1 0) (147 + 2 * fr.length) 2 0) (147 + 2 * fr.length) 3 (-1)) own tp := H.1.2.1.2.fg w f1.fg (fun x k a _ _ q => by unfold Pch at q; omega) (fun k q => by unfold Pch at q; omega) (fun _ _ => rfl)
  obtain ⟨code, a, h2, e2, f2, r2⟩ := lo_l (own := own) (tp := tp) hi 6 k FU _ [] w1 G0 C0 rfl hk6 (FU_pos _ (by decide))
  have f12 := f1.tr (f2.up fun x k q => .inl q)
  have t12 : TRn own h own h2 := TRn.fs f12 fun x k q => q.elim (pch_o hi x k) fun q => by unfold PCo; omega
  have w2 := f12.wf w
  have o2 : hI h2 134 11 = iN (fr.length + 1) := by
    rw [(f2.2.2.2.2 134 11 (fun q => by unfold Pch at q; omega)).1, hI_pI, if_neg (by omega), hI_pI, if_neg (by omega), hI_pI, if_neg (by omega), hI_pI, if_pos ⟨rfl, rfl⟩]
  obtain ⟨K, hK⟩ : ∃ K : hp → Option hp, K = fun h92j => ((gfI h92j 134 11 11).bind fun v24 => (pfI h92j 134 11 11 (v24 - 1)).bind fun h26 => some h26) := ⟨_, rfl⟩
  have Kv : ∀ (g : hp) (own' : Nat → Nat) {ch : List Nat × Nat × Option Nat} {R : Ot}, CQ g own' tp lim KL LL fr (some ch) trn lk dp σ.1 R → K g = some (pI g 134 11 (iN fr.length)) := by
    intro g own' ch R q
    have wg := q.op.2.1
    have e : hI g 134 11 = iN (fr.length + 1) := q.op.1
    rw [hK]
    show ((gfI g 134 11 11).bind fun v24 => (pfI g 134 11 11 (v24 - 1)).bind fun h26 => some h26) = _
    rw [gW wg, Option.bind_some, e, show (1 : Int32) = iN 1 from rfl, i_sub (by omega), pW wg, Option.bind_some]
    rfl
  have st : (G1 (f + 1)).1 134 (iN k) (iN lv) h = bd2 (fX12_lastOf 134 (147 + 2 * fr.length) (iN k) (pI h 134 11 (iN (fr.length + 1)))) fun v21 h22 => if v21 = 0 then K h22 else (gfI h22 134 11 13).bind fun v28 => (gfR h22 v21 9 2).bind fun v30 => (ckT h22 134 11).bind fun _ => ((G1 f).2.1 134 v30 (iN lv) h22).bind fun h33 => (pfI h33 (147 + 2 * fr.length) 0 2 0).bind fun h35 => (gfI h35 134 11 13).bind fun v37 => if v37 = v28 then K h35 else (ckT h35 134 11).bind fun _ => (fX12_fail 134 0 3 h35).bind fun h40 => K h40 := by
    show fX12_walkTemplate_b (G1 f) 134 (iN k) (iN lv) h = _
    unfold fX12_walkTemplate_b
    rw [gW w, Option.bind_some, n11, gWR w, R134_2 w, Option.bind_some, al, Option.bind_some, am, bd2_s, if_neg (by decide), gWR w, R134_2 w, Option.bind_some, gW w, Option.bind_some, n11, alCh w hi, Option.bind_some, Option.bind_some, i_succ, pW w, Option.bind_some, ckW w0, Option.bind_some]
    simp only [jn_e, ← hK]
  have lo : fX12_lastOf 134 (147 + 2 * fr.length) (iN k) (pI h 134 11 (iN (fr.length + 1))) = if code = 0 then ((ckT h2 134 11).bind fun _ => (fX12_fail 134 0 1 h2).bind fun h9 => some (0, h9)) else if code = 1 then some (a, h2) else if code = 2 then ((ckT h2 134 11).bind fun _ => (fX12_fail 134 1 7 h2).bind fun h12 => some (0, h12)) else none := by
    unfold fX12_lastOf
    rw [ckC w0 hi, Option.bind_some, eb, Option.bind_some, show fX12_lastOf_l9 FU 134 (147 + 2 * fr.length) (iN k) 0 _ = _ from e2]
    rfl
  rw [st, lo]
  unfold wTp
  cases hW : chW tp 6 k [] with
  | inr x =>
    rw [hW] at r2
    obtain ⟨cd, C2, ne⟩ := r2
    have X2 : CX h2 own tp lim KL LL fr (some (x.1, x.1.length - 1, none)) trn lk dp σ false := H.chn f12 (fun _ _ q => q) o2 (C2.ch ne)
    obtain ⟨h3, e3, f3, R3⟩ := ft_e X2 x.2.1 x.2.2
    have R4 := R3.fin
    refine ⟨pI h3 134 11 (iN fr.length), own, ?_, (t12.tr (TRn.plf f3.psf.plf)).tr (TRn.p134 11 _), R4⟩
    rcases cd with ⟨c0, ex⟩ | ⟨c2, ex⟩
    · rw [ex] at e3
      rw [if_pos c0, ckW w2, Option.bind_some, show fX12_fail 134 0 1 h2 = _ from e3, Option.bind_some, bd2_s, if_pos rfl]
      exact Kv _ _ R3
    · rw [ex] at e3
      rw [if_neg (by omega), if_neg (by omega), if_pos c2, ckW w2, Option.bind_some, show fX12_fail 134 1 7 h2 = _ from e3, Option.bind_some, bd2_s, if_pos rfl]
      exact Kv _ _ R3
  | inl x =>
    rw [hW] at r2
    obtain ⟨cd, ⟨te1, te2, te3⟩, C2, ne, q, L, etp⟩ := r2
    have X2 : CX h2 own tp lim KL LL fr (some (x.1, x.1.length - 1, none)) trn lk dp σ false := H.chn f12 (fun _ _ q => q) o2 (C2.ch ne)
    have cl : 0 < x.1.length := List.length_pos_iff.mpr ne
    obtain ⟨h3, own3, e3, t3, q3⟩ := A h2 σ x.2 (hR h2 a 2) lv hd X2 te3 (okt q _ etp) okt (fun b e => by cases e) hl hk hL
    have t13 := t12.tr t3
    have g92 : gfR h2 a 9 2 = some (hR h2 a 2) := by unfold gfR; rw [te2]; rfl
    have t4 : TRn own3 h3 own3 (pI h3 (147 + 2 * fr.length) 2 0) := TRn.pch hi 2 0
    have t14 := t13.tr t4
    rw [if_neg (by omega), if_pos cd, bd2_s, if_neg te1, gW w2, Option.bind_some, X2.f13, g92, Option.bind_some, ckW w2, Option.bind_some, e3, Option.bind_some]
    dsimp only
    cases hR1 : wTr lk true lim (wE lk true lim tp d) 5 x.2 (preF fr, x.1, x.1.length - 1, none, trn) σ with
    | inl τ =>
      rw [hR1] at q3
      obtain ⟨X3, u3⟩ := q3
      have w3 := X3.w
      have X4 : CX (pI h3 (147 + 2 * fr.length) 2 0) own3 tp lim KL LL fr (some (x.1, 0, none)) trn lk dp τ false := X3.put2 (j' := 0) cl
      have w4 := X4.w
      rw [pC w3 hi, Option.bind_some, gW w4, Option.bind_some, X4.f13, bO_l, ctx_if X3.2.2.2.2.2.1 X2.2.2.2.2.2.1]
      by_cases z : τ.2.1 = σ.2.1
      · have q4 : CQ (pI h3 (147 + 2 * fr.length) 2 0) own3 tp lim KL LL fr (some (x.1, 0, none)) trn lk dp σ.1 (.inl τ) := ⟨X4, u3⟩
        rw [if_pos z, if_neg (fun q => q.2 z)]
        exact ⟨_, own3, Kv _ _ q4, t14.tr (TRn.p134 11 _), q4.fin⟩
      · rw [if_neg z, if_pos ⟨rfl, z⟩, ckW w4, Option.bind_some]
        obtain ⟨h5, e5, f5, R5⟩ := ft_e X4 0 3
        rw [u3] at R5
        refine ⟨_, own3, ?_, (t14.tr (TRn.plf f5.psf.plf)).tr (TRn.p134 11 _), R5.fin⟩
        rw [show fX12_fail 134 0 3 _ = _ from e5, Option.bind_some]
        exact Kv _ _ R5
    | inr e =>
      rw [hR1] at q3
      obtain ⟨ctx, out, X3, N3⟩ := q3
      have w3 := X3.w
      have X4 : CX (pI h3 (147 + 2 * fr.length) 2 0) own3 tp lim KL LL fr (some (x.1, 0, none)) trn lk dp (σ.1, ctx, out, e.1) true := X3.put2 (j' := 0) cl
      have q4 : CQ (pI h3 (147 + 2 * fr.length) 2 0) own3 tp lim KL LL fr (some (x.1, 0, none)) trn lk dp σ.1 (.inr e) := ⟨ctx, out, X4, N3.pch _ _ _⟩
      have q4' : CF (pI h3 (147 + 2 * fr.length) 2 0) own3 tp lim KL LL fr (some (x.1, 0, none)) trn lk dp σ.1 e := q4
      have w4 := X4.w
      rw [pC w3 hi, Option.bind_some, gW w4, Option.bind_some, bO_r]
      refine ⟨_, own3, ?_, t14.tr (TRn.p134 11 _), q4.fin⟩
      by_cases z : hI (pI h3 (147 + 2 * fr.length) 2 0) 134 13 = iN σ.2.1
      · rw [if_pos z]; exact Kv _ _ q4
      · rw [if_neg z, ckW w4, Option.bind_some, q4'.no, Option.bind_some]; exact Kv _ _ q4

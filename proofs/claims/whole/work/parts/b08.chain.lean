/-! the class's walk: chains of templates, blocks looked for -/
def okP {X : Type} (pc : PD X) : Prop := ((pc.1 = 3 ∨ pc.1 = 7) → ∃ n, n < 8 ∧ pc.2.2.1 = iN n) ∧ (pc.1 = 6 → ∃ n, n < 6 ∧ pc.2.2.1 = iN n) ∧ (pc.1 = 4 → ∃ n, n < 4 ∧ pc.2.2.1 = iN n) ∧ pc.2.2.2.2.1.2.2.2.length ≤ 161 ∧ pc.2.2.2.2.2.1.2.2.2.length ≤ 161
def okT : (m : Nat) → TY m → Prop
  | 0, _ => True
  | m + 1, t => List.length (α := PD (TY m)) t ≤ 161 ∧ ∀ pc : PD (TY m), pc ∈ (show List (PD (TY m)) from t) → okP pc ∧ okT m pc.2.2.2.2.2.2.1 ∧ okT m pc.2.2.2.2.2.2.2
theorem blk_ok : ∀ (m : Nat) (t : TY m), okT m t → ∀ y, y ∈ blksT m t → y.2.2.1 + 1 ≤ m ∧ okT y.2.2.1 y.2.2.2 := by
  intro m
  induction m with
  | zero => intro t _ y hy; cases hy
  | succ m ih =>
    intro t ok y hy
    have go : ∀ ps : List (PD (TY m)), (∀ pc : PD (TY m), pc ∈ ps → okP pc ∧ okT m pc.2.2.2.2.2.2.1 ∧ okT m pc.2.2.2.2.2.2.2) → y ∈ List.foldr (fun (pc : PD (TY m)) a => ((if pc.1 = 4 then [(pc.2.2.1, pc.2.1, (⟨m, pc.2.2.2.2.2.2.1⟩ : Σ q : Nat, TY q))] else []) ++ blksT m pc.2.2.2.2.2.2.1 ++ blksT m pc.2.2.2.2.2.2.2) ++ a) [] ps → y.2.2.1 + 1 ≤ m + 1 ∧ okT y.2.2.1 y.2.2.2 := by
      intro ps
      induction ps with
      | nil => intro _ h; cases h
      | cons pc ps ihp =>
        intro okp h
        rw [List.foldr_cons] at h
        obtain ⟨o1, o2, o3⟩ := okp pc (List.mem_cons_self ..)
        rcases List.mem_append.mp h with h | h
        · rcases List.mem_append.mp h with h | h
          · rcases List.mem_append.mp h with h | h
            · by_cases c : pc.1 = 4
              · rw [if_pos c] at h
                have e := List.mem_singleton.mp h
                subst e
                exact ⟨Nat.le_refl _, o2⟩
              · rw [if_neg c] at h; cases h
            · have := ih _ o2 y h
              exact ⟨by omega, this.2⟩
          · have := ih _ o3 y h
            exact ⟨by omega, this.2⟩
        · exact ihp (fun pc hp => okp pc (List.mem_cons_of_mem _ hp)) h
    exact go t ok.2 hy
theorem fB_mem {bs : List (Int32 × Nat × (Σ q : Nat, TY q))} {j : Nat} {y : Int32 × Nat × (Σ q : Nat, TY q)} (h : fB bs j = some y) : y ∈ bs := List.mem_of_find?_eq_some h
theorem OW.tr {own own' : Nat → Nat} {h h' : hp} {lo hi : Nat} (t : TRn own h own' h') (O : OW own h lo hi) : OW own' h' lo hi :=
  ⟨O.1, by have := O.2.1; have := t.1.1; omega, fun y y1 y2 => by rw [t.2.1 y (by have := O.2.1; omega)]; exact O.2.2 y y1 y2⟩
theorem OW.np {own : Nat → Nat} {h : hp} {lo hi : Nat} (O : OW own h lo hi) (x k : Nat) (a : lo ≤ x) (b : x < hi) : ¬ PCo own x k := fun q => by
  have := O.1
  have o := O.2.2 x a b
  unfold PCo at q
  rcases q with q | q | q
  · omega
  · omega
  · exact q.2 o
/-- a tree in the heap -/
def TT (h : hp) (own : Nat → Nat) (m : Nat) (t : TY m) (v : Nat) : Prop := ∃ lo hi, OW own h lo hi ∧ RepT h lo hi m t v
theorem TT.tr {own own' : Nat → Nat} {h h' : hp} {m v : Nat} {t : TY m} (q : TRn own h own' h') (T : TT h own m t v) : TT h' own' m t v := by
  obtain ⟨lo, hi, O, r⟩ := T
  exact ⟨lo, hi, O.tr q, RepT.fg q.1 O.2.1 (fun x k a b => O.np x k a b) (Nat.le_refl _) (Nat.le_refl _) m t v r⟩
theorem blk_at {h : hp} {a b bx : Nat} (ta : hT h a = (9, 8)) (ra : hR h a 1 = bx) (tb : hT h bx = (103, 4)) (hb : b < 4) : fX10_block a (iN b) h = some (hR h bx b, h) := by
  have e3 : gfR h a 9 1 = some bx := by unfold gfR; rw [ta]; show some (hR h a 1) = _; rw [ra]
  have am : fX13_among (iN b) 4 h = some (1, h) := amk hb (by decide) h
  unfold fX10_block
  rw [am, bd2_s, if_neg (by decide), e3, Option.bind_some, alR_e (j := 3) tb hb (by decide), Option.bind_some]
/-- a chain that grows -/
def CHp (h : hp) (i : Nat) (c : List Nat) : Prop := hI h (147 + 2 * i) 1 = iN c.length ∧ (c ≠ [] → hI h (147 + 2 * i) 2 = iN (c.length - 1)) ∧ hI h (147 + 2 * i) 3 = -1 ∧ c.length ≤ 6 ∧ ∀ q, q < c.length → hI h (148 + 2 * i) q = iN (c.getD q 0) ∧ c.getD q 0 < 6
theorem CHp.ch {h : hp} {i : Nat} {c : List Nat} (H : CHp h i c) (ne : c ≠ []) : CHh h i c (c.length - 1) none := by
  have : 0 < c.length := List.length_pos_iff.mpr ne
  exact ⟨H.1, H.2.1 ne, H.2.2.1, H.2.2.2.1, by omega, H.2.2.2.2⟩
abbrev Pch (i x _k : Nat) : Prop := x = 147 + 2 * i ∨ x = 148 + 2 * i
theorem add_e {h : hp} {i k : Nat} {c : List Nat} (w : WF h) (hi : i < 9) (H : CHp h i c) (hc : c.length < 6) (hk : k < 6) : ∃ h', fX1_add (147 + 2 * i) (iN k) h = some h' ∧ FS (Pch i) h h' ∧ CHp h' i (c ++ [k]) := by
  obtain ⟨a1, a2, a3, a4, a5⟩ := H
  have am : fX13_among (iN c.length) 6 h = some (1, h) := amk hc (by decide) h
  have t := (ch_T w hi).2.1
  refine ⟨pI (pI (pI h (148 + 2 * i) c.length (iN k)) (147 + 2 * i) 2 (iN c.length)) (147 + 2 * i) 1 (iN (c.length + 1)), ?_, ((FS.pI (.inr rfl)).tr (FS.pI (.inl rfl))).tr (FS.pI (.inl rfl)), ?_, fun _ => ?_, ?_, ?_, fun q hq => ?_⟩
  · have w1 : WF (pI h (148 + 2 * i) c.length (iN k)) := w
    have w2 : WF (pI (pI h (148 + 2 * i) c.length (iN k)) (147 + 2 * i) 2 (iN c.length)) := w
    have as1 : asI h (148 + 2 * i) (iN c.length) (iN k) = some (pI h (148 + 2 * i) c.length (iN k)) := as_e t hc (by decide)
    have r1 : hI (pI h (148 + 2 * i) c.length (iN k)) (147 + 2 * i) 1 = iN c.length := by rw [hI_pI, if_neg (by omega)]; exact a1
    have r2 : hI (pI (pI h (148 + 2 * i) c.length (iN k)) (147 + 2 * i) 2 (iN c.length)) (147 + 2 * i) 1 = iN c.length := by rw [hI_pI, if_neg (by omega)]; exact r1
    unfold fX1_add
    rw [gC w hi, Option.bind_some, a1, am, bd2_s, if_neg (by decide), gCR w hi, Option.bind_some, gC w hi, Option.bind_some, a1, as1, Option.bind_some, gC w1 hi, Option.bind_some, r1, pC w1 hi, Option.bind_some, gC w2 hi, Option.bind_some, r2, i_succ, pC w2 hi, Option.bind_some]
  · rw [hI_pI, if_pos ⟨rfl, rfl⟩, List.length_append]; rfl
  · rw [hI_pI, if_neg (by omega), hI_pI, if_pos ⟨rfl, rfl⟩, List.length_append]; rfl
  · rw [hI_pI, if_neg (by omega), hI_pI, if_neg (by omega), hI_pI, if_neg (by omega)]; exact a3
  · rw [List.length_append]; exact hc
  · rw [List.length_append] at hq
    have hq' : q < c.length + 1 := hq
    rw [hI_pI, if_neg (by omega), hI_pI, if_neg (by omega), hI_pI]
    by_cases e : q = c.length
    · rw [if_pos ⟨rfl, e⟩, e, List.getD_eq_getElem?_getD, List.getElem?_append_right (Nat.le_refl _), Nat.sub_self]
      exact ⟨rfl, hk⟩
    · rw [if_neg (fun x => e x.2), List.getD_eq_getElem?_getD, List.getElem?_append_left (by omega), ← List.getD_eq_getElem?_getD]
      exact a5 q (by omega)
/-- the tree at a chain's end -/
def TE (h : hp) (own : Nat → Nat) (a : Nat) (t : TY 5) : Prop := a ≠ 0 ∧ hT h a = (9, 8) ∧ TT h own 5 t (hR h a 2)
theorem TE.fs {P : Nat → Nat → Prop} {h h' : hp} {own : Nat → Nat} {a : Nat} {t : TY 5} (H : TE h own a t) (f : FS P h h') (hP : ∀ x k, P x k → PCo own x k) : TE h' own a t :=
  ⟨H.1, by rw [f.2.2.1]; exact H.2.1, by rw [f.2.2.2.1]; exact H.2.2.tr (TRn.fs f hP)⟩
theorem pch_o {own : Nat → Nat} {i : Nat} (hi : i < 9) : ∀ x k, Pch i x k → PCo own x k := fun x k q => by unfold Pch at q; unfold PCo; omega
theorem lo_l {own : Nat → Nat} {tp : Tp} {i : Nat} (hi : i < 9) : ∀ (n k m : Nat) (h : hp) (c : List Nat), WF h → JG h own tp → CHp h i c → n + c.length = 6 → k < 6 → n < m → ∃ code a h', fX12_lastOf_l9 m 134 (147 + 2 * i) (iN k) (iN c.length) h = some (code, a, h') ∧ FS (Pch i) h h' ∧ match chW tp n k c with | .inl x => code = 1 ∧ TE h' own a x.2 ∧ CHp h' i x.1 ∧ x.1 ≠ [] ∧ (∃ q L, tp q = some (L, none, x.2)) | .inr x => ((code = 0 ∧ x.2 = (0, 1)) ∨ (code = 2 ∧ x.2 = (1, 7))) ∧ CHp h' i x.1 ∧ x.1 ≠ [] := by
  intro n
  induction n with
  | zero =>
    intro k m h c w G C hn hk hm
    obtain ⟨m, rfl⟩ : ∃ q, m = q + 1 := ⟨m - 1, by omega⟩
    have c6 : c.length = 6 := by omega
    refine ⟨2, 0, h, ?_, FS.rf _ h, .inr ⟨rfl, rfl⟩, C, fun e => by have e' : c = [] := e; rw [e'] at c6; cases c6⟩
    rw [fX12_lastOf_l9, c6]
    rfl
  | succ n ih =>
    intro k m h c w G C hn hk hm
    obtain ⟨m, rfl⟩ : ∃ q, m = q + 1 := ⟨m - 1, by omega⟩
    have hn2 := w.2.2
    have nle : ¬ (6 ≤ iN c.length) := fun q => by have := (i_le (a := 6) (by decide) (by omega)).mp q; omega
    obtain ⟨h1, e1, f1, C1⟩ := add_e w hi C (by omega) hk
    have w1 := f1.wf w
    have G1 : JG h1 own tp := G.fg w f1.fg (fun x k a _ _ q => by unfold Pch at q; omega) (fun k q => by unfold Pch at q; omega) (fun _ _ => rfl)
    have Gk := G1 k hk
    have st : fX12_lastOf_l9 (m + 1) 134 (147 + 2 * i) (iN k) (iN c.length) h = (if hR h1 67 k = 0 then some (0, hR h1 67 k, h1) else (gfI h1 (hR h1 67 k) 9 3).bind fun v10 => if 0 ≤ v10 then (gfI h1 (hR h1 67 k) 9 3).bind fun v12 => fX12_lastOf_l9 m 134 (147 + 2 * i) v12 (iN c.length + 1) h1 else some (1, hR h1 67 k, h1)) := by
      rw [fX12_lastOf_l9, if_neg nle, ckC w hi, Option.bind_some, e1, Option.bind_some, gWR w1, R134_0 w1, Option.bind_some, ck65 w1, Option.bind_some, held_e w1 hk, bd2_s]
    have nn : c ++ [k] ≠ [] := fun e => by have := congrArg List.length e; rw [List.length_append] at this; simp at this
    cases ht : tp k with
    | none =>
      rw [ht] at Gk
      refine ⟨0, hR h1 67 k, h1, by rw [st, if_pos Gk], f1, ?_⟩
      have ec : chW tp (n + 1) k c = .inr (c ++ [k], 0, 1) := by show (match tp k with | none => _ | some x => _) = _; rw [ht]
      rw [ec]
      exact ⟨.inl ⟨rfl, rfl⟩, C1, nn⟩
    | some x =>
      rw [ht] at Gk
      obtain ⟨g1, g2, lo, hi', g3, g4⟩ := Gk
      obtain ⟨t1, t2, t3, t4, t5, _, _, t8, _, _, _, _, t13⟩ := g3
      have r3 : gfI h1 (hR h1 67 k) 9 3 = some (oB x.2.1) := by unfold gfI; rw [t5]; show some (hI h1 (hR h1 67 k) 3) = _; rw [t8]
      cases hb : x.2.1 with
      | none =>
        have ec : chW tp (n + 1) k c = .inl (c ++ [k], x.2.2) := by
          show (match tp k with | none => _ | some x => _) = _
          rw [ht]
          show (match x.2.1 with | none => _ | some k' => _) = _
          rw [hb]
        refine ⟨1, hR h1 67 k, h1, by rw [st, if_neg g1, r3, Option.bind_some, hb, if_neg (show ¬ (0 ≤ oB none) by decide)], f1, ?_⟩
        rw [ec]
        refine ⟨rfl, ⟨g1, t5, lo, hi', ⟨t1, t4, g4⟩, t13⟩, C1, nn, k, x.1, ?_⟩
        rw [ht, ← hb]
      | some k' =>
        have hk' := g2 k' hb
        have ec : chW tp (n + 1) k c = chW tp n k' (c ++ [k]) := by
          show (match tp k with | none => _ | some x => _) = _
          rw [ht]
          show (match x.2.1 with | none => _ | some k' => _) = _
          rw [hb]
        have lc : (c ++ [k]).length = c.length + 1 := List.length_append
        obtain ⟨code, a, h2, e2, f2, r2⟩ := ih k' m h1 (c ++ [k]) w1 G1 C1 (by omega) hk' (by omega)
        rw [lc] at e2
        refine ⟨code, a, h2, ?_, f1.tr f2, by rw [ec]; exact r2⟩
        rw [st, if_neg g1, r3, Option.bind_some, hb, if_pos (show 0 ≤ oB (some k') from i0_le _ (by omega)), Option.bind_some, i_succ]
        exact e2
/-- the chain of the template that is begun -/
theorem CX.chn {P : Nat → Nat → Prop} {h h' : hp} {own : Nat → Nat} {tp : Tp} {lim : Nat} {KL : List (Nat × vT)} {LL : Nat → Option vT} {fr : Fr} {trn : Option Nat} {lk : Bool} {dp : Nat} {σ : St} {fl : Bool} {c : List Nat} {j : Nat} {bb : Option Nat} (H : CX h own tp lim KL LL fr none trn lk dp σ fl) (f : FS P h h') (hP : ∀ x k, P x k → Pch fr.length x k ∨ (x = 134 ∧ k = 11)) (e : hI h' 134 11 = iN (fr.length + 1)) (C : CHh h' fr.length c j bb) : CX h' own tp lim KL LL fr (some (c, j, bb)) trn lk dp σ fl := by
  obtain ⟨B, R, Ch, N, O, r⟩ := H
  have hn := B.1.1.2.2
  have h8 := B.2.2.2.2.2.2.2
  have np : ∀ x k, x < 147 → (x ≠ 134 ∨ k ≠ 11) → ¬ P x k := fun x k a b q => by have := hP x k q; unfold Pch at this; omega
  refine ⟨B.fs f fun x k q => ?_, R.fs f (fun x k _ _ => np x k (by omega) (by omega)), fun x e => by cases e; exact C, ?_, O.fs f (fun k => np _ k (by omega) (by omega)) (fun k => np _ k (by omega) (by omega)) (fun k => ⟨np _ k (by omega) (by omega), np _ k (by omega) (by omega)⟩), r⟩
  · have := hP x k q
    unfold Pch at this
    refine ⟨by omega, ?_⟩
    unfold PA
    omega
  · have e' : ∀ k, k ≠ 11 → hI h' 134 k = hI h 134 k := fun k hk => (f.2.2.2.2 134 k (np _ k (by omega) (by omega))).1
    unfold CN at N ⊢
    rw [e' 10 (by decide), e' 12 (by decide), e' 13 (by decide), e' 14 (by decide), e' 15 (by decide), e' 16 (by decide), e' 17 (by decide)]
    exact ⟨N.1, e, N.2.2⟩

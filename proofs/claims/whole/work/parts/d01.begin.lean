/-! the calls look and press: both walks from where they begin -/
set_option maxHeartbeats 400000
def Pbg (x k : Nat) : Prop := (x = 165 ∧ k ≤ 47 ∧ k ≠ 10 ∧ k ≠ 19 ∧ k ≠ 20 ∧ k ≠ 21 ∧ k ≠ 24 ∧ k ≠ 38) ∨ (166 ≤ x ∧ x ≤ 171) ∨ (176 ≤ x ∧ x ≤ 191)
/-- what both walks ask -/
def WI (h : hp) (own : Nat → Nat) (tp : Tp) (lim : Nat) (vs : Nat → vT) : Prop := (WF h ∧ ZH h) ∧ (JX h own ∧ JG h own tp ∧ RTh h tp ∧ okTp tp) ∧ ((hI h 65 3 = iN lim ∧ hI h 165 24 = iN lim) ∧ lim ≤ 400) ∧ (∀ v, v < 8 → CV h (70 + 2 * v) (71 + 2 * v) (vs v) ∧ MV h v (vs v) ∧ gV (vs v)) ∧ (RGh h ∧ hI h 134 10 = 0)
def CRs (h : hp) (tp : Tp) (R : Ot) : Prop :=
  match R with
  | .inl σ => hI h 134 17 = 0 ∧ (hI h 134 13 = iN σ.2.1 ∧ σ.2.1 ≤ 3) ∧ hI h 134 14 = iN σ.2.2.2 ∧ NL h 143 144 400 σ.2.2.1 ∧ ∀ x, tp 6 = some x → NL h 86 87 162 x.1
  | .inr e => hI h 134 17 = 1 ∧ hI h 134 14 = iN e.1 ∧ NL h 86 87 162 (fltL e.2)
def MRs (h : hp) (tp : Tp) (R : Ot) : Prop :=
  match R with
  | .inl σ => hI h 165 43 = 0 ∧ hI h 165 23 = iN σ.2.1 ∧ hI h 165 35 = iN σ.2.2.2 ∧ (hI h 165 22 = iN σ.2.2.1.length ∧ σ.2.2.1.length ≤ 400 ∧ ∀ k, k < σ.2.2.1.length → hI h 176 k = σ.2.2.1.getD k 0) ∧ WRs h tp
  | .inr e => hI h 165 43 = 1 ∧ hI h 165 35 = iN e.1 ∧ ML3 h e.2
theorem FM.fg {P : Nat → Nat → Prop} {h h' : hp} (f : FM P h h') : FG (fun x k => P x k ∨ (x = 165 ∧ k = 11)) h h' :=
  ⟨Nat.le_of_eq f.1.symm, Nat.le_of_eq f.2.1.symm, fun x _ => by rw [f.2.2.1], fun x k _ q => ⟨f.i (fun z => q (.inl z)), f.f (fun z => q (.inl z)), f.2.2.2.1 x k (fun z => q (.inr z))⟩⟩
theorem TX.fg {P : Nat → Nat → Prop} {h h' : hp} {k : Nat} {L : List Int32} (T : TX h k L) (w' : WF h') (f : FG P h h') (hP : ∀ x j, x = 173 ∨ x = 174 → ¬ P x j) : TX h' k L := by
  obtain ⟨w, t1, t2, t3, t4, t5⟩ := T
  have hn := w.2.2
  exact ⟨w', t1, t2, by rw [(f.2.2.2 174 k (by omega) (hP _ _ (.inr rfl))).1]; exact t3, fun i hi => by rw [(f.2.2.2 173 _ (by omega) (hP _ _ (.inl rfl))).1]; exact t4 i hi, t5⟩
theorem RTh.fg {P : Nat → Nat → Prop} {h h' : hp} {tp : Tp} (H : RTh h tp) (w : WF h) (w' : WF h') (f : FG P h h') (hP : ∀ x j, x = 173 ∨ x = 174 → ¬ P x j) : RTh h' tp := fun k hk => by
  have a := H k hk
  have hn := w.2.2
  cases ht : tp k with
  | none =>
    rw [ht] at a
    have a' : hI h 174 k = -1 := a
    show hI h' 174 k = -1
    rw [(f.2.2.2 174 k (by omega) (hP _ _ (.inr rfl))).1]; exact a'
  | some x =>
    rw [ht] at a
    exact ⟨a.1.fg w' f hP, a.2⟩
theorem WR.fg {P : Nat → Nat → Prop} {h h' : hp} {W : List Int32} (H : WR h W) (w : WF h) (f : FG P h h') (hP : ∀ x k, (x = 165 ∧ k = 47) ∨ (189 ≤ x ∧ x ≤ 191) → ¬ P x k) : WR h' W := by
  have hn := w.2.2
  obtain ⟨n, a, b, c, d⟩ := H
  refine ⟨n, a, b, by rw [(f.2.2.2 165 47 (by omega) (hP _ _ (.inl ⟨rfl, rfl⟩))).1]; exact c, fun i hi => ?_⟩
  rw [(f.2.2.2 189 i (by omega) (hP _ _ (.inr (by omega)))).1, (f.2.2.2 190 i (by omega) (hP _ _ (.inr (by omega)))).1, (f.2.2.2 191 i (by omega) (hP _ _ (.inr (by omega)))).1]
  exact d i hi
theorem FM.zh {P : Nat → Nat → Prop} {h h' : hp} (f : FM P h h') (w : WF h) (z : ZH h) (hP : ∀ x k, P x k → x < 204) : ZH h' := fun x k hx => by
  have hn := w.2.2
  rw [f.1] at hx
  rw [f.i (fun q => by have := hP _ _ q; omega), f.f (fun q => by have := hP _ _ q; omega), f.2.2.2.1 x k (fun q => by omega)]
  exact z x k hx
theorem JX.fm {P : Nat → Nat → Prop} {h h' : hp} {own : Nat → Nat} (H : JX h own) (f : FM P h h') : JX h' own := by
  have s : ∀ {a s : Nat}, SLo h own a s → SLo h' own a s := fun {a s} ⟨⟨v1, v2, v3, v4⟩, a1, a2, a3, a4, a5, a6⟩ => by
    unfold SLo VO
    rw [f.2.2.1, f.2.2.2.1 a 4 (fun q => by omega), f.1]
    exact ⟨⟨v1, v2, v3, v4⟩, a1, a2, a3, a4, a5, a6⟩
  refine ⟨fun i hi => ?_, fun l hl => ?_⟩
  · rw [f.2.2.2.1 145 i (fun q => by omega)]; exact (H.1 i hi).imp id s
  · rw [f.2.2.2.1 136 l (fun q => by omega)]; exact (H.2 l hl).imp id s
/-- the class's walk begun -/
theorem beg_c {h : hp} {own : Nat → Nat} {tp : Tp} {lim ctx : Nat} {vs : Nat → vT} (lk : Bool) (H : WI h own tp lim vs) (hW : ∀ x, tp 6 = some x → NL h 86 87 162 x.1) (hc : ctx ≤ 3) : ∃ h', fX12_begin 134 (iN ctx) (b2 lk) h = some h' ∧ FS (fun x k => (x = 134 ∧ 11 ≤ k) ∨ (x = 143 ∧ k = 1)) h h' ∧ CX h' own tp lim [] (fun _ => none) [] none none lk 0 (vs, ctx, [], 0) false := by
  obtain ⟨⟨w, z⟩, ⟨X, G, T, ok⟩, ⟨⟨l1, l2⟩, l4⟩, V, R, k0⟩ := H
  have hn := w.2.2
  have f : FS (fun x k => (x = 134 ∧ 11 ≤ k) ∨ (x = 143 ∧ k = 1)) h (pI (pI (pI (pI (pI (pI (pI (pI h 143 1 0) 134 11 0) 134 12 0) 134 13 (iN ctx)) 134 14 0) 134 15 (-1)) 134 16 (b2 lk)) 134 17 0) :=
    (((((((FS.pI (.inr ⟨rfl, rfl⟩)).tr (FS.pI (.inl ⟨rfl, by decide⟩))).tr (FS.pI (.inl ⟨rfl, by decide⟩))).tr (FS.pI (.inl ⟨rfl, by decide⟩))).tr (FS.pI (.inl ⟨rfl, by decide⟩))).tr (FS.pI (.inl ⟨rfl, by decide⟩))).tr (FS.pI (.inl ⟨rfl, by decide⟩))).tr (FS.pI (.inl ⟨rfl, by decide⟩))
  have w' := f.wf w
  refine ⟨_, ?_, f, ⟨⟨w', FS.zh f z (fun x k q => by omega)⟩, ⟨X.fs f, G.fg w f.fg (fun x k a b c q => by omega) (fun k q => by omega) (fun _ _ => rfl)⟩, ⟨by rw [(f.2.2.2.2 65 3 (by omega)).1]; exact l1, l4⟩, fun v hv => ⟨(V v hv).1.fs f (fun k q => by omega) (fun k q => by omega), (V v hv).2.2⟩, ⟨Nat.zero_le _, trivial⟩, (fun l V e => by cases e), (fun i g e => by cases e), Nat.zero_le _⟩, R.fs f (fun x k a b q => by omega), (fun x e => by cases e), ?_, ⟨⟨NO_out w', ?_, Nat.zero_le _, fun k hk => absurd hk (Nat.not_lt_zero _)⟩, fun _ x e => (hW x e).fs f (fun k q => by omega) (fun k q => by omega)⟩, hc, Nat.zero_le _, (fun i e => by cases e), Nat.zero_le _, Nat.zero_le _⟩
  · have w1 : WF (pI h 143 1 0) := w
    have w2 : WF (pI (pI h 143 1 0) 134 11 0) := w
    have w3 : WF (pI (pI (pI h 143 1 0) 134 11 0) 134 12 0) := w
    have w4 : WF (pI (pI (pI (pI h 143 1 0) 134 11 0) 134 12 0) 134 13 (iN ctx)) := w
    have w5 : WF (pI (pI (pI (pI (pI h 143 1 0) 134 11 0) 134 12 0) 134 13 (iN ctx)) 134 14 0) := w
    have w6 : WF (pI (pI (pI (pI (pI (pI h 143 1 0) 134 11 0) 134 12 0) 134 13 (iN ctx)) 134 14 0) 134 15 (-1)) := w
    have w7 : WF (pI (pI (pI (pI (pI (pI (pI h 143 1 0) 134 11 0) 134 12 0) 134 13 (iN ctx)) 134 14 0) 134 15 (-1)) 134 16 (b2 lk)) := w
    unfold fX12_begin
    rw [gWR w, Option.bind_some, R134_7 w, ckN (NO_out w), Option.bind_some, nEmpty (NO_out w), Option.bind_some, pW w1, Option.bind_some, pW w2, Option.bind_some, pW w3, Option.bind_some, pW w4, Option.bind_some, pW w5, Option.bind_some, pWz w6, Option.bind_some, show pfZ _ 134 11 17 0 = _ from pWz w7 17 false, Option.bind_some]
    rfl
  · unfold CN
    refine ⟨?_, ?_, ?_, ?_, ?_, ?_, ?_, ?_⟩
    · simp [hI_pI, k0]; rfl
    all_goals (simp [hI_pI]; try rfl)
  · simp [hI_pI]; rfl
theorem WI.cls {h h2 : hp} {own own' : Nat → Nat} {tp : Tp} {lim : Nat} {lk fl : Bool} {vs : Nat → vT} {σ : St} (H : WI h own tp lim vs) (t : TRn own h own' h2) (X : CX h2 own' tp lim [] (fun _ => none) [] none none lk 0 σ fl) (e : σ.1 = vs) : WI h2 own' tp lim vs := by
  obtain ⟨⟨w, z⟩, ⟨_, _, T, ok⟩, ⟨⟨_, l2⟩, l4⟩, V, _, _⟩ := H
  have hn := w.2.2
  obtain ⟨⟨⟨w2, z2⟩, ⟨X2, G2⟩, ⟨l1, _⟩, vv, _⟩, R, _, N, _⟩ := X
  subst e
  exact ⟨⟨w2, z2⟩, ⟨X2, G2, T.fg w w2 t.1 (fun x j q => by unfold PCo; omega), ok⟩, ⟨⟨l1, by rw [(t.1.2.2.2 165 24 (by omega) (by unfold PCo; omega)).1]; exact l2⟩, l4⟩, fun v hv => ⟨(vv v hv).1, (V v hv).2.1.fg w t.1 (fun x k q z => by unfold sP at q; unfold PCo at z; omega), (vv v hv).2⟩, R, N.1⟩
theorem wi_c {h : hp} {own : Nat → Nat} {tp : Tp} {lim ctx k : Nat} {vs : Nat → vT} (lk : Bool) (H : WI h own tp lim vs) (hW : ∀ x, tp 6 = some x → NL h 86 87 162 x.1) (hk : k < 6) (hc : ctx ≤ 3) : ∃ h1 h2 own', fX12_begin 134 (iN ctx) (b2 lk) h = some h1 ∧ WF h1 ∧ fX12_walkTemplate 134 (iN k) 0 h1 = some h2 ∧ TRn own h own' h2 ∧ WI h2 own' tp lim vs ∧ CRs h2 tp (wTp lk true lim tp (wE lk true lim tp 8) k [] none (vs, ctx, [], 0)) := by
  obtain ⟨h1, e1, f1, X1⟩ := beg_c lk H hW hc
  obtain ⟨h2, own', e2, t2, Q⟩ := walk_t X1 hk H.2.1.2.2.2
  have t : TRn own h own' h2 := (TRn.fs f1 (fun x k q => by unfold PCo; omega)).tr t2
  refine ⟨h1, h2, own', e1, X1.w, e2, t, ?_⟩
  cases hR : wTp lk true lim tp (wE lk true lim tp 8) k [] none (vs, ctx, [], 0) with
  | inl σ =>
    rw [hR] at Q
    obtain ⟨X2, eq⟩ := Q
    exact ⟨H.cls t X2 eq, X2.2.2.2.1.2.2.2.2.2.2.2, ⟨X2.2.2.2.1.2.2.2.1, X2.2.2.2.2.2.1⟩, X2.2.2.2.1.2.2.2.2.1, X2.2.2.2.2.1.1, X2.2.2.2.2.1.2 rfl⟩
  | inr e =>
    rw [hR] at Q
    obtain ⟨cx, out, X2, N2⟩ := Q
    exact ⟨H.cls t X2 rfl, X2.2.2.2.1.2.2.2.2.2.2.2, X2.2.2.2.1.2.2.2.2.1, N2⟩
/-- the reference's walk begun and gone through -/
theorem pMz {h : hp} (w : WF h) (k : Nat) (b : Bool) : pfZ h 165 13 k (b2 b) = some (pI h 165 k (b2 b)) := by
  unfold pfZ
  rw [T165 w, if_pos ⟨rfl, by cases b with
    | true => exact .inr rfl
    | false => exact .inl rfl⟩]
theorem wi_m {h : hp} {own : Nat → Nat} {tp : Tp} {lim ctx k : Nat} {vs : Nat → vT} (lk : Bool) (H : WI h own tp lim vs) (hW : WRs h tp) (hk : k < 6) (hc : ctx ≤ 3) : ∃ h', fX14_begins 165 (iN k) (iN ctx) (b2 lk) h = some h' ∧ FM Pbg h h' ∧ WI h' own tp lim vs ∧ MRs h' tp (wTp lk lk lim tp (wE lk lk lim tp 8) k [] none (vs, ctx, [], 0)) := by
  have H0 := H
  obtain ⟨⟨w, z⟩, ⟨X, G, T, ok⟩, ⟨⟨l1, l2⟩, l4⟩, V, R, k0⟩ := H
  have hn := w.2.2
  have f : FS (fun x k => x = 165 ∧ (k = 42 ∨ k = 43 ∨ k = 35 ∨ k = 36 ∨ k = 37 ∨ k = 30 ∨ k = 22 ∨ k = 23)) h (pI (pI (pI (pI (pI (pI (pI (pI h 165 42 (b2 lk)) 165 43 0) 165 35 0) 165 36 0) 165 37 0) 165 30 0) 165 22 0) 165 23 (iN ctx)) :=
    (((((((FS.pI ⟨rfl, by omega⟩).tr (FS.pI ⟨rfl, by omega⟩)).tr (FS.pI ⟨rfl, by omega⟩)).tr (FS.pI ⟨rfl, by omega⟩)).tr (FS.pI ⟨rfl, by omega⟩)).tr (FS.pI ⟨rfl, by omega⟩)).tr (FS.pI ⟨rfl, by omega⟩)).tr (FS.pI ⟨rfl, by omega⟩)
  have w' := f.wf w
  have Y : RY (pI (pI (pI (pI (pI (pI (pI (pI h 165 42 (b2 lk)) 165 43 0) 165 35 0) 165 36 0) 165 37 0) 165 30 0) 165 22 0) 165 23 (iN ctx)) tp lim [] 0 0 none lk 0 (vs, ctx, [], 0) := by
    refine ⟨⟨w', T.fm f.fm (fun x k q => by omega)⟩, (fun i g e => by cases e), ⟨⟨fun v hv => ⟨(V v hv).2.1.fr f (fun x k q z => by unfold sP at q; omega), (V v hv).2.2⟩, fun _ => ?_, fun i e => by cases e⟩, ?_, Nat.zero_le _⟩, ⟨?_, l4, ?_, Nat.zero_le _, ?_, Nat.zero_le _, ?_, ?_, hc, ⟨?_, Nat.zero_le _, fun k hk => absurd hk (Nat.not_lt_zero _)⟩, ?_, ?_⟩, Nat.zero_le _, hW.fm f.fm (fun x k q => by omega)⟩
    · simp [hI_pI]
    · simp [hI_pI]; rfl
    · rw [(f.2.2.2.2 165 24 (by omega)).1]; exact l2
    all_goals (simp [hI_pI]; try rfl)
  obtain ⟨h2, e2, f2, v2, o2⟩ := prints_p _ tp lim [] 0 0 none lk 0 (vs, ctx, [], 0) k rfl Y hk (Nat.le_refl _) (Nat.le_refl _)
  have F : FM Pbg h h2 := (f.fm.up fun x k q => by unfold Pbg; omega).tr (f2.up fun x k q => by unfold PRp PRn at q; unfold Pbg; omega)
  have w2 := F.wf w
  refine ⟨h2, ?_, F, ⟨⟨w2, F.zh w z (fun x k q => by unfold Pbg at q; omega)⟩, ⟨X.fm F, G.fg w F.fg (fun x k a b c q => by unfold Pbg at q; omega) (fun k q => by unfold Pbg at q; omega) (fun _ _ => rfl), T.fm F (fun x k q => by unfold Pbg at q; omega), ok⟩, ⟨⟨by rw [F.i (by unfold Pbg; omega)]; exact l1, by rw [F.i (by unfold Pbg; omega)]; exact l2⟩, l4⟩, fun v hv => ⟨(V v hv).1.fg F.fg (by omega) (by omega) (fun k q => by unfold Pbg at q; omega) (fun k q => by unfold Pbg at q; omega), v2 v hv, (V v hv).2.2⟩, R.fg w F.fg (fun x k a b q => by unfold Pbg at q; omega), by rw [F.i (by unfold Pbg; omega)]; exact k0⟩, ?_⟩
  · have w1 : WF (pI h 165 42 (b2 lk)) := w
    have w3 : WF (pI (pI h 165 42 (b2 lk)) 165 43 0) := w
    have w4 : WF (pI (pI (pI h 165 42 (b2 lk)) 165 43 0) 165 35 0) := w
    have w5 : WF (pI (pI (pI (pI h 165 42 (b2 lk)) 165 43 0) 165 35 0) 165 36 0) := w
    have w6 : WF (pI (pI (pI (pI (pI h 165 42 (b2 lk)) 165 43 0) 165 35 0) 165 36 0) 165 37 0) := w
    have w7 : WF (pI (pI (pI (pI (pI (pI h 165 42 (b2 lk)) 165 43 0) 165 35 0) 165 36 0) 165 37 0) 165 30 0) := w
    have w8 : WF (pI (pI (pI (pI (pI (pI (pI h 165 42 (b2 lk)) 165 43 0) 165 35 0) 165 36 0) 165 37 0) 165 30 0) 165 22 0) := w
    unfold fX14_begins
    rw [pMz w, Option.bind_some, show pfZ _ 165 13 43 0 = _ from pMz w1 43 false, Option.bind_some, show pI (pI h 165 42 (b2 lk)) 165 43 (b2 false) = pI (pI h 165 42 (b2 lk)) 165 43 0 from rfl, pM w3, Option.bind_some, pM w4, Option.bind_some, pM w5, Option.bind_some, pM w6, Option.bind_some, pM w7, Option.bind_some, pM w8, Option.bind_some, ckM w', Option.bind_some, show fX14_prints 165 0 (iN k) _ = _ from e2, Option.bind_some]
  · rw [show preF [] = ([] : List Lk) from rfl] at o2
    cases hR : wTp lk lk lim tp (wE lk lk lim tp 8) k [] none (vs, ctx, [], 0) with
    | inl σ =>
      rw [hR] at o2
      have Y2 : RY h2 tp lim [] 0 0 none lk 0 σ := o2
      have N := Y2.2.2.2.1
      exact ⟨N.2.2.2.2.2.2.2.2.2.2.2, N.cx.1, N.stp.1, N.2.2.2.2.2.2.2.2.2.1, Y2.2.2.2.2.2⟩
    | inr e =>
      rw [hR] at o2
      have r : RFt h2 0 e := o2
      exact ⟨r.1, r.2.2.1, r.2.1⟩

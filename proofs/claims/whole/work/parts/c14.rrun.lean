/-! the reference's walk: pieces one behind the other, a T -/
set_option maxHeartbeats 300000
def bjE (j : Nat) (bb : Option Nat) : Int32 := match bb with
  | none => -1
  | some _ => iN j
/-- a piece, what stands within it having m levels left, d being what is left of deep -/
def RP (d m f : Nat) : Prop := ∀ (h : hp) (tp : Tp) (lim : Nat) (fr : Fr) (c : List Nat) (ol lp : Nat) (trn : Option Nat) (lk : Bool) (dp : Nat) (σ : St) (j : Nat) (bb : Option Nat) (x : List Int32 × Option Nat × TY 5) (n p q : Nat) (blk : Bool) (pc : PD (TY m)), dp + d = 8 → RX h tp lim fr c ol lp trn lk dp σ → okC tp c → j < c.length → tp (c.getD j 0) = some x → pPiece x.1 (pAll x.1 n) m blk p = .inl (pc, q) → p < x.1.length → hereL x.1 p = 123 → m ≤ 4 → (blk = true → bb ≠ none) → (∀ b, bb = some b → b < 4) → ol + m ≤ 5 * dp + 5 → lp ≤ ol → PCr ((G3 f).2.2.1 165 (iN fr.length) (iN j) (iN p) (bjE j bb) (oB bb) h) h tp lim fr c ol lp trn lk dp (wPc lk lk lim (wE lk lk lim tp d) (wTr lk lk lim (wE lk lk lim tp d) m) pc (preF fr, c, j, bb, trn) σ) q
/-- pieces of a T -/
def RA (d m f : Nat) : Prop := ∀ (h : hp) (tp : Tp) (lim : Nat) (fr : Fr) (c : List Nat) (ol lp : Nat) (trn : Option Nat) (lk : Bool) (dp : Nat) (σ : St) (j : Nat) (bb : Option Nat) (x : List Int32 × Option Nat × TY 5) (n p e0 : Nat) (blk : Bool) (t : TY (m + 1)), dp + d = 8 → RX h tp lim fr c ol lp trn lk dp σ → okC tp c → j < c.length → tp (c.getD j 0) = some x → pPcs x.1 n m blk p = .inl (t, e0) → p ≤ x.1.length → m ≤ 4 → (blk = true → bb ≠ none) → (∀ b, bb = some b → b < 4) → ol + m ≤ 5 * dp + 5 → lp ≤ ol → ∃ r h', (G3 f).1 165 (iN fr.length) (iN j) (iN p) (bjE j bb) (oB bb) h = some (r, h') ∧ FM (PRn fr.length ol lp) h h' ∧ RoQ h' tp lim fr c ol lp trn lk dp (wL (X := TY m) (fun pc => wPc lk lk lim (wE lk lk lim tp d) (wTr lk lk lim (wE lk lk lim tp d) m) pc (preF fr, c, j, bb, trn)) t σ)
/-- a T -/
def RTn (d m f : Nat) : Prop := ∀ (h : hp) (tp : Tp) (lim : Nat) (fr : Fr) (c : List Nat) (ol lp : Nat) (trn : Option Nat) (lk : Bool) (dp : Nat) (σ : St) (j : Nat) (bb : Option Nat) (x : List Int32 × Option Nat × TY 5) (n p e0 : Nat) (blk : Bool) (t : TY (m + 1)), dp + d = 8 → RX h tp lim fr c ol lp trn lk dp σ → okC tp c → j < c.length → tp (c.getD j 0) = some x → pPcs x.1 n m blk p = .inl (t, e0) → p ≤ x.1.length → m ≤ 4 → (blk = true → bb ≠ none) → (∀ b, bb = some b → b < 4) → ol + 1 + m ≤ 5 * dp + 5 → lp ≤ ol → ∃ h', (G3 f).2.1 165 (iN fr.length) (iN j) (iN p) (bjE j bb) (oB bb) h = some h' ∧ FM (PRn fr.length ol lp) h h' ∧ (∀ u, u < 8 → MV h' u (σ.1 u)) ∧ RoQ h' tp lim fr c ol lp trn lk dp (wTr lk lk lim (wE lk lk lim tp d) (m + 1) t (preF fr, c, j, bb, trn) σ)
theorem pcs_le {L : List Int32} {n m p q : Nat} {blk : Bool} {t : TY (m + 1)} (hm : m ≤ 4) (hp' : p ≤ L.length) (e : pPcs L n m blk p = .inl (t, q)) : p ≤ q ∧ q ≤ L.length := by
  have := pcs_ind (L := L) (fun _ _ _ _ => True) (fun _ _ _ _ => trivial) (fun _ _ _ _ _ _ _ _ => trivial) (fun _ _ _ _ _ _ _ _ _ _ _ => trivial) (fun _ _ _ _ _ _ _ _ _ _ _ _ _ _ _ _ _ _ _ => trivial) (fun _ _ _ _ _ _ _ _ _ _ _ _ _ _ _ _ _ _ _ _ _ _ _ _ => trivial) n m blk p q t hm hp' e
  exact ⟨this.1, this.2.1⟩
theorem pc_len {L : List Int32} {n m p q : Nat} {blk : Bool} {pc : PD (TY m)} (e : pPiece L (pAll L n) m blk p = .inl (pc, q)) (hm : m ≤ 4) (hlt : p < L.length) : p < q ∧ q ≤ L.length := by
  rcases piece_i e hlt with ⟨i1, i2, i3, i4⟩ | ⟨b, D, i⟩
  · omega
  · have h1 := D.1.2.1
    have h2 := D.1.2.2.1
    rcases i with ⟨i1, i2, i3, i4, _⟩ | ⟨i0, i1, i2, tn, i3⟩ | ⟨i0, i1, i3⟩
    · omega
    · obtain ⟨m, rfl⟩ : ∃ q, m = q + 1 := ⟨m - 1, by omega⟩
      obtain ⟨e0, k1, k2, k3, k4, k5, k6, k7⟩ := within_i (by omega) i3
      have := pcs_le (by omega) h2 k1
      have := (here_lt k6 (by decide)).1
      omega
    · obtain ⟨m, rfl⟩ : ∃ q, m = q + 1 := ⟨m - 1, by omega⟩
      obtain ⟨e0, k1, k3, k4, k6, k7⟩ := body_i (by omega) i3
      have := pcs_le (by omega) h2 k1
      have k8 := (here_lt k6 (by decide)).1
      rcases k7 with ⟨u1, u2, u3⟩ | ⟨u1, e1, u2, u3, u4, u5, u6, u7⟩
      · omega
      · have := pcs_le (by omega) (by omega) u2
        have := (here_lt u6 (by decide)).1
        omega
theorem prn_o {n ol lp x k : Nat} (q : PRn n (ol + 1) lp x k) : PRn n ol lp x k := by
    unfold PRn at q
    rcases q with q | q | q | q | q | q | q | q | q | q | q <;> (first | exact .inl (by omega) | exact .inr (.inl (by omega)) | exact .inr (.inr (.inl (by omega))) | exact .inr (.inr (.inr (.inl (by omega)))) | exact .inr (.inr (.inr (.inr (.inl (by omega))))) | exact .inr (.inr (.inr (.inr (.inr (.inl (by omega)))))) | exact .inr (.inr (.inr (.inr (.inr (.inr (.inl (by omega))))))) | exact .inr (.inr (.inr (.inr (.inr (.inr (.inr (.inl (by omega)))))))) | exact .inr (.inr (.inr (.inr (.inr (.inr (.inr (.inr (.inl (by omega))))))))) | exact .inr (.inr (.inr (.inr (.inr (.inr (.inr (.inr (.inr (.inl (by omega)))))))))) | exact .inr (.inr (.inr (.inr (.inr (.inr (.inr (.inr (.inr (.inr (by omega)))))))))))
/-- what is put for a byte, the context behind it -/
theorem RX.ctx {h : hp} {tp : Tp} {lim : Nat} {fr : Fr} {c : List Nat} {ol lp : Nat} {trn : Option Nat} {lk : Bool} {dp : Nat} {σ : St} {a : Nat} (H : RX h tp lim fr c ol lp trn lk dp σ) (C : okC tp c) (ha : a ≤ 3) : RX (pI h 165 23 (iN a)) tp lim fr c ol lp trn lk dp (σ.1, a, σ.2.2) ∧ FM (PRn fr.length ol lp) h (pI h 165 23 (iN a)) := by
  have f : FS (fun x k => x = 165 ∧ k = 23) h (pI h 165 23 (iN a)) := FS.pI ⟨rfl, rfl⟩
  have u : ∀ x k, (x = 165 ∧ k = 23) → PRn fr.length ol lp x k := fun x k q => by
    (first | exact .inl (by omega) | exact .inr (.inl (by omega)) | exact .inr (.inr (.inl (by omega))) | exact .inr (.inr (.inr (.inl (by omega)))) | exact .inr (.inr (.inr (.inr (.inl (by omega))))) | exact .inr (.inr (.inr (.inr (.inr (.inl (by omega)))))) | exact .inr (.inr (.inr (.inr (.inr (.inr (.inl (by omega))))))) | exact .inr (.inr (.inr (.inr (.inr (.inr (.inr (.inl (by omega)))))))) | exact .inr (.inr (.inr (.inr (.inr (.inr (.inr (.inr (.inl (by omega))))))))) | exact .inr (.inr (.inr (.inr (.inr (.inr (.inr (.inr (.inr (.inl (by omega)))))))))) | exact .inr (.inr (.inr (.inr (.inr (.inr (.inr (.inr (.inr (.inr (by omega)))))))))))
  exact ⟨H.re C f.fm u (H.1.2.2.1.1.fx f.fm (fun v x k hv q z => by unfold sP at q; omega) (fun z => by omega) (fun l _ _ z => by omega)) (by rw [hI_pI, if_neg (by decide)]; exact H.1.2.2.1.2.1) (H.rn.ctx ha) (H.1.2.2.2.2.2.fm f.fm (fun x k q => by omega)), f.fm.up u⟩
theorem rl_l {d m f : Nat} (A : RP d m f) : ∀ (n p lf : Nat) (h : hp) (tp : Tp) (lim : Nat) (fr : Fr) (c : List Nat) (ol lp : Nat) (trn : Option Nat) (lk : Bool) (dp : Nat) (σ : St) (j : Nat) (bb : Option Nat) (x : List Int32 × Option Nat × TY 5) (e0 : Nat) (blk : Bool) (t : TY (m + 1)), dp + d = 8 → RX h tp lim fr c ol lp trn lk dp σ → okC tp c → j < c.length → tp (c.getD j 0) = some x → pPcs x.1 n m blk p = .inl (t, e0) → p ≤ x.1.length → m ≤ 4 → (blk = true → bb ≠ none) → (∀ b, bb = some b → b < 4) → ol + m ≤ 5 * dp + 5 → lp ≤ ol → x.1.length - p < lf → ∃ cd r h', fX14_run_l16 (G3 f) lf 165 (iN fr.length) (iN j) (bjE j bb) (oB bb) (iN (c.getD j 0)) (iN p) h = some (cd, r, h') ∧ (cd = 0 ∨ cd = 1) ∧ FM (PRn fr.length ol lp) h h' ∧ RoQ h' tp lim fr c ol lp trn lk dp (wL (X := TY m) (fun pc => wPc lk lk lim (wE lk lk lim tp d) (wTr lk lk lim (wE lk lk lim tp d) m) pc (preF fr, c, j, bb, trn)) t σ) := by
  intro n
  induction n with
  | zero => intro p lf h tp lim fr c ol lp trn lk dp σ j bb x e0 blk t _ _ _ _ _ e; cases e
  | succ n ih =>
    intro p lf h tp lim fr c ol lp trn lk dp σ j bb x e0 blk t hd H C hj hx e hp' hm hb b4 ho hl hlf
    obtain ⟨lf, rfl⟩ : ∃ q, lf = q + 1 := ⟨lf - 1, by omega⟩
    have w := H.w
    have T := (H.tx C hj hx).1
    have len := T.2.2.1
    have c6 := (C.2.2 j hj).1
    have E := pcs_end x.1 _ _ _ _ _ _ e
    unfold pPcs at e
    by_cases c0 : x.1.length ≤ p
    · rw [if_pos c0] at e
      have a1 : tNil m = t := congrArg Prod.fst (Sum.inl.inj e)
      subst a1
      refine ⟨1, iN p, h, ?_, .inr rfl, FM.rf _ h, H⟩
      rw [fX14_run_l16, gM w, Option.bind_some, H.fl, if_pos rfl, MR9 w, Option.bind_some, T.sz, Option.bind_some, if_pos (by rw [i_le (by omega) (by omega)]; exact c0)]
    rw [if_neg c0] at e
    have hlt : p < x.1.length := by omega
    have hh : hereL x.1 p = x.1.getD p 0 := hereL_in hlt
    have st0 : ∀ K : Option (Nat × Int32 × hp), ((gfI h 165 13 43).bind fun v1 => if v1 = 0 then ((gfR h 165 13 9).bind fun v3 => (alI h v3 (iN (c.getD j 0))).bind fun v5 => if v5 ≤ iN p then some (1, iN p, h) else K) else some (1, iN p, h)) = K := fun K => by
      rw [gM w, Option.bind_some, H.fl, if_pos rfl, MR9 w, Option.bind_some, T.sz, Option.bind_some, if_neg (by rw [i_le (by omega) (by omega)]; exact c0)]
    have byK : ∀ K : Int32 → hp → Option (Nat × Int32 × hp), ((ckT h 165 13).bind fun _ => bd2 (fX14_byteAt 165 (iN (c.getD j 0)) (iN p) h) K) = K (hereL x.1 p) h := fun K => by
      rw [ckM w, Option.bind_some, byte_e T hlt, bd2_s, ← hh]
    by_cases c2 : hereL x.1 p = 123 ∧ (hereL x.1 (p + 1) = 47 ∨ hereL x.1 (p + 1) = 58)
    · rw [if_pos c2] at e
      have a1 : tNil m = t := congrArg Prod.fst (Sum.inl.inj e)
      subst a1
      have k1 := here_lt c2.1 (by decide)
      have k2 : p + 1 < x.1.length := c2.2.elim (fun z => (here_lt z (by decide)).1) (fun z => (here_lt z (by decide)).1)
      refine ⟨0, iN p, h, ?_, .inl rfl, FM.rf _ h, H⟩
      rw [fX14_run_l16, st0, ckM w, Option.bind_some, byte_e T hlt, bd2_s, if_pos k1.2, ckM w, Option.bind_some, i_succ, byte_e T k2, bd2_s, ← hereL_in k2]
      rcases c2.2 with z | z
      · rw [if_pos z]
      · rw [z, if_neg (by decide), if_pos rfl]
    rw [if_neg c2] at e
    obtain ⟨pc, p1, s1, e⟩ := bnd_i e
    obtain ⟨r, q2, s2, e⟩ := bnd_i e
    have a1 : tCons pc r = t := congrArg Prod.fst (Sum.inl.inj e)
    subst a1
    have eW : wL (X := TY m) (fun pc => wPc lk lk lim (wE lk lk lim tp d) (wTr lk lk lim (wE lk lk lim tp d) m) pc (preF fr, c, j, bb, trn)) (tCons pc r) σ = bO (wPc lk lk lim (wE lk lk lim tp d) (wTr lk lk lim (wE lk lk lim tp d) m) pc (preF fr, c, j, bb, trn) σ) (wL (X := TY m) (fun pc => wPc lk lk lim (wE lk lk lim tp d) (wTr lk lk lim (wE lk lk lim tp d) m) pc (preF fr, c, j, bb, trn)) r) := rfl
    rw [eW]
    -- the next round behind a fault, or behind what went well
    have nx : ∀ (g : hp) (R : Ot) (rr : Int32), FM (PRn fr.length ol lp) h g → RoQ g tp lim fr c ol lp trn lk dp R → (∀ σ', R = .inl σ' → rr = iN p1) → p1 ≤ x.1.length → p < p1 → ∃ cd r2 h', fX14_run_l16 (G3 f) lf 165 (iN fr.length) (iN j) (bjE j bb) (oB bb) (iN (c.getD j 0)) rr g = some (cd, r2, h') ∧ (cd = 0 ∨ cd = 1) ∧ FM (PRn fr.length ol lp) h h' ∧ RoQ h' tp lim fr c ol lp trn lk dp (bO R (wL (X := TY m) (fun pc => wPc lk lk lim (wE lk lk lim tp d) (wTr lk lk lim (wE lk lk lim tp d) m) pc (preF fr, c, j, bb, trn)) r)) := by
      intro g R rr fg rg er hp1 hp2
      cases R with
      | inl σ1 =>
        have er' := er σ1 rfl
        subst er'
        obtain ⟨cd, r', h', x1, x2, x3, x4⟩ := ih p1 lf g tp lim fr c ol lp trn lk dp σ1 j bb x _ blk r hd rg C hj hx s2 hp1 hm hb b4 ho hl (by omega)
        exact ⟨cd, r', h', x1, x2, fg.tr x3, x4⟩
      | inr e' =>
        obtain ⟨lf, rfl⟩ : ∃ q, lf = q + 1 := ⟨lf - 1, by omega⟩
        refine ⟨1, rr, g, ?_, .inr rfl, fg, rg⟩
        have wg := fg.wf w
        rw [fX14_run_l16, gM wg, Option.bind_some, rg.1, if_neg (by decide)]
    rcases piece_i s1 hlt with ⟨i1, i2, i3, i4⟩ | ⟨b, D, i⟩
    · subst i3 i4
      have st1 : fX14_run_l16 (G3 f) (lf + 1) 165 (iN fr.length) (iN j) (bjE j bb) (oB bb) (iN (c.getD j 0)) (iN p) h = jn (fun (h129j : hp) => ((ckT h129j 165 13).bind fun _ => (fX14_goesOnBy 165 (hereL x.1 p) h129j).bind fun h14 => fX14_run_l16 (G3 f) lf 165 (iN fr.length) (iN j) (bjE j bb) (oB bb) (iN (c.getD j 0)) (iN (p + 1)) h14)) fun k129 => if hI h 165 42 = 0 then ((ckT h 165 13).bind fun _ => bd2 (fX14_puts 165 (hereL x.1 p) h) fun v17 h18 => if v17 = 0 then ((ckT h18 165 13).bind fun _ => bd2 (fX14_lineAt 165 (iN (c.getD j 0)) (iN p) h18) fun v21 h22 => (ckT h22 165 13).bind fun _ => (fX14_faults 165 (iN fr.length) (iN j) v21 5 h22).bind fun h25 => k129 h25) else k129 h18) else k129 h := by
        rw [fX14_run_l16, st0, byK, if_neg i1, gM w, Option.bind_some, i_succ]
      rw [st1, H.lk, jn_e]
      dsimp only
      cases lk with
      | true =>
        obtain ⟨g1, g2⟩ := goes_e w H.rn.cx.1 H.rn.cx.2 (hereL x.1 p)
        obtain ⟨H1, F1⟩ := H.ctx C g2
        rw [if_neg (show ¬ b2 true = 0 by decide), ckM w, Option.bind_some, g1, Option.bind_some]
        exact nx _ (.inl (σ.1, behW σ.2.1 (hereL x.1 p), σ.2.2)) _ F1 H1 (fun _ _ => rfl) (by omega) (by omega)
      | false =>
        rw [if_pos (show b2 false = 0 by decide), ckM w, Option.bind_some]
        have eP : wPc false false lim (wE false false lim tp d) (wTr false false lim (wE false false lim tp d) m) (0, lnAt x.1 p, hereL x.1 p, 0, eN, eN, tyN m, tyN m) (preF fr, c, j, bb, trn) σ = bO (putW lim (preF fr, c, j, bb, trn) (lnAt x.1 p) (hereL x.1 p) σ) fun σ' => .inl (σ'.1, behW σ'.2.1 (hereL x.1 p), σ'.2.2) := rfl
        rw [eP]
        unfold putW
        rcases puts_e w H.rn (hereL x.1 p) with ⟨c', e'⟩ | ⟨c', h1, e', f1, N1⟩
        · obtain ⟨h2, e2, f2, v2, r2⟩ := H.ft C hj bb (lnAt x.1 p) 5
          have w2 := f2.wf w
          have n23 : hI h2 165 23 = iN σ.2.1 := by rw [(f2.2.2.2.2 165 23 (by unfold Pfr; omega)).1]; exact H.rn.cx.1
          obtain ⟨g1, g2⟩ := goes_e w2 n23 H.rn.cx.2 (hereL x.1 p)
          have f3 : FM (fun x k => x = 165 ∧ k = 23) h2 (pI h2 165 23 (iN (behW σ.2.1 (hereL x.1 p)))) := (FS.pI ⟨rfl, rfl⟩).fm
          rw [e', bd2_s, if_pos rfl, ckM w, Option.bind_some, line_e T hp', bd2_s, ckM w, Option.bind_some, show fX14_faults 165 (iN fr.length) (iN j) (iN (lnAt x.1 p)) 5 h = _ from e2, Option.bind_some, ckM w2, Option.bind_some, g1, Option.bind_some, if_pos c']
          exact nx _ (.inr (σ.2.2.2, lks (preF fr, c, j, bb, trn) (lnAt x.1 p) 5)) _ ((f2.fm.up fun x k q => pfr_n q).tr (f3.up fun x k q => by
    (first | exact .inl (by omega) | exact .inr (.inl (by omega)) | exact .inr (.inr (.inl (by omega))) | exact .inr (.inr (.inr (.inl (by omega)))) | exact .inr (.inr (.inr (.inr (.inl (by omega))))) | exact .inr (.inr (.inr (.inr (.inr (.inl (by omega)))))) | exact .inr (.inr (.inr (.inr (.inr (.inr (.inl (by omega))))))) | exact .inr (.inr (.inr (.inr (.inr (.inr (.inr (.inl (by omega)))))))) | exact .inr (.inr (.inr (.inr (.inr (.inr (.inr (.inr (.inl (by omega))))))))) | exact .inr (.inr (.inr (.inr (.inr (.inr (.inr (.inr (.inr (.inl (by omega)))))))))) | exact .inr (.inr (.inr (.inr (.inr (.inr (.inr (.inr (.inr (.inr (by omega))))))))))))) (r2.fm f3 (fun x k q => by omega) (by rw [hI_pI, if_neg (by decide)]; exact r2.2.2.2)) (fun _ q => by cases q) (by omega) (by omega)
        · obtain ⟨H1, F1⟩ := H.pt C f1 N1
          obtain ⟨g1, g2⟩ := goes_e H1.w H1.rn.cx.1 H1.rn.cx.2 (hereL x.1 p)
          obtain ⟨H2, F2⟩ := H1.ctx C g2
          rw [e', bd2_s, if_neg (by decide), ckM H1.w, Option.bind_some, g1, Option.bind_some, if_neg c', bO_l]
          exact nx _ (.inl (σ.1, behW σ.2.1 (hereL x.1 p), σ.2.2.1 ++ [hereL x.1 p], σ.2.2.2)) _ (F1.tr F2) H2 (fun _ _ => rfl) (by omega) (by omega)
    · have h123 := D.1.1
      have k1 := here_lt h123 (by decide)
      have k2 : p + 1 < x.1.length := by have := D.1.2.1; have := D.1.2.2.1; omega
      obtain ⟨d1, d2, _⟩ := hd_c D
      obtain ⟨rr, h1, e1, f1, o1, er⟩ := A h tp lim fr c ol lp trn lk dp σ j bb x n p p1 blk pc hd H C hj hx s1 hlt h123 hm hb b4 ho hl
      have hp1 := pc_len s1 hm hlt
      obtain ⟨cd, r', h', x1, x2, x3, x4⟩ := nx h1 _ rr f1 o1 er hp1.2 hp1.1
      refine ⟨cd, r', h', ?_, x2, x3, x4⟩
      rw [fX14_run_l16, st0, ckM w, Option.bind_some, byte_e T hlt, bd2_s, if_pos k1.2, ckM w, Option.bind_some, i_succ, byte_e T k2, bd2_s, ← hereL_in k2, if_neg d1, if_neg d2, ckM w, Option.bind_some, e1, bd2_s, x1]
theorem RA.of {d m f : Nat} (A : RP d m f) : RA d m (f + 1) := by
  intro h tp lim fr c ol lp trn lk dp σ j bb x n p e0 blk t hd H C hj hx e hp' hm hb b4 ho hl
  obtain ⟨cd, r, h', a1, a2, a3, a4⟩ := rl_l A n p FU h tp lim fr c ol lp trn lk dp σ j bb x e0 blk t hd H C hj hx e hp' hm hb b4 ho hl (FU_pos _ (by have := (H.tx C hj hx).1.2.2.1; omega))
  refine ⟨r, h', ?_, a3, a4⟩
  show fX14_run_b (G3 f) 165 (iN fr.length) (iN j) (iN p) (bjE j bb) (oB bb) h = _
  unfold fX14_run_b
  rw [H.hd C hj, a1, bd3_s]
  rcases a2 with z | z
  · rw [z, if_pos rfl]
  · rw [z, if_neg (by decide), if_pos rfl]
theorem RVs.bk {P : Nat → Nat → Prop} {h h' : hp} {vs vs' : Nat → vT} {trn : Option Nat} (H : RVs h vs' trn) (f : FS P h h') (hP : ∀ x k, P x k → x ≠ 186 ∧ ¬ (x = 165 ∧ k = 37)) (M : ∀ u, u < 8 → MV h' u (vs u)) (g : ∀ u, u < 8 → gV (vs u)) : RVs h' vs trn := by
  have e37 : hI h' 165 37 = hI h 165 37 := (f.2.2.2.2 165 37 (fun q => (hP _ _ q).2 ⟨rfl, rfl⟩)).1
  refine ⟨fun u hu => ⟨M u hu, g u hu⟩, fun e => by rw [e37]; exact H.2.1 e, fun i e => ?_⟩
  obtain ⟨a, l, b, c, d⟩ := H.2.2 i e
  exact ⟨a, l, by rw [e37]; exact b, c, by rw [(f.2.2.2.2 186 l (fun q => (hP _ _ q).1 rfl)).1]; exact d⟩
/-- values kept ahead of a T -/
theorem RX.kp {h : hp} {tp : Tp} {lim : Nat} {fr : Fr} {c : List Nat} {ol lp : Nat} {trn : Option Nat} {lk : Bool} {dp : Nat} {σ : St} (H : RX h tp lim fr c ol lp trn lk dp σ) (C : okC tp c) (ho : ol + 1 ≤ 79) : ∃ h', fX14_keeps 165 h = some h' ∧ FM (PRn fr.length ol lp) h h' ∧ RX h' tp lim fr c (ol + 1) lp trn lk dp σ ∧ ∀ u, u < 8 → OV h' (8 * ol + u) (σ.1 u) := by
  obtain ⟨h', e, f, a, O⟩ := keeps_e H.w (show ol < 80 by omega) H.rn.o30 (fun u hu => (H.1.2.2.1.1.1 u hu).1)
  have u : ∀ x k, (Pol ol x k ∨ (x = 165 ∧ k = 30)) → PRn fr.length ol lp x k := fun x k q => by
    unfold Pol at q
    rcases q with (q | q) | q <;> (first | exact .inl (by omega) | exact .inr (.inl (by omega)) | exact .inr (.inr (.inl (by omega))) | exact .inr (.inr (.inr (.inl (by omega)))) | exact .inr (.inr (.inr (.inr (.inl (by omega))))) | exact .inr (.inr (.inr (.inr (.inr (.inl (by omega)))))) | exact .inr (.inr (.inr (.inr (.inr (.inr (.inl (by omega))))))) | exact .inr (.inr (.inr (.inr (.inr (.inr (.inr (.inl (by omega)))))))) | exact .inr (.inr (.inr (.inr (.inr (.inr (.inr (.inr (.inl (by omega))))))))) | exact .inr (.inr (.inr (.inr (.inr (.inr (.inr (.inr (.inr (.inl (by omega)))))))))) | exact .inr (.inr (.inr (.inr (.inr (.inr (.inr (.inr (.inr (.inr (by omega)))))))))))
  have n : ∀ k, k ≠ 30 → hI h' 165 k = hI h 165 k := fun k q => (f.2.2.2.2 165 k (by unfold Pol; omega)).1
  refine ⟨h', e, f.fm.up u, H.gn C f.fm u (H.1.2.2.1.1.fx f.fm (fun v x k hv q z => by unfold sP at q; unfold Pol at z; omega) (fun z => by unfold Pol at z; omega) (fun l _ _ z => by unfold Pol at z; omega)) ⟨by rw [n 37 (by decide)]; exact H.1.2.2.1.2.1, H.1.2.2.1.2.2⟩ (H.rn.re (fun k q => n k (by omega)) (fun k => (f.2.2.2.2 176 k (by unfold Pol; omega)).1) ⟨by rw [n 35 (by decide)]; exact H.rn.stp.1, H.rn.stp.2⟩ ⟨by rw [n 36 (by decide)]; exact H.rn.dp8.1, H.rn.dp8.2⟩ a ⟨by rw [n 23 (by decide)]; exact H.rn.cx.1, H.rn.cx.2⟩) H.1.2.2.2.2.1 (H.1.2.2.2.2.2.fm f.fm (fun x k q => by unfold Pol at q; omega)), O⟩
/-- values come back behind a T -/
theorem RoQ.cb {h2 : hp} {tp : Tp} {lim : Nat} {fr : Fr} {c : List Nat} {ol lp : Nat} {trn : Option Nat} {lk : Bool} {dp : Nat} {vs : Nat → vT} {R : Ot} (C : okC tp c) (w : WF h2) (H : RoQ h2 tp lim fr c (ol + 1) lp trn lk dp R) (O : ∀ u, u < 8 → OV h2 (8 * ol + u) (vs u)) (g : ∀ u, u < 8 → gV (vs u)) (ho : ol + 1 ≤ 79) : ∃ h', fX14_comeBack 165 h2 = some h' ∧ FM (PRn fr.length ol lp) h2 h' ∧ (∀ u, u < 8 → MV h' u (vs u)) ∧ RoQ h' tp lim fr c ol lp trn lk dp (bO R fun σ' => .inl (vs, σ'.2)) := by
  obtain ⟨h', e, f, a, M⟩ := back_m w (show ol < 80 by omega) H.ol O
  have u : ∀ x k, (Pvl x k ∨ (x = 165 ∧ k = 30)) → PRn fr.length ol lp x k := fun x k q => by
    unfold Pvl at q
    rcases q with (q | q) | q <;> (first | exact .inl (by omega) | exact .inr (.inl (by omega)) | exact .inr (.inr (.inl (by omega))) | exact .inr (.inr (.inr (.inl (by omega)))) | exact .inr (.inr (.inr (.inr (.inl (by omega))))) | exact .inr (.inr (.inr (.inr (.inr (.inl (by omega)))))) | exact .inr (.inr (.inr (.inr (.inr (.inr (.inl (by omega))))))) | exact .inr (.inr (.inr (.inr (.inr (.inr (.inr (.inl (by omega)))))))) | exact .inr (.inr (.inr (.inr (.inr (.inr (.inr (.inr (.inl (by omega))))))))) | exact .inr (.inr (.inr (.inr (.inr (.inr (.inr (.inr (.inr (.inl (by omega)))))))))) | exact .inr (.inr (.inr (.inr (.inr (.inr (.inr (.inr (.inr (.inr (by omega)))))))))))
  have u' : ∀ x k, (Pvl x k ∨ (x = 165 ∧ k = 30)) → PRn fr.length (ol + 1) lp x k := fun x k q => by
    unfold Pvl at q
    rcases q with (q | q) | q <;> (first | exact .inl (by omega) | exact .inr (.inl (by omega)) | exact .inr (.inr (.inl (by omega))) | exact .inr (.inr (.inr (.inl (by omega)))) | exact .inr (.inr (.inr (.inr (.inl (by omega))))) | exact .inr (.inr (.inr (.inr (.inr (.inl (by omega)))))) | exact .inr (.inr (.inr (.inr (.inr (.inr (.inl (by omega))))))) | exact .inr (.inr (.inr (.inr (.inr (.inr (.inr (.inl (by omega)))))))) | exact .inr (.inr (.inr (.inr (.inr (.inr (.inr (.inr (.inl (by omega))))))))) | exact .inr (.inr (.inr (.inr (.inr (.inr (.inr (.inr (.inr (.inl (by omega)))))))))) | exact .inr (.inr (.inr (.inr (.inr (.inr (.inr (.inr (.inr (.inr (by omega)))))))))))
  have n : ∀ k, k ≠ 30 → hI h' 165 k = hI h2 165 k := fun k q => (f.2.2.2.2 165 k (by unfold Pvl; omega)).1
  refine ⟨h', e, f.fm.up u, M, ?_⟩
  cases R with
  | inl σ' =>
    have H' : RX h2 tp lim fr c (ol + 1) lp trn lk dp σ' := H
    show RX h' tp lim fr c ol lp trn lk dp (vs, σ'.2)
    exact H'.gn C f.fm u' (H'.1.2.2.1.1.bk f (fun x k q => by unfold Pvl at q; omega) M g) ⟨by rw [n 37 (by decide)]; exact H'.1.2.2.1.2.1, H'.1.2.2.1.2.2⟩ (H'.rn.re (fun k q => n k (by omega)) (fun k => (f.2.2.2.2 176 k (by unfold Pvl; omega)).1) ⟨by rw [n 35 (by decide)]; exact H'.rn.stp.1, H'.rn.stp.2⟩ ⟨by rw [n 36 (by decide)]; exact H'.rn.dp8.1, H'.rn.dp8.2⟩ a ⟨by rw [n 23 (by decide)]; exact H'.rn.cx.1, H'.rn.cx.2⟩) H'.1.2.2.2.2.1 (H'.1.2.2.2.2.2.fm f.fm (fun x k q => by unfold Pvl at q; omega))
  | inr e' =>
    have H' : RFt h2 (ol + 1) e' := H
    show RFt h' ol e'
    exact H'.fm f.fm (fun x k q => by unfold Pvl at q; omega) a
theorem OV.pr {h h' : hp} {n ol lp u : Nat} {V : vT} (H : OV h (8 * ol + u) V) (hu : u < 8) (f : FM (PRn n (ol + 1) lp) h h') : OV h' (8 * ol + u) V := H.fm f (fun x k q z => by unfold oP at q; unfold PRn at z; omega)
theorem RTn.of {d m f : Nat} (A : RA d m f) : RTn d m (f + 1) := by
  intro h tp lim fr c ol lp trn lk dp σ j bb x n p e0 blk t hd H C hj hx e hp' hm hb b4 ho hl
  have d8 := H.rn.dp8.2
  obtain ⟨h1, e1, f1, H1, O1⟩ := H.kp C (by omega)
  obtain ⟨r, h2, e2, f2, o2⟩ := A h1 tp lim fr c (ol + 1) lp trn lk dp σ j bb x n p e0 blk t hd H1 C hj hx e hp' hm hb b4 ho (by omega)
  have w2 := f2.wf H1.w
  obtain ⟨h3, e3, f3, v3, o3⟩ := RoQ.cb (vs := σ.1) C w2 o2 (fun u hu => (O1 u hu).pr hu f2) (fun u hu => (H.1.2.2.1.1.1 u hu).2) (by omega)
  refine ⟨h3, ?_, (f1.tr (f2.up fun x k q => prn_o q)).tr f3, v3, o3⟩
  show fX14_runs_b (G3 f) 165 (iN fr.length) (iN j) (iN p) (bjE j bb) (oB bb) h = _
  unfold fX14_runs_b
  rw [ckM H.w, Option.bind_some, e1, Option.bind_some, ckM H1.w, Option.bind_some, e2, bd2_s, ckM w2, Option.bind_some, e3, Option.bind_some]

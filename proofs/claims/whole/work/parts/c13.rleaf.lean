/-! the reference's walk: a value, a name -/
set_option maxHeartbeats 300000
theorem hd1 {L : List Int32} {m p b : Nat} {pc : PD (TY m)} (D : HdP L p b pc) (k : pc.1 = 1) : pExpr L (p + 1) = .inl (pc.2.2.2.2.1, b - 1) := by
  rcases D.2.2 with K | K | K | K | K | K | K
  · exact K.2.2.2.2.2.2.2.1
  all_goals exact absurd (k.symm.trans K.1) (by decide)
theorem hd2 {L : List Int32} {m p b : Nat} {pc : PD (TY m)} (D : HdP L p b pc) (k : pc.1 = 2) : hereL L (p + 1) = 63 ∧ pCond L (p + 2) = .inl ((pc.2.2.2.1, pc.2.2.2.2.1, pc.2.2.2.2.2.1), b - 1) := by
  rcases D.2.2 with K | K | K | K | K | K | K
  · exact absurd (k.symm.trans K.1) (by decide)
  · exact K.2
  all_goals exact absurd (k.symm.trans K.1) (by decide)
theorem hd3 {L : List Int32} {m p b : Nat} {pc : PD (TY m)} (D : HdP L p b pc) (k : pc.1 = 3) : hereL L (p + 1) = 42 ∧ (∃ v, v < 8 ∧ hereL L (p + 2) = iN (97 + v) ∧ pc.2.2.1 = iN v) ∧ pExpr L (p + 4) = .inl (pc.2.2.2.2.1, b - 1) := by
  rcases D.2.2 with K | K | K | K | K | K | K
  · exact absurd (k.symm.trans K.1) (by decide)
  · exact absurd (k.symm.trans K.1) (by decide)
  · exact ⟨K.2.1, K.2.2.1, K.2.2.2.2.1⟩
  all_goals exact absurd (k.symm.trans K.1) (by decide)
theorem hd4 {L : List Int32} {m p b : Nat} {pc : PD (TY m)} (D : HdP L p b pc) (k : pc.1 = 4) : hereL L (p + 1) = 61 ∧ (∃ v, v < 4 ∧ hereL L (p + 2) = iN (65 + v) ∧ pc.2.2.1 = iN v) ∧ b = p + 4 := by
  rcases D.2.2 with K | K | K | K | K | K | K
  · exact absurd (k.symm.trans K.1) (by decide)
  · exact absurd (k.symm.trans K.1) (by decide)
  · exact absurd (k.symm.trans K.1) (by decide)
  · exact ⟨K.2.1, K.2.2.1, K.2.2.2.1⟩
  all_goals exact absurd (k.symm.trans K.1) (by decide)
theorem hd5 {L : List Int32} {m p b : Nat} {pc : PD (TY m)} (D : HdP L p b pc) (k : pc.1 = 5) : hereL L (p + 1) = 94 ∧ b = p + 3 := by
  rcases D.2.2 with K | K | K | K | K | K | K
  · exact absurd (k.symm.trans K.1) (by decide)
  · exact absurd (k.symm.trans K.1) (by decide)
  · exact absurd (k.symm.trans K.1) (by decide)
  · exact absurd (k.symm.trans K.1) (by decide)
  · exact ⟨K.2.1, K.2.2.1⟩
  all_goals exact absurd (k.symm.trans K.1) (by decide)
theorem hd6 {L : List Int32} {m p b : Nat} {pc : PD (TY m)} (D : HdP L p b pc) (k : pc.1 = 6) : hereL L (p + 1) = 62 ∧ (∃ v, v < 6 ∧ hereL L (p + 2) = iN (48 + v) ∧ pc.2.2.1 = iN v) ∧ b = p + 4 := by
  rcases D.2.2 with K | K | K | K | K | K | K
  · exact absurd (k.symm.trans K.1) (by decide)
  · exact absurd (k.symm.trans K.1) (by decide)
  · exact absurd (k.symm.trans K.1) (by decide)
  · exact absurd (k.symm.trans K.1) (by decide)
  · exact absurd (k.symm.trans K.1) (by decide)
  · exact ⟨K.2.1, K.2.2.1, K.2.2.2.1⟩
  · exact absurd (k.symm.trans K.1) (by decide)
theorem hd7 {L : List Int32} {m p b : Nat} {pc : PD (TY m)} (D : HdP L p b pc) (k : pc.1 = 7) : hereL L (p + 1) = 64 ∧ (∃ v, v < 8 ∧ hereL L (p + 2) = iN (97 + v) ∧ pc.2.2.1 = iN v) ∧ pExpr L (p + 4) = .inl (pc.2.2.2.2.1, b - 1) := by
  rcases D.2.2 with K | K | K | K | K | K | K
  · exact absurd (k.symm.trans K.1) (by decide)
  · exact absurd (k.symm.trans K.1) (by decide)
  · exact absurd (k.symm.trans K.1) (by decide)
  · exact absurd (k.symm.trans K.1) (by decide)
  · exact absurd (k.symm.trans K.1) (by decide)
  · exact absurd (k.symm.trans K.1) (by decide)
  · exact ⟨K.2.1, K.2.2.1, K.2.2.2.2.1⟩
theorem hdE {L : List Int32} {p b : Nat} (H : HB L p b) : b - 1 < L.length ∧ L.getD (b - 1) 0 = 125 ∧ p < L.length := by
  obtain ⟨a, c, d, e, _⟩ := H
  have := here_lt e (by decide)
  exact ⟨this.1, this.2, by omega⟩
theorem psc_pe {x k : Nat} (q : PE 8 x k) : Psc x k := by unfold PE sP at q; unfold Psc; omega
theorem psc_sh {x k : Nat} (q : shP x k) : Psc x k := by unfold shP at q; unfold Psc; omega
theorem psc_17 {h : hp} (v : Int32) : FM Psc h (pI h 165 17 v) := (FS.pI (.inl ⟨rfl, by omega⟩)).fm
/-- an expression worked out in the walk -/
theorem RX.wo {h : hp} {tp : Tp} {lim : Nat} {fr : Fr} {c : List Nat} {ol lp : Nat} {trn : Option Nat} {lk : Bool} {dp : Nat} {σ : St} {j p q : Nat} {e : EX} {x : List Int32 × Option Nat × TY 5} (H : RX h tp lim fr c ol lp trn lk dp σ) (C : okC tp c) (hj : j < c.length) (hx : tp (c.getD j 0) = some x) (he : pExpr x.1 p = .inl (e, q)) (hq : q < x.1.length) (hc : x.1.getD q 0 = 125) (a : hI h 165 17 = iN p) : ∃ h', fX14_worksOut 165 (iN (c.getD j 0)) 8 h = some (iN (evE σ.1 trn e).1, h') ∧ FM (PRn fr.length ol lp) h h' ∧ RX h' tp lim fr c ol lp trn lk dp σ ∧ ((evE σ.1 trn e).1 = 0 → MV h' 8 (evE σ.1 trn e).2 ∧ gV (evE σ.1 trn e).2) := by
  obtain ⟨h', e1, f1, r1⟩ := rwo_e (s := 8) (H.tx C hj hx).1 H.1.2.2.1.1 (.inl rfl) he hq (by rw [hc]; decide) (by rw [hc]; decide) a
  exact ⟨h', e1, f1.up fun x k q => psc_n (psc_pe q), H.sc C f1 fun x k q => psc_pe q, fun z => (r1 z).2⟩
theorem fltz {n : Nat} (h : n < 2147483648) : (iN n = 0) ↔ n = 0 := by
  have := i_eq (b := 0) h (by decide)
  exact ⟨fun q => this.mp q, fun q => this.mpr q⟩
theorem evE_s (vs : Nat → vT) (trn : Option Nat) (e : EX) : (evE vs trn e).1 < 10 := by
  unfold evE
  by_cases c : e.1 = 2 ∧ trn = none
  · rw [if_pos c]; decide
  · rw [if_neg c]; have := apF_le e.2.2.2 (bsE vs trn e); omega
/-- a fault told at a piece, then the end of its head -/
theorem RX.fc {h : hp} {tp : Tp} {lim : Nat} {fr : Fr} {c : List Nat} {ol lp : Nat} {trn : Option Nat} {lk : Bool} {dp : Nat} {σ : St} {j p : Nat} {x : List Int32 × Option Nat × TY 5} (H : RX h tp lim fr c ol lp trn lk dp σ) (C : okC tp c) (hj : j < c.length) (hx : tp (c.getD j 0) = some x) (hp' : p ≤ x.1.length) (bb : Option Nat) (s : Nat) : ∃ h', (((ckT h 165 13).bind fun _ => bd2 (fX14_lineAt 165 (iN (c.getD j 0)) (iN p) h) fun v h2 => (ckT h2 165 13).bind fun _ => fX14_faults 165 (iN fr.length) (iN j) v (iN s) h2) = some h') ∧ FM (PRn fr.length ol lp) h h' ∧ (∀ u, u < 8 → MV h' u (σ.1 u)) ∧ RFt h' ol (σ.2.2.2, lks (preF fr, c, j, bb, trn) (lnAt x.1 p) s) ∧ WF h' ∧ TX h' (c.getD j 0) x.1 ∧ hI h' 165 42 = b2 lk := by
  have T := (H.tx C hj hx).1
  obtain ⟨h', e, f, v, r⟩ := H.ft C hj bb (lnAt x.1 p) s
  have f2 : FM (PRn fr.length ol lp) h h' := f.fm.up fun x k q => pfr_n q
  refine ⟨h', ?_, f2, v, r, f.wf H.w, T.fm f2 (fun x k q => prn_tx q), by rw [f2.lk]; exact H.lk⟩
  rw [ckM H.w, Option.bind_some, line_e T hp', bd2_s, ckM H.w, Option.bind_some, e]
/-- a value put -/
theorem val_r {h : hp} {tp : Tp} {lim : Nat} {fr : Fr} {c : List Nat} {ol lp : Nat} {trn : Option Nat} {lk : Bool} {dp : Nat} {σ : St} {j m p b : Nat} {x : List Int32 × Option Nat × TY 5} {pc : PD (TY m)} (H : RX h tp lim fr c ol lp trn lk dp σ) (C : okC tp c) (hj : j < c.length) (hx : tp (c.getD j 0) = some x) (D : HdP x.1 p b pc) (k1 : pc.1 = 1) (bb : Option Nat) : PCr (fX14_value 165 (iN fr.length) (iN j) (iN p) h) h tp lim fr c ol lp trn lk dp (if lk = true then .inl σ else if (evE σ.1 trn pc.2.2.2.2.1).1 ≠ 0 then ftW (preF fr, c, j, bb, trn) σ pc.2.1 (evE σ.1 trn pc.2.2.2.2.1).1 else putV lim (preF fr, c, j, bb, trn) pc.2.1 (shV (evE σ.1 trn pc.2.2.2.2.1).2) σ) b := by
  have he := hd1 D k1
  have eln := D.2.1
  have hB := D.1
  obtain ⟨q1, q2, q3⟩ := hdE hB
  have w := H.w
  have w5 : WF (pI h 165 17 (iN (p + 1))) := w
  have f5 : FM Psc h (pI h 165 17 (iN (p + 1))) := psc_17 _
  have F5 : FM (PRn fr.length ol lp) h (pI h 165 17 (iN (p + 1))) := f5.up fun x k q => psc_n q
  have H5 := H.sc C f5 fun _ _ q => q
  have st : fX14_value 165 (iN fr.length) (iN j) (iN p) h = (gfI (pI h 165 17 (iN (p + 1))) 165 13 42).bind fun v7 => jn (fun (s39_0 : Int32) (h39j : hp) => (jn (fun (h61j : hp) => ((gfI h61j 165 13 42).bind fun v9 => jn (fun (h73j : hp) => ((ckT h73j 165 13).bind fun _ => bd2 (fX14_closes 165 (iN (c.getD j 0)) (iN p) h73j) fun v12 h13 => some (v12, h13))) fun k73 => if v9 = 0 then (if s39_0 = 0 then ((ckT h61j 165 13).bind fun _ => (fX14_showsValue 165 8 h61j).bind fun h16 => bd2 (fX14_value_l93 FU 165 (iN fr.length) (iN j) (iN p) (iN (c.getD j 0)) 1 0 h16) fun v20 h19 => jn (fun (h145j : hp) => ((ckT h145j 165 13).bind fun _ => bd2 (fX14_closes 165 (iN (c.getD j 0)) (iN p) h145j) fun v22 h23 => some (v22, h23))) fun k145 => if v20 = 0 then ((ckT h19 165 13).bind fun _ => bd2 (fX14_lineAt 165 (iN (c.getD j 0)) (iN p) h19) fun v26 h27 => (ckT h27 165 13).bind fun _ => (fX14_faults 165 (iN fr.length) (iN j) v26 5 h27).bind fun h30 => k145 h30) else k145 h19) else k73 h61j) else k73 h61j)) fun k61 => if s39_0 = 0 then k61 h39j else ((ckT h39j 165 13).bind fun _ => bd2 (fX14_lineAt 165 (iN (c.getD j 0)) (iN p) h39j) fun v33 h34 => (ckT h34 165 13).bind fun _ => (fX14_faults 165 (iN fr.length) (iN j) v33 s39_0 h34).bind fun h37 => k61 h37))) fun k39 => if v7 = 0 then ((ckT (pI h 165 17 (iN (p + 1))) 165 13).bind fun _ => bd2 (fX14_worksOut 165 (iN (c.getD j 0)) 8 (pI h 165 17 (iN (p + 1)))) fun v40 h41 => k39 v40 h41) else k39 0 (pI h 165 17 (iN (p + 1))) := by
    unfold fX14_value
    rw [H.hd C hj, i_succ, pM w, Option.bind_some]
  have cl : ∀ {g : hp}, WF g → TX g (c.getD j 0) x.1 → ((ckT g 165 13).bind fun _ => bd2 (fX14_closes 165 (iN (c.getD j 0)) (iN p) g) fun v12 h13 => some (v12, h13)) = some (iN b, g) := fun wg Tg => by rw [ckM wg, Option.bind_some, closes_e Tg hB, bd2_s]
  rw [st, gM w5, Option.bind_some, H5.lk, jn_e]
  cases lk with
  | true =>
    rw [if_neg (show ¬ b2 true = 0 by decide), if_pos (show true = true from rfl)]
    dsimp only
    rw [jn_e, if_pos (show (0 : Int32) = 0 from rfl)]
    dsimp only
    rw [gM w5, Option.bind_some, H5.lk, jn_e, if_neg (show ¬ b2 true = 0 by decide)]
    dsimp only
    rw [cl w5 (H5.tx C hj hx).1]
    exact ⟨_, _, rfl, F5, H5, fun _ _ => rfl⟩
  | false =>
    obtain ⟨h6, e6, f6, H6, r6⟩ := H5.wo C hj hx he q1 q2 (by rw [hI_pI, if_pos ⟨rfl, rfl⟩])
    have lt := evE_s σ.1 trn pc.2.2.2.2.1
    rw [if_pos (show b2 false = 0 by decide), if_neg (show ¬ false = true by decide), ckM w5, Option.bind_some, e6, bd2_s]
    dsimp only
    rw [jn_e]
    have F6 := F5.tr f6
    have w6 := H6.w
    by_cases z : (evE σ.1 trn pc.2.2.2.2.1).1 = 0
    · obtain ⟨M6, g6⟩ := r6 z
      obtain ⟨h7, e7, m7, f7⟩ := mShV w6 (t := 8) (by decide) M6 g6
      have H7 := H6.sc C f7.fm fun _ _ q => psc_sh q
      have F7 := F6.tr (f7.fm.up fun _ _ q => psc_n (psc_sh q))
      have w7 := H7.w
      obtain ⟨h8, r, e8, f8, q8⟩ := rv_l (x1 := iN fr.length) (x2 := iN j) (x3 := iN p) (x4 := iN (c.getD j 0)) _ 0 FU h7 _ w7 m7 H7.1.2.2.2.1 (Nat.zero_add _) (FU_pos _ (by have := m7.2.1; omega))
      rw [z, if_neg (show ¬ ((0 : Nat) ≠ 0) from fun q => q rfl), if_pos (show iN 0 = 0 from rfl)]
      dsimp only
      rw [gM w6, Option.bind_some, H6.lk, jn_e, if_pos (show b2 false = 0 by decide), if_pos (show iN 0 = 0 from rfl), ckM w6, Option.bind_some, show fX14_showsValue 165 8 h6 = _ from e7, Option.bind_some, show fX14_value_l93 FU 165 _ _ _ _ 1 0 h7 = _ from e8, bd2_s, jn_e, putV_pu]
      dsimp only
      rw [List.drop_zero] at q8
      cases hv : puV lim σ.2.1 (shV (evE σ.1 trn pc.2.2.2.2.1).2) σ.2.2.1 with
      | none =>
        rw [hv] at q8
        obtain ⟨r0, out, N8⟩ := q8
        obtain ⟨H8, F8⟩ := H7.pt C f8 N8
        obtain ⟨h9, e9, f9, v9, r9, w9, T9, l9⟩ := H8.fc C hj hx (Nat.le_of_lt q3) bb 5
        have e9' : ((ckT h8 165 13).bind fun _ => bd2 (fX14_lineAt 165 (iN (c.getD j 0)) (iN p) h8) fun v26 h27 => (ckT h27 165 13).bind fun _ => (fX14_faults 165 (iN fr.length) (iN j) v26 5 h27).bind fun h30 => (ckT h30 165 13).bind fun _ => bd2 (fX14_closes 165 (iN (c.getD j 0)) (iN p) h30) fun v22 h23 => some (v22, h23)) = some (iN b, h9) := by
          rw [ckM H8.w, Option.bind_some, line_e (H8.tx C hj hx).1 (Nat.le_of_lt q3), bd2_s, ckM H8.w, Option.bind_some] at e9
          rw [ckM H8.w, Option.bind_some, line_e (H8.tx C hj hx).1 (Nat.le_of_lt q3), bd2_s, ckM H8.w, Option.bind_some, show fX14_faults 165 (iN fr.length) (iN j) (iN (lnAt x.1 p)) 5 h8 = _ from e9, Option.bind_some, cl w9 T9]
        rw [r0, if_pos rfl, e9', eln]
        exact ⟨_, _, rfl, (F7.tr F8).tr f9, r9, fun _ q => by cases q⟩
      | some out =>
        rw [hv] at q8
        obtain ⟨r1, N8⟩ := q8
        obtain ⟨H8, F8⟩ := H7.pt C f8 N8
        rw [r1, if_neg (by decide), cl H8.w (H8.tx C hj hx).1]
        exact ⟨_, _, rfl, F7.tr F8, H8, fun _ _ => rfl⟩
    · obtain ⟨h9, e9, f9, v9, r9, w9, T9, l9⟩ := H6.fc C hj hx (Nat.le_of_lt q3) bb (evE σ.1 trn pc.2.2.2.2.1).1
      have nz : ¬ iN (evE σ.1 trn pc.2.2.2.2.1).1 = 0 := fun q => z ((fltz (by omega)).mp q)
      rw [ckM w6, Option.bind_some, line_e (H6.tx C hj hx).1 (Nat.le_of_lt q3), bd2_s, ckM w6, Option.bind_some] at e9
      rw [if_neg nz, ckM w6, Option.bind_some, line_e (H6.tx C hj hx).1 (Nat.le_of_lt q3), bd2_s, ckM w6, Option.bind_some, e9, Option.bind_some]
      dsimp only
      rw [gM w9, Option.bind_some, l9, jn_e, if_pos (show b2 false = 0 by decide), if_neg nz]
      dsimp only
      rw [cl w9 T9, if_pos z, eln]
      exact ⟨_, _, rfl, F6.tr f9, r9, fun _ q => by cases q⟩
theorem here_s {L : List Int32} {p n : Nat} (e : hereL L p = iN n) (h : n < 1000) : p < L.length ∧ L.getD p 0 = iN n := here_lt e (fun q => by rw [i_eq_neg (by omega)] at q; exact q)
theorem RVs.upd {h h' : hp} {vs : Nat → vT} {trn : Option Nat} {v : Nat} {V : vT} (H : RVs h vs trn) (hv : v < 8) (f : FS (sP v) h h') (M : MV h' v V) (g : gV V) : RVs h' (upV vs v V) trn := by
  have e37 : hI h' 165 37 = hI h 165 37 := (f.2.2.2.2 165 37 (by unfold sP; omega)).1
  refine ⟨fun u hu => ?_, fun e => by rw [e37]; exact H.2.1 e, fun i e => ?_⟩
  · unfold upV
    by_cases c : u = v
    · rw [if_pos c, c]; exact ⟨M, g⟩
    · rw [if_neg c]; exact ⟨(H.1 u hu).1.fr f (fun x k q z => by unfold sP at q z; omega), (H.1 u hu).2⟩
  · obtain ⟨a, l, b, c, d⟩ := H.2.2 i e
    exact ⟨a, l, by rw [e37]; exact b, c, by rw [(f.2.2.2.2 186 l (by unfold sP; omega)).1]; exact d⟩
theorem RX.upd {h h' : hp} {tp : Tp} {lim : Nat} {fr : Fr} {c : List Nat} {ol lp : Nat} {trn : Option Nat} {lk : Bool} {dp : Nat} {σ : St} {v : Nat} {V : vT} (H : RX h tp lim fr c ol lp trn lk dp σ) (C : okC tp c) (hv : v < 8) (f : FS (sP v) h h') (M : MV h' v V) (g : gV V) : RX h' tp lim fr c ol lp trn lk dp (upV σ.1 v V, σ.2) ∧ FM (PRn fr.length ol lp) h h' := by
  have u : ∀ x k, sP v x k → PRn fr.length ol lp x k := fun x k q => by
    unfold sP at q
    rcases q with q | q <;> (first | exact .inl (by omega) | exact .inr (.inl (by omega)) | exact .inr (.inr (.inl (by omega))) | exact .inr (.inr (.inr (.inl (by omega)))) | exact .inr (.inr (.inr (.inr (.inl (by omega))))) | exact .inr (.inr (.inr (.inr (.inr (.inl (by omega)))))) | exact .inr (.inr (.inr (.inr (.inr (.inr (.inl (by omega))))))) | exact .inr (.inr (.inr (.inr (.inr (.inr (.inr (.inl (by omega)))))))) | exact .inr (.inr (.inr (.inr (.inr (.inr (.inr (.inr (.inl (by omega))))))))) | exact .inr (.inr (.inr (.inr (.inr (.inr (.inr (.inr (.inr (.inl (by omega)))))))))) | exact .inr (.inr (.inr (.inr (.inr (.inr (.inr (.inr (.inr (.inr (by omega)))))))))))
  exact ⟨H.re C f.fm u (H.1.2.2.1.1.upd hv f M g) (by rw [(f.2.2.2.2 165 37 (by unfold sP; omega)).1]; exact H.1.2.2.1.2.1) (H.1.2.2.2.1.fm f.fm (fun x k q => by unfold sP at q; omega)) (H.1.2.2.2.2.2.fm f.fm (fun x k q => by unfold sP at q; omega)), f.fm.up u⟩
theorem as_r {h : hp} {tp : Tp} {lim : Nat} {fr : Fr} {c : List Nat} {ol lp : Nat} {trn : Option Nat} {lk : Bool} {dp : Nat} {σ : St} {j m p b : Nat} {x : List Int32 × Option Nat × TY 5} {pc : PD (TY m)} (H : RX h tp lim fr c ol lp trn lk dp σ) (C : okC tp c) (hj : j < c.length) (hx : tp (c.getD j 0) = some x) (D : HdP x.1 p b pc) (k7 : pc.1 = 7) (bb : Option Nat) : PCr (fX14_assigns 165 (iN fr.length) (iN j) (iN p) h) h tp lim fr c ol lp trn lk dp (if lk = true then .inl σ else if (evE σ.1 trn pc.2.2.2.2.1).1 ≠ 0 then ftW (preF fr, c, j, bb, trn) σ pc.2.1 (evE σ.1 trn pc.2.2.2.2.1).1 else .inl (upV σ.1 pc.2.2.1.toNatClampNeg (evE σ.1 trn pc.2.2.2.2.1).2, σ.2)) b := by
  obtain ⟨_, ⟨v, hv, hc, sg⟩, he⟩ := hd7 D k7
  have eln := D.2.1
  have hB := D.1
  obtain ⟨q1, q2, q3⟩ := hdE hB
  have w := H.w
  have w5 : WF (pI h 165 17 (iN (p + 4))) := w
  have f5 : FM Psc h (pI h 165 17 (iN (p + 4))) := psc_17 _
  have F5 : FM (PRn fr.length ol lp) h (pI h 165 17 (iN (p + 4))) := f5.up fun x k q => psc_n q
  have H5 := H.sc C f5 fun _ _ q => q
  obtain ⟨c1, c2⟩ := here_s hc (by omega)
  have st : fX14_assigns 165 (iN fr.length) (iN j) (iN p) h = (gfI (pI h 165 17 (iN (p + 4))) 165 13 42).bind fun v7 => jn (fun (s39_0 : Int32) (h39j : hp) => (jn (fun (h89j : hp) => ((ckT h89j 165 13).bind fun _ => bd2 (fX14_closes 165 (iN (c.getD j 0)) (iN p) h89j) fun v10 h11 => some (v10, h11))) fun k89 => if s39_0 = 0 then ((gfI h39j 165 13 42).bind fun v13 => if v13 = 0 then ((ckT h39j 165 13).bind fun _ => bd2 (fX14_byteAt 165 (iN (c.getD j 0)) (iN (p + 2)) h39j) fun v16 h17 => (ckT h17 165 13).bind fun _ => (fX14_copies 165 8 (v16 - 97) h17).bind fun h20 => k89 h20) else k89 h39j) else ((ckT h39j 165 13).bind fun _ => bd2 (fX14_lineAt 165 (iN (c.getD j 0)) (iN p) h39j) fun v23 h24 => (ckT h24 165 13).bind fun _ => (fX14_faults 165 (iN fr.length) (iN j) v23 s39_0 h24).bind fun h27 => k89 h27))) fun k39 => if v7 = 0 then ((ckT (pI h 165 17 (iN (p + 4))) 165 13).bind fun _ => bd2 (fX14_worksOut 165 (iN (c.getD j 0)) 8 (pI h 165 17 (iN (p + 4)))) fun v30 h31 => k39 v30 h31) else k39 0 (pI h 165 17 (iN (p + 4))) := by
    unfold fX14_assigns
    rw [H.hd C hj, show iN p + 4 = iN (p + 4) from i_add _ 4, show iN p + 2 = iN (p + 2) from i_add _ 2, pM w, Option.bind_some]
  have cl : ∀ {g : hp}, WF g → TX g (c.getD j 0) x.1 → ((ckT g 165 13).bind fun _ => bd2 (fX14_closes 165 (iN (c.getD j 0)) (iN p) g) fun v12 h13 => some (v12, h13)) = some (iN b, g) := fun wg Tg => by rw [ckM wg, Option.bind_some, closes_e Tg hB, bd2_s]
  rw [st, gM w5, Option.bind_some, H5.lk, jn_e]
  cases lk with
  | true =>
    rw [if_neg (show ¬ b2 true = 0 by decide), if_pos (show true = true from rfl)]
    dsimp only
    rw [jn_e, if_pos (show (0 : Int32) = 0 from rfl), gM w5, Option.bind_some, H5.lk, if_neg (show ¬ b2 true = 0 by decide)]
    dsimp only
    rw [cl w5 (H5.tx C hj hx).1]
    exact ⟨_, _, rfl, F5, H5, fun _ _ => rfl⟩
  | false =>
    obtain ⟨h6, e6, f6, H6, r6⟩ := H5.wo C hj hx he q1 q2 (by rw [hI_pI, if_pos ⟨rfl, rfl⟩])
    have lt := evE_s σ.1 trn pc.2.2.2.2.1
    rw [if_pos (show b2 false = 0 by decide), if_neg (show ¬ false = true by decide), ckM w5, Option.bind_some, e6, bd2_s]
    dsimp only
    rw [jn_e]
    have F6 := F5.tr f6
    have w6 := H6.w
    by_cases z : (evE σ.1 trn pc.2.2.2.2.1).1 = 0
    · obtain ⟨M6, g6⟩ := r6 z
      obtain ⟨h7, e7, m7, f7⟩ := mCopies w6 (s := 8) (t := v) (by decide) (by omega) M6
      obtain ⟨H7, F7⟩ := H6.upd C hv f7 m7 g6
      have sv : pc.2.2.1.toNatClampNeg = v := by rw [sg]; exact i_clamp (by omega)
      rw [z, if_neg (show ¬ ((0 : Nat) ≠ 0) from fun q => q rfl), if_pos (show iN 0 = 0 from rfl), gM w6, Option.bind_some, H6.lk, if_pos (show b2 false = 0 by decide), ckM w6, Option.bind_some, byte_e (H6.tx C hj hx).1 c1, bd2_s, c2, ckM w6, Option.bind_some, show iN (97 + v) - 97 = iN v from iN_sub (b := 97) (by omega), show fX14_copies 165 8 (iN v) h6 = _ from e7, Option.bind_some]
      dsimp only
      rw [cl H7.w (H7.tx C hj hx).1, sv]
      exact ⟨_, _, rfl, F6.tr F7, H7, fun _ _ => rfl⟩
    · obtain ⟨h9, e9, f9, v9, r9, w9, T9, l9⟩ := H6.fc C hj hx (Nat.le_of_lt q3) bb (evE σ.1 trn pc.2.2.2.2.1).1
      have nz : ¬ iN (evE σ.1 trn pc.2.2.2.2.1).1 = 0 := fun q => z ((fltz (by omega)).mp q)
      rw [ckM w6, Option.bind_some, line_e (H6.tx C hj hx).1 (Nat.le_of_lt q3), bd2_s, ckM w6, Option.bind_some] at e9
      rw [if_neg nz, ckM w6, Option.bind_some, line_e (H6.tx C hj hx).1 (Nat.le_of_lt q3), bd2_s, ckM w6, Option.bind_some, e9, Option.bind_some]
      dsimp only
      rw [cl w9 T9, if_pos z, eln]
      exact ⟨_, _, rfl, F6.tr f9, r9, fun _ q => by cases q⟩

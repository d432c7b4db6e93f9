/-! the reference's walk: parts, templates as wholes -/
set_option maxHeartbeats 300000
/-- behind a template -/
def RoY (h' : hp) (tp : Tp) (lim : Nat) (fr : Fr) (ol lp : Nat) (trn : Option Nat) (lk : Bool) (dp : Nat) (R : Ot) : Prop :=
  match R with
  | .inl σ' => RY h' tp lim fr ol lp trn lk dp σ'
  | .inr e => RFt h' ol e
theorem RoQ.y {h' : hp} {tp : Tp} {lim : Nat} {fr : Fr} {c : List Nat} {ol lp : Nat} {trn : Option Nat} {lk : Bool} {dp : Nat} {R : Ot} (o : RoQ h' tp lim fr c ol lp trn lk dp R) : RoY h' tp lim fr ol lp trn lk dp R := by
  cases R with
  | inl σ => exact (show RX h' tp lim fr c ol lp trn lk dp σ from o).1
  | inr e => exact o
/-- a template printed -/
def RPr (d f : Nat) : Prop := ∀ (h : hp) (tp : Tp) (lim : Nat) (fr : Fr) (ol lp : Nat) (trn : Option Nat) (lk : Bool) (dp : Nat) (σ : St) (k : Nat), dp + d = 8 → RY h tp lim fr ol lp trn lk dp σ → k < 6 → ol ≤ 5 * dp → lp ≤ ol → ∃ h', (G3 f).2.2.2.2.2.2.2.2 165 (iN fr.length) (iN k) h = some h' ∧ FM (PRp fr.length ol lp) h h' ∧ (∀ u, u < 8 → MV h' u (σ.1 u)) ∧ RoY h' tp lim fr ol lp trn lk dp (wTp lk lk lim tp (wE lk lk lim tp d) k (preF fr) trn σ)
theorem prp_n {n ol lp x k : Nat} (q : PRn n ol lp x k) : PRp n ol lp x k := .inl q
theorem pcn_p {n ol lp x k : Nat} (q : Pcn n x k) : PRp n ol lp x k := by
  unfold Pcn at q
  rcases q with q | q
  · exact .inr (.inl (by omega))
  · exact .inr (.inr (by omega))
theorem RY.cn {h h' : hp} {tp : Tp} {lim : Nat} {fr : Fr} {ol lp : Nat} {trn : Option Nat} {lk : Bool} {dp : Nat} {σ : St} (H : RY h tp lim fr ol lp trn lk dp σ) (f : FS (Pcn fr.length) h h') : RY h' tp lim fr ol lp trn lk dp σ :=
  H.re f.fm (fun _ _ q => pcn_p q) (H.2.2.1.1.fx f.fm (fun v x k hv q z => by unfold sP at q; unfold Pcn at z; omega) (fun z => by unfold Pcn at z; omega) (fun l _ _ z => by unfold Pcn at z; omega)) (by rw [(f.2.2.2.2 165 37 (by unfold Pcn; omega)).1]; exact H.2.2.1.2.1) (H.2.2.2.1.fm f.fm (fun x k q => by unfold Pcn at q; omega)) (H.2.2.2.2.2.fm f.fm (fun x k q => by unfold Pcn at q; omega))
theorem pr_r {d f : Nat} (A : RTn d 4 f) : RPr d (f + 1) := by
  intro h tp lim fr ol lp trn lk dp σ k hd H hk ho hl
  have w := H.1.1
  have nf := H.2.2.2.2.1
  have N := H.2.2.2.1
  have d8 := N.dp8.2
  obtain ⟨K1, K2⟩ := isCh_e w H.1.2 H.2.1 (show fr.length ≤ 9 by omega) hk N.2.2.2.2.2.2.2.2.2.2.2
  show ∃ h', fX14_prints_b (G3 f) 165 (iN fr.length) (iN k) h = some h' ∧ _ ∧ _ ∧ _
  unfold fX14_prints_b wTp
  rw [ckM w, Option.bind_some]
  cases hx : chW tp 6 k [] with
  | inr x =>
    obtain ⟨h1, e1, f1, z1, m1⟩ := K2 x hx
    rw [e1, bd2_s, if_pos rfl]
    refine ⟨h1, rfl, f1.fm.up fun x k q => q.elim pcn_p fun q => prp_n (pfr_n q), fun u hu => (H.2.2.1.1.1 u hu).1.fr f1 (fun x k q z => by unfold sP at q; unfold Pcn Pfr at z; omega), z1, m1, ?_, ?_⟩
    · rw [(f1.2.2.2.2 165 35 (by unfold Pcn Pfr; omega)).1]; exact N.stp.1
    · rw [(f1.2.2.2.2 165 30 (by unfold Pcn Pfr; omega)).1]; exact N.o30
  | inl x =>
    obtain ⟨h1, e1, f1, ca, C, L, hL⟩ := K1 x hx
    have H1 : RX h1 tp lim fr x.1 ol lp trn lk dp σ := ⟨H.cn f1, ca⟩
    have w1 := H1.w
    have c1 := C.1
    have c6 := C.2.1
    obtain ⟨T, top⟩ := H1.tx C (show x.1.length - 1 < x.1.length by omega) hL
    obtain ⟨n, p0, pp, hp0, cs⟩ := pre_top top
    have z0 : p0 = 0 := by
      rcases cs with ⟨_, z, _⟩ | ⟨_, _, z, _⟩
      · exact z
      · cases z
    subst z0
    obtain ⟨h2, e2, f2, v2, o2⟩ := A h1 tp lim fr x.1 ol lp trn lk dp σ (x.1.length - 1) none _ n 0 L.length false x.2 hd H1 C (by omega) hL pp (Nat.zero_le _) (Nat.le_refl _) (fun z => by cases z) (fun b z => by cases z) (by omega) hl
    have w2 := f2.wf w1
    obtain ⟨h3, e3, f3, o3, v3⟩ := ea_e w2 (by rw [f2.lk]; exact H1.lk) o2 C (show 0 < x.1.length by omega) none 0 H1.rn.cx.2
    rw [e1, bd2_s, if_neg (by decide), gM w1, Option.bind_some, H1.rn.cx.1, MR32 w1, Option.bind_some, ML183 w1 (by omega), Option.bind_some, ca.2, ckM w1, Option.bind_some, show iN x.1.length - 1 = iN (x.1.length - 1) from i_sub1 (by omega), show (G3 f).2.1 165 (iN fr.length) (iN (x.1.length - 1)) 0 (-1) (-1) h1 = _ from e2, Option.bind_some, ckM w2, Option.bind_some, show fX14_endsAsAhead 165 (iN fr.length) 0 0 (iN σ.2.1) h2 = _ from e3, Option.bind_some]
    refine ⟨h3, rfl, ((f1.fm.up fun _ _ q => pcn_p q).tr (f2.up fun _ _ q => prp_n q)).tr (f3.up fun _ _ q => prp_n q), v3 _ v2, ?_⟩
    exact RoQ.y o3
/-- a part -/
theorem pa_0 {f : Nat} {h : hp} {tp : Tp} {lim : Nat} {fr : Fr} {c : List Nat} {ol lp : Nat} {trn : Option Nat} {lk : Bool} {dp : Nat} {σ : St} {j p q : Nat} {bb : Option Nat} {x : List Int32 × Option Nat × TY 5} (hd : dp = 8) (H : RX h tp lim fr c ol lp trn lk dp σ) (C : okC tp c) (hj : j < c.length) (hx : tp (c.getD j 0) = some x) (hp' : p ≤ x.1.length) : PCr (fX14_part_b (G3 f) 165 (iN fr.length) (iN j) (iN p) h) h tp lim fr c ol lp trn lk dp (ftW (preF fr, c, j, bb, trn) σ (lnAt x.1 p) 7) q := by
  have w := H.w
  obtain ⟨h2, e2, f2, v2, r2⟩ := H.ft C hj bb (lnAt x.1 p) 7
  unfold fX14_part_b
  rw [H.hd C hj, ckM w, Option.bind_some, line_e (H.tx C hj hx).1 hp', bd2_s, gM w, Option.bind_some, H.rn.dp8.1, if_pos (show iN dp = 8 by rw [hd]; rfl), ckM w, Option.bind_some, show fX14_faults 165 (iN fr.length) (iN j) (iN (lnAt x.1 p)) 7 h = _ from e2, Option.bind_some]
  exact ⟨_, _, rfl, f2.fm.up fun x k q => pfr_n q, r2, fun _ z => by cases z⟩
theorem pa_r {d f : Nat} (A : RPr d f) {h : hp} {tp : Tp} {lim : Nat} {fr : Fr} {c : List Nat} {ol lp : Nat} {trn : Option Nat} {lk : Bool} {dp : Nat} {σ : St} {j p m b : Nat} {bb : Option Nat} {x : List Int32 × Option Nat × TY 5} {pc : PD (TY m)} (hd : dp + (d + 1) = 8) (H : RX h tp lim fr c ol lp trn lk dp σ) (C : okC tp c) (hj : j < c.length) (hx : tp (c.getD j 0) = some x) (D : HdP x.1 p b pc) (k6 : pc.1 = 6) (ho : ol ≤ 5 * dp + 5) (hl : lp ≤ ol) : PCr (fX14_part_b (G3 f) 165 (iN fr.length) (iN j) (iN p) h) h tp lim fr c ol lp trn lk dp (wTp lk lk lim tp (wE lk lk lim tp d) pc.2.2.1.toNatClampNeg (lks (preF fr, c, j, bb, trn) (lnAt x.1 p) 10) trn σ) b := by
  obtain ⟨_, ⟨v, hv, hc, sg⟩, eb⟩ := hd6 D k6
  subst eb
  obtain ⟨c1, c2⟩ := here_s hc (by omega)
  obtain ⟨q1, q2, q3⟩ := hdE D.1
  have sv : pc.2.2.1.toNatClampNeg = v := by rw [sg]; exact i_clamp (by omega)
  have w := H.w
  have T := (H.tx C hj hx).1
  have nf := H.1.2.2.2.2.1
  have c6 := C.2.1
  obtain ⟨H1, F1⟩ := H.up C (by omega)
  have w1 : WF (pI h 165 36 (iN (dp + 1))) := w
  have w2 : WF (pI (pI h 165 36 (iN (dp + 1))) 184 fr.length (iN j)) := w
  have w3 : WF (pI (pI (pI h 165 36 (iN (dp + 1))) 184 fr.length (iN j)) 185 fr.length (iN (lnAt x.1 p))) := w
  have f3 : FS (fun x k => (x = 184 ∨ x = 185) ∧ k = fr.length) (pI h 165 36 (iN (dp + 1))) (pI (pI (pI h 165 36 (iN (dp + 1))) 184 fr.length (iN j)) 185 fr.length (iN (lnAt x.1 p))) := (FS.pI ⟨.inl rfl, rfl⟩).tr (FS.pI ⟨.inr rfl, rfl⟩)
  have F3 : FM (PRn fr.length ol lp) (pI h 165 36 (iN (dp + 1))) (pI (pI (pI h 165 36 (iN (dp + 1))) 184 fr.length (iN j)) 185 fr.length (iN (lnAt x.1 p))) := f3.fm.up fun x k q => by
    (first | exact .inl (by omega) | exact .inr (.inl (by omega)) | exact .inr (.inr (.inl (by omega))) | exact .inr (.inr (.inr (.inl (by omega)))) | exact .inr (.inr (.inr (.inr (.inl (by omega))))) | exact .inr (.inr (.inr (.inr (.inr (.inl (by omega)))))) | exact .inr (.inr (.inr (.inr (.inr (.inr (.inl (by omega))))))) | exact .inr (.inr (.inr (.inr (.inr (.inr (.inr (.inl (by omega)))))))) | exact .inr (.inr (.inr (.inr (.inr (.inr (.inr (.inr (.inl (by omega))))))))) | exact .inr (.inr (.inr (.inr (.inr (.inr (.inr (.inr (.inr (.inl (by omega)))))))))) | exact .inr (.inr (.inr (.inr (.inr (.inr (.inr (.inr (.inr (.inr (by omega)))))))))))
  have H3 : RX (pI (pI (pI h 165 36 (iN (dp + 1))) 184 fr.length (iN j)) 185 fr.length (iN (lnAt x.1 p))) tp lim fr c ol lp trn lk (dp + 1) σ := H1.re C f3.fm (fun x k q => by
    (first | exact .inl (by omega) | exact .inr (.inl (by omega)) | exact .inr (.inr (.inl (by omega))) | exact .inr (.inr (.inr (.inl (by omega)))) | exact .inr (.inr (.inr (.inr (.inl (by omega))))) | exact .inr (.inr (.inr (.inr (.inr (.inl (by omega)))))) | exact .inr (.inr (.inr (.inr (.inr (.inr (.inl (by omega))))))) | exact .inr (.inr (.inr (.inr (.inr (.inr (.inr (.inl (by omega)))))))) | exact .inr (.inr (.inr (.inr (.inr (.inr (.inr (.inr (.inl (by omega))))))))) | exact .inr (.inr (.inr (.inr (.inr (.inr (.inr (.inr (.inr (.inl (by omega)))))))))) | exact .inr (.inr (.inr (.inr (.inr (.inr (.inr (.inr (.inr (.inr (by omega)))))))))))) (H1.1.2.2.1.1.fx f3.fm (fun v x k hv q z => by unfold sP at q; omega) (fun z => by omega) (fun l _ _ z => by omega)) (by rw [(f3.2.2.2.2 165 37 (by omega)).1]; exact H1.1.2.2.1.2.1) (H1.rn.fm f3.fm (fun x k q => by omega)) (H1.1.2.2.2.2.2.fm f3.fm (fun x k q => by omega))
  have HY : RY (pI (pI (pI h 165 36 (iN (dp + 1))) 184 fr.length (iN j)) 185 fr.length (iN (lnAt x.1 p))) tp lim (fr ++ [(c, j, lnAt x.1 p, bb)]) ol lp trn lk (dp + 1) σ := by
    refine ⟨H3.1.1, fun i g e => ?_, H3.1.2.2.1, H3.1.2.2.2.1, by rw [List.length_append]; exact Nat.succ_le_succ nf, H3.1.2.2.2.2.2⟩
    by_cases il : i < fr.length
    · rw [List.getElem?_append_left il] at e
      exact H3.1.2.1 i g e
    · have il2 : i < (fr ++ [(c, j, lnAt x.1 p, bb)]).length := (List.getElem?_eq_some_iff.mp e).1
      rw [List.length_append] at il2
      have il3 : i < fr.length + 1 := il2
      have ie : i = fr.length := by omega
      subst ie
      rw [List.getElem?_append_right (Nat.le_refl _), Nat.sub_self] at e
      cases e
      exact ⟨fun q hq => H3.2.1 q (by have hq : q ≤ j := hq; omega), hj, c6, by rw [hI_pI, if_neg (by omega), hI_pI, if_pos ⟨rfl, rfl⟩], by rw [hI_pI, if_pos ⟨rfl, rfl⟩]⟩
  obtain ⟨h4, e4, f4, v4, o4⟩ := A _ tp lim (fr ++ [(c, j, lnAt x.1 p, bb)]) ol lp trn lk (dp + 1) σ v (by omega) HY hv (by omega) hl
  have len : (fr ++ [(c, j, lnAt x.1 p, bb)]).length = fr.length + 1 := List.length_append
  rw [len] at e4 f4
  rw [preF_snoc fr c j (lnAt x.1 p) bb trn] at o4
  have f4' : FM (PRn fr.length ol lp) (pI (pI (pI h 165 36 (iN (dp + 1))) 184 fr.length (iN j)) 185 fr.length (iN (lnAt x.1 p))) h4 := f4.up fun x k q => by
    unfold PRp PRn at q
    rcases q with (q | q | q | q | q | q | q | q | q | q | q) | q | q <;> (first | exact .inl (by omega) | exact .inr (.inl (by omega)) | exact .inr (.inr (.inl (by omega))) | exact .inr (.inr (.inr (.inl (by omega)))) | exact .inr (.inr (.inr (.inr (.inl (by omega))))) | exact .inr (.inr (.inr (.inr (.inr (.inl (by omega)))))) | exact .inr (.inr (.inr (.inr (.inr (.inr (.inl (by omega))))))) | exact .inr (.inr (.inr (.inr (.inr (.inr (.inr (.inl (by omega)))))))) | exact .inr (.inr (.inr (.inr (.inr (.inr (.inr (.inr (.inl (by omega))))))))) | exact .inr (.inr (.inr (.inr (.inr (.inr (.inr (.inr (.inr (.inl (by omega)))))))))) | exact .inr (.inr (.inr (.inr (.inr (.inr (.inr (.inr (.inr (.inr (by omega)))))))))))
  have w4 := f4'.wf w3
  have Ro : RoQ h4 tp lim fr c ol lp trn lk (dp + 1) (wTp lk lk lim tp (wE lk lk lim tp d) v (lks (preF fr, c, j, bb, trn) (lnAt x.1 p) 10) trn σ) := by
    revert o4
    generalize (wTp lk lk lim tp (wE lk lk lim tp d) v (lks (preF fr, c, j, bb, trn) (lnAt x.1 p) 10) trn σ) = R
    intro o4
    cases R with
    | inl σ' =>
      have o : RY h4 tp lim (fr ++ [(c, j, lnAt x.1 p, bb)]) ol lp trn lk (dp + 1) σ' := o4
      exact H3.re C f4' (fun _ _ q => q) o.2.2.1.1 o.2.2.1.2.1 o.2.2.2.1 o.2.2.2.2.2
    | inr e => exact o4
  obtain ⟨o5, f5⟩ := RoQ.dn C Ro nf (by omega)
  have st : fX14_part_b (G3 f) 165 (iN fr.length) (iN j) (iN p) h = some (iN (p + 4), pI h4 165 36 (hI h4 165 36 - 1)) := by
    unfold fX14_part_b
    rw [H.hd C hj, ckM w, Option.bind_some, line_e T (Nat.le_of_lt q3), bd2_s, gM w, Option.bind_some, H.rn.dp8.1, if_neg (show ¬ iN dp = 8 from fun q => by have := (i_eq (b := 8) (by omega) (by decide)).mp q; omega), Option.bind_some, i_succ, pM w, Option.bind_some, MR33 w1, Option.bind_some, MS184 w1 (by omega), Option.bind_some, MR34 w2, Option.bind_some, MS185 w2 (by omega), Option.bind_some, ckM w3, Option.bind_some, show iN p + 2 = iN (p + 2) from i_add _ 2, byte_e (H3.tx C hj hx).1 c1, bd2_s, c2, ckM w3, Option.bind_some, i_succ, show iN (48 + v) - 48 = iN v from iN_sub (b := 48) (by omega), e4, Option.bind_some, gM w4, Option.bind_some, pM w4, Option.bind_some, show iN p + 4 = iN (p + 4) from i_add _ 4]
  rw [st, sv]
  exact ⟨_, _, rfl, ((F1.tr F3).tr f4').tr f5, o5, fun _ _ => rfl⟩

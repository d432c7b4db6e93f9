/-! the reference's walk: branches -/
set_option maxHeartbeats 300000
def brF (a0 : Nat) (a1 a2 a3 v3 s128_0 v27 : Int32) (h210j : hp) : Option (Int32 × hp) :=
  (gfI h210j a0 13 42).bind fun v31 =>
  jn (fun (h247j : hp) => (some ((s128_0 + 3), h247j) : Option (Int32 × hp))) fun k247 =>
  if v31 = 0 then (k247 h210j) else (
    (gfI h210j a0 13 43).bind fun v33 =>
    if v33 = 0 then (
      (gfI h210j a0 13 23).bind fun v35 =>
      if v35 = v27 then (k247 h210j) else (
        (ckT h210j a0 13).bind fun _ =>
        bd2 (fX14_lineAt a0 v3 a3 h210j) fun v38 h39 =>
        (ckT h39 a0 13).bind fun _ =>
        (fX14_faults a0 a1 a2 v38 3 h39).bind fun h42 =>
        k247 h42)
    ) else (k247 h210j))
def brE (g : gG3) (a0 : Nat) (a1 a2 a3 a4 a5 v3 v9 v16 s106_0 s128_0 v27 : Int32) (h179j : hp) : Option (Int32 × hp) :=
  jn (fun (h210j : hp) => (brF a0 a1 a2 a3 v3 s128_0 v27 h210j : Option (Int32 × hp))) fun k210 =>
  if s106_0 = 0 then (k210 h179j) else (
    (gfI h179j a0 13 42).bind fun v44 =>
    jn (fun (h196j : hp) => (
      (ckT h196j a0 13).bind fun _ =>
      (g.2.1 a0 a1 a2 (v16 + 3) a4 a5 h196j).bind fun h47 =>
      k210 h47 : Option (Int32 × hp))) fun k196 =>
    if v44 = 0 then (if v9 = 0 then (k196 h179j) else (k210 h179j)) else (k196 h179j))
def brD (g : gG3) (a0 : Nat) (a1 a2 a3 a4 a5 v3 v9 v16 s106_0 s128_0 v23 : Int32) (h160j : hp) : Option (Int32 × hp) :=
  (gfI h160j a0 13 23).bind fun v27 =>
  (gfI h160j a0 13 42).bind fun v29 =>
  jn (fun (h179j : hp) => (brE g a0 a1 a2 a3 a4 a5 v3 v9 v16 s106_0 s128_0 v27 h179j : Option (Int32 × hp))) fun k179 =>
  if v29 = 0 then (k179 h160j) else (
    (pfI h160j a0 13 23 v23).bind fun h49 =>
    k179 h49)
def brC (g : gG3) (a0 : Nat) (a1 a2 a3 a4 a5 v3 v9 v12 v16 s106_0 s128_0 : Int32) (h128j : hp) : Option (Int32 × hp) :=
  (gfI h128j a0 13 23).bind fun v23 =>
  (gfI h128j a0 13 42).bind fun v25 =>
  jn (fun (h160j : hp) => (brD g a0 a1 a2 a3 a4 a5 v3 v9 v16 s106_0 s128_0 v23 h160j : Option (Int32 × hp))) fun k160 =>
  jn (fun (h148j : hp) => (
    (ckT h148j a0 13).bind fun _ =>
    (g.2.1 a0 a1 a2 v12 a4 a5 h148j).bind fun h52 =>
    k160 h52 : Option (Int32 × hp))) fun k148 =>
  if v25 = 0 then (if v9 = 0 then (k160 h128j) else (k148 h128j)) else (k148 h128j)
def brK (g : gG3) (a0 : Nat) (a1 a2 a3 a4 a5 v3 : Int32) (h37j : hp) : Option (Int32 × hp) :=
  (gfI h37j a0 13 18).bind fun v9 =>
  (ckT h37j a0 13).bind fun _ =>
  bd2 (fX14_closes a0 v3 a3 h37j) fun v12 h13 =>
  (ckT h13 a0 13).bind fun _ =>
  bd2 (fX14_endOf a0 v3 v12 h13) fun v16 h17 =>
  (ckT h17 a0 13).bind fun _ =>
  bd2 (fX14_byteAt a0 v3 (v16 + 1) h17) fun v20 h21 =>
  jn (fun (s106_0 : Int32) (h106j : hp) => (
    jn (fun (s128_0 : Int32) (h128j : hp) => (brC g a0 a1 a2 a3 a4 a5 v3 v9 v12 v16 s106_0 s128_0 h128j : Option (Int32 × hp))) fun k128 =>
    if s106_0 = 0 then (k128 v16 h106j) else (
      (ckT h106j a0 13).bind fun _ =>
      bd2 (fX14_endOf a0 v3 (v16 + 3) h106j) fun v55 h56 =>
      k128 v55 h56) : Option (Int32 × hp))) fun k106 =>
  if v20 = 58 then (k106 1 h21) else (k106 0 h21)
theorem br_st (g : gG3) (a0 : Nat) (a1 a2 a3 a4 a5 : Int32) (h : hp) : fX14_branches_b g a0 a1 a2 a3 a4 a5 h = (gfR h a0 13 31).bind fun v1 => (alI h v1 ((6 * a1) + a2)).bind fun v3 => (pfI h a0 13 17 (a3 + 2)).bind fun h5 => (gfI h5 a0 13 42).bind fun v7 => jn (fun (s37_0 : Int32) (h37j : hp) => (if s37_0 = 0 then (brK g a0 a1 a2 a3 a4 a5 v3 h37j) else ((ckT h37j a0 13).bind fun _ => bd2 (fX14_lineAt a0 v3 a3 h37j) fun v59 h60 => (ckT h60 a0 13).bind fun _ => (fX14_faults a0 a1 a2 v59 s37_0 h60).bind fun h63 => some (a3, h63)) : Option (Int32 × hp))) fun k37 => if v7 = 0 then ((ckT h5 a0 13).bind fun _ => bd2 (fX14_condition a0 v3 h5) fun v66 h67 => k37 v66 h67) else (k37 0 h5) := rfl
/-- where what is within ends, where the other part ends -/
def bdQ (L : List Int32) (n m b q : Nat) (blk : Bool) (t o : TY (m + 1)) (e0 las : Nat) (oth : Bool) : Prop := pPcs L n m blk b = .inl (t, e0) ∧ e0 + 2 < L.length ∧ q = las + 3 ∧ (if oth = true then pPcs L n m blk (e0 + 3) = .inl (o, las) else o = tyN (m + 1) ∧ las = e0)
theorem br_k (g : gG3) {h : hp} {k n m p b q : Nat} {L : List Int32} {blk : Bool} {t o : TY (m + 1)} (a1 a2 a4 a5 : Int32) (T : TX h k L) (hB : HB L p b) (hm : m ≤ 3) (hb : pBody (pAll L n) (m + 1) blk b = .inl ((t, o), q)) : ∃ e0 las oth, bdQ L n m b q blk t o e0 las oth ∧ brK g 165 a1 a2 (iN p) a4 a5 (iN k) h = brC g 165 a1 a2 (iN p) a4 a5 (iN k) (hI h 165 18) (iN b) (iN e0) (b2 oth) (iN las) h := by
  have w := T.1
  have len := T.2.2.1
  have hbl := hB.2.2.1
  obtain ⟨e0, k1, k2, k3, k4, k5⟩ := body_i (by omega) hb
  obtain ⟨y1, y2⟩ := here_lt k4 (by decide)
  have l1 : e0 + 1 < L.length := by omega
  have st : ∀ v, hereL L (e0 + 1) = v → (v = 47 ∨ v = 58) → brK g 165 a1 a2 (iN p) a4 a5 (iN k) h = (jn (fun (s106_0 : Int32) (h106j : hp) => (jn (fun (s128_0 : Int32) (h128j : hp) => (brC g 165 a1 a2 (iN p) a4 a5 (iN k) (hI h 165 18) (iN b) (iN e0) s106_0 s128_0 h128j : Option (Int32 × hp))) fun k128 => if s106_0 = 0 then (k128 (iN e0) h106j) else ((ckT h106j 165 13).bind fun _ => bd2 (fX14_endOf 165 (iN k) (iN (e0 + 3)) h106j) fun v55 h56 => k128 v55 h56) : Option (Int32 × hp))) fun k106 => if v = 58 then (k106 1 h) else (k106 0 h)) := by
    intro v hv hv2
    unfold brK
    rw [gM w, Option.bind_some, ckM w, Option.bind_some, closes_e T hB, bd2_s, ckM w, Option.bind_some, end_e2 T (by omega) hbl k1 k3 (by rw [hv]; exact hv2), bd2_s, ckM w, Option.bind_some, i_succ, byte_e T l1, bd2_s, ← hereL_in l1, hv, show iN e0 + 3 = iN (e0 + 3) from i_add _ 3]
  rcases k5 with ⟨u1, u2, u3⟩ | ⟨u1, e1, u2, u3, u4, u5, u6, u7⟩
  · refine ⟨e0, e0, false, ⟨k1, y1, u3, ?_⟩, ?_⟩
    · rw [if_neg (by decide)]; exact ⟨u2, rfl⟩
    · rw [st 47 u1 (.inl rfl), jn_e, if_neg (by decide)]; (try dsimp only); rw [jn_e, if_pos rfl]
      all_goals rfl
  · refine ⟨e0, e1, true, ⟨k1, y1, u7, ?_⟩, ?_⟩
    · rw [if_pos rfl]; exact u2
    · rw [st 58 u1 (.inr rfl), jn_e, if_pos rfl]; (try dsimp only); rw [jn_e, if_neg (by decide)]; (try dsimp only); rw [ckM w, Option.bind_some, end_e2 T (by omega) (by omega) u2 u4 (.inl u5), bd2_s]
      all_goals rfl
/-- a T in a state in which a fault was told -/
theorem fl_runs {f : Nat} {h : hp} {fr : Fr} {j ol lp : Nat} {vs : Nat → vT} {e : Nat × List Lk} (a b c : Int32) (w : WF h) (hr : RFt h ol e) (M : ∀ u, u < 8 → MV h u (vs u)) (hn : fr.length ≤ 8) (hj : j < 6) (ho : ol + 1 ≤ 79) : ∃ h', (G3 (f + 2)).2.1 165 (iN fr.length) (iN j) a b c h = some h' ∧ FM (PRn fr.length ol lp) h h' ∧ (∀ u, u < 8 → MV h' u (vs u)) ∧ RFt h' ol e := by
  obtain ⟨h1, e1, f1, a1, O1⟩ := keeps_e w (show ol < 80 by omega) hr.2.2.2 M
  have w1 := f1.wf w
  have r1 : RFt h1 (ol + 1) e := hr.fm f1.fm (fun x k q => by unfold Pol at q; omega) a1
  obtain ⟨h2, e2, f2, a2, M2⟩ := back_m w1 (show ol < 80 by omega) a1 O1
  have r2 : RFt h2 ol e := r1.fm f2.fm (fun x k q => by unfold Pvl at q; omega) a2
  refine ⟨h2, ?_, (f1.fm.up fun x k q => by
    unfold Pol at q
    rcases q with (q | q) | q <;> (first | exact .inl (by omega) | exact .inr (.inl (by omega)) | exact .inr (.inr (.inl (by omega))) | exact .inr (.inr (.inr (.inl (by omega)))) | exact .inr (.inr (.inr (.inr (.inl (by omega))))) | exact .inr (.inr (.inr (.inr (.inr (.inl (by omega)))))) | exact .inr (.inr (.inr (.inr (.inr (.inr (.inl (by omega))))))) | exact .inr (.inr (.inr (.inr (.inr (.inr (.inr (.inl (by omega)))))))) | exact .inr (.inr (.inr (.inr (.inr (.inr (.inr (.inr (.inl (by omega))))))))) | exact .inr (.inr (.inr (.inr (.inr (.inr (.inr (.inr (.inr (.inl (by omega)))))))))) | exact .inr (.inr (.inr (.inr (.inr (.inr (.inr (.inr (.inr (.inr (by omega)))))))))))).tr (f2.fm.up fun x k q => by
    unfold Pvl at q
    rcases q with (q | q) | q <;> (first | exact .inl (by omega) | exact .inr (.inl (by omega)) | exact .inr (.inr (.inl (by omega))) | exact .inr (.inr (.inr (.inl (by omega)))) | exact .inr (.inr (.inr (.inr (.inl (by omega))))) | exact .inr (.inr (.inr (.inr (.inr (.inl (by omega)))))) | exact .inr (.inr (.inr (.inr (.inr (.inr (.inl (by omega))))))) | exact .inr (.inr (.inr (.inr (.inr (.inr (.inr (.inl (by omega)))))))) | exact .inr (.inr (.inr (.inr (.inr (.inr (.inr (.inr (.inl (by omega))))))))) | exact .inr (.inr (.inr (.inr (.inr (.inr (.inr (.inr (.inr (.inl (by omega)))))))))) | exact .inr (.inr (.inr (.inr (.inr (.inr (.inr (.inr (.inr (.inr (by omega)))))))))))), M2, r2⟩
  have er : (G3 (f + 1)).1 165 (iN fr.length) (iN j) a b c h1 = some (a, h1) := by
    show fX14_run_b (G3 f) 165 (iN fr.length) (iN j) a b c h1 = _
    unfold fX14_run_b
    rw [MR31 w1, Option.bind_some, six, ML182 w1 (by omega), Option.bind_some, show FU = 999999 + 1 from rfl, fX14_run_l16, gM w1, Option.bind_some, r1.1, if_neg (by decide), bd3_s, if_neg (by decide), if_pos rfl]
  show fX14_runs_b (G3 (f + 1)) 165 (iN fr.length) (iN j) a b c h = _
  unfold fX14_runs_b
  rw [ckM w, Option.bind_some, e1, Option.bind_some, ckM w1, Option.bind_some, er, bd2_s, ckM w1, Option.bind_some, e2, Option.bind_some]
/-- the end of a branch -/
theorem brF_no {h : hp} (w : WF h) (z : hI h 165 42 = 0 ∨ hI h 165 43 = 1) (a1 a2 a3 v3 s v : Int32) : brF 165 a1 a2 a3 v3 s v h = some (s + 3, h) := by
  unfold brF
  rw [gM w, Option.bind_some, jn_e]
  rcases z with z | z
  · rw [z, if_pos rfl]
  · by_cases y : hI h 165 42 = 0
    · rw [if_pos y]
    · rw [if_neg y, gM w, Option.bind_some, z, if_neg (by decide)]
theorem brF_e {h : hp} {tp : Tp} {lim : Nat} {fr : Fr} {c : List Nat} {ol lp : Nat} {trn : Option Nat} {lk : Bool} {dp : Nat} {σ : St} {j p las one : Nat} {x : List Int32 × Option Nat × TY 5} (hlk : lk = true) (H : RX h tp lim fr c ol lp trn lk dp σ) (C : okC tp c) (hj : j < c.length) (hx : tp (c.getD j 0) = some x) (hp' : p ≤ x.1.length) (bb : Option Nat) (h1 : one ≤ 3) : PCr (brF 165 (iN fr.length) (iN j) (iN p) (iN (c.getD j 0)) (iN las) (iN one) h) h tp lim fr c ol lp trn lk dp (if σ.2.1 = one then .inl σ else ftW (preF fr, c, j, bb, trn) σ (lnAt x.1 p) 3) (las + 3) := by
  subst hlk
  have w := H.w
  have cx := H.rn.cx
  have ec : (iN σ.2.1 = iN one) = (σ.2.1 = one) := i_eq (by omega) (by omega)
  unfold brF
  rw [gM w, Option.bind_some, jn_e, H.lk, if_neg (by decide)]; (try dsimp only); rw [gM w, Option.bind_some, H.fl, if_pos rfl]; (try dsimp only); rw [gM w, Option.bind_some, cx.1]
  by_cases z : σ.2.1 = one
  · rw [if_pos (ec.mpr z), if_pos z]
    exact ⟨_, _, rfl, FM.rf _ _, H, fun _ _ => i_add _ 3⟩
  · obtain ⟨h9, e9, f9, v9, r9, w9, T9, l9⟩ := H.fc C hj hx hp' bb 3
    rw [ckM w, Option.bind_some, line_e (H.tx C hj hx).1 hp', bd2_s, ckM w, Option.bind_some] at e9
    rw [if_neg (fun q => z (ec.mp q)), if_neg z, ckM w, Option.bind_some, line_e (H.tx C hj hx).1 hp', bd2_s, ckM w, Option.bind_some, show fX14_faults 165 (iN fr.length) (iN j) (iN (lnAt x.1 p)) 3 h = _ from e9, Option.bind_some]
    exact ⟨_, _, rfl, f9, r9, fun _ q => by cases q⟩
theorem pc2_sc {x k : Nat} (q : PC2 x k) : Psc x k := by unfold PC2 PE sP at q; unfold Psc; omega
theorem cvE_s {vs : Nat → vT} {trn : Option Nat} {ts s : Nat} {e1 e2 : EX} (h : cvE vs trn ts e1 e2 = .inr s) : s < 10 := by
  unfold cvE at h
  by_cases c1 : (evE vs trn e1).1 ≠ 0
  · rw [if_pos c1] at h
    have := evE_s vs trn e1
    rw [← Sum.inr.inj h]; exact this
  rw [if_neg c1] at h
  by_cases c2 : ts = 0
  · rw [if_pos c2] at h; cases h
  rw [if_neg c2] at h
  by_cases c3 : ts = 1
  · rw [if_pos c3] at h; cases h
  rw [if_neg c3] at h
  by_cases c4 : (evE vs trn e2).1 ≠ 0
  · rw [if_pos c4] at h
    have := evE_s vs trn e2
    rw [← Sum.inr.inj h]; exact this
  rw [if_neg c4] at h
  cases hc : cmS (evE vs trn e1).2 (evE vs trn e2).2 with
  | none => rw [hc] at h; rw [← Sum.inr.inj h]; decide
  | some y =>
    rw [hc] at h
    dsimp only at h
    by_cases c5 : ts = 2
    · rw [if_pos c5] at h; cases h
    · rw [if_neg c5] at h; cases h
theorem FM.sub {n ol lp : Nat} {h h' : hp} {P : Nat → Nat → Prop} (f : FM P h h') (hP : ∀ x k, P x k → Psc x k) : FM (PRn n ol lp) h h' := f.up fun x k q => psc_n (hP x k q)
/-- the end of a branch: looking, behind what is within -/
theorem brD_t {d m f : Nat} (A : RTn d m (f + 2)) {h : hp} {tp : Tp} {lim : Nat} {fr : Fr} {c : List Nat} {ol lp : Nat} {trn : Option Nat} {dp : Nat} {j p b q n e0 las : Nat} {bb : Option Nat} {x : List Int32 × Option Nat × TY 5} {blk oth : Bool} {t o : TY (m + 1)} {R : Ot} {vs : Nat → vT} {cx : Nat} (v9 : Int32) (w : WF h) (tx : RTh h tp) (l42 : hI h 165 42 = b2 true) (hd : dp + d = 8) (h8 : fr.length ≤ 8) (Ro : RoQ h tp lim fr c ol lp trn true dp R) (M : ∀ u, u < 8 → MV h u (vs u)) (C : okC tp c) (hj : j < c.length) (hx : tp (c.getD j 0) = some x) (hp' : p ≤ x.1.length) (B : bdQ x.1 n m b q blk t o e0 las oth) (hm : m ≤ 3) (hb : blk = true → bb ≠ none) (b4 : ∀ b, bb = some b → b < 4) (ho : ol + 1 + m ≤ 5 * dp + 5) (hl : lp ≤ ol) (hc : cx ≤ 3) : PCr (brD (G3 (f + 2)) 165 (iN fr.length) (iN j) (iN p) (bjE j bb) (oB bb) (iN (c.getD j 0)) v9 (iN e0) (b2 oth) (iN las) (iN cx) h) h tp lim fr c ol lp trn true dp (bO R fun σ1 => bO (wTr true true lim (wE true true lim tp d) (m + 1) o (preF fr, c, j, bb, trn) (σ1.1, cx, σ1.2.2)) fun σ2 => if σ2.2.1 = σ1.2.1 then .inl σ2 else ftW (preF fr, c, j, bb, trn) σ2 (lnAt x.1 p) 3) q := by
  obtain ⟨B1, B2, B3, B4⟩ := B
  subst B3
  have w7 : WF (pI h 165 23 (iN cx)) := w
  have f7 : FM (fun x k => x = 165 ∧ k = 23) h (pI h 165 23 (iN cx)) := (FS.pI ⟨rfl, rfl⟩).fm
  have F7 : FM (PRn fr.length ol lp) h (pI h 165 23 (iN cx)) := f7.up fun x k q => by
    (first | exact .inl (by omega) | exact .inr (.inl (by omega)) | exact .inr (.inr (.inl (by omega))) | exact .inr (.inr (.inr (.inl (by omega)))) | exact .inr (.inr (.inr (.inr (.inl (by omega))))) | exact .inr (.inr (.inr (.inr (.inr (.inl (by omega)))))) | exact .inr (.inr (.inr (.inr (.inr (.inr (.inl (by omega))))))) | exact .inr (.inr (.inr (.inr (.inr (.inr (.inr (.inl (by omega)))))))) | exact .inr (.inr (.inr (.inr (.inr (.inr (.inr (.inr (.inl (by omega))))))))) | exact .inr (.inr (.inr (.inr (.inr (.inr (.inr (.inr (.inr (.inl (by omega)))))))))) | exact .inr (.inr (.inr (.inr (.inr (.inr (.inr (.inr (.inr (.inr (by omega)))))))))))
  have l7 : hI (pI h 165 23 (iN cx)) 165 42 = b2 true := by rw [hI_pI, if_neg (by decide)]; exact l42
  have c6 := C.2.1
  have st : brD (G3 (f + 2)) 165 (iN fr.length) (iN j) (iN p) (bjE j bb) (oB bb) (iN (c.getD j 0)) v9 (iN e0) (b2 oth) (iN las) (iN cx) h = brE (G3 (f + 2)) 165 (iN fr.length) (iN j) (iN p) (bjE j bb) (oB bb) (iN (c.getD j 0)) v9 (iN e0) (b2 oth) (iN las) (hI h 165 23) (pI h 165 23 (iN cx)) := by
    unfold brD
    rw [gM w, Option.bind_some, gM w, Option.bind_some, l42, jn_e, if_neg (show ¬ b2 true = 0 by decide), pM w, Option.bind_some]
  rw [st]
  unfold brE
  rw [jn_e]
  cases R with
  | inl σ1 =>
    have H6 : RX h tp lim fr c ol lp trn true dp σ1 := Ro
    obtain ⟨H7, _⟩ := H6.ctx C hc
    rw [H6.rn.cx.1]
    cases oth with
    | false =>
      rw [if_neg (by decide)] at B4
      rw [if_pos (show b2 false = 0 by decide), B4.1]
      exact (brF_e rfl H7 C hj hx hp' bb H6.rn.cx.2).pre F7
    | true =>
      rw [if_pos rfl] at B4
      obtain ⟨h8', e8, f8, v8, o8⟩ := A _ tp lim fr c ol lp trn true dp _ j bb x n (e0 + 3) las blk o hd H7 C hj hx B4 (by omega) (by omega) hb b4 ho hl
      have w8 := f8.wf w7
      rw [if_neg (show ¬ b2 true = 0 by decide), gM w7, Option.bind_some, l7, jn_e, if_neg (show ¬ b2 true = 0 by decide)]; (try dsimp only); rw [ckM w7, Option.bind_some, show iN e0 + 3 = iN (e0 + 3) from i_add _ 3]; (try dsimp only); rw [e8, Option.bind_some, bO_l]
      refine PCr.pre (F7.tr f8) ?_
      cases hR : wTr true true lim (wE true true lim tp d) (m + 1) o (preF fr, c, j, bb, trn) (σ1.1, cx, σ1.2.2) with
      | inl σ2 =>
        rw [hR] at o8
        exact brF_e rfl (show RX h8' tp lim fr c ol lp trn true dp σ2 from o8) C hj hx hp' bb H6.rn.cx.2
      | inr e' =>
        rw [hR] at o8
        have o8' : RFt h8' ol e' := o8
        rw [brF_no w8 (.inr o8'.1)]
        exact ⟨_, _, rfl, FM.rf _ _, o8', fun _ q => by cases q⟩
  | inr e' =>
    have r6 : RFt h ol e' := Ro
    have r7 : RFt (pI h 165 23 (iN cx)) ol e' := r6.fm f7 (fun x k q => by omega) (by rw [hI_pI, if_neg (by decide)]; exact r6.2.2.2)
    refine PCr.pre F7 ?_
    cases oth with
    | false =>
      rw [if_pos (show b2 false = 0 by decide)]; (try dsimp only); rw [brF_no w7 (.inr r7.1)]
      exact ⟨_, _, rfl, FM.rf _ _, r7, fun _ q => by cases q⟩
    | true =>
      obtain ⟨h8', e8, f8, v8, r8⟩ := fl_runs (f := f) (fr := fr) (j := j) (lp := lp) (iN (e0 + 3)) (bjE j bb) (oB bb) w7 r7 (fun u hu => (M u hu).fm f7 (fun x k q z => by unfold sP at q; omega)) h8 (by omega) (by omega)
      have w8 := f8.wf w7
      rw [if_neg (show ¬ b2 true = 0 by decide), gM w7, Option.bind_some, l7, jn_e, if_neg (show ¬ b2 true = 0 by decide)]; (try dsimp only); rw [ckM w7, Option.bind_some, show iN e0 + 3 = iN (e0 + 3) from i_add _ 3]; (try dsimp only); rw [e8, Option.bind_some]; (try dsimp only); rw [brF_no w8 (.inr r8.1)]
      exact ⟨_, _, rfl, f8, r8, fun _ q => by cases q⟩
/-- the end of a branch: printing -/
theorem brE_f {d m f : Nat} (A : RTn d m (f + 2)) {h : hp} {tp : Tp} {lim : Nat} {fr : Fr} {c : List Nat} {ol lp : Nat} {trn : Option Nat} {dp : Nat} {σ : St} {j p b q n e0 las : Nat} {bb : Option Nat} {x : List Int32 × Option Nat × TY 5} {blk oth : Bool} {t o : TY (m + 1)} (bv : Bool) (w : WF h) (l42 : hI h 165 42 = b2 false) (hd : dp + d = 8) (Ro : bv = false → RX h tp lim fr c ol lp trn false dp σ) (C : okC tp c) (hj : j < c.length) (hx : tp (c.getD j 0) = some x) (B : bdQ x.1 n m b q blk t o e0 las oth) (hm : m ≤ 3) (hb : blk = true → bb ≠ none) (b4 : ∀ b, bb = some b → b < 4) (ho : ol + 1 + m ≤ 5 * dp + 5) (hl : lp ≤ ol) (cx : Int32) (R : Ot) (Rt : bv = true → RoQ h tp lim fr c ol lp trn false dp R) : PCr (brD (G3 (f + 2)) 165 (iN fr.length) (iN j) (iN p) (bjE j bb) (oB bb) (iN (c.getD j 0)) (b2 bv) (iN e0) (b2 oth) (iN las) cx h) h tp lim fr c ol lp trn false dp (if bv = true then R else wTr false false lim (wE false false lim tp d) (m + 1) o (preF fr, c, j, bb, trn) σ) q := by
  obtain ⟨B1, B2, B3, B4⟩ := B
  subst B3
  unfold brD
  rw [gM w, Option.bind_some, gM w, Option.bind_some, l42, jn_e, if_pos (show b2 false = 0 by decide)]
  dsimp only
  unfold brE
  rw [jn_e]
  have l0 : hI h 165 42 = 0 := l42
  cases bv with
  | true =>
    rw [if_pos rfl]
    have fin : brF 165 (iN fr.length) (iN j) (iN p) (iN (c.getD j 0)) (iN las) (hI h 165 23) h = some (iN las + 3, h) := brF_no w (.inl l0) _ _ _ _ _ _
    have res : PCr (some (iN las + 3, h)) h tp lim fr c ol lp trn false dp R (las + 3) := ⟨_, _, rfl, FM.rf _ _, Rt rfl, fun _ _ => i_add _ 3⟩
    cases oth with
    | false => rw [if_pos (show b2 false = 0 by decide)]; (try dsimp only); rw [fin]; exact res
    | true => rw [if_neg (show ¬ b2 true = 0 by decide), gM w, Option.bind_some, l0, jn_e, if_pos rfl, if_neg (show ¬ b2 true = 0 by decide)]; (try dsimp only); rw [fin]; exact res
  | false =>
    have H := Ro rfl
    rw [if_neg (show ¬ false = true by decide)]
    cases oth with
    | false =>
      rw [if_neg (by decide)] at B4
      rw [if_pos (show b2 false = 0 by decide)]; (try dsimp only); rw [brF_no w (.inl l0), B4.1]
      exact ⟨_, _, rfl, FM.rf _ _, H, fun _ _ => i_add _ 3⟩
    | true =>
      rw [if_pos rfl] at B4
      obtain ⟨h8', e8, f8, v8, o8⟩ := A h tp lim fr c ol lp trn false dp σ j bb x n (e0 + 3) las blk o hd H C hj hx B4 (by omega) (by omega) hb b4 ho hl
      have w8 := f8.wf w
      have l8 : hI h8' 165 42 = 0 := by rw [f8.lk]; exact l0
      rw [if_neg (show ¬ b2 true = 0 by decide), gM w, Option.bind_some, l0, jn_e, if_pos rfl, if_pos (show b2 false = 0 by decide)]; (try dsimp only); rw [ckM w, Option.bind_some, show iN e0 + 3 = iN (e0 + 3) from i_add _ 3]; (try dsimp only); rw [e8, Option.bind_some]; (try dsimp only); rw [brF_no w8 (.inl l8)]
      exact ⟨_, _, rfl, f8, o8, fun _ _ => i_add _ 3⟩
theorem br_r {d m f : Nat} (A : RTn d m (f + 2)) {h : hp} {tp : Tp} {lim : Nat} {fr : Fr} {c : List Nat} {ol lp : Nat} {trn : Option Nat} {lk : Bool} {dp : Nat} {σ : St} {j p b q n : Nat} {bb : Option Nat} {x : List Int32 × Option Nat × TY 5} {blk : Bool} {pc : PD (TY (m + 1))} (hd : dp + d = 8) (H : RX h tp lim fr c ol lp trn lk dp σ) (C : okC tp c) (hj : j < c.length) (hx : tp (c.getD j 0) = some x) (D : HdP x.1 p b pc) (k2 : pc.1 = 2) (B : pBody (pAll x.1 n) (m + 1) blk b = .inl ((pc.2.2.2.2.2.2.1, pc.2.2.2.2.2.2.2), q)) (hm : m ≤ 3) (hb : blk = true → bb ≠ none) (b4 : ∀ b, bb = some b → b < 4) (ho : ol + 1 + m ≤ 5 * dp + 5) (hl : lp ≤ ol) : PCr (fX14_branches_b (G3 (f + 2)) 165 (iN fr.length) (iN j) (iN p) (bjE j bb) (oB bb) h) h tp lim fr c ol lp trn lk dp (if lk = true then bO (wTr lk lk lim (wE lk lk lim tp d) (m + 1) pc.2.2.2.2.2.2.1 (preF fr, c, j, bb, trn) σ) fun σ1 => bO (wTr lk lk lim (wE lk lk lim tp d) (m + 1) pc.2.2.2.2.2.2.2 (preF fr, c, j, bb, trn) (σ1.1, σ.2.1, σ1.2.2)) fun σ2 => if σ2.2.1 = σ1.2.1 then .inl σ2 else ftW (preF fr, c, j, bb, trn) σ2 pc.2.1 3 else match cvE σ.1 trn pc.2.2.2.1 pc.2.2.2.2.1 pc.2.2.2.2.2.1 with | .inr s => ftW (preF fr, c, j, bb, trn) σ pc.2.1 s | .inl bv => if bv = true then wTr lk lk lim (wE lk lk lim tp d) (m + 1) pc.2.2.2.2.2.2.1 (preF fr, c, j, bb, trn) σ else wTr lk lk lim (wE lk lk lim tp d) (m + 1) pc.2.2.2.2.2.2.2 (preF fr, c, j, bb, trn) σ) q := by
  obtain ⟨_, hc⟩ := hd2 D k2
  have eln := D.2.1
  have hB := D.1
  obtain ⟨q1, q2, q3⟩ := hdE hB
  have w := H.w
  have d8 := H.rn.dp8.2
  have n8 : fr.length ≤ 8 := by have := H.1.2.2.2.2.1; omega
  have w5 : WF (pI h 165 17 (iN (p + 2))) := w
  have f5 : FM Psc h (pI h 165 17 (iN (p + 2))) := psc_17 _
  have F5 : FM (PRn fr.length ol lp) h (pI h 165 17 (iN (p + 2))) := f5.sub fun _ _ q => q
  have H5 := H.sc C f5 fun _ _ q => q
  have hbl := hB.2.2.1
  rw [br_st, H.hd C hj, show iN p + 2 = iN (p + 2) from i_add _ 2, pM w, Option.bind_some, gM w5, Option.bind_some, H5.lk, jn_e, eln]
  cases lk with
  | true =>
    obtain ⟨e0, las, oth, Q, ek⟩ := br_k (G3 (f + 2)) (iN fr.length) (iN j) (bjE j bb) (oB bb) (H5.tx C hj hx).1 hB hm B
    obtain ⟨h6, e6, f6, v6, o6⟩ := A _ tp lim fr c ol lp trn true dp σ j bb x n b e0 blk pc.2.2.2.2.2.2.1 hd H5 C hj hx Q.1 hbl (by omega) hb b4 ho hl
    have w6 := f6.wf w5
    rw [if_neg (show ¬ b2 true = 0 by decide), if_pos (show true = true from rfl)]
    dsimp only
    rw [if_pos (show (0 : Int32) = 0 from rfl), ek]
    unfold brC
    rw [gM w5, Option.bind_some, gM w5, Option.bind_some, H5.lk, H5.rn.cx.1, jn_e, jn_e, if_neg (show ¬ b2 true = 0 by decide)]; (try dsimp only); rw [ckM w5, Option.bind_some]; (try dsimp only); rw [e6, Option.bind_some]
    refine PCr.pre (F5.tr f6) ?_
    exact brD_t A _ w6 (H5.1.1.2.fm f6 (fun x k q => prn_tx q)) (by rw [f6.lk]; exact H5.lk) hd n8 o6 v6 C hj hx (Nat.le_of_lt q3) Q hm hb b4 ho hl H5.rn.cx.2
  | false =>
    obtain ⟨h6, c1, e6, f6, r6⟩ := rcond_e (H5.tx C hj hx).1 H5.1.2.2.1.1 hc q1 q2 (by rw [hI_pI, if_pos ⟨rfl, rfl⟩])
    have H6 := H5.sc C f6 fun _ _ q => pc2_sc q
    have F6 := F5.tr (f6.sub fun _ _ q => pc2_sc q)
    have w6 := H6.w
    rw [if_pos (show b2 false = 0 by decide), if_neg (show ¬ false = true by decide), ckM w5, Option.bind_some, e6, bd2_s]
    dsimp only
    refine PCr.pre F6 ?_
    cases hcv : cvE σ.1 trn pc.2.2.2.1 pc.2.2.2.2.1 pc.2.2.2.2.2.1 with
    | inr s =>
      rw [hcv] at r6
      obtain ⟨r1, r2⟩ := r6
      have s10 := cvE_s hcv
      subst r1
      obtain ⟨h9, e9, f9, v9, r9, w9, T9, l9⟩ := H6.fc C hj hx (Nat.le_of_lt q3) bb c1
      rw [ckM w6, Option.bind_some, line_e (H6.tx C hj hx).1 (Nat.le_of_lt q3), bd2_s, ckM w6, Option.bind_some] at e9
      rw [if_neg (fun q => r2 ((fltz (by omega)).mp q)), ckM w6, Option.bind_some, line_e (H6.tx C hj hx).1 (Nat.le_of_lt q3), bd2_s, ckM w6, Option.bind_some, e9, Option.bind_some]
      exact ⟨_, _, rfl, f9, r9, fun _ q => by cases q⟩
    | inl bv =>
      rw [hcv] at r6
      obtain ⟨r1, r2⟩ := r6
      subst r1
      obtain ⟨e0, las, oth, Q, ek⟩ := br_k (G3 (f + 2)) (iN fr.length) (iN j) (bjE j bb) (oB bb) (H6.tx C hj hx).1 hB hm B
      rw [if_pos (show iN 0 = 0 from rfl), ek, r2]
      unfold brC
      rw [gM w6, Option.bind_some, gM w6, Option.bind_some, H6.lk, jn_e, jn_e, if_pos (show b2 false = 0 by decide)]
      cases bv with
      | true =>
        obtain ⟨h7, e7, f7, v7, o7⟩ := A _ tp lim fr c ol lp trn false dp σ j bb x n b e0 blk pc.2.2.2.2.2.2.1 hd H6 C hj hx Q.1 hbl (by omega) hb b4 ho hl
        have w7 := f7.wf w6
        rw [if_neg (show ¬ b2 true = 0 by decide)]; (try dsimp only); rw [ckM w6, Option.bind_some, e7, Option.bind_some]
        refine PCr.pre f7 ?_
        exact brE_f A true w7 (by rw [f7.lk]; exact H6.lk) hd (σ := σ) (fun z => by cases z) C hj hx Q hm hb b4 ho hl _ _ (fun _ => o7)
      | false =>
        rw [if_pos (show b2 false = 0 by decide)]
        exact brE_f A false w6 H6.lk hd (fun _ => H6) C hj hx Q hm hb b4 ho hl _ (.inl σ) (fun z => by cases z)

/-! the reference's walk: loops -/
set_option maxHeartbeats 300000
def loE (g : gG3) (a0 : Nat) (a1 a2 a4 a5 v18 v25 v28 s142_0 s164_0 s203_0 : Int32) (h251j : hp) : Option (Int32 × hp) :=
  jn (fun (h299j : hp) => (some ((s164_0 + 3), h299j) : Option (Int32 × hp))) fun k299 =>
  if s142_0 = 0 then (k299 h251j) else (
    (gfI h251j a0 13 43).bind fun v35 =>
    if v35 = 0 then (
      (gfI h251j a0 13 42).bind fun v37 =>
      jn (fun (h275j : hp) => (
        (ckT h275j a0 13).bind fun _ =>
        (g.2.1 a0 a1 a2 (v18 + 3) a4 a5 h275j).bind fun h40 =>
        (ckT h40 a0 13).bind fun _ =>
        (fX14_endsAsAhead a0 a1 a2 v28 v25 h40).bind fun h43 =>
        k299 h43 : Option (Int32 × hp))) fun k275 =>
      if v37 = 0 then (if s203_0 = 0 then (k299 h251j) else (k275 h251j)) else (k275 h251j)
    ) else (k299 h251j))
def loD (g : gG3) (a0 : Nat) (a1 a2 a4 a5 v6 v14 v18 v25 v28 s142_0 s164_0 s203_0 : Int32) (h203j : hp) : Option (Int32 × hp) :=
  (gfI h203j a0 13 42).bind fun v33 =>
  jn (fun (h251j : hp) => (loE g a0 a1 a2 a4 a5 v18 v25 v28 s142_0 s164_0 s203_0 h251j : Option (Int32 × hp))) fun k251 =>
  if v33 = 0 then (
    (ckT h203j a0 13).bind fun _ =>
    (g.2.2.2.2.2.1 a0 a1 a2 v14 a4 a5 (v6 - 97) h203j).bind fun h46 =>
    k251 h46
  ) else (
    (ckT h203j a0 13).bind fun _ =>
    (g.2.1 a0 a1 a2 v14 a4 a5 h203j).bind fun h49 =>
    (ckT h49 a0 13).bind fun _ =>
    (fX14_endsAsAhead a0 a1 a2 v28 v25 h49).bind fun h52 =>
    k251 h52)
def loC (g : gG3) (a0 : Nat) (a1 a2 a3 a4 a5 v3 v6 v14 v18 s142_0 s164_0 : Int32) (h164j : hp) : Option (Int32 × hp) :=
  (gfI h164j a0 13 23).bind fun v25 =>
  (ckT h164j a0 13).bind fun _ =>
  bd2 (fX14_lineAt a0 v3 a3 h164j) fun v28 h29 =>
  (gfI h29 a0 13 42).bind fun v31 =>
  jn (fun (s203_0 : Int32) (h203j : hp) => (loD g a0 a1 a2 a4 a5 v6 v14 v18 v25 v28 s142_0 s164_0 s203_0 h203j : Option (Int32 × hp))) fun k203 =>
  jn (fun (h202j : hp) => (k203 0 h202j : Option (Int32 × hp))) fun k202 =>
  if v31 = 0 then (
    (gfR h29 a0 13 2).bind fun v54 =>
    (alI h29 v54 8).bind fun v56 =>
    if v56 = 0 then (k203 1 h29) else (k202 h29)
  ) else (k202 h29)
def loK (g : gG3) (a0 : Nat) (a1 a2 a3 a4 a5 v3 v6 : Int32) (h81j : hp) : Option (Int32 × hp) :=
  (ckT h81j a0 13).bind fun _ =>
  bd2 (fX14_closes a0 v3 a3 h81j) fun v14 h15 =>
  (ckT h15 a0 13).bind fun _ =>
  bd2 (fX14_endOf a0 v3 v14 h15) fun v18 h19 =>
  (ckT h19 a0 13).bind fun _ =>
  bd2 (fX14_byteAt a0 v3 (v18 + 1) h19) fun v22 h23 =>
  jn (fun (s142_0 : Int32) (h142j : hp) => (
    jn (fun (s164_0 : Int32) (h164j : hp) => (loC g a0 a1 a2 a3 a4 a5 v3 v6 v14 v18 s142_0 s164_0 h164j : Option (Int32 × hp))) fun k164 =>
    if s142_0 = 0 then (k164 v18 h142j) else (
      (ckT h142j a0 13).bind fun _ =>
      bd2 (fX14_endOf a0 v3 (v18 + 3) h142j) fun v59 h60 =>
      k164 v59 h60) : Option (Int32 × hp))) fun k142 =>
  if v22 = 58 then (k142 1 h23) else (k142 0 h23)
def loH (g : gG3) (a0 : Nat) (a1 a2 a3 a4 a5 v3 v6 : Int32) (p81_8 : Int32) (h81j : hp) : Option (Int32 × hp) :=
  if p81_8 = 0 then (loK g a0 a1 a2 a3 a4 a5 v3 v6 h81j) else (
    (ckT h81j a0 13).bind fun _ =>
    bd2 (fX14_lineAt a0 v3 a3 h81j) fun v63 h64 =>
    (ckT h64 a0 13).bind fun _ =>
    (fX14_faults a0 a1 a2 v63 p81_8 h64).bind fun h67 =>
    some (a3, h67))
theorem lo_st (g : gG3) (a0 : Nat) (a1 a2 a3 a4 a5 : Int32) (h : hp) : fX14_loop_b g a0 a1 a2 a3 a4 a5 h = (gfR h a0 13 31).bind fun v1 => (alI h v1 ((6 * a1) + a2)).bind fun v3 => (ckT h a0 13).bind fun _ => bd2 (fX14_byteAt a0 v3 (a3 + 2) h) fun v6 h7 => (pfI h7 a0 13 17 (a3 + 4)).bind fun h9 => (gfI h9 a0 13 42).bind fun v11 => jn (fun (s53_0 : Int32) (h53j : hp) => (jn (fun (p81_8 : Int32) (h81j : hp) => (loH g a0 a1 a2 a3 a4 a5 v3 v6 p81_8 h81j : Option (Int32 × hp))) fun k81 => if s53_0 = 0 then ((gfI h53j a0 13 42).bind fun v69 => if v69 = 0 then ((gfR h53j a0 13 0).bind fun v71 => (alI h53j v71 8).bind fun v73 => if v73 = 4 then (k81 s53_0 h53j) else (k81 2 h53j)) else (k81 s53_0 h53j)) else (k81 s53_0 h53j) : Option (Int32 × hp))) fun k53 => if v11 = 0 then ((ckT h9 a0 13).bind fun _ => bd2 (fX14_worksOut a0 v3 8 h9) fun v76 h77 => k53 v76 h77) else (k53 0 h9) := rfl
theorem lo_k (g : gG3) {h : hp} {k n m p b q : Nat} {L : List Int32} {blk : Bool} {t o : TY (m + 1)} (a1 a2 a4 a5 v6 : Int32) (T : TX h k L) (hB : HB L p b) (hm : m ≤ 3) (hb : pBody (pAll L n) (m + 1) blk b = .inl ((t, o), q)) : ∃ e0 las oth, bdQ L n m b q blk t o e0 las oth ∧ loK g 165 a1 a2 (iN p) a4 a5 (iN k) v6 h = loC g 165 a1 a2 (iN p) a4 a5 (iN k) v6 (iN b) (iN e0) (b2 oth) (iN las) h := by
  have w := T.1
  have len := T.2.2.1
  have hbl := hB.2.2.1
  obtain ⟨e0, k1, k2, k3, k4, k5⟩ := body_i (by omega) hb
  obtain ⟨y1, y2⟩ := here_lt k4 (by decide)
  have l1 : e0 + 1 < L.length := by omega
  have st : ∀ v, hereL L (e0 + 1) = v → (v = 47 ∨ v = 58) → loK g 165 a1 a2 (iN p) a4 a5 (iN k) v6 h = (jn (fun (s142_0 : Int32) (h142j : hp) => (jn (fun (s164_0 : Int32) (h164j : hp) => (loC g 165 a1 a2 (iN p) a4 a5 (iN k) v6 (iN b) (iN e0) s142_0 s164_0 h164j : Option (Int32 × hp))) fun k164 => if s142_0 = 0 then (k164 (iN e0) h142j) else ((ckT h142j 165 13).bind fun _ => bd2 (fX14_endOf 165 (iN k) (iN (e0 + 3)) h142j) fun v59 h60 => k164 v59 h60) : Option (Int32 × hp))) fun k142 => if v = 58 then (k142 1 h) else (k142 0 h)) := by
    intro v hv hv2
    unfold loK
    rw [ckM w, Option.bind_some, closes_e T hB, bd2_s, ckM w, Option.bind_some, end_e2 T (by omega) hbl k1 k3 (by rw [hv]; exact hv2), bd2_s, ckM w, Option.bind_some, i_succ, byte_e T l1, bd2_s, ← hereL_in l1, hv, show iN e0 + 3 = iN (e0 + 3) from i_add _ 3]
  rcases k5 with ⟨u1, u2, u3⟩ | ⟨u1, e1, u2, u3, u4, u5, u6, u7⟩
  · refine ⟨e0, e0, false, ⟨k1, y1, u3, ?_⟩, ?_⟩
    · rw [if_neg (by decide)]; exact ⟨u2, rfl⟩
    · rw [st 47 u1 (.inl rfl), jn_e, if_neg (by decide)]; (try dsimp only); rw [jn_e, if_pos rfl]
      all_goals rfl
  · refine ⟨e0, e1, true, ⟨k1, y1, u7, ?_⟩, ?_⟩
    · rw [if_pos rfl]; exact u2
    · rw [st 58 u1 (.inr rfl), jn_e, if_pos rfl]; (try dsimp only); rw [jn_e, if_neg (by decide)]; (try dsimp only); rw [ckM w, Option.bind_some, end_e2 T (by omega) (by omega) u2 u4 (.inl u5), bd2_s]
      all_goals rfl
/-- the other part of a loop -/
theorem loE_t {d m f : Nat} (A : RTn d m f) {h : hp} {tp : Tp} {lim : Nat} {fr : Fr} {c : List Nat} {ol lp : Nat} {trn : Option Nat} {dp : Nat} {j b q n e0 las ln was : Nat} {bb : Option Nat} {x : List Int32 × Option Nat × TY 5} {blk oth : Bool} {t o : TY (m + 1)} {R : Ot} (s : Int32) (w : WF h) (l42 : hI h 165 42 = b2 true) (hd : dp + d = 8) (Ro : RoQ h tp lim fr c ol lp trn true dp R) (hR : ∀ σ', R = .inl σ' → σ'.2.1 = was) (C : okC tp c) (hj : j < c.length) (hx : tp (c.getD j 0) = some x) (B : bdQ x.1 n m b q blk t o e0 las oth) (hm : m ≤ 3) (hb : blk = true → bb ≠ none) (b4 : ∀ b, bb = some b → b < 4) (ho : ol + 1 + m ≤ 5 * dp + 5) (hl : lp ≤ ol) (hc : was ≤ 3) : PCr (loE (G3 f) 165 (iN fr.length) (iN j) (bjE j bb) (oB bb) (iN e0) (iN was) (iN ln) (b2 oth) (iN las) s h) h tp lim fr c ol lp trn true dp (bO R fun σ1 => bO (wTr true true lim (wE true true lim tp d) (m + 1) o (preF fr, c, j, bb, trn) σ1) fun σ2 => if σ2.2.1 = was then .inl σ2 else ftW (preF fr, c, j, bb, trn) σ2 ln 3) q := by
  obtain ⟨B1, B2, B3, B4⟩ := B
  subst B3
  unfold loE
  rw [jn_e]
  cases R with
  | inr e' =>
    have r : RFt h ol e' := Ro
    have fin : PCr (some (iN las + 3, h)) h tp lim fr c ol lp trn true dp (.inr e') (las + 3) := ⟨_, _, rfl, FM.rf _ _, Ro, fun _ z => by cases z⟩
    cases oth with
    | false => rw [if_pos (show b2 false = 0 by decide)]; exact fin
    | true => rw [if_neg (show ¬ b2 true = 0 by decide), gM w, Option.bind_some, r.1, if_neg (by decide)]; exact fin
  | inl σ1 =>
    have H : RX h tp lim fr c ol lp trn true dp σ1 := Ro
    have e1 := hR σ1 rfl
    rw [bO_l]
    cases oth with
    | false =>
      rw [if_neg (by decide)] at B4
      rw [if_pos (show b2 false = 0 by decide), B4.1]
      have ez : (bO (wTr true true lim (wE true true lim tp d) (m + 1) (tyN (m + 1)) (preF fr, c, j, bb, trn) σ1) fun σ2 => if σ2.2.1 = was then .inl σ2 else ftW (preF fr, c, j, bb, trn) σ2 ln 3) = .inl σ1 := by
        show (if σ1.2.1 = was then (.inl σ1 : Ot) else ftW (preF fr, c, j, bb, trn) σ1 ln 3) = _
        rw [if_pos e1]
      rw [ez]
      exact ⟨_, _, rfl, FM.rf _ _, H, fun _ _ => by rw [B4.2]; exact i_add _ 3⟩
    | true =>
      rw [if_pos rfl] at B4
      obtain ⟨h8, e8, f8, v8, o8⟩ := A h tp lim fr c ol lp trn true dp σ1 j bb x n (e0 + 3) las blk o hd H C hj hx B4 (by omega) (by omega) hb b4 ho hl
      have w8 := f8.wf w
      obtain ⟨h9, e9, f9, o9, _⟩ := ea_e w8 (by rw [f8.lk]; exact l42) o8 C hj bb ln hc
      rw [if_neg (show ¬ b2 true = 0 by decide), gM w, Option.bind_some, H.fl, if_pos rfl, gM w, Option.bind_some, l42, jn_e, if_neg (show ¬ b2 true = 0 by decide)]; (try dsimp only); rw [ckM w, Option.bind_some, show iN e0 + 3 = iN (e0 + 3) from i_add _ 3]; (try dsimp only); rw [e8, Option.bind_some]; (try dsimp only); rw [ckM w8, Option.bind_some, e9, Option.bind_some]
      refine ⟨_, _, rfl, f8.tr f9, ?_, fun _ _ => i_add _ 3⟩
      have ef : (fun σ' : St => if true = true ∧ σ'.2.1 ≠ was then ftW (preF fr, c, j, bb, trn) σ' ln 3 else (.inl σ' : Ot)) = fun σ2 => if σ2.2.1 = was then .inl σ2 else ftW (preF fr, c, j, bb, trn) σ2 ln 3 := by
        funext σ'
        by_cases z : σ'.2.1 = was
        · rw [if_neg (fun q => q.2 z), if_pos z]
        · rw [if_pos ⟨rfl, z⟩, if_neg z]
      rw [ef] at o9
      exact o9
theorem lo_r {d m f : Nat} (A : RTn d m (f + 1)) (A2 : RA d m f) {h : hp} {tp : Tp} {lim : Nat} {fr : Fr} {c : List Nat} {ol lp : Nat} {trn : Option Nat} {lk : Bool} {dp : Nat} {σ : St} {j p b q n : Nat} {bb : Option Nat} {x : List Int32 × Option Nat × TY 5} {blk : Bool} {pc : PD (TY (m + 1))} (hd : dp + d = 8) (H : RX h tp lim fr c ol lp trn lk dp σ) (C : okC tp c) (hj : j < c.length) (hx : tp (c.getD j 0) = some x) (D : HdP x.1 p b pc) (k3 : pc.1 = 3) (B : pBody (pAll x.1 n) (m + 1) blk b = .inl ((pc.2.2.2.2.2.2.1, pc.2.2.2.2.2.2.2), q)) (hm : m ≤ 3) (hb : blk = true → bb ≠ none) (b4 : ∀ b, bb = some b → b < 4) (ho : ol + 1 + m ≤ 5 * dp + 5) (hl : lp ≤ ol) : PCr (fX14_loop_b (G3 (f + 1)) 165 (iN fr.length) (iN j) (iN p) (bjE j bb) (oB bb) h) h tp lim fr c ol lp trn lk dp (if lk = true then bO (wTr lk lk lim (wE lk lk lim tp d) (m + 1) pc.2.2.2.2.2.2.1 (preF fr, c, j, bb, trn) σ) fun σ1 => if σ1.2.1 = σ.2.1 then (bO (wTr lk lk lim (wE lk lk lim tp d) (m + 1) pc.2.2.2.2.2.2.2 (preF fr, c, j, bb, trn) σ1) fun σ2 => if σ2.2.1 = σ.2.1 then .inl σ2 else ftW (preF fr, c, j, bb, trn) σ2 pc.2.1 3) else ftW (preF fr, c, j, bb, trn) σ1 pc.2.1 3 else if (evE σ.1 trn pc.2.2.2.2.1).1 ≠ 0 then ftW (preF fr, c, j, bb, trn) σ pc.2.1 (evE σ.1 trn pc.2.2.2.2.1).1 else if (evE σ.1 trn pc.2.2.2.2.1).2.1 ≠ 4 then ftW (preF fr, c, j, bb, trn) σ pc.2.1 2 else if (evE σ.1 trn pc.2.2.2.2.1).2.2.2.2.1 = 0 then wTr lk lk lim (wE lk lk lim tp d) (m + 1) pc.2.2.2.2.2.2.2 (preF fr, c, j, bb, trn) σ else rnds (fun i τ => bO (wTr lk lk lim (wE lk lk lim tp d) (m + 1) pc.2.2.2.2.2.2.1 (preF fr, c, j, bb, some i) (upV τ.1 pc.2.2.1.toNatClampNeg (vI ((evE σ.1 trn pc.2.2.2.2.1).2.2.2.2.2 i)), τ.2)) fun τ' => .inl (τ.1, τ'.2)) (evE σ.1 trn pc.2.2.2.2.1).2.2.2.2.1 0 σ) q := by
  obtain ⟨_, ⟨v, hv, hc, sg⟩, he⟩ := hd3 D k3
  have eln := D.2.1
  have hB := D.1
  obtain ⟨q1, q2, q3⟩ := hdE hB
  obtain ⟨c1, c2⟩ := here_s hc (by omega)
  have w := H.w
  have sv : pc.2.2.1.toNatClampNeg = v := by rw [sg]; exact i_clamp (by omega)
  have w5 : WF (pI h 165 17 (iN (p + 4))) := w
  have f5 : FM Psc h (pI h 165 17 (iN (p + 4))) := psc_17 _
  have F5 : FM (PRn fr.length ol lp) h (pI h 165 17 (iN (p + 4))) := f5.sub fun _ _ q => q
  have H5 := H.sc C f5 fun _ _ q => q
  have hbl := hB.2.2.1
  rw [lo_st, H.hd C hj, ckM w, Option.bind_some, show iN p + 2 = iN (p + 2) from i_add _ 2, byte_e (H.tx C hj hx).1 c1, bd2_s, c2, show iN p + 4 = iN (p + 4) from i_add _ 4, pM w, Option.bind_some, gM w5, Option.bind_some, H5.lk, jn_e, eln, sv]
  have vs : iN (97 + v) - 97 = iN v := iN_sub (b := 97) (by omega)
  cases lk with
  | true =>
    obtain ⟨e0, las, oth, Q, ek⟩ := lo_k (G3 (f + 1)) (iN fr.length) (iN j) (bjE j bb) (oB bb) (iN (97 + v)) (H5.tx C hj hx).1 hB hm B
    obtain ⟨h6, e6, f6, v6, o6⟩ := A _ tp lim fr c ol lp trn true dp σ j bb x n b e0 blk pc.2.2.2.2.2.2.1 hd H5 C hj hx Q.1 hbl (by omega) hb b4 ho hl
    have w6 := f6.wf w5
    obtain ⟨h7, e7, f7, o7, _⟩ := ea_e w6 (by rw [f6.lk]; exact H5.lk) o6 C hj bb (lnAt x.1 p) H5.rn.cx.2
    have w7 := f7.wf w6
    rw [if_neg (show ¬ b2 true = 0 by decide), if_pos (show true = true from rfl)]
    dsimp only
    rw [jn_e, if_pos (show (0 : Int32) = 0 from rfl), gM w5, Option.bind_some, H5.lk, if_neg (show ¬ b2 true = 0 by decide)]
    dsimp only
    unfold loH
    rw [if_pos rfl, ek]
    unfold loC
    rw [gM w5, Option.bind_some, H5.rn.cx.1, ckM w5, Option.bind_some, line_e (H5.tx C hj hx).1 (Nat.le_of_lt q3), bd2_s, gM w5, Option.bind_some, H5.lk, jn_e, jn_e, if_neg (show ¬ b2 true = 0 by decide)]
    dsimp only
    unfold loD
    rw [gM w5, Option.bind_some, H5.lk, jn_e, if_neg (show ¬ b2 true = 0 by decide)]; (try dsimp only); rw [ckM w5, Option.bind_some]; (try dsimp only); rw [e6, Option.bind_some]; (try dsimp only); rw [ckM w6, Option.bind_some, e7, Option.bind_some]
    refine PCr.pre ((F5.tr f6).tr f7) ?_
    have K := loE_t A (h := h7) (was := σ.2.1) (ln := lnAt x.1 p) 0 w7 (by rw [f7.lk, f6.lk]; exact H5.lk) hd o7 (fun σ' z => by
      cases hR : wTr true true lim (wE true true lim tp d) (m + 1) pc.2.2.2.2.2.2.1 (preF fr, c, j, bb, trn) σ with
      | inl σ1 =>
        rw [hR, bO_l] at z
        by_cases y : σ1.2.1 = σ.2.1
        · rw [if_neg (fun q => q.2 y)] at z
          rw [← Sum.inl.inj z]; exact y
        · rw [if_pos ⟨rfl, y⟩] at z; cases z
      | inr e' => rw [hR] at z; cases z) C hj hx Q hm hb b4 ho hl H5.rn.cx.2
    have eR : (bO (bO (wTr true true lim (wE true true lim tp d) (m + 1) pc.2.2.2.2.2.2.1 (preF fr, c, j, bb, trn) σ) fun σ' => if true = true ∧ σ'.2.1 ≠ σ.2.1 then ftW (preF fr, c, j, bb, trn) σ' (lnAt x.1 p) 3 else .inl σ') fun σ1 => bO (wTr true true lim (wE true true lim tp d) (m + 1) pc.2.2.2.2.2.2.2 (preF fr, c, j, bb, trn) σ1) fun σ2 => if σ2.2.1 = σ.2.1 then .inl σ2 else ftW (preF fr, c, j, bb, trn) σ2 (lnAt x.1 p) 3) = bO (wTr true true lim (wE true true lim tp d) (m + 1) pc.2.2.2.2.2.2.1 (preF fr, c, j, bb, trn) σ) fun σ1 => if σ1.2.1 = σ.2.1 then (bO (wTr true true lim (wE true true lim tp d) (m + 1) pc.2.2.2.2.2.2.2 (preF fr, c, j, bb, trn) σ1) fun σ2 => if σ2.2.1 = σ.2.1 then .inl σ2 else ftW (preF fr, c, j, bb, trn) σ2 (lnAt x.1 p) 3) else ftW (preF fr, c, j, bb, trn) σ1 (lnAt x.1 p) 3 := by
      cases wTr true true lim (wE true true lim tp d) (m + 1) pc.2.2.2.2.2.2.1 (preF fr, c, j, bb, trn) σ with
      | inl σ1 =>
        rw [bO_l, bO_l]
        by_cases y : σ1.2.1 = σ.2.1
        · rw [if_neg (fun q => q.2 y), if_pos y, bO_l]
        · rw [if_pos ⟨rfl, y⟩, if_neg y]; rfl
      | inr e' => rfl
    rw [eR] at K
    exact K
  | false =>
    obtain ⟨h6, e6, f6, H6, r6⟩ := H5.wo C hj hx he q1 q2 (by rw [hI_pI, if_pos ⟨rfl, rfl⟩])
    have lt := evE_s σ.1 trn pc.2.2.2.2.1
    have F6 := F5.tr f6
    have w6 := H6.w
    rw [if_pos (show b2 false = 0 by decide), if_neg (show ¬ false = true by decide), ckM w5, Option.bind_some, e6, bd2_s]
    dsimp only
    rw [jn_e]
    refine PCr.pre F6 ?_
    have flt : ∀ s : Nat, s < 10 → s ≠ 0 → PCr (loH (G3 (f + 1)) 165 (iN fr.length) (iN j) (iN p) (bjE j bb) (oB bb) (iN (c.getD j 0)) (iN (97 + v)) (iN s) h6) h6 tp lim fr c ol lp trn false dp (ftW (preF fr, c, j, bb, trn) σ (lnAt x.1 p) s) q := by
      intro s s10 s0
      obtain ⟨h9, e9, f9, v9, r9, w9, T9, l9⟩ := H6.fc C hj hx (Nat.le_of_lt q3) bb s
      rw [ckM w6, Option.bind_some, line_e (H6.tx C hj hx).1 (Nat.le_of_lt q3), bd2_s, ckM w6, Option.bind_some] at e9
      unfold loH
      rw [if_neg (fun q => s0 ((fltz (by omega)).mp q)), ckM w6, Option.bind_some, line_e (H6.tx C hj hx).1 (Nat.le_of_lt q3), bd2_s, ckM w6, Option.bind_some, e9, Option.bind_some]
      exact ⟨_, _, rfl, f9, r9, fun _ q => by cases q⟩
    by_cases z : (evE σ.1 trn pc.2.2.2.2.1).1 = 0
    · obtain ⟨M6, g6⟩ := r6 z
      have k8 : hI h6 166 8 = iN (evE σ.1 trn pc.2.2.2.2.1).2.1 := M6.1
      have k84 : (evE σ.1 trn pc.2.2.2.2.1).2.1 ≤ 4 := M6.2.1
      rw [z, if_neg (show ¬ ((0 : Nat) ≠ 0) from fun q => q rfl), if_pos (show iN 0 = 0 from rfl), gM w6, Option.bind_some, H6.lk, if_pos (show b2 false = 0 by decide), MR0 w6, Option.bind_some, show alI h6 166 8 = some (hI h6 166 8) from ML166 w6 (by decide), Option.bind_some, k8]
      by_cases y : (evE σ.1 trn pc.2.2.2.2.1).2.1 = 4
      · rw [if_neg (show ¬ ((evE σ.1 trn pc.2.2.2.2.1).2.1 ≠ 4) from fun q => q y), if_pos (show iN (evE σ.1 trn pc.2.2.2.2.1).2.1 = 4 by rw [y]; rfl)]
        dsimp only
        obtain ⟨e0, las, oth, Q, ek⟩ := lo_k (G3 (f + 1)) (iN fr.length) (iN j) (bjE j bb) (oB bb) (iN (97 + v)) (H6.tx C hj hx).1 hB hm B
        obtain ⟨h7, e7, f7, o7⟩ := turns_r A2 hd H6 C hj hx Q.1 hbl (by omega) hb b4 ho hl hv M6 g6 y
        have w7 := f7.wf w6
        have l7 : hI h7 165 42 = b2 false := by rw [f7.lk]; exact H6.lk
        obtain ⟨n6, _⟩ := g6.2.2.2.2 y
        have k168 : hI h6 168 8 = iN (evE σ.1 trn pc.2.2.2.2.1).2.2.2.2.1 := (M6.2.2.2.2 (by omega)).1
        have stD : ∀ s : Int32, loD (G3 (f + 1)) 165 (iN fr.length) (iN j) (bjE j bb) (oB bb) (iN (97 + v)) (iN b) (iN e0) (iN σ.2.1) (iN (lnAt x.1 p)) (b2 oth) (iN las) s h6 = loE (G3 (f + 1)) 165 (iN fr.length) (iN j) (bjE j bb) (oB bb) (iN e0) (iN σ.2.1) (iN (lnAt x.1 p)) (b2 oth) (iN las) s h7 := by
          intro s
          unfold loD
          rw [gM w6, Option.bind_some, H6.lk, jn_e, if_pos (show b2 false = 0 by decide)]; (try dsimp only); rw [ckM w6, Option.bind_some, vs, e7, Option.bind_some]
        unfold loH
        rw [if_pos (show iN 0 = 0 from rfl), ek]
        unfold loC
        rw [gM w6, Option.bind_some, H6.rn.cx.1, ckM w6, Option.bind_some, line_e (H6.tx C hj hx).1 (Nat.le_of_lt q3), bd2_s, gM w6, Option.bind_some, H6.lk, jn_e, jn_e, if_pos (show b2 false = 0 by decide)]; (try dsimp only); rw [MR2 w6, Option.bind_some, show alI h6 168 8 = some (hI h6 168 8) from ML168 w6 (by decide), Option.bind_some, k168]
        refine PCr.pre f7 ?_
        obtain ⟨B1, B2, B3, B4⟩ := Q
        subst B3
        by_cases u : (evE σ.1 trn pc.2.2.2.2.1).2.2.2.2.1 = 0
        · rw [u] at o7
          have H7 : RX h7 tp lim fr c ol lp trn false dp σ := o7
          rw [if_pos (show iN (evE σ.1 trn pc.2.2.2.2.1).2.2.2.2.1 = 0 by rw [u]; rfl), if_pos u, stD]
          unfold loE
          rw [jn_e]
          cases oth with
          | false =>
            rw [if_neg (by decide)] at B4
            rw [if_pos (show b2 false = 0 by decide), B4.1]
            exact ⟨_, _, rfl, FM.rf _ _, H7, fun _ _ => i_add _ 3⟩
          | true =>
            rw [if_pos rfl] at B4
            obtain ⟨h8, e8, f8, v8, o8⟩ := A h7 tp lim fr c ol lp trn false dp σ j bb x n (e0 + 3) las blk pc.2.2.2.2.2.2.2 hd H7 C hj hx B4 (by omega) (by omega) hb b4 ho hl
            have w8 := f8.wf w7
            have l8 : hI h8 165 42 = b2 false := by rw [f8.lk]; exact l7
            have e9 : fX14_endsAsAhead 165 (iN fr.length) (iN j) (iN (lnAt x.1 p)) (iN σ.2.1) h8 = some h8 := by
              unfold fX14_endsAsAhead
              rw [gM w8, Option.bind_some, l8, if_pos (show b2 false = 0 by decide)]
            rw [if_neg (show ¬ b2 true = 0 by decide), gM w7, Option.bind_some, H7.fl, if_pos rfl, gM w7, Option.bind_some, l7, jn_e, if_pos (show b2 false = 0 by decide), if_neg (by decide)]; (try dsimp only); rw [ckM w7, Option.bind_some, show iN e0 + 3 = iN (e0 + 3) from i_add _ 3]; (try dsimp only); rw [e8, Option.bind_some]; (try dsimp only); rw [ckM w8, Option.bind_some, e9, Option.bind_some]
            exact ⟨_, _, rfl, f8, o8, fun _ _ => i_add _ 3⟩
        · rw [if_neg (fun q => u ((fltz (by omega)).mp q)), if_neg u, stD]
          have fin : loE (G3 (f + 1)) 165 (iN fr.length) (iN j) (bjE j bb) (oB bb) (iN e0) (iN σ.2.1) (iN (lnAt x.1 p)) (b2 oth) (iN las) 0 h7 = some (iN las + 3, h7) := by
            unfold loE
            rw [jn_e]
            cases oth with
            | false => rw [if_pos (show b2 false = 0 by decide)]
            | true =>
              rw [if_neg (show ¬ b2 true = 0 by decide), gM w7, Option.bind_some]
              by_cases k43 : hI h7 165 43 = 0
              · rw [if_pos k43, gM w7, Option.bind_some, l7, jn_e, if_pos (show b2 false = 0 by decide), if_pos rfl]
              · rw [if_neg k43]
          rw [fin]
          exact ⟨_, _, rfl, FM.rf _ _, o7, fun _ _ => i_add _ 3⟩
      · rw [if_pos (show (evE σ.1 trn pc.2.2.2.2.1).2.1 ≠ 4 from y), if_neg (show ¬ iN (evE σ.1 trn pc.2.2.2.2.1).2.1 = 4 from fun q => y ((i_eq (b := 4) (by omega) (by decide)).mp q))]
        dsimp only
        exact flt 2 (by decide) (by decide)
    · have nz : ¬ iN (evE σ.1 trn pc.2.2.2.2.1).1 = 0 := fun q => z ((fltz (by omega)).mp q)
      rw [if_neg nz, if_pos (show (evE σ.1 trn pc.2.2.2.2.1).1 ≠ 0 from z)]
      dsimp only
      exact flt _ (by omega) z

/-! the call filter: the reference, the call -/
set_option maxHeartbeats 400000
def PFm (k x j : Nat) : Prop := (x = 165 ∧ ((10 ≤ j ∧ j ≤ 16) ∨ j = 47)) ∨ sP 8 x j ∨ sP k x j ∨ (189 ≤ x ∧ x ≤ 191)
theorem ref_fil {h : hp} {L : List Int32} {k : Nat} {V : vT} (w : WF h) (z : ZH h) (t0 : hI h 165 10 = iN L.length) (hln : L.length ≤ 160) (tx : ∀ i, i < L.length → hI h 172 i = L.getD i 0) (hb : ∀ i, i < L.length → 1 ≤ (L.getD i 0).toInt ∧ (L.getD i 0).toInt ≤ 127) (hk : k < 8) (M : MV h k V) (g : gV V) :
    ∃ a h1, fX14_filter 165 (iN k) h = some (a, h1) ∧ FG (PFm k) h h1 ∧ ZH h1 ∧ hN h1 = hN h ∧ hL h1 = hL h ∧ WF h1 ∧ hI h1 165 10 = 0 ∧
    ((∃ fs, OKf L fs ∧ (((apF fs V).1 = 0 ∧ a = iN (apF fs V).2.1 ∧ MV h1 k (apF fs V).2 ∧ ∀ x j, (x = 165 ∧ j = 47) ∨ (189 ≤ x ∧ x ≤ 191) → hI h1 x j = hI h x j) ∨ ((apF fs V).1 ≠ 0 ∧ a = -20 ∧ MV h1 k V ∧ hI h1 165 47 = iN 1 ∧ hI h1 189 0 = -1 ∧ hI h1 190 0 = 0 ∧ hI h1 191 0 = iN (apF fs V).1))) ∨
     (∃ f, BDf L f ∧ a = -100 - iN f ∧ MV h1 k V ∧ ∀ x j, (x = 165 ∧ j = 47) ∨ (189 ≤ x ∧ x ≤ 191) → hI h1 x j = hI h x j)) := by
  have hn := w.2.2
  obtain ⟨X0, m0, f0, n0, l0⟩ := hRd_f (S := 172) (off := 0) w ⟨160, T172 w, by omega, by decide⟩ (by decide) hln (fun i hi => by rw [Nat.zero_add]; exact tx i hi) hb
  have z0 := hRd_z z w 172 (iN 0) (iN L.length)
  have w0 := X0.1
  have fA : FS (fun x j => x = 165 ∧ j = 10) (hRd h 172 (iN 0) (iN L.length)) (pI (hRd h 172 (iN 0) (iN L.length)) 165 10 0) := FS.pI ⟨rfl, rfl⟩
  have wA : WF (pI (hRd h 172 (iN 0) (iN L.length)) 165 10 0) := w0
  have XA : MX (pI (hRd h 172 (iN 0) (iN L.length)) 165 10 0) 172 0 L := by
    obtain ⟨a, x1, x2, x3, x4, x5, x6, x7, x8⟩ := X0
    exact ⟨a, x1, by rw [hI_pI, if_neg (by decide)]; exact x2, by rw [hI_pI, if_neg (by decide)]; exact x3, x4, x5, fun i hi => by rw [hI_pI, if_neg (by omega)]; exact x6 i hi, x7, x8⟩
  have mA : MP (pI (hRd h 172 (iN 0) (iN L.length)) 165 10 0) 0 0 := ⟨by rw [hI_pI, if_neg (by decide)]; exact m0.1, by rw [hI_pI, if_neg (by decide)]; exact m0.2.1, by rw [hI_pI, if_neg (by decide)]; exact m0.2.2⟩
  have FA : FG (PFm k) h (pI (hRd h 172 (iN 0) (iN L.length)) 165 10 0) := (f0.up fun x j q => .inl ⟨q.1, .inl (by omega)⟩).tr (fA.fg.up fun x j q => .inl ⟨q.1, .inl (by omega)⟩)
  have zA : ZH (pI (hRd h 172 (iN 0) (iN L.length)) 165 10 0) := FS.zh fA z0 (fun x j q => by rw [n0]; omega)
  have eA : ∀ x j, ¬ (x = 165 ∧ 10 ≤ j ∧ j ≤ 16) → x < 204 → hI (pI (hRd h 172 (iN 0) (iN L.length)) 165 10 0) x j = hI h x j := fun x j q hx => by rw [hI_pI, if_neg (by omega), (f0.2.2.2 x j (by omega) (fun z => by omega)).1]
  have MA : MV (pI (hRd h 172 (iN 0) (iN L.length)) 165 10 0) k V := (M.fg w f0 (fun x j q z => by unfold sP at q; omega)).fr fA (fun x j q z => by unfold sP at q; omega)
  have nA : hN (pI (hRd h 172 (iN 0) (iN L.length)) 165 10 0) = hN h := n0
  have lA : hL (pI (hRd h 172 (iN 0) (iN L.length)) 165 10 0) = hL h := l0
  have st : fX14_filter 165 (iN k) h = bd2 (fX14_areFiltersRead 165 (pI (hRd h 172 (iN 0) (iN L.length)) 165 10 0)) fun v14 h15 => if v14 = 0 then ((gfI h15 165 13 15).bind fun v36 => some (((-100) - v36), h15)) else ((ckT h15 165 13).bind fun _ => (fX14_copies 165 (iN k) 8 h15).bind fun h18 => (ckT h18 165 13).bind fun _ => bd2 (fX14_filtersOne 165 h18) fun v21 h22 => if v21 = 0 then ((ckT h22 165 13).bind fun _ => (fX14_copies 165 8 (iN k) h22).bind fun h25 => (gfR h25 165 13 0).bind fun v27 => (alI h25 v27 (iN k)).bind fun v29 => some (v29, h25)) else ((pfI h22 165 13 47 0).bind fun h31 => (ckT h31 165 13).bind fun _ => (fX14_links 165 (-1) 0 v21 h31).bind fun h34 => some ((-20), h34))) := by
    have e := mIsV (iN k) h
    rw [if_pos (by rw [i_toInt (by omega)]; omega)] at e
    unfold fX14_filter
    rw [e, bd2_s, if_neg z10, MR7 w, Option.bind_some, gM w, Option.bind_some, t0, ckM w, Option.bind_some, show fX14_reads 165 172 0 (iN L.length) h = _ from reads_e w 172 (iN 0) (iN L.length), Option.bind_some, pM w0, Option.bind_some, ckM wA, Option.bind_some]
  rw [st]
  rcases ar_m XA mA with ⟨fs, hB, u1, u2, u3, u4⟩ | ⟨f, hB, u1, u2, u3, u4, u5⟩
  · have XB := XA.fs u3
    have wB := XB.1
    have FB : FG (PFm k) h hB := FA.tr (u3.fg.up fun x j q => by unfold PM at q; exact .inl ⟨q.1, .inl (by omega)⟩)
    have zB : ZH hB := FS.zh u3 zA (fun x j q => by unfold PM at q; rw [nA]; omega)
    have MB' : MV hB k V := MA.fr u3 (fun x j q z => by unfold sP at q; unfold PM at z; omega)
    obtain ⟨hC, e3, M3, f3⟩ := mCopies wB (s := k) (t := 8) (by omega) (by decide) MB'
    have XC := XB.sl f3 (fun x j q => .inr q)
    have wC := XC.1
    have FC : FG (PFm k) h hC := FB.tr (f3.fg.up fun x j q => .inr (.inl q))
    have zC : ZH hC := FS.zh f3 zB (fun x j q => by unfold sP at q; rw [u3.1, nA]; omega)
    have MC' : MV hC k V := MB'.fr f3 (fun x j q z => by unfold sP at q z; omega)
    have XD := XC.fs (MS.at (iN 0))
    have mD : MP (pI hC 165 14 (iN 0)) 0 0 := (u4.sl f3 (fun x j q => q)).at 0
    have wD := XD.1
    -- a filter stands at the beginning
    have first : hereL L 0 ≠ 124 ∧ 0 < L.length := by
      have u1' := u1
      unfold pFils at u1'
      obtain ⟨f, p1, s1, e⟩ := bnd_i u1'
      have ps := fil_pos (Nat.zero_le _) s1
      obtain ⟨_, _, y2, _, n, en, fe, _⟩ := fil_i (Nat.zero_le _) s1
      refine ⟨fun q => ?_, by omega⟩
      have : n = 0 := by
        rw [en]
        show (if isL (hereL L 0) = true then runL L 159 1 + 1 else 0) = 0
        rw [q, if_neg (by decide)]
      rw [this] at fe
      have e0 : wordL L 0 0 = [] := rfl
      rw [e0, fnd_n0] at fe
      cases fe
    obtain ⟨hE, e4, f4, r4⟩ := fo_l 161 0 0 FU (pI hC 165 14 (iN 0)) V fs XD mD first.2 (by rw [if_neg first.1]) u1 (M3.fr (MS.at (iN 0)) (fun x j q z => by unfold sP at q; unfold PM at z; omega)) g (FU_pos _ (by decide))
    have wE := f4.wf wD
    have FE : FG (PFm k) h hE := (FC.tr ((MS.at (h := hC) (iN 0)).fg.up fun x j q => by unfold PM at q; exact .inl ⟨q.1, .inl (by omega)⟩)).tr (f4.fg.up fun x j q => by
      unfold PMs PM at q
      rcases q with q | q
      · exact .inl ⟨q.1, .inl (by omega)⟩
      · exact .inr (.inl q))
    have zD : ZH (pI hC 165 14 (iN 0)) := FS.zh (MS.at (h := hC) (iN 0)) zC (fun x j q => by unfold PM at q; rw [f3.1, u3.1, nA]; omega)
    have nD : hN (pI hC 165 14 (iN 0)) = hN h := by show hN hC = _; rw [f3.1, u3.1, nA]
    have lD : hL (pI hC 165 14 (iN 0)) = hL h := by show hL hC = _; rw [f3.2.1, u3.2.1, lA]
    have zE : ZH hE := FS.zh f4 zD (fun x j q => by unfold PMs PM sP at q; rw [nD]; omega)
    have nE : hN hE = hN h := by rw [f4.1, nD]
    have lE : hL hE = hL h := by rw [f4.2.1, lD]
    have eE : ∀ x j, ¬ (x = 165 ∧ 10 ≤ j ∧ j ≤ 16) → ¬ sP 8 x j → x < 204 → hI hE x j = hI h x j := fun x j q q2 hx => by
      rw [(f4.2.2.2.2 x j (fun z => by
        unfold PMs PM at z
        rcases z with z | z
        · omega
        · exact q2 z)).1, hI_pI, if_neg (by omega), (f3.2.2.2.2 x j q2).1, (u3.2.2.2.2 x j (fun z => by unfold PM at z; omega)).1, eA x j q hx]
    have t10 : hI hE 165 10 = 0 := by
      rw [(f4.2.2.2.2 165 10 (fun z => by unfold PMs PM sP at z; omega)).1, hI_pI, if_neg (by decide), (f3.2.2.2.2 165 10 (fun z => by unfold sP at z; omega)).1, (u3.2.2.2.2 165 10 (fun z => by unfold PM at z; omega)).1, hI_pI, if_pos ⟨rfl, rfl⟩]
    have ME : MV hE k V := (MC'.fr (MS.at (h := hC) (iN 0)) (fun x j q z => by unfold sP at q; unfold PM at z; omega)).fr f4 (fun x j q z => by unfold PMs PM at z; unfold sP at q z; omega)
    have e5 : fX14_filtersOne 165 hC = some (iN (apF fs V).1, hE) := by
      unfold fX14_filtersOne
      rw [show pfI hC 165 13 14 0 = _ from pM wC 14 (iN 0), Option.bind_some, e4, bd2_s]
    have le := apF_le fs V
    rw [u2, bd2_s, if_neg z10, ckM wB, Option.bind_some, show fX14_copies 165 (iN k) 8 hB = _ from e3, Option.bind_some, ckM wC, Option.bind_some, e5, bd2_s]
    by_cases c : (apF fs V).1 = 0
    · obtain ⟨M5, g5⟩ := r4 c
      obtain ⟨hG, e6, M6, f6⟩ := mCopies wE (s := 8) (t := k) (by decide) (by omega) M5
      have wG := f6.wf wE
      rw [if_pos (show iN (apF fs V).1 = 0 by rw [c]; rfl), ckM wE, Option.bind_some, show fX14_copies 165 8 (iN k) hE = _ from e6, Option.bind_some, MR0 wG, Option.bind_some, ML166 wG (by omega), Option.bind_some, M6.1]
      refine ⟨_, hG, rfl, FE.tr (f6.fg.up fun x j q => .inr (.inr (.inl q))), FS.zh f6 zE (fun x j q => by unfold sP at q; rw [nE]; omega), by rw [f6.1, nE], by rw [f6.2.1, lE], wG, by rw [(f6.2.2.2.2 165 10 (fun z => by unfold sP at z; omega)).1]; exact t10, .inl ⟨fs, u1, .inl ⟨c, rfl, M6, fun x j q => ?_⟩⟩⟩
      rw [(f6.2.2.2.2 x j (fun z => by unfold sP at z; omega)).1]
      exact eE x j (by omega) (by unfold sP; omega) (by omega)
    · have w1 : WF (pI hE 165 47 0) := wE
      have w2 : WF (pI (pI hE 165 47 0) 189 0 (-1)) := wE
      have w3 : WF (pI (pI (pI hE 165 47 0) 189 0 (-1)) 190 0 0) := wE
      have w4 : WF (pI (pI (pI (pI hE 165 47 0) 189 0 (-1)) 190 0 0) 191 0 (iN (apF fs V).1)) := wE
      have c1 : hI (pI hE 165 47 0) 165 47 = iN 0 := by rw [hI_pI, if_pos ⟨rfl, rfl⟩]; rfl
      have c2 : hI (pI (pI hE 165 47 0) 189 0 (-1)) 165 47 = iN 0 := by rw [hI_pI, if_neg (by decide)]; exact c1
      have c3 : hI (pI (pI (pI hE 165 47 0) 189 0 (-1)) 190 0 0) 165 47 = iN 0 := by rw [hI_pI, if_neg (by decide)]; exact c2
      have c4 : hI (pI (pI (pI (pI hE 165 47 0) 189 0 (-1)) 190 0 0) 191 0 (iN (apF fs V).1)) 165 47 = iN 0 := by rw [hI_pI, if_neg (by decide)]; exact c3
      have el : fX14_links 165 (-1) 0 (iN (apF fs V).1) (pI hE 165 47 0) = some (pI (pI (pI (pI (pI hE 165 47 0) 189 0 (-1)) 190 0 0) 191 0 (iN (apF fs V).1)) 165 47 (iN 1)) := by
        unfold fX14_links
        rw [MR44 w1, Option.bind_some, gM w1, Option.bind_some, c1, MS189 w1 (by decide), Option.bind_some, MR45 w2, Option.bind_some, gM w2, Option.bind_some, c2, MS190 w2 (by decide), Option.bind_some, MR46 w3, Option.bind_some, gM w3, Option.bind_some, c3, MS191 w3 (by decide), Option.bind_some, gM w4, Option.bind_some, c4, i_succ, pM w4, Option.bind_some]
      have fL : FS (fun x j => (x = 165 ∧ j = 47) ∨ (189 ≤ x ∧ x ≤ 191)) hE (pI (pI (pI (pI (pI hE 165 47 0) 189 0 (-1)) 190 0 0) 191 0 (iN (apF fs V).1)) 165 47 (iN 1)) := ((((FS.pI (.inl ⟨rfl, rfl⟩)).tr (FS.pI (.inr (by omega)))).tr (FS.pI (.inr (by omega)))).tr (FS.pI (.inr (by omega)))).tr (FS.pI (.inl ⟨rfl, rfl⟩))
      rw [if_neg (fun q => c ((fltz (by omega)).mp q)), pM wE, Option.bind_some, ckM w1, Option.bind_some, el, Option.bind_some]
      refine ⟨_, _, rfl, FE.tr (fL.fg.up fun x j q => ?_), FS.zh fL zE (fun x j q => by rw [nE]; omega), by rw [fL.1, nE], by rw [fL.2.1, lE], wE, by rw [(fL.2.2.2.2 165 10 (by omega)).1]; exact t10, .inl ⟨fs, u1, .inr ⟨c, rfl, ME.fr fL (fun x j q z => by unfold sP at q; omega), by rw [hI_pI, if_pos ⟨rfl, rfl⟩], ?_, ?_, ?_⟩⟩⟩
      · rcases q with q | q
        · exact .inl ⟨q.1, .inr q.2⟩
        · exact .inr (.inr (.inr q))
      · rw [hI_pI, if_neg (by decide), hI_pI, if_neg (by decide), hI_pI, if_neg (by decide), hI_pI, if_pos ⟨rfl, rfl⟩]
      · rw [hI_pI, if_neg (by decide), hI_pI, if_neg (by decide), hI_pI, if_pos ⟨rfl, rfl⟩]
      · rw [hI_pI, if_neg (by decide), hI_pI, if_pos ⟨rfl, rfl⟩]
  · have XB := XA.fs u3
    have wB := XB.1
    rw [u2, bd2_s, if_pos rfl, gM wB, Option.bind_some, u4]
    refine ⟨_, hB, rfl, FA.tr (u3.fg.up fun x j q => by unfold PM at q; exact .inl ⟨q.1, .inl (by omega)⟩), FS.zh u3 zA (fun x j q => by unfold PM at q; rw [nA]; omega), by rw [u3.1, nA], by rw [u3.2.1, lA], wB, by rw [(u3.2.2.2.2 165 10 (fun z => by unfold PM at z; omega)).1, hI_pI, if_pos ⟨rfl, rfl⟩], .inr ⟨f, u1, rfl, MA.fr u3 (fun x j q z => by unfold sP at q; unfold PM at z; omega), fun x j q => ?_⟩⟩
    rw [(u3.2.2.2.2 x j (fun z => by unfold PM at z; omega)).1]
    exact eA x j (by omega) (by omega)
def PF (x k : Nat) : Prop := Pv x k ∨ Pt x k ∨ Pz x k ∨ Pw x k
theorem pfc_f {k x j : Nat} (hk : k < 8) (q : PFc k x j) : PF x j := by
  unfold PFc at q
  rcases q with q | q | q | q | q | q | q
  · exact .inr (.inl (.inl q.1))
  · exact .inr (.inr (.inl (.inl (by omega))))
  · exact .inr (.inr (.inl (.inl (by omega))))
  · exact .inl (.inl (by omega))
  · exact .inl (.inl (by omega))
  · exact .inr (.inr (.inr (.inl q)))
  · exact .inr (.inr (.inr (.inr (.inl q))))
theorem pfm_f {k x j : Nat} (hk : k < 8) (q : PFm k x j) : PF x j := by
  unfold PFm at q
  rcases q with ⟨q, q2 | q2⟩ | q | q | q
  · by_cases c : j = 10
    · exact .inr (.inl (.inr (.inr (.inr ⟨q, c⟩))))
    · exact .inr (.inr (.inl (.inr (.inr (.inl ⟨q, .inr (by omega)⟩)))))
  · exact .inr (.inr (.inr (.inr (.inr (.inr (.inr (.inr ⟨q, q2⟩)))))))
  · unfold sP at q
    rcases q with q | q
    · exact .inr (.inr (.inl (.inr (.inr (.inr (.inl (by omega)))))))
    · exact .inr (.inr (.inl (.inr (.inr (.inr (.inr (by omega)))))))
  · exact .inl (sP_Pv hk q)
  · exact .inr (.inr (.inr (by unfold Pw; omega)))
/-- which of both it is -/
theorem okf_bd {L : List Int32} {fs : List (Nat × Nat)} {f : Nat} (a : OKf L fs) (b : BDf L f) : False := by
  unfold OKf at a
  rcases b with ⟨r, b, c⟩ | b
  · rw [a] at b
    have : L.length = f := congrArg Prod.snd (Sum.inl.inj b)
    omega
  · rw [a] at b; cases b
theorem okf_ok {L : List Int32} {fs fs' : List (Nat × Nat)} (a : OKf L fs) (b : OKf L fs') : fs = fs' := by
  unfold OKf at a b
  rw [a] at b
  exact congrArg Prod.fst (Sum.inl.inj b)
theorem bdf_bd {L : List Int32} {f f' : Nat} (a : BDf L f) (b : BDf L f') : f = f' := by
  rcases a with ⟨r, a, _⟩ | a <;> rcases b with ⟨r', b, _⟩ | b
  · rw [a] at b; exact congrArg Prod.snd (Sum.inl.inj b)
  · rw [a] at b; cases b
  · rw [a] at b; cases b
  · rw [a] at b; exact Sum.inr.inj b
theorem call_filter {h : hp} (w : WF h) (z : ZH h) (jv : Jv h) (jt : Jt h) (jw : Jw h) (v : Int32) : ∃ a h1 h2, fX13_filter 64 v h = some (a, h1) ∧ fX14_filter 165 v h1 = some (a, h2) ∧ FG PF h h2 ∧ ZH h2 ∧ WF h2 ∧ hN h2 ≤ hN h + 1000 ∧ hL h2 ≤ hL h + 9900 ∧ Jv h2 ∧ Jt h2 ∧ Jw h2 := by
  have hn := w.2.2
  rcases cVar w v with ⟨k, hk, rfl, _⟩ | ⟨cv, ev⟩
  · obtain ⟨L, N, t1, t2, hb⟩ := jt
    obtain ⟨vs, VV⟩ := jv
    obtain ⟨C, M, g⟩ := VV k hk
    obtain ⟨a, h1, e1, f1, z1, n1, l1, w1, y1, Q1⟩ := cls_fil w z N hb hk C g
    have hn1 := w1.2.2
    have M1 : MV h1 k (vs k) := M.fg w f1 (fun x j q z => by unfold sP at q; unfold PFc at z; omega)
    obtain ⟨a', h2, e2, f2, z2, n2, l2, w2, y2, Q2⟩ := ref_fil w1 z1 (by rw [(f1.2.2.2 165 10 (by omega) (fun q => by unfold PFc at q; omega)).1]; exact t1) N.2.2.1 (fun i hi => by rw [(f1.2.2.2 172 i (by omega) (fun q => by unfold PFc at q; omega)).1]; exact t2 i hi) hb hk M1 g
    have F : FG PF h h2 := (f1.up fun x j q => pfc_f hk q).tr (f2.up fun x j q => pfm_f hk q)
    have up2 : ∀ {W : vT}, CV h1 (70 + 2 * k) (71 + 2 * k) W → CV h2 (70 + 2 * k) (71 + 2 * k) W := fun c => c.fg f2 (by omega) (by omega) (fun j q => by unfold PFm sP at q; omega) (fun j q => by unfold PFm sP at q; omega)
    have jvN : ∀ W : vT, CV h1 (70 + 2 * k) (71 + 2 * k) W → MV h2 k W → gV W → Jv h2 := fun W c1 m1 g1 => by
      refine ⟨fun u => if u = k then W else vs u, fun u hu => ?_⟩
      dsimp only
      by_cases c : u = k
      · subst c
        rw [if_pos rfl]
        exact ⟨up2 c1, m1, g1⟩
      · rw [if_neg c]
        obtain ⟨b1, b2', b3⟩ := VV u hu
        refine ⟨(b1.fg f1 (by omega) (by omega) (fun j q => by unfold PFc at q; omega) (fun j q => by unfold PFc at q; omega)).fg f2 (by omega) (by omega) (fun j q => by unfold PFm sP at q; omega) (fun j q => by unfold PFm sP at q; omega), (b2'.fg w f1 (fun x j q z => by unfold sP at q; unfold PFc at z; omega)).fg w1 f2 (fun x j q z => by unfold sP at q; unfold PFm sP at z; omega), b3⟩
    have jt2 : Jt h2 := by
      have N1 : NO h2 128 129 160 := NO_tape w2
      exact ⟨[], ⟨N1, by rw [(f2.2.2.2 128 1 (by omega) (fun q => by unfold PFm sP at q; omega)).1, y1]; rfl, Nat.zero_le _, fun j hj => absurd hj (Nat.not_lt_zero _)⟩, by rw [y2]; rfl, fun j hj => absurd hj (Nat.not_lt_zero _), fun j hj => absurd hj (Nat.not_lt_zero _)⟩
    have keep : (∀ x j, x = 86 ∨ x = 87 → hI h1 x j = hI h x j) → (∀ x j, (x = 165 ∧ j = 47) ∨ (189 ≤ x ∧ x ≤ 191) → hI h2 x j = hI h1 x j) → Jw h2 := fun k1 k2 => by
      obtain ⟨n, a1, a2, a3, a4⟩ := jw
      have c86 : ∀ x j, x = 86 ∨ x = 87 → hI h2 x j = hI h x j := fun x j q => by rw [(f2.2.2.2 x j (by omega) (fun z => by unfold PFm sP at z; omega)).1]; exact k1 x j q
      have m47 : ∀ x j, (x = 165 ∧ j = 47) ∨ (189 ≤ x ∧ x ≤ 191) → hI h2 x j = hI h x j := fun x j q => by rw [k2 x j q, (f1.2.2.2 x j (by omega) (fun z => by unfold PFc at z; omega)).1]
      refine ⟨n, a1, by rw [c86 86 1 (by omega)]; exact a2, by rw [m47 165 47 (by omega)]; exact a3, fun i hi => ?_⟩
      rw [c86 87 _ (by omega), c86 87 _ (by omega), c86 87 _ (by omega), m47 189 i (by omega), m47 190 i (by omega), m47 191 i (by omega)]
      exact a4 i hi
    have fin : a = a' → Jv h2 → Jw h2 → ∃ a h1 h2, fX13_filter 64 (iN k) h = some (a, h1) ∧ fX14_filter 165 (iN k) h1 = some (a, h2) ∧ FG PF h h2 ∧ ZH h2 ∧ WF h2 ∧ hN h2 ≤ hN h + 1000 ∧ hL h2 ≤ hL h + 9900 ∧ Jv h2 ∧ Jt h2 ∧ Jw h2 := fun ea j1 j2 => ⟨a, h1, h2, e1, by rw [e2, ea], F, z2, w2, by omega, by omega, j1, jt2, j2⟩
    rcases Q1 with ⟨fs, o1, Q1⟩ | ⟨f, o1, q1, q2, q3⟩
    · rcases Q2 with ⟨fs', o2, Q2⟩ | ⟨f', o2, _⟩
      · have ef := okf_ok o1 o2
        subst ef
        rcases Q1 with ⟨c, q1, q2, q3, q4⟩ | ⟨c, q1, q2, q3⟩
        · rcases Q2 with ⟨c', p1, p2, p3⟩ | ⟨c', _⟩
          · exact fin (by rw [q1, p1]) (jvN _ q2 p2 q3) (keep q4 p3)
          · exact absurd c c'
        · rcases Q2 with ⟨c', _⟩ | ⟨c', p1, p2, p3, p4, p5, p6⟩
          · exact absurd c' c
          · refine fin (by rw [q1, p1]) (jvN _ q2 p2 g) ?_
            obtain ⟨_, s1, s2, s3⟩ := q3
            have c86 : ∀ x j, x = 86 ∨ x = 87 → hI h2 x j = hI h1 x j := fun x j q => (f2.2.2.2 x j (by omega) (fun z => by unfold PFm sP at z; omega)).1
            refine ⟨1, by decide, by rw [c86 86 1 (by omega)]; exact s1, p3, fun i hi => ?_⟩
            have i0 : i = 0 := by omega
            subst i0
            rw [c86 87 _ (by omega), c86 87 _ (by omega), c86 87 _ (by omega), p4, p5, p6]
            exact ⟨s3 0 (by show 0 < 3; decide), s3 1 (by show 1 < 3; decide), s3 2 (by show 2 < 3; decide)⟩
      · exact (okf_bd o1 o2).elim
    · rcases Q2 with ⟨fs', o2, _⟩ | ⟨f', o2, p1, p2, p3⟩
      · exact (okf_bd o2 o1).elim
      · have ef := bdf_bd o1 o2
        subst ef
        exact fin (by rw [q1, p1]) (jvN _ q2 p2 g) (keep q3 p3)
  · refine ⟨-1, h, h, ?_, ?_, FG.rf _ h, z, w, by omega, by omega, jv, jt, jw⟩
    · unfold fX13_filter
      rw [gR64 w, Option.bind_some, R64_0 w, ck65 w, Option.bind_some, ev, bd2_s, if_pos rfl]
    · have e := mIsV v h
      rw [if_neg cv] at e
      unfold fX14_filter
      rw [e, bd2_s, if_pos rfl]

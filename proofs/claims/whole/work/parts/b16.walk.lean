/-! the class's walk: what stands elsewhere; all of it -/
theorem CX.push {h : hp} {own : Nat → Nat} {tp : Tp} {lim : Nat} {KL : List (Nat × vT)} {LL : Nat → Option vT} {fr : Fr} {trn : Option Nat} {lk : Bool} {dp : Nat} {c : List Nat} {j : Nat} {bb : Option Nat} {σ : St} {fl : Bool} {ln : Nat} (H : CX h own tp lim KL LL fr (some (c, j, bb)) trn lk dp σ fl) (e : hI h (147 + 2 * fr.length) 4 = iN ln) (hd : fr.length + 1 ≤ dp) : CX h own tp lim KL LL (fr ++ [(c, j, ln, bb)]) none trn lk dp σ fl := by
  obtain ⟨⟨b1, b2, b3, b4, b5, b6, b7, b8⟩, R, Ch, N, O, q1, q2, q3, q4, q5⟩ := H
  have ll : (fr ++ [(c, j, ln, bb)]).length = fr.length + 1 := List.length_append
  refine ⟨⟨b1, b2, b3, b4, b5, b6, fun i g eg => ?_, by omega⟩, R, (fun x e => by cases e), ?_, O, q1, q2, q3, by omega, q5⟩
  · by_cases c' : i < fr.length
    · rw [List.getElem?_append_left c'] at eg
      exact b7 i g eg
    · have il : i < (fr ++ [(c, j, ln, bb)]).length := (List.getElem?_eq_some_iff.mp eg).1
      have ie : i = fr.length := by omega
      subst ie
      rw [List.getElem?_append_right (Nat.le_refl _), Nat.sub_self] at eg
      cases eg
      exact ⟨Ch _ rfl, e⟩
  · have oe : opN (fr ++ [(c, j, ln, bb)]) none = opN fr (some (c, j, bb)) := ll
    rw [oe]; exact N
theorem CX.pop {h : hp} {own : Nat → Nat} {tp : Tp} {lim : Nat} {KL : List (Nat × vT)} {LL : Nat → Option vT} {fr : Fr} {trn : Option Nat} {lk : Bool} {dp : Nat} {c : List Nat} {j : Nat} {bb : Option Nat} {σ : St} {fl : Bool} {ln : Nat} (H : CX h own tp lim KL LL (fr ++ [(c, j, ln, bb)]) none trn lk dp σ fl) : CX h own tp lim KL LL fr (some (c, j, bb)) trn lk dp σ fl := by
  obtain ⟨⟨b1, b2, b3, b4, b5, b6, b7, b8⟩, R, Ch, N, O, q1, q2, q3, q4, q5⟩ := H
  have ll : (fr ++ [(c, j, ln, bb)]).length = fr.length + 1 := List.length_append
  refine ⟨⟨b1, b2, b3, b4, b5, b6, fun i g eg => b7 i g ?_, by omega⟩, R, (fun x e => ?_), ?_, O, q1, q2, q3, by omega, q5⟩
  · have il : i < fr.length := (List.getElem?_eq_some_iff.mp eg).1
    rw [List.getElem?_append_left il]; exact eg
  · cases e
    refine (b7 fr.length (c, j, ln, bb) ?_).1
    rw [List.getElem?_append_right (Nat.le_refl _), Nat.sub_self]
    rfl
  · have oe : opN (fr ++ [(c, j, ln, bb)]) none = opN fr (some (c, j, bb)) := ll
    rw [oe] at N; exact N
theorem preF_snoc (fr : Fr) (c : List Nat) (j ln : Nat) (bb : Option Nat) (trn : Option Nat) : preF (fr ++ [(c, j, ln, bb)]) = lks (preF fr, c, j, bb, trn) ln 10 := by
  unfold lks
  show (fr ++ [(c, j, ln, bb)]).flatMap _ = _
  rw [List.flatMap_append, List.append_assoc]
  show preF fr ++ ((bsL c j ++ [(c.getD j 0, ln, 10)]) ++ []) = _
  rw [List.append_nil]
theorem CHh.put4 {h : hp} {i : Nat} {c : List Nat} {j : Nat} {bb : Option Nat} (C : CHh h i c j bb) (x : Int32) : CHh (pI h (147 + 2 * i) 4 x) i c j bb := by
  obtain ⟨a1, a2, a3, a4, a5, a6⟩ := C
  exact ⟨by rw [hI_pI, if_neg (by omega)]; exact a1, by rw [hI_pI, if_neg (by omega)]; exact a2, by rw [hI_pI, if_neg (by omega)]; exact a3, a4, a5, fun q hq => by rw [hI_pI, if_neg (by omega)]; exact a6 q hq⟩
theorem CQ.dep {h : hp} {own : Nat → Nat} {tp : Tp} {lim : Nat} {KL : List (Nat × vT)} {LL : Nat → Option vT} {fr : Fr} {trn : Option Nat} {lk : Bool} {dp : Nat} {ch : Option (List Nat × Nat × Option Nat)} {vs : Nat → vT} {R : Ot} (H : CQ h own tp lim KL LL fr ch trn lk dp vs R) {d : Nat} (h1 : fr.length ≤ d) (h2 : d ≤ 8) : CQ (pI h 134 12 (iN d)) own tp lim KL LL fr ch trn lk d vs R := by
  cases R with
  | inl σ => exact ⟨H.1.dep h1 h2, H.2⟩
  | inr e =>
    obtain ⟨ctx, out, X, N⟩ := H
    exact ⟨ctx, out, X.dep h1 h2, N.p134 _ _⟩
theorem CQ.pop {h : hp} {own : Nat → Nat} {tp : Tp} {lim : Nat} {KL : List (Nat × vT)} {LL : Nat → Option vT} {fr : Fr} {trn : Option Nat} {lk : Bool} {dp : Nat} {c : List Nat} {j : Nat} {bb : Option Nat} {vs : Nat → vT} {R : Ot} {ln : Nat} (H : CQ h own tp lim KL LL (fr ++ [(c, j, ln, bb)]) none trn lk dp vs R) : CQ h own tp lim KL LL fr (some (c, j, bb)) trn lk dp vs R := by
  cases R with
  | inl σ => exact ⟨H.1.pop, H.2⟩
  | inr e =>
    obtain ⟨ctx, out, X, N⟩ := H
    exact ⟨ctx, out, X.pop, N⟩
theorem EP.zero {f : Nat} : EP 0 (f + 1) := by
  intro h own tp lim KL LL fr trn lk dp c j bb σ v lv ln kd sg hd H p po h0 h2 hkd s6 s4 okt bb4 hl hk hL
  have w := H.w
  have n12 := H.2.2.2.1.2.2.1
  obtain ⟨h3, e3, f3, R3⟩ := ft_e H ln 7
  refine ⟨h3, own, ?_, TRn.plf f3.psf.plf, R3⟩
  show fX12_walkElsewhere_b (G1 f) 134 v (iN lv) h = _
  unfold fX12_walkElsewhere_b
  rw [gW w, Option.bind_some, n12, jn_e, if_pos (show (8 : Int32) ≤ iN dp from (i_le (a := 8) (by decide) (by omega)).mpr (by show 8 ≤ dp; omega))]
  dsimp only
  rw [p.g, Option.bind_some, ckW w, Option.bind_some, p.2.2.2, show fX12_fail 134 (iN ln) 7 h = _ from e3, Option.bind_some]
theorem EP.succ {d f : Nat} (A : ∀ q, q ≤ 5 → AP d q f) : EP (d + 1) (f + 2) := by
  intro h own tp lim KL LL fr trn lk dp c j bb σ v lv ln kd sg hd H p po h0 h2 hkd s6 s4 okt bb4 hl hk hL
  have w := H.w
  have hn2 := w.2.2
  have h8 := H.1.2.2.2.2.2.2.2
  have fd : fr.length ≤ dp := H.2.2.2.2.2.2.2.2.1
  have n11 : hI h 134 11 = iN (fr.length + 1) := H.2.2.2.1.2.1
  have n12 := H.2.2.2.1.2.2.1
  have hi : fr.length < 9 := by omega
  have al : aln 2 h 135 = some (iN 9) := by unfold aln; rw [T135 w]; rfl
  have am : fX13_among (iN fr.length) (iN 9) h = some (1, h) := amk (by omega) (by decide) h
  have sb : iN (fr.length + 1) - 1 = iN fr.length := by rw [show (1 : Int32) = iN 1 from rfl, i_sub (by omega)]; rfl
  have X1 := H.dep (d := dp + 1) (by omega) (by omega)
  have w1 := X1.w
  have t1 : TRn own h own (pI h 134 12 (iN (dp + 1))) := TRn.p134 12 _
  obtain ⟨p1, po1⟩ := p.tr po t1
  have np : ∀ k, hI (pI h 134 12 (iN (dp + 1))) v k = hI h v k := fun k => by rw [hI_pI, if_neg (by have := p.1; omega)]
  have C1 : CHh (pI h 134 12 (iN (dp + 1))) fr.length c j bb := X1.2.2.1 _ rfl
  obtain ⟨K, hK⟩ : ∃ K : hp → Option hp, K = fun h122j => ((gfI h122j 134 11 12).bind fun v29 => (pfI h122j 134 11 12 (v29 - 1)).bind fun h31 => some h31) := ⟨_, rfl⟩
  have Kv : ∀ (g : hp) (own' : Nat → Nat) {fr' : Fr} {ch : Option (List Nat × Nat × Option Nat)} {R : Ot}, CQ g own' tp lim KL LL fr' ch trn lk (dp + 1) σ.1 R → K g = some (pI g 134 12 (iN dp)) := by
    intro g own' fr' ch R q
    have wg := q.op.2.1
    have e := q.op.2.2
    rw [hK]
    show ((gfI g 134 11 12).bind fun v29 => (pfI g 134 11 12 (v29 - 1)).bind fun h31 => some h31) = _
    rw [gW wg, Option.bind_some, e, show (1 : Int32) = iN 1 from rfl, i_sub (by omega), pW wg, Option.bind_some]
    rfl
  have st : (G1 (f + 2)).2.2.2.2.2.2.2.1 134 v (iN lv) h = if iN kd = 6 then (pfI (pI h 134 12 (iN (dp + 1))) (147 + 2 * fr.length) 0 4 (iN ln)).bind fun h45 => (gfI h45 v 5 2).bind fun v47 => (ckT h45 134 11).bind fun _ => ((G1 (f + 1)).1 134 v47 (iN lv + 1) h45).bind fun h50 => K h50 else if iN kd = 4 then (ckT (pI h 134 12 (iN (dp + 1))) 134 11).bind fun _ => ((G1 (f + 1)).2.2.2.2.2.2.2.2 134 (147 + 2 * fr.length) v 0 (iN lv) (pI h 134 12 (iN (dp + 1)))).bind fun h41 => K h41 else (ckT (pI h 134 12 (iN (dp + 1))) 134 11).bind fun _ => ((G1 (f + 1)).2.2.2.2.2.2.2.2 134 (147 + 2 * fr.length) v (iN j + 1) (iN lv) (pI h 134 12 (iN (dp + 1)))).bind fun h38 => K h38 := by
    show fX12_walkElsewhere_b (G1 (f + 1)) 134 v (iN lv) h = _
    unfold fX12_walkElsewhere_b
    rw [gW w, Option.bind_some, n12, jn_e, if_neg (show ¬ 8 ≤ iN dp from fun q => by have := (i_le (a := 8) (by decide) (by omega)).mp q; omega), gW w, Option.bind_some, n11, gWR w, R134_2 w, Option.bind_some, al, Option.bind_some, sb, am, bd2_s, if_neg (by decide), gWR w, R134_2 w, Option.bind_some, gW w, Option.bind_some, n11, sb, alCh w hi, Option.bind_some, gW w, Option.bind_some, n12, i_succ, pW w, Option.bind_some, p1.g, Option.bind_some, np, h0, jn_e, ← hK]
    simp only [p1.g, Option.bind_some, np, h0, p.2.2.2, gC w1 hi, C1.2.1]
  rw [st]
  have i6 : kd = 6 → iN kd = 6 := fun q => by rw [q]; rfl
  have kb : kd < 2147483648 := by rcases hkd with q | q | q <;> (rw [q]; decide)
  have n6 : kd ≠ 6 → ¬ iN kd = 6 := fun q e => q ((i_eq (b := 6) kb (by decide)).mp e)
  have n4 : kd ≠ 4 → ¬ iN kd = 4 := fun q e => q ((i_eq (b := 4) kb (by decide)).mp e)
  show ∃ h' own', _ ∧ TRn own h own' h' ∧ CQ h' own' tp lim KL LL fr (some (c, j, bb)) trn lk dp σ.1 (if kd = 6 then wTp lk true lim tp (wE lk true lim tp d) sg.toNatClampNeg (lks (preF fr, c, j, bb, trn) ln 10) trn σ else if kd = 4 then wBk lk true lim tp (wE lk true lim tp d) sg.toNatClampNeg 0 ln (preF fr, c, j, bb, trn) σ else blW lk lim tp d bb (j + 1) ln (preF fr, c, j, bb, trn) σ)
  by_cases k6 : kd = 6
  · obtain ⟨n, hn, en⟩ := s6 k6
    rw [if_pos (i6 k6), if_pos k6, en, i_clamp (by omega)]
    have t2 : TRn own h own (pI (pI h 134 12 (iN (dp + 1))) (147 + 2 * fr.length) 4 (iN ln)) := t1.tr (TRn.pch hi 4 _)
    have X2 : CX (pI (pI h 134 12 (iN (dp + 1))) (147 + 2 * fr.length) 4 (iN ln)) own tp lim KL LL fr (some (c, j, bb)) trn lk (dp + 1) σ false := X1.chg (P := Pch fr.length) (FS.pI (.inl rfl)) (fun _ _ q => q) (C1.put4 _)
    have X3 := X2.push (ln := ln) (by rw [hI_pI, if_pos ⟨rfl, rfl⟩]) (by omega)
    have w2 := X2.w
    obtain ⟨p2, po2⟩ := p.tr po t2
    have v2 : hI (pI (pI h 134 12 (iN (dp + 1))) (147 + 2 * fr.length) 4 (iN ln)) v 2 = iN n := by rw [hI_pI, if_neg (by have := p.1; omega), np, h2, en]
    obtain ⟨h3, own3, e3, t3, q3⟩ := tmpl_w (A 5 (Nat.le_refl _)) (lv := lv + 1) (by omega) X3 hn okt (by omega) (by omega) (fun l V e => Nat.lt_succ_of_lt (hL l V e))
    rw [preF_snoc fr c j ln bb trn] at q3
    have q4 := (q3.pop).dep (d := dp) fd (by omega)
    refine ⟨_, own3, ?_, (t2.tr t3).tr (TRn.p134 12 _), q4⟩
    rw [pC w1 hi, Option.bind_some, p2.g, Option.bind_some, v2, ckW w2, Option.bind_some, i_succ, e3, Option.bind_some]
    exact Kv _ _ q3
  rw [if_neg (n6 k6), if_neg k6]
  by_cases k4 : kd = 4
  · obtain ⟨n, hn, en⟩ := s4 k4
    rw [if_pos (show iN kd = 4 by rw [k4]; rfl), if_pos k4, en, i_clamp (by omega), ckW w1, Option.bind_some]
    obtain ⟨h3, own3, e3, t3, q3⟩ := block_w A (lv := lv) (fm := 0) (lt := some n) (by omega) X1 p1 po1 (by rw [np]; exact h0) (by rw [np]; exact h2) (.inl ⟨k4, n, hn, en, rfl⟩) okt bb4 (Nat.zero_le _) (by omega) hk hL
    have q4 := q3.dep (d := dp) fd (by omega)
    refine ⟨_, own3, ?_, (t1.tr t3).tr (TRn.p134 12 _), q4⟩
    rw [show (G1 (f + 1)).2.2.2.2.2.2.2.2 134 (147 + 2 * fr.length) v 0 (iN lv) _ = _ from e3, Option.bind_some]
    exact Kv _ _ q3
  · have k5 : kd = 5 := by clear s6 s4; omega
    rw [if_neg (n4 k4), if_neg k4, ckW w1, Option.bind_some]
    have jl := C1.2.2.2.2.1
    obtain ⟨h3, own3, e3, t3, q3⟩ := block_w A (lv := lv) (kd := kd) (sg := sg) (ln := ln) (fm := j + 1) (lt := bb) (by omega) X1 p1 po1 (by rw [np]; exact h0) (by rw [np]; exact h2) (.inr ⟨k5, rfl⟩) okt bb4 (by omega) (by omega) hk hL
    have q4 := q3.dep (d := dp) fd (by omega)
    refine ⟨_, own3, ?_, (t1.tr t3).tr (TRn.p134 12 _), q4⟩
    rw [i_succ, e3, Option.bind_some]
    exact Kv _ _ q3
theorem AP.up {d m f : Nat} (E : ∀ g, 20 * d + 1 ≤ g → EP d g) : ∀ m, m ≤ 5 → ∀ f, 20 * d + 3 * m + 3 ≤ f → AP d m f := by
  intro m
  induction m with
  | zero =>
    intro _ f hf
    obtain ⟨f, rfl⟩ : ∃ q, f = q + 1 := ⟨f - 1, by omega⟩
    exact AP.zero
  | succ m ih =>
    intro hm f hf
    obtain ⟨f, rfl⟩ : ∃ q, f = q + 4 := ⟨f - 4, by omega⟩
    exact AP.succ (OP.of (ih (by omega) (f + 1) (by omega)) (E (f + 2) (by omega)))
/-- the class's walk does what is said on trees -/
theorem walk_a : ∀ d, (∀ f, 20 * d + 1 ≤ f → EP d f) ∧ (∀ m, m ≤ 5 → ∀ f, 20 * d + 3 * m + 3 ≤ f → AP d m f) := by
  intro d
  induction d with
  | zero =>
    have E : ∀ f, 20 * 0 + 1 ≤ f → EP 0 f := fun f hf => by
      obtain ⟨f, rfl⟩ : ∃ q, f = q + 1 := ⟨f - 1, by omega⟩
      exact EP.zero
    exact ⟨E, AP.up (m := 0) (f := 0) E⟩
  | succ d ih =>
    have E : ∀ f, 20 * (d + 1) + 1 ≤ f → EP (d + 1) f := fun f hf => by
      obtain ⟨f, rfl⟩ : ∃ q, f = q + 2 := ⟨f - 2, by omega⟩
      exact EP.succ fun q hq => ih.2 q hq f (by omega)
    exact ⟨E, AP.up (m := 0) (f := 0) E⟩
/-- a template walked by the class -/
theorem walk_t {h : hp} {own : Nat → Nat} {tp : Tp} {lim : Nat} {lk : Bool} {σ : St} {k : Nat} (H : CX h own tp lim [] (fun _ => none) [] none none lk 0 σ false) (hk6 : k < 6) (okt : okTp tp) : ∃ h' own', fX12_walkTemplate 134 (iN k) 0 h = some h' ∧ TRn own h own' h' ∧ CQ h' own' tp lim [] (fun _ => none) [] none none lk 0 σ.1 (wTp lk true lim tp (wE lk true lim tp 8) k [] none σ) :=
  tmpl_w (f := 399) ((walk_a 8).2 5 (Nat.le_refl _) 399 (by decide)) (lv := 0) rfl H hk6 okt (by decide) (Nat.zero_le _) (fun l V e => by cases e)

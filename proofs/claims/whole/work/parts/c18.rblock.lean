/-! the reference's walk: blocks -/
set_option maxHeartbeats 300000
theorem bit_d : ∀ g0 g1 g2 g3 : Bool, (((mskB g0 g1 g2 g3 >>> (iN 0 &&& 31)) &&& 1) = 1 ↔ g0 = true) ∧ (((mskB g0 g1 g2 g3 >>> (iN 1 &&& 31)) &&& 1) = 1 ↔ g1 = true) ∧ (((mskB g0 g1 g2 g3 >>> (iN 2 &&& 31)) &&& 1) = 1 ↔ g2 = true) ∧ (((mskB g0 g1 g2 g3 >>> (iN 3 &&& 31)) &&& 1) = 1 ↔ g3 = true) := by decide
theorem bit_e {L : List Int32} {b0 : Option Nat} {t : TY 5} {b : Nat} (top : pTop L = .inl ((b0, t), L.length)) (hb : b < 4) : (((mkT 4 5 t >>> (iN b &&& 31)) &&& 1) = 1) ↔ (fB (blksT 5 t) b).isSome = true := by
  obtain ⟨n, p0, e, hp0, _⟩ := pre_top top
  have D := bit_d (fB (blksT 5 t) 0).isSome (fB (blksT 5 t) 1).isSome (fB (blksT 5 t) 2).isSome (fB (blksT 5 t) 3).isSome
  rw [← blks_mk 5 t, bM_msk (blksT 5 t) (blk_let n 4 false p0 L.length t (by decide) hp0 e)]
  rcases (show b = 0 ∨ b = 1 ∨ b = 2 ∨ b = 3 by omega) with rfl | rfl | rfl | rfl
  · exact D.1
  · exact D.2.1
  · exact D.2.2.1
  · exact D.2.2.2
def BFQ (tp : Tp) (c : List Nat) (b : Nat) (h : hp) (F : Option (Nat × Int32 × hp)) (R : Option (Nat × (Σ q : Nat, TY q))) : Prop :=
  match R with
  | none => F = some (1, iN c.length, h)
  | some y => F = some (0, iN y.1, h) ∧ y.1 < c.length ∧ ∃ x bk, tp (c.getD y.1 0) = some x ∧ fB (blksT 5 x.2.2) b = some bk ∧ y.2 = bk.2.2
theorem bf_l {h : hp} {tp : Tp} {lim : Nat} {fr : Fr} {c : List Nat} {ol lp : Nat} {trn : Option Nat} {lk : Bool} {dp : Nat} {σ : St} {b : Nat} (H : RX h tp lim fr c ol lp trn lk dp σ) (C : okC tp c) (hb : b < 4) : ∀ (dd q m : Nat), q + dd = c.length → dd < m → BFQ tp c b h (fX14_blockFrom_l3 m 165 (iN fr.length) (iN b) (iN q) h) (fdB tp b (c.drop q) q) := by
  have w := H.w
  have c6 := C.2.1
  have n8 : fr.length ≤ 8 := by have := H.1.2.2.2.2.1; have := H.rn.dp8.2; omega
  intro dd
  induction dd with
  | zero =>
    intro q m hq hm
    obtain ⟨m, rfl⟩ : ∃ x, m = x + 1 := ⟨m - 1, by omega⟩
    have e : q = c.length := by omega
    subst e
    rw [List.drop_of_length_le (Nat.le_refl _)]
    show fX14_blockFrom_l3 (m + 1) 165 _ _ _ h = _
    rw [fX14_blockFrom_l3, MR32 w, Option.bind_some, ML183 w (by omega), Option.bind_some, H.2.2, if_pos (by rw [i_le (by omega) (by omega)]; exact Nat.le_refl _)]
  | succ dd ih =>
    intro q m hq hm
    obtain ⟨m, rfl⟩ : ∃ x, m = x + 1 := ⟨m - 1, by omega⟩
    have ed : c.drop q = c.getD q 0 :: c.drop (q + 1) := by rw [List.drop_eq_getElem_cons (show q < c.length by omega), List.getD_eq_getElem?_getD, List.getElem?_eq_getElem (show q < c.length by omega)]; rfl
    obtain ⟨k6, x, hx⟩ := C.2.2 q (by omega)
    obtain ⟨T, top⟩ := H.tx C (show q < c.length by omega) hx
    have st : fX14_blockFrom_l3 (m + 1) 165 (iN fr.length) (iN b) (iN q) h = if ((mkT 4 5 x.2.2 >>> (iN b &&& 31)) &&& 1) = 1 then some (0, iN q, h) else fX14_blockFrom_l3 m 165 (iN fr.length) (iN b) (iN (q + 1)) h := by
      rw [fX14_blockFrom_l3, MR32 w, Option.bind_some, ML183 w (by omega), Option.bind_some, H.2.2, if_neg (by rw [i_le (by omega) (by omega)]; omega), MR31 w, Option.bind_some, six, ML182 w (by omega), Option.bind_some, H.2.1 q (by omega), ckM w, Option.bind_some, show fX14_signsBehind 165 (iN (c.getD q 0)) 61 65 h = _ from sgn_e (bb := 65) T (.inl ⟨rfl, rfl, rfl⟩) top, bd2_s, i_succ]
    rw [st, ed]
    have be := bit_e top hb
    cases hf : fB (blksT 5 x.2.2) b with
    | none =>
      rw [hf] at be
      rw [if_neg (fun z => by have := be.mp z; cases this), show fdB tp b (c.getD q 0 :: c.drop (q + 1)) q = fdB tp b (c.drop (q + 1)) (q + 1) by simp only [fdB, hx, hf]]
      exact ih (q + 1) m (by omega) (by omega)
    | some bk =>
      rw [hf] at be
      rw [if_pos (be.mpr rfl), show fdB tp b (c.getD q 0 :: c.drop (q + 1)) q = some (q, bk.2.2) by simp only [fdB, hx, hf]]
      exact ⟨rfl, by show q < c.length; omega, x, bk, hx, hf, rfl⟩
/-- where a block's T begins -/
theorem RX.ba {h : hp} {tp : Tp} {lim : Nat} {fr : Fr} {c : List Nat} {ol lp : Nat} {trn : Option Nat} {lk : Bool} {dp : Nat} {σ : St} {j b : Nat} {x : List Int32 × Option Nat × TY 5} {bk : Int32 × Nat × (Σ q : Nat, TY q)} (H : RX h tp lim fr c ol lp trn lk dp σ) (C : okC tp c) (hj : j < c.length) (hx : tp (c.getD j 0) = some x) (hb : b < 4) (hf : fB (blksT 5 x.2.2) b = some bk) : ∃ p0, fX14_blockAt 165 (iN (c.getD j 0)) (iN b) h = some (iN (p0 + 4), h) ∧ BP x.1 bk p0 := by
  obtain ⟨T, top⟩ := H.tx C hj hx
  obtain ⟨n, p0, e, hp0, cs⟩ := pre_top top
  refine blockAt_e T hb (show 4 ≤ 4 from Nat.le_refl _) hp0 e hf (Nat.le_refl _) ?_
  rcases cs with ⟨_, z, _⟩ | ⟨k, k6, _, z, c0, c1, c2, c3⟩
  · rw [z]; exact BS.rf _ _ _ _ _
  · subst z
    obtain ⟨a0, b0⟩ := here_lt c0 (by decide)
    obtain ⟨a1, b1⟩ := here_lt c1 (by decide)
    obtain ⟨a3, b3⟩ := here_lt c3 (by decide)
    obtain ⟨a2, b2'⟩ := here_s c2 (by omega)
    refine BS.tr (bs1 T a0 hb (fun _ => by omega) (fun z => by have := z.2.1; rw [b1] at this; exact absurd this (by decide))) (o' := none) (bsT T hb (by decide) (by omega) (fun i i1 i2 => ?_))
    rcases (show i = 1 ∨ i = 2 ∨ i = 3 by omega) with rfl | rfl | rfl
    · rw [b1]; decide
    · rw [b2']
      have : ∀ k, k < 6 → iN (48 + k) ≠ 123 := by decide
      exact this k k6
    · rw [b3]; decide
theorem RoQ.dn {h : hp} {tp : Tp} {lim : Nat} {fr : Fr} {c : List Nat} {ol lp : Nat} {trn : Option Nat} {lk : Bool} {dp : Nat} {R : Ot} (C : okC tp c) (Ro : RoQ h tp lim fr c ol lp trn lk (dp + 1) R) (hf : fr.length ≤ dp) (d8 : dp ≤ 8) : RoQ (pI h 165 36 (hI h 165 36 - 1)) tp lim fr c ol lp trn lk dp R ∧ FM (PRn fr.length ol lp) h (pI h 165 36 (hI h 165 36 - 1)) := by
  have f : FS (fun x k => x = 165 ∧ k = 36) h (pI h 165 36 (hI h 165 36 - 1)) := FS.pI ⟨rfl, rfl⟩
  have u : ∀ x k, (x = 165 ∧ k = 36) → PRn fr.length ol lp x k := fun x k q => by
    (first | exact .inl (by omega) | exact .inr (.inl (by omega)) | exact .inr (.inr (.inl (by omega))) | exact .inr (.inr (.inr (.inl (by omega)))) | exact .inr (.inr (.inr (.inr (.inl (by omega))))) | exact .inr (.inr (.inr (.inr (.inr (.inl (by omega)))))) | exact .inr (.inr (.inr (.inr (.inr (.inr (.inl (by omega))))))) | exact .inr (.inr (.inr (.inr (.inr (.inr (.inr (.inl (by omega)))))))) | exact .inr (.inr (.inr (.inr (.inr (.inr (.inr (.inr (.inl (by omega))))))))) | exact .inr (.inr (.inr (.inr (.inr (.inr (.inr (.inr (.inr (.inl (by omega)))))))))) | exact .inr (.inr (.inr (.inr (.inr (.inr (.inr (.inr (.inr (.inr (by omega)))))))))))
  refine ⟨?_, f.fm.up u⟩
  cases R with
  | inl σ =>
    have H : RX h tp lim fr c ol lp trn lk (dp + 1) σ := Ro
    have n : ∀ k, k ≠ 36 → hI (pI h 165 36 (hI h 165 36 - 1)) 165 k = hI h 165 k := fun k q => by rw [hI_pI, if_neg (fun z => q z.2)]
    exact H.gn C f.fm u (H.1.2.2.1.1.fx f.fm (fun v x k hv q z => by unfold sP at q; omega) (fun z => by omega) (fun l _ _ z => by omega)) ⟨by rw [n 37 (by decide)]; exact H.1.2.2.1.2.1, H.1.2.2.1.2.2⟩ (H.rn.re (fun k q => n k (by omega)) (fun k => by rw [hI_pI, if_neg (by omega)]) ⟨by rw [n 35 (by decide)]; exact H.rn.stp.1, H.rn.stp.2⟩ ⟨by rw [hI_pI, if_pos ⟨rfl, rfl⟩, H.rn.dp8.1]; exact i_sub1 (by omega), d8⟩ (by rw [n 30 (by decide)]; exact H.rn.o30) ⟨by rw [n 23 (by decide)]; exact H.rn.cx.1, H.rn.cx.2⟩) hf (H.1.2.2.2.2.2.fm f.fm (fun x k q => by omega))
  | inr e => exact RFt.fm Ro f.fm (fun x k q => by omega) (by rw [hI_pI, if_neg (by decide)]; exact RFt.o Ro)
theorem RX.up {h : hp} {tp : Tp} {lim : Nat} {fr : Fr} {c : List Nat} {ol lp : Nat} {trn : Option Nat} {lk : Bool} {dp : Nat} {σ : St} (H : RX h tp lim fr c ol lp trn lk dp σ) (C : okC tp c) (d8 : dp + 1 ≤ 8) : RX (pI h 165 36 (iN (dp + 1))) tp lim fr c ol lp trn lk (dp + 1) σ ∧ FM (PRn fr.length ol lp) h (pI h 165 36 (iN (dp + 1))) := by
  have f : FS (fun x k => x = 165 ∧ k = 36) h (pI h 165 36 (iN (dp + 1))) := FS.pI ⟨rfl, rfl⟩
  have u : ∀ x k, (x = 165 ∧ k = 36) → PRn fr.length ol lp x k := fun x k q => by
    (first | exact .inl (by omega) | exact .inr (.inl (by omega)) | exact .inr (.inr (.inl (by omega))) | exact .inr (.inr (.inr (.inl (by omega)))) | exact .inr (.inr (.inr (.inr (.inl (by omega))))) | exact .inr (.inr (.inr (.inr (.inr (.inl (by omega)))))) | exact .inr (.inr (.inr (.inr (.inr (.inr (.inl (by omega))))))) | exact .inr (.inr (.inr (.inr (.inr (.inr (.inr (.inl (by omega)))))))) | exact .inr (.inr (.inr (.inr (.inr (.inr (.inr (.inr (.inl (by omega))))))))) | exact .inr (.inr (.inr (.inr (.inr (.inr (.inr (.inr (.inr (.inl (by omega)))))))))) | exact .inr (.inr (.inr (.inr (.inr (.inr (.inr (.inr (.inr (.inr (by omega)))))))))))
  have n : ∀ k, k ≠ 36 → hI (pI h 165 36 (iN (dp + 1))) 165 k = hI h 165 k := fun k q => by rw [hI_pI, if_neg (fun z => q z.2)]
  exact ⟨H.gn C f.fm u (H.1.2.2.1.1.fx f.fm (fun v x k hv q z => by unfold sP at q; omega) (fun z => by omega) (fun l _ _ z => by omega)) ⟨by rw [n 37 (by decide)]; exact H.1.2.2.1.2.1, H.1.2.2.1.2.2⟩ (H.rn.re (fun k q => n k (by omega)) (fun k => by rw [hI_pI, if_neg (by omega)]) ⟨by rw [n 35 (by decide)]; exact H.rn.stp.1, H.rn.stp.2⟩ ⟨by rw [hI_pI, if_pos ⟨rfl, rfl⟩], d8⟩ (by rw [n 30 (by decide)]; exact H.rn.o30) ⟨by rw [n 23 (by decide)]; exact H.rn.cx.1, H.rn.cx.2⟩) (by have := H.1.2.2.2.2.1; omega) (H.1.2.2.2.2.2.fm f.fm (fun x k q => by omega)), f.fm.up u⟩
/-- a block's start: its line, the place in the chain -/
theorem bl_s {f : Nat} {h : hp} {tp : Tp} {lim : Nat} {fr : Fr} {c : List Nat} {ol lp : Nat} {trn : Option Nat} {lk : Bool} {dp : Nat} {σ : St} {j p fm b : Nat} {x : List Int32 × Option Nat × TY 5} (a6 : Int32) (H : RX h tp lim fr c ol lp trn lk dp σ) (C : okC tp c) (hj : j < c.length) (hx : tp (c.getD j 0) = some x) (hp' : p ≤ x.1.length) (hb : b < 4) (hfm : fm ≤ c.length) (bb : Option Nat) : ∃ v10 : Int32, fX14_block_b (G3 f) 165 (iN fr.length) (iN j) (iN p) (iN b) (iN fm) a6 h = (if dp = 8 ∨ v10 < 0 then (fX14_faults 165 (iN fr.length) (iN j) (iN (lnAt x.1 p)) (if dp = 8 then 7 else 8) h).bind fun h18 => some (iN p, h18) else (gfR (pI h 165 36 (iN (dp + 1))) 165 13 31).bind fun v26 => (alI (pI h 165 36 (iN (dp + 1))) v26 ((6 * iN fr.length) + v10)).bind fun v28 => (ckT (pI h 165 36 (iN (dp + 1))) 165 13).bind fun _ => bd2 (fX14_blockAt 165 v28 (iN b) (pI h 165 36 (iN (dp + 1)))) fun v31 h32 => (ckT h32 165 13).bind fun _ => ((G3 f).2.1 165 (iN fr.length) v10 v31 v10 (iN b) h32).bind fun h35 => (gfI h35 165 13 36).bind fun v37 => (pfI h35 165 13 36 (v37 - 1)).bind fun h39 => (ckT h39 165 13).bind fun _ => (fX14_endsAsAhead 165 (iN fr.length) (iN j) (iN (lnAt x.1 p)) (iN σ.2.1) h39).bind fun h42 => some (a6, h42)) ∧ match fdB tp b (c.drop fm) fm with
  | none => v10 = -1
  | some y => v10 = iN y.1 ∧ y.1 < c.length ∧ ∃ x bk, tp (c.getD y.1 0) = some x ∧ fB (blksT 5 x.2.2) b = some bk ∧ y.2 = bk.2.2 := by
  have w := H.w
  have T := (H.tx C hj hx).1
  have d8 := H.rn.dp8
  have K := bf_l H C hb (c.length - fm) fm FU (by omega) (FU_pos _ (by have := C.2.1; omega))
  have go : ∀ v10 : Int32, fX14_blockFrom 165 (iN fr.length) (iN fm) (iN b) h = some (v10, h) → fX14_block_b (G3 f) 165 (iN fr.length) (iN j) (iN p) (iN b) (iN fm) a6 h = (if dp = 8 ∨ v10 < 0 then (fX14_faults 165 (iN fr.length) (iN j) (iN (lnAt x.1 p)) (if dp = 8 then 7 else 8) h).bind fun h18 => some (iN p, h18) else (gfR (pI h 165 36 (iN (dp + 1))) 165 13 31).bind fun v26 => (alI (pI h 165 36 (iN (dp + 1))) v26 ((6 * iN fr.length) + v10)).bind fun v28 => (ckT (pI h 165 36 (iN (dp + 1))) 165 13).bind fun _ => bd2 (fX14_blockAt 165 v28 (iN b) (pI h 165 36 (iN (dp + 1)))) fun v31 h32 => (ckT h32 165 13).bind fun _ => ((G3 f).2.1 165 (iN fr.length) v10 v31 v10 (iN b) h32).bind fun h35 => (gfI h35 165 13 36).bind fun v37 => (pfI h35 165 13 36 (v37 - 1)).bind fun h39 => (ckT h39 165 13).bind fun _ => (fX14_endsAsAhead 165 (iN fr.length) (iN j) (iN (lnAt x.1 p)) (iN σ.2.1) h39).bind fun h42 => some (a6, h42)) := by
    intro v10 e
    have w1 : WF (pI h 165 36 (iN (dp + 1))) := w
    unfold fX14_block_b
    rw [H.hd C hj, ckM w, Option.bind_some, line_e T hp', bd2_s, ckM w, Option.bind_some, e, bd2_s, gM w, Option.bind_some, d8.1, jn_e]
    by_cases c8 : dp = 8
    · rw [if_pos (show iN dp = 8 by rw [c8]; rfl), if_pos (.inl c8), if_pos c8]
      dsimp only
      rw [gM w, Option.bind_some, d8.1, jn_e, if_pos (show iN dp = 8 by rw [c8]; rfl)]
      dsimp only
      rw [ckM w, Option.bind_some]
    · have n8 : ¬ iN dp = 8 := fun q => c8 ((i_eq (b := 8) (by omega) (by decide)).mp q)
      rw [if_neg n8]
      by_cases cv : v10 < 0
      · rw [if_neg (fun q => absurd cv (i_nlt.mpr q)), if_pos (.inr cv), if_neg c8]
        dsimp only
        rw [gM w, Option.bind_some, d8.1, jn_e, if_neg n8]
        dsimp only
        rw [ckM w, Option.bind_some]
      · rw [if_pos (i_nlt.mp cv), if_neg (fun q => q.elim c8 cv), gM w, Option.bind_some, H.rn.cx.1, Option.bind_some, i_succ, pM w, Option.bind_some]
  have bf : fX14_blockFrom 165 (iN fr.length) (iN fm) (iN b) h = bd3 (fX14_blockFrom_l3 FU 165 (iN fr.length) (iN b) (iN fm) h) fun t4 v3 h2 => if t4 = 0 then some (v3, h2) else if t4 = 1 then some ((-1), h2) else none := rfl
  cases hf : fdB tp b (c.drop fm) fm with
  | none =>
    rw [hf] at K
    have K' : fX14_blockFrom_l3 FU 165 (iN fr.length) (iN b) (iN fm) h = some (1, iN c.length, h) := K
    exact ⟨-1, go _ (by rw [bf, K', bd3_s, if_neg (by decide), if_pos rfl]), rfl⟩
  | some y =>
    rw [hf] at K
    obtain ⟨K1, K2⟩ := K
    exact ⟨iN y.1, go _ (by rw [bf, K1, bd3_s, if_pos rfl]), rfl, K2⟩
theorem bl_r {d f : Nat} (A : ∀ m, m ≤ 3 → RTn d m f) {h : hp} {tp : Tp} {lim : Nat} {fr : Fr} {c : List Nat} {ol lp : Nat} {trn : Option Nat} {lk : Bool} {dp : Nat} {σ : St} {j p q fm b : Nat} {bb : Option Nat} {x : List Int32 × Option Nat × TY 5} (hd : dp + (d + 1) = 8) (H : RX h tp lim fr c ol lp trn lk dp σ) (C : okC tp c) (hj : j < c.length) (hx : tp (c.getD j 0) = some x) (hp' : p ≤ x.1.length) (hb : b < 4) (hfm : fm ≤ c.length) (ho : ol ≤ 5 * dp + 5) (hl : lp ≤ ol) : PCr (fX14_block_b (G3 f) 165 (iN fr.length) (iN j) (iN p) (iN b) (iN fm) (iN q) h) h tp lim fr c ol lp trn lk dp (wBk lk lk lim tp (wE lk lk lim tp d) b fm (lnAt x.1 p) (preF fr, c, j, bb, trn) σ) q := by
  obtain ⟨v10, st, K⟩ := bl_s (f := f) (iN q) H C hj hx hp' hb hfm bb
  have w := H.w
  have w1 : WF (pI h 165 36 (iN (dp + 1))) := w
  have nf := H.1.2.2.2.2.1
  rw [st]
  unfold wBk
  cases hf : fdB tp b (c.drop fm) fm with
  | none =>
    rw [hf] at K
    have K' : v10 = -1 := K
    obtain ⟨h2, e2, f2, v2, r2⟩ := H.ft C hj bb (lnAt x.1 p) 8
    rw [if_pos (.inr (by rw [K']; decide)), if_neg (by omega), show fX14_faults 165 (iN fr.length) (iN j) (iN (lnAt x.1 p)) 8 h = _ from e2, Option.bind_some]
    exact ⟨_, _, rfl, f2.fm.up fun x k q => pfr_n q, r2, fun _ z => by cases z⟩
  | some y =>
    obtain ⟨jj, s⟩ := y
    rw [hf] at K
    obtain ⟨K1, K2, x', bk, K3, K4, K5⟩ := K
    have hjj : jj < c.length := K2
    have K3' : tp (c.getD jj 0) = some x' := K3
    have K5' : s = bk.2.2 := K5
    subst K1
    obtain ⟨H1, F1⟩ := H.up C (by omega)
    obtain ⟨p0, e3, m, n, e0, inn, m3, es, l4, pp, g1, g2, g3⟩ := H1.ba C hjj K3' hb K4
    rw [es] at K5'
    subst K5'
    obtain ⟨h2, e4, f4, v4, o4⟩ := A m m3 _ tp lim fr c ol lp trn lk (dp + 1) σ jj (some b) x' n (p0 + 4) e0 true inn (by omega) H1 C hjj K3' pp l4 (by omega) (fun _ z => by cases z) (fun b' z => by cases z; exact hb) (by omega) hl
    have w2 := f4.wf w1
    obtain ⟨o5, f5⟩ := RoQ.dn C o4 nf (by omega)
    have w5 := f5.wf w2
    obtain ⟨h6, e6, f6, o6, _⟩ := ea_e w5 (by rw [f5.lk, f4.lk]; exact H1.lk) o5 C hj bb (lnAt x.1 p) H.rn.cx.2
    rw [if_neg (fun z => z.elim (by omega) (nl0 (by have := C.2.1; omega))), H1.hd C hjj, ckM w1, Option.bind_some, e3, bd2_s, ckM w1, Option.bind_some, show (G3 f).2.1 165 (iN fr.length) (iN jj) (iN (p0 + 4)) (iN jj) (iN b) _ = _ from e4, Option.bind_some, gM w2, Option.bind_some, pM w2, Option.bind_some, ckM w5, Option.bind_some, e6, Option.bind_some]
    exact ⟨_, _, rfl, ((F1.tr f4).tr f5).tr f6, o6, fun _ _ => rfl⟩
theorem bl_0 {f : Nat} {h : hp} {tp : Tp} {lim : Nat} {fr : Fr} {c : List Nat} {ol lp : Nat} {trn : Option Nat} {lk : Bool} {dp : Nat} {σ : St} {j p q fm b : Nat} {bb : Option Nat} {x : List Int32 × Option Nat × TY 5} (hd : dp = 8) (H : RX h tp lim fr c ol lp trn lk dp σ) (C : okC tp c) (hj : j < c.length) (hx : tp (c.getD j 0) = some x) (hp' : p ≤ x.1.length) (hb : b < 4) (hfm : fm ≤ c.length) : PCr (fX14_block_b (G3 f) 165 (iN fr.length) (iN j) (iN p) (iN b) (iN fm) (iN q) h) h tp lim fr c ol lp trn lk dp (ftW (preF fr, c, j, bb, trn) σ (lnAt x.1 p) 7) q := by
  obtain ⟨v10, st, _⟩ := bl_s (f := f) (iN q) H C hj hx hp' hb hfm bb
  obtain ⟨h2, e2, f2, v2, r2⟩ := H.ft C hj bb (lnAt x.1 p) 7
  rw [st, if_pos (.inl hd), if_pos hd, show fX14_faults 165 (iN fr.length) (iN j) (iN (lnAt x.1 p)) 7 h = _ from e2, Option.bind_some]
  exact ⟨_, _, rfl, f2.fm.up fun x k q => pfr_n q, r2, fun _ z => by cases z⟩

/-! the reference's walk: faults and their links -/
def ML3 (h : hp) (l : List Lk) : Prop := hI h 165 47 = iN l.length ∧ ∀ q x, l[q]? = some x → hI h 189 q = iN x.1 ∧ hI h 190 q = iN x.2.1 ∧ hI h 191 q = iN x.2.2
abbrev Plk (x k : Nat) : Prop := (x = 165 ∧ k = 47) ∨ x = 189 ∨ x = 190 ∨ x = 191
theorem lk_e {h : hp} {l : List Lk} (w : WF h) (M : ML3 h l) (hl : l.length < 128) (a b c : Nat) : ∃ h', fX14_links 165 (iN a) (iN b) (iN c) h = some h' ∧ ML3 h' (l ++ [(a, b, c)]) ∧ FS Plk h h' := by
  obtain ⟨m1, m2⟩ := M
  have w1 : WF (pI h 189 l.length (iN a)) := w
  have w2 : WF (pI (pI h 189 l.length (iN a)) 190 l.length (iN b)) := w
  have w3 : WF (pI (pI (pI h 189 l.length (iN a)) 190 l.length (iN b)) 191 l.length (iN c)) := w
  have e1 : hI (pI h 189 l.length (iN a)) 165 47 = iN l.length := by rw [hI_pI, if_neg (by omega)]; exact m1
  have e2 : hI (pI (pI h 189 l.length (iN a)) 190 l.length (iN b)) 165 47 = iN l.length := by rw [hI_pI, if_neg (by omega)]; exact e1
  have e3 : hI (pI (pI (pI h 189 l.length (iN a)) 190 l.length (iN b)) 191 l.length (iN c)) 165 47 = iN l.length := by rw [hI_pI, if_neg (by omega)]; exact e2
  refine ⟨pI (pI (pI (pI h 189 l.length (iN a)) 190 l.length (iN b)) 191 l.length (iN c)) 165 47 (iN (l.length + 1)), ?_, ⟨?_, fun q x e => ?_⟩, (((FS.pI (.inr (.inl rfl))).tr (FS.pI (.inr (.inr (.inl rfl))))).tr (FS.pI (.inr (.inr (.inr rfl))))).tr (FS.pI (.inl ⟨rfl, rfl⟩))⟩
  · unfold fX14_links
    rw [MR44 w, Option.bind_some, gM w, Option.bind_some, m1, MS189 w hl, Option.bind_some, MR45 w1, Option.bind_some, gM w1, Option.bind_some, e1, MS190 w1 hl, Option.bind_some, MR46 w2, Option.bind_some, gM w2, Option.bind_some, e2, MS191 w2 hl, Option.bind_some, gM w3, Option.bind_some, e3, i_succ, pM w3, Option.bind_some]
  · rw [hI_pI, if_pos ⟨rfl, rfl⟩, List.length_append]; rfl
  · by_cases c' : q < l.length
    · rw [List.getElem?_append_left c'] at e
      have := m2 q x e
      refine ⟨?_, ?_, ?_⟩
      · rw [hI_pI, if_neg (by omega), hI_pI, if_neg (by omega), hI_pI, if_neg (by omega), hI_pI, if_neg (by omega)]; exact this.1
      · rw [hI_pI, if_neg (by omega), hI_pI, if_neg (by omega), hI_pI, if_neg (by omega), hI_pI, if_neg (by omega)]; exact this.2.1
      · rw [hI_pI, if_neg (by omega), hI_pI, if_neg (by omega), hI_pI, if_neg (by omega), hI_pI, if_neg (by omega)]; exact this.2.2
    · have il : q < (l ++ [(a, b, c)]).length := (List.getElem?_eq_some_iff.mp e).1
      rw [List.length_append] at il
      have il' : q < l.length + 1 := il
      have ie : q = l.length := by omega
      subst ie
      rw [List.getElem?_append_right (Nat.le_refl _), Nat.sub_self] at e
      cases e
      refine ⟨?_, ?_, ?_⟩
      · rw [hI_pI, if_neg (by omega), hI_pI, if_neg (by omega), hI_pI, if_neg (by omega), hI_pI, if_pos ⟨rfl, rfl⟩]
      · rw [hI_pI, if_neg (by omega), hI_pI, if_neg (by omega), hI_pI, if_pos ⟨rfl, rfl⟩]
      · rw [hI_pI, if_neg (by omega), hI_pI, if_pos ⟨rfl, rfl⟩]
/-- the places of a chain up to one -/
def RCo (h : hp) (i : Nat) (c : List Nat) (j : Nat) : Prop := ∀ q, q ≤ j → hI h 182 (6 * i + q) = iN (c.getD q 0)
theorem RCo.fs {h h' : hp} {i j : Nat} {c : List Nat} (H : RCo h i c j) (f : FS Plk h h') : RCo h' i c j := fun q hq => by rw [(f.2.2.2.2 182 _ (by unfold Plk; omega)).1]; exact H q hq
theorem six (i q : Nat) : (6 : Int32) * iN i + iN q = iN (6 * i + q) := by rw [i_mullit, i_add]
theorem bas_l {i j : Nat} {c : List Nat} (hi : i < 12) (hj : j < 6) : ∀ (d q m : Nat) (h : hp) (l : List Lk), WF h → RCo h i c j → q + d = j → d < m → ML3 h l → l.length + d ≤ 120 → ∃ h', fX14_linksBases_l2 m 165 (iN i) (iN j) (iN q) h = some h' ∧ ML3 h' (l ++ lkR c d q) ∧ FS Plk h h' := by
  intro d
  induction d with
  | zero =>
    intro q m h l w C hq hm M hl
    obtain ⟨m, rfl⟩ : ∃ x, m = x + 1 := ⟨m - 1, by omega⟩
    refine ⟨h, ?_, by rw [show lkR c 0 q = [] from rfl, List.append_nil]; exact M, FS.rf _ h⟩
    rw [fX14_linksBases_l2, if_pos (by rw [i_le (by omega) (by omega)]; omega)]
  | succ d ih =>
    intro q m h l w C hq hm M hl
    obtain ⟨m, rfl⟩ : ∃ x, m = x + 1 := ⟨m - 1, by omega⟩
    obtain ⟨h1, e1, M1, f1⟩ := lk_e w M (by omega) (c.getD q 0) 1 11
    obtain ⟨h2, e2, M2, f2⟩ := ih (q + 1) m h1 _ (f1.wf w) (C.fs f1) (by omega) (by omega) M1 (by rw [List.length_append]; show l.length + 1 + d ≤ 120; omega)
    refine ⟨h2, ?_, by rw [List.append_assoc] at M2; exact M2, f1.tr f2⟩
    rw [fX14_linksBases_l2, if_neg (by rw [i_le (by omega) (by omega)]; omega), MR31 w, Option.bind_some, six, ML182 w (by omega), Option.bind_some, C q (by omega), ckM w, Option.bind_some, show fX14_links 165 (iN (c.getD q 0)) 1 11 h = _ from e1, Option.bind_some, i_succ, e2]
/-- the bases' links, and one of the place itself -/
theorem bas_e {i j : Nat} {c : List Nat} {h : hp} {l : List Lk} (hi : i < 12) (hj : j < 6) (hc : j < c.length) (w : WF h) (C : RCo h i c j) (M : ML3 h l) (hl : l.length + j + 1 ≤ 120) : ∃ h1, fX14_linksBases 165 (iN i) (iN j) h = some h1 ∧ WF h1 ∧ FS Plk h h1 ∧ ∀ a b : Nat, ∃ h', fX14_links 165 (iN (c.getD j 0)) (iN a) (iN b) h1 = some h' ∧ ML3 h' (l ++ (bsL c j ++ [(c.getD j 0, a, b)])) ∧ FS Plk h h' := by
  obtain ⟨h1, e1, M1, f1⟩ := bas_l hi hj j 0 FU h l w C (by omega) (FU_pos _ (by omega)) M (by omega)
  rw [lkR_bs c j (by omega)] at M1
  have hb : (bsL c j).length = j := by unfold bsL; rw [List.length_map, List.length_take]; omega
  refine ⟨h1, ?_, f1.wf w, f1, fun a b => ?_⟩
  · unfold fX14_linksBases
    rw [show fX14_linksBases_l2 FU 165 (iN i) (iN j) 0 h = _ from e1, Option.bind_some]
  · obtain ⟨h2, e2, M2, f2⟩ := lk_e (f1.wf w) M1 (by rw [List.length_append, hb]; omega) (c.getD j 0) a b
    rw [List.append_assoc] at M2
    exact ⟨h2, e2, M2, f1.tr f2⟩
/-- the chains that are open but the newest -/
def FRh (h : hp) (fr : Fr) : Prop := ∀ i f, fr[i]? = some f → RCo h i f.1 f.2.1 ∧ f.2.1 < f.1.length ∧ f.1.length ≤ 6 ∧ hI h 184 i = iN f.2.1 ∧ hI h 185 i = iN f.2.2.1
theorem FRh.fs {h h' : hp} {fr : Fr} (H : FRh h fr) (f : FS Plk h h') : FRh h' fr := fun i g e => by
  obtain ⟨a, b, c, d, e'⟩ := H i g e
  exact ⟨a.fs f, b, c, by rw [(f.2.2.2.2 184 i (by unfold Plk; omega)).1]; exact d, by rw [(f.2.2.2.2 185 i (by unfold Plk; omega)).1]; exact e'⟩
theorem fa_l {fr : Fr} (x2 x3 x4 : Int32) (h8 : fr.length ≤ 9) : ∀ (d i m : Nat) (h : hp) (l : List Lk), WF h → FRh h fr → i + d = fr.length → d < m → ML3 h l → l.length + 6 * d ≤ 108 → ∃ h', fX14_faults_l21 m 165 (iN fr.length) x2 x3 x4 (iN i) h = some h' ∧ ML3 h' (l ++ preF (fr.drop i)) ∧ FS Plk h h' ∧ (l ++ preF (fr.drop i)).length ≤ l.length + 6 * d := by
  intro d
  induction d with
  | zero =>
    intro i m h l w F hi hm M hl
    obtain ⟨m, rfl⟩ : ∃ x, m = x + 1 := ⟨m - 1, by omega⟩
    have e : preF (fr.drop i) = [] := by rw [List.drop_of_length_le (by omega)]; rfl
    refine ⟨h, ?_, by rw [e, List.append_nil]; exact M, FS.rf _ h, by rw [e, List.append_nil]; omega⟩
    rw [fX14_faults_l21, if_pos (by rw [i_le (by omega) (by omega)]; omega)]
  | succ d ih =>
    intro i m h l w F hi hm M hl
    obtain ⟨m, rfl⟩ : ∃ x, m = x + 1 := ⟨m - 1, by omega⟩
    have il : i < fr.length := by omega
    obtain ⟨C, jl, c6, p4, p5⟩ := F i fr[i] (List.getElem?_eq_getElem il)
    obtain ⟨h1, e1, w1, f1, nx⟩ := bas_e (show i < 12 by omega) (show fr[i].2.1 < 6 by omega) jl w C M (by omega)
    obtain ⟨h2, e2, M2, f2⟩ := nx fr[i].2.2.1 10
    have hb : (bsL fr[i].1 fr[i].2.1).length = fr[i].2.1 := by unfold bsL; rw [List.length_map, List.length_take]; omega
    have ll : (l ++ (bsL fr[i].1 fr[i].2.1 ++ [(fr[i].1.getD fr[i].2.1 0, fr[i].2.2.1, 10)])).length = l.length + (fr[i].2.1 + 1) := by rw [List.length_append, List.length_append, hb]; rfl
    obtain ⟨h3, e3, M3, f3, l3⟩ := ih (i + 1) m h2 _ (f2.wf w) (F.fs f2) (by omega) (by omega) M2 (by rw [ll]; omega)
    have n182 : hI h1 182 (6 * i + fr[i].2.1) = iN (fr[i].1.getD fr[i].2.1 0) := (C.fs f1) _ (Nat.le_refl _)
    have q4 : hI h1 184 i = iN fr[i].2.1 := by rw [(f1.2.2.2.2 184 i (by unfold Plk; omega)).1]; exact p4
    have q5 : hI h1 185 i = iN fr[i].2.2.1 := by rw [(f1.2.2.2.2 185 i (by unfold Plk; omega)).1]; exact p5
    have ed : preF (fr.drop i) = (bsL fr[i].1 fr[i].2.1 ++ [(fr[i].1.getD fr[i].2.1 0, fr[i].2.2.1, 10)]) ++ preF (fr.drop (i + 1)) := by rw [List.drop_eq_getElem_cons il, preF_cons]
    refine ⟨h3, ?_, by rw [ed, ← List.append_assoc]; exact M3, f2.tr f3, by rw [ed, ← List.append_assoc]; omega⟩
    rw [fX14_faults_l21, if_neg (by rw [i_le (by omega) (by omega)]; omega), MR33 w, Option.bind_some, ML184 w (by omega), Option.bind_some, p4, ckM w, Option.bind_some, e1, Option.bind_some, MR31 w1, Option.bind_some, MR33 w1, Option.bind_some, ML184 w1 (by omega), Option.bind_some, q4, six, ML182 w1 (by omega), Option.bind_some, n182, MR34 w1, Option.bind_some, ML185 w1 (by omega), Option.bind_some, q5, ckM w1, Option.bind_some, show fX14_links 165 _ (iN fr[i].2.2.1) 10 h1 = _ from e2, Option.bind_some, i_succ, e3]
abbrev Pfr (x k : Nat) : Prop := (x = 165 ∧ (k = 43 ∨ k = 47)) ∨ x = 189 ∨ x = 190 ∨ x = 191
theorem pM43 {h : hp} (w : WF h) (b : Bool) : pfZ h 165 13 43 (b2 b) = some (pI h 165 43 (b2 b)) := by
  unfold pfZ
  rw [T165 w, if_pos ⟨rfl, by cases b with
    | true => exact .inr rfl
    | false => exact .inl rfl⟩]
theorem rft_e {h : hp} {fr : Fr} {c : List Nat} {j : Nat} (ln s : Nat) (w : WF h) (F : FRh h fr) (C : RCo h fr.length c j) (jl : j < c.length) (c6 : c.length ≤ 6) (h8 : fr.length ≤ 9) (z : hI h 165 43 = 0) : ∃ h', fX14_faults 165 (iN fr.length) (iN j) (iN ln) (iN s) h = some h' ∧ hI h' 165 43 = 1 ∧ ML3 h' (preF fr ++ bsL c j ++ [(c.getD j 0, ln, s)]) ∧ FS Pfr h h' := by
  have up : ∀ {g g' : hp}, FS Plk g g' → FS Pfr g g' := fun f => f.up fun x k q => by unfold Plk at q; unfold Pfr; omega
  have w1 : WF (pI h 165 43 1) := w
  have w2 : WF (pI (pI h 165 43 1) 165 47 0) := w
  have f0 : FS Pfr h (pI (pI h 165 43 1) 165 47 0) := (FS.pI (.inl ⟨rfl, .inl rfl⟩)).tr (FS.pI (.inl ⟨rfl, .inr rfl⟩))
  have f182 : ∀ x k, x ≠ 165 → hI (pI (pI h 165 43 1) 165 47 0) x k = hI h x k := fun x k q => by rw [hI_pI, if_neg (by omega), hI_pI, if_neg (by omega)]
  have C0 : RCo (pI (pI h 165 43 1) 165 47 0) fr.length c j := fun q hq => by rw [f182 _ _ (by decide)]; exact C q hq
  have F0 : FRh (pI (pI h 165 43 1) 165 47 0) fr := fun i g e => by
    obtain ⟨a, b, c, d, e'⟩ := F i g e
    exact ⟨fun q hq => by rw [f182 _ _ (by decide)]; exact a q hq, b, c, by rw [f182 _ _ (by decide)]; exact d, by rw [f182 _ _ (by decide)]; exact e'⟩
  have M0 : ML3 (pI (pI h 165 43 1) 165 47 0) [] := ⟨by rw [hI_pI, if_pos ⟨rfl, rfl⟩]; rfl, fun q x e => by cases e⟩
  obtain ⟨h1, e1, M1, f1, l1⟩ := fa_l (iN j) (iN ln) (iN s) h8 fr.length 0 FU _ [] w2 F0 (by omega) (FU_pos _ (by omega)) M0 (by show 0 + _ ≤ 108; omega)
  rw [List.nil_append, List.drop_zero] at M1 l1
  have w3 := f1.wf w2
  have C1 := C0.fs f1
  obtain ⟨h2, e2, w4, f2, nx⟩ := bas_e (show fr.length < 12 by omega) (by omega) jl w3 C1 M1 (by have l1 : (preF fr).length ≤ 0 + 6 * fr.length := l1; omega)
  obtain ⟨h3, e3, M3, f3⟩ := nx ln s
  have n182 : hI h2 182 (6 * fr.length + j) = iN (c.getD j 0) := (C1.fs f2) _ (Nat.le_refl _)
  refine ⟨h3, ?_, ?_, by rw [List.append_assoc]; exact M3, f0.tr ((up f1).tr (up f3))⟩
  · unfold fX14_faults
    rw [gM w, Option.bind_some, z, if_pos rfl, show pfZ h 165 13 43 1 = some (pI h 165 43 1) from pM43 w true, Option.bind_some, pM (h := pI h 165 43 1) w, Option.bind_some, show fX14_faults_l21 FU 165 (iN fr.length) (iN j) (iN ln) (iN s) 0 _ = _ from e1, Option.bind_some, ckM w3, Option.bind_some, e2, Option.bind_some, MR31 w4, Option.bind_some, six, ML182 w4 (by omega), Option.bind_some, n182, ckM w4, Option.bind_some, e3, Option.bind_some]
  · rw [(f3.2.2.2.2 165 43 (by unfold Plk; omega)).1, (f1.2.2.2.2 165 43 (by unfold Plk; omega)).1, hI_pI, if_neg (by omega), hI_pI, if_pos ⟨rfl, rfl⟩]
theorem rft_no {h : hp} (w : WF h) (z : hI h 165 43 = 1) (a b c d : Int32) : fX14_faults 165 a b c d h = some h := by
  unfold fX14_faults
  rw [gM w, Option.bind_some, z, if_neg (by decide)]

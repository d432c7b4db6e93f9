/-! the class's walk: a fault is told; the small pieces of it -/
/-- d links of a chain from place q on -/
def lkR (c : List Nat) : Nat → Nat → List Lk
  | 0, _ => []
  | d + 1, q => (c.getD q 0, 1, 11) :: lkR c d (q + 1)
theorem lkR_len (c : List Nat) : ∀ d q, (lkR c d q).length = d := by
  intro d
  induction d with
  | zero => intro q; rfl
  | succ d ih => intro q; show (lkR c d (q + 1)).length + 1 = _; rw [ih]
theorem lkR_e (c : List Nat) : ∀ d q, q + d ≤ c.length → lkR c d q = ((c.drop q).take d).map fun k => ((k, 1, 11) : Lk) := by
  intro d
  induction d with
  | zero => intro q _; rw [List.take_zero]; rfl
  | succ d ih =>
    intro q h
    have e : c.drop q = c.getD q 0 :: c.drop (q + 1) := by
      rw [List.drop_eq_getElem_cons (show q < c.length by omega), List.getD_eq_getElem?_getD, List.getElem?_eq_getElem (show q < c.length by omega)]; rfl
    rw [e, List.take_succ_cons, List.map_cons, ← ih (q + 1) (by omega)]
    rfl
theorem lkR_bs (c : List Nat) (j : Nat) (h : j ≤ c.length) : lkR c j 0 = bsL c j := by rw [lkR_e c j 0 (by omega)]; rfl
abbrev P86 : Nat → Nat → Prop := fun x _ => x = 86 ∨ x = 87
theorem CHh.fs86 {h h' : hp} {i : Nat} {c : List Nat} {pl : Nat} {bb : Option Nat} (H : CHh h i c pl bb) (f : FS P86 h h') : CHh h' i c pl bb := H.fs f (fun k _ q => by unfold P86 at q; omega) (fun k q => by unfold P86 at q; omega)
theorem at_e {h : hp} {i q : Nat} {c : List Nat} {pl : Nat} {bb : Option Nat} (w : WF h) (hi : i < 9) (C : CHh h i c pl bb) (hq : q < c.length) : fX1_at (147 + 2 * i) (iN q) h = some (iN (c.getD q 0), h) := by
  obtain ⟨a1, a2, a3, a4, a5, a6⟩ := C
  have al : aln 0 h (148 + 2 * i) = some (iN 6) := by unfold aln; rw [(ch_T w hi).2.1]; rfl
  have nz : ¬ (iN q < 0) := by rw [i_nlt]; exact i0_le _ (by omega)
  have le : ¬ (iN 6 ≤ iN q) := by rw [i_le (by omega) (by omega)]; omega
  unfold fX1_at
  rw [if_neg nz, gCR w hi, Option.bind_some, al, Option.bind_some, if_neg le, Option.bind_some, al_e (ch_T w hi).2.1 (by omega) (by decide), Option.bind_some, (a6 q hq).1]
theorem fltL_snoc (l : List Lk) (a b c : Nat) : fltL (l ++ [(a, b, c)]) = fltL l ++ [iN a, iN b, iN c] := by rw [fltL_app]; rfl
theorem tell_l {i : Nat} {c : List Nat} {pl : Nat} {bb : Option Nat} (hi : i < 9) (a b : Int32) : ∀ (d q m : Nat) (h : hp) (l : List Lk), WF h → CHh h i c pl bb → q + d = pl → d < m → NL h 86 87 162 (fltL l) → l.length + d ≤ 54 → ∃ h', fX1_tell_l3 m (147 + 2 * i) 86 a b (iN q) h = some h' ∧ NL h' 86 87 162 (fltL (l ++ lkR c d q)) ∧ FS P86 h h' := by
  intro d
  induction d with
  | zero =>
    intro q m h l w C hq hm N hl
    obtain ⟨m, rfl⟩ : ∃ x, m = x + 1 := ⟨m - 1, by omega⟩
    have le : iN pl ≤ iN q := by rw [i_le (by have := C.2.2.2.2.1; have := C.2.2.2.1; omega) (by have := C.2.2.2.2.1; have := C.2.2.2.1; omega)]; omega
    refine ⟨h, ?_, by rw [show lkR c 0 q = [] from rfl, List.append_nil]; exact N, FS.rf _ h⟩
    unfold fX1_tell_l3
    rw [gC w hi, Option.bind_some, C.2.1, if_pos le]
  | succ d ih =>
    intro q m h l w C hq hm N hl
    obtain ⟨m, rfl⟩ : ∃ x, m = x + 1 := ⟨m - 1, by omega⟩
    have hc := C.2.2.2.2.1
    have h6 := C.2.2.2.1
    have le : ¬ (iN pl ≤ iN q) := by rw [i_le (by omega) (by omega)]; omega
    obtain ⟨h1, e1, N1, f1⟩ := addLk w N (by rw [fltL_len]; omega) (iN (c.getD q 0)) 1 11
    rw [show [iN (c.getD q 0), (1 : Int32), 11] = [iN (c.getD q 0), iN 1, iN 11] from rfl, ← fltL_snoc] at N1
    obtain ⟨h2, e2, N2, f2⟩ := ih (q + 1) m h1 _ (f1.wf w) (C.fs86 f1) (by omega) (by omega) N1 (by rw [List.length_append]; show l.length + 1 + d ≤ 54; omega)
    refine ⟨h2, ?_, by rw [List.append_assoc] at N2; exact N2, f1.tr f2⟩
    unfold fX1_tell_l3
    rw [gC w hi, Option.bind_some, C.2.1, if_neg le, ckC w hi, Option.bind_some, at_e w hi C (by omega), bd2_s, ckN N.1, Option.bind_some, e1, Option.bind_some, i_succ, e2]
theorem tell_e {i : Nat} {c : List Nat} {pl : Nat} {bb : Option Nat} {h : hp} {l : List Lk} (hi : i < 9) (a b : Nat) (w : WF h) (C : CHh h i c pl bb) (N : NL h 86 87 162 (fltL l)) (hl : l.length + pl + 1 ≤ 54) : ∃ h', fX1_tell (147 + 2 * i) 86 (iN a) (iN b) h = some h' ∧ NL h' 86 87 162 (fltL (l ++ (bsL c pl ++ [(c.getD pl 0, a, b)]))) ∧ FS P86 h h' := by
  have hc := C.2.2.2.2.1
  have h6 := C.2.2.2.1
  obtain ⟨h1, e1, N1, f1⟩ := tell_l hi (iN a) (iN b) pl 0 FU h l w C (by omega) (FU_pos _ (by omega)) N (by omega)
  rw [lkR_bs c pl (by omega)] at N1
  have w1 := f1.wf w
  have C1 := C.fs86 f1
  have hb : (bsL c pl).length = pl := by unfold bsL; rw [List.length_map, List.length_take]; omega
  obtain ⟨h2, e2, N2, f2⟩ := addLk w1 N1 (by rw [fltL_len, List.length_append, hb]; omega) (iN (c.getD pl 0)) (iN a) (iN b)
  rw [← fltL_snoc, List.append_assoc] at N2
  refine ⟨h2, ?_, N2, f1.tr f2⟩
  unfold fX1_tell
  rw [show fX1_tell_l3 FU (147 + 2 * i) 86 (iN a) (iN b) 0 h = _ from e1, Option.bind_some, gC w1 hi, Option.bind_some, ckC w1 hi, Option.bind_some, C1.2.1, at_e w1 hi C1 (by omega), bd2_s, ckN N1.1, Option.bind_some, e2, Option.bind_some]
theorem preF_cons (f : List Nat × Nat × Nat × Option Nat) (fr : Fr) : preF (f :: fr) = (bsL f.1 f.2.1 ++ [(f.1.getD f.2.1 0, f.2.2.1, 10)]) ++ preF fr := rfl
theorem fail_l {fr : Fr} {c : List Nat} {j : Nat} {bb : Option Nat} {ln s : Nat} (h8 : fr.length ≤ 8) : ∀ (d i m : Nat) (h : hp) (l : List Lk), WF h → FHh h fr → CHh h fr.length c j bb → hI h 134 11 = iN (fr.length + 1) → i + d = fr.length → d + 1 < m → NL h 86 87 162 (fltL l) → l.length + 6 * (d + 1) ≤ 54 → ∃ h', fX12_fail_l22 m 134 (iN ln) (iN s) (iN i) h = some h' ∧ NL h' 86 87 162 (fltL (l ++ (preF (fr.drop i) ++ (bsL c j ++ [(c.getD j 0, ln, s)])))) ∧ FS P86 h h' := by
  intro d
  induction d with
  | zero =>
    intro i m h l w F C o hi hm N hl
    obtain ⟨m, rfl⟩ : ∃ x, m = x + 1 := ⟨m - 1, by omega⟩
    obtain ⟨m, rfl⟩ : ∃ x, m = x + 1 := ⟨m - 1, by omega⟩
    have hi' : i = fr.length := by omega
    subst hi'
    have hc := C.2.2.2.2.1
    have h6 := C.2.2.2.1
    obtain ⟨h1, e1, N1, f1⟩ := tell_e (by omega) ln s w C N (by omega)
    have al : ∀ g : hp, WF g → aln 2 g 135 = some (iN 9) := fun g wg => by unfold aln; rw [T135 wg]; rfl
    have n1 : ¬ (iN (fr.length + 1) ≤ iN fr.length) := by rw [i_le (by omega) (by omega)]; omega
    have n2 : ¬ (iN 9 ≤ iN fr.length) := by rw [i_le (by omega) (by omega)]; omega
    have y3 : iN (fr.length + 1) - 1 ≤ iN fr.length := by rw [show (1 : Int32) = iN 1 from rfl, i_sub (by omega), i_le (by omega) (by omega)]; omega
    have w1 := f1.wf w
    have o1 : hI h1 134 11 = iN (fr.length + 1) := by rw [(f1.2.2.2.2 134 11 (by unfold P86; omega)).1]; exact o
    have y4 : iN (fr.length + 1) ≤ iN fr.length + 1 := by rw [i_succ]; exact (i_le (by omega) (by omega)).mpr (Nat.le_refl _)
    refine ⟨h1, ?_, by rw [List.drop_length]; exact N1, f1⟩
    unfold fX12_fail_l22
    rw [gW w, Option.bind_some, o, if_neg n1, gWR w, R134_2 w, Option.bind_some, al h w, Option.bind_some, if_neg n2, Option.bind_some, if_pos y3, Option.bind_some, alCh w (by omega), Option.bind_some, gWR w, R134_1 w, Option.bind_some, ckC w (by omega), Option.bind_some, e1, Option.bind_some]
    unfold fX12_fail_l22
    rw [gW w1, Option.bind_some, o1, if_pos y4]
  | succ d ih =>
    intro i m h l w F C o hi hm N hl
    obtain ⟨m, rfl⟩ : ∃ x, m = x + 1 := ⟨m - 1, by omega⟩
    have il : i < fr.length := by omega
    obtain ⟨Ci, l4⟩ := F i fr[i] (List.getElem?_eq_getElem il)
    have hc := Ci.2.2.2.2.1
    have h6 := Ci.2.2.2.1
    obtain ⟨h1, e1, N1, f1⟩ := tell_e (by omega) (fr[i].2.2.1) 10 w Ci N (by omega)
    have al : aln 2 h 135 = some (iN 9) := by unfold aln; rw [T135 w]; rfl
    have n1 : ¬ (iN (fr.length + 1) ≤ iN i) := by rw [i_le (by omega) (by omega)]; omega
    have n2 : ¬ (iN 9 ≤ iN i) := by rw [i_le (by omega) (by omega)]; omega
    have y3 : ¬ (iN (fr.length + 1) - 1 ≤ iN i) := by rw [show (1 : Int32) = iN 1 from rfl, i_sub (by omega), i_le (by omega) (by omega)]; omega
    have w1 := f1.wf w
    have o1 : hI h1 134 11 = iN (fr.length + 1) := by rw [(f1.2.2.2.2 134 11 (by unfold P86; omega)).1]; exact o
    have hb : (bsL fr[i].1 fr[i].2.1).length = fr[i].2.1 := by unfold bsL; rw [List.length_map, List.length_take]; omega
    have F1 : FHh h1 fr := F.fs f1 (fun k _ hk => ⟨fun q => by unfold P86 at q; omega, fun q => by unfold P86 at q; omega⟩)
    obtain ⟨h2, e2, N2, f2⟩ := ih (i + 1) m h1 _ w1 F1 (C.fs86 f1) o1 (by omega) (by omega) N1 (by rw [List.length_append, List.length_append, hb]; show l.length + (fr[i].2.1 + 1) + _ ≤ 54; omega)
    refine ⟨h2, ?_, ?_, f1.tr f2⟩
    · unfold fX12_fail_l22
      rw [gW w, Option.bind_some, o, if_neg n1, gWR w, R134_2 w, Option.bind_some, al, Option.bind_some, if_neg n2, Option.bind_some, if_neg y3, Option.bind_some, alCh w (by omega), Option.bind_some, gWR w, R134_1 w, Option.bind_some, Option.bind_some, alCh w (by omega), Option.bind_some, gC w (by omega), Option.bind_some, ckC w (by omega), Option.bind_some, l4, show fX1_tell (147 + 2 * i) 86 (iN fr[i].2.2.1) 10 h = _ from e1, Option.bind_some, i_succ, e2]
    · rw [List.drop_eq_getElem_cons il, preF_cons]
      simp only [List.append_assoc] at N2 ⊢
      exact N2
abbrev Pfl : Nat → Nat → Prop := fun x k => (x = 134 ∧ k = 17) ∨ x = 86 ∨ x = 87
theorem fail_e {h : hp} {fr : Fr} {c : List Nat} {j : Nat} {bb : Option Nat} (ln s : Nat) (w : WF h) (F : FHh h fr) (C : CHh h fr.length c j bb) (h8 : fr.length ≤ 8) (o : hI h 134 11 = iN (fr.length + 1)) (z : hI h 134 17 = 0) : ∃ h', fX12_fail 134 (iN ln) (iN s) h = some h' ∧ hI h' 134 17 = 1 ∧ NL h' 86 87 162 (fltL (preF fr ++ bsL c j ++ [(c.getD j 0, ln, s)])) ∧ FS Pfl h h' := by
  have f1 : FS Pfl h (pI (pI h 134 17 1) 86 1 0) := FS.tr (FS.pI (.inl ⟨rfl, rfl⟩)) (FS.pI (.inr (.inl rfl)))
  have w1 : WF (pI (pI h 134 17 1) 86 1 0) := f1.wf w
  have N0 : NL (pI (pI h 134 17 1) 86 1 0) 86 87 162 (fltL []) := ⟨NO_links w1, by rw [hI_pI, if_pos ⟨rfl, rfl⟩]; rfl, by decide, fun k hk => absurd hk (by show ¬ k < 0; omega)⟩
  have np : ∀ x k, x ≠ 134 → x ≠ 86 → x ≠ 87 → ¬ Pfl x k := fun x k _ _ _ q => by unfold Pfl at q; omega
  have F1 : FHh (pI (pI h 134 17 1) 86 1 0) fr := F.fs f1 (fun k _ hk => ⟨np _ _ (by omega) (by omega) (by omega), np _ _ (by omega) (by omega) (by omega)⟩)
  have C1 : CHh (pI (pI h 134 17 1) 86 1 0) fr.length c j bb := C.fs f1 (fun k _ => np _ _ (by omega) (by omega) (by omega)) (fun k => np _ _ (by omega) (by omega) (by omega))
  obtain ⟨h2, e2, N2, f2⟩ := fail_l (ln := ln) (s := s) h8 fr.length 0 FU (pI (pI h 134 17 1) 86 1 0) [] w1 F1 C1 (by rw [hI_pI, if_neg (by omega), hI_pI, if_neg (by omega)]; exact o) (by omega) (FU_pos _ (by omega)) N0 (by show 0 + _ ≤ 54; omega)
  have w1' : WF (pI h 134 17 1) := w
  have ep : pfZ h 134 11 17 1 = some (pI h 134 17 1) := pWz w 17 true
  refine ⟨h2, ?_, ?_, ?_, f1.tr (f2.up fun x k q => .inr q)⟩
  · unfold fX12_fail
    rw [gW w, Option.bind_some, z, if_pos rfl, ep, Option.bind_some, gWR w1', R134_1 w1', Option.bind_some, ckN (NO_links w1'), Option.bind_some, nEmpty (NO_links w1'), Option.bind_some, show fX12_fail_l22 FU 134 (iN ln) (iN s) 0 _ = _ from e2, Option.bind_some]
  · rw [(f2.2.2.2.2 134 17 (by unfold P86; omega)).1, hI_pI, if_neg (by omega), hI_pI, if_pos ⟨rfl, rfl⟩]
  · rw [List.append_assoc]; exact N2
theorem fail_no {h : hp} (w : WF h) (z : hI h 134 17 = 1) (a b : Int32) : fX12_fail 134 a b h = some h := by
  unfold fX12_fail
  rw [gW w, Option.bind_some, z, if_neg (by decide)]
/-- the context behind a byte -/
theorem behind_e (c : Nat) (hc : c ≤ 3) (x : Int32) (h : hp) : fX12_behind (iN c) x h = some (iN (behW c x), h) ∧ behW c x ≤ 3 := by
  have n1 : ¬ ((1 : Int32) = 0) := by decide
  have n2 : ¬ ((2 : Int32) = 0) := by decide
  have n3 : ¬ ((3 : Int32) = 0) := by decide
  have n4 : ¬ ((2 : Int32) = 1) := by decide
  have n5 : ¬ ((3 : Int32) = 1) := by decide
  have n6 : ¬ ((3 : Int32) = 2) := by decide
  unfold fX12_behind behW
  rcases (by omega : c = 0 ∨ c = 1 ∨ c = 2 ∨ c = 3) with rfl | rfl | rfl | rfl
  · rw [show iN 0 = 0 from rfl, if_pos rfl, if_pos rfl]
    by_cases a : x = 60
    · rw [if_pos a, if_pos a]; exact ⟨rfl, by omega⟩
    · rw [if_neg a, if_neg a]
      by_cases b : x = 96
      · rw [if_pos b, if_pos b]; exact ⟨rfl, by omega⟩
      · rw [if_neg b, if_neg b]; exact ⟨rfl, by omega⟩
  · rw [show iN 1 = 1 from rfl, if_neg n1, if_pos rfl, if_neg (by decide : ¬ (1 : Nat) = 0), if_pos rfl]
    by_cases a : x = 62
    · rw [if_pos a, if_pos a]; exact ⟨rfl, by omega⟩
    · rw [if_neg a, if_neg a]
      by_cases b : x = 34
      · rw [if_pos b, if_pos b]; exact ⟨rfl, by omega⟩
      · rw [if_neg b, if_neg b]; exact ⟨rfl, by omega⟩
  · rw [show iN 2 = 2 from rfl, if_neg n2, if_neg n4, if_pos rfl, if_neg (by decide : ¬ (2 : Nat) = 0), if_neg (by decide : ¬ (2 : Nat) = 1), if_pos rfl]
    by_cases a : x = 34
    · rw [if_pos a, if_pos a]; exact ⟨rfl, by omega⟩
    · rw [if_neg a, if_neg a]; exact ⟨rfl, by omega⟩
  · rw [show iN 3 = 3 from rfl, if_neg n3, if_neg n5, if_neg n6, if_neg (by decide : ¬ (3 : Nat) = 0), if_neg (by decide : ¬ (3 : Nat) = 1), if_neg (by decide : ¬ (3 : Nat) = 2)]
    by_cases a : x = 96
    · rw [if_pos a, if_pos a]; exact ⟨rfl, by omega⟩
    · rw [if_neg a, if_neg a]; exact ⟨rfl, by omega⟩

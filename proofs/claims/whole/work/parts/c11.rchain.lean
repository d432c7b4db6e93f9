/-! the reference's walk: texts, chains -/
def RTh (h : hp) (tp : Tp) : Prop := ∀ k, k < 6 → match tp k with
  | none => hI h 174 k = -1
  | some x => TX h k x.1 ∧ pTop x.1 = .inl ((x.2.1, x.2.2), x.1.length)
theorem RTh.fm {P : Nat → Nat → Prop} {h h' : hp} {tp : Tp} (H : RTh h tp) (f : FM P h h') (hP : ∀ x j, P x j → x ≠ 173 ∧ x ≠ 174) : RTh h' tp := fun k hk => by
  have a := H k hk
  cases ht : tp k with
  | none =>
    rw [ht] at a
    have a' : hI h 174 k = -1 := a
    show hI h' 174 k = -1
    rw [f.i (fun q => (hP _ _ q).2 rfl)]; exact a'
  | some x =>
    rw [ht] at a
    exact ⟨a.1.fm f hP, a.2⟩
theorem RTh.at {h : hp} {tp : Tp} (H : RTh h tp) {k : Nat} (hk : k < 6) {x : List Int32 × Option Nat × TY 5} (e : tp k = some x) : TX h k x.1 ∧ pTop x.1 = .inl ((x.2.1, x.2.2), x.1.length) := by
  have a := H k hk
  rw [e] at a
  exact a
theorem RTh.no {h : hp} {tp : Tp} (H : RTh h tp) {k : Nat} (hk : k < 6) (e : tp k = none) : hI h 174 k = -1 := by
  have a := H k hk
  rw [e] at a
  exact a
def RCa (h : hp) (i : Nat) (c : List Nat) : Prop := RCo h i c (c.length - 1) ∧ hI h 183 i = iN c.length
def okC (tp : Tp) (c : List Nat) : Prop := 1 ≤ c.length ∧ c.length ≤ 6 ∧ ∀ q, q < c.length → c.getD q 0 < 6 ∧ ∃ x, tp (c.getD q 0) = some x
abbrev Pcn (i x k : Nat) : Prop := (x = 182 ∧ 6 * i ≤ k ∧ k < 6 * i + 6) ∨ (x = 183 ∧ k = i)
theorem RCo.fm {P : Nat → Nat → Prop} {h h' : hp} {i j : Nat} {c : List Nat} (H : RCo h i c j) (f : FM P h h') (hP : ∀ k, k ≤ 6 * i + j → ¬ P 182 k) : RCo h' i c j := fun q hq => by rw [f.i (hP _ (by omega))]; exact H q hq
theorem FRh.fm {P : Nat → Nat → Prop} {h h' : hp} {fr : Fr} (H : FRh h fr) (f : FM P h h') (hP : ∀ x k, P x k → ¬ ((x = 182 ∧ k < 6 * fr.length) ∨ ((x = 184 ∨ x = 185) ∧ k < fr.length))) : FRh h' fr := fun i g e => by
  obtain ⟨a, b, c, d, e'⟩ := H i g e
  have hi : i < fr.length := (List.getElem?_eq_some_iff.mp e).1
  exact ⟨a.fm f (fun k hk q => hP _ _ q (.inl ⟨rfl, by omega⟩)), b, c, by rw [f.i (fun q => hP _ _ q (.inr ⟨.inl rfl, hi⟩))]; exact d, by rw [f.i (fun q => hP _ _ q (.inr ⟨.inr rfl, hi⟩))]; exact e'⟩
theorem bd3_s {A B C D : Type} (a : A) (b : B) (c : C) (f : A → B → C → Option D) : bd3 (some (a, b, c)) f = f a b c := rfl
theorem nl0 {k : Nat} (hk : k < 2147483648) : ¬ iN k < 0 := by rw [i_lt_lit (by omega) (by omega)]; exact Nat.not_lt_zero _
theorem gapp (c : List Nat) (k q : Nat) : (c ++ [k]).getD q 0 = if q < c.length then c.getD q 0 else if q = c.length then k else 0 := by
  rw [List.getD_eq_getElem?_getD, List.getD_eq_getElem?_getD]
  by_cases h : q < c.length
  · rw [if_pos h, List.getElem?_append_left h]
  · rw [if_neg h, List.getElem?_append_right (by omega)]
    by_cases e : q = c.length
    · rw [if_pos e, e, Nat.sub_self]; rfl
    · rw [if_neg e, List.getElem?_eq_none (by show 1 ≤ q - c.length; omega)]; rfl
/-- what going along a chain gives -/
def CHQ (tp : Tp) (i : Nat) (h : hp) (F : Option (Nat × Int32 × hp)) (R : Sum (List Nat × TY 5) (List Nat × Nat × Nat)) : Prop :=
  match R with
  | .inl x => ∃ h', F = some (2, 0, h') ∧ FS (Pcn i) h h' ∧ RCa h' i x.1 ∧ okC tp x.1 ∧ ∃ L, tp (x.1.getD (x.1.length - 1) 0) = some (L, none, x.2)
  | .inr x => ∃ h' t, F = some (t, iN (x.1.length - 1), h') ∧ FS (Pcn i) h h' ∧ RCo h' i x.1 (x.1.length - 1) ∧ 1 ≤ x.1.length ∧ x.1.length ≤ 6 ∧ ((t = 0 ∧ x.2 = (0, 1)) ∨ (t = 1 ∧ x.2 = (1, 7)))
theorem CHQ.pre {tp : Tp} {i : Nat} {h h1 : hp} {F : Option (Nat × Int32 × hp)} {R : Sum (List Nat × TY 5) (List Nat × Nat × Nat)} (f : FS (Pcn i) h h1) (H : CHQ tp i h1 F R) : CHQ tp i h F R := by
  cases R with
  | inl x =>
    obtain ⟨h', a, b, c⟩ := H
    exact ⟨h', a, f.tr b, c⟩
  | inr x =>
    obtain ⟨h', t, a, b, c⟩ := H
    exact ⟨h', t, a, f.tr b, c⟩
theorem ch_l {tp : Tp} {i : Nat} (hi : i < 12) : ∀ (n k m : Nat) (h : hp) (c : List Nat), RTh h tp → WF h → (∀ q, q < c.length → hI h 182 (6 * i + q) = iN (c.getD q 0)) → hI h 183 i = iN c.length → (∀ q, q < c.length → c.getD q 0 < 6 ∧ ∃ x, tp (c.getD q 0) = some x) → n + c.length = 6 → 1 ≤ n → k < 6 → n + 1 < m → CHQ tp i h (fX14_isChained_l9 m 165 (iN i) (iN k) h) (chW tp n k c) := by
  intro n
  induction n with
  | zero => intro k m h c _ _ _ _ _ _ h1; omega
  | succ n ih =>
    intro k m h c H w C c183 ok hn _ hk hm
    obtain ⟨m, rfl⟩ : ∃ q, m = q + 1 := ⟨m - 1, by omega⟩
    have w1 : WF (pI h 182 (6 * i + c.length) (iN k)) := w
    have f1 : FS (Pcn i) h (pI h 182 (6 * i + c.length) (iN k)) := FS.pI (.inl ⟨rfl, by omega, by omega⟩)
    have H1 := H.fm f1.fm (fun x j q => by unfold Pcn at q; omega)
    have len : (c ++ [k]).length = c.length + 1 := List.length_append
    have C1 : ∀ q, q < c.length + 1 → hI (pI h 182 (6 * i + c.length) (iN k)) 182 (6 * i + q) = iN ((c ++ [k]).getD q 0) := fun q hq => by
      rw [hI_pI, gapp]
      by_cases e : q = c.length
      · rw [if_pos ⟨rfl, by omega⟩, if_neg (by omega), if_pos e]
      · rw [if_neg (by omega), if_pos (by omega)]; exact C q (by omega)
    have c183' : hI (pI h 182 (6 * i + c.length) (iN k)) 183 i = iN c.length := by rw [hI_pI, if_neg (by omega)]; exact c183
    have st : fX14_isChained_l9 (m + 1) 165 (iN i) (iN k) h = (if 0 ≤ hI (pI h 182 (6 * i + c.length) (iN k)) 174 k then (ckT (pI (pI h 182 (6 * i + c.length) (iN k)) 183 i (iN (c.length + 1))) 165 13).bind fun _ => bd2 (fX14_extended 165 (iN k) (pI (pI h 182 (6 * i + c.length) (iN k)) 183 i (iN (c.length + 1)))) fun v20 h21 => if v20 < 0 then fX14_isChained_l9 m 165 (iN i) v20 h21 else (gfR h21 165 13 32).bind fun v23 => (alI h21 v23 (iN i)).bind fun v25 => if v25 = 6 then some (1, iN c.length, h21) else fX14_isChained_l9 m 165 (iN i) v20 h21 else some (0, iN c.length, pI h 182 (6 * i + c.length) (iN k))) := by
      rw [fX14_isChained_l9, if_neg (nl0 (by omega)), MR32 w, Option.bind_some, ML183 w hi, Option.bind_some, c183, MR31 w, Option.bind_some, six, MS182 w (by omega), Option.bind_some, MR9 w1, Option.bind_some, ML174 w1 hk, Option.bind_some, MR32 w1, Option.bind_some, ML183 w1 hi, Option.bind_some, c183', i_succ, MS183 w1 hi, Option.bind_some]
    rw [st]
    cases ht : tp k with
    | none =>
      rw [show chW tp (n + 1) k c = .inr (c ++ [k], 0, 1) by simp only [chW, ht], H1.no hk ht, if_neg n0_le]
      refine ⟨pI h 182 (6 * i + c.length) (iN k), 0, ?_, f1, ?_, ?_, ?_, .inl ⟨rfl, rfl⟩⟩
      · show some (0, iN c.length, _) = some (0, iN ((c ++ [k]).length - 1), _); rw [len]; rfl
      · show RCo _ i (c ++ [k]) ((c ++ [k]).length - 1); rw [len]; exact fun q hq => C1 q (by omega)
      · show 1 ≤ (c ++ [k]).length; omega
      · show (c ++ [k]).length ≤ 6; omega
    | some x =>
      obtain ⟨L, b, t⟩ := x
      obtain ⟨T1, top⟩ := H1.at hk ht
      have w2 : WF (pI (pI h 182 (6 * i + c.length) (iN k)) 183 i (iN (c.length + 1))) := w
      have f2 : FS (Pcn i) h (pI (pI h 182 (6 * i + c.length) (iN k)) 183 i (iN (c.length + 1))) := f1.tr (FS.pI (.inr ⟨rfl, rfl⟩))
      have H2 := H.fm f2.fm (fun x j q => by unfold Pcn at q; omega)
      have T2 := (H2.at hk ht).1
      have hl : L.length ≤ 160 := T1.2.2.1
      have e174 : hI (pI h 182 (6 * i + c.length) (iN k)) 174 k = iN L.length := T1.2.2.2.1
      have C2 : ∀ q, q < c.length + 1 → hI (pI (pI h 182 (6 * i + c.length) (iN k)) 183 i (iN (c.length + 1))) 182 (6 * i + q) = iN ((c ++ [k]).getD q 0) := fun q hq => by rw [hI_pI, if_neg (by omega)]; exact C1 q hq
      have d2 : hI (pI (pI h 182 (6 * i + c.length) (iN k)) 183 i (iN (c.length + 1))) 183 i = iN (c.length + 1) := by rw [hI_pI, if_pos ⟨rfl, rfl⟩]
      have ok2 : ∀ q, q < c.length + 1 → (c ++ [k]).getD q 0 < 6 ∧ ∃ x, tp ((c ++ [k]).getD q 0) = some x := fun q hq => by
        rw [gapp]
        by_cases e : q < c.length
        · rw [if_pos e]; exact ok q e
        · rw [if_neg e, if_pos (by omega)]; exact ⟨hk, _, ht⟩
      obtain ⟨ex, exq⟩ := ext_e T2 top
      rw [e174, if_pos (i0_le _ (by omega)), ckM w2, Option.bind_some, ex, bd2_s]
      cases b with
      | none =>
        rw [show chW tp (n + 1) k c = .inl (c ++ [k], t) by simp only [chW, ht]]
        obtain ⟨m, rfl⟩ : ∃ q, m = q + 1 := ⟨m - 1, by omega⟩
        dsimp only
        rw [if_pos (show (-5 : Int32) < 0 by decide), fX14_isChained_l9, if_pos (show (-5 : Int32) < 0 by decide)]
        refine ⟨_, rfl, f2, ⟨?_, ?_⟩, ⟨?_, ?_, ?_⟩, L, ?_⟩
        · show RCo _ i (c ++ [k]) ((c ++ [k]).length - 1); rw [len]; exact fun q hq => C2 q (by omega)
        · show _ = iN (c ++ [k]).length; rw [len]; exact d2
        · show 1 ≤ (c ++ [k]).length; omega
        · show (c ++ [k]).length ≤ 6; omega
        · intro q hq
          have hq' : q < (c ++ [k]).length := hq
          exact ok2 q (by omega)
        · show tp ((c ++ [k]).getD ((c ++ [k]).length - 1) 0) = _
          rw [len, Nat.add_sub_cancel, gapp, if_neg (by omega), if_pos rfl, ht]
      | some q =>
        have q6 := exq q rfl
        rw [show chW tp (n + 1) k c = chW tp n q (c ++ [k]) by simp only [chW, ht]]
        dsimp only
        rw [if_neg (nl0 (by omega)), MR32 w2, Option.bind_some, ML183 w2 hi, Option.bind_some, d2]
        by_cases n0 : n = 0
        · subst n0
          rw [if_pos (show iN (c.length + 1) = 6 from (i_eq (a := c.length + 1) (b := 6) (by omega) (by decide)).mpr (show c.length + 1 = 6 by omega))]
          refine ⟨_, 1, ?_, f2, ?_, ?_, ?_, .inr ⟨rfl, rfl⟩⟩
          · show some (1, iN c.length, _) = some (1, iN ((c ++ [k]).length - 1), _); rw [len]; rfl
          · show RCo _ i (c ++ [k]) ((c ++ [k]).length - 1); rw [len]; exact fun q hq => C2 q (by omega)
          · show 1 ≤ (c ++ [k]).length; omega
          · show (c ++ [k]).length ≤ 6; omega
        · rw [if_neg (show ¬ iN (c.length + 1) = 6 from fun z => by have := (i_eq (a := c.length + 1) (b := 6) (by omega) (by decide)).mp z; omega)]
          refine (ih q m _ (c ++ [k]) H2 w2 (fun q hq => C2 q (by omega)) (by rw [len]; exact d2) (fun q hq => ok2 q (by omega)) (by omega) (by omega) q6 (by omega)).pre f2
theorem isCh_e {h : hp} {tp : Tp} {fr : Fr} {k : Nat} (w : WF h) (H : RTh h tp) (F : FRh h fr) (h8 : fr.length ≤ 9) (hk : k < 6) (z : hI h 165 43 = 0) :
    (∀ x, chW tp 6 k [] = .inl x → ∃ h', fX14_isChained 165 (iN fr.length) (iN k) h = some (1, h') ∧ FS (Pcn fr.length) h h' ∧ RCa h' fr.length x.1 ∧ okC tp x.1 ∧ ∃ L, tp (x.1.getD (x.1.length - 1) 0) = some (L, none, x.2)) ∧
    (∀ x, chW tp 6 k [] = .inr x → ∃ h', fX14_isChained 165 (iN fr.length) (iN k) h = some (0, h') ∧ FS (fun x k => Pcn fr.length x k ∨ Pfr x k) h h' ∧ hI h' 165 43 = 1 ∧ ML3 h' (preF fr ++ bsL x.1 (x.1.length - 1) ++ [(x.1.getD (x.1.length - 1) 0, x.2.1, x.2.2)])) := by
  have w1 : WF (pI h 183 fr.length (iN 0)) := w
  have f1 : FS (Pcn fr.length) h (pI h 183 fr.length (iN 0)) := FS.pI (.inr ⟨rfl, rfl⟩)
  have K := (ch_l (tp := tp) (i := fr.length) (by omega) 6 k FU (pI h 183 fr.length (iN 0)) [] (H.fm f1.fm (fun x j q => by unfold Pcn at q; omega)) w1 (fun q hq => absurd hq (Nat.not_lt_zero _)) (by rw [hI_pI, if_pos ⟨rfl, rfl⟩]; rfl) (fun q hq => absurd hq (Nat.not_lt_zero _)) rfl (by decide) hk (FU_pos _ (by decide))).pre f1
  have st : fX14_isChained 165 (iN fr.length) (iN k) h = bd3 (fX14_isChained_l9 FU 165 (iN fr.length) (iN k) (pI h 183 fr.length (iN 0))) fun t8 v7 h6 => if t8 = 0 then (ckT h6 165 13).bind fun _ => (fX14_faults 165 (iN fr.length) v7 0 1 h6).bind fun h10 => some (0, h10) else if t8 = 1 then (ckT h6 165 13).bind fun _ => (fX14_faults 165 (iN fr.length) v7 1 7 h6).bind fun h13 => some (0, h13) else if t8 = 2 then some (1, h6) else none := by
    unfold fX14_isChained
    rw [MR32 w, Option.bind_some, MS183 w (show fr.length < 12 by omega), Option.bind_some]
    rfl
  rw [st]
  refine ⟨fun x e => ?_, fun x e => ?_⟩
  · rw [e] at K
    obtain ⟨h', a, b, c⟩ := K
    refine ⟨h', ?_, b, c⟩
    rw [a, bd3_s, if_neg (by decide), if_neg (by decide), if_pos rfl]
  · rw [e] at K
    obtain ⟨h', t, a, b, C, l1, l6, s⟩ := K
    have w' := b.wf w
    have F' := F.fm b.fm (fun x k q => by unfold Pcn at q; omega)
    have z' : hI h' 165 43 = 0 := by rw [(b.2.2.2.2 165 43 (by unfold Pcn; omega)).1]; exact z
    obtain ⟨h2, e2, y2, m2, f2⟩ := rft_e x.2.1 x.2.2 w' F' C (by omega) l6 h8 z'
    refine ⟨h2, ?_, (b.up fun _ _ q => .inl q).tr (f2.up fun _ _ q => .inr q), y2, m2⟩
    rw [a, bd3_s]
    rcases s with ⟨s1, s2⟩ | ⟨s1, s2⟩
    · rw [s2] at e2
      rw [s1, if_pos rfl, ckM w', Option.bind_some, show fX14_faults 165 (iN fr.length) (iN (x.1.length - 1)) 0 1 h' = _ from e2, Option.bind_some]
    · rw [s2] at e2
      rw [s1, if_neg (by decide), if_pos rfl, ckM w', Option.bind_some, show fX14_faults 165 (iN fr.length) (iN (x.1.length - 1)) 1 7 h' = _ from e2, Option.bind_some]

/-! the calls drop and has -/
theorem pre_top {L : List Int32} {b : Option Nat} {t : TY 5} (h : pTop L = .inl ((b, t), L.length)) : ∃ n p0, pPcs L n 4 false p0 = .inl (t, L.length) ∧ p0 ≤ L.length ∧ ((b = none ∧ p0 = 0 ∧ ¬ (hereL L 0 = 123 ∧ hereL L 1 = 60)) ∨ ∃ k, k < 6 ∧ b = some k ∧ p0 = 4 ∧ hereL L 0 = 123 ∧ hereL L 1 = 60 ∧ hereL L 2 = iN (48 + k) ∧ hereL L 3 = 125) := by
  obtain ⟨_, n, p0, a, c⟩ := top_i h
  refine ⟨n, p0, a, ?_, ?_⟩
  · rcases c with c | ⟨k, c⟩ <;> omega
  · rcases c with c | ⟨k, c1, c2, c3, _, c4⟩
    · exact .inl c
    · exact .inr ⟨k, c1, c2, c3, c4⟩
theorem top_brc {L : List Int32} {b : Option Nat} {t : TY 5} (h : pTop L = .inl ((b, t), L.length)) : ∀ i, i < L.length → L.getD i 0 = 123 → i + 2 < L.length := by
  obtain ⟨n, p0, a, hp0, c⟩ := pre_top h
  intro i hi e
  by_cases q : i < p0
  · rcases c with ⟨_, c, _⟩ | ⟨k, c1, c2, c3, c4, c5, c6, c7⟩
    · omega
    · subst c3
      have h3 := (here_lt c7 (by decide))
      by_cases q3 : i = 3
      · rw [q3, h3.2] at e; exact absurd e (by decide)
      · by_cases q2 : i = 2
        · have k2 : iN (48 + k) ≠ -1 ∧ iN (48 + k) ≠ 123 := by
            have : ∀ k, k < 6 → iN (48 + k) ≠ -1 ∧ iN (48 + k) ≠ 123 := by decide
            exact this k c1
          rw [q2, (here_lt c6 k2.1).2] at e
          exact absurd e k2.2
        · omega
  · exact brc_in n 4 false p0 L.length t (by decide) hp0 a i (by omega) hi e
theorem top_sg {L : List Int32} {b : Option Nat} {t : TY 5} {κ : Nat} {s bb : Int32} (K : sK κ s bb) (h : pTop L = .inl ((b, t), L.length)) : zsS L s bb L.length 0 = mkT κ 5 t := by
  obtain ⟨n, p0, a, hp0, c⟩ := pre_top h
  have e := pcs_sg K n 4 false p0 L.length t (by decide) hp0 a
  have z : zsS L s bb (p0 - 0) 0 = 0 := by
    rcases c with ⟨_, c, _⟩ | ⟨k, c1, c2, c3, c4, c5, c6, c7⟩
    · rw [c]; rfl
    · subst c3
      have k2 : iN (48 + k) ≠ -1 ∧ iN (48 + k) ≠ 123 := by
        have : ∀ k, k < 6 → iN (48 + k) ≠ -1 ∧ iN (48 + k) ≠ 123 := by decide
        exact this k c1
      have l1 := (here_lt c5 (by decide)).2
      have r : zsS L s bb (4 - 1) 1 = 0 := sg_no _ _ fun i i1 i2 => by
        by_cases q1 : i = 1
        · rw [q1, l1]; decide
        · by_cases q2 : i = 2
          · rw [q2, (here_lt c6 k2.1).2]; exact k2.2
          · rw [show i = 3 by omega, (here_lt c7 (by decide)).2]; decide
      rw [sg_tr L s bb (show 0 ≤ 1 by omega) (show 1 ≤ 4 by omega), r, Int32.or_zero]
      show (zsI L s bb 0 ||| 0) = 0
      rw [zsI, if_neg]
      · rfl
      · rw [show 0 + 1 = 1 from rfl, l1]
        rintro ⟨_, y⟩
        rcases K with ⟨_, k2, _⟩ | ⟨_, k2, _⟩ <;> (rw [k2] at y; exact absurd y (by decide))
  have := sg_tr L s bb (Nat.zero_le p0) hp0
  rw [Nat.sub_zero] at this
  rw [this, z, Int32.zero_or, e]
theorem top_vs {h : hp} {k : Nat} {L : List Int32} {b : Option Nat} {t : TY 5} (T : TX h k L) (hh : pTop L = .inl ((b, t), L.length)) : VS h k 0 0 0 L.length (varsT 5 t) 0 := by
  obtain ⟨n, p0, a, hp0, c⟩ := pre_top hh
  have e := pcs_vs T n 4 false p0 L.length t (by decide) hp0 a 0
  rw [Int32.zero_or] at e
  refine VS.tr (q := p0) (s' := 0) (a' := 0) ?_ e
  rcases c with ⟨_, c, _⟩ | ⟨k', c1, c2, c3, c4, c5, c6, c7⟩
  · rw [c]; exact VS.rf _ _ _ _ _
  · subst c3
    exact (((VS.op T 0 0 c4).tr (VS.sg T 0 c5 (by decide))).tr (VS.sm T 0 c6 c1 (by decide))).tr (VS.cl T 0 1 c7)
theorem vars_e {h : hp} {k : Nat} {L : List Int32} {b : Option Nat} {t : TY 5} (T : TX h k L) (hh : pTop L = .inl ((b, t), L.length)) : fX14_variablesIn 165 (iN k) h = some (varsT 5 t, h) := by
  have hl := T.2.2.1
  obtain ⟨_, d, d1, d2⟩ := top_vs T hh
  have f := d2 (1000000 - d)
  rw [show 1000000 - d + d = FU by show _ = 1000000; omega] at f
  obtain ⟨r, hr⟩ : ∃ r, 1000000 - d = r + 1 := ⟨1000000 - d - 1, by omega⟩
  unfold fX14_variablesIn
  rw [show fX14_variablesIn_l7 FU 165 (iN k) 0 0 0 h = _ from f, hr, fX14_variablesIn_l7, MR9 T.1, Option.bind_some, T.sz, Option.bind_some, if_pos (by rw [i_le (by omega) (by omega)]; omega)]
  rfl
theorem sgn_e {h : hp} {k κ : Nat} {L : List Int32} {b : Option Nat} {t : TY 5} {s : Int32} {bb : Nat} (T : TX h k L) (K : sK κ s (iN bb)) (hh : pTop L = .inl ((b, t), L.length)) : fX14_signsBehind 165 (iN k) s (iN bb) h = some (mkT κ 5 t, h) := by
  have hl := T.2.2.1
  have e := sgb_l (s := s) (b := bb) T (top_brc hh) L.length 0 FU 0 (by omega) (by show _ < 1000000; omega)
  unfold fX14_signsBehind
  rw [show fX14_signsBehind_l6 FU 165 (iN k) s (iN bb) 0 0 h = _ from e, bd2_s, Int32.zero_or, top_sg K hh]
/-- the letters of blocks are the four -/
theorem blk_let {L : List Int32} : ∀ (n m : Nat) (blk : Bool) (p q : Nat) (t : TY (m + 1)), m ≤ 4 → p ≤ L.length → pPcs L n m blk p = .inl (t, q) → ∀ b, b ∈ blksT (m + 1) t → ∃ v, v < 4 ∧ b.1 = iN v := by
  intro n m blk p q t hm hp' e
  have bk : ∀ {m : Nat} (pc : PD (TY m)) (t : TY (m + 1)), blksT (m + 1) (tCons pc t) = ((if pc.1 = 4 then [(pc.2.2.1, pc.2.1, (⟨m, pc.2.2.2.2.2.2.1⟩ : Σ q : Nat, TY q))] else []) ++ blksT m pc.2.2.2.2.2.2.1 ++ blksT m pc.2.2.2.2.2.2.2) ++ blksT (m + 1) t := fun _ _ => rfl
  have hd : ∀ {m p b : Nat} {pc : PD (TY m)}, HdP L p b pc → pc.1 = 4 → ∃ v, v < 4 ∧ pc.2.2.1 = iN v := fun {m p b pc} H h4 => by
    obtain ⟨_, _, h7⟩ := H
    rcases h7 with h | h | h | h | h | h | h
    · omega
    · omega
    · omega
    · obtain ⟨v, v1, _, v3⟩ := h.2.2.1; exact ⟨v, v1, v3⟩
    · omega
    · omega
    · omega
  refine (pcs_ind (L := L) (fun m p t q => ∀ b, b ∈ blksT (m + 1) t → ∃ v, v < 4 ∧ b.1 = iN v) ?_ ?_ ?_ ?_ ?_ n m blk p q t hm hp' e).2.2
  · intro m p _ _ b hb
    exact absurd hb (by show ¬ b ∈ []; exact List.not_mem_nil)
  · intro m p t q _ _ _ ih b hb
    rw [bk] at hb
    have hb' : b ∈ ([] ++ blksT m (tyN m) ++ blksT m (tyN m)) ++ blksT (m + 1) t := hb
    rw [blks_nil] at hb'
    exact ih b hb'
  · intro m p b' pc t q H hk e1 e2 ih b hb
    rw [bk, e1, e2, blks_nil, if_neg (by omega)] at hb
    exact ih b hb
  · intro m p b' pc t e0 q _ H hk _ ih1 _ _ _ _ _ e2 ih2 b hb
    rw [bk, e2, blks_nil, List.append_nil] at hb
    rcases List.mem_append.mp hb with hb | hb
    · rcases List.mem_append.mp hb with hb | hb
      · by_cases c : pc.1 = 4
        · rw [if_pos c] at hb
          rw [List.mem_singleton.mp hb]
          exact hd H c
        · rw [if_neg c] at hb; exact absurd hb List.not_mem_nil
      · exact ih1 b hb
    · exact ih2 b hb
  · intro m p b' pc t e0 e1 q _ H hk ih1 _ _ _ _ _ ih2 _ _ _ _ _ ih3 b hb
    rw [bk, if_neg (by omega), List.nil_append] at hb
    rcases List.mem_append.mp hb with hb | hb
    · rcases List.mem_append.mp hb with hb | hb
      · exact ih1 b hb
      · exact ih2 b hb
    · exact ih3 b hb
def mskB (g0 g1 g2 g3 : Bool) : Int32 := (((if g0 then bitN (iN 0) else 0) ||| (if g1 then bitN (iN 1) else 0)) ||| (if g2 then bitN (iN 2) else 0)) ||| (if g3 then bitN (iN 3) else 0)
theorem msk_d : ∀ g0 g1 g2 g3 : Bool, (bitN (iN 0) ||| mskB g0 g1 g2 g3) = mskB true g1 g2 g3 ∧ (bitN (iN 1) ||| mskB g0 g1 g2 g3) = mskB g0 true g2 g3 ∧ (bitN (iN 2) ||| mskB g0 g1 g2 g3) = mskB g0 g1 true g3 ∧ (bitN (iN 3) ||| mskB g0 g1 g2 g3) = mskB g0 g1 g2 true := by decide
theorem bM_msk : ∀ bs : List (Int32 × Nat × (Σ q : Nat, TY q)), (∀ b, b ∈ bs → ∃ v, v < 4 ∧ b.1 = iN v) → bM bs = mskB (fB bs 0).isSome (fB bs 1).isSome (fB bs 2).isSome (fB bs 3).isSome := by
  intro bs
  induction bs with
  | nil => intro _; decide
  | cons b bs ih =>
    intro hb
    obtain ⟨v, v1, v2⟩ := hb b (List.mem_cons_self)
    have ih' := ih fun c hc => hb c (List.mem_cons_of_mem _ hc)
    have hd : ∀ j, j < 4 → fB (b :: bs) j = if j = v then some b else fB bs j := fun j hj => by
      have := fB_hd v b.2 bs j v1 hj
      rwa [← v2] at this
    obtain ⟨d0, d1, d2, d3⟩ := msk_d (fB bs 0).isSome (fB bs 1).isSome (fB bs 2).isSome (fB bs 3).isSome
    show (bitN b.1 ||| bM bs) = _
    rw [v2, ih', hd 0 (by decide), hd 1 (by decide), hd 2 (by decide), hd 3 (by decide)]
    match v, v1 with
    | 0, _ => exact d0
    | 1, _ => exact d1
    | 2, _ => exact d2
    | 3, _ => exact d3

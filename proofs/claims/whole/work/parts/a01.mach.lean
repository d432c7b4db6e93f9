/-! masks of signs, ends, places of blocks in a text -/
theorem hd_len {L : List Int32} {m p b : Nat} {pc : PD (TY m)} (H : HdP L p b pc) : p + 3 ≤ b := by
  obtain ⟨⟨h1, h2, h3, h4, h5⟩, h6, h7⟩ := H
  rcases h7 with h | h | h | h | h | h | h
  · have := (expr_i h.2.2.2.2.2.2.2.1).2.1; omega
  · have := (cond_i h.2.2).2.1; omega
  · have := (expr_i h.2.2.2.2.1).2.1; omega
  · have := h.2.2.2.1; omega
  · have := h.2.2.1; omega
  · have := h.2.2.2.1; omega
  · have := (expr_i h.2.2.2.2.1).2.1; omega
/-- every { has two signs behind it -/
theorem brc_in {L : List Int32} : ∀ (n m : Nat) (blk : Bool) (p q : Nat) (t : TY (m + 1)), m ≤ 4 → p ≤ L.length → pPcs L n m blk p = .inl (t, q) → ∀ i, p ≤ i → i < q → L.getD i 0 = 123 → i + 2 < L.length := by
  have hd : ∀ {m p b : Nat} {pc : PD (TY m)}, HdP L p b pc → ∀ i, p ≤ i → i < b → L.getD i 0 = 123 → i + 2 < L.length := fun {m p b pc} H i h1 h2 h3 => by
    have hl := hd_len H
    obtain ⟨⟨a1, a2, a3, a4, a5⟩, _⟩ := H
    by_cases c : i = p
    · omega
    · by_cases c2 : i < b - 1
      · exact absurd h3 (a5 i (by omega) c2).1
      · have e := (here_lt a4 (by decide)).2
        rw [show i = b - 1 by omega, e] at h3
        exact absurd h3 (by decide)
  have en : ∀ {e0 : Nat} {c : Int32}, hereL L (e0 + 1) = c → (c = 47 ∨ c = 58) → hereL L (e0 + 2) = 125 → ∀ i, e0 ≤ i → i < e0 + 3 → L.getD i 0 = 123 → i + 2 < L.length := fun {e0 c} g2 gc g3 i h1 h2 h3 => by
    have l := (here_lt g3 (by decide)).1
    by_cases c1 : i = e0
    · omega
    by_cases c2 : i = e0 + 1
    · have := (here_lt g2 (by rcases gc with z | z <;> rw [z] <;> decide)).2
      rw [c2, this] at h3
      rcases gc with z | z <;> (rw [z] at h3; exact absurd h3 (by decide))
    · have := (here_lt g3 (by decide)).2
      rw [show i = e0 + 2 by omega, this] at h3
      exact absurd h3 (by decide)
  intro n m blk p q t hm hp' e
  refine (pcs_ind (L := L) (fun m p t q => ∀ i, p ≤ i → i < q → L.getD i 0 = 123 → i + 2 < L.length) ?_ ?_ ?_ ?_ ?_ n m blk p q t hm hp' e).2.2
  · intro m p _ _ i h1 h2; omega
  · intro m p t q h1 h2 h3 ih i i1 i2 i3
    by_cases c : i = p
    · rw [c] at i3
      exact absurd (by unfold hereL; rw [if_pos h1]; exact i3) h2
    · exact ih i (by omega) i2 i3
  · intro m p b pc t q H _ _ _ ih i i1 i2 i3
    by_cases c : i < b
    · exact hd H i i1 c i3
    · exact ih i (by omega) i2 i3
  · intro m p b pc t e0 q _ H _ _ ih1 h1 h2 h3 h4 h5 _ ih2 i i1 i2 i3
    by_cases c : i < b
    · exact hd H i i1 c i3
    by_cases c2 : i < e0
    · exact ih1 i (by omega) c2 i3
    by_cases c3 : i < e0 + 3
    · exact en h4 (.inl rfl) h5 i (by omega) c3 i3
    · exact ih2 i (by omega) i2 i3
  · intro m p b pc t e0 e1 q _ H _ ih1 h1 h2 h3 h4 h5 ih2 k1 k2 k3 k4 k5 ih3 i i1 i2 i3
    by_cases c : i < b
    · exact hd H i i1 c i3
    by_cases c2 : i < e0
    · exact ih1 i (by omega) c2 i3
    by_cases c3 : i < e0 + 3
    · exact en h4 (.inr rfl) h5 i (by omega) c3 i3
    by_cases c4 : i < e1
    · exact ih2 i (by omega) c4 i3
    by_cases c5 : i < e1 + 3
    · exact en k4 (.inl rfl) k5 i (by omega) c5 i3
    · exact ih3 i (by omega) i2 i3
/-- the bits of what stands behind a sign -/
def zsI (L : List Int32) (s b : Int32) (i : Nat) : Int32 := if L.getD i 0 = 123 ∧ L.getD (i + 1) 0 = s then bitN (L.getD (i + 2) 0 - b) else 0
def zsS (L : List Int32) (s b : Int32) : Nat → Nat → Int32
  | 0, _ => 0
  | d + 1, p => zsI L s b p ||| zsS L s b d (p + 1)
theorem sg_add (L : List Int32) (s b : Int32) : ∀ (a c p : Nat), zsS L s b (a + c) p = (zsS L s b a p ||| zsS L s b c (p + a)) := by
  intro a
  induction a with
  | zero => intro c p; rw [Nat.zero_add]; show _ = (0 ||| _); rw [Int32.zero_or]; rfl
  | succ a ih =>
    intro c p
    rw [show a + 1 + c = (a + c) + 1 by omega]
    show (zsI L s b p ||| zsS L s b (a + c) (p + 1)) = ((zsI L s b p ||| zsS L s b a (p + 1)) ||| _)
    rw [ih c (p + 1), Int32.or_assoc, show p + 1 + a = p + (a + 1) by omega]
theorem sg_tr (L : List Int32) (s b : Int32) {p q r : Nat} (h1 : p ≤ q) (h2 : q ≤ r) : zsS L s b (r - p) p = (zsS L s b (q - p) p ||| zsS L s b (r - q) q) := by
  rw [show r - p = (q - p) + (r - q) by omega, sg_add, show p + (q - p) = q by omega]
theorem sg_no {L : List Int32} {s b : Int32} : ∀ (d p : Nat), (∀ i, p ≤ i → i < p + d → L.getD i 0 ≠ 123) → zsS L s b d p = 0 := by
  intro d
  induction d with
  | zero => intro p _; rfl
  | succ d ih =>
    intro p h
    show (zsI L s b p ||| zsS L s b d (p + 1)) = 0
    rw [ih (p + 1) (fun i h1 h2 => h i (by omega) (by omega)), zsI, if_neg (fun z => h p (Nat.le_refl _) (by omega) z.1)]; rfl
def mkT (κ : Nat) : (m : Nat) → TY m → Int32
  | 0, _ => 0
  | m + 1, t => List.foldr (fun (pc : PD (TY m)) a => ((if pc.1 = κ then bitN pc.2.2.1 else 0) ||| mkT κ m pc.2.2.2.2.2.2.1 ||| mkT κ m pc.2.2.2.2.2.2.2) ||| a) 0 t
theorem mk_c (κ : Nat) {m : Nat} (pc : PD (TY m)) (t : TY (m + 1)) : mkT κ (m + 1) (tCons pc t) = (((if pc.1 = κ then bitN pc.2.2.1 else 0) ||| mkT κ m pc.2.2.2.2.2.2.1 ||| mkT κ m pc.2.2.2.2.2.2.2) ||| mkT κ (m + 1) t) := rfl
theorem mk_0 (κ m : Nat) : mkT κ m (tyN m) = 0 := by cases m <;> rfl
theorem parts_mk : ∀ (m : Nat) (t : TY m), partsT m t = mkT 6 m t := by
  intro m
  induction m with
  | zero => intro t; rfl
  | succ m ih =>
    have key : ∀ (t : List (PD (TY m))), partsT (m + 1) t = mkT 6 (m + 1) t := by
      intro t
      induction t with
      | nil => rfl
      | cons pc t iht =>
        show (((if pc.1 = 6 then bitN pc.2.2.1 else 0) ||| partsT m pc.2.2.2.2.2.2.1 ||| partsT m pc.2.2.2.2.2.2.2) ||| partsT (m + 1) t) = (((if pc.1 = 6 then bitN pc.2.2.1 else 0) ||| mkT 6 m pc.2.2.2.2.2.2.1 ||| mkT 6 m pc.2.2.2.2.2.2.2) ||| mkT 6 (m + 1) t)
        rw [ih, ih, iht]
    exact key
/-- the letters of a list of blocks -/
def bM (bs : List (Int32 × Nat × (Σ q : Nat, TY q))) : Int32 := List.foldr (fun b a => bitN b.1 ||| a) 0 bs
theorem bM_app (a b : List (Int32 × Nat × (Σ q : Nat, TY q))) : bM (a ++ b) = (bM a ||| bM b) := by
  induction a with
  | nil => show _ = (0 ||| _); rw [Int32.zero_or]; rfl
  | cons x a ih =>
    show (bitN x.1 ||| bM (a ++ b)) = ((bitN x.1 ||| bM a) ||| bM b)
    rw [ih, Int32.or_assoc]
theorem blks_mk : ∀ (m : Nat) (t : TY m), bM (blksT m t) = mkT 4 m t := by
  intro m
  induction m with
  | zero => intro t; rfl
  | succ m ih =>
    have key : ∀ (t : List (PD (TY m))), bM (blksT (m + 1) t) = mkT 4 (m + 1) t := by
      intro t
      induction t with
      | nil => rfl
      | cons pc t iht =>
        show bM (((if pc.1 = 4 then [(pc.2.2.1, pc.2.1, (⟨m, pc.2.2.2.2.2.2.1⟩ : Σ q : Nat, TY q))] else []) ++ blksT m pc.2.2.2.2.2.2.1 ++ blksT m pc.2.2.2.2.2.2.2) ++ blksT (m + 1) t) = (((if pc.1 = 4 then bitN pc.2.2.1 else 0) ||| mkT 4 m pc.2.2.2.2.2.2.1 ||| mkT 4 m pc.2.2.2.2.2.2.2) ||| mkT 4 (m + 1) t)
        rw [bM_app, bM_app, bM_app, ih, ih, iht]
        by_cases c : pc.1 = 4
        · rw [if_pos c, if_pos c]
          show (((bitN pc.2.2.1 ||| 0) ||| _) ||| _) ||| _ = _
          rw [Int32.or_zero]
        · rw [if_neg c, if_neg c]; rfl
    exact key
/-- which sign, which kind of piece -/
def sK (κ : Nat) (s b : Int32) : Prop := (κ = 4 ∧ s = 61 ∧ b = 65) ∨ (κ = 6 ∧ s = 62 ∧ b = 48)
theorem iN_sub {a b : Nat} (hb : b + a < 2147483648) : iN (b + a) - iN b = iN a := by rw [i_sub (by omega), Nat.add_sub_cancel_left]
theorem hd_sg {L : List Int32} {κ m p b : Nat} {s bb : Int32} {pc : PD (TY m)} (K : sK κ s bb) (H : HdP L p b pc) : zsS L s bb (b - p) p = if pc.1 = κ then bitN pc.2.2.1 else 0 := by
  have hl := hd_len H
  obtain ⟨⟨h1, h2, h3, h4, h5⟩, h6, h7⟩ := H
  have e0 : L.getD p 0 = 123 := (here_lt h1 (by decide)).2
  have e1 : L.getD (p + 1) 0 = hereL L (p + 1) := by unfold hereL; rw [if_pos (by omega)]
  have e2 : L.getD (p + 2) 0 = hereL L (p + 2) := by unfold hereL; rw [if_pos (by omega)]
  have rest : zsS L s bb (b - (p + 1)) (p + 1) = 0 := sg_no _ _ fun i i1 i2 => by
    by_cases c : i < b - 1
    · exact (h5 i i1 c).1
    · rw [show i = b - 1 by omega, (here_lt h4 (by decide)).2]; decide
  rw [sg_tr L s bb (show p ≤ p + 1 by omega) (show p + 1 ≤ b by omega), rest, Int32.or_zero, show p + 1 - p = 0 + 1 by omega]
  show (zsI L s bb p ||| 0) = _
  rw [Int32.or_zero, zsI, e0, e1, e2]
  rcases K with ⟨k1, k2, k3⟩ | ⟨k1, k2, k3⟩
  · subst k1 k2 k3
    rcases h7 with h | h | h | h | h | h | h
    · rw [if_neg (fun z => h.2.2.2.1 z.2), if_neg (by rw [h.1]; decide)]
    · rw [if_neg (fun z => by rw [h.2.1] at z; exact absurd z.2 (by decide)), if_neg (by rw [h.1]; decide)]
    · rw [if_neg (fun z => by rw [h.2.1] at z; exact absurd z.2 (by decide)), if_neg (by rw [h.1]; decide)]
    · obtain ⟨v, v1, v2, v3⟩ := h.2.2.1
      rw [if_pos ⟨rfl, h.2.1⟩, if_pos h.1, v2, v3, show (65 : Int32) = iN 65 from rfl, iN_sub (by omega)]
    · rw [if_neg (fun z => by rw [h.2.1] at z; exact absurd z.2 (by decide)), if_neg (by rw [h.1]; decide)]
    · rw [if_neg (fun z => by rw [h.2.1] at z; exact absurd z.2 (by decide)), if_neg (by rw [h.1]; decide)]
    · rw [if_neg (fun z => by rw [h.2.1] at z; exact absurd z.2 (by decide)), if_neg (by rw [h.1]; decide)]
  · subst k1 k2 k3
    rcases h7 with h | h | h | h | h | h | h
    · rw [if_neg (fun z => h.2.2.2.2.2.1 z.2), if_neg (by rw [h.1]; decide)]
    · rw [if_neg (fun z => by rw [h.2.1] at z; exact absurd z.2 (by decide)), if_neg (by rw [h.1]; decide)]
    · rw [if_neg (fun z => by rw [h.2.1] at z; exact absurd z.2 (by decide)), if_neg (by rw [h.1]; decide)]
    · rw [if_neg (fun z => by rw [h.2.1] at z; exact absurd z.2 (by decide)), if_neg (by rw [h.1]; decide)]
    · rw [if_neg (fun z => by rw [h.2.1] at z; exact absurd z.2 (by decide)), if_neg (by rw [h.1]; decide)]
    · obtain ⟨v, v1, v2, v3⟩ := h.2.2.1
      rw [if_pos ⟨rfl, h.2.1⟩, if_pos h.1, v2, v3, show (48 : Int32) = iN 48 from rfl, iN_sub (by omega)]
    · rw [if_neg (fun z => by rw [h.2.1] at z; exact absurd z.2 (by decide)), if_neg (by rw [h.1]; decide)]
theorem end_sg {L : List Int32} {κ e0 : Nat} {s bb c : Int32} (K : sK κ s bb) (g1 : hereL L e0 = 123) (g2 : hereL L (e0 + 1) = c) (gc : c = 47 ∨ c = 58) (g3 : hereL L (e0 + 2) = 125) : zsS L s bb 3 e0 = 0 := by
  have a1 := (here_lt g1 (by decide)).2
  have a2 := (here_lt g2 (by rcases gc with z | z <;> rw [z] <;> decide)).2
  have a3 := (here_lt g3 (by decide)).2
  show (zsI L s bb e0 ||| (zsI L s bb (e0 + 1) ||| (zsI L s bb (e0 + 1 + 1) ||| 0))) = 0
  have n1 : zsI L s bb e0 = 0 := by
    unfold zsI
    rw [if_neg]
    rw [a2]
    rintro ⟨_, z⟩
    rcases K with ⟨_, k2, _⟩ | ⟨_, k2, _⟩ <;> rcases gc with y | y <;> (rw [k2, y] at z; exact absurd z (by decide))
  have n2 : zsI L s bb (e0 + 1) = 0 := by
    unfold zsI
    rw [if_neg]
    rw [a2]
    rintro ⟨z, _⟩
    rcases gc with y | y <;> (rw [y] at z; exact absurd z (by decide))
  have n3 : zsI L s bb (e0 + 1 + 1) = 0 := by
    unfold zsI
    rw [if_neg]
    rw [show e0 + 1 + 1 = e0 + 2 from rfl, a3]
    rintro ⟨z, _⟩
    exact absurd z (by decide)
  rw [n1, n2, n3]; rfl
theorem pcs_sg {L : List Int32} {κ : Nat} {s bb : Int32} (K : sK κ s bb) : ∀ (n m : Nat) (blk : Bool) (p q : Nat) (t : TY (m + 1)), m ≤ 4 → p ≤ L.length → pPcs L n m blk p = .inl (t, q) → zsS L s bb (q - p) p = mkT κ (m + 1) t := by
  intro n m blk p q t hm hp' e
  refine ((pcs_ind (L := L) (fun m p t q => p ≤ q ∧ zsS L s bb (q - p) p = mkT κ (m + 1) t) ?_ ?_ ?_ ?_ ?_ n m blk p q t hm hp' e).2.2).2
  · intro m p _ _
    exact ⟨Nat.le_refl _, by rw [Nat.sub_self]; rfl⟩
  · rintro m p t q h1 h2 h3 ⟨i1, i2⟩
    refine ⟨by omega, ?_⟩
    have n1 : zsI L s bb p = 0 := by
      unfold zsI
      rw [if_neg]
      rintro ⟨z, _⟩
      unfold hereL at h2
      rw [if_pos h1] at h2
      exact h2 z
    rw [sg_tr L s bb (show p ≤ p + 1 by omega) i1, i2, show p + 1 - p = 0 + 1 by omega, mk_c]
    show ((zsI L s bb p ||| 0) ||| _) = (((if (0 : Nat) = κ then _ else 0) ||| mkT κ m (tyN m) ||| mkT κ m (tyN m)) ||| _)
    rw [n1, mk_0, if_neg (by rcases K with k | k <;> omega)]; rfl
  · rintro m p b pc t q H hk e1 e2 ⟨i1, i2⟩
    have hl := hd_len H
    refine ⟨by omega, ?_⟩
    rw [sg_tr L s bb (show p ≤ b by omega) i1, i2, hd_sg K H, mk_c, e1, e2, mk_0, Int32.or_zero, Int32.or_zero]
  · rintro m p b pc t e0 q _ H hk _ ⟨i1, i2⟩ h1 h2 h3 h4 h5 e2 ⟨j1, j2⟩
    have hl := hd_len H
    refine ⟨by omega, ?_⟩
    rw [sg_tr L s bb (show p ≤ b by omega) (show b ≤ q by omega), sg_tr L s bb h1 (show e0 ≤ q by omega), sg_tr L s bb (show e0 ≤ e0 + 3 by omega) j1, show e0 + 3 - e0 = 3 by omega, end_sg K h3 h4 (.inl rfl) h5, i2, j2, hd_sg K H, mk_c, e2, mk_0, Int32.zero_or, Int32.or_zero, Int32.or_assoc]
  · rintro m p b pc t e0 e1 q _ H hk ⟨i1, i2⟩ h1 h2 h3 h4 h5 ⟨j1, j2⟩ k1 k2 k3 k4 k5 ⟨l1, l2⟩
    have hl := hd_len H
    refine ⟨by omega, ?_⟩
    rw [sg_tr L s bb (show p ≤ b by omega) (show b ≤ q by omega), sg_tr L s bb h1 (show e0 ≤ q by omega), sg_tr L s bb (show e0 ≤ e0 + 3 by omega) (show e0 + 3 ≤ q by omega), sg_tr L s bb k1 (show e1 ≤ q by omega), sg_tr L s bb (show e1 ≤ e1 + 3 by omega) l1, show e0 + 3 - e0 = 3 by omega, show e1 + 3 - e1 = 3 by omega, end_sg K h3 h4 (.inr rfl) h5, end_sg K k3 k4 (.inl rfl) k5, i2, j2, l2, hd_sg K H, mk_c, Int32.zero_or, Int32.zero_or, Int32.or_assoc, Int32.or_assoc]
theorem sgb_l {h : hp} {k : Nat} {L : List Int32} {s : Int32} {b : Nat} (T : TX h k L) (E : ∀ i, i < L.length → L.getD i 0 = 123 → i + 2 < L.length) : ∀ (d i n : Nat) (acc : Int32), i + d = L.length → d < n → fX14_signsBehind_l6 n 165 (iN k) s (iN b) acc (iN i) h = some (acc ||| zsS L s (iN b) d i, h) := by
  have hl := T.2.2.1
  have w := T.1
  intro d
  induction d with
  | zero =>
    intro i n acc hi hn
    obtain ⟨n, rfl⟩ : ∃ q, n = q + 1 := ⟨n - 1, by omega⟩
    rw [fX14_signsBehind_l6, MR9 w, Option.bind_some, T.sz, Option.bind_some, show iN i + 2 = iN (i + 2) from i_add i 2, if_pos (by rw [i_le (by omega) (by omega)]; omega)]
    show _ = some (acc ||| 0, h)
    rw [Int32.or_zero]
  | succ d ih =>
    intro i n acc hi hn
    obtain ⟨n, rfl⟩ : ∃ q, n = q + 1 := ⟨n - 1, by omega⟩
    rw [fX14_signsBehind_l6, MR9 w, Option.bind_some, T.sz, Option.bind_some, show iN i + 2 = iN (i + 2) from i_add i 2]
    by_cases c : L.length ≤ i + 2
    · rw [if_pos (by rw [i_le (by omega) (by omega)]; omega), sg_no _ _ (fun j j1 j2 z => by have := E j (by omega) z; omega), Int32.or_zero]
    · have key := fun a => ih (i + 1) n a (by omega) (by omega)
      rw [if_neg (by rw [i_le (by omega) (by omega)]; omega), MR8 w, Option.bind_some, k160, i_add, T.tx (by omega), Option.bind_some]
      have x1 := T.tx (show i + 1 < L.length by omega)
      have x2 := T.tx (show i + 2 < L.length by omega)
      simp only [Option.bind_some, show iN (160 * k + i) + 1 = iN (160 * k + (i + 1)) from i_add _ 1, show iN (160 * k + i) + 2 = iN (160 * k + (i + 2)) from i_add _ 2, x1, x2, i_succ]
      have e : zsS L s (iN b) (d + 1) i = (zsI L s (iN b) i ||| zsS L s (iN b) d (i + 1)) := rfl
      by_cases c1 : L.getD i 0 = 123
      · rw [if_pos c1]
        by_cases c2 : L.getD (i + 1) 0 = s
        · rw [if_pos c2, key, e, zsI, if_pos ⟨c1, c2⟩, Int32.or_assoc]; rfl
        · rw [if_neg c2, key, e, zsI, if_neg (fun z => c2 z.2), Int32.zero_or]
      · rw [if_neg c1, key, e, zsI, if_neg (fun z => c1 z.1), Int32.zero_or]

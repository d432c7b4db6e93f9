/-! ends of what is within, of heads; places of blocks -/
def dlE (c : Int32) : Int32 := if c = 63 ∨ c = 42 ∨ c = 61 then 1 else if c = 47 then -1 else 0
theorem eo1 {h : hp} {k p : Nat} {L : List Int32} (T : TX h k L) (hp' : p < L.length) (c : L.getD p 0 ≠ 123) (n : Nat) (w : Int32) : fX14_endOf_l5 (n + 1) 165 (iN k) (iN p) w h = fX14_endOf_l5 n 165 (iN k) (iN (p + 1)) w h := by
  rw [fX14_endOf_l5, ckM T.1, Option.bind_some, byte_e T hp', bd2_s, if_neg c, i_succ]
theorem eo2 {h : hp} {k p : Nat} {L : List Int32} (T : TX h k L) (hp' : p + 1 < L.length) (c : L.getD p 0 = 123) (n : Nat) (w : Int32) (hw : w = 0 → L.getD (p + 1) 0 ≠ 47 ∧ L.getD (p + 1) 0 ≠ 58) : fX14_endOf_l5 (n + 1) 165 (iN k) (iN p) w h = fX14_endOf_l5 n 165 (iN k) (iN (p + 1)) (w + dlE (L.getD (p + 1) 0)) h := by
  rw [fX14_endOf_l5, ckM T.1, Option.bind_some, byte_e T (by omega), bd2_s, if_pos c, ckM T.1, Option.bind_some, i_succ, byte_e T hp', bd2_s]
  simp only [jn_e]
  have fin : (if L.getD (p + 1) 0 = 63 then fX14_endOf_l5 n 165 (iN k) (iN (p + 1)) (w + 1) h else if L.getD (p + 1) 0 = 42 then fX14_endOf_l5 n 165 (iN k) (iN (p + 1)) (w + 1) h else if L.getD (p + 1) 0 = 61 then fX14_endOf_l5 n 165 (iN k) (iN (p + 1)) (w + 1) h else if L.getD (p + 1) 0 = 47 then fX14_endOf_l5 n 165 (iN k) (iN (p + 1)) (w + -1) h else fX14_endOf_l5 n 165 (iN k) (iN (p + 1)) (w + 0) h) = fX14_endOf_l5 n 165 (iN k) (iN (p + 1)) (w + dlE (L.getD (p + 1) 0)) h := by
    unfold dlE
    by_cases c1 : L.getD (p + 1) 0 = 63
    · rw [if_pos c1, if_pos (.inl c1)]
    by_cases c2 : L.getD (p + 1) 0 = 42
    · rw [if_neg c1, if_pos c2, if_pos (.inr (.inl c2))]
    by_cases c3 : L.getD (p + 1) 0 = 61
    · rw [if_neg c1, if_neg c2, if_pos c3, if_pos (.inr (.inr c3))]
    by_cases c4 : L.getD (p + 1) 0 = 47
    · rw [if_neg c1, if_neg c2, if_neg c3, if_pos c4, if_neg (fun z => by rcases z with z | z | z; exact c1 z; exact c2 z; exact c3 z), if_pos c4]
    · rw [if_neg c1, if_neg c2, if_neg c3, if_neg c4, if_neg (fun z => by rcases z with z | z | z; exact c1 z; exact c2 z; exact c3 z), if_neg c4]
  by_cases w0 : w = 0
  · rw [if_pos w0, if_neg (hw w0).1, if_neg (hw w0).2]; exact fin
  · rw [if_neg w0]; exact fin
/-- going from a place and a level to others -/
def ST (h : hp) (k p w q w' : Nat) : Prop := p ≤ q ∧ ∀ n, fX14_endOf_l5 (n + (q - p)) 165 (iN k) (iN p) (iN w) h = fX14_endOf_l5 n 165 (iN k) (iN q) (iN w') h
theorem ST.rf (h : hp) (k p w : Nat) : ST h k p w p w := ⟨Nat.le_refl _, fun n => by rw [Nat.sub_self, Nat.add_zero]⟩
theorem ST.tr {h : hp} {k p w q w' r w2 : Nat} (a : ST h k p w q w') (b : ST h k q w' r w2) : ST h k p w r w2 := by
  have h1 := a.1
  have h2 := b.1
  refine ⟨by omega, fun n => ?_⟩
  rw [show n + (r - p) = (n + (r - q)) + (q - p) by omega, a.2, b.2]
theorem ST.nb {h : hp} {k w : Nat} {L : List Int32} (T : TX h k L) : ∀ (d p : Nat), p + d ≤ L.length → (∀ i, p ≤ i → i < p + d → L.getD i 0 ≠ 123) → ST h k p w (p + d) w := by
  intro d
  induction d with
  | zero => intro p _ _; exact ST.rf _ _ _ _
  | succ d ih =>
    intro p h1 h2
    have a : ST h k p w (p + 1) w := ⟨Nat.le_succ p, fun n => by rw [show n + (p + 1 - p) = n + 1 by omega]; exact eo1 T (by omega) (h2 p (Nat.le_refl _) (by omega)) n _⟩
    have b := ih (p + 1) (by omega) (fun i i1 i2 => h2 i (by omega) (by omega))
    rw [show p + (d + 1) = p + 1 + d by omega]
    exact a.tr b
theorem ST.to {h : hp} {k w p q : Nat} {L : List Int32} (T : TX h k L) (h0 : p ≤ q) (h1 : q ≤ L.length) (h2 : ∀ i, p ≤ i → i < q → L.getD i 0 ≠ 123) : ST h k p w q w := by
  have := ST.nb (w := w) T (q - p) p (by omega) (fun i i1 i2 => h2 i i1 (by omega))
  rwa [show p + (q - p) = q by omega] at this
/-- what an expression may begin with -/
theorem expr_b {L : List Int32} {p q : Nat} {e : EX} (h : pExpr L p = .inl (e, q)) : hereL L p ≠ 47 ∧ hereL L p ≠ 58 ∧ hereL L p ≠ 124 := by
  obtain ⟨_, _, _, e0, p1, a, _⟩ := expr_i h
  obtain ⟨_, _, _, _, b⟩ := atom_i a
  rcases b with ⟨v, v1, v2, _⟩ | b | b | ⟨_, b, _⟩ | ⟨_, b, _⟩
  · rw [v2]
    have : ∀ v, v < 8 → iN (97 + v) ≠ 47 ∧ iN (97 + v) ≠ 58 ∧ iN (97 + v) ≠ 124 := by decide
    exact this v v1
  · rw [b.1]; decide
  · rw [b.1]; decide
  · rw [b]; decide
  · rw [isF_i] at b
    refine ⟨fun z => ?_, fun z => ?_, fun z => ?_⟩
    · rw [z, show (47 : Int32).toInt = 47 by decide] at b; omega
    · rw [z, show (58 : Int32).toInt = 58 by decide] at b; omega
    · rw [z, show (124 : Int32).toInt = 124 by decide] at b; omega
theorem hd_c {L : List Int32} {m p b : Nat} {pc : PD (TY m)} (H : HdP L p b pc) : hereL L (p + 1) ≠ 47 ∧ hereL L (p + 1) ≠ 58 ∧ dlE (hereL L (p + 1)) = if pc.1 = 2 ∨ pc.1 = 3 ∨ pc.1 = 4 then 1 else 0 := by
  obtain ⟨⟨h1, h2, h3, h4, h5⟩, h6, h7⟩ := H
  unfold dlE
  rcases h7 with h | h | h | h | h | h | h
  · obtain ⟨a, b', c⟩ := expr_b h.2.2.2.2.2.2.2.1
    refine ⟨a, b', ?_⟩
    rw [if_neg (fun z => by rcases z with z | z | z; exact h.2.1 z; exact h.2.2.1 z; exact h.2.2.2.1 z), if_neg a, if_neg (by rw [h.1]; decide)]
  · rw [h.2.1, h.1]; decide
  · rw [h.2.1, h.1]; decide
  · rw [h.2.1, h.1]; decide
  · rw [h.2.1, h.1]; decide
  · rw [h.2.1, h.1]; decide
  · rw [h.2.1, h.1]; decide
theorem ST.hd {h : hp} {k m p b w : Nat} {L : List Int32} {pc : PD (TY m)} (T : TX h k L) (H : HdP L p b pc) : ST h k p w b (if pc.1 = 2 ∨ pc.1 = 3 ∨ pc.1 = 4 then w + 1 else w) := by
  have hl := hd_len H
  obtain ⟨c1, c2, c3⟩ := hd_c H
  obtain ⟨⟨h1, h2, h3, h4, h5⟩, h6, h7⟩ := H
  have e1 : L.getD (p + 1) 0 = hereL L (p + 1) := by unfold hereL; rw [if_pos (by omega)]
  have a : ST h k p w (p + 1) (if pc.1 = 2 ∨ pc.1 = 3 ∨ pc.1 = 4 then w + 1 else w) := ⟨Nat.le_succ p, fun n => by
    rw [show n + (p + 1 - p) = n + 1 by omega, eo2 T (by omega) (here_lt h1 (by decide)).2 n _ (fun _ => by rw [e1]; exact ⟨c1, c2⟩), e1, c3]
    by_cases q : pc.1 = 2 ∨ pc.1 = 3 ∨ pc.1 = 4
    · rw [if_pos q, if_pos q, i_succ]
    · rw [if_neg q, if_neg q, show iN w + 0 = iN w from i_add w 0]⟩
  refine a.tr (ST.to T (by omega) h3 fun i i1 i2 => ?_)
  by_cases c : i < b - 1
  · exact (h5 i i1 c).1
  · rw [show i = b - 1 by omega, (here_lt h4 (by decide)).2]; decide
theorem ST.en {h : hp} {k e0 w : Nat} {L : List Int32} {c : Int32} (T : TX h k L) (g1 : hereL L e0 = 123) (g2 : hereL L (e0 + 1) = c) (gc : c = 47 ∨ c = 58) (g3 : hereL L (e0 + 2) = 125) (hw : w < 1000) : ST h k e0 (w + 1) (e0 + 3) (if c = 47 then w else w + 1) := by
  have a1 := here_lt g1 (by decide)
  have a2 := here_lt g2 (by rcases gc with z | z <;> rw [z] <;> decide)
  have a3 := here_lt g3 (by decide)
  have nz : ¬ iN (w + 1) = 0 := by rw [i_eq_lit (by decide) (by omega)]; exact Nat.succ_ne_zero w
  have a : ST h k e0 (w + 1) (e0 + 1) (if c = 47 then w else w + 1) := ⟨Nat.le_succ _, fun n => by
    rw [show n + (e0 + 1 - e0) = n + 1 by omega, eo2 T a2.1 a1.2 n _ (fun z => absurd z nz), a2.2]
    rcases gc with z | z
    · rw [z, if_pos rfl, show dlE 47 = -1 by decide, i_addneg1 (by omega)]; rfl
    · rw [z, if_neg (by decide), show dlE 58 = 0 by decide, show iN (w + 1) + 0 = iN (w + 1) from i_add _ 0]⟩
  refine a.tr (ST.to T (by omega) (by omega) fun i i1 i2 => ?_)
  by_cases c1 : i = e0 + 1
  · rw [c1, a2.2]; rcases gc with z | z <;> rw [z] <;> decide
  · rw [show i = e0 + 2 by omega, a3.2]; decide
theorem pcs_st {h : hp} {k : Nat} {L : List Int32} (T : TX h k L) : ∀ (n m : Nat) (blk : Bool) (p q : Nat) (t : TY (m + 1)), m ≤ 4 → p ≤ L.length → pPcs L n m blk p = .inl (t, q) → ∀ w, w < 900 → ST h k p w q w := by
  intro n m blk p q t hm hp' e
  have key := (pcs_ind (L := L) (fun m p t q => ∀ w, w + m < 990 → ST h k p w q w) ?_ ?_ ?_ ?_ ?_ n m blk p q t hm hp' e).2.2
  · exact fun w hw => key w (by omega)
  · intro m p _ _ w _; exact ST.rf _ _ _ _
  · intro m p t q h1 h2 h3 ih w hw
    refine (ST.to T (q := p + 1) (by omega) (by omega) fun i i1 i2 => ?_).tr (ih w hw)
    have : i = p := by omega
    subst this
    unfold hereL at h2
    rw [if_pos h1] at h2
    exact h2
  · intro m p b pc t q H hk _ _ ih w hw
    have a := ST.hd (w := w) T H
    rw [if_neg (by omega)] at a
    exact a.tr (ih w hw)
  · intro m p b pc t e0 q _ H hk _ ih1 h1 h2 h3 h4 h5 _ ih2 w hw
    have a := ST.hd (w := w) T H
    rw [if_pos hk] at a
    have b2' := ST.en (w := w) T h3 h4 (.inl rfl) h5 (by omega)
    rw [if_pos rfl] at b2'
    exact ((a.tr (ih1 (w + 1) (by omega))).tr b2').tr (ih2 w hw)
  · intro m p b pc t e0 e1 q _ H hk ih1 h1 h2 h3 h4 h5 ih2 k1 k2 k3 k4 k5 ih3 w hw
    have a := ST.hd (w := w) T H
    rw [if_pos (by omega)] at a
    have b2' := ST.en (w := w) T h3 h4 (.inr rfl) h5 (by omega)
    rw [if_neg (by decide)] at b2'
    have b3 := ST.en (w := w) T k3 k4 (.inl rfl) k5 (by omega)
    rw [if_pos rfl] at b3
    exact ((((a.tr (ih1 (w + 1) (by omega))).tr b2').tr (ih2 (w + 1) (by omega))).tr b3).tr (ih3 w hw)
/-- the end of what is within -/
theorem end_e2 {h : hp} {k n m b e0 : Nat} {L : List Int32} {blk : Bool} {t : TY (m + 1)} (T : TX h k L) (hm : m ≤ 4) (hb : b ≤ L.length) (e : pPcs L n m blk b = .inl (t, e0)) (g1 : hereL L e0 = 123) (g2 : hereL L (e0 + 1) = 47 ∨ hereL L (e0 + 1) = 58) : fX14_endOf 165 (iN k) (iN b) h = some (iN e0, h) := by
  have S := pcs_st T n m blk b e0 t hm hb e 0 (by decide)
  have hl := T.2.2.1
  have a1 := here_lt g1 (by decide)
  have g2' : hereL L (e0 + 1) ≠ -1 := by rcases g2 with z | z <;> rw [z] <;> decide
  have a2 := here_lt (L := L) (p := e0 + 1) rfl g2'
  have f := S.2 (1000000 - (e0 - b))
  have s1 := S.1
  rw [show 1000000 - (e0 - b) + (e0 - b) = FU by show _ = 1000000; omega] at f
  obtain ⟨r, hr⟩ : ∃ r, 1000000 - (e0 - b) = r + 1 := ⟨1000000 - (e0 - b) - 1, by omega⟩
  unfold fX14_endOf
  rw [show fX14_endOf_l5 FU 165 (iN k) (iN b) 0 h = _ from f, hr, fX14_endOf_l5, ckM T.1, Option.bind_some, byte_e T a1.1, bd2_s, if_pos a1.2, ckM T.1, Option.bind_some, i_succ, byte_e T a2.1, bd2_s, a2.2]
  simp only [jn_e]
  rw [if_pos (show iN 0 = 0 from rfl)]
  rcases g2 with z | z
  · rw [if_pos z]; rfl
  · rw [if_neg (by rw [z]; decide), if_pos z]; rfl
/-- the end of a head -/
theorem cl_l {h : hp} {k q : Nat} {L : List Int32} (T : TX h k L) (hq : hereL L q = 125) : ∀ (d p n : Nat), p + d = q → (∀ i, p ≤ i → i < q → L.getD i 0 ≠ 125) → d < n → fX14_closes_l2 n 165 (iN k) (iN p) h = some (iN q, h) := by
  obtain ⟨l1, l2⟩ := here_lt hq (by decide)
  intro d
  induction d with
  | zero =>
    intro p n h1 _ hn
    obtain ⟨n, rfl⟩ : ∃ q, n = q + 1 := ⟨n - 1, by omega⟩
    have : p = q := by omega
    subst this
    rw [fX14_closes_l2, ckM T.1, Option.bind_some, byte_e T l1, bd2_s, if_pos l2]
  | succ d ih =>
    intro p n h1 h2 hn
    obtain ⟨n, rfl⟩ : ∃ q, n = q + 1 := ⟨n - 1, by omega⟩
    rw [fX14_closes_l2, ckM T.1, Option.bind_some, byte_e T (by omega), bd2_s, if_neg (h2 p (Nat.le_refl _) (by omega)), i_succ]
    exact ih (p + 1) n (by omega) (fun i i1 i2 => h2 i (by omega) i2) (by omega)
theorem closes_e {h : hp} {k p b : Nat} {L : List Int32} (T : TX h k L) (H : HB L p b) : fX14_closes 165 (iN k) (iN p) h = some (iN b, h) := by
  obtain ⟨h1, h2, h3, h4, h5⟩ := H
  have hl := T.2.2.1
  have e := cl_l T h4 (b - 1 - p) p FU (by omega) (fun i i1 i2 => by
    by_cases c : i = p
    · rw [c, (here_lt h1 (by decide)).2]; decide
    · exact (h5 i (by omega) i2).2) (by show _ < 1000000; omega)
  unfold fX14_closes
  rw [e, bd2_s, i_succ, show b - 1 + 1 = b by omega]
/-- where the first block of a letter is -/
def BP (L : List Int32) (b : Int32 × Nat × (Σ q : Nat, TY q)) (p0 : Nat) : Prop := ∃ m n e0, ∃ inn : TY (m + 1), m ≤ 3 ∧ b.2.2 = ⟨m + 1, inn⟩ ∧ p0 + 4 ≤ L.length ∧ pPcs L n m true (p0 + 4) = .inl (inn, e0) ∧ hereL L e0 = 123 ∧ hereL L (e0 + 1) = 47 ∧ hereL L (e0 + 2) = 125
def BS (h : hp) (k j : Nat) (L : List Int32) (p q : Nat) (o : Option (Int32 × Nat × (Σ q : Nat, TY q))) : Prop :=
  p ≤ q ∧ match o with
  | none => ∀ n, fX14_blockAt_l2 (n + (q - p)) 165 (iN k) (iN j) (iN p) h = fX14_blockAt_l2 n 165 (iN k) (iN j) (iN q) h
  | some b => ∃ p0, p ≤ p0 ∧ p0 < q ∧ (∀ n, fX14_blockAt_l2 (n + (p0 - p) + 1) 165 (iN k) (iN j) (iN p) h = some (iN p0, h)) ∧ BP L b p0
theorem BS.rf (h : hp) (k j : Nat) (L : List Int32) (p : Nat) : BS h k j L p p none := ⟨Nat.le_refl _, fun n => by rw [Nat.sub_self, Nat.add_zero]⟩
theorem BS.tr {h : hp} {k j p q r : Nat} {L : List Int32} {o o' : Option (Int32 × Nat × (Σ q : Nat, TY q))} (a : BS h k j L p q o) (b : BS h k j L q r o') : BS h k j L p r (o.or o') := by
  obtain ⟨a1, a2⟩ := a
  obtain ⟨b1, b2'⟩ := b
  refine ⟨by omega, ?_⟩
  cases o with
  | none =>
    rw [Option.none_or]
    cases o' with
    | none =>
      intro n
      have a2' : ∀ n, fX14_blockAt_l2 (n + (q - p)) 165 (iN k) (iN j) (iN p) h = fX14_blockAt_l2 n 165 (iN k) (iN j) (iN q) h := a2
      have b3 : ∀ n, fX14_blockAt_l2 (n + (r - q)) 165 (iN k) (iN j) (iN q) h = fX14_blockAt_l2 n 165 (iN k) (iN j) (iN r) h := b2'
      rw [show n + (r - p) = (n + (r - q)) + (q - p) by omega, a2', b3]
    | some x =>
      obtain ⟨p0, c1, c2, c3, c4⟩ := b2'
      have a2' : ∀ n, fX14_blockAt_l2 (n + (q - p)) 165 (iN k) (iN j) (iN p) h = fX14_blockAt_l2 n 165 (iN k) (iN j) (iN q) h := a2
      refine ⟨p0, by omega, c2, fun n => ?_, c4⟩
      rw [show n + (p0 - p) + 1 = (n + (p0 - q) + 1) + (q - p) by omega, a2', c3]
  | some x =>
    rw [Option.some_or]
    obtain ⟨p0, c1, c2, c3, c4⟩ := a2
    exact ⟨p0, c1, by omega, c3, c4⟩
theorem bs1 {h : hp} {k p j : Nat} {L : List Int32} (T : TX h k L) (hp' : p < L.length) (hj : j < 4) (E : L.getD p 0 = 123 → p + 2 < L.length) (c : ¬ (L.getD p 0 = 123 ∧ L.getD (p + 1) 0 = 61 ∧ L.getD (p + 2) 0 = iN (65 + j))) : BS h k j L p (p + 1) none := by
  refine ⟨Nat.le_succ p, fun n => ?_⟩
  rw [show n + (p + 1 - p) = n + 1 by omega, fX14_blockAt_l2, ckM T.1, Option.bind_some, byte_e T hp', bd2_s]
  by_cases c1 : L.getD p 0 = 123
  · have e := E c1
    rw [if_pos c1, ckM T.1, Option.bind_some, i_succ, byte_e T (by omega), bd2_s]
    by_cases c2 : L.getD (p + 1) 0 = 61
    · rw [if_pos c2, ckM T.1, Option.bind_some, show iN p + 2 = iN (p + 2) from i_add p 2, byte_e T e, bd2_s, show (65 : Int32) + iN j = iN (65 + j) from i_add 65 j, if_neg (fun z => c ⟨c1, c2, z⟩)]
    · rw [if_neg c2]
  · rw [if_neg c1, i_succ]
theorem bsN {h : hp} {k j : Nat} {L : List Int32} (T : TX h k L) (hj : j < 4) : ∀ (d p : Nat), p + d ≤ L.length → (∀ i, p ≤ i → i < p + d → L.getD i 0 ≠ 123) → BS h k j L p (p + d) none := by
  intro d
  induction d with
  | zero => intro p _ _; exact BS.rf _ _ _ _ _
  | succ d ih =>
    intro p h1 h2
    have n := h2 p (Nat.le_refl _) (by omega)
    have a := bs1 (h := h) T (show p < L.length by omega) hj (fun z => absurd z n) (fun z => n z.1)
    have b := ih (p + 1) (by omega) (fun i i1 i2 => h2 i (by omega) (by omega))
    rw [show p + (d + 1) = p + 1 + d by omega]
    exact a.tr b
theorem bsT {h : hp} {k j p q : Nat} {L : List Int32} (T : TX h k L) (hj : j < 4) (h0 : p ≤ q) (h1 : q ≤ L.length) (h2 : ∀ i, p ≤ i → i < q → L.getD i 0 ≠ 123) : BS h k j L p q none := by
  have := bsN T hj (q - p) p (by omega) (fun i i1 i2 => h2 i i1 (by omega))
  rwa [show p + (q - p) = q by omega] at this
theorem bsEn {h : hp} {k j e0 : Nat} {L : List Int32} {c : Int32} (T : TX h k L) (hj : j < 4) (g1 : hereL L e0 = 123) (g2 : hereL L (e0 + 1) = c) (gc : c = 47 ∨ c = 58) (g3 : hereL L (e0 + 2) = 125) : BS h k j L e0 (e0 + 3) none := by
  have a1 := here_lt g1 (by decide)
  have a2 := here_lt g2 (by rcases gc with z | z <;> rw [z] <;> decide)
  have a3 := here_lt g3 (by decide)
  have a := bs1 (h := h) T a1.1 hj (fun _ => a3.1) (fun z => by rw [a2.2] at z; rcases gc with y | y <;> (rw [y] at z; exact absurd z.2.1 (by decide)))
  refine a.tr (o := none) (o' := none) (bsT T hj (by omega) (by omega) fun i i1 i2 => ?_)
  by_cases c1 : i = e0 + 1
  · rw [c1, a2.2]; rcases gc with z | z <;> rw [z] <;> decide
  · rw [show i = e0 + 2 by omega, a3.2]; decide
theorem hd_61 {L : List Int32} {m p b : Nat} {pc : PD (TY m)} (H : HdP L p b pc) (h : pc.1 ≠ 4) : hereL L (p + 1) ≠ 61 := by
  obtain ⟨_, _, h7⟩ := H
  rcases h7 with h' | h' | h' | h' | h' | h' | h'
  · exact h'.2.2.2.1
  · rw [h'.2.1]; decide
  · rw [h'.2.1]; decide
  · exact absurd h'.1 h
  · rw [h'.2.1]; decide
  · rw [h'.2.1]; decide
  · rw [h'.2.1]; decide
theorem bsHd {h : hp} {k j m p b : Nat} {L : List Int32} {pc : PD (TY m)} (T : TX h k L) (hj : j < 4) (H : HdP L p b pc) (n4 : pc.1 = 4 → pc.2.2.1 ≠ iN j) : BS h k j L p b none := by
  have hl := hd_len H
  have h61 := hd_61 H
  obtain ⟨⟨h1, h2, h3, h4, h5⟩, h6, h7⟩ := H
  have e1 : L.getD (p + 1) 0 = hereL L (p + 1) := by unfold hereL; rw [if_pos (by omega)]
  have e2 : L.getD (p + 2) 0 = hereL L (p + 2) := by unfold hereL; rw [if_pos (by omega)]
  have a := bs1 (h := h) (p := p) T (by omega) hj (fun _ => by omega) (fun z => by
    rw [e1, e2] at z
    by_cases c : pc.1 = 4
    · rcases h7 with h' | h' | h' | h' | h' | h' | h'
      · omega
      · omega
      · omega
      · obtain ⟨v, v1, v2, v3⟩ := h'.2.2.1
        have : v = j := by
          have y := z.2.2
          rw [v2, i_eq (by omega) (by omega)] at y
          omega
        exact n4 c (by rw [v3, this])
      · omega
      · omega
      · omega
    · exact h61 c z.2.1)
  refine a.tr (o := none) (o' := none) (bsT T hj (by omega) h3 fun i i1 i2 => ?_)
  by_cases c : i < b - 1
  · exact (h5 i i1 c).1
  · rw [show i = b - 1 by omega, (here_lt h4 (by decide)).2]; decide
theorem blks_k {m : Nat} (pc : PD (TY m)) (t : TY (m + 1)) (j : Nat) : fB (blksT (m + 1) (tCons pc t)) j = (((fB (if pc.1 = 4 then [(pc.2.2.1, pc.2.1, (⟨m, pc.2.2.2.2.2.2.1⟩ : Σ q : Nat, TY q))] else []) j).or (fB (blksT m pc.2.2.2.2.2.2.1) j)).or (fB (blksT m pc.2.2.2.2.2.2.2) j)).or (fB (blksT (m + 1) t) j) := by
  show fB (((if pc.1 = 4 then [(pc.2.2.1, pc.2.1, (⟨m, pc.2.2.2.2.2.2.1⟩ : Σ q : Nat, TY q))] else []) ++ blksT m pc.2.2.2.2.2.2.1 ++ blksT m pc.2.2.2.2.2.2.2) ++ blksT (m + 1) t) j = _
  rw [fB_app, fB_app, fB_app]
theorem pcs_bs {h : hp} {k j : Nat} {L : List Int32} (T : TX h k L) (hj : j < 4) : ∀ (n m : Nat) (blk : Bool) (p q : Nat) (t : TY (m + 1)), m ≤ 4 → p ≤ L.length → pPcs L n m blk p = .inl (t, q) → BS h k j L p q (fB (blksT (m + 1) t) j) := by
  intro n m blk p q t hm hp' e
  have nil : ∀ m, fB (blksT m (tyN m)) j = none := fun m => by rw [blks_nil]; rfl
  have emp : fB [] j = none := rfl
  refine (pcs_ind (L := L) (fun m p t q => BS h k j L p q (fB (blksT (m + 1) t) j)) ?_ ?_ ?_ ?_ ?_ n m blk p q t hm hp' e).2.2
  · intro m p _ _; exact BS.rf _ _ _ _ _
  · intro m p t q h1 h2 h3 ih
    have n1 : L.getD p 0 ≠ 123 := by
      unfold hereL at h2
      rw [if_pos h1] at h2
      exact h2
    rw [blks_k]
    show BS h k j L p q ((((fB [] j).or (fB (blksT m (tyN m)) j)).or (fB (blksT m (tyN m)) j)).or _)
    rw [nil, emp]
    exact (bs1 T h1 hj (fun z => absurd z n1) (fun z => n1 z.1)).tr ih
  · intro m p b pc t q H hk e1 e2 ih
    rw [blks_k, e1, e2, nil, if_neg (by omega), emp]
    exact (bsHd T hj H (fun z => by omega)).tr ih
  · intro m p b pc t e0 q hm3 H hk hb4 ih1 h1 h2 h3 h4 h5 e2 ih2
    have hl := hd_len H
    rw [blks_k, e2, nil, Option.or_none]
    have e3 := bsEn (h := h) T hj h3 h4 (.inl rfl) h5
    by_cases c : pc.1 = 4
    · rw [if_pos c]
      by_cases cj : pc.2.2.1 = iN j
      · have f : fB [(pc.2.2.1, pc.2.1, (⟨m + 1, pc.2.2.2.2.2.2.1⟩ : Σ q : Nat, TY q))] j = some (pc.2.2.1, pc.2.1, ⟨m + 1, pc.2.2.2.2.2.2.1⟩) := by
          unfold fB
          rw [List.find?_cons, decide_eq_true cj]
        rw [f, Option.some_or, Option.some_or]
        obtain ⟨n', hn'⟩ := hb4 c
        have HH := H
        obtain ⟨⟨g1, g2, g3, g4, g5⟩, g6, g7⟩ := HH
        have k4 : hereL L (p + 1) = 61 ∧ (∃ v, v < 4 ∧ hereL L (p + 2) = iN (65 + v) ∧ pc.2.2.1 = iN v) ∧ b = p + 4 := by
          rcases g7 with h' | h' | h' | h' | h' | h' | h'
          · omega
          · omega
          · omega
          · exact ⟨h'.2.1, h'.2.2.1, h'.2.2.2.1⟩
          · omega
          · omega
          · omega
        obtain ⟨k41, ⟨v, v1, v2, v3⟩, k43⟩ := k4
        have vj : v = j := by
          rw [v3, i_eq (by omega) (by omega)] at cj
          exact cj
        subst vj
        have e1' : L.getD (p + 1) 0 = 61 := by rw [← k41]; unfold hereL; rw [if_pos (by omega)]
        have e2' : L.getD (p + 2) 0 = iN (65 + v) := by rw [← v2]; unfold hereL; rw [if_pos (by omega)]
        have j1 := ih2.1
        refine ⟨by omega, p, Nat.le_refl _, by omega, fun n => ?_, m, n', e0, pc.2.2.2.2.2.2.1, hm3, rfl, by omega, by rw [← k43]; exact hn', h3, h4, h5⟩
        rw [fX14_blockAt_l2, ckM T.1, Option.bind_some, byte_e T (by omega), bd2_s, if_pos (here_lt g1 (by decide)).2, ckM T.1, Option.bind_some, i_succ, byte_e T (by omega), bd2_s, if_pos e1', ckM T.1, Option.bind_some, show iN p + 2 = iN (p + 2) from i_add p 2, byte_e T (by omega), bd2_s, show (65 : Int32) + iN v = iN (65 + v) from i_add 65 v, if_pos e2']
      · have f : fB [(pc.2.2.1, pc.2.1, (⟨m + 1, pc.2.2.2.2.2.2.1⟩ : Σ q : Nat, TY q))] j = none := by
          unfold fB
          rw [List.find?_cons, decide_eq_false cj]
          rfl
        rw [f, Option.none_or]
        have z := ((bsHd T hj H (fun _ => cj)).tr ih1).tr (o' := none) e3
        rw [Option.none_or, Option.or_none] at z
        exact z.tr ih2
    · rw [if_neg c, emp, Option.none_or]
      have z := ((bsHd T hj H (fun z => absurd z c)).tr ih1).tr (o' := none) e3
      rw [Option.none_or, Option.or_none] at z
      exact z.tr ih2
  · intro m p b pc t e0 e1 q hm3 H hk ih1 h1 h2 h3 h4 h5 ih2 k1 k2 k3 k4 k5 ih3
    rw [blks_k, if_neg (by omega), emp, Option.none_or]
    have e3 := bsEn (h := h) T hj h3 h4 (.inr rfl) h5
    have e4 := bsEn (h := h) T hj k3 k4 (.inl rfl) k5
    have z1 : BS h k j L p (e0 + 3) (fB (blksT (m + 1) pc.2.2.2.2.2.2.1) j) := by
      have z := ((bsHd T hj H (fun z => by omega)).tr ih1).tr (o' := none) e3
      rw [Option.none_or, Option.or_none] at z; exact z
    have z2 := (z1.tr ih2).tr (o' := none) e4
    rw [Option.or_none] at z2
    exact z2.tr ih3
theorem blockAt_e {h : hp} {k j n m p q : Nat} {L : List Int32} {blk : Bool} {t : TY (m + 1)} {b : Int32 × Nat × (Σ q : Nat, TY q)} (T : TX h k L) (hj : j < 4) (hm : m ≤ 4) (hp' : p ≤ L.length) (e : pPcs L n m blk p = .inl (t, q)) (hb : fB (blksT (m + 1) t) j = some b) (hq : q ≤ L.length) (b0 : BS h k j L 0 p none) : ∃ p0, fX14_blockAt 165 (iN k) (iN j) h = some (iN (p0 + 4), h) ∧ BP L b p0 := by
  have S := b0.tr (pcs_bs T hj n m blk p q t hm hp' e)
  have hl := T.2.2.1
  rw [Option.none_or, hb] at S
  obtain ⟨s1, p0, s2, s3, s4, s5⟩ := S
  refine ⟨p0, ?_, s5⟩
  have f := s4 (999999 - p0)
  rw [show 999999 - p0 + (p0 - 0) + 1 = FU by show _ = 1000000; omega] at f
  unfold fX14_blockAt
  rw [show fX14_blockAt_l2 FU 165 (iN k) (iN j) 0 h = _ from f, bd2_s, show iN p0 + 4 = iN (p0 + 4) from i_add p0 4]

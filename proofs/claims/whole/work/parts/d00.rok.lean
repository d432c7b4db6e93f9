/-! what holds of a tree that was read -/
set_option maxHeartbeats 400000
theorem fils_le {L : List Int32} : ∀ (n p q : Nat) (fs : List (Nat × Nat)), pFils L n p = .inl (fs, q) → fs.length ≤ n := by
  intro n
  induction n with
  | zero => intro p q fs e; cases e
  | succ n ih =>
    intro p q fs e
    unfold pFils at e
    obtain ⟨f, p1, s1, e⟩ := bnd_i e
    by_cases c : hereL L p1 = 124
    · rw [if_pos c] at e
      obtain ⟨r, p2, s2, e⟩ := bnd_i e
      have a1 : f :: r = fs := congrArg Prod.fst (Sum.inl.inj e)
      have := ih _ _ _ s2
      rw [← a1]; exact Nat.succ_le_succ this
    · rw [if_neg c] at e
      have a1 : [f] = fs := congrArg Prod.fst (Sum.inl.inj e)
      rw [← a1]; exact Nat.succ_le_succ (Nat.zero_le _)
theorem expr_le {L : List Int32} {p q : Nat} {e : EX} (h : pExpr L p = .inl (e, q)) : e.2.2.2.length ≤ 161 := by
  obtain ⟨_, _, _, e0, p1, a, _, c⟩ := expr_i h
  obtain ⟨_, _, _, z, _⟩ := atom_i a
  rcases c with ⟨_, c, _⟩ | ⟨fs, _, c1, c2⟩
  · rw [c, z]; exact Nat.zero_le _
  · rw [c2]; exact fils_le _ _ _ _ c1
theorem hd_ok {L : List Int32} {m p b : Nat} {pc : PD (TY m)} (D : HdP L p b pc) : okP pc := by
  have z : eN.2.2.2.length ≤ 161 := Nat.zero_le _
  have n := hd_n D
  have a1 : pc.1 = 3 → ∃ v, v < 8 ∧ pc.2.2.1 = iN v := fun k => by
    obtain ⟨_, ⟨v, v1, _, v3⟩, _⟩ := hd3 D k
    exact ⟨v, v1, v3⟩
  have a2 : pc.1 = 7 → ∃ v, v < 8 ∧ pc.2.2.1 = iN v := fun k => by
    obtain ⟨_, ⟨v, v1, _, v3⟩, _⟩ := hd7 D k
    exact ⟨v, v1, v3⟩
  refine ⟨fun k => k.elim a1 a2, fun k => ?_, fun k => ?_, ?_⟩
  · obtain ⟨_, ⟨v, v1, _, v3⟩, _⟩ := hd6 D k
    exact ⟨v, v1, v3⟩
  · obtain ⟨_, ⟨v, v1, _, v3⟩, _⟩ := hd4 D k
    exact ⟨v, v1, v3⟩
  · rcases D.2.2 with K | K | K | K | K | K | K
    · exact ⟨expr_le K.2.2.2.2.2.2.2.1, by rw [K.2.2.2.2.2.2.2.2]; exact z⟩
    · obtain ⟨_, _, _, c⟩ := cond_i K.2.2
      rcases c with ⟨_, _, c, d⟩ | ⟨_, _, c, d, _⟩ | ⟨p1, _, c, _, d⟩
      · exact ⟨expr_le c, by rw [d]; exact z⟩
      · exact ⟨expr_le c, by rw [d]; exact z⟩
      · exact ⟨expr_le c, expr_le d⟩
    · exact ⟨expr_le K.2.2.2.2.1, by rw [K.2.2.2.2.2]; exact z⟩
    · exact ⟨by rw [K.2.2.2.2.1]; exact z, by rw [K.2.2.2.2.2]; exact z⟩
    · exact ⟨by rw [K.2.2.2.1]; exact z, by rw [K.2.2.2.2]; exact z⟩
    · exact ⟨by rw [K.2.2.2.2.1]; exact z, by rw [K.2.2.2.2.2]; exact z⟩
    · exact ⟨expr_le K.2.2.2.2.1, by rw [K.2.2.2.2.2]; exact z⟩
theorem okT_nil : ∀ m, okT m (tyN m) := by
  intro m
  cases m with
  | zero => trivial
  | succ m => exact ⟨Nat.zero_le _, fun pc h => by cases h⟩
def okQ (L : List Int32) (m p : Nat) (t : TY (m + 1)) (q : Nat) : Prop := List.length (α := PD (TY m)) t + p ≤ q ∧ ∀ pc : PD (TY m), pc ∈ (show List (PD (TY m)) from t) → okP pc ∧ okT m pc.2.2.2.2.2.2.1 ∧ okT m pc.2.2.2.2.2.2.2
theorem okQ.t {L : List Int32} {m p q : Nat} {t : TY (m + 1)} (h : okQ L m p t q) (hq : q ≤ 161) : okT (m + 1) t := ⟨by have := h.1; omega, h.2⟩
theorem okQ.cons {L : List Int32} {m p p' q : Nat} {pc : PD (TY m)} {t : TY (m + 1)} (h : okQ L m p' t q) (hp' : p < p') (o : okP pc) (o1 : okT m pc.2.2.2.2.2.2.1) (o2 : okT m pc.2.2.2.2.2.2.2) : okQ L m p (tCons pc t) q := by
  refine ⟨?_, fun x hx => ?_⟩
  · show (List.length (α := PD (TY m)) t + 1) + p ≤ q
    have := h.1; omega
  · rcases List.mem_cons.mp hx with rfl | hx
    · exact ⟨o, o1, o2⟩
    · exact h.2 x hx
theorem top_ok {L : List Int32} {b : Option Nat} {t : TY 5} (h : pTop L = .inl ((b, t), L.length)) (hl : L.length ≤ 160) : okT 5 t := by
  obtain ⟨n, p0, e, hp0, _⟩ := pre_top h
  have K := pcs_ind (L := L) (okQ L)
    (fun m p hp' _ => ⟨by show 0 + p ≤ p; omega, fun pc h => by cases h⟩)
    (fun m p t q _ _ _ Q => Q.cons (by omega) ⟨fun z => (by rcases z with z | z <;> cases z), fun z => (by cases z), fun z => (by cases z), Nat.zero_le _, Nat.zero_le _⟩ (okT_nil m) (okT_nil m))
    (fun m p b pc t q D _ e1 e2 Q => Q.cons (by have := D.1.2.1; omega) (hd_ok D) (by rw [e1]; exact okT_nil m) (by rw [e2]; exact okT_nil m))
    (fun m p b pc t e0 q _ D _ _ Q1 h1 h2 _ _ _ e2 Q => Q.cons (by have := D.1.2.1; omega) (hd_ok D) (Q1.t (by omega)) (by rw [e2]; exact okT_nil (m + 1)))
    (fun m p b pc t e0 e1 q _ D _ Q1 h1 h2 _ _ _ Q2 h3 h4 _ _ _ Q => Q.cons (by have := D.1.2.1; omega) (hd_ok D) (Q1.t (by omega)) (Q2.t (by omega)))
    n 4 false p0 L.length t (by decide) hp0 e
  exact K.2.2.t (by omega)
/-- the templates of both, told as trees; behind them the links of before -/
theorem JT.tp {h : hp} {own : Nat → Nat} (w : WF h) (J : JT h own) (W : List Int32) : ∃ tp : Tp, tp 6 = some (W, none, tyN 5) ∧ okTp tp ∧ JG h own tp ∧ RTh h tp := by
  have S : ∀ k, ∃ o : Option (List Int32 × Option Nat × TY 5), k < 6 → (match o with
      | none => hR h 67 k = 0
      | some x => hR h 67 k ≠ 0 ∧ (∀ q, x.2.1 = some q → q < 6) ∧ ∃ lo hi, TO h lo hi (hR h 67 k) x.1 x.2.1 x.2.2 ∧ ∀ y, lo ≤ y → y < hi → own y = 1) ∧ (match o with
      | none => hI h 174 k = -1
      | some x => TX h k x.1 ∧ pTop x.1 = .inl ((x.2.1, x.2.2), x.1.length)) ∧ ∀ x, o = some x → okT 5 x.2.2 := by
    intro k
    by_cases hk : k < 6
    · rcases J k hk with ⟨a, b⟩ | ⟨L, b, t, lo, hi, a1, a2, a3, a4, a5, a6, a7, a8⟩
      · exact ⟨none, fun _ => ⟨a, b, fun x z => by cases z⟩⟩
      · have T := tx_of w hk a2 a3 a4 a5
        exact ⟨some (L, b, t), fun _ => ⟨⟨a1, (ext_e T a6).2, lo, hi, a7, a8⟩, ⟨T, a6⟩, fun x z => by cases z; exact top_ok a6 a3⟩⟩
    · exact ⟨none, fun z => absurd z hk⟩
  obtain ⟨f, hf⟩ := Classical.axiomOfChoice S
  have e6 : (fun k => if k < 6 then f k else if k = 6 then some (W, none, tyN 5) else none : Tp) 6 = some (W, none, tyN 5) := rfl
  refine ⟨fun k => if k < 6 then f k else if k = 6 then some (W, none, tyN 5) else none, e6, fun k x z => ?_, fun k hk => ?_, fun k hk => ?_⟩
  · dsimp only at z
    by_cases hk : k < 6
    · rw [if_pos hk] at z
      exact (hf k hk).2.2 x z
    · rw [if_neg hk] at z
      by_cases k6 : k = 6
      · rw [if_pos k6] at z; cases z; exact okT_nil 5
      · rw [if_neg k6] at z; cases z
  · dsimp only
    rw [if_pos hk]
    exact (hf k hk).1
  · dsimp only
    rw [if_pos hk]
    exact (hf k hk).2.1

/-! the reference's walk: bytes of a value put -/
/-- so many bytes put, or no room -/
def pu (lim : Nat) : List Int32 → List Int32 → Option (List Int32)
  | [], out => some out
  | x :: xs, out => if lim ≤ out.length then none else pu lim xs (out ++ [x])
theorem putL_pu (lim : Nat) (ρ : Rh) (ln : Nat) : ∀ (xs : List Int32) (σ : St), putL lim ρ ln xs σ = match pu lim xs σ.2.2.1 with | some out => .inl (σ.1, σ.2.1, out, σ.2.2.2) | none => .inr (σ.2.2.2, lks ρ ln 5) := by
  intro xs
  induction xs with
  | nil => intro σ; rfl
  | cons x xs ih =>
    intro σ
    show bO (putW lim ρ ln x σ) (putL lim ρ ln xs) = match (if lim ≤ σ.2.2.1.length then none else pu lim xs (σ.2.2.1 ++ [x])) with | some out => .inl (σ.1, σ.2.1, out, σ.2.2.2) | none => .inr (σ.2.2.2, lks ρ ln 5)
    unfold putW
    by_cases c : lim ≤ σ.2.2.1.length
    · rw [if_pos c, if_pos c]; rfl
    · rw [if_neg c, if_neg c, bO_l]
      exact ih (σ.1, σ.2.1, σ.2.2.1 ++ [x], σ.2.2.2)
/-- behind bytes put -/
def PQ (h' : hp) (y : Int32) (lim st dp ol ctx : Nat) (lk fl : Bool) (R : Option (List Int32)) : Prop :=
  match R with
  | some out => y = 1 ∧ RN h' lim st dp ol ctx out lk fl
  | none => y = 0 ∧ ∃ out, RN h' lim st dp ol ctx out lk fl
theorem pu1 {h : hp} {lim st dp ol ctx : Nat} {out : List Int32} {lk fl : Bool} (w : WF h) (N : RN h lim st dp ol ctx out lk fl) (x : Int32) (xs : List Int32) : (∃ h', fX14_puts 165 x h = some (1, h') ∧ FS Ppt h h' ∧ RN h' lim st dp ol ctx (out ++ [x]) lk fl ∧ pu lim (x :: xs) out = pu lim xs (out ++ [x])) ∨ (fX14_puts 165 x h = some (0, h) ∧ pu lim (x :: xs) out = none) := by
  rcases puts_e w N x with ⟨c, e⟩ | ⟨c, h', e, f, N'⟩
  · exact .inr ⟨e, if_pos c⟩
  · exact .inl ⟨h', e, f, N', if_neg c⟩
theorem puN_e {h : hp} {lim st dp ol ctx : Nat} {out : List Int32} {lk fl : Bool} (w : WF h) (N : RN h lim st dp ol ctx out lk fl) (y : Int32) : ∃ h' r, fX14_putsNamed 165 y h = some (r, h') ∧ FS Ppt h h' ∧ PQ h' r lim st dp ol ctx lk fl (pu lim [38, y, 59] out) ∧ zck r = some () := by
  unfold fX14_putsNamed
  rw [ckM w, Option.bind_some]
  rcases pu1 w N 38 [y, 59] with ⟨h1, e1, f1, N1, p1⟩ | ⟨e1, p1⟩
  · have w1 := f1.wf w
    rw [e1, bd2_s, if_neg (by decide), ckM w1, Option.bind_some, p1]
    rcases pu1 w1 N1 y [59] with ⟨h2, e2, f2, N2, p2⟩ | ⟨e2, p2⟩
    · have w2 := f2.wf w1
      rw [e2, bd2_s, if_neg (by decide), ckM w2, Option.bind_some, p2]
      rcases pu1 w2 N2 59 [] with ⟨h3, e3, f3, N3, p3⟩ | ⟨e3, p3⟩
      · rw [e3, bd2_s, if_neg (by decide), p3]
        exact ⟨h3, 1, rfl, (f1.tr f2).tr f3, ⟨rfl, N3⟩, rfl⟩
      · rw [e3, bd2_s, if_pos rfl, p3]
        exact ⟨h2, 0, rfl, f1.tr f2, ⟨rfl, _, N2⟩, rfl⟩
    · rw [e2, bd2_s, if_pos rfl, p2]
      exact ⟨h1, 0, rfl, f1, ⟨rfl, _, N1⟩, rfl⟩
  · rw [e1, bd2_s, if_pos rfl, p1]
    exact ⟨h, 0, rfl, FS.rf _ h, ⟨rfl, _, N⟩, rfl⟩
theorem isLF_e (x : Int32) (h : hp) : fX14_isLetterOrFigure x h = some (if plnW x = true then 1 else 0, h) := by
  have isInG : fX14_isIn x.toInt64 65 90 h = some (if 65 ≤ x.toInt ∧ x.toInt ≤ 90 then 1 else 0, h) := by
    rw [isIn_e, Int32.toInt_toInt64, show (65 : Int64).toInt = 65 by decide, show (90 : Int64).toInt = 90 by decide]
  unfold fX14_isLetterOrFigure plnW
  rw [isInF, bd2_s, ite10]
  by_cases c1 : isF x = true
  · rw [if_pos c1, if_pos]
    simp only [isF, decide_eq_true_eq] at c1 ⊢
    exact .inl c1
  rw [if_neg c1, isInL, bd2_s, ite10]
  by_cases c2 : isL x = true
  · rw [if_pos c2, if_pos]
    simp only [isL, decide_eq_true_eq] at c2 ⊢
    exact .inr (.inl c2)
  rw [if_neg c2, isInG, bd2_s, ite10]
  simp only [isF, isL, decide_eq_true_eq] at c1 c2
  by_cases c3 : 65 ≤ x.toInt ∧ x.toInt ≤ 90
  · rw [if_pos c3, if_pos (by simp only [decide_eq_true_eq]; exact .inr (.inr c3))]
  · rw [if_neg c3, if_neg (by simp only [decide_eq_true_eq]; intro q; rcases q with q | q | q; exact c1 q; exact c2 q; exact c3 q)]
theorem puE_e {h : hp} {lim st dp ol ctx : Nat} {out : List Int32} {lk fl : Bool} (w : WF h) (N : RN h lim st dp ol ctx out lk fl) (x : Int32) : ∃ h' r, fX14_putsEscaped 165 x h = some (r, h') ∧ FS Ppt h h' ∧ PQ h' r lim st dp ol ctx lk fl (pu lim (escW ctx x) out) := by
  have n23 := N.2.2.2.2.2.2.2.1
  have c3 := N.2.2.2.2.2.2.2.2.1
  have one : ∀ y : Int32, ∃ h' r, ((ckT h 165 13).bind fun _ => bd2 (fX14_puts 165 y h) fun v39 h40 => (zck v39).bind fun _ => some (v39, h40)) = some (r, h') ∧ FS Ppt h h' ∧ PQ h' r lim st dp ol ctx lk fl (pu lim [y] out) := by
    intro y
    rw [ckM w, Option.bind_some]
    rcases pu1 w N y [] with ⟨h1, e1, f1, N1, p1⟩ | ⟨e1, p1⟩
    · rw [e1, bd2_s, p1]; exact ⟨h1, 1, rfl, f1, rfl, N1⟩
    · rw [e1, bd2_s, p1]; exact ⟨h, 0, rfl, FS.rf _ h, rfl, _, N⟩
  have nm : ∀ y : Int32, ∃ h' r, ((ckT h 165 13).bind fun _ => bd2 (fX14_putsNamed 165 y h) fun v23 h24 => (zck v23).bind fun _ => some (v23, h24)) = some (r, h') ∧ FS Ppt h h' ∧ PQ h' r lim st dp ol ctx lk fl (pu lim [38, y, 59] out) := by
    intro y
    obtain ⟨h1, r, e1, f1, q1, z1⟩ := puN_e w N y
    exact ⟨h1, r, by rw [ckM w, Option.bind_some, e1, bd2_s, z1, Option.bind_some], f1, q1⟩
  unfold fX14_putsEscaped escW
  rw [gM w, Option.bind_some, n23]
  by_cases k1 : ctx = 1
  · rw [if_pos (show iN ctx = 1 by rw [k1]; rfl), if_pos k1, isLF_e, bd2_s, jn_e, ite10]
    by_cases p : plnW x = true
    · rw [if_pos p, if_pos p]; exact one x
    · rw [if_neg p, if_neg p]; exact one 95
  rw [if_neg (show ¬ iN ctx = 1 from fun q => k1 ((i_eq (b := 1) (by omega) (by decide)).mp q)), if_neg k1, Option.bind_some]
  by_cases k3 : ctx = 3
  · rw [if_pos (show iN ctx = 3 by rw [k3]; rfl), if_pos k3, jn_e, jn_e]
    have last : ∀ (g : hp) (out' : List Int32), WF g → FS Ppt h g → RN g lim st dp ol ctx out' lk fl → ∃ h' r, ((ckT g 165 13).bind fun _ => bd2 (fX14_puts 165 x g) fun v28 h29 => if v28 = 0 then some ((0 : Int32), h29) else some (1, h29)) = some (r, h') ∧ FS Ppt h h' ∧ PQ h' r lim st dp ol ctx lk fl (pu lim [x] out') := by
      intro g out' wg fg Ng
      rw [ckM wg, Option.bind_some]
      rcases pu1 wg Ng x [] with ⟨h1, e1, f1, N1, p1⟩ | ⟨e1, p1⟩
      · rw [e1, bd2_s, if_neg (by decide), p1]; exact ⟨h1, 1, rfl, fg.tr f1, rfl, N1⟩
      · rw [e1, bd2_s, if_pos rfl, p1]; exact ⟨g, 0, rfl, fg, rfl, _, Ng⟩
    have two : ∃ h' r, ((ckT h 165 13).bind fun _ => bd2 (fX14_puts 165 92 h) fun v32 h33 => if v32 = 0 then some ((0 : Int32), h33) else ((ckT h33 165 13).bind fun _ => bd2 (fX14_puts 165 x h33) fun v28 h29 => if v28 = 0 then some ((0 : Int32), h29) else some (1, h29))) = some (r, h') ∧ FS Ppt h h' ∧ PQ h' r lim st dp ol ctx lk fl (pu lim [92, x] out) := by
      rw [ckM w, Option.bind_some]
      rcases pu1 w N 92 [x] with ⟨h1, e1, f1, N1, p1⟩ | ⟨e1, p1⟩
      · rw [e1, bd2_s, if_neg (by decide), p1]
        exact last h1 _ (f1.wf w) f1 N1
      · rw [e1, bd2_s, if_pos rfl, p1]; exact ⟨h, 0, rfl, FS.rf _ h, rfl, _, N⟩
    by_cases a : x = 96
    · rw [if_pos a, if_pos (show x = 96 ∨ x = 92 from .inl a)]; exact two
    · rw [if_neg a]
      by_cases b : x = 92
      · rw [if_pos b, if_pos (show x = 96 ∨ x = 92 from .inr b)]; exact two
      · rw [if_neg b, if_neg (show ¬ (x = 96 ∨ x = 92) from fun q => q.elim a b)]
        exact last h out w (FS.rf _ h) N
  rw [if_neg (show ¬ iN ctx = 3 from fun q => k3 ((i_eq (b := 3) (by omega) (by decide)).mp q)), if_neg k3]
  by_cases a : x = 60
  · rw [if_pos a, if_pos a]; exact nm 108
  rw [if_neg a, if_neg a]
  by_cases b : x = 38
  · rw [if_pos b, if_pos b]; exact nm 97
  rw [if_neg b, if_neg b, Option.bind_some, jn_e]
  by_cases k2 : ctx = 2
  · rw [if_pos (show iN ctx = 2 by rw [k2]; rfl)]
    by_cases d : x = 34
    · rw [if_pos d, if_pos (show ctx = 2 ∧ x = 34 from ⟨k2, d⟩)]; exact nm 113
    · rw [if_neg d, if_neg (show ¬ (ctx = 2 ∧ x = 34) from fun q => d q.2)]; exact one x
  · rw [if_neg (show ¬ iN ctx = 2 from fun q => k2 ((i_eq (b := 2) (by omega) (by decide)).mp q)), if_neg (show ¬ (ctx = 2 ∧ x = 34) from fun q => k2 q.1)]
    exact one x

/-! the reference's walk: bytes put, contexts -/
/-- the numbers of the reference's walk -/
def RN (h : hp) (lim st dp ol ctx : Nat) (out : List Int32) (lk fl : Bool) : Prop := hI h 165 24 = iN lim ∧ lim ≤ 400 ∧ hI h 165 35 = iN st ∧ st ≤ 300 ∧ hI h 165 36 = iN dp ∧ dp ≤ 8 ∧ hI h 165 30 = iN ol ∧ hI h 165 23 = iN ctx ∧ ctx ≤ 3 ∧ (hI h 165 22 = iN out.length ∧ out.length ≤ 400 ∧ ∀ k, k < out.length → hI h 176 k = out.getD k 0) ∧ hI h 165 42 = b2 lk ∧ hI h 165 43 = b2 fl
abbrev Ppt (x k : Nat) : Prop := (x = 165 ∧ k = 22) ∨ x = 176
theorem puts_e {h : hp} {lim st dp ol ctx : Nat} {out : List Int32} {lk fl : Bool} (w : WF h) (N : RN h lim st dp ol ctx out lk fl) (x : Int32) : (lim ≤ out.length ∧ fX14_puts 165 x h = some (0, h)) ∨ (¬ lim ≤ out.length ∧ ∃ h', fX14_puts 165 x h = some (1, h') ∧ FS Ppt h h' ∧ RN h' lim st dp ol ctx (out ++ [x]) lk fl) := by
  obtain ⟨n1, n2, n3, n4, n5, n6, n7, n8, n9, ⟨o1, o2, o3⟩, n11, n12⟩ := N
  have ir : fX14_isRoom 165 h = some (if lim ≤ out.length then 0 else 1, h) := by
    unfold fX14_isRoom
    rw [gM w, Option.bind_some, gM w, Option.bind_some, o1, n1]
    by_cases c : lim ≤ out.length
    · rw [if_pos ((i_le (by omega) (by omega)).mpr c), if_pos c]
    · rw [if_neg (fun q => c ((i_le (by omega) (by omega)).mp q)), if_neg c]
  unfold fX14_puts
  rw [ckM w, Option.bind_some, ir, bd2_s]
  by_cases c : lim ≤ out.length
  · rw [if_pos c, if_pos rfl]; exact .inl ⟨c, rfl⟩
  · rw [if_neg c, if_neg (by decide)]
    refine .inr ⟨c, pI (pI h 176 out.length x) 165 22 (iN (out.length + 1)), ?_, (FS.pI (.inr rfl)).tr (FS.pI (.inl ⟨rfl, rfl⟩)), ?_⟩
    · have w1 : WF (pI h 176 out.length x) := w
      have r1 : hI (pI h 176 out.length x) 165 22 = iN out.length := by rw [hI_pI, if_neg (by omega)]; exact o1
      rw [MR20 w, Option.bind_some, gM w, Option.bind_some, o1, MS176 w (by omega), Option.bind_some, gM w1, Option.bind_some, r1, i_succ, pM w1, Option.bind_some]
    · have e : ∀ k, k ≠ 22 → hI (pI (pI h 176 out.length x) 165 22 (iN (out.length + 1))) 165 k = hI h 165 k := fun k hk => by rw [hI_pI, if_neg (fun q => hk q.2), hI_pI, if_neg (by omega)]
      have ll : (out ++ [x]).length = out.length + 1 := List.length_append
      unfold RN
      rw [e 24 (by decide), e 35 (by decide), e 36 (by decide), e 30 (by decide), e 23 (by decide), e 42 (by decide), e 43 (by decide), ll]
      refine ⟨n1, n2, n3, n4, n5, n6, n7, n8, n9, ⟨by rw [hI_pI, if_pos ⟨rfl, rfl⟩], by omega, fun k hk => ?_⟩, n11, n12⟩
      rw [hI_pI, if_neg (by omega), hI_pI]
      by_cases q : k = out.length
      · rw [if_pos ⟨rfl, q⟩, q, List.getD_eq_getElem?_getD, List.getElem?_append_right (Nat.le_refl _), Nat.sub_self]; rfl
      · rw [if_neg (fun z => q z.2), o3 k (by omega), List.getD_eq_getElem?_getD, List.getD_eq_getElem?_getD, List.getElem?_append_left (by omega)]
/-- the context put -/
theorem RN.ctx {h : hp} {lim st dp ol ctx c : Nat} {out : List Int32} {lk fl : Bool} (N : RN h lim st dp ol ctx out lk fl) (hc : c ≤ 3) : RN (pI h 165 23 (iN c)) lim st dp ol c out lk fl := by
  obtain ⟨n1, n2, n3, n4, n5, n6, n7, n8, n9, ⟨o1, o2, o3⟩, n11, n12⟩ := N
  have e : ∀ k, k ≠ 23 → hI (pI h 165 23 (iN c)) 165 k = hI h 165 k := fun k hk => by rw [hI_pI, if_neg (fun q => hk q.2)]
  unfold RN
  rw [e 24 (by decide), e 35 (by decide), e 36 (by decide), e 30 (by decide), e 22 (by decide), e 42 (by decide), e 43 (by decide)]
  exact ⟨n1, n2, n3, n4, n5, n6, n7, by rw [hI_pI, if_pos ⟨rfl, rfl⟩], hc, ⟨o1, o2, fun k hk => by rw [hI_pI, if_neg (by omega)]; exact o3 k hk⟩, n11, n12⟩
theorem goes_e {h : hp} {ctx : Nat} (w : WF h) (hc : hI h 165 23 = iN ctx) (c3 : ctx ≤ 3) (x : Int32) : fX14_goesOnBy 165 x h = some (pI h 165 23 (iN (behW ctx x))) ∧ behW ctx x ≤ 3 := by
  have k : ∀ c : Nat, (pfI h 165 13 23 (iN c)).bind (fun h13 => some h13) = some (pI h 165 23 (iN c)) := fun c => by rw [pM w, Option.bind_some]
  have n : ∀ a b : Nat, a ≤ 3 → b ≤ 3 → a ≠ b → ¬ (iN a = iN b) := fun a b ha hb ne q => ne ((i_eq (by omega) (by omega)).mp q)
  unfold fX14_goesOnBy behW
  rw [gM w, Option.bind_some, hc]
  rcases (by omega : ctx = 0 ∨ ctx = 1 ∨ ctx = 2 ∨ ctx = 3) with rfl | rfl | rfl | rfl
  · rw [if_pos (show iN 0 = 0 from rfl), if_pos (show (0 : Nat) = 0 from rfl), jn_e]
    by_cases a : x = 60
    · rw [if_pos a, if_pos a]; exact ⟨k 1, by omega⟩
    · rw [if_neg a, if_neg a]
      by_cases b : x = 96
      · rw [if_pos b, if_pos b]; exact ⟨k 3, by omega⟩
      · rw [if_neg b, if_neg b]; exact ⟨k 0, by omega⟩
  · rw [if_neg (show ¬ iN 1 = 0 by decide), Option.bind_some, if_pos (show iN 1 = 1 from rfl), if_neg (show ¬ (1 : Nat) = 0 by decide), if_pos (show (1 : Nat) = 1 from rfl), jn_e]
    by_cases a : x = 62
    · rw [if_pos a, if_pos a]; exact ⟨k 0, by omega⟩
    · rw [if_neg a, if_neg a]
      by_cases b : x = 34
      · rw [if_pos b, if_pos b]; exact ⟨k 2, by omega⟩
      · rw [if_neg b, if_neg b]; exact ⟨k 1, by omega⟩
  · rw [if_neg (show ¬ iN 2 = 0 by decide), Option.bind_some, if_neg (show ¬ iN 2 = 1 by decide), Option.bind_some, if_pos (show iN 2 = 2 from rfl), if_neg (show ¬ (2 : Nat) = 0 by decide), if_neg (show ¬ (2 : Nat) = 1 by decide), if_pos (show (2 : Nat) = 2 from rfl), jn_e]
    by_cases a : x = 34
    · rw [if_pos a, if_pos a]; exact ⟨k 1, by omega⟩
    · rw [if_neg a, if_neg a]; exact ⟨k 2, by omega⟩
  · rw [if_neg (show ¬ iN 3 = 0 by decide), Option.bind_some, if_neg (show ¬ iN 3 = 1 by decide), Option.bind_some, if_neg (show ¬ iN 3 = 2 by decide), if_neg (show ¬ (3 : Nat) = 0 by decide), if_neg (show ¬ (3 : Nat) = 1 by decide), if_neg (show ¬ (3 : Nat) = 2 by decide), jn_e]
    by_cases a : x = 96
    · rw [if_pos a, if_pos a]; exact ⟨k 0, by omega⟩
    · rw [if_neg a, if_neg a]; exact ⟨k 3, by omega⟩

/-! law's loop -/
set_option maxHeartbeats 800000
def Lg (A B : Nat) (o : Option (Nat × hp)) : Prop := ∃ hz, o = some (29, hz) ∧ hN hz + 2 * Zf hz ≤ A ∧ hL hz + 21 * Zf hz ≤ B
theorem Lg.ite {A B : Nat} {c : Prop} [Decidable c] {X Y : Option (Nat × hp)} (p : c → Lg A B X) (q : ¬ c → Lg A B Y) : Lg A B (if c then X else Y) := by
  by_cases z : c
  · rw [if_pos z]; exact p z
  · rw [if_neg z]; exact q z
theorem Lg.sc {A B : Nat} {xs : Nat → Int32} {L : Nat} {i v : Int32} {F : Int32 → Option (Nat × hp)} (e : scA xs L i = some v) (g : Lg A B (F v)) : Lg A B ((scA xs L i).bind F) := by
  rw [e, Option.bind_some]; exact g
theorem law_a {α : Type} {F13 F14 : hp → Option (α × hp)} {h : hp} {own : Nat → Nat} {A B : Nat} {K : hp → Option (Nat × hp)} {R : α → hp → Option (Nat × hp)} (w : WF h) (go : ∀ h2 own', LI h2 own' → hN h2 + 2 * Zf h2 ≤ hN h + 2 * Zf h + 1000 → hL h2 + 21 * Zf h2 ≤ hL h + 21 * Zf h + 9900 → Lg A B (K h2)) (S : STp F13 F14 h own) (r : ∀ a h1 h2, F14 h1 = some (a, h2) → ckT h1 165 13 = some () → Lg A B (K h2) → Lg A B (R a h1)) : Lg A B ((ckT h 64 12).bind fun _ => bd2 (F13 h) R) := by
  obtain ⟨a, h1, h2, own', e1, e2, c, L2, n2, l2⟩ := S
  have ck : ckT h 64 12 = some () := by unfold ckT; rw [T64 w]; rfl
  rw [ck, Option.bind_some, e1, bd2_s]
  exact r a h1 h2 e2 c (go h2 own' L2 n2 l2)
theorem law_b {F14 : hp → Option (Int32 × hp)} {h1 h2 : hp} {a : Int32} {A B i : Nat} {K : hp → Option (Nat × hp)} (e : F14 h1 = some (a, h2)) (c : ckT h1 165 13 = some ()) (g : Lg A B (K h2)) : Lg A B ((ckT h1 165 13).bind fun _ => bd2 (F14 h1) fun v h3 => if a = v then K h3 else some (i, h3)) := by
  rw [c, Option.bind_some, e, bd2_s, if_pos rfl]; exact g
theorem law_b8 {F14 : hp → Option (Int64 × hp)} {h1 h2 : hp} {a : Int64} {A B i : Nat} {K : hp → Option (Nat × hp)} (e : F14 h1 = some (a, h2)) (c : ckT h1 165 13 = some ()) (g : Lg A B (K h2)) : Lg A B ((ckT h1 165 13).bind fun _ => bd2 (F14 h1) fun v h3 => if (lg_cmp a v) = 0 then K h3 else some (i, h3)) := by
  rw [c, Option.bind_some, e, bd2_s, if_pos (by simp [lg_cmp])]; exact g
theorem sc_e (xs : Nat → Int32) {L j : Nat} (h : j < L) (hl : L ≤ 3072) : scA xs L (iN j) = some (xs j) := by
  unfold scA
  rw [i_toInt (by omega), if_pos (by omega), i_clamp (by omega)]
theorem law_l (xs : Nat → Int32) (L : Nat) (hq : L ≤ 3072) : ∀ (d n i : Nat) (h : hp) (own : Nat → Nat), i + d = L / 6 → d < n → LI h own → Lg (hN h + 2 * Zf h + 1000 * d) (hL h + 21 * Zf h + 9900 * d) (fL_law_l18 xs L n 64 165 (iN (6 * i)) h) := by
  have cmp : ∀ i, i ≤ L / 6 → ((Int32.ofNat L - 6 < iN (6 * i)) ↔ L < 6 * i + 6) := fun i hi => by
    rw [Int32.lt_iff_toInt_lt, show (Int32.ofNat L - 6).toInt = (L : Int) - (6 : Nat) from i_subn (n := L) (p := 6) (by omega) (by omega), i_toInt (by omega)]; omega
  intro d
  induction d with
  | zero =>
    intro n i h own hi hn H
    obtain ⟨n, rfl⟩ : ∃ m, n = m + 1 := ⟨n - 1, by omega⟩
    unfold fL_law_l18
    rw [if_pos ((cmp i (by omega)).mpr (by omega))]
    exact ⟨h, rfl, by omega, by omega⟩
  | succ d ih =>
    intro n i h own hi hn H
    obtain ⟨n, rfl⟩ : ∃ m, n = m + 1 := ⟨n - 1, by omega⟩
    have w := H.1.1
    have go : ∀ h2 own', LI h2 own' → hN h2 + 2 * Zf h2 ≤ hN h + 2 * Zf h + 1000 → hL h2 + 21 * Zf h2 ≤ hL h + 21 * Zf h + 9900 → Lg (hN h + 2 * Zf h + 1000 * (d + 1)) (hL h + 21 * Zf h + 9900 * (d + 1)) (fL_law_l18 xs L n 64 165 (iN (6 * i) + 6) h2) := fun h2 own' L2 n2 l2 => by
      obtain ⟨hz, e, a, b⟩ := ih n (i + 1) h2 own' (by omega) (by omega) L2
      rw [show iN (6 * i) + 6 = iN (6 * (i + 1)) from i_add (6 * i) 6]
      exact ⟨hz, e, by omega, by omega⟩
    have e0 : scA xs L (iN (6 * i)) = some (xs (6 * i)) := sc_e xs (by omega) hq
    have e1 : scA xs L (iN (6 * i) + 1) = some (xs (6 * i + 1)) := (congrArg (scA xs L) (i_add (6 * i) 1)).trans (sc_e xs (by omega) hq)
    have e2 : scA xs L (iN (6 * i) + 2) = some (xs (6 * i + 2)) := (congrArg (scA xs L) (i_add (6 * i) 2)).trans (sc_e xs (by omega) hq)
    have e3 : scA xs L (iN (6 * i) + 3) = some (xs (6 * i + 3)) := (congrArg (scA xs L) (i_add (6 * i) 3)).trans (sc_e xs (by omega) hq)
    have e4 : scA xs L (iN (6 * i) + 4) = some (xs (6 * i + 4)) := (congrArg (scA xs L) (i_add (6 * i) 4)).trans (sc_e xs (by omega) hq)
    have e5 : scA xs L (iN (6 * i) + 5) = some (xs (6 * i + 5)) := (congrArg (scA xs L) (i_add (6 * i) 5)).trans (sc_e xs (by omega) hq)
    unfold fL_law_l18
    rw [if_neg fun z => by have := (cmp i (by omega)).mp z; omega]
    refine Lg.sc e0 ?_
    refine Lg.ite (fun _ => Lg.sc e1 <| law_a (K := fun h2 => fL_law_l18 xs L n 64 165 (iN (6 * i) + 6) h2) w go (st_none H _) fun a h1 h2 e c g => Lg.sc e1 <| law_b e c g) fun _ => ?_
    refine Lg.ite (fun _ => Lg.sc e1 <| Lg.sc e2 <| law_a (K := fun h2 => fL_law_l18 xs L n 64 165 (iN (6 * i) + 6) h2) w go (st_number H _ _) fun a h1 h2 e c g => Lg.sc e1 <| Lg.sc e2 <| law_b e c g) fun _ => ?_
    refine Lg.ite (fun _ => Lg.sc e1 <| Lg.sc e2 <| Lg.sc e3 <| law_a (K := fun h2 => fL_law_l18 xs L n 64 165 (iN (6 * i) + 6) h2) w go (st_real H _ _ _) fun a h1 h2 e c g => Lg.sc e1 <| Lg.sc e2 <| Lg.sc e3 <| law_b e c g) fun _ => ?_
    refine Lg.ite (fun _ => Lg.sc e1 <| law_a (K := fun h2 => fL_law_l18 xs L n 64 165 (iN (6 * i) + 6) h2) w go (st_text H _) fun a h1 h2 e c g => Lg.sc e1 <| law_b e c g) fun _ => ?_
    refine Lg.ite (fun _ => Lg.sc e1 <| Lg.sc e2 <| law_a (K := fun h2 => fL_law_l18 xs L n 64 165 (iN (6 * i) + 6) h2) w go (st_list H _ _) fun a h1 h2 e c g => Lg.sc e1 <| Lg.sc e2 <| law_b e c g) fun _ => ?_
    refine Lg.ite (fun _ => Lg.sc e1 <| Lg.sc e2 <| Lg.sc e3 <| law_a (K := fun h2 => fL_law_l18 xs L n 64 165 (iN (6 * i) + 6) h2) w go (st_item H _ _ _) fun a h1 h2 e c g => Lg.sc e1 <| Lg.sc e2 <| Lg.sc e3 <| law_b e c g) fun _ => ?_
    refine Lg.ite (fun _ => Lg.sc e1 <| Lg.sc e2 <| law_a (K := fun h2 => fL_law_l18 xs L n 64 165 (iN (6 * i) + 6) h2) w go (st_of H _ _) fun a h1 h2 e c g => Lg.sc e1 <| Lg.sc e2 <| law_b e c g) fun _ => ?_
    refine Lg.ite (fun _ => Lg.sc e1 <| Lg.sc e2 <| law_a (K := fun h2 => fL_law_l18 xs L n 64 165 (iN (6 * i) + 6) h2) w go (st_shown H _ _) fun a h1 h2 e c g => Lg.sc e1 <| Lg.sc e2 <| law_b e c g) fun _ => ?_
    refine Lg.ite (fun _ => Lg.sc e1 <| law_a (K := fun h2 => fL_law_l18 xs L n 64 165 (iN (6 * i) + 6) h2) w go (st_feed H _) fun a h1 h2 e c g => Lg.sc e1 <| law_b e c g) fun _ => ?_
    refine Lg.ite (fun _ => law_a (K := fun h2 => fL_law_l18 xs L n 64 165 (iN (6 * i) + 6) h2) w go (st_clear H) fun a h1 h2 e c g => law_b e c g) fun _ => ?_
    refine Lg.ite (fun _ => Lg.sc e1 <| law_a (K := fun h2 => fL_law_l18 xs L n 64 165 (iN (6 * i) + 6) h2) w go (st_template H _) fun a h1 h2 e c g => Lg.sc e1 <| law_b e c g) fun _ => ?_
    refine Lg.ite (fun _ => Lg.sc e1 <| law_a (K := fun h2 => fL_law_l18 xs L n 64 165 (iN (6 * i) + 6) h2) w go (st_drop H _) fun a h1 h2 e c g => Lg.sc e1 <| law_b e c g) fun _ => ?_
    refine Lg.ite (fun _ => Lg.sc e1 <| Lg.sc e2 <| law_a (K := fun h2 => fL_law_l18 xs L n 64 165 (iN (6 * i) + 6) h2) w go (st_has H _ _) fun a h1 h2 e c g => Lg.sc e1 <| Lg.sc e2 <| law_b e c g) fun _ => ?_
    refine Lg.ite (fun _ => Lg.sc e1 <| Lg.sc e2 <| law_a (K := fun h2 => fL_law_l18 xs L n 64 165 (iN (6 * i) + 6) h2) w go (st_look H _ _) fun a h1 h2 e c g => Lg.sc e1 <| Lg.sc e2 <| law_b e c g) fun _ => ?_
    refine Lg.ite (fun _ => Lg.sc e1 <| law_a (K := fun h2 => fL_law_l18 xs L n 64 165 (iN (6 * i) + 6) h2) w go (st_press H _) fun a h1 h2 e c g => Lg.sc e1 <| law_b e c g) fun _ => ?_
    refine Lg.ite (fun _ => Lg.sc e1 <| law_a (K := fun h2 => fL_law_l18 xs L n 64 165 (iN (6 * i) + 6) h2) w go (st_filter H _) fun a h1 h2 e c g => Lg.sc e1 <| law_b e c g) fun _ => ?_
    refine Lg.ite (fun _ => Lg.sc e1 <| law_a (K := fun h2 => fL_law_l18 xs L n 64 165 (iN (6 * i) + 6) h2) w go (st_page H _) fun a h1 h2 e c g => Lg.sc e1 <| law_b e c g) fun _ => ?_
    refine Lg.ite (fun _ => Lg.sc e1 <| Lg.sc e2 <| law_a (K := fun h2 => fL_law_l18 xs L n 64 165 (iN (6 * i) + 6) h2) w go (st_why H _ _) fun a h1 h2 e c g => Lg.sc e1 <| Lg.sc e2 <| law_b e c g) fun _ => ?_
    refine Lg.ite (fun _ => Lg.sc e1 <| law_a (K := fun h2 => fL_law_l18 xs L n 64 165 (iN (6 * i) + 6) h2) w go (st_budget H _) fun a h1 h2 e c g => Lg.sc e1 <| law_b e c g) fun _ => ?_
    refine Lg.ite (fun _ => Lg.sc e1 <| law_a (K := fun h2 => fL_law_l18 xs L n 64 165 (iN (6 * i) + 6) h2) w go (st_told H _) fun a h1 h2 e c g => Lg.sc e1 <| law_b e c g) fun _ => ?_
    refine Lg.ite (fun _ => Lg.sc e1 <| Lg.sc e2 <| Lg.sc e3 <| law_a (K := fun h2 => fL_law_l18 xs L n 64 165 (iN (6 * i) + 6) h2) w go (st_row H _ _ _) fun a h1 h2 e c g => Lg.sc e1 <| Lg.sc e2 <| Lg.sc e3 <| law_b e c g) fun _ => ?_
    refine Lg.ite (fun _ => Lg.sc e1 <| Lg.sc e2 <| Lg.sc e3 <| Lg.sc e4 <| law_a (K := fun h2 => fL_law_l18 xs L n 64 165 (iN (6 * i) + 6) h2) w go (st_set H _ _ _) fun a h1 h2 e c g => Lg.sc e1 <| Lg.sc e2 <| Lg.sc e3 <| Lg.sc e4 <| law_b e c g) fun _ => ?_
    refine Lg.ite (fun _ => Lg.sc e1 <| Lg.sc e2 <| law_a (K := fun h2 => fL_law_l18 xs L n 64 165 (iN (6 * i) + 6) h2) w go (st_get H _ _) fun a h1 h2 e c g => Lg.sc e1 <| Lg.sc e2 <| law_b8 e c g) fun _ => ?_
    refine Lg.ite (fun _ => Lg.sc e1 <| Lg.sc e2 <| Lg.sc e3 <| Lg.sc e4 <| Lg.sc e5 <| law_a (K := fun h2 => fL_law_l18 xs L n 64 165 (iN (6 * i) + 6) h2) w go (st_move H _ _ _ _ _) fun a h1 h2 e c g => Lg.sc e1 <| Lg.sc e2 <| Lg.sc e3 <| Lg.sc e4 <| Lg.sc e5 <| law_b e c g) fun _ => ?_
    refine Lg.ite (fun _ => Lg.sc e1 <| Lg.sc e2 <| law_a (K := fun h2 => fL_law_l18 xs L n 64 165 (iN (6 * i) + 6) h2) w go (st_twin H _ _) fun a h1 h2 e c g => Lg.sc e1 <| Lg.sc e2 <| law_b e c g) fun _ => ?_
    refine Lg.ite (fun _ => Lg.sc e1 <| Lg.sc e2 <| law_a (K := fun h2 => fL_law_l18 xs L n 64 165 (iN (6 * i) + 6) h2) w go (st_lay H _ _) fun a h1 h2 e c g => Lg.sc e1 <| Lg.sc e2 <| law_b e c g) fun _ => ?_
    refine Lg.ite (fun _ => Lg.sc e1 <| Lg.sc e2 <| law_a (K := fun h2 => fL_law_l18 xs L n 64 165 (iN (6 * i) + 6) h2) w go (st_judge H _ _) fun a h1 h2 e c g => Lg.sc e1 <| Lg.sc e2 <| law_b e c g) fun _ => ?_
    refine Lg.ite (fun _ => law_a (K := fun h2 => fL_law_l18 xs L n 64 165 (iN (6 * i) + 6) h2) w go (st_image H) fun a h1 h2 e c g => law_b e c g) fun _ => ?_
    refine Lg.ite (fun _ => law_a (K := fun h2 => fL_law_l18 xs L n 64 165 (iN (6 * i) + 6) h2) w go (st_undo H) fun a h1 h2 e c g => law_b e c g) fun _ => ?_
    exact go h own H (by omega) (by omega)

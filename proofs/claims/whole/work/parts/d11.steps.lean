/-! a step for each call -/
set_option maxHeartbeats 400000
theorem ck_if {α : Type} {c : Prop} [Decidable c] {x a : α} {h1 h2 : hp} {F : Option (α × hp)} (e : (if c then some (x, h1) else F) = some (a, h2)) (w : WF h2) (g : F = some (a, h2) → ckT h1 165 13 = some ()) : ckT h1 165 13 = some () := by
  by_cases q : c
  · rw [if_pos q] at e; exact ck_eq e w
  · rw [if_neg q] at e; exact g e
theorem ck_fi {α : Type} {c : Prop} [Decidable c] {x a : α} {h1 h2 : hp} {F : Option (α × hp)} (e : (if c then F else some (x, h1)) = some (a, h2)) (w : WF h2) (g : F = some (a, h2) → ckT h1 165 13 = some ()) : ckT h1 165 13 = some () := by
  by_cases q : c
  · rw [if_pos q] at e; exact g e
  · rw [if_neg q] at e; exact ck_eq e w
theorem ck_v {α : Type} {v : Int32} {h1 : hp} {F : Int32 → hp → Option α} {r : α} (e : bd2 (fX14_isVariable v h1) F = some r) (g : ∀ x, F x h1 = some r → ckT h1 165 13 = some ()) : ckT h1 165 13 = some () := by
  rw [mIsV, bd2_s] at e; exact g _ e
theorem ck_i {α : Type} {v lo hi : Int64} {h1 : hp} {F : Int32 → hp → Option α} {r : α} (e : bd2 (fX14_isIn v lo hi h1) F = some r) (g : ∀ x, F x h1 = some r → ckT h1 165 13 = some ()) : ckT h1 165 13 = some () := by
  rw [isIn_e, bd2_s] at e; exact g _ e
theorem ck_w {α : Type} {v : Int32} {h1 : hp} {F : Int32 → hp → Option α} {r : α} (e : bd2 (fX14_isRow v h1) F = some r) (g : ∀ x, F x h1 = some r → ckT h1 165 13 = some ()) : ckT h1 165 13 = some () := by
  rw [isRow_e, bd2_s] at e; exact g _ e
theorem ck_t {α : Type} {v : Int32} {h1 : hp} {F : Int32 → hp → Option α} {r : α} (e : bd2 (fX14_isTemplate v h1) F = some r) (g : ∀ x, F x h1 = some r → ckT h1 165 13 = some ()) : ckT h1 165 13 = some () := by
  unfold fX14_isTemplate at e
  rw [isIn_e, bd2_s, zck_ite, Option.bind_some, bd2_s] at e; exact g _ e
theorem st_none {h : hp} {own : Nat → Nat} (H : LI h own) (v : Int32) : STp (fX13_none 64 v) (fX14_none 165 v) h own :=
  bt_v H (call_none H.1.1 H.2.2.1 v) fun h1 h2 a e w => by
    unfold fX14_none at e
    exact ck_v e fun x e => ck_if e w fun e => ck_gR e
theorem st_number {h : hp} {own : Nat → Nat} (H : LI h own) (v n : Int32) : STp (fX13_number 64 v n) (fX14_number 165 v n) h own :=
  bt_v H (call_number H.1.1 H.2.2.1 v n) fun h1 h2 a e w => by
    unfold fX14_number at e
    exact ck_v e fun x e => ck_if e w fun e => ck_i e fun x e => ck_if e w fun e => ck_gR e
theorem st_real {h : hp} {own : Nat → Nat} (H : LI h own) (v n d : Int32) : STp (fX13_real 64 v n d) (fX14_real 165 v n d) h own :=
  bt_v H (call_real H.1.1 H.2.2.1 v n d) fun h1 h2 a e w => by
    unfold fX14_real at e
    exact ck_v e fun x e => ck_if e w fun e => ck_if e w fun e => ck_gR e
theorem st_text {h : hp} {own : Nat → Nat} (H : LI h own) (v : Int32) : STp (fX13_text 64 v) (fX14_text 165 v) h own :=
  bt_vt H (call_text H.1.1 H.2.2.1 H.2.2.2.1 v) fun h1 h2 a e w => by
    unfold fX14_text at e
    exact ck_v e fun x e => ck_if e w fun e => ck_gI e
theorem st_list {h : hp} {own : Nat → Nat} (H : LI h own) (v n : Int32) : STp (fX13_list 64 v n) (fX14_list 165 v n) h own :=
  bt_v H (call_list H.1.1 H.2.2.1 v n) fun h1 h2 a e w => by
    unfold fX14_list at e
    exact ck_v e fun x e => ck_if e w fun e => ck_i e fun x e => ck_if e w fun e => ck_gR e
theorem st_item {h : hp} {own : Nat → Nat} (H : LI h own) (v i n : Int32) : STp (fX13_item 64 v i n) (fX14_item 165 v i n) h own :=
  bt_v H (call_item H.1.1 H.2.2.1 v i n) fun h1 h2 a e w => by
    unfold fX14_item at e
    exact ck_v e fun x e => ck_if e w fun e => ck_gR e
theorem st_of {h : hp} {own : Nat → Nat} (H : LI h own) (v n : Int32) : STp (fX13_of 64 v n) (fX14_of 165 v n) h own :=
  bt_vz H (call_of H.1.1 H.2.2.1 v n) fun h1 h2 a e w => by
    unfold fX14_of at e
    exact ck_v e fun x e => ck_if e w fun e => ck_i e fun x e => ck_if e w fun e => by
      split at e
      · exact ck_gR e
      · split at e
        · exact ck_ck e
        · split at e
          · exact ck_ck e
          · exact ck_gR e
theorem st_shown {h : hp} {own : Nat → Nat} (H : LI h own) (v n : Int32) : STp (fX13_shown 64 v n) (fX14_shown 165 v n) h own :=
  bt_vz H (call_shown H.1.1 H.2.2.1 v n) fun h1 h2 a e w => by
    unfold fX14_shown at e
    exact ck_v e fun x e => ck_if e w fun e => ck_ck e
theorem st_feed {h : hp} {own : Nat → Nat} (H : LI h own) (c : Int32) : STp (fX13_feed 64 c) (fX14_feed 165 c) h own :=
  bt_t H (call_feed H.1.1 H.2.2.2.1 c) fun h1 h2 a e w => by
    unfold fX14_feed at e
    exact ck_i e fun x e => ck_if e w fun e => ck_gI e
theorem st_clear {h : hp} {own : Nat → Nat} (H : LI h own) : STp (fX13_clear 64) (fX14_clear 165) h own :=
  bt_t H (call_clear H.1.1 H.2.2.2.1) fun h1 h2 a e w => by
    unfold fX14_clear at e
    exact ck_gI e
theorem st_page {h : hp} {own : Nat → Nat} (H : LI h own) (i : Int32) : STp (fX13_page 64 i) (fX14_page 165 i) h own :=
  bt_s H (call_page H.1.1 H.2.2.2.2.1 i) fun h1 h2 a e w => by
    unfold fX14_page at e
    exact ck_gI e
theorem st_budget {h : hp} {own : Nat → Nat} (H : LI h own) (n : Int32) : STp (fX13_budget 64 n) (fX14_budget 165 n) h own :=
  bt_b H (call_budget H.1.1 H.2.2.2.2.2.1 n) fun h1 h2 a e w => by
    unfold fX14_budget at e
    exact ck_i e fun x e => ck_if e w fun e => ck_gI e
theorem st_why {h : hp} {own : Nat → Nat} (H : LI h own) (i p : Int32) : STp (fX13_why 64 i p) (fX14_why 165 i p) h own :=
  bt_w H (call_why H.1.1 H.2.2.2.2.2.2.2.1 i p) fun h1 h2 a e w => by
    unfold fX14_why at e
    exact ck_gI e
theorem st_row {h : hp} {own : Nat → Nat} (H : LI h own) (a b c : Int32) : STp (fX13_row 64 a b c) (fX14_row 165 a b c) h own :=
  bt_r H (call_row H.1.1 H.2.2.2.2.2.2.2.2 a b c) fun h1 h2 a e w => by
    unfold fX14_row at e
    exact ck_w e fun x e => ck_if e w fun e => ck_i e fun x e => ck_if e w fun e => ck_fi e w fun e => ck_fi e w fun e => ck_gR e
theorem st_set {h : hp} {own : Nat → Nat} (H : LI h own) (a b : Int32) (v : Int64) : STp (fX13_set 64 a b v) (fX14_set 165 a b v) h own :=
  bt_r H (call_set H.1.1 H.2.2.2.2.2.2.2.2 a b v) fun h1 h2 a e w => by
    unfold fX14_set at e
    exact ck_ck e
theorem st_get {h : hp} {own : Nat → Nat} (H : LI h own) (a b : Int32) : STp (fX13_get 64 a b) (fX14_get 165 a b) h own :=
  bt_r H (call_get H.1.1 H.2.2.2.2.2.2.2.2 a b) fun h1 h2 a e w => by
    unfold fX14_get at e
    exact ck_ck e
theorem st_move {h : hp} {own : Nat → Nat} (H : LI h own) (a p b q c : Int32) : STp (fX13_move 64 a p b q c) (fX14_move 165 a p b q c) h own :=
  bt_r H (call_move H.1.1 H.2.2.2.2.2.2.2.2 a p b q c) fun h1 h2 a e w => by
    unfold fX14_move at e
    exact ck_w e fun x e => ck_if e w fun e => ck_w e fun x e => ck_if e w fun e => ck_gR e
theorem st_twin {h : hp} {own : Nat → Nat} (H : LI h own) (a b : Int32) : STp (fX13_twin 64 a b) (fX14_twin 165 a b) h own :=
  bt_r H (call_twin H.1.1 H.2.2.2.2.2.2.2.2 a b) fun h1 h2 a e w => by
    unfold fX14_twin at e
    exact ck_w e fun x e => ck_if e w fun e => ck_w e fun x e => ck_if e w fun e => ck_gR e
theorem st_lay {h : hp} {own : Nat → Nat} (H : LI h own) (a b : Int32) : STp (fX13_lay 64 a b) (fX14_lay 165 a b) h own :=
  bt_r H (call_lay H.1.1 H.2.2.2.2.1 H.2.2.2.2.2.2.2.2 a b) fun h1 h2 a e w => by
    unfold fX14_lay at e
    exact ck_ck e
theorem st_judge {h : hp} {own : Nat → Nat} (H : LI h own) (a b : Int32) : STp (fX13_judge 64 a b) (fX14_judge 165 a b) h own :=
  bt_r H (call_judge H.1.1 H.2.2.2.2.1 H.2.2.2.2.2.2.2.2 a b) fun h1 h2 a e w => by
    unfold fX14_judge at e
    exact ck_ck e
theorem st_told {h : hp} {own : Nat → Nat} (H : LI h own) (k : Int32) : STp (fX13_told 64 k) (fX14_told 165 k) h own := by
  have H0 := H
  obtain ⟨⟨w, z⟩, ⟨T, X, K⟩, jv, jt, js, jb, jp, jw, jr⟩ := H
  obtain ⟨a, e1, e2⟩ := call_told w js jw jb jt jp (fun k hk => (T k hk).j0) k
  exact ⟨a, h, h, own, e1, e2, ckM w, H0, by omega, by omega⟩
/-- a step from what a call leaves -/
theorem LI.sp {P : Nat → Nat → Prop} {F13 F14 : hp → Option (Int32 × hp)} {h : hp} {own : Nat → Nat} {a : Int32} {h1 h2 : hp} {own' : Nat → Nat} (L : LI h2 own' ∧ Zf h2 = Zf h) (e1 : F13 h = some (a, h1)) (e2 : F14 h1 = some (a, h2)) (hn : hN h2 ≤ hN h + 1000) (hl : hL h2 ≤ hL h + 9900) (c : ckT h1 165 13 = some ()) : STp F13 F14 h own :=
  ⟨a, h1, h2, own', e1, e2, c, L.1, by rw [L.2]; omega, by rw [L.2]; omega⟩
theorem st_template {h : hp} {own : Nat → Nat} (H : LI h own) (v : Int32) : STp (fX13_template 64 v) (fX14_template 165 v) h own := by
  have H0 := H
  obtain ⟨⟨w, z⟩, ⟨T, X, K⟩, jv, jt, js, jb, jp, jw, jr⟩ := H
  obtain ⟨a, h1, h2, e1, e2, f, z2, n2, l2, w2, jt2, own', o2, T2⟩ := call_template w z jt T v
  refine LI.sp (P := PT) (H0.st f w2 z2 o2 (fun x k q => by unfold PT Pt at q; omega) (.inr T2) (.inl fun x k q z => by unfold PIm at q; unfold PT Pt at z; omega) (.inl fun x k q z => by unfold Pv at q; unfold PT Pt at z; omega) (.inr jt2) (.inl fun x k q z => by unfold Ps at q; unfold PT Pt at z; omega) (.inl fun x k q z => by unfold Pb at q; unfold PT Pt at z; omega) (.inl fun x k q z => by unfold Pp at q; unfold PT Pt at z; omega) (.inl fun x k q z => by unfold Pw at q; unfold PT Pt at z; omega) (.inl fun x k q z => by unfold Pr at q; unfold PT Pt at z; omega)) e1 e2 n2 l2 ?_
  unfold fX14_template at e2
  exact ck_i e2 fun x e => ck_if e w2 fun e => ck_gI e
theorem st_drop {h : hp} {own : Nat → Nat} (H : LI h own) (v : Int32) : STp (fX13_drop 64 v) (fX14_drop 165 v) h own := by
  have H0 := H
  obtain ⟨⟨w, z⟩, ⟨T, X, K⟩, jv, jt, js, jb, jp, jw, jr⟩ := H
  obtain ⟨a, h1, h2, e1, e2, f, z2, n2, l2, w2, T2⟩ := call_drop w z T v
  refine LI.sp (P := PD1) (H0.st f w2 z2 (fun _ _ => rfl) (fun x k q => by unfold PD1 at q; omega) (.inr T2) (.inl fun x k q z => by unfold PIm at q; unfold PD1 at z; omega) (.inl fun x k q z => by unfold Pv at q; unfold PD1 at z; omega) (.inl fun x k q z => by unfold Pt at q; unfold PD1 at z; omega) (.inl fun x k q z => by unfold Ps at q; unfold PD1 at z; omega) (.inl fun x k q z => by unfold Pb at q; unfold PD1 at z; omega) (.inl fun x k q z => by unfold Pp at q; unfold PD1 at z; omega) (.inl fun x k q z => by unfold Pw at q; unfold PD1 at z; omega) (.inl fun x k q z => by unfold Pr at q; unfold PD1 at z; omega)) e1 e2 (by omega) (by omega) ?_
  unfold fX14_drop at e2
  exact ck_i e2 fun x e => ck_if e w2 fun e => ck_gR e
theorem st_has {h : hp} {own : Nat → Nat} (H : LI h own) (v q : Int32) : STp (fX13_has 64 v q) (fX14_has 165 v q) h own := by
  have H0 := H
  obtain ⟨⟨w, z⟩, ⟨T, X, K⟩, jv, jt, js, jb, jp, jw, jr⟩ := H
  obtain ⟨a, h1, h2, e1, e2, f, z2, n2, l2, w2⟩ := call_has w z T v q
  refine LI.sp (P := fun x j => x = 165 ∧ 11 ≤ j ∧ j ≤ 16) (H0.st f w2 z2 (fun _ _ => rfl) (fun x k q => by omega) (.inl fun x k q => by omega) (.inl fun x k q z => by unfold PIm at q; omega) (.inl fun x k q z => by unfold Pv at q; omega) (.inl fun x k q z => by unfold Pt at q; omega) (.inl fun x k q z => by unfold Ps at q; omega) (.inl fun x k q z => by unfold Pb at q; omega) (.inl fun x k q z => by unfold Pp at q; omega) (.inl fun x k q z => by unfold Pw at q; omega) (.inl fun x k q z => by unfold Pr at q; omega)) e1 e2 (by omega) (by omega) ?_
  unfold fX14_has at e2
  exact ck_i e2 fun x e => ck_if e w2 fun e => ck_i e fun x e => ck_if e w2 fun e => ck_gR e
theorem st_filter {h : hp} {own : Nat → Nat} (H : LI h own) (v : Int32) : STp (fX13_filter 64 v) (fX14_filter 165 v) h own := by
  have H0 := H
  obtain ⟨⟨w, z⟩, ⟨T, X, K⟩, jv, jt, js, jb, jp, jw, jr⟩ := H
  obtain ⟨a, h1, h2, e1, e2, f, z2, w2, n2, l2, jv2, jt2, jw2⟩ := call_filter w z jv jt jw v
  refine LI.sp (P := PF) (H0.st f w2 z2 (fun _ _ => rfl) (fun x k q => by unfold PF Pv Pt Pz Pw at q; omega) (.inl fun x k q => by unfold PF Pv Pt Pz Pw at q; omega) (.inl fun x k q z => by unfold PIm at q; unfold PF Pv Pt Pz Pw at z; omega) (.inr jv2) (.inr jt2) (.inl fun x k q z => by unfold Ps at q; unfold PF Pv Pt Pz Pw at z; omega) (.inl fun x k q z => by unfold Pb at q; unfold PF Pv Pt Pz Pw at z; omega) (.inl fun x k q z => by unfold Pp at q; unfold PF Pv Pt Pz Pw at z; omega) (.inr jw2) (.inl fun x k q z => by unfold Pr at q; unfold PF Pv Pt Pz Pw at z; omega)) e1 e2 n2 l2 ?_
  unfold fX14_filter at e2
  exact ck_v e2 fun x e => ck_if e w2 fun e => ck_gR e
theorem st_image {h : hp} {own : Nat → Nat} (H : LI h own) : STp (fX13_image 64) (fX14_image 165) h own := by
  have H0 := H
  obtain ⟨⟨w, z⟩, ⟨T, X, K⟩, jv, jt, js, jb, jp, jw, jr⟩ := H
  obtain ⟨a, h1, h2, e1, e2, f, z2, w2, n2, l2, K2⟩ := call_image w z jv js jb T
  refine LI.sp (P := PIm) (H0.st f w2 z2 (fun _ _ => rfl) (fun x k q => by unfold PIm at q; omega) (.inl fun x k q => by unfold PIm at q; omega) (.inr K2) (.inl fun x k q z => by unfold Pv at q; unfold PIm at z; omega) (.inl fun x k q z => by unfold Pt at q; unfold PIm at z; omega) (.inl fun x k q z => by unfold Ps at q; unfold PIm at z; omega) (.inl fun x k q z => by unfold Pb at q; unfold PIm at z; omega) (.inl fun x k q z => by unfold Pp at q; unfold PIm at z; omega) (.inl fun x k q z => by unfold Pw at q; unfold PIm at z; omega) (.inl fun x k q z => by unfold Pr at q; unfold PIm at z; omega)) e1 e2 (by omega) (by omega) ?_
  unfold fX14_image at e2
  exact ck_gR e2
theorem st_undo {h : hp} {own : Nat → Nat} (H : LI h own) : STp (fX13_undo 64) (fX14_undo 165) h own := by
  have H0 := H
  obtain ⟨⟨w, z⟩, ⟨T, X, K⟩, jv, jt, js, jb, jp, jw, jr⟩ := H
  obtain ⟨a, h1, h2, e1, e2, f, z2, w2, n2, l2, jv2, js2, jb2, T2⟩ := call_undo w z jv js jb T K
  refine LI.sp (P := PUn) (H0.st f w2 z2 (fun _ _ => rfl) (fun x k q => by unfold PUn at q; omega) (.inr T2) (.inl fun x k q z => by unfold PIm at q; unfold PUn at z; omega) (.inr jv2) (.inl fun x k q z => by unfold Pt at q; unfold PUn at z; omega) (.inr js2) (.inr jb2) (.inl fun x k q z => by unfold Pp at q; unfold PUn at z; omega) (.inl fun x k q z => by unfold Pw at q; unfold PUn at z; omega) (.inl fun x k q z => by unfold Pr at q; unfold PUn at z; omega)) e1 e2 (by omega) (by omega) ?_
  unfold fX14_undo at e2
  exact ck_gI e2
theorem st_kq {F13 F14 : hp → Option (Int32 × hp)} {h : hp} {own : Nat → Nat} (H : LI h own) (K : KQo F13 F14 h own) (ck : ∀ (h1 h2 : hp) (a : Int32), F14 h1 = some (a, h2) → WF h2 → ckT h1 165 13 = some ()) : STp F13 F14 h own := by
  obtain ⟨⟨w, z⟩, ⟨_, _, J⟩, _, jt, _, _, _, _, jr⟩ := H
  obtain ⟨a, h1, h2, own', e1, e2, ⟨f, ho, n, l⟩, ⟨w2, z2⟩, T2, S2, jv2, jb2, jw2, js2, jp2⟩ := K
  refine ⟨a, h1, h2, own', e1, e2, ck h1 h2 a e2 w2, ⟨⟨w2, z2⟩, ⟨T2, S2, ?_⟩, jv2, ?_, js2, jb2, jp2, jw2, ?_⟩, by omega, by omega⟩
  · exact J.fg w f (fun x k q => pl_no (by unfold PIm at q; omega)) (fun x k x1 _ o => pl_own x1 o) ho
  · exact jt.fg w f fun x k q => pl_no (by unfold Pt at q; omega)
  · exact jr.fg w f fun x k q => pl_no (by unfold Pr at q; omega)
theorem LI.iw {h : hp} {own : Nat → Nat} (H : LI h own) : IW h own := by
  obtain ⟨wz, ⟨T, X, _⟩, jv, _, js, jb, jp, jw, _⟩ := H
  exact ⟨wz, T, X, jv, jb, jw, js, jp⟩
theorem st_look {h : hp} {own : Nat → Nat} (H : LI h own) (v c : Int32) : STp (fX13_look 64 v c) (fX14_look 165 v c) h own :=
  st_kq H (call_look H.iw v c) fun h1 h2 a e w => by
    unfold fX14_look at e
    exact ck_t e fun x e => ck_if e w fun e => ck_i e fun x e => ck_if e w fun e => ck_ck e
theorem st_press {h : hp} {own : Nat → Nat} (H : LI h own) (v : Int32) : STp (fX13_press 64 v) (fX14_press 165 v) h own :=
  st_kq H (call_press H.iw v) fun h1 h2 a e w => by
    unfold fX14_press at e
    exact ck_t e fun x e => ck_if e w fun e => ck_ck e

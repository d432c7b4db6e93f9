def fX14_turnsAbout_l2 : Nat → Nat → Int32 → Int32 → hp → Option hp
  | 0, _, _, _, _ => none
  | n + 1, x0, x1, x2, h =>
    (gfR h x0 13 2).bind fun v1 =>
    (alI h v1 x1).bind fun v3 =>
    (dvI v3 2).bind fun v5 =>
    if v5 ≤ x2 then (
      some (h)
    ) else (
      (gfR h x0 13 3).bind fun v7 =>
      (alI h v7 ((16 * x1) + x2)).bind fun v9 =>
      (gfR h x0 13 3).bind fun v11 =>
      (gfR h x0 13 3).bind fun v13 =>
      (gfR h x0 13 2).bind fun v15 =>
      (alI h v15 x1).bind fun v17 =>
      (alI h v13 ((((16 * x1) + v17) - 1) - x2)).bind fun v19 =>
      (asI h v11 ((16 * x1) + x2) v19).bind fun h21 =>
      (gfR h21 x0 13 3).bind fun v23 =>
      (gfR h21 x0 13 2).bind fun v25 =>
      (alI h21 v25 x1).bind fun v27 =>
      (asI h21 v23 ((((16 * x1) + v27) - 1) - x2) v9).bind fun h29 =>
      fX14_turnsAbout_l2 n x0 x1 (x2 + 1) h29
    )
def fX14_turnsAbout (a0 : Nat) (a1 : Int32) (h : hp) : Option hp :=
  (fX14_turnsAbout_l2 FU a0 a1 0 h).bind fun h2 =>
  some h2
set_option maxHeartbeats 4000000 in
set_option maxRecDepth 100000 in
theorem sX14_turnsAbout_l2 (E : gE) (D : Nat) (hD : 0 ≤ D) {rz : Option Value} {h0 hz : hp} : ∀ (n : Nat) (x0 : Nat) (x1 : Int32) (x2 : Int32) (h : hp) (hq : hp), fX14_turnsAbout_l2 n x0 x1 x2 h = some hq → (AW E yX14_turnsAbout cX14_turnsAbout (Option.none : Option Jvm.ClassFile.FieldType) 4 D rz h0 hz 84 [] [] hq) → AW E yX14_turnsAbout cX14_turnsAbout (Option.none : Option Jvm.ClassFile.FieldType) 4 D rz h0 hz 2 [(0, .ref x0), (1, .int x1), (2, .int x2)] [] h := by
  intro n
  induction n with
  | zero =>
    intro x0 x1 x2 h hq hf _
    rw [fX14_turnsAbout_l2] at hf
    cases hf
  | succ n ih =>
    intro x0 x1 x2 h hq hf hk0
    rw [fX14_turnsAbout_l2] at hf
    refine a_iload_n (q := 2) dX14_turnsAbout_2 rfl rfl ?_
    refine a_aload_n (q := 0) dX14_turnsAbout_3 rfl rfl ?_
    obtain ⟨v1, e2, hf⟩ := obd hf
    refine o_gfR dX14_turnsAbout_4 lk_X14_18 rfl e2 ?_
    refine a_iload_n (q := 1) dX14_turnsAbout_7 rfl rfl ?_
    obtain ⟨v3, e4, hf⟩ := obd hf
    refine o_alI dX14_turnsAbout_8 e4 ?_
    refine a_iconst (v := 2) dX14_turnsAbout_9 (by decide) ?_
    obtain ⟨v5, e6, hf⟩ := obd hf
    refine o_dvI dX14_turnsAbout_10 e6 ?_
    refine a_icmp_ge (tgt := 84) dX14_turnsAbout_11 (by decide) (fun c => ?_) (fun c => ?_)
    · have hf := ifp c hf
      obtain rfl := Option.some.inj hf
      exact AW.sub [] rfl (hk0)
    · have hf := ifn c hf
      refine a_aload_n (q := 0) dX14_turnsAbout_14 rfl rfl ?_
      obtain ⟨v7, e8, hf⟩ := obd hf
      refine o_gfR dX14_turnsAbout_15 lk_X14_21 rfl e8 ?_
      refine a_bipush (v := 16) dX14_turnsAbout_18 (by decide) ?_
      refine a_iload_n (q := 1) dX14_turnsAbout_20 rfl rfl ?_
      refine a_imul dX14_turnsAbout_21 ?_
      refine a_iload_n (q := 2) dX14_turnsAbout_22 rfl rfl ?_
      refine a_iadd dX14_turnsAbout_23 ?_
      obtain ⟨v9, e10, hf⟩ := obd hf
      refine o_alI dX14_turnsAbout_24 e10 ?_
      refine a_istore_n (lv1 := [(3, .int v9), (0, .ref x0), (1, .int x1), (2, .int x2)]) dX14_turnsAbout_25 rfl (by decide) rfl ?_
      refine a_aload_n (q := 1) dX14_turnsAbout_26 rfl rfl ?_
      obtain ⟨v11, e12, hf⟩ := obd hf
      refine o_gfR dX14_turnsAbout_27 lk_X14_21 rfl e12 ?_
      refine a_bipush (v := 16) dX14_turnsAbout_30 (by decide) ?_
      refine a_iload_n (q := 2) dX14_turnsAbout_32 rfl rfl ?_
      refine a_imul dX14_turnsAbout_33 ?_
      refine a_iload_n (q := 3) dX14_turnsAbout_34 rfl rfl ?_
      refine a_iadd dX14_turnsAbout_35 ?_
      refine a_aload_n (q := 1) dX14_turnsAbout_36 rfl rfl ?_
      obtain ⟨v13, e14, hf⟩ := obd hf
      refine o_gfR dX14_turnsAbout_37 lk_X14_21 rfl e14 ?_
      refine a_bipush (v := 16) dX14_turnsAbout_40 (by decide) ?_
      refine a_iload_n (q := 2) dX14_turnsAbout_42 rfl rfl ?_
      refine a_imul dX14_turnsAbout_43 ?_
      refine a_aload_n (q := 1) dX14_turnsAbout_44 rfl rfl ?_
      obtain ⟨v15, e16, hf⟩ := obd hf
      refine o_gfR dX14_turnsAbout_45 lk_X14_18 rfl e16 ?_
      refine a_iload_n (q := 2) dX14_turnsAbout_48 rfl rfl ?_
      obtain ⟨v17, e18, hf⟩ := obd hf
      refine o_alI dX14_turnsAbout_49 e18 ?_
      refine a_iadd dX14_turnsAbout_50 ?_
      refine a_iconst (v := 1) dX14_turnsAbout_51 (by decide) ?_
      refine a_isub dX14_turnsAbout_52 ?_
      refine a_iload_n (q := 3) dX14_turnsAbout_53 rfl rfl ?_
      refine a_isub dX14_turnsAbout_54 ?_
      obtain ⟨v19, e20, hf⟩ := obd hf
      refine o_alI dX14_turnsAbout_55 e20 ?_
      obtain ⟨h21, e22, hf⟩ := obd hf
      refine o_asI dX14_turnsAbout_56 e22 ?_
      refine a_aload_n (q := 1) dX14_turnsAbout_57 rfl rfl ?_
      obtain ⟨v23, e24, hf⟩ := obd hf
      refine o_gfR dX14_turnsAbout_58 lk_X14_21 rfl e24 ?_
      refine a_bipush (v := 16) dX14_turnsAbout_61 (by decide) ?_
      refine a_iload_n (q := 2) dX14_turnsAbout_63 rfl rfl ?_
      refine a_imul dX14_turnsAbout_64 ?_
      refine a_aload_n (q := 1) dX14_turnsAbout_65 rfl rfl ?_
      obtain ⟨v25, e26, hf⟩ := obd hf
      refine o_gfR dX14_turnsAbout_66 lk_X14_18 rfl e26 ?_
      refine a_iload_n (q := 2) dX14_turnsAbout_69 rfl rfl ?_
      obtain ⟨v27, e28, hf⟩ := obd hf
      refine o_alI dX14_turnsAbout_70 e28 ?_
      refine a_iadd dX14_turnsAbout_71 ?_
      refine a_iconst (v := 1) dX14_turnsAbout_72 (by decide) ?_
      refine a_isub dX14_turnsAbout_73 ?_
      refine a_iload_n (q := 3) dX14_turnsAbout_74 rfl rfl ?_
      refine a_isub dX14_turnsAbout_75 ?_
      refine a_iload_n (q := 0) dX14_turnsAbout_76 rfl rfl ?_
      obtain ⟨h29, e30, hf⟩ := obd hf
      refine o_asI dX14_turnsAbout_77 e30 ?_
      refine a_iinc (q := 3) (v := (x2 + 1)) (lv1 := [(2, .int (x2 + 1)), (3, .int v9), (0, .ref x0), (1, .int x1)]) dX14_turnsAbout_78 rfl (by rfl) (by decide) rfl ?_
      refine a_goto (tgt := 2) dX14_turnsAbout_81 (by decide) ?_
      exact AW.sub [2, 3, 0] rfl (ih _ _ _ _ _ hf hk0)
set_option maxHeartbeats 4000000 in
set_option maxRecDepth 100000 in
theorem sX14_turnsAbout (E : gE) (D : Nat) (hD : 0 ≤ D) {a0 : Nat} {a1 : Int32} {h hz : hp} (hf : fX14_turnsAbout a0 a1 h = some hz) : MC E yX14_turnsAbout cX14_turnsAbout (Option.none : Option Jvm.ClassFile.FieldType) 4 D [.ref a0, .int a1] h none hz := by
  refine MC.of (by decide +kernel) (Nat.le_of_ble_eq_true rfl) rfl ?_
  unfold fX14_turnsAbout at hf
  show AW E yX14_turnsAbout cX14_turnsAbout (Option.none : Option Jvm.ClassFile.FieldType) 4 D none h hz 0 [(0, .ref a0), (1, .int a1)] [] h
  refine a_iconst (v := 0) dX14_turnsAbout_0 (by decide) ?_
  refine a_istore_n (lv1 := [(2, .int 0), (0, .ref a0), (1, .int a1)]) dX14_turnsAbout_1 rfl (by decide) rfl ?_
  obtain ⟨h2, e1, hf⟩ := obd hf
  refine AW.sub [1, 2, 0] rfl (sX14_turnsAbout_l2 E D hD _ _ _ _ _ _ e1 ?_)
  obtain rfl := Option.some.inj hf
  exact a_return dX14_turnsAbout_84 rfl
def fX14_sorts_l27 : Nat → Nat → Int32 → Int32 → Int32 → Int32 → hp → Option (Int32 × hp)
  | 0, _, _, _, _, _, _ => none
  | n + 1, x0, x1, x2, x3, x4, h =>
    if x4 ≤ 0 then (
      some (x4, h)
    ) else (
      (gfR h x0 13 3).bind fun v1 =>
      (alI h v1 (((16 * x1) + x4) - 1)).bind fun v3 =>
      if v3 ≤ x3 then (
        some (x4, h)
      ) else (
        (gfR h x0 13 3).bind fun v5 =>
        (gfR h x0 13 3).bind fun v7 =>
        (alI h v7 (((16 * x1) + x4) - 1)).bind fun v9 =>
        (asI h v5 ((16 * x1) + x4) v9).bind fun h11 =>
        fX14_sorts_l27 n x0 x1 x2 x3 (x4 + (-1)) h11
      )
    )
def fX14_sorts_l2 : Nat → Nat → Int32 → Int32 → hp → Option hp
  | 0, _, _, _, _ => none
  | n + 1, x0, x1, x2, h =>
    (gfR h x0 13 2).bind fun v1 =>
    (alI h v1 x1).bind fun v3 =>
    if v3 ≤ x2 then (
      some (h)
    ) else (
      (gfR h x0 13 3).bind fun v5 =>
      (alI h v5 ((16 * x1) + x2)).bind fun v7 =>
      bd2 (fX14_sorts_l27 FU x0 x1 x2 v7 x2 h) fun v11 h10 =>
      (gfR h10 x0 13 3).bind fun v12 =>
      (asI h10 v12 ((16 * x1) + v11) v7).bind fun h14 =>
      fX14_sorts_l2 n x0 x1 (x2 + 1) h14
    )
def fX14_sorts (a0 : Nat) (a1 : Int32) (h : hp) : Option hp :=
  (fX14_sorts_l2 FU a0 a1 1 h).bind fun h2 =>
  some h2
set_option maxHeartbeats 4000000 in
set_option maxRecDepth 100000 in
theorem sX14_sorts_l27 (E : gE) (D : Nat) (hD : 0 ≤ D) {rz : Option Value} {h0 hz : hp} : ∀ (n : Nat) (x0 : Nat) (x1 : Int32) (x2 : Int32) (x3 : Int32) (x4 : Int32) (h : hp) (m4 : Int32) (hq : hp), fX14_sorts_l27 n x0 x1 x2 x3 x4 h = some (m4, hq) → (AW E yX14_sorts cX14_sorts (Option.none : Option Jvm.ClassFile.FieldType) 5 D rz h0 hz 82 [(0, .ref x0), (1, .int x1), (2, .int x2), (3, .int x3), (4, .int m4)] [] hq) → AW E yX14_sorts cX14_sorts (Option.none : Option Jvm.ClassFile.FieldType) 5 D rz h0 hz 27 [(0, .ref x0), (1, .int x1), (2, .int x2), (3, .int x3), (4, .int x4)] [] h := by
  intro n
  induction n with
  | zero =>
    intro x0 x1 x2 x3 x4 h m4 hq hf _
    rw [fX14_sorts_l27] at hf
    cases hf
  | succ n ih =>
    intro x0 x1 x2 x3 x4 h m4 hq hf hk0
    rw [fX14_sorts_l27] at hf
    refine a_iload (q := 4) dX14_sorts_27 rfl ?_
    refine a_if_le (tgt := 82) dX14_sorts_29 (by decide) (fun c => ?_) (fun c => ?_)
    · have hf := ifp c hf
      obtain ⟨rfl, rfl⟩ := oc2 hf
      exact hk0
    · have hf := ifn c hf
      refine a_aload_n (q := 0) dX14_sorts_32 rfl rfl ?_
      obtain ⟨v1, e2, hf⟩ := obd hf
      refine o_gfR dX14_sorts_33 lk_X14_21 rfl e2 ?_
      refine a_bipush (v := 16) dX14_sorts_36 (by decide) ?_
      refine a_iload_n (q := 1) dX14_sorts_38 rfl rfl ?_
      refine a_imul dX14_sorts_39 ?_
      refine a_iload (q := 4) dX14_sorts_40 rfl ?_
      refine a_iadd dX14_sorts_42 ?_
      refine a_iconst (v := 1) dX14_sorts_43 (by decide) ?_
      refine a_isub dX14_sorts_44 ?_
      obtain ⟨v3, e4, hf⟩ := obd hf
      refine o_alI dX14_sorts_45 e4 ?_
      refine a_iload_n (q := 3) dX14_sorts_46 rfl rfl ?_
      refine a_icmp_le (tgt := 82) dX14_sorts_47 (by decide) (fun c => ?_) (fun c => ?_)
      · have hf := ifp c hf
        obtain ⟨rfl, rfl⟩ := oc2 hf
        exact hk0
      · have hf := ifn c hf
        refine a_aload_n (q := 0) dX14_sorts_50 rfl rfl ?_
        obtain ⟨v5, e6, hf⟩ := obd hf
        refine o_gfR dX14_sorts_51 lk_X14_21 rfl e6 ?_
        refine a_bipush (v := 16) dX14_sorts_54 (by decide) ?_
        refine a_iload_n (q := 1) dX14_sorts_56 rfl rfl ?_
        refine a_imul dX14_sorts_57 ?_
        refine a_iload (q := 4) dX14_sorts_58 rfl ?_
        refine a_iadd dX14_sorts_60 ?_
        refine a_aload_n (q := 0) dX14_sorts_61 rfl rfl ?_
        obtain ⟨v7, e8, hf⟩ := obd hf
        refine o_gfR dX14_sorts_62 lk_X14_21 rfl e8 ?_
        refine a_bipush (v := 16) dX14_sorts_65 (by decide) ?_
        refine a_iload_n (q := 1) dX14_sorts_67 rfl rfl ?_
        refine a_imul dX14_sorts_68 ?_
        refine a_iload (q := 4) dX14_sorts_69 rfl ?_
        refine a_iadd dX14_sorts_71 ?_
        refine a_iconst (v := 1) dX14_sorts_72 (by decide) ?_
        refine a_isub dX14_sorts_73 ?_
        obtain ⟨v9, e10, hf⟩ := obd hf
        refine o_alI dX14_sorts_74 e10 ?_
        obtain ⟨h11, e12, hf⟩ := obd hf
        refine o_asI dX14_sorts_75 e12 ?_
        refine a_iinc (q := 4) (v := (x4 + (-1))) (lv1 := [(4, .int (x4 + (-1))), (0, .ref x0), (1, .int x1), (2, .int x2), (3, .int x3)]) dX14_sorts_76 rfl (by rfl) (by decide) rfl ?_
        refine a_goto (tgt := 27) dX14_sorts_79 (by decide) ?_
        exact AW.sub [1, 2, 3, 4, 0] rfl (ih _ _ _ _ _ _ _ _ hf hk0)
set_option maxHeartbeats 4000000 in
set_option maxRecDepth 100000 in
theorem sX14_sorts_l2 (E : gE) (D : Nat) (hD : 0 ≤ D) {rz : Option Value} {h0 hz : hp} : ∀ (n : Nat) (x0 : Nat) (x1 : Int32) (x2 : Int32) (h : hp) (hq : hp), fX14_sorts_l2 n x0 x1 x2 h = some hq → (AW E yX14_sorts cX14_sorts (Option.none : Option Jvm.ClassFile.FieldType) 5 D rz h0 hz 101 [] [] hq) → AW E yX14_sorts cX14_sorts (Option.none : Option Jvm.ClassFile.FieldType) 5 D rz h0 hz 2 [(0, .ref x0), (1, .int x1), (2, .int x2)] [] h := by
  intro n
  induction n with
  | zero =>
    intro x0 x1 x2 h hq hf _
    rw [fX14_sorts_l2] at hf
    cases hf
  | succ n ih =>
    intro x0 x1 x2 h hq hf hk0
    rw [fX14_sorts_l2] at hf
    refine a_iload_n (q := 2) dX14_sorts_2 rfl rfl ?_
    refine a_aload_n (q := 0) dX14_sorts_3 rfl rfl ?_
    obtain ⟨v1, e2, hf⟩ := obd hf
    refine o_gfR dX14_sorts_4 lk_X14_18 rfl e2 ?_
    refine a_iload_n (q := 1) dX14_sorts_7 rfl rfl ?_
    obtain ⟨v3, e4, hf⟩ := obd hf
    refine o_alI dX14_sorts_8 e4 ?_
    refine a_icmp_ge (tgt := 101) dX14_sorts_9 (by decide) (fun c => ?_) (fun c => ?_)
    · have hf := ifp c hf
      obtain rfl := Option.some.inj hf
      exact AW.sub [] rfl (hk0)
    · have hf := ifn c hf
      refine a_aload_n (q := 0) dX14_sorts_12 rfl rfl ?_
      obtain ⟨v5, e6, hf⟩ := obd hf
      refine o_gfR dX14_sorts_13 lk_X14_21 rfl e6 ?_
      refine a_bipush (v := 16) dX14_sorts_16 (by decide) ?_
      refine a_iload_n (q := 1) dX14_sorts_18 rfl rfl ?_
      refine a_imul dX14_sorts_19 ?_
      refine a_iload_n (q := 2) dX14_sorts_20 rfl rfl ?_
      refine a_iadd dX14_sorts_21 ?_
      obtain ⟨v7, e8, hf⟩ := obd hf
      refine o_alI dX14_sorts_22 e8 ?_
      refine a_istore_n (lv1 := [(3, .int v7), (0, .ref x0), (1, .int x1), (2, .int x2)]) dX14_sorts_23 rfl (by decide) rfl ?_
      refine a_iload_n (q := 3) dX14_sorts_24 rfl rfl ?_
      refine a_istore (lv1 := [(4, .int x2), (3, .int v7), (0, .ref x0), (1, .int x1), (2, .int x2)]) dX14_sorts_25 (by decide) rfl ?_
      obtain ⟨v11, h10, e9, hf⟩ := ob2 hf
      refine AW.sub [2, 3, 4, 1, 0] rfl (sX14_sorts_l27 E D hD _ _ _ _ _ _ _ _ _ e9 ?_)
      refine a_aload_n (q := 0) dX14_sorts_82 rfl rfl ?_
      obtain ⟨v12, e13, hf⟩ := obd hf
      refine o_gfR dX14_sorts_83 lk_X14_21 rfl e13 ?_
      refine a_bipush (v := 16) dX14_sorts_86 (by decide) ?_
      refine a_iload_n (q := 1) dX14_sorts_88 rfl rfl ?_
      refine a_imul dX14_sorts_89 ?_
      refine a_iload (q := 4) dX14_sorts_90 rfl ?_
      refine a_iadd dX14_sorts_92 ?_
      refine a_iload_n (q := 3) dX14_sorts_93 rfl rfl ?_
      obtain ⟨h14, e15, hf⟩ := obd hf
      refine o_asI dX14_sorts_94 e15 ?_
      refine a_iinc (q := 2) (v := (x2 + 1)) (lv1 := [(2, .int (x2 + 1)), (0, .ref x0), (1, .int x1), (3, .int v7), (4, .int v11)]) dX14_sorts_95 rfl (by rfl) (by decide) rfl ?_
      refine a_goto (tgt := 2) dX14_sorts_98 (by decide) ?_
      exact AW.sub [1, 2, 0] rfl (ih _ _ _ _ _ hf hk0)
set_option maxHeartbeats 4000000 in
set_option maxRecDepth 100000 in
theorem sX14_sorts (E : gE) (D : Nat) (hD : 0 ≤ D) {a0 : Nat} {a1 : Int32} {h hz : hp} (hf : fX14_sorts a0 a1 h = some hz) : MC E yX14_sorts cX14_sorts (Option.none : Option Jvm.ClassFile.FieldType) 5 D [.ref a0, .int a1] h none hz := by
  refine MC.of (by decide +kernel) (Nat.le_of_ble_eq_true rfl) rfl ?_
  unfold fX14_sorts at hf
  show AW E yX14_sorts cX14_sorts (Option.none : Option Jvm.ClassFile.FieldType) 5 D none h hz 0 [(0, .ref a0), (1, .int a1)] [] h
  refine a_iconst (v := 1) dX14_sorts_0 (by decide) ?_
  refine a_istore_n (lv1 := [(2, .int 1), (0, .ref a0), (1, .int a1)]) dX14_sorts_1 rfl (by decide) rfl ?_
  obtain ⟨h2, e1, hf⟩ := obd hf
  refine AW.sub [1, 2, 0] rfl (sX14_sorts_l2 E D hD _ _ _ _ _ _ e1 ?_)
  obtain rfl := Option.some.inj hf
  exact a_return dX14_sorts_101 rfl
def fX14_becomes (a0 : Nat) (a1 : Int32) (a2 : Int64) (h : hp) : Option (Int32 × hp) :=
  bd2 (fX14_isIn a2 (-1000000) 1000000 h) fun v2 h3 =>
  if v2 = 0 then (
    some (4, h3)
  ) else (
    (ckT h3 a0 13).bind fun _ =>
    (fX14_isInt a0 a1 (a2.toInt32) h3).bind fun h5 =>
    some (0, h5)
  )
set_option maxHeartbeats 4000000 in
set_option maxRecDepth 100000 in
theorem sX14_becomes (E : gE) (D : Nat) (hD : 1 ≤ D) {a0 : Nat} {a1 : Int32} {a2 : Int64} {h hz : hp} {v0 : Int32} (hf : fX14_becomes a0 a1 a2 h = some (v0, hz)) : MC E yX14_becomes cX14_becomes (Option.some Jvm.ClassFile.FieldType.int) 4 D [.ref a0, .int a1, .long a2] h (some (.int v0)) hz := by
  refine MC.of (by decide +kernel) (Nat.le_of_ble_eq_true rfl) rfl ?_
  unfold fX14_becomes at hf
  show AW E yX14_becomes cX14_becomes (Option.some Jvm.ClassFile.FieldType.int) 4 D (some (.int v0)) h hz 0 [(0, .ref a0), (1, .int a1), (2, .long a2)] [] h
  refine a_lload_n (q := 2) dX14_becomes_0 rfl rfl ?_
  refine a_ldc2 (v := (-1000000)) dX14_becomes_1 wd_1590 ?_
  refine a_ldc2 (v := 1000000) dX14_becomes_4 wd_1591 ?_
  obtain ⟨v2, h3, e1, hf⟩ := ob2 hf
  refine a_callS (as := [.long a2, .long (-1000000), .long 1000000]) (np := 3) (st := []) (sX14_isIn E (D - 1) (by omega) e1) dX14_becomes_7 rfl (by omega) (by decide) cw_X14_155 wd_1324 rfl (Nat.le_of_ble_eq_true rfl) ?_
  refine a_if_ne (tgt := 15) dX14_becomes_10 (by decide) (fun c => ?_) (fun c => ?_)
  · have hf := ifn c hf
    refine a_aload_n (q := 0) dX14_becomes_15 rfl rfl ?_
    refine a_iload_n (q := 1) dX14_becomes_16 rfl rfl ?_
    refine a_lload_n (q := 2) dX14_becomes_17 rfl rfl ?_
    refine a_l2i dX14_becomes_18 rfl ?_
    obtain ⟨_, e6, hf⟩ := obd hf
    obtain ⟨h5, e4, hf⟩ := obd hf
    refine a_callV (as := [.int a1, .int (a2.toInt32)]) (np := 2) (ci := 13) (st := []) (sX14_isInt E (D - 1) (by omega) e4) dX14_becomes_19 rfl (by omega) (by decide) cw_X14_171 ⟨wd_1515, ws_100⟩ rfl (ckT_s e6) rfl (Nat.le_of_ble_eq_true rfl) ?_
    refine a_iconst (v := 0) dX14_becomes_22 (by decide) ?_
    obtain ⟨rfl, rfl⟩ := oc2 hf
    exact a_ireturn dX14_becomes_23 rfl
  · have hf := ifp c hf
    refine a_iconst (v := 4) dX14_becomes_13 (by decide) ?_
    obtain ⟨rfl, rfl⟩ := oc2 hf
    exact a_ireturn dX14_becomes_14 rfl
def fX14_sums_l5 : Nat → Nat → Int32 → Int64 → Int32 → hp → Option (Int64 × hp)
  | 0, _, _, _, _, _ => none
  | n + 1, x0, x1, x2, x4, h =>
    (gfR h x0 13 2).bind fun v1 =>
    (alI h v1 x1).bind fun v3 =>
    if v3 ≤ x4 then (
      some (x2, h)
    ) else (
      (gfR h x0 13 3).bind fun v5 =>
      (alI h v5 ((16 * x1) + x4)).bind fun v7 =>
      fX14_sums_l5 n x0 x1 (x2 + (v7.toInt64)) (x4 + 1) h
    )
def fX14_sums (a0 : Nat) (a1 : Int32) (h : hp) : Option (Int32 × hp) :=
  bd2 (fX14_sums_l5 FU a0 a1 0 0 h) fun v3 h2 =>
  (ckT h2 a0 13).bind fun _ =>
  bd2 (fX14_becomes a0 a1 v3 h2) fun v5 h6 =>
  some (v5, h6)
set_option maxHeartbeats 4000000 in
set_option maxRecDepth 100000 in
theorem sX14_sums_l5 (E : gE) (D : Nat) (hD : 2 ≤ D) {rz : Option Value} {h0 hz : hp} : ∀ (n : Nat) (x0 : Nat) (x1 : Int32) (x2 : Int64) (x4 : Int32) (h : hp) (m2 : Int64) (hq : hp), fX14_sums_l5 n x0 x1 x2 x4 h = some (m2, hq) → (AW E yX14_sums cX14_sums (Option.some Jvm.ClassFile.FieldType.int) 5 D rz h0 hz 38 [(0, .ref x0), (1, .int x1), (2, .long m2)] [] hq) → AW E yX14_sums cX14_sums (Option.some Jvm.ClassFile.FieldType.int) 5 D rz h0 hz 5 [(0, .ref x0), (1, .int x1), (2, .long x2), (4, .int x4)] [] h := by
  intro n
  induction n with
  | zero =>
    intro x0 x1 x2 x4 h m2 hq hf _
    rw [fX14_sums_l5] at hf
    cases hf
  | succ n ih =>
    intro x0 x1 x2 x4 h m2 hq hf hk0
    rw [fX14_sums_l5] at hf
    refine a_iload (q := 3) dX14_sums_5 rfl ?_
    refine a_aload_n (q := 0) dX14_sums_7 rfl rfl ?_
    obtain ⟨v1, e2, hf⟩ := obd hf
    refine o_gfR dX14_sums_8 lk_X14_18 rfl e2 ?_
    refine a_iload_n (q := 1) dX14_sums_11 rfl rfl ?_
    obtain ⟨v3, e4, hf⟩ := obd hf
    refine o_alI dX14_sums_12 e4 ?_
    refine a_icmp_ge (tgt := 38) dX14_sums_13 (by decide) (fun c => ?_) (fun c => ?_)
    · have hf := ifp c hf
      obtain ⟨rfl, rfl⟩ := oc2 hf
      exact AW.sub [0, 1, 2] rfl (hk0)
    · have hf := ifn c hf
      refine a_lload_n (q := 2) dX14_sums_16 rfl rfl ?_
      refine a_aload_n (q := 0) dX14_sums_17 rfl rfl ?_
      obtain ⟨v5, e6, hf⟩ := obd hf
      refine o_gfR dX14_sums_18 lk_X14_21 rfl e6 ?_
      refine a_bipush (v := 16) dX14_sums_21 (by decide) ?_
      refine a_iload_n (q := 1) dX14_sums_23 rfl rfl ?_
      refine a_imul dX14_sums_24 ?_
      refine a_iload (q := 3) dX14_sums_25 rfl ?_
      refine a_iadd dX14_sums_27 ?_
      obtain ⟨v7, e8, hf⟩ := obd hf
      refine o_alI dX14_sums_28 e8 ?_
      refine a_i2l dX14_sums_29 rfl ?_
      refine a_ladd dX14_sums_30 ?_
      refine a_lstore_n (lv1 := [(2, .long (x2 + (v7.toInt64))), (0, .ref x0), (1, .int x1), (4, .int x4)]) dX14_sums_31 rfl (by decide) rfl ?_
      refine a_iinc (q := 3) (v := (x4 + 1)) (lv1 := [(4, .int (x4 + 1)), (2, .long (x2 + (v7.toInt64))), (0, .ref x0), (1, .int x1)]) dX14_sums_32 rfl (by rfl) (by decide) rfl ?_
      refine a_goto (tgt := 5) dX14_sums_35 (by decide) ?_
      exact AW.sub [2, 3, 1, 0] rfl (ih _ _ _ _ _ _ _ hf hk0)
set_option maxHeartbeats 4000000 in
set_option maxRecDepth 100000 in
theorem sX14_sums (E : gE) (D : Nat) (hD : 2 ≤ D) {a0 : Nat} {a1 : Int32} {h hz : hp} {v0 : Int32} (hf : fX14_sums a0 a1 h = some (v0, hz)) : MC E yX14_sums cX14_sums (Option.some Jvm.ClassFile.FieldType.int) 5 D [.ref a0, .int a1] h (some (.int v0)) hz := by
  refine MC.of (by decide +kernel) (Nat.le_of_ble_eq_true rfl) rfl ?_
  unfold fX14_sums at hf
  show AW E yX14_sums cX14_sums (Option.some Jvm.ClassFile.FieldType.int) 5 D (some (.int v0)) h hz 0 [(0, .ref a0), (1, .int a1)] [] h
  refine a_lconst (v := 0) dX14_sums_0 (by decide) ?_
  refine a_lstore_n (lv1 := [(2, .long 0), (0, .ref a0), (1, .int a1)]) dX14_sums_1 rfl (by decide) rfl ?_
  refine a_iconst (v := 0) dX14_sums_2 (by decide) ?_
  refine a_istore (lv1 := [(4, .int 0), (2, .long 0), (0, .ref a0), (1, .int a1)]) dX14_sums_3 (by decide) rfl ?_
  obtain ⟨v3, h2, e1, hf⟩ := ob2 hf
  refine AW.sub [2, 3, 1, 0] rfl (sX14_sums_l5 E D hD _ _ _ _ _ _ _ _ e1 ?_)
  refine a_aload_n (q := 0) dX14_sums_38 rfl rfl ?_
  refine a_iload_n (q := 1) dX14_sums_39 rfl rfl ?_
  refine a_lload_n (q := 2) dX14_sums_40 rfl rfl ?_
  obtain ⟨_, e7, hf⟩ := obd hf
  obtain ⟨v5, h6, e4, hf⟩ := ob2 hf
  refine a_callV (as := [.int a1, .long v3]) (np := 2) (ci := 13) (st := []) (sX14_becomes E (D - 1) (by omega) e4) dX14_sums_41 rfl (by omega) (by decide) cw_X14_175 ⟨wd_1588, ws_110⟩ rfl (ckT_s e7) rfl (Nat.le_of_ble_eq_true rfl) ?_
  obtain ⟨rfl, rfl⟩ := oc2 hf
  exact a_ireturn dX14_sums_44 rfl
def fX14_ends (a0 : Nat) (a1 : Int32) (a2 : Int32) (h : hp) : Option hp :=
  (gfR h a0 13 2).bind fun v1 =>
  (alI h v1 a1).bind fun v3 =>
  jn (fun (s14_0 : Int32) (h14j : hp) => (
    jn (fun (s34_0 : Int32) (h34j : hp) => (
      (gfR h34j a0 13 0).bind fun v5 =>
      (alI h34j v5 a1).bind fun v7 =>
      if v7 = 3 then (
        (gfR h34j a0 13 3).bind fun v16 =>
        (asI h34j v16 (16 * a1) s34_0).bind fun h18 =>
        (gfR h18 a0 13 2).bind fun v20 =>
        jn (fun (s71_0 : Int32) (h71j : hp) => (
          (asI h71j v20 a1 s71_0).bind fun h22 =>
          some h22
          : Option hp)) fun k71 =>
        if s14_0 = 0 then (
          k71 0 h18
        ) else (
          k71 1 h18
        )
      ) else (
        if s14_0 = 0 then (
          (gfR h34j a0 13 0).bind fun v9 =>
          (asI h34j v9 a1 0).bind fun h11 =>
          some h11
        ) else (
          (ckT h34j a0 13).bind fun _ =>
          (fX14_isInt a0 a1 s34_0 h34j).bind fun h14 =>
          some h14
        )
      )
      : Option hp)) fun k34 =>
    if s14_0 = 0 then (
      k34 0 h14j
    ) else (
      (gfR h14j a0 13 3).bind fun v24 =>
      (alI h14j v24 ((16 * a1) + a2)).bind fun v26 =>
      k34 v26 h14j
    )
    : Option hp)) fun k14 =>
  if v3 ≤ 0 then (
    k14 0 h
  ) else (
    k14 1 h
  )
set_option maxHeartbeats 4000000 in
set_option maxRecDepth 100000 in
theorem sX14_ends (E : gE) (D : Nat) (hD : 1 ≤ D) {a0 : Nat} {a1 : Int32} {a2 : Int32} {h hz : hp} (hf : fX14_ends a0 a1 a2 h = some hz) : MC E yX14_ends cX14_ends (Option.none : Option Jvm.ClassFile.FieldType) 5 D [.ref a0, .int a1, .int a2] h none hz := by
  refine MC.of (by decide +kernel) (Nat.le_of_ble_eq_true rfl) rfl ?_
  unfold fX14_ends at hf
  show AW E yX14_ends cX14_ends (Option.none : Option Jvm.ClassFile.FieldType) 5 D none h hz 0 [(0, .ref a0), (1, .int a1), (2, .int a2)] [] h
  refine a_aload_n (q := 0) dX14_ends_0 rfl rfl ?_
  obtain ⟨v1, e2, hf⟩ := obd hf
  refine o_gfR dX14_ends_1 lk_X14_18 rfl e2 ?_
  refine a_iload_n (q := 1) dX14_ends_4 rfl rfl ?_
  obtain ⟨v3, e4, hf⟩ := obd hf
  refine o_alI dX14_ends_5 e4 ?_
  obtain ⟨k14, ek14, hf⟩ := jn_s hf
  have hj14 : ∀ (s14_0 : Int32) (h14j : hp), k14 s14_0 h14j = some hz → AW E yX14_ends cX14_ends (Option.none : Option Jvm.ClassFile.FieldType) 5 D none h hz 14 [(0, .ref a0), (1, .int a1), (2, .int a2)] [.int s14_0] h14j := by
    intro s14_0 h14j hf
    rw [ek14] at hf
    clear ek14
    refine a_istore_n (lv1 := [(3, .int s14_0), (0, .ref a0), (1, .int a1), (2, .int a2)]) dX14_ends_14 rfl (by decide) rfl ?_
    refine a_iload_n (q := 0) dX14_ends_15 rfl rfl ?_
    obtain ⟨k34, ek34, hf⟩ := jn_s hf
    have hj34 : ∀ (s34_0 : Int32) (h34j : hp), k34 s34_0 h34j = some hz → AW E yX14_ends cX14_ends (Option.none : Option Jvm.ClassFile.FieldType) 5 D none h hz 34 [(0, .ref a0), (1, .int a1), (3, .int s14_0)] [.int s34_0] h34j := by
      intro s34_0 h34j hf
      rw [ek34] at hf
      clear ek34
      refine a_istore (lv1 := [(4, .int s34_0), (0, .ref a0), (1, .int a1), (3, .int s14_0)]) dX14_ends_34 (by decide) rfl ?_
      refine a_aload_n (q := 1) dX14_ends_36 rfl rfl ?_
      obtain ⟨v5, e6, hf⟩ := obd hf
      refine o_gfR dX14_ends_37 lk_X14_11 rfl e6 ?_
      refine a_iload_n (q := 2) dX14_ends_40 rfl rfl ?_
      obtain ⟨v7, e8, hf⟩ := obd hf
      refine o_alI dX14_ends_41 e8 ?_
      refine a_iconst (v := 3) dX14_ends_42 (by decide) ?_
      refine a_icmp_ne (tgt := 75) dX14_ends_43 (by decide) (fun c => ?_) (fun c => ?_)
      · have hf := ifn c hf
        refine a_iload_n (q := 3) dX14_ends_75 rfl rfl ?_
        refine a_if_eq (tgt := 89) dX14_ends_76 (by decide) (fun c => ?_) (fun c => ?_)
        · have hf := ifp c hf
          refine a_aload_n (q := 1) dX14_ends_89 rfl rfl ?_
          obtain ⟨v9, e10, hf⟩ := obd hf
          refine o_gfR dX14_ends_90 lk_X14_11 rfl e10 ?_
          refine a_iload_n (q := 2) dX14_ends_93 rfl rfl ?_
          refine a_iconst (v := 0) dX14_ends_94 (by decide) ?_
          obtain ⟨h11, e12, hf⟩ := obd hf
          refine o_asI dX14_ends_95 e12 ?_
          obtain rfl := Option.some.inj hf
          exact a_return dX14_ends_96 rfl
        · have hf := ifn c hf
          refine a_aload_n (q := 1) dX14_ends_79 rfl rfl ?_
          refine a_iload_n (q := 2) dX14_ends_80 rfl rfl ?_
          refine a_iload (q := 0) dX14_ends_81 rfl ?_
          obtain ⟨_, e15, hf⟩ := obd hf
          obtain ⟨h14, e13, hf⟩ := obd hf
          refine a_callV (as := [.int a1, .int s34_0]) (np := 2) (ci := 13) (st := []) (sX14_isInt E (D - 1) (by omega) e13) dX14_ends_83 rfl (by omega) (by decide) cw_X14_171 ⟨wd_1515, ws_100⟩ rfl (ckT_s e15) rfl (Nat.le_of_ble_eq_true rfl) ?_
          refine a_goto (tgt := 96) dX14_ends_86 (by decide) ?_
          obtain rfl := Option.some.inj hf
          exact a_return dX14_ends_96 rfl
      · have hf := ifp c hf
        refine a_aload_n (q := 1) dX14_ends_46 rfl rfl ?_
        obtain ⟨v16, e17, hf⟩ := obd hf
        refine o_gfR dX14_ends_47 lk_X14_21 rfl e17 ?_
        refine a_bipush (v := 16) dX14_ends_50 (by decide) ?_
        refine a_iload_n (q := 2) dX14_ends_52 rfl rfl ?_
        refine a_imul dX14_ends_53 ?_
        refine a_iload (q := 0) dX14_ends_54 rfl ?_
        obtain ⟨h18, e19, hf⟩ := obd hf
        refine o_asI dX14_ends_56 e19 ?_
        refine a_aload_n (q := 1) dX14_ends_57 rfl rfl ?_
        obtain ⟨v20, e21, hf⟩ := obd hf
        refine o_gfR dX14_ends_58 lk_X14_18 rfl e21 ?_
        refine a_iload_n (q := 2) dX14_ends_61 rfl rfl ?_
        refine a_iload_n (q := 3) dX14_ends_62 rfl rfl ?_
        obtain ⟨k71, ek71, hf⟩ := jn_s hf
        have hj71 : ∀ (s71_0 : Int32) (h71j : hp), k71 s71_0 h71j = some hz → AW E yX14_ends cX14_ends (Option.none : Option Jvm.ClassFile.FieldType) 5 D none h hz 71 [] [.int s71_0, .int a1, .ref v20] h71j := by
          intro s71_0 h71j hf
          rw [ek71] at hf
          clear ek71
          obtain ⟨h22, e23, hf⟩ := obd hf
          refine o_asI dX14_ends_71 e23 ?_
          refine a_goto (tgt := 96) dX14_ends_72 (by decide) ?_
          obtain rfl := Option.some.inj hf
          exact a_return dX14_ends_96 rfl
        clear ek71
        refine a_if_eq (tgt := 70) dX14_ends_63 (by decide) (fun c => ?_) (fun c => ?_)
        · have hf := ifp c hf
          refine a_iconst (v := 0) dX14_ends_70 (by decide) ?_
          exact AW.sub [] rfl (hj71 _ _ hf)
        · have hf := ifn c hf
          refine a_iconst (v := 1) dX14_ends_66 (by decide) ?_
          refine a_goto (tgt := 71) dX14_ends_67 (by decide) ?_
          exact AW.sub [] rfl (hj71 _ _ hf)
    clear ek34
    refine a_if_eq (tgt := 33) dX14_ends_16 (by decide) (fun c => ?_) (fun c => ?_)
    · have hf := ifp c hf
      refine a_iconst (v := 0) dX14_ends_33 (by decide) ?_
      exact AW.sub [1, 2, 0] rfl (hj34 _ _ hf)
    · have hf := ifn c hf
      refine a_aload_n (q := 1) dX14_ends_19 rfl rfl ?_
      obtain ⟨v24, e25, hf⟩ := obd hf
      refine o_gfR dX14_ends_20 lk_X14_21 rfl e25 ?_
      refine a_bipush (v := 16) dX14_ends_23 (by decide) ?_
      refine a_iload_n (q := 2) dX14_ends_25 rfl rfl ?_
      refine a_imul dX14_ends_26 ?_
      refine a_iload_n (q := 3) dX14_ends_27 rfl rfl ?_
      refine a_iadd dX14_ends_28 ?_
      obtain ⟨v26, e27, hf⟩ := obd hf
      refine o_alI dX14_ends_29 e27 ?_
      refine a_goto (tgt := 34) dX14_ends_30 (by decide) ?_
      exact AW.sub [1, 2, 0] rfl (hj34 _ _ hf)
  clear ek14
  refine a_if_le (tgt := 13) dX14_ends_6 (by decide) (fun c => ?_) (fun c => ?_)
  · have hf := ifp c hf
    refine a_iconst (v := 0) dX14_ends_13 (by decide) ?_
    exact hj14 _ _ hf
  · have hf := ifn c hf
    refine a_iconst (v := 1) dX14_ends_9 (by decide) ?_
    refine a_goto (tgt := 14) dX14_ends_10 (by decide) ?_
    exact hj14 _ _ hf
def fX14_numbered_l76 : Nat → Nat → Int32 → Int32 → Int32 → hp → Option hp
  | 0, _, _, _, _, _ => none
  | n + 1, x0, x1, x3, x4, h =>
    if x4 = 3 then (
      (gfR h x0 13 2).bind fun v1 =>
      (alI h v1 x1).bind fun v3 =>
      if x3 ≤ v3 then (
        some (h)
      ) else (
        (gfR h x0 13 2).bind fun v5 =>
        (alI h v5 x1).bind fun v7 =>
        if 16 ≤ v7 then (
          some (h)
        ) else (
          (gfR h x0 13 3).bind fun v9 =>
          (gfR h x0 13 2).bind fun v11 =>
          (alI h v11 x1).bind fun v13 =>
          (asI h v9 ((16 * x1) + v13) 32).bind fun h15 =>
          (gfR h15 x0 13 2).bind fun v17 =>
          (alI h15 v17 x1).bind fun v19 =>
          (asI h15 v17 x1 (v19 + 1)).bind fun h21 =>
          fX14_numbered_l76 n x0 x1 x3 x4 h21
        )
      )
    ) else (
      some (h)
    )
def fX14_numbered (a0 : Nat) (a1 : Int32) (a2 : Int32) (a3 : Int32) (h : hp) : Option (Int32 × hp) :=
  (gfR h a0 13 0).bind fun v1 =>
  (alI h v1 a1).bind fun v3 =>
  if a2 = 13 then (
    jn (fun (h52j : hp) => (
      if v3 = 3 then (
        some (0, h52j)
      ) else (
        if v3 = 4 then (
          some (0, h52j)
        ) else (
          some (2, h52j)
        )
      )
      : Option (Int32 × hp))) fun k52 =>
    jn (fun (h26j : hp) => (
      (gfR h26j a0 13 2).bind fun v37 =>
      (gfR h26j a0 13 2).bind fun v39 =>
      (alI h26j v39 a1).bind fun v41 =>
      jn (fun (s51_0 : Int32) (h51j : hp) => (
        (asI h51j v37 a1 s51_0).bind fun h43 =>
        k52 h43
        : Option (Int32 × hp))) fun k51 =>
      if a3 ≤ v41 then (
        k51 a3 h26j
      ) else (
        (gfR h26j a0 13 2).bind fun v45 =>
        (alI h26j v45 a1).bind fun v47 =>
        k51 v47 h26j
      )
      : Option (Int32 × hp))) fun k26 =>
    if v3 = 3 then (
      k26 h
    ) else (
      if v3 = 4 then (
        k26 h
      ) else (
        k52 h
      )
    )
  ) else (
    if a2 = 14 then (
      (fX14_numbered_l76 FU a0 a1 a3 v3 h).bind fun h36 =>
      if v3 = 3 then (
        some (0, h36)
      ) else (
        some (2, h36)
      )
    ) else (
      if a2 = 17 then (
        if v3 = 0 then (
          (ckT h a0 13).bind fun _ =>
          (fX14_isInt a0 a1 a3 h).bind fun h33 =>
          some (0, h33)
        ) else (
          some (0, h)
        )
      ) else (
        jn (fun (h203j : hp) => (
          if v3 = 2 then (
            some (0, h203j)
          ) else (
            if v3 = 1 then (
              jn (fun (s254_0 : Int64) (h254j : hp) => (
                (ckT h254j a0 13).bind fun _ =>
                bd2 (fX14_becomes a0 a1 s254_0 h254j) fun v6 h7 =>
                some (v6, h7)
                : Option (Int32 × hp))) fun k254 =>
              if a2 = 15 then (
                (gfR h203j a0 13 1).bind fun v13 =>
                (alI h203j v13 a1).bind fun v15 =>
                k254 ((v15.toInt64) + (a3.toInt64)) h203j
              ) else (
                (gfR h203j a0 13 1).bind fun v9 =>
                (alI h203j v9 a1).bind fun v11 =>
                k254 ((v11.toInt64) * (a3.toInt64)) h203j
              )
            ) else (
              some (2, h203j)
            )
          )
          : Option (Int32 × hp))) fun k203 =>
        if v3 = 2 then (
          jn (fun (s200_0 : UInt32) (h200j : hp) => (
            (ckT h200j a0 13).bind fun _ =>
            (fX14_isReal a0 a1 s200_0 h200j).bind fun h18 =>
            k203 h18
            : Option (Int32 × hp))) fun k200 =>
          if a2 = 15 then (
            (gfR h a0 13 4).bind fun v26 =>
            (alF h v26 a1).bind fun v28 =>
            (fnn (FP.fadd v28 (FP.i2f a3))).bind fun v30 =>
            k200 v30 h
          ) else (
            (gfR h a0 13 4).bind fun v20 =>
            (alF h v20 a1).bind fun v22 =>
            (fnn (FP.fmul v22 (FP.i2f a3))).bind fun v24 =>
            k200 v24 h
          )
        ) else (
          k203 h
        )
      )
    )
  )
set_option maxHeartbeats 4000000 in
set_option maxRecDepth 100000 in
theorem sX14_numbered_l76 (E : gE) (D : Nat) (hD : 2 ≤ D) {rz : Option Value} {h0 hz : hp} : ∀ (n : Nat) (x0 : Nat) (x1 : Int32) (x3 : Int32) (x4 : Int32) (h : hp) (hq : hp), fX14_numbered_l76 n x0 x1 x3 x4 h = some hq → (AW E yX14_numbered cX14_numbered (Option.some Jvm.ClassFile.FieldType.int) 5 D rz h0 hz 134 [(4, .int x4)] [] hq) → AW E yX14_numbered cX14_numbered (Option.some Jvm.ClassFile.FieldType.int) 5 D rz h0 hz 76 [(0, .ref x0), (1, .int x1), (3, .int x3), (4, .int x4)] [] h := by
  intro n
  induction n with
  | zero =>
    intro x0 x1 x3 x4 h hq hf _
    rw [fX14_numbered_l76] at hf
    cases hf
  | succ n ih =>
    intro x0 x1 x3 x4 h hq hf hk0
    rw [fX14_numbered_l76] at hf
    refine a_iload (q := 3) dX14_numbered_76 rfl ?_
    refine a_iconst (v := 3) dX14_numbered_78 (by decide) ?_
    refine a_icmp_ne (tgt := 134) dX14_numbered_79 (by decide) (fun c => ?_) (fun c => ?_)
    · have hf := ifn c hf
      obtain rfl := Option.some.inj hf
      exact AW.sub [3] rfl (hk0)
    · have hf := ifp c hf
      refine a_aload_n (q := 0) dX14_numbered_82 rfl rfl ?_
      obtain ⟨v1, e2, hf⟩ := obd hf
      refine o_gfR dX14_numbered_83 lk_X14_18 rfl e2 ?_
      refine a_iload_n (q := 1) dX14_numbered_86 rfl rfl ?_
      obtain ⟨v3, e4, hf⟩ := obd hf
      refine o_alI dX14_numbered_87 e4 ?_
      refine a_iload_n (q := 2) dX14_numbered_88 rfl rfl ?_
      refine a_icmp_ge (tgt := 134) dX14_numbered_89 (by decide) (fun c => ?_) (fun c => ?_)
      · have hf := ifp c hf
        obtain rfl := Option.some.inj hf
        exact AW.sub [3] rfl (hk0)
      · have hf := ifn c hf
        refine a_aload_n (q := 0) dX14_numbered_92 rfl rfl ?_
        obtain ⟨v5, e6, hf⟩ := obd hf
        refine o_gfR dX14_numbered_93 lk_X14_18 rfl e6 ?_
        refine a_iload_n (q := 1) dX14_numbered_96 rfl rfl ?_
        obtain ⟨v7, e8, hf⟩ := obd hf
        refine o_alI dX14_numbered_97 e8 ?_
        refine a_bipush (v := 16) dX14_numbered_98 (by decide) ?_
        refine a_icmp_ge (tgt := 134) dX14_numbered_100 (by decide) (fun c => ?_) (fun c => ?_)
        · have hf := ifp c hf
          obtain rfl := Option.some.inj hf
          exact AW.sub [3] rfl (hk0)
        · have hf := ifn c hf
          refine a_aload_n (q := 0) dX14_numbered_103 rfl rfl ?_
          obtain ⟨v9, e10, hf⟩ := obd hf
          refine o_gfR dX14_numbered_104 lk_X14_21 rfl e10 ?_
          refine a_bipush (v := 16) dX14_numbered_107 (by decide) ?_
          refine a_iload_n (q := 1) dX14_numbered_109 rfl rfl ?_
          refine a_imul dX14_numbered_110 ?_
          refine a_aload_n (q := 0) dX14_numbered_111 rfl rfl ?_
          obtain ⟨v11, e12, hf⟩ := obd hf
          refine o_gfR dX14_numbered_112 lk_X14_18 rfl e12 ?_
          refine a_iload_n (q := 1) dX14_numbered_115 rfl rfl ?_
          obtain ⟨v13, e14, hf⟩ := obd hf
          refine o_alI dX14_numbered_116 e14 ?_
          refine a_iadd dX14_numbered_117 ?_
          refine a_bipush (v := 32) dX14_numbered_118 (by decide) ?_
          obtain ⟨h15, e16, hf⟩ := obd hf
          refine o_asI dX14_numbered_120 e16 ?_
          refine a_aload_n (q := 0) dX14_numbered_121 rfl rfl ?_
          obtain ⟨v17, e18, hf⟩ := obd hf
          refine o_gfR dX14_numbered_122 lk_X14_18 rfl e18 ?_
          refine a_iload_n (q := 1) dX14_numbered_125 rfl rfl ?_
          refine a_dup2 dX14_numbered_126 rfl rfl ?_
          obtain ⟨v19, e20, hf⟩ := obd hf
          refine o_alI dX14_numbered_127 e20 ?_
          refine a_iconst (v := 1) dX14_numbered_128 (by decide) ?_
          refine a_iadd dX14_numbered_129 ?_
          obtain ⟨h21, e22, hf⟩ := obd hf
          refine o_asI dX14_numbered_130 e22 ?_
          refine a_goto (tgt := 76) dX14_numbered_131 (by decide) ?_
          exact (ih _ _ _ _ _ _ hf hk0)
set_option maxHeartbeats 4000000 in
set_option maxRecDepth 100000 in
theorem sX14_numbered (E : gE) (D : Nat) (hD : 2 ≤ D) {a0 : Nat} {a1 : Int32} {a2 : Int32} {a3 : Int32} {h hz : hp} {v0 : Int32} (hf : fX14_numbered a0 a1 a2 a3 h = some (v0, hz)) : MC E yX14_numbered cX14_numbered (Option.some Jvm.ClassFile.FieldType.int) 5 D [.ref a0, .int a1, .int a2, .int a3] h (some (.int v0)) hz := by
  refine MC.of (by decide +kernel) (Nat.le_of_ble_eq_true rfl) rfl ?_
  unfold fX14_numbered at hf
  show AW E yX14_numbered cX14_numbered (Option.some Jvm.ClassFile.FieldType.int) 5 D (some (.int v0)) h hz 0 [(0, .ref a0), (1, .int a1), (2, .int a2), (3, .int a3)] [] h
  refine a_aload_n (q := 0) dX14_numbered_0 rfl rfl ?_
  obtain ⟨v1, e2, hf⟩ := obd hf
  refine o_gfR dX14_numbered_1 lk_X14_11 rfl e2 ?_
  refine a_iload_n (q := 1) dX14_numbered_4 rfl rfl ?_
  obtain ⟨v3, e4, hf⟩ := obd hf
  refine o_alI dX14_numbered_5 e4 ?_
  refine a_istore (lv1 := [(4, .int v3), (0, .ref a0), (1, .int a1), (2, .int a2), (3, .int a3)]) dX14_numbered_6 (by decide) rfl ?_
  refine a_iload_n (q := 3) dX14_numbered_8 rfl rfl ?_
  refine a_bipush (v := 13) dX14_numbered_9 (by decide) ?_
  refine a_icmp_ne (tgt := 70) dX14_numbered_11 (by decide) (fun c => ?_) (fun c => ?_)
  · have hf := ifn c hf
    refine a_iload_n (q := 3) dX14_numbered_70 rfl rfl ?_
    refine a_bipush (v := 14) dX14_numbered_71 (by decide) ?_
    refine a_icmp_ne (tgt := 146) dX14_numbered_73 (by decide) (fun c => ?_) (fun c => ?_)
    · have hf := ifn c hf
      refine a_iload_n (q := 3) dX14_numbered_146 rfl rfl ?_
      refine a_bipush (v := 17) dX14_numbered_147 (by decide) ?_
      refine a_icmp_ne (tgt := 165) dX14_numbered_149 (by decide) (fun c => ?_) (fun c => ?_)
      · have hf := ifn c hf
        refine a_iload (q := 0) dX14_numbered_165 rfl ?_
        refine a_iconst (v := 2) dX14_numbered_167 (by decide) ?_
        obtain ⟨k203, ek203, hf⟩ := jn_s hf
        have hj203 : ∀ (h203j : hp), k203 h203j = some (v0, hz) → AW E yX14_numbered cX14_numbered (Option.some Jvm.ClassFile.FieldType.int) 5 D (some (.int v0)) h hz 203 [(0, .ref a0), (1, .int a1), (2, .int a2), (3, .int a3), (4, .int v3)] [] h203j := by
          intro h203j hf
          rw [ek203] at hf
          clear ek203
          refine a_iload (q := 4) dX14_numbered_203 rfl ?_
          refine a_iconst (v := 2) dX14_numbered_205 (by decide) ?_
          refine a_icmp_ne (tgt := 213) dX14_numbered_206 (by decide) (fun c => ?_) (fun c => ?_)
          · have hf := ifn c hf
            refine a_iload (q := 4) dX14_numbered_213 rfl ?_
            refine a_iconst (v := 1) dX14_numbered_215 (by decide) ?_
            refine a_icmp_eq (tgt := 223) dX14_numbered_216 (by decide) (fun c => ?_) (fun c => ?_)
            · have hf := ifp c hf
              refine a_aload_n (q := 0) dX14_numbered_223 rfl rfl ?_
              refine a_iload_n (q := 1) dX14_numbered_224 rfl rfl ?_
              refine a_iload_n (q := 2) dX14_numbered_225 rfl rfl ?_
              refine a_bipush (v := 15) dX14_numbered_226 (by decide) ?_
              obtain ⟨k254, ek254, hf⟩ := jn_s hf
              have hj254 : ∀ (s254_0 : Int64) (h254j : hp), k254 s254_0 h254j = some (v0, hz) → AW E yX14_numbered cX14_numbered (Option.some Jvm.ClassFile.FieldType.int) 5 D (some (.int v0)) h hz 254 [] [.long s254_0, .int a1, .ref a0] h254j := by
                intro s254_0 h254j hf
                rw [ek254] at hf
                clear ek254
                obtain ⟨_, e8, hf⟩ := obd hf
                obtain ⟨v6, h7, e5, hf⟩ := ob2 hf
                refine a_callV (as := [.int a1, .long s254_0]) (np := 2) (ci := 13) (st := []) (sX14_becomes E (D - 1) (by omega) e5) dX14_numbered_254 rfl (by omega) (by decide) cw_X14_175 ⟨wd_1588, ws_110⟩ rfl (ckT_s e8) rfl (Nat.le_of_ble_eq_true rfl) ?_
                obtain ⟨rfl, rfl⟩ := oc2 hf
                exact a_ireturn dX14_numbered_257 rfl
              clear ek254
              refine a_icmp_ne (tgt := 244) dX14_numbered_228 (by decide) (fun c => ?_) (fun c => ?_)
              · have hf := ifn c hf
                refine a_aload_n (q := 0) dX14_numbered_244 rfl rfl ?_
                obtain ⟨v9, e10, hf⟩ := obd hf
                refine o_gfR dX14_numbered_245 lk_X14_15 rfl e10 ?_
                refine a_iload_n (q := 1) dX14_numbered_248 rfl rfl ?_
                obtain ⟨v11, e12, hf⟩ := obd hf
                refine o_alI dX14_numbered_249 e12 ?_
                refine a_i2l dX14_numbered_250 rfl ?_
                refine a_iload_n (q := 3) dX14_numbered_251 rfl rfl ?_
                refine a_i2l dX14_numbered_252 rfl ?_
                refine a_lmul dX14_numbered_253 ?_
                exact AW.sub [] rfl (hj254 _ _ hf)
              · have hf := ifp c hf
                refine a_aload_n (q := 0) dX14_numbered_231 rfl rfl ?_
                obtain ⟨v13, e14, hf⟩ := obd hf
                refine o_gfR dX14_numbered_232 lk_X14_15 rfl e14 ?_
                refine a_iload_n (q := 1) dX14_numbered_235 rfl rfl ?_
                obtain ⟨v15, e16, hf⟩ := obd hf
                refine o_alI dX14_numbered_236 e16 ?_
                refine a_i2l dX14_numbered_237 rfl ?_
                refine a_iload_n (q := 3) dX14_numbered_238 rfl rfl ?_
                refine a_i2l dX14_numbered_239 rfl ?_
                refine a_ladd dX14_numbered_240 ?_
                refine a_goto (tgt := 254) dX14_numbered_241 (by decide) ?_
                exact AW.sub [] rfl (hj254 _ _ hf)
            · have hf := ifn c hf
              refine a_iconst (v := 2) dX14_numbered_219 (by decide) ?_
              refine a_goto (tgt := 257) dX14_numbered_220 (by decide) ?_
              obtain ⟨rfl, rfl⟩ := oc2 hf
              exact a_ireturn dX14_numbered_257 rfl
          · have hf := ifp c hf
            refine a_iconst (v := 0) dX14_numbered_209 (by decide) ?_
            refine a_goto (tgt := 257) dX14_numbered_210 (by decide) ?_
            obtain ⟨rfl, rfl⟩ := oc2 hf
            exact a_ireturn dX14_numbered_257 rfl
        clear ek203
        refine a_icmp_ne (tgt := 203) dX14_numbered_168 (by decide) (fun c => ?_) (fun c => ?_)
        · have hf := ifn c hf
          exact AW.sub [1, 2, 3, 4, 0] rfl (hj203 _ hf)
        · have hf := ifp c hf
          refine a_aload_n (q := 1) dX14_numbered_171 rfl rfl ?_
          refine a_iload_n (q := 2) dX14_numbered_172 rfl rfl ?_
          refine a_iload_n (q := 3) dX14_numbered_173 rfl rfl ?_
          refine a_bipush (v := 15) dX14_numbered_174 (by decide) ?_
          obtain ⟨k200, ek200, hf⟩ := jn_s hf
          have hj200 : ∀ (s200_0 : UInt32) (h200j : hp), k200 s200_0 h200j = some (v0, hz) → AW E yX14_numbered cX14_numbered (Option.some Jvm.ClassFile.FieldType.int) 5 D (some (.int v0)) h hz 200 [(0, .ref a0), (1, .int a1), (2, .int a2), (3, .int a3), (4, .int v3)] [.float s200_0, .int a1, .ref a0] h200j := by
            intro s200_0 h200j hf
            rw [ek200] at hf
            clear ek200
            obtain ⟨_, e19, hf⟩ := obd hf
            obtain ⟨h18, e17, hf⟩ := obd hf
            refine a_callV (as := [.int a1, .float s200_0]) (np := 2) (ci := 13) (st := []) (sX14_isReal E (D - 1) (by omega) e17) dX14_numbered_200 rfl (by omega) (by decide) cw_X14_193 ⟨wd_1543, ws_106⟩ rfl (ckT_s e19) rfl (Nat.le_of_ble_eq_true rfl) ?_
            exact hj203 _ hf
          clear ek200
          refine a_icmp_ne (tgt := 191) dX14_numbered_176 (by decide) (fun c => ?_) (fun c => ?_)
          · have hf := ifn c hf
            refine a_aload_n (q := 1) dX14_numbered_191 rfl rfl ?_
            obtain ⟨v20, e21, hf⟩ := obd hf
            refine o_gfR dX14_numbered_192 lk_X14_24 rfl e21 ?_
            refine a_iload_n (q := 2) dX14_numbered_195 rfl rfl ?_
            obtain ⟨v22, e23, hf⟩ := obd hf
            refine o_alF dX14_numbered_196 e23 ?_
            refine a_iload_n (q := 4) dX14_numbered_197 rfl rfl ?_
            refine a_i2f dX14_numbered_198 ?_
            obtain ⟨v24, e25, hf⟩ := obd hf
            refine o_fmul dX14_numbered_199 e25 ?_
            exact AW.sub [1, 2, 3, 4, 0] rfl (hj200 _ _ hf)
          · have hf := ifp c hf
            refine a_aload_n (q := 1) dX14_numbered_179 rfl rfl ?_
            obtain ⟨v26, e27, hf⟩ := obd hf
            refine o_gfR dX14_numbered_180 lk_X14_24 rfl e27 ?_
            refine a_iload_n (q := 2) dX14_numbered_183 rfl rfl ?_
            obtain ⟨v28, e29, hf⟩ := obd hf
            refine o_alF dX14_numbered_184 e29 ?_
            refine a_iload_n (q := 4) dX14_numbered_185 rfl rfl ?_
            refine a_i2f dX14_numbered_186 ?_
            obtain ⟨v30, e31, hf⟩ := obd hf
            refine o_fadd dX14_numbered_187 e31 ?_
            refine a_goto (tgt := 200) dX14_numbered_188 (by decide) ?_
            exact AW.sub [1, 2, 3, 4, 0] rfl (hj200 _ _ hf)
      · have hf := ifp c hf
        refine a_iload (q := 0) dX14_numbered_152 rfl ?_
        refine a_if_ne (tgt := 163) dX14_numbered_154 (by decide) (fun c => ?_) (fun c => ?_)
        · have hf := ifn c hf
          refine a_iconst (v := 0) dX14_numbered_163 (by decide) ?_
          obtain ⟨rfl, rfl⟩ := oc2 hf
          exact a_ireturn dX14_numbered_164 rfl
        · have hf := ifp c hf
          refine a_aload_n (q := 1) dX14_numbered_157 rfl rfl ?_
          refine a_iload_n (q := 2) dX14_numbered_158 rfl rfl ?_
          refine a_iload_n (q := 4) dX14_numbered_159 rfl rfl ?_
          obtain ⟨_, e34, hf⟩ := obd hf
          obtain ⟨h33, e32, hf⟩ := obd hf
          refine a_callV (as := [.int a1, .int a3]) (np := 2) (ci := 13) (st := []) (sX14_isInt E (D - 1) (by omega) e32) dX14_numbered_160 rfl (by omega) (by decide) cw_X14_171 ⟨wd_1515, ws_100⟩ rfl (ckT_s e34) rfl (Nat.le_of_ble_eq_true rfl) ?_
          refine a_iconst (v := 0) dX14_numbered_163 (by decide) ?_
          obtain ⟨rfl, rfl⟩ := oc2 hf
          exact a_ireturn dX14_numbered_164 rfl
    · have hf := ifp c hf
      obtain ⟨h36, e35, hf⟩ := obd hf
      refine AW.sub [1, 2, 4, 0] rfl (sX14_numbered_l76 E D hD _ _ _ _ _ _ _ e35 ?_)
      refine a_iload (q := 0) dX14_numbered_134 rfl ?_
      refine a_iconst (v := 3) dX14_numbered_136 (by decide) ?_
      refine a_icmp_ne (tgt := 144) dX14_numbered_137 (by decide) (fun c => ?_) (fun c => ?_)
      · have hf := ifn c hf
        refine a_iconst (v := 2) dX14_numbered_144 (by decide) ?_
        obtain ⟨rfl, rfl⟩ := oc2 hf
        exact a_ireturn dX14_numbered_145 rfl
      · have hf := ifp c hf
        refine a_iconst (v := 0) dX14_numbered_140 (by decide) ?_
        refine a_goto (tgt := 145) dX14_numbered_141 (by decide) ?_
        obtain ⟨rfl, rfl⟩ := oc2 hf
        exact a_ireturn dX14_numbered_145 rfl
  · have hf := ifp c hf
    refine a_iload (q := 0) dX14_numbered_14 rfl ?_
    refine a_iconst (v := 3) dX14_numbered_16 (by decide) ?_
    obtain ⟨k52, ek52, hf⟩ := jn_s hf
    have hj52 : ∀ (h52j : hp), k52 h52j = some (v0, hz) → AW E yX14_numbered cX14_numbered (Option.some Jvm.ClassFile.FieldType.int) 5 D (some (.int v0)) h hz 52 [(4, .int v3)] [] h52j := by
      intro h52j hf
      rw [ek52] at hf
      clear ek52
      refine a_iload (q := 0) dX14_numbered_52 rfl ?_
      refine a_iconst (v := 3) dX14_numbered_54 (by decide) ?_
      refine a_icmp_eq (tgt := 64) dX14_numbered_55 (by decide) (fun c => ?_) (fun c => ?_)
      · have hf := ifp c hf
        refine a_iconst (v := 0) dX14_numbered_64 (by decide) ?_
        refine a_goto (tgt := 69) dX14_numbered_65 (by decide) ?_
        obtain ⟨rfl, rfl⟩ := oc2 hf
        exact a_ireturn dX14_numbered_69 rfl
      · have hf := ifn c hf
        refine a_iload (q := 0) dX14_numbered_58 rfl ?_
        refine a_iconst (v := 4) dX14_numbered_60 (by decide) ?_
        refine a_icmp_ne (tgt := 68) dX14_numbered_61 (by decide) (fun c => ?_) (fun c => ?_)
        · have hf := ifn c hf
          refine a_iconst (v := 2) dX14_numbered_68 (by decide) ?_
          obtain ⟨rfl, rfl⟩ := oc2 hf
          exact a_ireturn dX14_numbered_69 rfl
        · have hf := ifp c hf
          refine a_iconst (v := 0) dX14_numbered_64 (by decide) ?_
          refine a_goto (tgt := 69) dX14_numbered_65 (by decide) ?_
          obtain ⟨rfl, rfl⟩ := oc2 hf
          exact a_ireturn dX14_numbered_69 rfl
    clear ek52
    obtain ⟨k26, ek26, hf⟩ := jn_s hf
    have hj26 : ∀ (h26j : hp), k26 h26j = some (v0, hz) → AW E yX14_numbered cX14_numbered (Option.some Jvm.ClassFile.FieldType.int) 5 D (some (.int v0)) h hz 26 [(0, .ref a0), (1, .int a1), (3, .int a3), (4, .int v3)] [] h26j := by
      intro h26j hf
      rw [ek26] at hf
      clear ek26
      refine a_aload_n (q := 0) dX14_numbered_26 rfl rfl ?_
      obtain ⟨v37, e38, hf⟩ := obd hf
      refine o_gfR dX14_numbered_27 lk_X14_18 rfl e38 ?_
      refine a_iload_n (q := 1) dX14_numbered_30 rfl rfl ?_
      refine a_aload_n (q := 0) dX14_numbered_31 rfl rfl ?_
      obtain ⟨v39, e40, hf⟩ := obd hf
      refine o_gfR dX14_numbered_32 lk_X14_18 rfl e40 ?_
      refine a_iload_n (q := 1) dX14_numbered_35 rfl rfl ?_
      obtain ⟨v41, e42, hf⟩ := obd hf
      refine o_alI dX14_numbered_36 e42 ?_
      refine a_iload_n (q := 2) dX14_numbered_37 rfl rfl ?_
      obtain ⟨k51, ek51, hf⟩ := jn_s hf
      have hj51 : ∀ (s51_0 : Int32) (h51j : hp), k51 s51_0 h51j = some (v0, hz) → AW E yX14_numbered cX14_numbered (Option.some Jvm.ClassFile.FieldType.int) 5 D (some (.int v0)) h hz 51 [(4, .int v3)] [.int s51_0, .int a1, .ref v37] h51j := by
        intro s51_0 h51j hf
        rw [ek51] at hf
        clear ek51
        obtain ⟨h43, e44, hf⟩ := obd hf
        refine o_asI dX14_numbered_51 e44 ?_
        exact hj52 _ hf
      clear ek51
      refine a_icmp_ge (tgt := 50) dX14_numbered_38 (by decide) (fun c => ?_) (fun c => ?_)
      · have hf := ifp c hf
        refine a_iload_n (q := 2) dX14_numbered_50 rfl rfl ?_
        exact AW.sub [3] rfl (hj51 _ _ hf)
      · have hf := ifn c hf
        refine a_aload_n (q := 0) dX14_numbered_41 rfl rfl ?_
        obtain ⟨v45, e46, hf⟩ := obd hf
        refine o_gfR dX14_numbered_42 lk_X14_18 rfl e46 ?_
        refine a_iload_n (q := 1) dX14_numbered_45 rfl rfl ?_
        obtain ⟨v47, e48, hf⟩ := obd hf
        refine o_alI dX14_numbered_46 e48 ?_
        refine a_goto (tgt := 51) dX14_numbered_47 (by decide) ?_
        exact AW.sub [3] rfl (hj51 _ _ hf)
    clear ek26
    refine a_icmp_eq (tgt := 26) dX14_numbered_17 (by decide) (fun c => ?_) (fun c => ?_)
    · have hf := ifp c hf
      exact AW.sub [1, 2, 4, 0] rfl (hj26 _ hf)
    · have hf := ifn c hf
      refine a_iload (q := 0) dX14_numbered_20 rfl ?_
      refine a_iconst (v := 4) dX14_numbered_22 (by decide) ?_
      refine a_icmp_ne (tgt := 52) dX14_numbered_23 (by decide) (fun c => ?_) (fun c => ?_)
      · have hf := ifn c hf
        exact AW.sub [0] rfl (hj52 _ hf)
      · have hf := ifp c hf
        exact AW.sub [1, 2, 4, 0] rfl (hj26 _ hf)
def fX14_feed (a0 : Nat) (a1 : Int32) (h : hp) : Option (Int32 × hp) :=
  bd2 (fX14_isIn (a1.toInt64) 1 127 h) fun v2 h3 =>
  if v2 = 0 then (
    some ((-2), h3)
  ) else (
    (gfI h3 a0 13 10).bind fun v4 =>
    if v4 = 160 then (
      some ((-4), h3)
    ) else (
      (gfR h3 a0 13 7).bind fun v6 =>
      (gfI h3 a0 13 10).bind fun v8 =>
      (asI h3 v6 v8 a1).bind fun h10 =>
      (gfI h10 a0 13 10).bind fun v12 =>
      (pfI h10 a0 13 10 (v12 + 1)).bind fun h14 =>
      (gfI h14 a0 13 10).bind fun v16 =>
      some (v16, h14)
    )
  )
set_option maxHeartbeats 4000000 in
set_option maxRecDepth 100000 in
theorem sX14_feed (E : gE) (D : Nat) (hD : 1 ≤ D) {a0 : Nat} {a1 : Int32} {h hz : hp} {v0 : Int32} (hf : fX14_feed a0 a1 h = some (v0, hz)) : MC E yX14_feed cX14_feed (Option.some Jvm.ClassFile.FieldType.int) 2 D [.ref a0, .int a1] h (some (.int v0)) hz := by
  refine MC.of (by decide +kernel) (Nat.le_of_ble_eq_true rfl) rfl ?_
  unfold fX14_feed at hf
  show AW E yX14_feed cX14_feed (Option.some Jvm.ClassFile.FieldType.int) 2 D (some (.int v0)) h hz 0 [(0, .ref a0), (1, .int a1)] [] h
  refine a_iload_n (q := 1) dX14_feed_0 rfl rfl ?_
  refine a_i2l dX14_feed_1 rfl ?_
  refine a_lconst (v := 1) dX14_feed_2 (by decide) ?_
  refine a_ldc2 (v := 127) dX14_feed_3 wd_1322 ?_
  obtain ⟨v2, h3, e1, hf⟩ := ob2 hf
  refine a_callS (as := [.long (a1.toInt64), .long 1, .long 127]) (np := 3) (st := []) (sX14_isIn E (D - 1) (by omega) e1) dX14_feed_6 rfl (by omega) (by decide) cw_X14_155 wd_1324 rfl (Nat.le_of_ble_eq_true rfl) ?_
  refine a_if_ne (tgt := 15) dX14_feed_9 (by decide) (fun c => ?_) (fun c => ?_)
  · have hf := ifn c hf
    refine a_aload_n (q := 0) dX14_feed_15 rfl rfl ?_
    obtain ⟨v4, e5, hf⟩ := obd hf
    refine o_gfI dX14_feed_16 lk_X14_229 rfl e5 ?_
    refine a_sipush (v := 160) dX14_feed_19 (by decide) ?_
    refine a_icmp_ne (tgt := 28) dX14_feed_22 (by decide) (fun c => ?_) (fun c => ?_)
    · have hf := ifn c hf
      refine a_aload_n (q := 0) dX14_feed_28 rfl rfl ?_
      obtain ⟨v6, e7, hf⟩ := obd hf
      refine o_gfR dX14_feed_29 lk_X14_31 rfl e7 ?_
      refine a_aload_n (q := 0) dX14_feed_32 rfl rfl ?_
      obtain ⟨v8, e9, hf⟩ := obd hf
      refine o_gfI dX14_feed_33 lk_X14_229 rfl e9 ?_
      refine a_iload_n (q := 1) dX14_feed_36 rfl rfl ?_
      obtain ⟨h10, e11, hf⟩ := obd hf
      refine o_asI dX14_feed_37 e11 ?_
      refine a_aload_n (q := 0) dX14_feed_38 rfl rfl ?_
      refine a_dup dX14_feed_39 rfl ?_
      obtain ⟨v12, e13, hf⟩ := obd hf
      refine o_gfI dX14_feed_40 lk_X14_229 rfl e13 ?_
      refine a_iconst (v := 1) dX14_feed_43 (by decide) ?_
      refine a_iadd dX14_feed_44 ?_
      obtain ⟨h14, e15, hf⟩ := obd hf
      refine o_pfI dX14_feed_45 lk_X14_229 (⟨_, rfl, Or.inl rfl⟩) rfl e15 ?_
      refine a_aload_n (q := 0) dX14_feed_48 rfl rfl ?_
      obtain ⟨v16, e17, hf⟩ := obd hf
      refine o_gfI dX14_feed_49 lk_X14_229 rfl e17 ?_
      obtain ⟨rfl, rfl⟩ := oc2 hf
      exact a_ireturn dX14_feed_52 rfl
    · have hf := ifp c hf
      refine a_bipush (v := (-4)) dX14_feed_25 (by decide) ?_
      obtain ⟨rfl, rfl⟩ := oc2 hf
      exact a_ireturn dX14_feed_27 rfl
  · have hf := ifp c hf
    refine a_bipush (v := (-2)) dX14_feed_12 (by decide) ?_
    obtain ⟨rfl, rfl⟩ := oc2 hf
    exact a_ireturn dX14_feed_14 rfl
def fX14_clear (a0 : Nat) (h : hp) : Option (Int32 × hp) :=
  (gfI h a0 13 10).bind fun v1 =>
  (pfI h a0 13 10 0).bind fun h3 =>
  some (v1, h3)
set_option maxHeartbeats 4000000 in
set_option maxRecDepth 100000 in
theorem sX14_clear (E : gE) (D : Nat) (hD : 0 ≤ D) {a0 : Nat} {h hz : hp} {v0 : Int32} (hf : fX14_clear a0 h = some (v0, hz)) : MC E yX14_clear cX14_clear (Option.some Jvm.ClassFile.FieldType.int) 2 D [.ref a0] h (some (.int v0)) hz := by
  refine MC.of (by decide +kernel) (Nat.le_of_ble_eq_true rfl) rfl ?_
  unfold fX14_clear at hf
  show AW E yX14_clear cX14_clear (Option.some Jvm.ClassFile.FieldType.int) 2 D (some (.int v0)) h hz 0 [(0, .ref a0)] [] h
  refine a_aload_n (q := 0) dX14_clear_0 rfl rfl ?_
  obtain ⟨v1, e2, hf⟩ := obd hf
  refine o_gfI dX14_clear_1 lk_X14_229 rfl e2 ?_
  refine a_istore_n (lv1 := [(1, .int v1), (0, .ref a0)]) dX14_clear_4 rfl (by decide) rfl ?_
  refine a_aload_n (q := 1) dX14_clear_5 rfl rfl ?_
  refine a_iconst (v := 0) dX14_clear_6 (by decide) ?_
  obtain ⟨h3, e4, hf⟩ := obd hf
  refine o_pfI dX14_clear_7 lk_X14_229 (⟨_, rfl, Or.inl rfl⟩) rfl e4 ?_
  refine a_iload_n (q := 0) dX14_clear_10 rfl rfl ?_
  obtain ⟨rfl, rfl⟩ := oc2 hf
  exact a_ireturn dX14_clear_11 rfl
def fX14_reads (a0 : Nat) (a1 : Nat) (a2 : Int32) (a3 : Int32) (h : hp) : Option hp :=
  (pfR h a0 13 11 a1).bind fun h1 =>
  (pfI h1 a0 13 12 a2).bind fun h3 =>
  (pfI h3 a0 13 13 a3).bind fun h5 =>
  (pfI h5 a0 13 14 0).bind fun h7 =>
  (pfI h7 a0 13 15 (-1)).bind fun h9 =>
  (pfI h9 a0 13 16 0).bind fun h11 =>
  some h11
set_option maxHeartbeats 4000000 in
set_option maxRecDepth 100000 in
theorem sX14_reads (E : gE) (D : Nat) (hD : 0 ≤ D) {a0 : Nat} {a1 : Nat} {a2 : Int32} {a3 : Int32} {h hz : hp} (hf : fX14_reads a0 a1 a2 a3 h = some hz) : MC E yX14_reads cX14_reads (Option.none : Option Jvm.ClassFile.FieldType) 4 D [.ref a0, .ref a1, .int a2, .int a3] h none hz := by
  refine MC.of (by decide +kernel) (Nat.le_of_ble_eq_true rfl) rfl ?_
  unfold fX14_reads at hf
  show AW E yX14_reads cX14_reads (Option.none : Option Jvm.ClassFile.FieldType) 4 D none h hz 0 [(0, .ref a0), (1, .ref a1), (2, .int a2), (3, .int a3)] [] h
  refine a_aload_n (q := 0) dX14_reads_0 rfl rfl ?_
  refine a_aload_n (q := 1) dX14_reads_1 rfl rfl ?_
  obtain ⟨h1, e2, hf⟩ := obd hf
  refine o_pfR dX14_reads_2 lk_X14_40 (⟨_, rfl, Or.inl rfl⟩) rfl e2 ?_
  refine a_aload_n (q := 0) dX14_reads_5 rfl rfl ?_
  refine a_iload_n (q := 2) dX14_reads_6 rfl rfl ?_
  obtain ⟨h3, e4, hf⟩ := obd hf
  refine o_pfI dX14_reads_7 lk_X14_232 (⟨_, rfl, Or.inl rfl⟩) rfl e4 ?_
  refine a_aload_n (q := 0) dX14_reads_10 rfl rfl ?_
  refine a_iload_n (q := 3) dX14_reads_11 rfl rfl ?_
  obtain ⟨h5, e6, hf⟩ := obd hf
  refine o_pfI dX14_reads_12 lk_X14_235 (⟨_, rfl, Or.inl rfl⟩) rfl e6 ?_
  refine a_aload_n (q := 0) dX14_reads_15 rfl rfl ?_
  refine a_iconst (v := 0) dX14_reads_16 (by decide) ?_
  obtain ⟨h7, e8, hf⟩ := obd hf
  refine o_pfI dX14_reads_17 lk_X14_238 (⟨_, rfl, Or.inl rfl⟩) rfl e8 ?_
  refine a_aload_n (q := 0) dX14_reads_20 rfl rfl ?_
  refine a_iconst (v := (-1)) dX14_reads_21 (by decide) ?_
  obtain ⟨h9, e10, hf⟩ := obd hf
  refine o_pfI dX14_reads_22 lk_X14_241 (⟨_, rfl, Or.inl rfl⟩) rfl e10 ?_
  refine a_aload_n (q := 0) dX14_reads_25 rfl rfl ?_
  refine a_iconst (v := 0) dX14_reads_26 (by decide) ?_
  obtain ⟨h11, e12, hf⟩ := obd hf
  refine o_pfI dX14_reads_27 lk_X14_244 (⟨_, rfl, Or.inl rfl⟩) rfl e12 ?_
  obtain rfl := Option.some.inj hf
  exact a_return dX14_reads_30 rfl
def fX14_here (a0 : Nat) (h : hp) : Option (Int32 × hp) :=
  (gfI h a0 13 14).bind fun v1 =>
  (gfI h a0 13 13).bind fun v3 =>
  if v3 ≤ v1 then (
    some ((-1), h)
  ) else (
    (gfR h a0 13 11).bind fun v5 =>
    (gfI h a0 13 12).bind fun v7 =>
    (gfI h a0 13 14).bind fun v9 =>
    (alI h v5 (v7 + v9)).bind fun v11 =>
    some (v11, h)
  )
set_option maxHeartbeats 4000000 in
set_option maxRecDepth 100000 in
theorem sX14_here (E : gE) (D : Nat) (hD : 0 ≤ D) {a0 : Nat} {h hz : hp} {v0 : Int32} (hf : fX14_here a0 h = some (v0, hz)) : MC E yX14_here cX14_here (Option.some Jvm.ClassFile.FieldType.int) 1 D [.ref a0] h (some (.int v0)) hz := by
  refine MC.of (by decide +kernel) (Nat.le_of_ble_eq_true rfl) rfl ?_
  unfold fX14_here at hf
  show AW E yX14_here cX14_here (Option.some Jvm.ClassFile.FieldType.int) 1 D (some (.int v0)) h hz 0 [(0, .ref a0)] [] h
  refine a_aload_n (q := 0) dX14_here_0 rfl rfl ?_
  obtain ⟨v1, e2, hf⟩ := obd hf
  refine o_gfI dX14_here_1 lk_X14_238 rfl e2 ?_
  refine a_aload_n (q := 0) dX14_here_4 rfl rfl ?_
  obtain ⟨v3, e4, hf⟩ := obd hf
  refine o_gfI dX14_here_5 lk_X14_235 rfl e4 ?_
  refine a_icmp_ge (tgt := 28) dX14_here_8 (by decide) (fun c => ?_) (fun c => ?_)
  · have hf := ifp c hf
    refine a_iconst (v := (-1)) dX14_here_28 (by decide) ?_
    obtain ⟨rfl, rfl⟩ := oc2 hf
    exact a_ireturn dX14_here_29 rfl
  · have hf := ifn c hf
    refine a_aload_n (q := 0) dX14_here_11 rfl rfl ?_
    obtain ⟨v5, e6, hf⟩ := obd hf
    refine o_gfR dX14_here_12 lk_X14_40 rfl e6 ?_
    refine a_aload_n (q := 0) dX14_here_15 rfl rfl ?_
    obtain ⟨v7, e8, hf⟩ := obd hf
    refine o_gfI dX14_here_16 lk_X14_232 rfl e8 ?_
    refine a_aload_n (q := 0) dX14_here_19 rfl rfl ?_
    obtain ⟨v9, e10, hf⟩ := obd hf
    refine o_gfI dX14_here_20 lk_X14_238 rfl e10 ?_
    refine a_iadd dX14_here_23 ?_
    obtain ⟨v11, e12, hf⟩ := obd hf
    refine o_alI dX14_here_24 e12 ?_
    refine a_goto (tgt := 29) dX14_here_25 (by decide) ?_
    obtain ⟨rfl, rfl⟩ := oc2 hf
    exact a_ireturn dX14_here_29 rfl
def fX14_ahead (a0 : Nat) (a1 : Int32) (h : hp) : Option (Int32 × hp) :=
  (gfI h a0 13 14).bind fun v1 =>
  (gfI h a0 13 13).bind fun v3 =>
  if v3 ≤ (v1 + a1) then (
    some ((-1), h)
  ) else (
    (gfR h a0 13 11).bind fun v5 =>
    (gfI h a0 13 12).bind fun v7 =>
    (gfI h a0 13 14).bind fun v9 =>
    (alI h v5 ((v7 + v9) + a1)).bind fun v11 =>
    some (v11, h)
  )
set_option maxHeartbeats 4000000 in
set_option maxRecDepth 100000 in
theorem sX14_ahead (E : gE) (D : Nat) (hD : 0 ≤ D) {a0 : Nat} {a1 : Int32} {h hz : hp} {v0 : Int32} (hf : fX14_ahead a0 a1 h = some (v0, hz)) : MC E yX14_ahead cX14_ahead (Option.some Jvm.ClassFile.FieldType.int) 2 D [.ref a0, .int a1] h (some (.int v0)) hz := by
  refine MC.of (by decide +kernel) (Nat.le_of_ble_eq_true rfl) rfl ?_
  unfold fX14_ahead at hf
  show AW E yX14_ahead cX14_ahead (Option.some Jvm.ClassFile.FieldType.int) 2 D (some (.int v0)) h hz 0 [(0, .ref a0), (1, .int a1)] [] h
  refine a_aload_n (q := 0) dX14_ahead_0 rfl rfl ?_
  obtain ⟨v1, e2, hf⟩ := obd hf
  refine o_gfI dX14_ahead_1 lk_X14_238 rfl e2 ?_
  refine a_iload_n (q := 1) dX14_ahead_4 rfl rfl ?_
  refine a_iadd dX14_ahead_5 ?_
  refine a_aload_n (q := 0) dX14_ahead_6 rfl rfl ?_
  obtain ⟨v3, e4, hf⟩ := obd hf
  refine o_gfI dX14_ahead_7 lk_X14_235 rfl e4 ?_
  refine a_icmp_ge (tgt := 32) dX14_ahead_10 (by decide) (fun c => ?_) (fun c => ?_)
  · have hf := ifp c hf
    refine a_iconst (v := (-1)) dX14_ahead_32 (by decide) ?_
    obtain ⟨rfl, rfl⟩ := oc2 hf
    exact a_ireturn dX14_ahead_33 rfl
  · have hf := ifn c hf
    refine a_aload_n (q := 0) dX14_ahead_13 rfl rfl ?_
    obtain ⟨v5, e6, hf⟩ := obd hf
    refine o_gfR dX14_ahead_14 lk_X14_40 rfl e6 ?_
    refine a_aload_n (q := 0) dX14_ahead_17 rfl rfl ?_
    obtain ⟨v7, e8, hf⟩ := obd hf
    refine o_gfI dX14_ahead_18 lk_X14_232 rfl e8 ?_
    refine a_aload_n (q := 0) dX14_ahead_21 rfl rfl ?_
    obtain ⟨v9, e10, hf⟩ := obd hf
    refine o_gfI dX14_ahead_22 lk_X14_238 rfl e10 ?_
    refine a_iadd dX14_ahead_25 ?_
    refine a_iload_n (q := 1) dX14_ahead_26 rfl rfl ?_
    refine a_iadd dX14_ahead_27 ?_
    obtain ⟨v11, e12, hf⟩ := obd hf
    refine o_alI dX14_ahead_28 e12 ?_
    refine a_goto (tgt := 33) dX14_ahead_29 (by decide) ?_
    obtain ⟨rfl, rfl⟩ := oc2 hf
    exact a_ireturn dX14_ahead_33 rfl
def fX14_fails (a0 : Nat) (a1 : Int32) (h : hp) : Option (Int32 × hp) :=
  (gfI h a0 13 15).bind fun v1 =>
  if 0 ≤ v1 then (
    some (0, h)
  ) else (
    (pfI h a0 13 15 a1).bind fun h3 =>
    some (0, h3)
  )
set_option maxHeartbeats 4000000 in
set_option maxRecDepth 100000 in
theorem sX14_fails (E : gE) (D : Nat) (hD : 0 ≤ D) {a0 : Nat} {a1 : Int32} {h hz : hp} {v0 : Int32} (hf : fX14_fails a0 a1 h = some (v0, hz)) : MC E yX14_fails cX14_fails (Option.some Jvm.ClassFile.FieldType.boolean) 2 D [.ref a0, .int a1] h (some (.int v0)) hz := by
  refine MC.of (by decide +kernel) (Nat.le_of_ble_eq_true rfl) rfl ?_
  unfold fX14_fails at hf
  show AW E yX14_fails cX14_fails (Option.some Jvm.ClassFile.FieldType.boolean) 2 D (some (.int v0)) h hz 0 [(0, .ref a0), (1, .int a1)] [] h
  refine a_aload_n (q := 0) dX14_fails_0 rfl rfl ?_
  obtain ⟨v1, e2, hf⟩ := obd hf
  refine o_gfI dX14_fails_1 lk_X14_241 rfl e2 ?_
  refine a_if_ge (tgt := 12) dX14_fails_4 (by decide) (fun c => ?_) (fun c => ?_)
  · have hf := ifp c hf
    refine a_iconst (v := 0) dX14_fails_12 (by decide) ?_
    obtain ⟨rfl, rfl⟩ := oc2 hf
    exact a_zreturn dX14_fails_13 rfl (by decide)
  · have hf := ifn c hf
    refine a_aload_n (q := 0) dX14_fails_7 rfl rfl ?_
    refine a_iload_n (q := 1) dX14_fails_8 rfl rfl ?_
    obtain ⟨h3, e4, hf⟩ := obd hf
    refine o_pfI dX14_fails_9 lk_X14_241 (⟨_, rfl, Or.inl rfl⟩) rfl e4 ?_
    refine a_iconst (v := 0) dX14_fails_12 (by decide) ?_
    obtain ⟨rfl, rfl⟩ := oc2 hf
    exact a_zreturn dX14_fails_13 rfl (by decide)
def fX14_isSign (a0 : Nat) (a1 : Int32) (h : hp) : Option (Int32 × hp) :=
  (ckT h a0 13).bind fun _ =>
  bd2 (fX14_here a0 h) fun v2 h3 =>
  if v2 = a1 then (
    (gfI h3 a0 13 14).bind fun v5 =>
    (pfI h3 a0 13 14 (v5 + 1)).bind fun h7 =>
    some (1, h7)
  ) else (
    (gfI h3 a0 13 14).bind fun v9 =>
    (ckT h3 a0 13).bind fun _ =>
    bd2 (fX14_fails a0 v9 h3) fun v12 h13 =>
    (zck v12).bind fun _ =>
    some (v12, h13)
  )
set_option maxHeartbeats 4000000 in
set_option maxRecDepth 100000 in
theorem sX14_isSign (E : gE) (D : Nat) (hD : 1 ≤ D) {a0 : Nat} {a1 : Int32} {h hz : hp} {v0 : Int32} (hf : fX14_isSign a0 a1 h = some (v0, hz)) : MC E yX14_isSign cX14_isSign (Option.some Jvm.ClassFile.FieldType.boolean) 2 D [.ref a0, .int a1] h (some (.int v0)) hz := by
  refine MC.of (by decide +kernel) (Nat.le_of_ble_eq_true rfl) rfl ?_
  unfold fX14_isSign at hf
  show AW E yX14_isSign cX14_isSign (Option.some Jvm.ClassFile.FieldType.boolean) 2 D (some (.int v0)) h hz 0 [(0, .ref a0), (1, .int a1)] [] h
  refine a_aload_n (q := 0) dX14_isSign_0 rfl rfl ?_
  obtain ⟨_, e4, hf⟩ := obd hf
  obtain ⟨v2, h3, e1, hf⟩ := ob2 hf
  refine a_callV (as := []) (np := 0) (ci := 13) (st := []) (sX14_here E (D - 1) (by omega) e1) dX14_isSign_1 rfl (by omega) (by decide) cw_X14_247 ⟨wd_1349, ws_65⟩ rfl (ckT_s e4) rfl (Nat.le_of_ble_eq_true rfl) ?_
  refine a_iload_n (q := 1) dX14_isSign_4 rfl rfl ?_
  refine a_icmp_eq (tgt := 17) dX14_isSign_5 (by decide) (fun c => ?_) (fun c => ?_)
  · have hf := ifp c hf
    refine a_aload_n (q := 0) dX14_isSign_17 rfl rfl ?_
    refine a_dup dX14_isSign_18 rfl ?_
    obtain ⟨v5, e6, hf⟩ := obd hf
    refine o_gfI dX14_isSign_19 lk_X14_238 rfl e6 ?_
    refine a_iconst (v := 1) dX14_isSign_22 (by decide) ?_
    refine a_iadd dX14_isSign_23 ?_
    obtain ⟨h7, e8, hf⟩ := obd hf
    refine o_pfI dX14_isSign_24 lk_X14_238 (⟨_, rfl, Or.inl rfl⟩) rfl e8 ?_
    refine a_iconst (v := 1) dX14_isSign_27 (by decide) ?_
    obtain ⟨rfl, rfl⟩ := oc2 hf
    exact a_zreturn dX14_isSign_28 rfl (by decide)
  · have hf := ifn c hf
    refine a_aload_n (q := 0) dX14_isSign_8 rfl rfl ?_
    refine a_aload_n (q := 0) dX14_isSign_9 rfl rfl ?_
    obtain ⟨v9, e10, hf⟩ := obd hf
    refine o_gfI dX14_isSign_10 lk_X14_238 rfl e10 ?_
    obtain ⟨_, e14, hf⟩ := obd hf
    obtain ⟨v12, h13, e11, hf⟩ := ob2 hf
    refine a_callV (as := [.int v9]) (np := 1) (ci := 13) (st := []) (sX14_fails E (D - 1) (by omega) e11) dX14_isSign_13 rfl (by omega) (by decide) cw_X14_251 ⟨wd_1353, ws_66⟩ rfl (ckT_s e14) rfl (Nat.le_of_ble_eq_true rfl) ?_
    obtain ⟨_, e15, hf⟩ := obd hf
    obtain ⟨rfl, rfl⟩ := oc2 hf
    exact a_zreturn dX14_isSign_16 rfl (zck_s e15)
def fX14_isOneOf (a0 : Nat) (a1 : Int32) (a2 : Int32) (h : hp) : Option (Int32 × hp) :=
  (ckT h a0 13).bind fun _ =>
  bd2 (fX14_here a0 h) fun v2 h3 =>
  bd2 (fX14_isIn (v2.toInt64) (a1.toInt64) (a2.toInt64) h3) fun v6 h7 =>
  if v6 = 0 then (
    (gfI h7 a0 13 14).bind fun v12 =>
    (ckT h7 a0 13).bind fun _ =>
    bd2 (fX14_fails a0 v12 h7) fun v15 h16 =>
    (zck v15).bind fun _ =>
    some (v15, h16)
  ) else (
    (gfI h7 a0 13 14).bind fun v8 =>
    (pfI h7 a0 13 14 (v8 + 1)).bind fun h10 =>
    some (1, h10)
  )
set_option maxHeartbeats 4000000 in
set_option maxRecDepth 100000 in
theorem sX14_isOneOf (E : gE) (D : Nat) (hD : 1 ≤ D) {a0 : Nat} {a1 : Int32} {a2 : Int32} {h hz : hp} {v0 : Int32} (hf : fX14_isOneOf a0 a1 a2 h = some (v0, hz)) : MC E yX14_isOneOf cX14_isOneOf (Option.some Jvm.ClassFile.FieldType.boolean) 3 D [.ref a0, .int a1, .int a2] h (some (.int v0)) hz := by
  refine MC.of (by decide +kernel) (Nat.le_of_ble_eq_true rfl) rfl ?_
  unfold fX14_isOneOf at hf
  show AW E yX14_isOneOf cX14_isOneOf (Option.some Jvm.ClassFile.FieldType.boolean) 3 D (some (.int v0)) h hz 0 [(0, .ref a0), (1, .int a1), (2, .int a2)] [] h
  refine a_aload_n (q := 0) dX14_isOneOf_0 rfl rfl ?_
  obtain ⟨_, e4, hf⟩ := obd hf
  obtain ⟨v2, h3, e1, hf⟩ := ob2 hf
  refine a_callV (as := []) (np := 0) (ci := 13) (st := []) (sX14_here E (D - 1) (by omega) e1) dX14_isOneOf_1 rfl (by omega) (by decide) cw_X14_247 ⟨wd_1349, ws_65⟩ rfl (ckT_s e4) rfl (Nat.le_of_ble_eq_true rfl) ?_
  refine a_i2l dX14_isOneOf_4 rfl ?_
  refine a_iload_n (q := 1) dX14_isOneOf_5 rfl rfl ?_
  refine a_i2l dX14_isOneOf_6 rfl ?_
  refine a_iload_n (q := 2) dX14_isOneOf_7 rfl rfl ?_
  refine a_i2l dX14_isOneOf_8 rfl ?_
  obtain ⟨v6, h7, e5, hf⟩ := ob2 hf
  refine a_callS (as := [.long (v2.toInt64), .long (a1.toInt64), .long (a2.toInt64)]) (np := 3) (st := []) (sX14_isIn E (D - 1) (by omega) e5) dX14_isOneOf_9 rfl (by omega) (by decide) cw_X14_155 wd_1324 rfl (Nat.le_of_ble_eq_true rfl) ?_
  refine a_if_ne (tgt := 24) dX14_isOneOf_12 (by decide) (fun c => ?_) (fun c => ?_)
  · have hf := ifn c hf
    refine a_aload_n (q := 0) dX14_isOneOf_24 rfl rfl ?_
    refine a_dup dX14_isOneOf_25 rfl ?_
    obtain ⟨v8, e9, hf⟩ := obd hf
    refine o_gfI dX14_isOneOf_26 lk_X14_238 rfl e9 ?_
    refine a_iconst (v := 1) dX14_isOneOf_29 (by decide) ?_
    refine a_iadd dX14_isOneOf_30 ?_
    obtain ⟨h10, e11, hf⟩ := obd hf
    refine o_pfI dX14_isOneOf_31 lk_X14_238 (⟨_, rfl, Or.inl rfl⟩) rfl e11 ?_
    refine a_iconst (v := 1) dX14_isOneOf_34 (by decide) ?_
    obtain ⟨rfl, rfl⟩ := oc2 hf
    exact a_zreturn dX14_isOneOf_35 rfl (by decide)
  · have hf := ifp c hf
    refine a_aload_n (q := 0) dX14_isOneOf_15 rfl rfl ?_
    refine a_aload_n (q := 0) dX14_isOneOf_16 rfl rfl ?_
    obtain ⟨v12, e13, hf⟩ := obd hf
    refine o_gfI dX14_isOneOf_17 lk_X14_238 rfl e13 ?_
    obtain ⟨_, e17, hf⟩ := obd hf
    obtain ⟨v15, h16, e14, hf⟩ := ob2 hf
    refine a_callV (as := [.int v12]) (np := 1) (ci := 13) (st := []) (sX14_fails E (D - 1) (by omega) e14) dX14_isOneOf_20 rfl (by omega) (by decide) cw_X14_251 ⟨wd_1353, ws_66⟩ rfl (ckT_s e17) rfl (Nat.le_of_ble_eq_true rfl) ?_
    obtain ⟨_, e18, hf⟩ := obd hf
    obtain ⟨rfl, rfl⟩ := oc2 hf
    exact a_zreturn dX14_isOneOf_23 rfl (zck_s e18)
def fX14_isFigures_l28 : Nat → Nat → Int32 → hp → Option hp
  | 0, _, _, _ => none
  | n + 1, x0, x1, h =>
    if 5 ≤ x1 then (
      some (h)
    ) else (
      (ckT h x0 13).bind fun _ =>
      bd2 (fX14_here x0 h) fun v2 h3 =>
      bd2 (fX14_isIn (v2.toInt64) 48 57 h3) fun v6 h7 =>
      if v6 = 0 then (
        some (h7)
      ) else (
        (gfI h7 x0 13 14).bind fun v8 =>
        (pfI h7 x0 13 14 (v8 + 1)).bind fun h10 =>
        fX14_isFigures_l28 n x0 (x1 + 1) h10
      )
    )
def fX14_isFigures (a0 : Nat) (h : hp) : Option (Int32 × hp) :=
  (ckT h a0 13).bind fun _ =>
  bd2 (fX14_here a0 h) fun v2 h3 =>
  bd2 (fX14_isIn (v2.toInt64) 48 57 h3) fun v6 h7 =>
  if v6 = 0 then (
    (gfI h7 a0 13 14).bind fun v10 =>
    (ckT h7 a0 13).bind fun _ =>
    bd2 (fX14_fails a0 v10 h7) fun v13 h14 =>
    (zck v13).bind fun _ =>
    some (v13, h14)
  ) else (
    (fX14_isFigures_l28 FU a0 0 h7).bind fun h9 =>
    some (1, h9)
  )
set_option maxHeartbeats 4000000 in
set_option maxRecDepth 100000 in
theorem sX14_isFigures_l28 (E : gE) (D : Nat) (hD : 1 ≤ D) {rz : Option Value} {h0 hz : hp} : ∀ (n : Nat) (x0 : Nat) (x1 : Int32) (h : hp) (hq : hp), fX14_isFigures_l28 n x0 x1 h = some hq → (AW E yX14_isFigures cX14_isFigures (Option.some Jvm.ClassFile.FieldType.boolean) 2 D rz h0 hz 66 [] [] hq) → AW E yX14_isFigures cX14_isFigures (Option.some Jvm.ClassFile.FieldType.boolean) 2 D rz h0 hz 28 [(0, .ref x0), (1, .int x1)] [] h := by
  intro n
  induction n with
  | zero =>
    intro x0 x1 h hq hf _
    rw [fX14_isFigures_l28] at hf
    cases hf
  | succ n ih =>
    intro x0 x1 h hq hf hk0
    rw [fX14_isFigures_l28] at hf
    refine a_iload_n (q := 1) dX14_isFigures_28 rfl rfl ?_
    refine a_iconst (v := 5) dX14_isFigures_29 (by decide) ?_
    refine a_icmp_ge (tgt := 66) dX14_isFigures_30 (by decide) (fun c => ?_) (fun c => ?_)
    · have hf := ifp c hf
      obtain rfl := Option.some.inj hf
      exact AW.sub [] rfl (hk0)
    · have hf := ifn c hf
      refine a_aload_n (q := 0) dX14_isFigures_33 rfl rfl ?_
      obtain ⟨_, e4, hf⟩ := obd hf
      obtain ⟨v2, h3, e1, hf⟩ := ob2 hf
      refine a_callV (as := []) (np := 0) (ci := 13) (st := []) (sX14_here E (D - 1) (by omega) e1) dX14_isFigures_34 rfl (by omega) (by decide) cw_X14_247 ⟨wd_1349, ws_65⟩ rfl (ckT_s e4) rfl (Nat.le_of_ble_eq_true rfl) ?_
      refine a_i2l dX14_isFigures_37 rfl ?_
      refine a_ldc2 (v := 48) dX14_isFigures_38 wd_1385 ?_
      refine a_ldc2 (v := 57) dX14_isFigures_41 wd_1386 ?_
      obtain ⟨v6, h7, e5, hf⟩ := ob2 hf
      refine a_callS (as := [.long (v2.toInt64), .long 48, .long 57]) (np := 3) (st := []) (sX14_isIn E (D - 1) (by omega) e5) dX14_isFigures_44 rfl (by omega) (by decide) cw_X14_155 wd_1324 rfl (Nat.le_of_ble_eq_true rfl) ?_
      refine a_if_eq (tgt := 66) dX14_isFigures_47 (by decide) (fun c => ?_) (fun c => ?_)
      · have hf := ifp c hf
        obtain rfl := Option.some.inj hf
        exact AW.sub [] rfl (hk0)
      · have hf := ifn c hf
        refine a_aload_n (q := 0) dX14_isFigures_50 rfl rfl ?_
        refine a_dup dX14_isFigures_51 rfl ?_
        obtain ⟨v8, e9, hf⟩ := obd hf
        refine o_gfI dX14_isFigures_52 lk_X14_238 rfl e9 ?_
        refine a_iconst (v := 1) dX14_isFigures_55 (by decide) ?_
        refine a_iadd dX14_isFigures_56 ?_
        obtain ⟨h10, e11, hf⟩ := obd hf
        refine o_pfI dX14_isFigures_57 lk_X14_238 (⟨_, rfl, Or.inl rfl⟩) rfl e11 ?_
        refine a_iinc (q := 1) (v := (x1 + 1)) (lv1 := [(1, .int (x1 + 1)), (0, .ref x0)]) dX14_isFigures_60 rfl (by rfl) (by decide) rfl ?_
        refine a_goto (tgt := 28) dX14_isFigures_63 (by decide) ?_
        exact AW.sub [1, 0] rfl (ih _ _ _ _ hf hk0)
set_option maxHeartbeats 4000000 in
set_option maxRecDepth 100000 in
theorem sX14_isFigures (E : gE) (D : Nat) (hD : 1 ≤ D) {a0 : Nat} {h hz : hp} {v0 : Int32} (hf : fX14_isFigures a0 h = some (v0, hz)) : MC E yX14_isFigures cX14_isFigures (Option.some Jvm.ClassFile.FieldType.boolean) 2 D [.ref a0] h (some (.int v0)) hz := by
  refine MC.of (by decide +kernel) (Nat.le_of_ble_eq_true rfl) rfl ?_
  unfold fX14_isFigures at hf
  show AW E yX14_isFigures cX14_isFigures (Option.some Jvm.ClassFile.FieldType.boolean) 2 D (some (.int v0)) h hz 0 [(0, .ref a0)] [] h
  refine a_aload_n (q := 0) dX14_isFigures_0 rfl rfl ?_
  obtain ⟨_, e4, hf⟩ := obd hf
  obtain ⟨v2, h3, e1, hf⟩ := ob2 hf
  refine a_callV (as := []) (np := 0) (ci := 13) (st := []) (sX14_here E (D - 1) (by omega) e1) dX14_isFigures_1 rfl (by omega) (by decide) cw_X14_247 ⟨wd_1349, ws_65⟩ rfl (ckT_s e4) rfl (Nat.le_of_ble_eq_true rfl) ?_
  refine a_i2l dX14_isFigures_4 rfl ?_
  refine a_ldc2 (v := 48) dX14_isFigures_5 wd_1385 ?_
  refine a_ldc2 (v := 57) dX14_isFigures_8 wd_1386 ?_
  obtain ⟨v6, h7, e5, hf⟩ := ob2 hf
  refine a_callS (as := [.long (v2.toInt64), .long 48, .long 57]) (np := 3) (st := []) (sX14_isIn E (D - 1) (by omega) e5) dX14_isFigures_11 rfl (by omega) (by decide) cw_X14_155 wd_1324 rfl (Nat.le_of_ble_eq_true rfl) ?_
  refine a_if_ne (tgt := 26) dX14_isFigures_14 (by decide) (fun c => ?_) (fun c => ?_)
  · have hf := ifn c hf
    refine a_iconst (v := 0) dX14_isFigures_26 (by decide) ?_
    refine a_istore_n (lv1 := [(1, .int 0), (0, .ref a0)]) dX14_isFigures_27 rfl (by decide) rfl ?_
    obtain ⟨h9, e8, hf⟩ := obd hf
    refine AW.sub [1, 0] rfl (sX14_isFigures_l28 E D hD _ _ _ _ _ e8 ?_)
    refine a_iconst (v := 1) dX14_isFigures_66 (by decide) ?_
    obtain ⟨rfl, rfl⟩ := oc2 hf
    exact a_zreturn dX14_isFigures_67 rfl (by decide)
  · have hf := ifp c hf
    refine a_aload_n (q := 0) dX14_isFigures_17 rfl rfl ?_
    refine a_aload_n (q := 0) dX14_isFigures_18 rfl rfl ?_
    obtain ⟨v10, e11, hf⟩ := obd hf
    refine o_gfI dX14_isFigures_19 lk_X14_238 rfl e11 ?_
    obtain ⟨_, e15, hf⟩ := obd hf
    obtain ⟨v13, h14, e12, hf⟩ := ob2 hf
    refine a_callV (as := [.int v10]) (np := 1) (ci := 13) (st := []) (sX14_fails E (D - 1) (by omega) e12) dX14_isFigures_22 rfl (by omega) (by decide) cw_X14_251 ⟨wd_1353, ws_66⟩ rfl (ckT_s e15) rfl (Nat.le_of_ble_eq_true rfl) ?_
    obtain ⟨_, e16, hf⟩ := obd hf
    obtain ⟨rfl, rfl⟩ := oc2 hf
    exact a_zreturn dX14_isFigures_25 rfl (zck_s e16)
def fX14_isTextRead_l15 : Nat → Nat → Int32 → hp → Option hp
  | 0, _, _, _ => none
  | n + 1, x0, x1, h =>
    (gfI h x0 13 14).bind fun v1 =>
    if 16 ≤ (v1 - x1) then (
      some (h)
    ) else (
      (ckT h x0 13).bind fun _ =>
      bd2 (fX14_here x0 h) fun v4 h5 =>
      if v4 < 0 then (
        some (h5)
      ) else (
        (ckT h5 x0 13).bind fun _ =>
        bd2 (fX14_here x0 h5) fun v8 h9 =>
        if v8 = 39 then (
          some (h9)
        ) else (
          (ckT h9 x0 13).bind fun _ =>
          bd2 (fX14_here x0 h9) fun v12 h13 =>
          if v12 = 123 then (
            some (h13)
          ) else (
            (ckT h13 x0 13).bind fun _ =>
            bd2 (fX14_here x0 h13) fun v16 h17 =>
            if v16 = 125 then (
              some (h17)
            ) else (
              (gfI h17 x0 13 14).bind fun v19 =>
              (pfI h17 x0 13 14 (v19 + 1)).bind fun h21 =>
              fX14_isTextRead_l15 n x0 x1 h21
            )
          )
        )
      )
    )
def fX14_isTextRead (a0 : Nat) (h : hp) : Option (Int32 × hp) :=
  (gfI h a0 13 14).bind fun v1 =>
  (pfI h a0 13 14 (v1 + 1)).bind fun h3 =>
  (gfI h3 a0 13 14).bind fun v5 =>
  (fX14_isTextRead_l15 FU a0 v5 h3).bind fun h8 =>
  (ckT h8 a0 13).bind fun _ =>
  bd2 (fX14_isSign a0 39 h8) fun v10 h11 =>
  (zck v10).bind fun _ =>
  some (v10, h11)
set_option maxHeartbeats 4000000 in
set_option maxRecDepth 100000 in
theorem sX14_isTextRead_l15 (E : gE) (D : Nat) (hD : 2 ≤ D) {rz : Option Value} {h0 hz : hp} : ∀ (n : Nat) (x0 : Nat) (x1 : Int32) (h : hp) (hq : hp), fX14_isTextRead_l15 n x0 x1 h = some hq → (AW E yX14_isTextRead cX14_isTextRead (Option.some Jvm.ClassFile.FieldType.boolean) 2 D rz h0 hz 73 [(0, .ref x0)] [] hq) → AW E yX14_isTextRead cX14_isTextRead (Option.some Jvm.ClassFile.FieldType.boolean) 2 D rz h0 hz 15 [(0, .ref x0), (1, .int x1)] [] h := by
  intro n
  induction n with
  | zero =>
    intro x0 x1 h hq hf _
    rw [fX14_isTextRead_l15] at hf
    cases hf
  | succ n ih =>
    intro x0 x1 h hq hf hk0
    rw [fX14_isTextRead_l15] at hf
    refine a_aload_n (q := 0) dX14_isTextRead_15 rfl rfl ?_
    obtain ⟨v1, e2, hf⟩ := obd hf
    refine o_gfI dX14_isTextRead_16 lk_X14_238 rfl e2 ?_
    refine a_iload_n (q := 1) dX14_isTextRead_19 rfl rfl ?_
    refine a_isub dX14_isTextRead_20 ?_
    refine a_bipush (v := 16) dX14_isTextRead_21 (by decide) ?_
    refine a_icmp_ge (tgt := 73) dX14_isTextRead_23 (by decide) (fun c => ?_) (fun c => ?_)
    · have hf := ifp c hf
      obtain rfl := Option.some.inj hf
      exact AW.sub [0] rfl (hk0)
    · have hf := ifn c hf
      refine a_aload_n (q := 0) dX14_isTextRead_26 rfl rfl ?_
      obtain ⟨_, e6, hf⟩ := obd hf
      obtain ⟨v4, h5, e3, hf⟩ := ob2 hf
      refine a_callV (as := []) (np := 0) (ci := 13) (st := []) (sX14_here E (D - 1) (by omega) e3) dX14_isTextRead_27 rfl (by omega) (by decide) cw_X14_247 ⟨wd_1349, ws_65⟩ rfl (ckT_s e6) rfl (Nat.le_of_ble_eq_true rfl) ?_
      refine a_if_lt (tgt := 73) dX14_isTextRead_30 (by decide) (fun c => ?_) (fun c => ?_)
      · have hf := ifp c hf
        obtain rfl := Option.some.inj hf
        exact AW.sub [0] rfl (hk0)
      · have hf := ifn c hf
        refine a_aload_n (q := 0) dX14_isTextRead_33 rfl rfl ?_
        obtain ⟨_, e10, hf⟩ := obd hf
        obtain ⟨v8, h9, e7, hf⟩ := ob2 hf
        refine a_callV (as := []) (np := 0) (ci := 13) (st := []) (sX14_here E (D - 1) (by omega) e7) dX14_isTextRead_34 rfl (by omega) (by decide) cw_X14_247 ⟨wd_1349, ws_65⟩ rfl (ckT_s e10) rfl (Nat.le_of_ble_eq_true rfl) ?_
        refine a_bipush (v := 39) dX14_isTextRead_37 (by decide) ?_
        refine a_icmp_eq (tgt := 73) dX14_isTextRead_39 (by decide) (fun c => ?_) (fun c => ?_)
        · have hf := ifp c hf
          obtain rfl := Option.some.inj hf
          exact AW.sub [0] rfl (hk0)
        · have hf := ifn c hf
          refine a_aload_n (q := 0) dX14_isTextRead_42 rfl rfl ?_
          obtain ⟨_, e14, hf⟩ := obd hf
          obtain ⟨v12, h13, e11, hf⟩ := ob2 hf
          refine a_callV (as := []) (np := 0) (ci := 13) (st := []) (sX14_here E (D - 1) (by omega) e11) dX14_isTextRead_43 rfl (by omega) (by decide) cw_X14_247 ⟨wd_1349, ws_65⟩ rfl (ckT_s e14) rfl (Nat.le_of_ble_eq_true rfl) ?_
          refine a_bipush (v := 123) dX14_isTextRead_46 (by decide) ?_
          refine a_icmp_eq (tgt := 73) dX14_isTextRead_48 (by decide) (fun c => ?_) (fun c => ?_)
          · have hf := ifp c hf
            obtain rfl := Option.some.inj hf
            exact AW.sub [0] rfl (hk0)
          · have hf := ifn c hf
            refine a_aload_n (q := 0) dX14_isTextRead_51 rfl rfl ?_
            obtain ⟨_, e18, hf⟩ := obd hf
            obtain ⟨v16, h17, e15, hf⟩ := ob2 hf
            refine a_callV (as := []) (np := 0) (ci := 13) (st := []) (sX14_here E (D - 1) (by omega) e15) dX14_isTextRead_52 rfl (by omega) (by decide) cw_X14_247 ⟨wd_1349, ws_65⟩ rfl (ckT_s e18) rfl (Nat.le_of_ble_eq_true rfl) ?_
            refine a_bipush (v := 125) dX14_isTextRead_55 (by decide) ?_
            refine a_icmp_eq (tgt := 73) dX14_isTextRead_57 (by decide) (fun c => ?_) (fun c => ?_)
            · have hf := ifp c hf
              obtain rfl := Option.some.inj hf
              exact AW.sub [0] rfl (hk0)
            · have hf := ifn c hf
              refine a_aload_n (q := 0) dX14_isTextRead_60 rfl rfl ?_
              refine a_dup dX14_isTextRead_61 rfl ?_
              obtain ⟨v19, e20, hf⟩ := obd hf
              refine o_gfI dX14_isTextRead_62 lk_X14_238 rfl e20 ?_
              refine a_iconst (v := 1) dX14_isTextRead_65 (by decide) ?_
              refine a_iadd dX14_isTextRead_66 ?_
              obtain ⟨h21, e22, hf⟩ := obd hf
              refine o_pfI dX14_isTextRead_67 lk_X14_238 (⟨_, rfl, Or.inl rfl⟩) rfl e22 ?_
              refine a_goto (tgt := 15) dX14_isTextRead_70 (by decide) ?_
              exact (ih _ _ _ _ hf hk0)
set_option maxHeartbeats 4000000 in
set_option maxRecDepth 100000 in
theorem sX14_isTextRead (E : gE) (D : Nat) (hD : 2 ≤ D) {a0 : Nat} {h hz : hp} {v0 : Int32} (hf : fX14_isTextRead a0 h = some (v0, hz)) : MC E yX14_isTextRead cX14_isTextRead (Option.some Jvm.ClassFile.FieldType.boolean) 2 D [.ref a0] h (some (.int v0)) hz := by
  refine MC.of (by decide +kernel) (Nat.le_of_ble_eq_true rfl) rfl ?_
  unfold fX14_isTextRead at hf
  show AW E yX14_isTextRead cX14_isTextRead (Option.some Jvm.ClassFile.FieldType.boolean) 2 D (some (.int v0)) h hz 0 [(0, .ref a0)] [] h
  refine a_aload_n (q := 0) dX14_isTextRead_0 rfl rfl ?_
  refine a_dup dX14_isTextRead_1 rfl ?_
  obtain ⟨v1, e2, hf⟩ := obd hf
  refine o_gfI dX14_isTextRead_2 lk_X14_238 rfl e2 ?_
  refine a_iconst (v := 1) dX14_isTextRead_5 (by decide) ?_
  refine a_iadd dX14_isTextRead_6 ?_
  obtain ⟨h3, e4, hf⟩ := obd hf
  refine o_pfI dX14_isTextRead_7 lk_X14_238 (⟨_, rfl, Or.inl rfl⟩) rfl e4 ?_
  refine a_aload_n (q := 0) dX14_isTextRead_10 rfl rfl ?_
  obtain ⟨v5, e6, hf⟩ := obd hf
  refine o_gfI dX14_isTextRead_11 lk_X14_238 rfl e6 ?_
  refine a_istore_n (lv1 := [(1, .int v5), (0, .ref a0)]) dX14_isTextRead_14 rfl (by decide) rfl ?_
  obtain ⟨h8, e7, hf⟩ := obd hf
  refine AW.sub [1, 0] rfl (sX14_isTextRead_l15 E D hD _ _ _ _ _ e7 ?_)
  refine a_aload_n (q := 0) dX14_isTextRead_73 rfl rfl ?_
  refine a_bipush (v := 39) dX14_isTextRead_74 (by decide) ?_
  obtain ⟨_, e12, hf⟩ := obd hf
  obtain ⟨v10, h11, e9, hf⟩ := ob2 hf
  refine a_callV (as := [.int 39]) (np := 1) (ci := 13) (st := []) (sX14_isSign E (D - 1) (by omega) e9) dX14_isTextRead_76 rfl (by omega) (by decide) cw_X14_276 ⟨wd_1377, ws_72⟩ rfl (ckT_s e12) rfl (Nat.le_of_ble_eq_true rfl) ?_
  obtain ⟨_, e13, hf⟩ := obd hf
  obtain ⟨rfl, rfl⟩ := oc2 hf
  exact a_zreturn dX14_isTextRead_79 rfl (zck_s e13)
def fX14_lineAt_l5 : Nat → Nat → Int32 → Int32 → Int32 → Int32 → hp → Option (Int32 × hp)
  | 0, _, _, _, _, _, _ => none
  | n + 1, x0, x1, x2, x3, x4, h =>
    if x2 ≤ x4 then (
      some (x3, h)
    ) else (
      (gfR h x0 13 8).bind fun v1 =>
      (alI h v1 ((160 * x1) + x4)).bind fun v3 =>
      jn (fun (s35_0 : Int32) (h35j : hp) => (
        fX14_lineAt_l5 n x0 x1 x2 (x3 + s35_0) (x4 + 1) h35j
        : Option (Int32 × hp))) fun k35 =>
      if v3 = 10 then (
        k35 1 h
      ) else (
        k35 0 h
      )
    )
def fX14_lineAt (a0 : Nat) (a1 : Int32) (a2 : Int32) (h : hp) : Option (Int32 × hp) :=
  bd2 (fX14_lineAt_l5 FU a0 a1 a2 1 0 h) fun v3 h2 =>
  some (v3, h2)
set_option maxHeartbeats 4000000 in
set_option maxRecDepth 100000 in
theorem sX14_lineAt_l5 (E : gE) (D : Nat) (hD : 0 ≤ D) {rz : Option Value} {h0 hz : hp} : ∀ (n : Nat) (x0 : Nat) (x1 : Int32) (x2 : Int32) (x3 : Int32) (x4 : Int32) (h : hp) (m3 : Int32) (hq : hp), fX14_lineAt_l5 n x0 x1 x2 x3 x4 h = some (m3, hq) → (AW E yX14_lineAt cX14_lineAt (Option.some Jvm.ClassFile.FieldType.int) 5 D rz h0 hz 43 [(3, .int m3)] [] hq) → AW E yX14_lineAt cX14_lineAt (Option.some Jvm.ClassFile.FieldType.int) 5 D rz h0 hz 5 [(0, .ref x0), (1, .int x1), (2, .int x2), (3, .int x3), (4, .int x4)] [] h := by
  intro n
  induction n with
  | zero =>
    intro x0 x1 x2 x3 x4 h m3 hq hf _
    rw [fX14_lineAt_l5] at hf
    cases hf
  | succ n ih =>
    intro x0 x1 x2 x3 x4 h m3 hq hf hk0
    rw [fX14_lineAt_l5] at hf
    refine a_iload (q := 4) dX14_lineAt_5 rfl ?_
    refine a_iload_n (q := 2) dX14_lineAt_7 rfl rfl ?_
    refine a_icmp_ge (tgt := 43) dX14_lineAt_8 (by decide) (fun c => ?_) (fun c => ?_)
    · have hf := ifp c hf
      obtain ⟨rfl, rfl⟩ := oc2 hf
      exact AW.sub [3] rfl (hk0)
    · have hf := ifn c hf
      refine a_iload_n (q := 3) dX14_lineAt_11 rfl rfl ?_
      refine a_aload_n (q := 0) dX14_lineAt_12 rfl rfl ?_
      obtain ⟨v1, e2, hf⟩ := obd hf
      refine o_gfR dX14_lineAt_13 lk_X14_34 rfl e2 ?_
      refine a_sipush (v := 160) dX14_lineAt_16 (by decide) ?_
      refine a_iload_n (q := 1) dX14_lineAt_19 rfl rfl ?_
      refine a_imul dX14_lineAt_20 ?_
      refine a_iload (q := 4) dX14_lineAt_21 rfl ?_
      refine a_iadd dX14_lineAt_23 ?_
      obtain ⟨v3, e4, hf⟩ := obd hf
      refine o_alI dX14_lineAt_24 e4 ?_
      refine a_bipush (v := 10) dX14_lineAt_25 (by decide) ?_
      obtain ⟨k35, ek35, hf⟩ := jn_s hf
      have hj35 : ∀ (s35_0 : Int32) (h35j : hp), k35 s35_0 h35j = some (m3, hq) → AW E yX14_lineAt cX14_lineAt (Option.some Jvm.ClassFile.FieldType.int) 5 D rz h0 hz 35 [(0, .ref x0), (1, .int x1), (2, .int x2), (4, .int x4)] [.int s35_0, .int x3] h35j := by
        intro s35_0 h35j hf
        rw [ek35] at hf
        clear ek35
        refine a_iadd dX14_lineAt_35 ?_
        refine a_istore_n (lv1 := [(3, .int (x3 + s35_0)), (0, .ref x0), (1, .int x1), (2, .int x2), (4, .int x4)]) dX14_lineAt_36 rfl (by decide) rfl ?_
        refine a_iinc (q := 4) (v := (x4 + 1)) (lv1 := [(4, .int (x4 + 1)), (3, .int (x3 + s35_0)), (0, .ref x0), (1, .int x1), (2, .int x2)]) dX14_lineAt_37 rfl (by rfl) (by decide) rfl ?_
        refine a_goto (tgt := 5) dX14_lineAt_40 (by decide) ?_
        exact AW.sub [2, 3, 4, 1, 0] rfl (ih _ _ _ _ _ _ _ _ hf hk0)
      clear ek35
      refine a_icmp_ne (tgt := 34) dX14_lineAt_27 (by decide) (fun c => ?_) (fun c => ?_)
      · have hf := ifn c hf
        refine a_iconst (v := 0) dX14_lineAt_34 (by decide) ?_
        exact AW.sub [0, 1, 2, 4] rfl (hj35 _ _ hf)
      · have hf := ifp c hf
        refine a_iconst (v := 1) dX14_lineAt_30 (by decide) ?_
        refine a_goto (tgt := 35) dX14_lineAt_31 (by decide) ?_
        exact AW.sub [0, 1, 2, 4] rfl (hj35 _ _ hf)
set_option maxHeartbeats 4000000 in
set_option maxRecDepth 100000 in
theorem sX14_lineAt (E : gE) (D : Nat) (hD : 0 ≤ D) {a0 : Nat} {a1 : Int32} {a2 : Int32} {h hz : hp} {v0 : Int32} (hf : fX14_lineAt a0 a1 a2 h = some (v0, hz)) : MC E yX14_lineAt cX14_lineAt (Option.some Jvm.ClassFile.FieldType.int) 5 D [.ref a0, .int a1, .int a2] h (some (.int v0)) hz := by
  refine MC.of (by decide +kernel) (Nat.le_of_ble_eq_true rfl) rfl ?_
  unfold fX14_lineAt at hf
  show AW E yX14_lineAt cX14_lineAt (Option.some Jvm.ClassFile.FieldType.int) 5 D (some (.int v0)) h hz 0 [(0, .ref a0), (1, .int a1), (2, .int a2)] [] h
  refine a_iconst (v := 1) dX14_lineAt_0 (by decide) ?_
  refine a_istore_n (lv1 := [(3, .int 1), (0, .ref a0), (1, .int a1), (2, .int a2)]) dX14_lineAt_1 rfl (by decide) rfl ?_
  refine a_iconst (v := 0) dX14_lineAt_2 (by decide) ?_
  refine a_istore (lv1 := [(4, .int 0), (3, .int 1), (0, .ref a0), (1, .int a1), (2, .int a2)]) dX14_lineAt_3 (by decide) rfl ?_
  obtain ⟨v3, h2, e1, hf⟩ := ob2 hf
  refine AW.sub [2, 3, 4, 1, 0] rfl (sX14_lineAt_l5 E D hD _ _ _ _ _ _ _ _ _ e1 ?_)
  refine a_iload_n (q := 0) dX14_lineAt_43 rfl rfl ?_
  obtain ⟨rfl, rfl⟩ := oc2 hf
  exact a_ireturn dX14_lineAt_44 rfl

def fX14_copies_l50 : Nat → Nat → Int32 → Int32 → Int32 → hp → Option hp
  | 0, _, _, _, _, _ => none
  | n + 1, x0, x1, x2, x3, h =>
    if 16 ≤ x3 then (
      some (h)
    ) else (
      (gfR h x0 13 3).bind fun v1 =>
      (gfR h x0 13 3).bind fun v3 =>
      (alI h v3 ((16 * x1) + x3)).bind fun v5 =>
      (asI h v1 ((16 * x2) + x3) v5).bind fun h7 =>
      fX14_copies_l50 n x0 x1 x2 (x3 + 1) h7
    )
def fX14_copies (a0 : Nat) (a1 : Int32) (a2 : Int32) (h : hp) : Option hp :=
  (gfR h a0 13 0).bind fun v1 =>
  (gfR h a0 13 0).bind fun v3 =>
  (alI h v3 a1).bind fun v5 =>
  (asI h v1 a2 v5).bind fun h7 =>
  (gfR h7 a0 13 1).bind fun v9 =>
  (gfR h7 a0 13 1).bind fun v11 =>
  (alI h7 v11 a1).bind fun v13 =>
  (asI h7 v9 a2 v13).bind fun h15 =>
  (gfR h15 a0 13 2).bind fun v17 =>
  (gfR h15 a0 13 2).bind fun v19 =>
  (alI h15 v19 a1).bind fun v21 =>
  (asI h15 v17 a2 v21).bind fun h23 =>
  (gfR h23 a0 13 4).bind fun v25 =>
  (gfR h23 a0 13 4).bind fun v27 =>
  (alF h23 v27 a1).bind fun v29 =>
  (asF h23 v25 a2 v29).bind fun h31 =>
  (fX14_copies_l50 FU a0 a1 a2 0 h31).bind fun h34 =>
  some h34
set_option maxHeartbeats 4000000 in
set_option maxRecDepth 100000 in
theorem sX14_copies_l50 (E : gE) (D : Nat) (hD : 0 ≤ D) {rz : Option Value} {h0 hz : hp} : ∀ (n : Nat) (x0 : Nat) (x1 : Int32) (x2 : Int32) (x3 : Int32) (h : hp) (hq : hp), fX14_copies_l50 n x0 x1 x2 x3 h = some hq → (AW E yX14_copies cX14_copies (Option.none : Option Jvm.ClassFile.FieldType) 4 D rz h0 hz 84 [] [] hq) → AW E yX14_copies cX14_copies (Option.none : Option Jvm.ClassFile.FieldType) 4 D rz h0 hz 50 [(0, .ref x0), (1, .int x1), (2, .int x2), (3, .int x3)] [] h := by
  intro n
  induction n with
  | zero =>
    intro x0 x1 x2 x3 h hq hf _
    rw [fX14_copies_l50] at hf
    cases hf
  | succ n ih =>
    intro x0 x1 x2 x3 h hq hf hk0
    rw [fX14_copies_l50] at hf
    refine a_iload_n (q := 3) dX14_copies_50 rfl rfl ?_
    refine a_bipush (v := 16) dX14_copies_51 (by decide) ?_
    refine a_icmp_ge (tgt := 84) dX14_copies_53 (by decide) (fun c => ?_) (fun c => ?_)
    · have hf := ifp c hf
      obtain rfl := Option.some.inj hf
      exact AW.sub [] rfl (hk0)
    · have hf := ifn c hf
      refine a_aload_n (q := 0) dX14_copies_56 rfl rfl ?_
      obtain ⟨v1, e2, hf⟩ := obd hf
      refine o_gfR dX14_copies_57 lk_X14_21 rfl e2 ?_
      refine a_bipush (v := 16) dX14_copies_60 (by decide) ?_
      refine a_iload_n (q := 2) dX14_copies_62 rfl rfl ?_
      refine a_imul dX14_copies_63 ?_
      refine a_iload_n (q := 3) dX14_copies_64 rfl rfl ?_
      refine a_iadd dX14_copies_65 ?_
      refine a_aload_n (q := 0) dX14_copies_66 rfl rfl ?_
      obtain ⟨v3, e4, hf⟩ := obd hf
      refine o_gfR dX14_copies_67 lk_X14_21 rfl e4 ?_
      refine a_bipush (v := 16) dX14_copies_70 (by decide) ?_
      refine a_iload_n (q := 1) dX14_copies_72 rfl rfl ?_
      refine a_imul dX14_copies_73 ?_
      refine a_iload_n (q := 3) dX14_copies_74 rfl rfl ?_
      refine a_iadd dX14_copies_75 ?_
      obtain ⟨v5, e6, hf⟩ := obd hf
      refine o_alI dX14_copies_76 e6 ?_
      obtain ⟨h7, e8, hf⟩ := obd hf
      refine o_asI dX14_copies_77 e8 ?_
      refine a_iinc (q := 3) (v := (x3 + 1)) (lv1 := [(3, .int (x3 + 1)), (0, .ref x0), (1, .int x1), (2, .int x2)]) dX14_copies_78 rfl (by rfl) (by decide) rfl ?_
      refine a_goto (tgt := 50) dX14_copies_81 (by decide) ?_
      exact AW.sub [1, 2, 3, 0] rfl (ih _ _ _ _ _ _ hf hk0)
set_option maxHeartbeats 4000000 in
set_option maxRecDepth 100000 in
theorem sX14_copies (E : gE) (D : Nat) (hD : 0 ≤ D) {a0 : Nat} {a1 : Int32} {a2 : Int32} {h hz : hp} (hf : fX14_copies a0 a1 a2 h = some hz) : MC E yX14_copies cX14_copies (Option.none : Option Jvm.ClassFile.FieldType) 4 D [.ref a0, .int a1, .int a2] h none hz := by
  refine MC.of (by decide +kernel) (Nat.le_of_ble_eq_true rfl) rfl ?_
  unfold fX14_copies at hf
  show AW E yX14_copies cX14_copies (Option.none : Option Jvm.ClassFile.FieldType) 4 D none h hz 0 [(0, .ref a0), (1, .int a1), (2, .int a2)] [] h
  refine a_aload_n (q := 0) dX14_copies_0 rfl rfl ?_
  obtain ⟨v1, e2, hf⟩ := obd hf
  refine o_gfR dX14_copies_1 lk_X14_11 rfl e2 ?_
  refine a_iload_n (q := 2) dX14_copies_4 rfl rfl ?_
  refine a_aload_n (q := 0) dX14_copies_5 rfl rfl ?_
  obtain ⟨v3, e4, hf⟩ := obd hf
  refine o_gfR dX14_copies_6 lk_X14_11 rfl e4 ?_
  refine a_iload_n (q := 1) dX14_copies_9 rfl rfl ?_
  obtain ⟨v5, e6, hf⟩ := obd hf
  refine o_alI dX14_copies_10 e6 ?_
  obtain ⟨h7, e8, hf⟩ := obd hf
  refine o_asI dX14_copies_11 e8 ?_
  refine a_aload_n (q := 0) dX14_copies_12 rfl rfl ?_
  obtain ⟨v9, e10, hf⟩ := obd hf
  refine o_gfR dX14_copies_13 lk_X14_15 rfl e10 ?_
  refine a_iload_n (q := 2) dX14_copies_16 rfl rfl ?_
  refine a_aload_n (q := 0) dX14_copies_17 rfl rfl ?_
  obtain ⟨v11, e12, hf⟩ := obd hf
  refine o_gfR dX14_copies_18 lk_X14_15 rfl e12 ?_
  refine a_iload_n (q := 1) dX14_copies_21 rfl rfl ?_
  obtain ⟨v13, e14, hf⟩ := obd hf
  refine o_alI dX14_copies_22 e14 ?_
  obtain ⟨h15, e16, hf⟩ := obd hf
  refine o_asI dX14_copies_23 e16 ?_
  refine a_aload_n (q := 0) dX14_copies_24 rfl rfl ?_
  obtain ⟨v17, e18, hf⟩ := obd hf
  refine o_gfR dX14_copies_25 lk_X14_18 rfl e18 ?_
  refine a_iload_n (q := 2) dX14_copies_28 rfl rfl ?_
  refine a_aload_n (q := 0) dX14_copies_29 rfl rfl ?_
  obtain ⟨v19, e20, hf⟩ := obd hf
  refine o_gfR dX14_copies_30 lk_X14_18 rfl e20 ?_
  refine a_iload_n (q := 1) dX14_copies_33 rfl rfl ?_
  obtain ⟨v21, e22, hf⟩ := obd hf
  refine o_alI dX14_copies_34 e22 ?_
  obtain ⟨h23, e24, hf⟩ := obd hf
  refine o_asI dX14_copies_35 e24 ?_
  refine a_aload_n (q := 0) dX14_copies_36 rfl rfl ?_
  obtain ⟨v25, e26, hf⟩ := obd hf
  refine o_gfR dX14_copies_37 lk_X14_24 rfl e26 ?_
  refine a_iload_n (q := 2) dX14_copies_40 rfl rfl ?_
  refine a_aload_n (q := 0) dX14_copies_41 rfl rfl ?_
  obtain ⟨v27, e28, hf⟩ := obd hf
  refine o_gfR dX14_copies_42 lk_X14_24 rfl e28 ?_
  refine a_iload_n (q := 1) dX14_copies_45 rfl rfl ?_
  obtain ⟨v29, e30, hf⟩ := obd hf
  refine o_alF dX14_copies_46 e30 ?_
  obtain ⟨h31, e32, hf⟩ := obd hf
  refine o_asF dX14_copies_47 e32 ?_
  refine a_iconst (v := 0) dX14_copies_48 (by decide) ?_
  refine a_istore_n (lv1 := [(3, .int 0), (0, .ref a0), (1, .int a1), (2, .int a2)]) dX14_copies_49 rfl (by decide) rfl ?_
  obtain ⟨h34, e33, hf⟩ := obd hf
  refine AW.sub [1, 2, 3, 0] rfl (sX14_copies_l50 E D hD _ _ _ _ _ _ _ e33 ?_)
  obtain rfl := Option.some.inj hf
  exact a_return dX14_copies_84 rfl
def fX14_isInt (a0 : Nat) (a1 : Int32) (a2 : Int32) (h : hp) : Option hp :=
  (gfR h a0 13 0).bind fun v1 =>
  (asI h v1 a1 1).bind fun h3 =>
  (gfR h3 a0 13 1).bind fun v5 =>
  (asI h3 v5 a1 a2).bind fun h7 =>
  some h7
set_option maxHeartbeats 4000000 in
set_option maxRecDepth 100000 in
theorem sX14_isInt (E : gE) (D : Nat) (hD : 0 ≤ D) {a0 : Nat} {a1 : Int32} {a2 : Int32} {h hz : hp} (hf : fX14_isInt a0 a1 a2 h = some hz) : MC E yX14_isInt cX14_isInt (Option.none : Option Jvm.ClassFile.FieldType) 3 D [.ref a0, .int a1, .int a2] h none hz := by
  refine MC.of (by decide +kernel) (Nat.le_of_ble_eq_true rfl) rfl ?_
  unfold fX14_isInt at hf
  show AW E yX14_isInt cX14_isInt (Option.none : Option Jvm.ClassFile.FieldType) 3 D none h hz 0 [(0, .ref a0), (1, .int a1), (2, .int a2)] [] h
  refine a_aload_n (q := 0) dX14_isInt_0 rfl rfl ?_
  obtain ⟨v1, e2, hf⟩ := obd hf
  refine o_gfR dX14_isInt_1 lk_X14_11 rfl e2 ?_
  refine a_iload_n (q := 1) dX14_isInt_4 rfl rfl ?_
  refine a_iconst (v := 1) dX14_isInt_5 (by decide) ?_
  obtain ⟨h3, e4, hf⟩ := obd hf
  refine o_asI dX14_isInt_6 e4 ?_
  refine a_aload_n (q := 0) dX14_isInt_7 rfl rfl ?_
  obtain ⟨v5, e6, hf⟩ := obd hf
  refine o_gfR dX14_isInt_8 lk_X14_15 rfl e6 ?_
  refine a_iload_n (q := 1) dX14_isInt_11 rfl rfl ?_
  refine a_iload_n (q := 2) dX14_isInt_12 rfl rfl ?_
  obtain ⟨h7, e8, hf⟩ := obd hf
  refine o_asI dX14_isInt_13 e8 ?_
  obtain rfl := Option.some.inj hf
  exact a_return dX14_isInt_14 rfl
def fX14_isReal (a0 : Nat) (a1 : Int32) (a2 : UInt32) (h : hp) : Option hp :=
  (gfR h a0 13 0).bind fun v1 =>
  (asI h v1 a1 2).bind fun h3 =>
  (gfR h3 a0 13 4).bind fun v5 =>
  bd2 (fX14_limited a2 h3) fun v8 h9 =>
  (asF h9 v5 a1 v8).bind fun h10 =>
  some h10
set_option maxHeartbeats 4000000 in
set_option maxRecDepth 100000 in
theorem sX14_isReal (E : gE) (D : Nat) (hD : 1 ≤ D) {a0 : Nat} {a1 : Int32} {a2 : UInt32} {h hz : hp} (hf : fX14_isReal a0 a1 a2 h = some hz) : MC E yX14_isReal cX14_isReal (Option.none : Option Jvm.ClassFile.FieldType) 3 D [.ref a0, .int a1, .float a2] h none hz := by
  refine MC.of (by decide +kernel) (Nat.le_of_ble_eq_true rfl) rfl ?_
  unfold fX14_isReal at hf
  show AW E yX14_isReal cX14_isReal (Option.none : Option Jvm.ClassFile.FieldType) 3 D none h hz 0 [(0, .ref a0), (1, .int a1), (2, .float a2)] [] h
  refine a_aload_n (q := 0) dX14_isReal_0 rfl rfl ?_
  obtain ⟨v1, e2, hf⟩ := obd hf
  refine o_gfR dX14_isReal_1 lk_X14_11 rfl e2 ?_
  refine a_iload_n (q := 1) dX14_isReal_4 rfl rfl ?_
  refine a_iconst (v := 2) dX14_isReal_5 (by decide) ?_
  obtain ⟨h3, e4, hf⟩ := obd hf
  refine o_asI dX14_isReal_6 e4 ?_
  refine a_aload_n (q := 0) dX14_isReal_7 rfl rfl ?_
  obtain ⟨v5, e6, hf⟩ := obd hf
  refine o_gfR dX14_isReal_8 lk_X14_24 rfl e6 ?_
  refine a_iload_n (q := 1) dX14_isReal_11 rfl rfl ?_
  refine a_fload_n (q := 2) dX14_isReal_12 rfl rfl ?_
  obtain ⟨v8, h9, e7, hf⟩ := ob2 hf
  refine a_callS (as := [.float a2]) (np := 1) (st := [.int a1, .ref v5]) (sX14_limited E (D - 1) (by omega) e7) dX14_isReal_13 rfl (by omega) (by decide) cw_X14_136 wd_1546 rfl (Nat.le_of_ble_eq_true rfl) ?_
  obtain ⟨h10, e11, hf⟩ := obd hf
  refine o_asF dX14_isReal_16 e11 ?_
  obtain rfl := Option.some.inj hf
  exact a_return dX14_isReal_17 rfl
def fX14_isTrue (a0 : Nat) (a1 : Int32) (h : hp) : Option (Int32 × hp) :=
  (gfR h a0 13 0).bind fun v1 =>
  (alI h v1 a1).bind fun v3 =>
  if v3 = 0 then (
    some (0, h)
  ) else (
  if v3 = 1 then (
    (gfR h a0 13 1).bind fun v5 =>
    (alI h v5 a1).bind fun v7 =>
    if v7 = 0 then (
      some (0, h)
    ) else (
      some (1, h)
    )
  ) else (
  if v3 = 2 then (
    (gfR h a0 13 4).bind fun v9 =>
    (alF h v9 a1).bind fun v11 =>
    if (Op.cmpValue (FP.fcmp v11 FP.fconst0) .l) = 0 then (
      some (0, h)
    ) else (
      some (1, h)
    )
  ) else (
    (gfR h a0 13 2).bind fun v13 =>
    (alI h v13 a1).bind fun v15 =>
    if v15 ≤ 0 then (
      some (0, h)
    ) else (
      some (1, h)
    )
  )))
set_option maxHeartbeats 4000000 in
set_option maxRecDepth 100000 in
theorem sX14_isTrue (E : gE) (D : Nat) (hD : 0 ≤ D) {a0 : Nat} {a1 : Int32} {h hz : hp} {v0 : Int32} (hf : fX14_isTrue a0 a1 h = some (v0, hz)) : MC E yX14_isTrue cX14_isTrue (Option.some Jvm.ClassFile.FieldType.boolean) 2 D [.ref a0, .int a1] h (some (.int v0)) hz := by
  refine MC.of (by decide +kernel) (Nat.le_of_ble_eq_true rfl) rfl ?_
  unfold fX14_isTrue at hf
  show AW E yX14_isTrue cX14_isTrue (Option.some Jvm.ClassFile.FieldType.boolean) 2 D (some (.int v0)) h hz 0 [(0, .ref a0), (1, .int a1)] [] h
  refine a_aload_n (q := 0) dX14_isTrue_0 rfl rfl ?_
  obtain ⟨v1, e2, hf⟩ := obd hf
  refine o_gfR dX14_isTrue_1 lk_X14_11 rfl e2 ?_
  refine a_iload_n (q := 1) dX14_isTrue_4 rfl rfl ?_
  obtain ⟨v3, e4, hf⟩ := obd hf
  refine o_alI dX14_isTrue_5 e4 ?_
  by_cases c6_0 : v3 = 0
  · have hf := ifp c6_0 hf
    refine a_tblIn (k := 0) (off := 26) (tgt := 32) dX14_isTrue_6 c6_0 (by decide) (by decide) rfl (by decide) ?_
    refine a_iconst (v := 0) dX14_isTrue_32 (by decide) ?_
    obtain ⟨rfl, rfl⟩ := oc2 hf
    exact a_zreturn dX14_isTrue_33 rfl (by decide)
  have hf := ifn c6_0 hf
  by_cases c6_1 : v3 = 1
  · have hf := ifp c6_1 hf
    refine a_tblIn (k := 1) (off := 28) (tgt := 34) dX14_isTrue_6 c6_1 (by decide) (by decide) rfl (by decide) ?_
    refine a_aload_n (q := 0) dX14_isTrue_34 rfl rfl ?_
    obtain ⟨v5, e6, hf⟩ := obd hf
    refine o_gfR dX14_isTrue_35 lk_X14_15 rfl e6 ?_
    refine a_iload_n (q := 1) dX14_isTrue_38 rfl rfl ?_
    obtain ⟨v7, e8, hf⟩ := obd hf
    refine o_alI dX14_isTrue_39 e8 ?_
    refine a_if_eq (tgt := 47) dX14_isTrue_40 (by decide) (fun c => ?_) (fun c => ?_)
    · have hf := ifp c hf
      refine a_iconst (v := 0) dX14_isTrue_47 (by decide) ?_
      obtain ⟨rfl, rfl⟩ := oc2 hf
      exact a_zreturn dX14_isTrue_48 rfl (by decide)
    · have hf := ifn c hf
      refine a_iconst (v := 1) dX14_isTrue_43 (by decide) ?_
      refine a_goto (tgt := 48) dX14_isTrue_44 (by decide) ?_
      obtain ⟨rfl, rfl⟩ := oc2 hf
      exact a_zreturn dX14_isTrue_48 rfl (by decide)
  have hf := ifn c6_1 hf
  by_cases c6_2 : v3 = 2
  · have hf := ifp c6_2 hf
    refine a_tblIn (k := 2) (off := 43) (tgt := 49) dX14_isTrue_6 c6_2 (by decide) (by decide) rfl (by decide) ?_
    refine a_aload_n (q := 0) dX14_isTrue_49 rfl rfl ?_
    obtain ⟨v9, e10, hf⟩ := obd hf
    refine o_gfR dX14_isTrue_50 lk_X14_24 rfl e10 ?_
    refine a_iload_n (q := 1) dX14_isTrue_53 rfl rfl ?_
    obtain ⟨v11, e12, hf⟩ := obd hf
    refine o_alF dX14_isTrue_54 e12 ?_
    refine a_fconst0 dX14_isTrue_55 ?_
    refine a_fcmp dX14_isTrue_56 ?_
    refine a_if_eq (tgt := 64) dX14_isTrue_57 (by decide) (fun c => ?_) (fun c => ?_)
    · have hf := ifp c hf
      refine a_iconst (v := 0) dX14_isTrue_64 (by decide) ?_
      obtain ⟨rfl, rfl⟩ := oc2 hf
      exact a_zreturn dX14_isTrue_65 rfl (by decide)
    · have hf := ifn c hf
      refine a_iconst (v := 1) dX14_isTrue_60 (by decide) ?_
      refine a_goto (tgt := 65) dX14_isTrue_61 (by decide) ?_
      obtain ⟨rfl, rfl⟩ := oc2 hf
      exact a_zreturn dX14_isTrue_65 rfl (by decide)
  have hf := ifn c6_2 hf
  have t6_0 := lv_neT (a := 0) c6_0 rfl
  have t6_1 := lv_neT (a := 1) c6_1 rfl
  have t6_2 := lv_neT (a := 2) c6_2 rfl
  refine a_tblOut (tgt := 66) dX14_isTrue_6 (by omega) (by decide) ?_
  refine a_aload_n (q := 0) dX14_isTrue_66 rfl rfl ?_
  obtain ⟨v13, e14, hf⟩ := obd hf
  refine o_gfR dX14_isTrue_67 lk_X14_18 rfl e14 ?_
  refine a_iload_n (q := 1) dX14_isTrue_70 rfl rfl ?_
  obtain ⟨v15, e16, hf⟩ := obd hf
  refine o_alI dX14_isTrue_71 e16 ?_
  refine a_if_le (tgt := 79) dX14_isTrue_72 (by decide) (fun c => ?_) (fun c => ?_)
  · have hf := ifp c hf
    refine a_iconst (v := 0) dX14_isTrue_79 (by decide) ?_
    obtain ⟨rfl, rfl⟩ := oc2 hf
    exact a_zreturn dX14_isTrue_80 rfl (by decide)
  · have hf := ifn c hf
    refine a_iconst (v := 1) dX14_isTrue_75 (by decide) ?_
    refine a_goto (tgt := 80) dX14_isTrue_76 (by decide) ?_
    obtain ⟨rfl, rfl⟩ := oc2 hf
    exact a_zreturn dX14_isTrue_80 rfl (by decide)
def fX14_shows (a0 : Nat) (a1 : Int32) (h : hp) : Option hp :=
  (gfR h a0 13 5).bind fun v1 =>
  (gfI h a0 13 6).bind fun v3 =>
  (asI h v1 v3 a1).bind fun h5 =>
  (gfI h5 a0 13 6).bind fun v7 =>
  (pfI h5 a0 13 6 (v7 + 1)).bind fun h9 =>
  some h9
set_option maxHeartbeats 4000000 in
set_option maxRecDepth 100000 in
theorem sX14_shows (E : gE) (D : Nat) (hD : 0 ≤ D) {a0 : Nat} {a1 : Int32} {h hz : hp} (hf : fX14_shows a0 a1 h = some hz) : MC E yX14_shows cX14_shows (Option.none : Option Jvm.ClassFile.FieldType) 2 D [.ref a0, .int a1] h none hz := by
  refine MC.of (by decide +kernel) (Nat.le_of_ble_eq_true rfl) rfl ?_
  unfold fX14_shows at hf
  show AW E yX14_shows cX14_shows (Option.none : Option Jvm.ClassFile.FieldType) 2 D none h hz 0 [(0, .ref a0), (1, .int a1)] [] h
  refine a_aload_n (q := 0) dX14_shows_0 rfl rfl ?_
  obtain ⟨v1, e2, hf⟩ := obd hf
  refine o_gfR dX14_shows_1 lk_X14_28 rfl e2 ?_
  refine a_aload_n (q := 0) dX14_shows_4 rfl rfl ?_
  obtain ⟨v3, e4, hf⟩ := obd hf
  refine o_gfI dX14_shows_5 lk_X14_140 rfl e4 ?_
  refine a_iload_n (q := 1) dX14_shows_8 rfl rfl ?_
  obtain ⟨h5, e6, hf⟩ := obd hf
  refine o_asI dX14_shows_9 e6 ?_
  refine a_aload_n (q := 0) dX14_shows_10 rfl rfl ?_
  refine a_dup dX14_shows_11 rfl ?_
  obtain ⟨v7, e8, hf⟩ := obd hf
  refine o_gfI dX14_shows_12 lk_X14_140 rfl e8 ?_
  refine a_iconst (v := 1) dX14_shows_15 (by decide) ?_
  refine a_iadd dX14_shows_16 ?_
  obtain ⟨h9, e10, hf⟩ := obd hf
  refine o_pfI dX14_shows_17 lk_X14_140 (⟨_, rfl, Or.inl rfl⟩) rfl e10 ?_
  obtain rfl := Option.some.inj hf
  exact a_return dX14_shows_20 rfl
def fX14_showsInt_l23 : Nat → Nat → Int32 → Int32 → hp → Option (Int32 × hp)
  | 0, _, _, _, _ => none
  | n + 1, x0, x2, x3, h =>
    (dvI x2 x3).bind fun v1 =>
    if v1 ≤ 9 then (
      some (x3, h)
    ) else (
      fX14_showsInt_l23 n x0 x2 (x3 * 10) h
    )
def fX14_showsInt_l39 : Nat → Nat → Int32 → Int32 → hp → Option hp
  | 0, _, _, _, _ => none
  | n + 1, x0, x2, x3, h =>
    if x3 ≤ 0 then (
      some (h)
    ) else (
      (dvI x2 x3).bind fun v1 =>
      (rmI v1 10).bind fun v3 =>
      (ckT h x0 13).bind fun _ =>
      (fX14_shows x0 (48 + v3) h).bind fun h6 =>
      (dvI x3 10).bind fun v8 =>
      fX14_showsInt_l39 n x0 x2 v8 h6
    )
def fX14_showsInt (a0 : Nat) (a1 : Int32) (h : hp) : Option hp :=
  jn (fun (h10j : hp) => (
    jn (fun (s20_0 : Int32) (h20j : hp) => (
      bd2 (fX14_showsInt_l23 FU a0 s20_0 1 h20j) fun v3 h2 =>
      (fX14_showsInt_l39 FU a0 s20_0 v3 h2).bind fun h5 =>
      some h5
      : Option hp)) fun k20 =>
    if 0 ≤ a1 then (
      k20 a1 h10j
    ) else (
      k20 (-a1) h10j
    )
    : Option hp)) fun k10 =>
  if 0 ≤ a1 then (
    k10 h
  ) else (
    (ckT h a0 13).bind fun _ =>
    (fX14_shows a0 45 h).bind fun h7 =>
    k10 h7
  )
set_option maxHeartbeats 4000000 in
set_option maxRecDepth 100000 in
theorem sX14_showsInt_l23 (E : gE) (D : Nat) (hD : 1 ≤ D) {rz : Option Value} {h0 hz : hp} : ∀ (n : Nat) (x0 : Nat) (x2 : Int32) (x3 : Int32) (h : hp) (m3 : Int32) (hq : hp), fX14_showsInt_l23 n x0 x2 x3 h = some (m3, hq) → (AW E yX14_showsInt cX14_showsInt (Option.none : Option Jvm.ClassFile.FieldType) 4 D rz h0 hz 39 [(0, .ref x0), (2, .int x2), (3, .int m3)] [] hq) → AW E yX14_showsInt cX14_showsInt (Option.none : Option Jvm.ClassFile.FieldType) 4 D rz h0 hz 23 [(0, .ref x0), (2, .int x2), (3, .int x3)] [] h := by
  intro n
  induction n with
  | zero =>
    intro x0 x2 x3 h m3 hq hf _
    rw [fX14_showsInt_l23] at hf
    cases hf
  | succ n ih =>
    intro x0 x2 x3 h m3 hq hf hk0
    rw [fX14_showsInt_l23] at hf
    refine a_iload_n (q := 1) dX14_showsInt_23 rfl rfl ?_
    refine a_iload_n (q := 2) dX14_showsInt_24 rfl rfl ?_
    obtain ⟨v1, e2, hf⟩ := obd hf
    refine o_dvI dX14_showsInt_25 e2 ?_
    refine a_bipush (v := 9) dX14_showsInt_26 (by decide) ?_
    refine a_icmp_le (tgt := 39) dX14_showsInt_28 (by decide) (fun c => ?_) (fun c => ?_)
    · have hf := ifp c hf
      obtain ⟨rfl, rfl⟩ := oc2 hf
      exact hk0
    · have hf := ifn c hf
      refine a_iload_n (q := 2) dX14_showsInt_31 rfl rfl ?_
      refine a_bipush (v := 10) dX14_showsInt_32 (by decide) ?_
      refine a_imul dX14_showsInt_34 ?_
      refine a_istore_n (lv1 := [(3, .int (x3 * 10)), (0, .ref x0), (2, .int x2)]) dX14_showsInt_35 rfl (by decide) rfl ?_
      refine a_goto (tgt := 23) dX14_showsInt_36 (by decide) ?_
      exact AW.sub [1, 2, 0] rfl (ih _ _ _ _ _ _ hf hk0)
set_option maxHeartbeats 4000000 in
set_option maxRecDepth 100000 in
theorem sX14_showsInt_l39 (E : gE) (D : Nat) (hD : 1 ≤ D) {rz : Option Value} {h0 hz : hp} : ∀ (n : Nat) (x0 : Nat) (x2 : Int32) (x3 : Int32) (h : hp) (hq : hp), fX14_showsInt_l39 n x0 x2 x3 h = some hq → (AW E yX14_showsInt cX14_showsInt (Option.none : Option Jvm.ClassFile.FieldType) 4 D rz h0 hz 64 [] [] hq) → AW E yX14_showsInt cX14_showsInt (Option.none : Option Jvm.ClassFile.FieldType) 4 D rz h0 hz 39 [(0, .ref x0), (2, .int x2), (3, .int x3)] [] h := by
  intro n
  induction n with
  | zero =>
    intro x0 x2 x3 h hq hf _
    rw [fX14_showsInt_l39] at hf
    cases hf
  | succ n ih =>
    intro x0 x2 x3 h hq hf hk0
    rw [fX14_showsInt_l39] at hf
    refine a_iload_n (q := 2) dX14_showsInt_39 rfl rfl ?_
    refine a_if_le (tgt := 64) dX14_showsInt_40 (by decide) (fun c => ?_) (fun c => ?_)
    · have hf := ifp c hf
      obtain rfl := Option.some.inj hf
      exact AW.sub [] rfl (hk0)
    · have hf := ifn c hf
      refine a_aload_n (q := 0) dX14_showsInt_43 rfl rfl ?_
      refine a_bipush (v := 48) dX14_showsInt_44 (by decide) ?_
      refine a_iload_n (q := 1) dX14_showsInt_46 rfl rfl ?_
      refine a_iload_n (q := 2) dX14_showsInt_47 rfl rfl ?_
      obtain ⟨v1, e2, hf⟩ := obd hf
      refine o_dvI dX14_showsInt_48 e2 ?_
      refine a_bipush (v := 10) dX14_showsInt_49 (by decide) ?_
      obtain ⟨v3, e4, hf⟩ := obd hf
      refine o_rmI dX14_showsInt_51 e4 ?_
      refine a_iadd dX14_showsInt_52 ?_
      obtain ⟨_, e7, hf⟩ := obd hf
      obtain ⟨h6, e5, hf⟩ := obd hf
      refine a_callV (as := [.int (48 + v3)]) (np := 1) (ci := 13) (st := []) (sX14_shows E (D - 1) (by omega) e5) dX14_showsInt_53 rfl (by omega) (by decide) cw_X14_143 ⟨wd_1670, ws_130⟩ rfl (ckT_s e7) rfl (Nat.le_of_ble_eq_true rfl) ?_
      refine a_iload_n (q := 2) dX14_showsInt_56 rfl rfl ?_
      refine a_bipush (v := 10) dX14_showsInt_57 (by decide) ?_
      obtain ⟨v8, e9, hf⟩ := obd hf
      refine o_dvI dX14_showsInt_59 e9 ?_
      refine a_istore_n (lv1 := [(3, .int v8), (0, .ref x0), (2, .int x2)]) dX14_showsInt_60 rfl (by decide) rfl ?_
      refine a_goto (tgt := 39) dX14_showsInt_61 (by decide) ?_
      exact AW.sub [1, 2, 0] rfl (ih _ _ _ _ _ hf hk0)
set_option maxHeartbeats 4000000 in
set_option maxRecDepth 100000 in
theorem sX14_showsInt (E : gE) (D : Nat) (hD : 1 ≤ D) {a0 : Nat} {a1 : Int32} {h hz : hp} (hf : fX14_showsInt a0 a1 h = some hz) : MC E yX14_showsInt cX14_showsInt (Option.none : Option Jvm.ClassFile.FieldType) 4 D [.ref a0, .int a1] h none hz := by
  refine MC.of (by decide +kernel) (Nat.le_of_ble_eq_true rfl) rfl ?_
  unfold fX14_showsInt at hf
  show AW E yX14_showsInt cX14_showsInt (Option.none : Option Jvm.ClassFile.FieldType) 4 D none h hz 0 [(0, .ref a0), (1, .int a1)] [] h
  refine a_iload_n (q := 1) dX14_showsInt_0 rfl rfl ?_
  obtain ⟨k10, ek10, hf⟩ := jn_s hf
  have hj10 : ∀ (h10j : hp), k10 h10j = some hz → AW E yX14_showsInt cX14_showsInt (Option.none : Option Jvm.ClassFile.FieldType) 4 D none h hz 10 [(0, .ref a0), (1, .int a1)] [] h10j := by
    intro h10j hf
    rw [ek10] at hf
    clear ek10
    refine a_iload_n (q := 1) dX14_showsInt_10 rfl rfl ?_
    obtain ⟨k20, ek20, hf⟩ := jn_s hf
    have hj20 : ∀ (s20_0 : Int32) (h20j : hp), k20 s20_0 h20j = some hz → AW E yX14_showsInt cX14_showsInt (Option.none : Option Jvm.ClassFile.FieldType) 4 D none h hz 20 [(0, .ref a0)] [.int s20_0] h20j := by
      intro s20_0 h20j hf
      rw [ek20] at hf
      clear ek20
      refine a_istore_n (lv1 := [(2, .int s20_0), (0, .ref a0)]) dX14_showsInt_20 rfl (by decide) rfl ?_
      refine a_iconst (v := 1) dX14_showsInt_21 (by decide) ?_
      refine a_istore_n (lv1 := [(3, .int 1), (2, .int s20_0), (0, .ref a0)]) dX14_showsInt_22 rfl (by decide) rfl ?_
      obtain ⟨v3, h2, e1, hf⟩ := ob2 hf
      refine AW.sub [2, 1, 0] rfl (sX14_showsInt_l23 E D hD _ _ _ _ _ _ _ e1 ?_)
      obtain ⟨h5, e4, hf⟩ := obd hf
      refine sX14_showsInt_l39 E D hD _ _ _ _ _ _ e4 ?_
      obtain rfl := Option.some.inj hf
      exact a_return dX14_showsInt_64 rfl
    clear ek20
    refine a_if_ge (tgt := 19) dX14_showsInt_11 (by decide) (fun c => ?_) (fun c => ?_)
    · have hf := ifp c hf
      refine a_iload_n (q := 1) dX14_showsInt_19 rfl rfl ?_
      exact AW.sub [0] rfl (hj20 _ _ hf)
    · have hf := ifn c hf
      refine a_iload_n (q := 1) dX14_showsInt_14 rfl rfl ?_
      refine a_ineg dX14_showsInt_15 ?_
      refine a_goto (tgt := 20) dX14_showsInt_16 (by decide) ?_
      exact AW.sub [0] rfl (hj20 _ _ hf)
  clear ek10
  refine a_if_ge (tgt := 10) dX14_showsInt_1 (by decide) (fun c => ?_) (fun c => ?_)
  · have hf := ifp c hf
    exact hj10 _ hf
  · have hf := ifn c hf
    refine a_aload_n (q := 0) dX14_showsInt_4 rfl rfl ?_
    refine a_bipush (v := 45) dX14_showsInt_5 (by decide) ?_
    obtain ⟨_, e8, hf⟩ := obd hf
    obtain ⟨h7, e6, hf⟩ := obd hf
    refine a_callV (as := [.int 45]) (np := 1) (ci := 13) (st := []) (sX14_shows E (D - 1) (by omega) e6) dX14_showsInt_7 rfl (by omega) (by decide) cw_X14_143 ⟨wd_1670, ws_130⟩ rfl (ckT_s e8) rfl (Nat.le_of_ble_eq_true rfl) ?_
    exact hj10 _ hf
def fX14_showsReal (a0 : Nat) (a1 : UInt32) (h : hp) : Option hp :=
  jn (fun (h12j : hp) => (
    jn (fun (s24_0 : UInt32) (h24j : hp) => (
      (fnn (FP.fsub s24_0 (FP.i2f (FP.f2i s24_0)))).bind fun v1 =>
      (fnn (FP.fmul v1 1148846080)).bind fun v3 =>
      (ckT h24j a0 13).bind fun _ =>
      (fX14_showsInt a0 (FP.f2i s24_0) h24j).bind fun h6 =>
      (ckT h6 a0 13).bind fun _ =>
      (fX14_shows a0 46 h6).bind fun h9 =>
      (dvI (FP.f2i v3) 100).bind fun v11 =>
      (rmI v11 10).bind fun v13 =>
      (ckT h9 a0 13).bind fun _ =>
      (fX14_shows a0 (48 + v13) h9).bind fun h16 =>
      (dvI (FP.f2i v3) 10).bind fun v18 =>
      (rmI v18 10).bind fun v20 =>
      (ckT h16 a0 13).bind fun _ =>
      (fX14_shows a0 (48 + v20) h16).bind fun h23 =>
      (rmI (FP.f2i v3) 10).bind fun v25 =>
      (ckT h23 a0 13).bind fun _ =>
      (fX14_shows a0 (48 + v25) h23).bind fun h28 =>
      some h28
      : Option hp)) fun k24 =>
    if 0 ≤ (Op.cmpValue (FP.fcmp a1 FP.fconst0) .g) then (
      k24 a1 h12j
    ) else (
      k24 (FP.fneg a1) h12j
    )
    : Option hp)) fun k12 =>
  if 0 ≤ (Op.cmpValue (FP.fcmp a1 FP.fconst0) .g) then (
    k12 h
  ) else (
    (ckT h a0 13).bind fun _ =>
    (fX14_shows a0 45 h).bind fun h31 =>
    k12 h31
  )
set_option maxHeartbeats 4000000 in
set_option maxRecDepth 100000 in
theorem sX14_showsReal (E : gE) (D : Nat) (hD : 2 ≤ D) {a0 : Nat} {a1 : UInt32} {h hz : hp} (hf : fX14_showsReal a0 a1 h = some hz) : MC E yX14_showsReal cX14_showsReal (Option.none : Option Jvm.ClassFile.FieldType) 5 D [.ref a0, .float a1] h none hz := by
  refine MC.of (by decide +kernel) (Nat.le_of_ble_eq_true rfl) rfl ?_
  unfold fX14_showsReal at hf
  show AW E yX14_showsReal cX14_showsReal (Option.none : Option Jvm.ClassFile.FieldType) 5 D none h hz 0 [(0, .ref a0), (1, .float a1)] [] h
  refine a_fload_n (q := 1) dX14_showsReal_0 rfl rfl ?_
  refine a_fconst0 dX14_showsReal_1 ?_
  refine a_fcmp dX14_showsReal_2 ?_
  obtain ⟨k12, ek12, hf⟩ := jn_s hf
  have hj12 : ∀ (h12j : hp), k12 h12j = some hz → AW E yX14_showsReal cX14_showsReal (Option.none : Option Jvm.ClassFile.FieldType) 5 D none h hz 12 [(0, .ref a0), (1, .float a1)] [] h12j := by
    intro h12j hf
    rw [ek12] at hf
    clear ek12
    refine a_fload_n (q := 1) dX14_showsReal_12 rfl rfl ?_
    refine a_fconst0 dX14_showsReal_13 ?_
    refine a_fcmp dX14_showsReal_14 ?_
    obtain ⟨k24, ek24, hf⟩ := jn_s hf
    have hj24 : ∀ (s24_0 : UInt32) (h24j : hp), k24 s24_0 h24j = some hz → AW E yX14_showsReal cX14_showsReal (Option.none : Option Jvm.ClassFile.FieldType) 5 D none h hz 24 [(0, .ref a0)] [.float s24_0] h24j := by
      intro s24_0 h24j hf
      rw [ek24] at hf
      clear ek24
      refine a_fstore_n (lv1 := [(2, .float s24_0), (0, .ref a0)]) dX14_showsReal_24 rfl (by decide) rfl ?_
      refine a_fload_n (q := 0) dX14_showsReal_25 rfl rfl ?_
      refine a_f2i dX14_showsReal_26 ?_
      refine a_istore_n (lv1 := [(3, .int (FP.f2i s24_0)), (2, .float s24_0), (0, .ref a0)]) dX14_showsReal_27 rfl (by decide) rfl ?_
      refine a_fload_n (q := 1) dX14_showsReal_28 rfl rfl ?_
      refine a_iload_n (q := 0) dX14_showsReal_29 rfl rfl ?_
      refine a_i2f dX14_showsReal_30 ?_
      obtain ⟨v1, e2, hf⟩ := obd hf
      refine o_fsub dX14_showsReal_31 e2 ?_
      refine a_ldcf (v := 1148846080) dX14_showsReal_32 wd_1676 ?_
      obtain ⟨v3, e4, hf⟩ := obd hf
      refine o_fmul dX14_showsReal_34 e4 ?_
      refine a_f2i dX14_showsReal_35 ?_
      refine a_istore (lv1 := [(4, .int (FP.f2i v3)), (3, .int (FP.f2i s24_0)), (2, .float s24_0), (0, .ref a0)]) dX14_showsReal_36 (by decide) rfl ?_
      refine a_aload_n (q := 3) dX14_showsReal_38 rfl rfl ?_
      refine a_iload_n (q := 1) dX14_showsReal_39 rfl rfl ?_
      obtain ⟨_, e7, hf⟩ := obd hf
      obtain ⟨h6, e5, hf⟩ := obd hf
      refine a_callV (as := [.int (FP.f2i s24_0)]) (np := 1) (ci := 13) (st := []) (sX14_showsInt E (D - 1) (by omega) e5) dX14_showsReal_40 rfl (by omega) (by decide) cw_X14_148 ⟨wd_1666, ws_129⟩ rfl (ckT_s e7) rfl (Nat.le_of_ble_eq_true rfl) ?_
      refine a_aload_n (q := 3) dX14_showsReal_43 rfl rfl ?_
      refine a_bipush (v := 46) dX14_showsReal_44 (by decide) ?_
      obtain ⟨_, e10, hf⟩ := obd hf
      obtain ⟨h9, e8, hf⟩ := obd hf
      refine a_callV (as := [.int 46]) (np := 1) (ci := 13) (st := []) (sX14_shows E (D - 1) (by omega) e8) dX14_showsReal_46 rfl (by omega) (by decide) cw_X14_143 ⟨wd_1670, ws_130⟩ rfl (ckT_s e10) rfl (Nat.le_of_ble_eq_true rfl) ?_
      refine a_aload_n (q := 3) dX14_showsReal_49 rfl rfl ?_
      refine a_bipush (v := 48) dX14_showsReal_50 (by decide) ?_
      refine a_iload (q := 0) dX14_showsReal_52 rfl ?_
      refine a_bipush (v := 100) dX14_showsReal_54 (by decide) ?_
      obtain ⟨v11, e12, hf⟩ := obd hf
      refine o_dvI dX14_showsReal_56 e12 ?_
      refine a_bipush (v := 10) dX14_showsReal_57 (by decide) ?_
      obtain ⟨v13, e14, hf⟩ := obd hf
      refine o_rmI dX14_showsReal_59 e14 ?_
      refine a_iadd dX14_showsReal_60 ?_
      obtain ⟨_, e17, hf⟩ := obd hf
      obtain ⟨h16, e15, hf⟩ := obd hf
      refine a_callV (as := [.int (48 + v13)]) (np := 1) (ci := 13) (st := []) (sX14_shows E (D - 1) (by omega) e15) dX14_showsReal_61 rfl (by omega) (by decide) cw_X14_143 ⟨wd_1670, ws_130⟩ rfl (ckT_s e17) rfl (Nat.le_of_ble_eq_true rfl) ?_
      refine a_aload_n (q := 3) dX14_showsReal_64 rfl rfl ?_
      refine a_bipush (v := 48) dX14_showsReal_65 (by decide) ?_
      refine a_iload (q := 0) dX14_showsReal_67 rfl ?_
      refine a_bipush (v := 10) dX14_showsReal_69 (by decide) ?_
      obtain ⟨v18, e19, hf⟩ := obd hf
      refine o_dvI dX14_showsReal_71 e19 ?_
      refine a_bipush (v := 10) dX14_showsReal_72 (by decide) ?_
      obtain ⟨v20, e21, hf⟩ := obd hf
      refine o_rmI dX14_showsReal_74 e21 ?_
      refine a_iadd dX14_showsReal_75 ?_
      obtain ⟨_, e24, hf⟩ := obd hf
      obtain ⟨h23, e22, hf⟩ := obd hf
      refine a_callV (as := [.int (48 + v20)]) (np := 1) (ci := 13) (st := []) (sX14_shows E (D - 1) (by omega) e22) dX14_showsReal_76 rfl (by omega) (by decide) cw_X14_143 ⟨wd_1670, ws_130⟩ rfl (ckT_s e24) rfl (Nat.le_of_ble_eq_true rfl) ?_
      refine a_aload_n (q := 3) dX14_showsReal_79 rfl rfl ?_
      refine a_bipush (v := 48) dX14_showsReal_80 (by decide) ?_
      refine a_iload (q := 0) dX14_showsReal_82 rfl ?_
      refine a_bipush (v := 10) dX14_showsReal_84 (by decide) ?_
      obtain ⟨v25, e26, hf⟩ := obd hf
      refine o_rmI dX14_showsReal_86 e26 ?_
      refine a_iadd dX14_showsReal_87 ?_
      obtain ⟨_, e29, hf⟩ := obd hf
      obtain ⟨h28, e27, hf⟩ := obd hf
      refine a_callV (as := [.int (48 + v25)]) (np := 1) (ci := 13) (st := []) (sX14_shows E (D - 1) (by omega) e27) dX14_showsReal_88 rfl (by omega) (by decide) cw_X14_143 ⟨wd_1670, ws_130⟩ rfl (ckT_s e29) rfl (Nat.le_of_ble_eq_true rfl) ?_
      obtain rfl := Option.some.inj hf
      exact a_return dX14_showsReal_91 rfl
    clear ek24
    refine a_if_ge (tgt := 23) dX14_showsReal_15 (by decide) (fun c => ?_) (fun c => ?_)
    · have hf := ifp c hf
      refine a_fload_n (q := 1) dX14_showsReal_23 rfl rfl ?_
      exact AW.sub [0] rfl (hj24 _ _ hf)
    · have hf := ifn c hf
      refine a_fload_n (q := 1) dX14_showsReal_18 rfl rfl ?_
      refine a_fneg dX14_showsReal_19 ?_
      refine a_goto (tgt := 24) dX14_showsReal_20 (by decide) ?_
      exact AW.sub [0] rfl (hj24 _ _ hf)
  clear ek12
  refine a_if_ge (tgt := 12) dX14_showsReal_3 (by decide) (fun c => ?_) (fun c => ?_)
  · have hf := ifp c hf
    exact hj12 _ hf
  · have hf := ifn c hf
    refine a_aload_n (q := 0) dX14_showsReal_6 rfl rfl ?_
    refine a_bipush (v := 45) dX14_showsReal_7 (by decide) ?_
    obtain ⟨_, e32, hf⟩ := obd hf
    obtain ⟨h31, e30, hf⟩ := obd hf
    refine a_callV (as := [.int 45]) (np := 1) (ci := 13) (st := []) (sX14_shows E (D - 1) (by omega) e30) dX14_showsReal_9 rfl (by omega) (by decide) cw_X14_143 ⟨wd_1670, ws_130⟩ rfl (ckT_s e32) rfl (Nat.le_of_ble_eq_true rfl) ?_
    exact hj12 _ hf
def fX14_showsValue_l47 : Nat → Nat → Int32 → Int32 → hp → Option hp
  | 0, _, _, _, _ => none
  | n + 1, x0, x1, x2, h =>
    (gfR h x0 13 0).bind fun v1 =>
    (alI h v1 x1).bind fun v3 =>
    if v3 = 3 then (
      (gfR h x0 13 2).bind fun v5 =>
      (alI h v5 x1).bind fun v7 =>
      if v7 ≤ x2 then (
        some (h)
      ) else (
        (gfR h x0 13 3).bind fun v9 =>
        (alI h v9 ((16 * x1) + x2)).bind fun v11 =>
        (ckT h x0 13).bind fun _ =>
        (fX14_shows x0 v11 h).bind fun h14 =>
        fX14_showsValue_l47 n x0 x1 (x2 + 1) h14
      )
    ) else (
      some (h)
    )
def fX14_showsValue_l90 : Nat → Nat → Int32 → Int32 → hp → Option hp
  | 0, _, _, _, _ => none
  | n + 1, x0, x1, x2, h =>
    (gfR h x0 13 0).bind fun v1 =>
    (alI h v1 x1).bind fun v3 =>
    if v3 = 4 then (
      (gfR h x0 13 2).bind fun v5 =>
      (alI h v5 x1).bind fun v7 =>
      if v7 ≤ x2 then (
        some (h)
      ) else (
        jn (fun (h120j : hp) => (
          (gfR h120j x0 13 3).bind fun v9 =>
          (alI h120j v9 ((16 * x1) + x2)).bind fun v11 =>
          (ckT h120j x0 13).bind fun _ =>
          (fX14_showsInt x0 v11 h120j).bind fun h14 =>
          fX14_showsValue_l90 n x0 x1 (x2 + 1) h14
          : Option hp)) fun k120 =>
        if x2 ≤ 0 then (
          k120 h
        ) else (
          (ckT h x0 13).bind fun _ =>
          (fX14_shows x0 44 h).bind fun h17 =>
          k120 h17
        )
      )
    ) else (
      some (h)
    )
def fX14_showsValue (a0 : Nat) (a1 : Int32) (h : hp) : Option hp :=
  (pfI h a0 13 6 0).bind fun h1 =>
  (gfR h1 a0 13 0).bind fun v3 =>
  (alI h1 v3 a1).bind fun v5 =>
  jn (fun (h25j : hp) => (
    (gfR h25j a0 13 0).bind fun v7 =>
    (alI h25j v7 a1).bind fun v9 =>
    jn (fun (h45j : hp) => (
      (fX14_showsValue_l47 FU a0 a1 0 h45j).bind fun h12 =>
      (fX14_showsValue_l90 FU a0 a1 0 h12).bind fun h14 =>
      some h14
      : Option hp)) fun k45 =>
    if v9 = 2 then (
      (gfR h25j a0 13 4).bind fun v15 =>
      (alF h25j v15 a1).bind fun v17 =>
      (ckT h25j a0 13).bind fun _ =>
      (fX14_showsReal a0 v17 h25j).bind fun h20 =>
      k45 h20
    ) else (
      k45 h25j
    )
    : Option hp)) fun k25 =>
  if v5 = 1 then (
    (gfR h1 a0 13 1).bind fun v22 =>
    (alI h1 v22 a1).bind fun v24 =>
    (ckT h1 a0 13).bind fun _ =>
    (fX14_showsInt a0 v24 h1).bind fun h27 =>
    k25 h27
  ) else (
    k25 h1
  )
set_option maxHeartbeats 4000000 in
set_option maxRecDepth 100000 in
theorem sX14_showsValue_l47 (E : gE) (D : Nat) (hD : 3 ≤ D) {rz : Option Value} {h0 hz : hp} : ∀ (n : Nat) (x0 : Nat) (x1 : Int32) (x2 : Int32) (h : hp) (hq : hp), fX14_showsValue_l47 n x0 x1 x2 h = some hq → (AW E yX14_showsValue cX14_showsValue (Option.none : Option Jvm.ClassFile.FieldType) 3 D rz h0 hz 88 [(0, .ref x0), (1, .int x1)] [] hq) → AW E yX14_showsValue cX14_showsValue (Option.none : Option Jvm.ClassFile.FieldType) 3 D rz h0 hz 47 [(0, .ref x0), (1, .int x1), (2, .int x2)] [] h := by
  intro n
  induction n with
  | zero =>
    intro x0 x1 x2 h hq hf _
    rw [fX14_showsValue_l47] at hf
    cases hf
  | succ n ih =>
    intro x0 x1 x2 h hq hf hk0
    rw [fX14_showsValue_l47] at hf
    refine a_aload_n (q := 0) dX14_showsValue_47 rfl rfl ?_
    obtain ⟨v1, e2, hf⟩ := obd hf
    refine o_gfR dX14_showsValue_48 lk_X14_11 rfl e2 ?_
    refine a_iload_n (q := 1) dX14_showsValue_51 rfl rfl ?_
    obtain ⟨v3, e4, hf⟩ := obd hf
    refine o_alI dX14_showsValue_52 e4 ?_
    refine a_iconst (v := 3) dX14_showsValue_53 (by decide) ?_
    refine a_icmp_ne (tgt := 88) dX14_showsValue_54 (by decide) (fun c => ?_) (fun c => ?_)
    · have hf := ifn c hf
      obtain rfl := Option.some.inj hf
      exact AW.sub [0, 1] rfl (hk0)
    · have hf := ifp c hf
      refine a_iload_n (q := 2) dX14_showsValue_57 rfl rfl ?_
      refine a_aload_n (q := 0) dX14_showsValue_58 rfl rfl ?_
      obtain ⟨v5, e6, hf⟩ := obd hf
      refine o_gfR dX14_showsValue_59 lk_X14_18 rfl e6 ?_
      refine a_iload_n (q := 1) dX14_showsValue_62 rfl rfl ?_
      obtain ⟨v7, e8, hf⟩ := obd hf
      refine o_alI dX14_showsValue_63 e8 ?_
      refine a_icmp_ge (tgt := 88) dX14_showsValue_64 (by decide) (fun c => ?_) (fun c => ?_)
      · have hf := ifp c hf
        obtain rfl := Option.some.inj hf
        exact AW.sub [0, 1] rfl (hk0)
      · have hf := ifn c hf
        refine a_aload_n (q := 0) dX14_showsValue_67 rfl rfl ?_
        refine a_aload_n (q := 0) dX14_showsValue_68 rfl rfl ?_
        obtain ⟨v9, e10, hf⟩ := obd hf
        refine o_gfR dX14_showsValue_69 lk_X14_21 rfl e10 ?_
        refine a_bipush (v := 16) dX14_showsValue_72 (by decide) ?_
        refine a_iload_n (q := 1) dX14_showsValue_74 rfl rfl ?_
        refine a_imul dX14_showsValue_75 ?_
        refine a_iload_n (q := 2) dX14_showsValue_76 rfl rfl ?_
        refine a_iadd dX14_showsValue_77 ?_
        obtain ⟨v11, e12, hf⟩ := obd hf
        refine o_alI dX14_showsValue_78 e12 ?_
        obtain ⟨_, e15, hf⟩ := obd hf
        obtain ⟨h14, e13, hf⟩ := obd hf
        refine a_callV (as := [.int v11]) (np := 1) (ci := 13) (st := []) (sX14_shows E (D - 1) (by omega) e13) dX14_showsValue_79 rfl (by omega) (by decide) cw_X14_143 ⟨wd_1670, ws_130⟩ rfl (ckT_s e15) rfl (Nat.le_of_ble_eq_true rfl) ?_
        refine a_iinc (q := 2) (v := (x2 + 1)) (lv1 := [(2, .int (x2 + 1)), (0, .ref x0), (1, .int x1)]) dX14_showsValue_82 rfl (by rfl) (by decide) rfl ?_
        refine a_goto (tgt := 47) dX14_showsValue_85 (by decide) ?_
        exact AW.sub [1, 2, 0] rfl (ih _ _ _ _ _ hf hk0)
set_option maxHeartbeats 4000000 in
set_option maxRecDepth 100000 in
theorem sX14_showsValue_l90 (E : gE) (D : Nat) (hD : 3 ≤ D) {rz : Option Value} {h0 hz : hp} : ∀ (n : Nat) (x0 : Nat) (x1 : Int32) (x2 : Int32) (h : hp) (hq : hp), fX14_showsValue_l90 n x0 x1 x2 h = some hq → (AW E yX14_showsValue cX14_showsValue (Option.none : Option Jvm.ClassFile.FieldType) 3 D rz h0 hz 141 [] [] hq) → AW E yX14_showsValue cX14_showsValue (Option.none : Option Jvm.ClassFile.FieldType) 3 D rz h0 hz 90 [(0, .ref x0), (1, .int x1), (2, .int x2)] [] h := by
  intro n
  induction n with
  | zero =>
    intro x0 x1 x2 h hq hf _
    rw [fX14_showsValue_l90] at hf
    cases hf
  | succ n ih =>
    intro x0 x1 x2 h hq hf hk0
    rw [fX14_showsValue_l90] at hf
    refine a_aload_n (q := 0) dX14_showsValue_90 rfl rfl ?_
    obtain ⟨v1, e2, hf⟩ := obd hf
    refine o_gfR dX14_showsValue_91 lk_X14_11 rfl e2 ?_
    refine a_iload_n (q := 1) dX14_showsValue_94 rfl rfl ?_
    obtain ⟨v3, e4, hf⟩ := obd hf
    refine o_alI dX14_showsValue_95 e4 ?_
    refine a_iconst (v := 4) dX14_showsValue_96 (by decide) ?_
    refine a_icmp_ne (tgt := 141) dX14_showsValue_97 (by decide) (fun c => ?_) (fun c => ?_)
    · have hf := ifn c hf
      obtain rfl := Option.some.inj hf
      exact AW.sub [] rfl (hk0)
    · have hf := ifp c hf
      refine a_iload_n (q := 2) dX14_showsValue_100 rfl rfl ?_
      refine a_aload_n (q := 0) dX14_showsValue_101 rfl rfl ?_
      obtain ⟨v5, e6, hf⟩ := obd hf
      refine o_gfR dX14_showsValue_102 lk_X14_18 rfl e6 ?_
      refine a_iload_n (q := 1) dX14_showsValue_105 rfl rfl ?_
      obtain ⟨v7, e8, hf⟩ := obd hf
      refine o_alI dX14_showsValue_106 e8 ?_
      refine a_icmp_ge (tgt := 141) dX14_showsValue_107 (by decide) (fun c => ?_) (fun c => ?_)
      · have hf := ifp c hf
        obtain rfl := Option.some.inj hf
        exact AW.sub [] rfl (hk0)
      · have hf := ifn c hf
        refine a_iload_n (q := 2) dX14_showsValue_110 rfl rfl ?_
        obtain ⟨k120, ek120, hf⟩ := jn_s hf
        have hj120 : ∀ (h120j : hp), k120 h120j = some hq → AW E yX14_showsValue cX14_showsValue (Option.none : Option Jvm.ClassFile.FieldType) 3 D rz h0 hz 120 [(0, .ref x0), (1, .int x1), (2, .int x2)] [] h120j := by
          intro h120j hf
          rw [ek120] at hf
          clear ek120
          refine a_aload_n (q := 0) dX14_showsValue_120 rfl rfl ?_
          refine a_aload_n (q := 0) dX14_showsValue_121 rfl rfl ?_
          obtain ⟨v9, e10, hf⟩ := obd hf
          refine o_gfR dX14_showsValue_122 lk_X14_21 rfl e10 ?_
          refine a_bipush (v := 16) dX14_showsValue_125 (by decide) ?_
          refine a_iload_n (q := 1) dX14_showsValue_127 rfl rfl ?_
          refine a_imul dX14_showsValue_128 ?_
          refine a_iload_n (q := 2) dX14_showsValue_129 rfl rfl ?_
          refine a_iadd dX14_showsValue_130 ?_
          obtain ⟨v11, e12, hf⟩ := obd hf
          refine o_alI dX14_showsValue_131 e12 ?_
          obtain ⟨_, e15, hf⟩ := obd hf
          obtain ⟨h14, e13, hf⟩ := obd hf
          refine a_callV (as := [.int v11]) (np := 1) (ci := 13) (st := []) (sX14_showsInt E (D - 1) (by omega) e13) dX14_showsValue_132 rfl (by omega) (by decide) cw_X14_148 ⟨wd_1666, ws_129⟩ rfl (ckT_s e15) rfl (Nat.le_of_ble_eq_true rfl) ?_
          refine a_iinc (q := 2) (v := (x2 + 1)) (lv1 := [(2, .int (x2 + 1)), (0, .ref x0), (1, .int x1)]) dX14_showsValue_135 rfl (by rfl) (by decide) rfl ?_
          refine a_goto (tgt := 90) dX14_showsValue_138 (by decide) ?_
          exact AW.sub [1, 2, 0] rfl (ih _ _ _ _ _ hf hk0)
        clear ek120
        refine a_if_le (tgt := 120) dX14_showsValue_111 (by decide) (fun c => ?_) (fun c => ?_)
        · have hf := ifp c hf
          exact hj120 _ hf
        · have hf := ifn c hf
          refine a_aload_n (q := 0) dX14_showsValue_114 rfl rfl ?_
          refine a_bipush (v := 44) dX14_showsValue_115 (by decide) ?_
          obtain ⟨_, e18, hf⟩ := obd hf
          obtain ⟨h17, e16, hf⟩ := obd hf
          refine a_callV (as := [.int 44]) (np := 1) (ci := 13) (st := []) (sX14_shows E (D - 1) (by omega) e16) dX14_showsValue_117 rfl (by omega) (by decide) cw_X14_143 ⟨wd_1670, ws_130⟩ rfl (ckT_s e18) rfl (Nat.le_of_ble_eq_true rfl) ?_
          exact hj120 _ hf
set_option maxHeartbeats 4000000 in
set_option maxRecDepth 100000 in
theorem sX14_showsValue (E : gE) (D : Nat) (hD : 3 ≤ D) {a0 : Nat} {a1 : Int32} {h hz : hp} (hf : fX14_showsValue a0 a1 h = some hz) : MC E yX14_showsValue cX14_showsValue (Option.none : Option Jvm.ClassFile.FieldType) 3 D [.ref a0, .int a1] h none hz := by
  refine MC.of (by decide +kernel) (Nat.le_of_ble_eq_true rfl) rfl ?_
  unfold fX14_showsValue at hf
  show AW E yX14_showsValue cX14_showsValue (Option.none : Option Jvm.ClassFile.FieldType) 3 D none h hz 0 [(0, .ref a0), (1, .int a1)] [] h
  refine a_aload_n (q := 0) dX14_showsValue_0 rfl rfl ?_
  refine a_iconst (v := 0) dX14_showsValue_1 (by decide) ?_
  obtain ⟨h1, e2, hf⟩ := obd hf
  refine o_pfI dX14_showsValue_2 lk_X14_140 (⟨_, rfl, Or.inl rfl⟩) rfl e2 ?_
  refine a_aload_n (q := 0) dX14_showsValue_5 rfl rfl ?_
  obtain ⟨v3, e4, hf⟩ := obd hf
  refine o_gfR dX14_showsValue_6 lk_X14_11 rfl e4 ?_
  refine a_iload_n (q := 1) dX14_showsValue_9 rfl rfl ?_
  obtain ⟨v5, e6, hf⟩ := obd hf
  refine o_alI dX14_showsValue_10 e6 ?_
  refine a_iconst (v := 1) dX14_showsValue_11 (by decide) ?_
  obtain ⟨k25, ek25, hf⟩ := jn_s hf
  have hj25 : ∀ (h25j : hp), k25 h25j = some hz → AW E yX14_showsValue cX14_showsValue (Option.none : Option Jvm.ClassFile.FieldType) 3 D none h hz 25 [(0, .ref a0), (1, .int a1)] [] h25j := by
    intro h25j hf
    rw [ek25] at hf
    clear ek25
    refine a_aload_n (q := 0) dX14_showsValue_25 rfl rfl ?_
    obtain ⟨v7, e8, hf⟩ := obd hf
    refine o_gfR dX14_showsValue_26 lk_X14_11 rfl e8 ?_
    refine a_iload_n (q := 1) dX14_showsValue_29 rfl rfl ?_
    obtain ⟨v9, e10, hf⟩ := obd hf
    refine o_alI dX14_showsValue_30 e10 ?_
    refine a_iconst (v := 2) dX14_showsValue_31 (by decide) ?_
    obtain ⟨k45, ek45, hf⟩ := jn_s hf
    have hj45 : ∀ (h45j : hp), k45 h45j = some hz → AW E yX14_showsValue cX14_showsValue (Option.none : Option Jvm.ClassFile.FieldType) 3 D none h hz 45 [(0, .ref a0), (1, .int a1)] [] h45j := by
      intro h45j hf
      rw [ek45] at hf
      clear ek45
      refine a_iconst (v := 0) dX14_showsValue_45 (by decide) ?_
      refine a_istore_n (lv1 := [(2, .int 0), (0, .ref a0), (1, .int a1)]) dX14_showsValue_46 rfl (by decide) rfl ?_
      obtain ⟨h12, e11, hf⟩ := obd hf
      refine AW.sub [1, 2, 0] rfl (sX14_showsValue_l47 E D hD _ _ _ _ _ _ e11 ?_)
      refine a_iconst (v := 0) dX14_showsValue_88 (by decide) ?_
      refine a_istore_n (lv1 := [(2, .int 0), (0, .ref a0), (1, .int a1)]) dX14_showsValue_89 rfl (by decide) rfl ?_
      obtain ⟨h14, e13, hf⟩ := obd hf
      refine AW.sub [1, 2, 0] rfl (sX14_showsValue_l90 E D hD _ _ _ _ _ _ e13 ?_)
      obtain rfl := Option.some.inj hf
      exact a_return dX14_showsValue_141 rfl
    clear ek45
    refine a_icmp_ne (tgt := 45) dX14_showsValue_32 (by decide) (fun c => ?_) (fun c => ?_)
    · have hf := ifn c hf
      exact hj45 _ hf
    · have hf := ifp c hf
      refine a_aload_n (q := 0) dX14_showsValue_35 rfl rfl ?_
      refine a_aload_n (q := 0) dX14_showsValue_36 rfl rfl ?_
      obtain ⟨v15, e16, hf⟩ := obd hf
      refine o_gfR dX14_showsValue_37 lk_X14_24 rfl e16 ?_
      refine a_iload_n (q := 1) dX14_showsValue_40 rfl rfl ?_
      obtain ⟨v17, e18, hf⟩ := obd hf
      refine o_alF dX14_showsValue_41 e18 ?_
      obtain ⟨_, e21, hf⟩ := obd hf
      obtain ⟨h20, e19, hf⟩ := obd hf
      refine a_callV (as := [.float v17]) (np := 1) (ci := 13) (st := []) (sX14_showsReal E (D - 1) (by omega) e19) dX14_showsValue_42 rfl (by omega) (by decide) cw_X14_151 ⟨wd_1674, ws_131⟩ rfl (ckT_s e21) rfl (Nat.le_of_ble_eq_true rfl) ?_
      exact hj45 _ hf
  clear ek25
  refine a_icmp_ne (tgt := 25) dX14_showsValue_12 (by decide) (fun c => ?_) (fun c => ?_)
  · have hf := ifn c hf
    exact hj25 _ hf
  · have hf := ifp c hf
    refine a_aload_n (q := 0) dX14_showsValue_15 rfl rfl ?_
    refine a_aload_n (q := 0) dX14_showsValue_16 rfl rfl ?_
    obtain ⟨v22, e23, hf⟩ := obd hf
    refine o_gfR dX14_showsValue_17 lk_X14_15 rfl e23 ?_
    refine a_iload_n (q := 1) dX14_showsValue_20 rfl rfl ?_
    obtain ⟨v24, e25, hf⟩ := obd hf
    refine o_alI dX14_showsValue_21 e25 ?_
    obtain ⟨_, e28, hf⟩ := obd hf
    obtain ⟨h27, e26, hf⟩ := obd hf
    refine a_callV (as := [.int v24]) (np := 1) (ci := 13) (st := []) (sX14_showsInt E (D - 1) (by omega) e26) dX14_showsValue_22 rfl (by omega) (by decide) cw_X14_148 ⟨wd_1666, ws_129⟩ rfl (ckT_s e28) rfl (Nat.le_of_ble_eq_true rfl) ?_
    exact hj25 _ hf
def fX14_letterCase (a0 : Int32) (a1 : Int32) (a2 : Int32) (h : hp) : Option (Int32 × hp) :=
  bd2 (fX14_isIn (a0.toInt64) (a1.toInt64) ((a1 + 25).toInt64) h) fun v2 h3 =>
  if v2 = 0 then (
    some (a0, h3)
  ) else (
    some ((a0 + a2), h3)
  )
set_option maxHeartbeats 4000000 in
set_option maxRecDepth 100000 in
theorem sX14_letterCase (E : gE) (D : Nat) (hD : 1 ≤ D) {a0 : Int32} {a1 : Int32} {a2 : Int32} {h hz : hp} {v0 : Int32} (hf : fX14_letterCase a0 a1 a2 h = some (v0, hz)) : MC E yX14_letterCase cX14_letterCase (Option.some Jvm.ClassFile.FieldType.int) 3 D [.int a0, .int a1, .int a2] h (some (.int v0)) hz := by
  refine MC.of (by decide +kernel) (Nat.le_of_ble_eq_true rfl) rfl ?_
  unfold fX14_letterCase at hf
  show AW E yX14_letterCase cX14_letterCase (Option.some Jvm.ClassFile.FieldType.int) 3 D (some (.int v0)) h hz 0 [(0, .int a0), (1, .int a1), (2, .int a2)] [] h
  refine a_iload_n (q := 0) dX14_letterCase_0 rfl rfl ?_
  refine a_i2l dX14_letterCase_1 rfl ?_
  refine a_iload_n (q := 1) dX14_letterCase_2 rfl rfl ?_
  refine a_i2l dX14_letterCase_3 rfl ?_
  refine a_iload_n (q := 1) dX14_letterCase_4 rfl rfl ?_
  refine a_bipush (v := 25) dX14_letterCase_5 (by decide) ?_
  refine a_iadd dX14_letterCase_7 ?_
  refine a_i2l dX14_letterCase_8 rfl ?_
  obtain ⟨v2, h3, e1, hf⟩ := ob2 hf
  refine a_callS (as := [.long (a0.toInt64), .long (a1.toInt64), .long ((a1 + 25).toInt64)]) (np := 3) (st := []) (sX14_isIn E (D - 1) (by omega) e1) dX14_letterCase_9 rfl (by omega) (by decide) cw_X14_155 wd_1324 rfl (Nat.le_of_ble_eq_true rfl) ?_
  refine a_if_eq (tgt := 21) dX14_letterCase_12 (by decide) (fun c => ?_) (fun c => ?_)
  · have hf := ifp c hf
    refine a_iload_n (q := 0) dX14_letterCase_21 rfl rfl ?_
    obtain ⟨rfl, rfl⟩ := oc2 hf
    exact a_ireturn dX14_letterCase_22 rfl
  · have hf := ifn c hf
    refine a_iload_n (q := 0) dX14_letterCase_15 rfl rfl ?_
    refine a_iload_n (q := 2) dX14_letterCase_16 rfl rfl ?_
    refine a_iadd dX14_letterCase_17 ?_
    refine a_goto (tgt := 22) dX14_letterCase_18 (by decide) ?_
    obtain ⟨rfl, rfl⟩ := oc2 hf
    exact a_ireturn dX14_letterCase_22 rfl
def fX14_figures_l4 : Nat → Nat → Int32 → Int32 → Int32 → hp → Option (Int32 × hp)
  | 0, _, _, _, _, _ => none
  | n + 1, x0, x1, x2, x3, h =>
    (gfR h x0 13 2).bind fun v1 =>
    (alI h v1 x1).bind fun v3 =>
    if v3 ≤ x3 then (
      some (x2, h)
    ) else (
      (gfR h x0 13 3).bind fun v5 =>
      (alI h v5 ((16 * x1) + x3)).bind fun v7 =>
      bd2 (fX14_isIn (v7.toInt64) 48 57 h) fun v10 h11 =>
      jn (fun (s44_0 : Int32) (h44j : hp) => (
        fX14_figures_l4 n x0 x1 (x2 + s44_0) (x3 + 1) h44j
        : Option (Int32 × hp))) fun k44 =>
      if v10 = 0 then (
        k44 0 h11
      ) else (
        k44 1 h11
      )
    )
def fX14_figures (a0 : Nat) (a1 : Int32) (h : hp) : Option (Int32 × hp) :=
  bd2 (fX14_figures_l4 FU a0 a1 0 0 h) fun v3 h2 =>
  some (v3, h2)
set_option maxHeartbeats 4000000 in
set_option maxRecDepth 100000 in
theorem sX14_figures_l4 (E : gE) (D : Nat) (hD : 1 ≤ D) {rz : Option Value} {h0 hz : hp} : ∀ (n : Nat) (x0 : Nat) (x1 : Int32) (x2 : Int32) (x3 : Int32) (h : hp) (m2 : Int32) (hq : hp), fX14_figures_l4 n x0 x1 x2 x3 h = some (m2, hq) → (AW E yX14_figures cX14_figures (Option.some Jvm.ClassFile.FieldType.int) 4 D rz h0 hz 52 [(2, .int m2)] [] hq) → AW E yX14_figures cX14_figures (Option.some Jvm.ClassFile.FieldType.int) 4 D rz h0 hz 4 [(0, .ref x0), (1, .int x1), (2, .int x2), (3, .int x3)] [] h := by
  intro n
  induction n with
  | zero =>
    intro x0 x1 x2 x3 h m2 hq hf _
    rw [fX14_figures_l4] at hf
    cases hf
  | succ n ih =>
    intro x0 x1 x2 x3 h m2 hq hf hk0
    rw [fX14_figures_l4] at hf
    refine a_iload_n (q := 3) dX14_figures_4 rfl rfl ?_
    refine a_aload_n (q := 0) dX14_figures_5 rfl rfl ?_
    obtain ⟨v1, e2, hf⟩ := obd hf
    refine o_gfR dX14_figures_6 lk_X14_18 rfl e2 ?_
    refine a_iload_n (q := 1) dX14_figures_9 rfl rfl ?_
    obtain ⟨v3, e4, hf⟩ := obd hf
    refine o_alI dX14_figures_10 e4 ?_
    refine a_icmp_ge (tgt := 52) dX14_figures_11 (by decide) (fun c => ?_) (fun c => ?_)
    · have hf := ifp c hf
      obtain ⟨rfl, rfl⟩ := oc2 hf
      exact AW.sub [2] rfl (hk0)
    · have hf := ifn c hf
      refine a_iload_n (q := 2) dX14_figures_14 rfl rfl ?_
      refine a_aload_n (q := 0) dX14_figures_15 rfl rfl ?_
      obtain ⟨v5, e6, hf⟩ := obd hf
      refine o_gfR dX14_figures_16 lk_X14_21 rfl e6 ?_
      refine a_bipush (v := 16) dX14_figures_19 (by decide) ?_
      refine a_iload_n (q := 1) dX14_figures_21 rfl rfl ?_
      refine a_imul dX14_figures_22 ?_
      refine a_iload_n (q := 3) dX14_figures_23 rfl rfl ?_
      refine a_iadd dX14_figures_24 ?_
      obtain ⟨v7, e8, hf⟩ := obd hf
      refine o_alI dX14_figures_25 e8 ?_
      refine a_i2l dX14_figures_26 rfl ?_
      refine a_ldc2 (v := 48) dX14_figures_27 wd_1385 ?_
      refine a_ldc2 (v := 57) dX14_figures_30 wd_1386 ?_
      obtain ⟨v10, h11, e9, hf⟩ := ob2 hf
      refine a_callS (as := [.long (v7.toInt64), .long 48, .long 57]) (np := 3) (st := [.int x2]) (sX14_isIn E (D - 1) (by omega) e9) dX14_figures_33 rfl (by omega) (by decide) cw_X14_155 wd_1324 rfl (Nat.le_of_ble_eq_true rfl) ?_
      obtain ⟨k44, ek44, hf⟩ := jn_s hf
      have hj44 : ∀ (s44_0 : Int32) (h44j : hp), k44 s44_0 h44j = some (m2, hq) → AW E yX14_figures cX14_figures (Option.some Jvm.ClassFile.FieldType.int) 4 D rz h0 hz 44 [(0, .ref x0), (1, .int x1), (3, .int x3)] [.int s44_0, .int x2] h44j := by
        intro s44_0 h44j hf
        rw [ek44] at hf
        clear ek44
        refine a_iadd dX14_figures_44 ?_
        refine a_istore_n (lv1 := [(2, .int (x2 + s44_0)), (0, .ref x0), (1, .int x1), (3, .int x3)]) dX14_figures_45 rfl (by decide) rfl ?_
        refine a_iinc (q := 3) (v := (x3 + 1)) (lv1 := [(3, .int (x3 + 1)), (2, .int (x2 + s44_0)), (0, .ref x0), (1, .int x1)]) dX14_figures_46 rfl (by rfl) (by decide) rfl ?_
        refine a_goto (tgt := 4) dX14_figures_49 (by decide) ?_
        exact AW.sub [2, 3, 1, 0] rfl (ih _ _ _ _ _ _ _ hf hk0)
      clear ek44
      refine a_if_eq (tgt := 43) dX14_figures_36 (by decide) (fun c => ?_) (fun c => ?_)
      · have hf := ifp c hf
        refine a_iconst (v := 0) dX14_figures_43 (by decide) ?_
        exact AW.sub [0, 1, 3] rfl (hj44 _ _ hf)
      · have hf := ifn c hf
        refine a_iconst (v := 1) dX14_figures_39 (by decide) ?_
        refine a_goto (tgt := 44) dX14_figures_40 (by decide) ?_
        exact AW.sub [0, 1, 3] rfl (hj44 _ _ hf)
set_option maxHeartbeats 4000000 in
set_option maxRecDepth 100000 in
theorem sX14_figures (E : gE) (D : Nat) (hD : 1 ≤ D) {a0 : Nat} {a1 : Int32} {h hz : hp} {v0 : Int32} (hf : fX14_figures a0 a1 h = some (v0, hz)) : MC E yX14_figures cX14_figures (Option.some Jvm.ClassFile.FieldType.int) 4 D [.ref a0, .int a1] h (some (.int v0)) hz := by
  refine MC.of (by decide +kernel) (Nat.le_of_ble_eq_true rfl) rfl ?_
  unfold fX14_figures at hf
  show AW E yX14_figures cX14_figures (Option.some Jvm.ClassFile.FieldType.int) 4 D (some (.int v0)) h hz 0 [(0, .ref a0), (1, .int a1)] [] h
  refine a_iconst (v := 0) dX14_figures_0 (by decide) ?_
  refine a_istore_n (lv1 := [(2, .int 0), (0, .ref a0), (1, .int a1)]) dX14_figures_1 rfl (by decide) rfl ?_
  refine a_iconst (v := 0) dX14_figures_2 (by decide) ?_
  refine a_istore_n (lv1 := [(3, .int 0), (2, .int 0), (0, .ref a0), (1, .int a1)]) dX14_figures_3 rfl (by decide) rfl ?_
  obtain ⟨v3, h2, e1, hf⟩ := ob2 hf
  refine AW.sub [2, 3, 1, 0] rfl (sX14_figures_l4 E D hD _ _ _ _ _ _ _ _ e1 ?_)
  refine a_iload_n (q := 0) dX14_figures_52 rfl rfl ?_
  obtain ⟨rfl, rfl⟩ := oc2 hf
  exact a_ireturn dX14_figures_53 rfl
def fX14_cases_l3 : Nat → Nat → Int32 → Int32 → Int32 → Int32 → hp → Option hp
  | 0, _, _, _, _, _, _ => none
  | n + 1, x0, x1, x2, x3, x4, h =>
    (gfR h x0 13 2).bind fun v1 =>
    (alI h v1 x1).bind fun v3 =>
    if v3 ≤ x4 then (
      some (h)
    ) else (
      (gfR h x0 13 3).bind fun v5 =>
      (gfR h x0 13 3).bind fun v7 =>
      (alI h v7 ((16 * x1) + x4)).bind fun v9 =>
      bd2 (fX14_letterCase v9 x2 x3 h) fun v12 h13 =>
      (asI h13 v5 ((16 * x1) + x4) v12).bind fun h14 =>
      fX14_cases_l3 n x0 x1 x2 x3 (x4 + 1) h14
    )
def fX14_cases (a0 : Nat) (a1 : Int32) (a2 : Int32) (a3 : Int32) (h : hp) : Option hp :=
  (fX14_cases_l3 FU a0 a1 a2 a3 0 h).bind fun h2 =>
  some h2
set_option maxHeartbeats 4000000 in
set_option maxRecDepth 100000 in
theorem sX14_cases_l3 (E : gE) (D : Nat) (hD : 2 ≤ D) {rz : Option Value} {h0 hz : hp} : ∀ (n : Nat) (x0 : Nat) (x1 : Int32) (x2 : Int32) (x3 : Int32) (x4 : Int32) (h : hp) (hq : hp), fX14_cases_l3 n x0 x1 x2 x3 x4 h = some hq → (AW E yX14_cases cX14_cases (Option.none : Option Jvm.ClassFile.FieldType) 5 D rz h0 hz 49 [] [] hq) → AW E yX14_cases cX14_cases (Option.none : Option Jvm.ClassFile.FieldType) 5 D rz h0 hz 3 [(0, .ref x0), (1, .int x1), (2, .int x2), (3, .int x3), (4, .int x4)] [] h := by
  intro n
  induction n with
  | zero =>
    intro x0 x1 x2 x3 x4 h hq hf _
    rw [fX14_cases_l3] at hf
    cases hf
  | succ n ih =>
    intro x0 x1 x2 x3 x4 h hq hf hk0
    rw [fX14_cases_l3] at hf
    refine a_iload (q := 4) dX14_cases_3 rfl ?_
    refine a_aload_n (q := 0) dX14_cases_5 rfl rfl ?_
    obtain ⟨v1, e2, hf⟩ := obd hf
    refine o_gfR dX14_cases_6 lk_X14_18 rfl e2 ?_
    refine a_iload_n (q := 1) dX14_cases_9 rfl rfl ?_
    obtain ⟨v3, e4, hf⟩ := obd hf
    refine o_alI dX14_cases_10 e4 ?_
    refine a_icmp_ge (tgt := 49) dX14_cases_11 (by decide) (fun c => ?_) (fun c => ?_)
    · have hf := ifp c hf
      obtain rfl := Option.some.inj hf
      exact AW.sub [] rfl (hk0)
    · have hf := ifn c hf
      refine a_aload_n (q := 0) dX14_cases_14 rfl rfl ?_
      obtain ⟨v5, e6, hf⟩ := obd hf
      refine o_gfR dX14_cases_15 lk_X14_21 rfl e6 ?_
      refine a_bipush (v := 16) dX14_cases_18 (by decide) ?_
      refine a_iload_n (q := 1) dX14_cases_20 rfl rfl ?_
      refine a_imul dX14_cases_21 ?_
      refine a_iload (q := 4) dX14_cases_22 rfl ?_
      refine a_iadd dX14_cases_24 ?_
      refine a_aload_n (q := 0) dX14_cases_25 rfl rfl ?_
      obtain ⟨v7, e8, hf⟩ := obd hf
      refine o_gfR dX14_cases_26 lk_X14_21 rfl e8 ?_
      refine a_bipush (v := 16) dX14_cases_29 (by decide) ?_
      refine a_iload_n (q := 1) dX14_cases_31 rfl rfl ?_
      refine a_imul dX14_cases_32 ?_
      refine a_iload (q := 4) dX14_cases_33 rfl ?_
      refine a_iadd dX14_cases_35 ?_
      obtain ⟨v9, e10, hf⟩ := obd hf
      refine o_alI dX14_cases_36 e10 ?_
      refine a_iload_n (q := 2) dX14_cases_37 rfl rfl ?_
      refine a_iload_n (q := 3) dX14_cases_38 rfl rfl ?_
      obtain ⟨v12, h13, e11, hf⟩ := ob2 hf
      refine a_callS (as := [.int v9, .int x2, .int x3]) (np := 3) (st := [.int ((16 * x1) + x4), .ref v5]) (sX14_letterCase E (D - 1) (by omega) e11) dX14_cases_39 rfl (by omega) (by decide) cw_X14_163 wd_1534 rfl (Nat.le_of_ble_eq_true rfl) ?_
      obtain ⟨h14, e15, hf⟩ := obd hf
      refine o_asI dX14_cases_42 e15 ?_
      refine a_iinc (q := 4) (v := (x4 + 1)) (lv1 := [(4, .int (x4 + 1)), (0, .ref x0), (1, .int x1), (2, .int x2), (3, .int x3)]) dX14_cases_43 rfl (by rfl) (by decide) rfl ?_
      refine a_goto (tgt := 3) dX14_cases_46 (by decide) ?_
      exact AW.sub [1, 2, 3, 4, 0] rfl (ih _ _ _ _ _ _ _ hf hk0)
set_option maxHeartbeats 4000000 in
set_option maxRecDepth 100000 in
theorem sX14_cases (E : gE) (D : Nat) (hD : 2 ≤ D) {a0 : Nat} {a1 : Int32} {a2 : Int32} {a3 : Int32} {h hz : hp} (hf : fX14_cases a0 a1 a2 a3 h = some hz) : MC E yX14_cases cX14_cases (Option.none : Option Jvm.ClassFile.FieldType) 5 D [.ref a0, .int a1, .int a2, .int a3] h none hz := by
  refine MC.of (by decide +kernel) (Nat.le_of_ble_eq_true rfl) rfl ?_
  unfold fX14_cases at hf
  show AW E yX14_cases cX14_cases (Option.none : Option Jvm.ClassFile.FieldType) 5 D none h hz 0 [(0, .ref a0), (1, .int a1), (2, .int a2), (3, .int a3)] [] h
  refine a_iconst (v := 0) dX14_cases_0 (by decide) ?_
  refine a_istore (lv1 := [(4, .int 0), (0, .ref a0), (1, .int a1), (2, .int a2), (3, .int a3)]) dX14_cases_1 (by decide) rfl ?_
  obtain ⟨h2, e1, hf⟩ := obd hf
  refine AW.sub [1, 2, 3, 4, 0] rfl (sX14_cases_l3 E D hD _ _ _ _ _ _ _ _ e1 ?_)
  obtain rfl := Option.some.inj hf
  exact a_return dX14_cases_49 rfl
def fX14_turnsAbout_l2 : Nat → Nat → Int32 → Int32 → hp → Option hp
  | 0, _, _, _, _ => none
  | n + 1, x0, x1, x2, h =>
    (gfR h x0 13 2).bind fun v1 =>
    (alI h v1 x1).bind fun v3 =>
    (dvI v3 2).bind fun v5 =>
    if v5 ≤ x2 then (
      some (h)
    ) else (
      (gfR h x0 13 3).bind fun v7 =>
      (alI h v7 ((16 * x1) + x2)).bind fun v9 =>
      (gfR h x0 13 3).bind fun v11 =>
      (gfR h x0 13 3).bind fun v13 =>
      (gfR h x0 13 2).bind fun v15 =>
      (alI h v15 x1).bind fun v17 =>
      (alI h v13 ((((16 * x1) + v17) - 1) - x2)).bind fun v19 =>
      (asI h v11 ((16 * x1) + x2) v19).bind fun h21 =>
      (gfR h21 x0 13 3).bind fun v23 =>
      (gfR h21 x0 13 2).bind fun v25 =>
      (alI h21 v25 x1).bind fun v27 =>
      (asI h21 v23 ((((16 * x1) + v27) - 1) - x2) v9).bind fun h29 =>
      fX14_turnsAbout_l2 n x0 x1 (x2 + 1) h29
    )
def fX14_turnsAbout (a0 : Nat) (a1 : Int32) (h : hp) : Option hp :=
  (fX14_turnsAbout_l2 FU a0 a1 0 h).bind fun h2 =>
  some h2
set_option maxHeartbeats 4000000 in
set_option maxRecDepth 100000 in
theorem sX14_turnsAbout_l2 (E : gE) (D : Nat) (hD : 0 ≤ D) {rz : Option Value} {h0 hz : hp} : ∀ (n : Nat) (x0 : Nat) (x1 : Int32) (x2 : Int32) (h : hp) (hq : hp), fX14_turnsAbout_l2 n x0 x1 x2 h = some hq → (AW E yX14_turnsAbout cX14_turnsAbout (Option.none : Option Jvm.ClassFile.FieldType) 4 D rz h0 hz 84 [] [] hq) → AW E yX14_turnsAbout cX14_turnsAbout (Option.none : Option Jvm.ClassFile.FieldType) 4 D rz h0 hz 2 [(0, .ref x0), (1, .int x1), (2, .int x2)] [] h := by
  intro n
  induction n with
  | zero =>
    intro x0 x1 x2 h hq hf _
    rw [fX14_turnsAbout_l2] at hf
    cases hf
  | succ n ih =>
    intro x0 x1 x2 h hq hf hk0
    rw [fX14_turnsAbout_l2] at hf
    refine a_iload_n (q := 2) dX14_turnsAbout_2 rfl rfl ?_
    refine a_aload_n (q := 0) dX14_turnsAbout_3 rfl rfl ?_
    obtain ⟨v1, e2, hf⟩ := obd hf
    refine o_gfR dX14_turnsAbout_4 lk_X14_18 rfl e2 ?_
    refine a_iload_n (q := 1) dX14_turnsAbout_7 rfl rfl ?_
    obtain ⟨v3, e4, hf⟩ := obd hf
    refine o_alI dX14_turnsAbout_8 e4 ?_
    refine a_iconst (v := 2) dX14_turnsAbout_9 (by decide) ?_
    obtain ⟨v5, e6, hf⟩ := obd hf
    refine o_dvI dX14_turnsAbout_10 e6 ?_
    refine a_icmp_ge (tgt := 84) dX14_turnsAbout_11 (by decide) (fun c => ?_) (fun c => ?_)
    · have hf := ifp c hf
      obtain rfl := Option.some.inj hf
      exact AW.sub [] rfl (hk0)
    · have hf := ifn c hf
      refine a_aload_n (q := 0) dX14_turnsAbout_14 rfl rfl ?_
      obtain ⟨v7, e8, hf⟩ := obd hf
      refine o_gfR dX14_turnsAbout_15 lk_X14_21 rfl e8 ?_
      refine a_bipush (v := 16) dX14_turnsAbout_18 (by decide) ?_
      refine a_iload_n (q := 1) dX14_turnsAbout_20 rfl rfl ?_
      refine a_imul dX14_turnsAbout_21 ?_
      refine a_iload_n (q := 2) dX14_turnsAbout_22 rfl rfl ?_
      refine a_iadd dX14_turnsAbout_23 ?_
      obtain ⟨v9, e10, hf⟩ := obd hf
      refine o_alI dX14_turnsAbout_24 e10 ?_
      refine a_istore_n (lv1 := [(3, .int v9), (0, .ref x0), (1, .int x1), (2, .int x2)]) dX14_turnsAbout_25 rfl (by decide) rfl ?_
      refine a_aload_n (q := 1) dX14_turnsAbout_26 rfl rfl ?_
      obtain ⟨v11, e12, hf⟩ := obd hf
      refine o_gfR dX14_turnsAbout_27 lk_X14_21 rfl e12 ?_
      refine a_bipush (v := 16) dX14_turnsAbout_30 (by decide) ?_
      refine a_iload_n (q := 2) dX14_turnsAbout_32 rfl rfl ?_
      refine a_imul dX14_turnsAbout_33 ?_
      refine a_iload_n (q := 3) dX14_turnsAbout_34 rfl rfl ?_
      refine a_iadd dX14_turnsAbout_35 ?_
      refine a_aload_n (q := 1) dX14_turnsAbout_36 rfl rfl ?_
      obtain ⟨v13, e14, hf⟩ := obd hf
      refine o_gfR dX14_turnsAbout_37 lk_X14_21 rfl e14 ?_
      refine a_bipush (v := 16) dX14_turnsAbout_40 (by decide) ?_
      refine a_iload_n (q := 2) dX14_turnsAbout_42 rfl rfl ?_
      refine a_imul dX14_turnsAbout_43 ?_
      refine a_aload_n (q := 1) dX14_turnsAbout_44 rfl rfl ?_
      obtain ⟨v15, e16, hf⟩ := obd hf
      refine o_gfR dX14_turnsAbout_45 lk_X14_18 rfl e16 ?_
      refine a_iload_n (q := 2) dX14_turnsAbout_48 rfl rfl ?_
      obtain ⟨v17, e18, hf⟩ := obd hf
      refine o_alI dX14_turnsAbout_49 e18 ?_
      refine a_iadd dX14_turnsAbout_50 ?_
      refine a_iconst (v := 1) dX14_turnsAbout_51 (by decide) ?_
      refine a_isub dX14_turnsAbout_52 ?_
      refine a_iload_n (q := 3) dX14_turnsAbout_53 rfl rfl ?_
      refine a_isub dX14_turnsAbout_54 ?_
      obtain ⟨v19, e20, hf⟩ := obd hf
      refine o_alI dX14_turnsAbout_55 e20 ?_
      obtain ⟨h21, e22, hf⟩ := obd hf
      refine o_asI dX14_turnsAbout_56 e22 ?_
      refine a_aload_n (q := 1) dX14_turnsAbout_57 rfl rfl ?_
      obtain ⟨v23, e24, hf⟩ := obd hf
      refine o_gfR dX14_turnsAbout_58 lk_X14_21 rfl e24 ?_
      refine a_bipush (v := 16) dX14_turnsAbout_61 (by decide) ?_
      refine a_iload_n (q := 2) dX14_turnsAbout_63 rfl rfl ?_
      refine a_imul dX14_turnsAbout_64 ?_
      refine a_aload_n (q := 1) dX14_turnsAbout_65 rfl rfl ?_
      obtain ⟨v25, e26, hf⟩ := obd hf
      refine o_gfR dX14_turnsAbout_66 lk_X14_18 rfl e26 ?_
      refine a_iload_n (q := 2) dX14_turnsAbout_69 rfl rfl ?_
      obtain ⟨v27, e28, hf⟩ := obd hf
      refine o_alI dX14_turnsAbout_70 e28 ?_
      refine a_iadd dX14_turnsAbout_71 ?_
      refine a_iconst (v := 1) dX14_turnsAbout_72 (by decide) ?_
      refine a_isub dX14_turnsAbout_73 ?_
      refine a_iload_n (q := 3) dX14_turnsAbout_74 rfl rfl ?_
      refine a_isub dX14_turnsAbout_75 ?_
      refine a_iload_n (q := 0) dX14_turnsAbout_76 rfl rfl ?_
      obtain ⟨h29, e30, hf⟩ := obd hf
      refine o_asI dX14_turnsAbout_77 e30 ?_
      refine a_iinc (q := 3) (v := (x2 + 1)) (lv1 := [(2, .int (x2 + 1)), (3, .int v9), (0, .ref x0), (1, .int x1)]) dX14_turnsAbout_78 rfl (by rfl) (by decide) rfl ?_
      refine a_goto (tgt := 2) dX14_turnsAbout_81 (by decide) ?_
      exact AW.sub [2, 3, 0] rfl (ih _ _ _ _ _ hf hk0)
set_option maxHeartbeats 4000000 in
set_option maxRecDepth 100000 in
theorem sX14_turnsAbout (E : gE) (D : Nat) (hD : 0 ≤ D) {a0 : Nat} {a1 : Int32} {h hz : hp} (hf : fX14_turnsAbout a0 a1 h = some hz) : MC E yX14_turnsAbout cX14_turnsAbout (Option.none : Option Jvm.ClassFile.FieldType) 4 D [.ref a0, .int a1] h none hz := by
  refine MC.of (by decide +kernel) (Nat.le_of_ble_eq_true rfl) rfl ?_
  unfold fX14_turnsAbout at hf
  show AW E yX14_turnsAbout cX14_turnsAbout (Option.none : Option Jvm.ClassFile.FieldType) 4 D none h hz 0 [(0, .ref a0), (1, .int a1)] [] h
  refine a_iconst (v := 0) dX14_turnsAbout_0 (by decide) ?_
  refine a_istore_n (lv1 := [(2, .int 0), (0, .ref a0), (1, .int a1)]) dX14_turnsAbout_1 rfl (by decide) rfl ?_
  obtain ⟨h2, e1, hf⟩ := obd hf
  refine AW.sub [1, 2, 0] rfl (sX14_turnsAbout_l2 E D hD _ _ _ _ _ _ e1 ?_)
  obtain rfl := Option.some.inj hf
  exact a_return dX14_turnsAbout_84 rfl
def fX14_sorts_l27 : Nat → Nat → Int32 → Int32 → Int32 → Int32 → hp → Option (Int32 × hp)
  | 0, _, _, _, _, _, _ => none
  | n + 1, x0, x1, x2, x3, x4, h =>
    if x4 ≤ 0 then (
      some (x4, h)
    ) else (
      (gfR h x0 13 3).bind fun v1 =>
      (alI h v1 (((16 * x1) + x4) - 1)).bind fun v3 =>
      if v3 ≤ x3 then (
        some (x4, h)
      ) else (
        (gfR h x0 13 3).bind fun v5 =>
        (gfR h x0 13 3).bind fun v7 =>
        (alI h v7 (((16 * x1) + x4) - 1)).bind fun v9 =>
        (asI h v5 ((16 * x1) + x4) v9).bind fun h11 =>
        fX14_sorts_l27 n x0 x1 x2 x3 (x4 + (-1)) h11
      )
    )
def fX14_sorts_l2 : Nat → Nat → Int32 → Int32 → hp → Option hp
  | 0, _, _, _, _ => none
  | n + 1, x0, x1, x2, h =>
    (gfR h x0 13 2).bind fun v1 =>
    (alI h v1 x1).bind fun v3 =>
    if v3 ≤ x2 then (
      some (h)
    ) else (
      (gfR h x0 13 3).bind fun v5 =>
      (alI h v5 ((16 * x1) + x2)).bind fun v7 =>
      bd2 (fX14_sorts_l27 FU x0 x1 x2 v7 x2 h) fun v11 h10 =>
      (gfR h10 x0 13 3).bind fun v12 =>
      (asI h10 v12 ((16 * x1) + v11) v7).bind fun h14 =>
      fX14_sorts_l2 n x0 x1 (x2 + 1) h14
    )
def fX14_sorts (a0 : Nat) (a1 : Int32) (h : hp) : Option hp :=
  (fX14_sorts_l2 FU a0 a1 1 h).bind fun h2 =>
  some h2
set_option maxHeartbeats 4000000 in
set_option maxRecDepth 100000 in
theorem sX14_sorts_l27 (E : gE) (D : Nat) (hD : 0 ≤ D) {rz : Option Value} {h0 hz : hp} : ∀ (n : Nat) (x0 : Nat) (x1 : Int32) (x2 : Int32) (x3 : Int32) (x4 : Int32) (h : hp) (m4 : Int32) (hq : hp), fX14_sorts_l27 n x0 x1 x2 x3 x4 h = some (m4, hq) → (AW E yX14_sorts cX14_sorts (Option.none : Option Jvm.ClassFile.FieldType) 5 D rz h0 hz 82 [(0, .ref x0), (1, .int x1), (2, .int x2), (3, .int x3), (4, .int m4)] [] hq) → AW E yX14_sorts cX14_sorts (Option.none : Option Jvm.ClassFile.FieldType) 5 D rz h0 hz 27 [(0, .ref x0), (1, .int x1), (2, .int x2), (3, .int x3), (4, .int x4)] [] h := by
  intro n
  induction n with
  | zero =>
    intro x0 x1 x2 x3 x4 h m4 hq hf _
    rw [fX14_sorts_l27] at hf
    cases hf
  | succ n ih =>
    intro x0 x1 x2 x3 x4 h m4 hq hf hk0
    rw [fX14_sorts_l27] at hf
    refine a_iload (q := 4) dX14_sorts_27 rfl ?_
    refine a_if_le (tgt := 82) dX14_sorts_29 (by decide) (fun c => ?_) (fun c => ?_)
    · have hf := ifp c hf
      obtain ⟨rfl, rfl⟩ := oc2 hf
      exact hk0
    · have hf := ifn c hf
      refine a_aload_n (q := 0) dX14_sorts_32 rfl rfl ?_
      obtain ⟨v1, e2, hf⟩ := obd hf
      refine o_gfR dX14_sorts_33 lk_X14_21 rfl e2 ?_
      refine a_bipush (v := 16) dX14_sorts_36 (by decide) ?_
      refine a_iload_n (q := 1) dX14_sorts_38 rfl rfl ?_
      refine a_imul dX14_sorts_39 ?_
      refine a_iload (q := 4) dX14_sorts_40 rfl ?_
      refine a_iadd dX14_sorts_42 ?_
      refine a_iconst (v := 1) dX14_sorts_43 (by decide) ?_
      refine a_isub dX14_sorts_44 ?_
      obtain ⟨v3, e4, hf⟩ := obd hf
      refine o_alI dX14_sorts_45 e4 ?_
      refine a_iload_n (q := 3) dX14_sorts_46 rfl rfl ?_
      refine a_icmp_le (tgt := 82) dX14_sorts_47 (by decide) (fun c => ?_) (fun c => ?_)
      · have hf := ifp c hf
        obtain ⟨rfl, rfl⟩ := oc2 hf
        exact hk0
      · have hf := ifn c hf
        refine a_aload_n (q := 0) dX14_sorts_50 rfl rfl ?_
        obtain ⟨v5, e6, hf⟩ := obd hf
        refine o_gfR dX14_sorts_51 lk_X14_21 rfl e6 ?_
        refine a_bipush (v := 16) dX14_sorts_54 (by decide) ?_
        refine a_iload_n (q := 1) dX14_sorts_56 rfl rfl ?_
        refine a_imul dX14_sorts_57 ?_
        refine a_iload (q := 4) dX14_sorts_58 rfl ?_
        refine a_iadd dX14_sorts_60 ?_
        refine a_aload_n (q := 0) dX14_sorts_61 rfl rfl ?_
        obtain ⟨v7, e8, hf⟩ := obd hf
        refine o_gfR dX14_sorts_62 lk_X14_21 rfl e8 ?_
        refine a_bipush (v := 16) dX14_sorts_65 (by decide) ?_
        refine a_iload_n (q := 1) dX14_sorts_67 rfl rfl ?_
        refine a_imul dX14_sorts_68 ?_
        refine a_iload (q := 4) dX14_sorts_69 rfl ?_
        refine a_iadd dX14_sorts_71 ?_
        refine a_iconst (v := 1) dX14_sorts_72 (by decide) ?_
        refine a_isub dX14_sorts_73 ?_
        obtain ⟨v9, e10, hf⟩ := obd hf
        refine o_alI dX14_sorts_74 e10 ?_
        obtain ⟨h11, e12, hf⟩ := obd hf
        refine o_asI dX14_sorts_75 e12 ?_
        refine a_iinc (q := 4) (v := (x4 + (-1))) (lv1 := [(4, .int (x4 + (-1))), (0, .ref x0), (1, .int x1), (2, .int x2), (3, .int x3)]) dX14_sorts_76 rfl (by rfl) (by decide) rfl ?_
        refine a_goto (tgt := 27) dX14_sorts_79 (by decide) ?_
        exact AW.sub [1, 2, 3, 4, 0] rfl (ih _ _ _ _ _ _ _ _ hf hk0)
set_option maxHeartbeats 4000000 in
set_option maxRecDepth 100000 in
theorem sX14_sorts_l2 (E : gE) (D : Nat) (hD : 0 ≤ D) {rz : Option Value} {h0 hz : hp} : ∀ (n : Nat) (x0 : Nat) (x1 : Int32) (x2 : Int32) (h : hp) (hq : hp), fX14_sorts_l2 n x0 x1 x2 h = some hq → (AW E yX14_sorts cX14_sorts (Option.none : Option Jvm.ClassFile.FieldType) 5 D rz h0 hz 101 [] [] hq) → AW E yX14_sorts cX14_sorts (Option.none : Option Jvm.ClassFile.FieldType) 5 D rz h0 hz 2 [(0, .ref x0), (1, .int x1), (2, .int x2)] [] h := by
  intro n
  induction n with
  | zero =>
    intro x0 x1 x2 h hq hf _
    rw [fX14_sorts_l2] at hf
    cases hf
  | succ n ih =>
    intro x0 x1 x2 h hq hf hk0
    rw [fX14_sorts_l2] at hf
    refine a_iload_n (q := 2) dX14_sorts_2 rfl rfl ?_
    refine a_aload_n (q := 0) dX14_sorts_3 rfl rfl ?_
    obtain ⟨v1, e2, hf⟩ := obd hf
    refine o_gfR dX14_sorts_4 lk_X14_18 rfl e2 ?_
    refine a_iload_n (q := 1) dX14_sorts_7 rfl rfl ?_
    obtain ⟨v3, e4, hf⟩ := obd hf
    refine o_alI dX14_sorts_8 e4 ?_
    refine a_icmp_ge (tgt := 101) dX14_sorts_9 (by decide) (fun c => ?_) (fun c => ?_)
    · have hf := ifp c hf
      obtain rfl := Option.some.inj hf
      exact AW.sub [] rfl (hk0)
    · have hf := ifn c hf
      refine a_aload_n (q := 0) dX14_sorts_12 rfl rfl ?_
      obtain ⟨v5, e6, hf⟩ := obd hf
      refine o_gfR dX14_sorts_13 lk_X14_21 rfl e6 ?_
      refine a_bipush (v := 16) dX14_sorts_16 (by decide) ?_
      refine a_iload_n (q := 1) dX14_sorts_18 rfl rfl ?_
      refine a_imul dX14_sorts_19 ?_
      refine a_iload_n (q := 2) dX14_sorts_20 rfl rfl ?_
      refine a_iadd dX14_sorts_21 ?_
      obtain ⟨v7, e8, hf⟩ := obd hf
      refine o_alI dX14_sorts_22 e8 ?_
      refine a_istore_n (lv1 := [(3, .int v7), (0, .ref x0), (1, .int x1), (2, .int x2)]) dX14_sorts_23 rfl (by decide) rfl ?_
      refine a_iload_n (q := 3) dX14_sorts_24 rfl rfl ?_
      refine a_istore (lv1 := [(4, .int x2), (3, .int v7), (0, .ref x0), (1, .int x1), (2, .int x2)]) dX14_sorts_25 (by decide) rfl ?_
      obtain ⟨v11, h10, e9, hf⟩ := ob2 hf
      refine AW.sub [2, 3, 4, 1, 0] rfl (sX14_sorts_l27 E D hD _ _ _ _ _ _ _ _ _ e9 ?_)
      refine a_aload_n (q := 0) dX14_sorts_82 rfl rfl ?_
      obtain ⟨v12, e13, hf⟩ := obd hf
      refine o_gfR dX14_sorts_83 lk_X14_21 rfl e13 ?_
      refine a_bipush (v := 16) dX14_sorts_86 (by decide) ?_
      refine a_iload_n (q := 1) dX14_sorts_88 rfl rfl ?_
      refine a_imul dX14_sorts_89 ?_
      refine a_iload (q := 4) dX14_sorts_90 rfl ?_
      refine a_iadd dX14_sorts_92 ?_
      refine a_iload_n (q := 3) dX14_sorts_93 rfl rfl ?_
      obtain ⟨h14, e15, hf⟩ := obd hf
      refine o_asI dX14_sorts_94 e15 ?_
      refine a_iinc (q := 2) (v := (x2 + 1)) (lv1 := [(2, .int (x2 + 1)), (0, .ref x0), (1, .int x1), (3, .int v7), (4, .int v11)]) dX14_sorts_95 rfl (by rfl) (by decide) rfl ?_
      refine a_goto (tgt := 2) dX14_sorts_98 (by decide) ?_
      exact AW.sub [1, 2, 0] rfl (ih _ _ _ _ _ hf hk0)
set_option maxHeartbeats 4000000 in
set_option maxRecDepth 100000 in
theorem sX14_sorts (E : gE) (D : Nat) (hD : 0 ≤ D) {a0 : Nat} {a1 : Int32} {h hz : hp} (hf : fX14_sorts a0 a1 h = some hz) : MC E yX14_sorts cX14_sorts (Option.none : Option Jvm.ClassFile.FieldType) 5 D [.ref a0, .int a1] h none hz := by
  refine MC.of (by decide +kernel) (Nat.le_of_ble_eq_true rfl) rfl ?_
  unfold fX14_sorts at hf
  show AW E yX14_sorts cX14_sorts (Option.none : Option Jvm.ClassFile.FieldType) 5 D none h hz 0 [(0, .ref a0), (1, .int a1)] [] h
  refine a_iconst (v := 1) dX14_sorts_0 (by decide) ?_
  refine a_istore_n (lv1 := [(2, .int 1), (0, .ref a0), (1, .int a1)]) dX14_sorts_1 rfl (by decide) rfl ?_
  obtain ⟨h2, e1, hf⟩ := obd hf
  refine AW.sub [1, 2, 0] rfl (sX14_sorts_l2 E D hD _ _ _ _ _ _ e1 ?_)
  obtain rfl := Option.some.inj hf
  exact a_return dX14_sorts_101 rfl
def fX14_becomes (a0 : Nat) (a1 : Int32) (a2 : Int64) (h : hp) : Option (Int32 × hp) :=
  bd2 (fX14_isIn a2 (-1000000) 1000000 h) fun v2 h3 =>
  if v2 = 0 then (
    some (4, h3)
  ) else (
    (ckT h3 a0 13).bind fun _ =>
    (fX14_isInt a0 a1 (a2.toInt32) h3).bind fun h5 =>
    some (0, h5)
  )
set_option maxHeartbeats 4000000 in
set_option maxRecDepth 100000 in
theorem sX14_becomes (E : gE) (D : Nat) (hD : 1 ≤ D) {a0 : Nat} {a1 : Int32} {a2 : Int64} {h hz : hp} {v0 : Int32} (hf : fX14_becomes a0 a1 a2 h = some (v0, hz)) : MC E yX14_becomes cX14_becomes (Option.some Jvm.ClassFile.FieldType.int) 4 D [.ref a0, .int a1, .long a2] h (some (.int v0)) hz := by
  refine MC.of (by decide +kernel) (Nat.le_of_ble_eq_true rfl) rfl ?_
  unfold fX14_becomes at hf
  show AW E yX14_becomes cX14_becomes (Option.some Jvm.ClassFile.FieldType.int) 4 D (some (.int v0)) h hz 0 [(0, .ref a0), (1, .int a1), (2, .long a2)] [] h
  refine a_lload_n (q := 2) dX14_becomes_0 rfl rfl ?_
  refine a_ldc2 (v := (-1000000)) dX14_becomes_1 wd_1590 ?_
  refine a_ldc2 (v := 1000000) dX14_becomes_4 wd_1591 ?_
  obtain ⟨v2, h3, e1, hf⟩ := ob2 hf
  refine a_callS (as := [.long a2, .long (-1000000), .long 1000000]) (np := 3) (st := []) (sX14_isIn E (D - 1) (by omega) e1) dX14_becomes_7 rfl (by omega) (by decide) cw_X14_155 wd_1324 rfl (Nat.le_of_ble_eq_true rfl) ?_
  refine a_if_ne (tgt := 15) dX14_becomes_10 (by decide) (fun c => ?_) (fun c => ?_)
  · have hf := ifn c hf
    refine a_aload_n (q := 0) dX14_becomes_15 rfl rfl ?_
    refine a_iload_n (q := 1) dX14_becomes_16 rfl rfl ?_
    refine a_lload_n (q := 2) dX14_becomes_17 rfl rfl ?_
    refine a_l2i dX14_becomes_18 rfl ?_
    obtain ⟨_, e6, hf⟩ := obd hf
    obtain ⟨h5, e4, hf⟩ := obd hf
    refine a_callV (as := [.int a1, .int (a2.toInt32)]) (np := 2) (ci := 13) (st := []) (sX14_isInt E (D - 1) (by omega) e4) dX14_becomes_19 rfl (by omega) (by decide) cw_X14_171 ⟨wd_1515, ws_100⟩ rfl (ckT_s e6) rfl (Nat.le_of_ble_eq_true rfl) ?_
    refine a_iconst (v := 0) dX14_becomes_22 (by decide) ?_
    obtain ⟨rfl, rfl⟩ := oc2 hf
    exact a_ireturn dX14_becomes_23 rfl
  · have hf := ifp c hf
    refine a_iconst (v := 4) dX14_becomes_13 (by decide) ?_
    obtain ⟨rfl, rfl⟩ := oc2 hf
    exact a_ireturn dX14_becomes_14 rfl
def fX14_sums_l5 : Nat → Nat → Int32 → Int64 → Int32 → hp → Option (Int64 × hp)
  | 0, _, _, _, _, _ => none
  | n + 1, x0, x1, x2, x4, h =>
    (gfR h x0 13 2).bind fun v1 =>
    (alI h v1 x1).bind fun v3 =>
    if v3 ≤ x4 then (
      some (x2, h)
    ) else (
      (gfR h x0 13 3).bind fun v5 =>
      (alI h v5 ((16 * x1) + x4)).bind fun v7 =>
      fX14_sums_l5 n x0 x1 (x2 + (v7.toInt64)) (x4 + 1) h
    )
def fX14_sums (a0 : Nat) (a1 : Int32) (h : hp) : Option (Int32 × hp) :=
  bd2 (fX14_sums_l5 FU a0 a1 0 0 h) fun v3 h2 =>
  (ckT h2 a0 13).bind fun _ =>
  bd2 (fX14_becomes a0 a1 v3 h2) fun v5 h6 =>
  some (v5, h6)
set_option maxHeartbeats 4000000 in
set_option maxRecDepth 100000 in
theorem sX14_sums_l5 (E : gE) (D : Nat) (hD : 2 ≤ D) {rz : Option Value} {h0 hz : hp} : ∀ (n : Nat) (x0 : Nat) (x1 : Int32) (x2 : Int64) (x4 : Int32) (h : hp) (m2 : Int64) (hq : hp), fX14_sums_l5 n x0 x1 x2 x4 h = some (m2, hq) → (AW E yX14_sums cX14_sums (Option.some Jvm.ClassFile.FieldType.int) 5 D rz h0 hz 38 [(0, .ref x0), (1, .int x1), (2, .long m2)] [] hq) → AW E yX14_sums cX14_sums (Option.some Jvm.ClassFile.FieldType.int) 5 D rz h0 hz 5 [(0, .ref x0), (1, .int x1), (2, .long x2), (4, .int x4)] [] h := by
  intro n
  induction n with
  | zero =>
    intro x0 x1 x2 x4 h m2 hq hf _
    rw [fX14_sums_l5] at hf
    cases hf
  | succ n ih =>
    intro x0 x1 x2 x4 h m2 hq hf hk0
    rw [fX14_sums_l5] at hf
    refine a_iload (q := 3) dX14_sums_5 rfl ?_
    refine a_aload_n (q := 0) dX14_sums_7 rfl rfl ?_
    obtain ⟨v1, e2, hf⟩ := obd hf
    refine o_gfR dX14_sums_8 lk_X14_18 rfl e2 ?_
    refine a_iload_n (q := 1) dX14_sums_11 rfl rfl ?_
    obtain ⟨v3, e4, hf⟩ := obd hf
    refine o_alI dX14_sums_12 e4 ?_
    refine a_icmp_ge (tgt := 38) dX14_sums_13 (by decide) (fun c => ?_) (fun c => ?_)
    · have hf := ifp c hf
      obtain ⟨rfl, rfl⟩ := oc2 hf
      exact AW.sub [0, 1, 2] rfl (hk0)
    · have hf := ifn c hf
      refine a_lload_n (q := 2) dX14_sums_16 rfl rfl ?_
      refine a_aload_n (q := 0) dX14_sums_17 rfl rfl ?_
      obtain ⟨v5, e6, hf⟩ := obd hf
      refine o_gfR dX14_sums_18 lk_X14_21 rfl e6 ?_
      refine a_bipush (v := 16) dX14_sums_21 (by decide) ?_
      refine a_iload_n (q := 1) dX14_sums_23 rfl rfl ?_
      refine a_imul dX14_sums_24 ?_
      refine a_iload (q := 3) dX14_sums_25 rfl ?_
      refine a_iadd dX14_sums_27 ?_
      obtain ⟨v7, e8, hf⟩ := obd hf
      refine o_alI dX14_sums_28 e8 ?_
      refine a_i2l dX14_sums_29 rfl ?_
      refine a_ladd dX14_sums_30 ?_
      refine a_lstore_n (lv1 := [(2, .long (x2 + (v7.toInt64))), (0, .ref x0), (1, .int x1), (4, .int x4)]) dX14_sums_31 rfl (by decide) rfl ?_
      refine a_iinc (q := 3) (v := (x4 + 1)) (lv1 := [(4, .int (x4 + 1)), (2, .long (x2 + (v7.toInt64))), (0, .ref x0), (1, .int x1)]) dX14_sums_32 rfl (by rfl) (by decide) rfl ?_
      refine a_goto (tgt := 5) dX14_sums_35 (by decide) ?_
      exact AW.sub [2, 3, 1, 0] rfl (ih _ _ _ _ _ _ _ hf hk0)
set_option maxHeartbeats 4000000 in
set_option maxRecDepth 100000 in
theorem sX14_sums (E : gE) (D : Nat) (hD : 2 ≤ D) {a0 : Nat} {a1 : Int32} {h hz : hp} {v0 : Int32} (hf : fX14_sums a0 a1 h = some (v0, hz)) : MC E yX14_sums cX14_sums (Option.some Jvm.ClassFile.FieldType.int) 5 D [.ref a0, .int a1] h (some (.int v0)) hz := by
  refine MC.of (by decide +kernel) (Nat.le_of_ble_eq_true rfl) rfl ?_
  unfold fX14_sums at hf
  show AW E yX14_sums cX14_sums (Option.some Jvm.ClassFile.FieldType.int) 5 D (some (.int v0)) h hz 0 [(0, .ref a0), (1, .int a1)] [] h
  refine a_lconst (v := 0) dX14_sums_0 (by decide) ?_
  refine a_lstore_n (lv1 := [(2, .long 0), (0, .ref a0), (1, .int a1)]) dX14_sums_1 rfl (by decide) rfl ?_
  refine a_iconst (v := 0) dX14_sums_2 (by decide) ?_
  refine a_istore (lv1 := [(4, .int 0), (2, .long 0), (0, .ref a0), (1, .int a1)]) dX14_sums_3 (by decide) rfl ?_
  obtain ⟨v3, h2, e1, hf⟩ := ob2 hf
  refine AW.sub [2, 3, 1, 0] rfl (sX14_sums_l5 E D hD _ _ _ _ _ _ _ _ e1 ?_)
  refine a_aload_n (q := 0) dX14_sums_38 rfl rfl ?_
  refine a_iload_n (q := 1) dX14_sums_39 rfl rfl ?_
  refine a_lload_n (q := 2) dX14_sums_40 rfl rfl ?_
  obtain ⟨_, e7, hf⟩ := obd hf
  obtain ⟨v5, h6, e4, hf⟩ := ob2 hf
  refine a_callV (as := [.int a1, .long v3]) (np := 2) (ci := 13) (st := []) (sX14_becomes E (D - 1) (by omega) e4) dX14_sums_41 rfl (by omega) (by decide) cw_X14_175 ⟨wd_1588, ws_110⟩ rfl (ckT_s e7) rfl (Nat.le_of_ble_eq_true rfl) ?_
  obtain ⟨rfl, rfl⟩ := oc2 hf
  exact a_ireturn dX14_sums_44 rfl
def fX14_ends (a0 : Nat) (a1 : Int32) (a2 : Int32) (h : hp) : Option hp :=
  (gfR h a0 13 2).bind fun v1 =>
  (alI h v1 a1).bind fun v3 =>
  jn (fun (s14_0 : Int32) (h14j : hp) => (
    jn (fun (s34_0 : Int32) (h34j : hp) => (
      (gfR h34j a0 13 0).bind fun v5 =>
      (alI h34j v5 a1).bind fun v7 =>
      if v7 = 3 then (
        (gfR h34j a0 13 3).bind fun v16 =>
        (asI h34j v16 (16 * a1) s34_0).bind fun h18 =>
        (gfR h18 a0 13 2).bind fun v20 =>
        jn (fun (s71_0 : Int32) (h71j : hp) => (
          (asI h71j v20 a1 s71_0).bind fun h22 =>
          some h22
          : Option hp)) fun k71 =>
        if s14_0 = 0 then (
          k71 0 h18
        ) else (
          k71 1 h18
        )
      ) else (
        if s14_0 = 0 then (
          (gfR h34j a0 13 0).bind fun v9 =>
          (asI h34j v9 a1 0).bind fun h11 =>
          some h11
        ) else (
          (ckT h34j a0 13).bind fun _ =>
          (fX14_isInt a0 a1 s34_0 h34j).bind fun h14 =>
          some h14
        )
      )
      : Option hp)) fun k34 =>
    if s14_0 = 0 then (
      k34 0 h14j
    ) else (
      (gfR h14j a0 13 3).bind fun v24 =>
      (alI h14j v24 ((16 * a1) + a2)).bind fun v26 =>
      k34 v26 h14j
    )
    : Option hp)) fun k14 =>
  if v3 ≤ 0 then (
    k14 0 h
  ) else (
    k14 1 h
  )
set_option maxHeartbeats 4000000 in
set_option maxRecDepth 100000 in
theorem sX14_ends (E : gE) (D : Nat) (hD : 1 ≤ D) {a0 : Nat} {a1 : Int32} {a2 : Int32} {h hz : hp} (hf : fX14_ends a0 a1 a2 h = some hz) : MC E yX14_ends cX14_ends (Option.none : Option Jvm.ClassFile.FieldType) 5 D [.ref a0, .int a1, .int a2] h none hz := by
  refine MC.of (by decide +kernel) (Nat.le_of_ble_eq_true rfl) rfl ?_
  unfold fX14_ends at hf
  show AW E yX14_ends cX14_ends (Option.none : Option Jvm.ClassFile.FieldType) 5 D none h hz 0 [(0, .ref a0), (1, .int a1), (2, .int a2)] [] h
  refine a_aload_n (q := 0) dX14_ends_0 rfl rfl ?_
  obtain ⟨v1, e2, hf⟩ := obd hf
  refine o_gfR dX14_ends_1 lk_X14_18 rfl e2 ?_
  refine a_iload_n (q := 1) dX14_ends_4 rfl rfl ?_
  obtain ⟨v3, e4, hf⟩ := obd hf
  refine o_alI dX14_ends_5 e4 ?_
  obtain ⟨k14, ek14, hf⟩ := jn_s hf
  have hj14 : ∀ (s14_0 : Int32) (h14j : hp), k14 s14_0 h14j = some hz → AW E yX14_ends cX14_ends (Option.none : Option Jvm.ClassFile.FieldType) 5 D none h hz 14 [(0, .ref a0), (1, .int a1), (2, .int a2)] [.int s14_0] h14j := by
    intro s14_0 h14j hf
    rw [ek14] at hf
    clear ek14
    refine a_istore_n (lv1 := [(3, .int s14_0), (0, .ref a0), (1, .int a1), (2, .int a2)]) dX14_ends_14 rfl (by decide) rfl ?_
    refine a_iload_n (q := 0) dX14_ends_15 rfl rfl ?_
    obtain ⟨k34, ek34, hf⟩ := jn_s hf
    have hj34 : ∀ (s34_0 : Int32) (h34j : hp), k34 s34_0 h34j = some hz → AW E yX14_ends cX14_ends (Option.none : Option Jvm.ClassFile.FieldType) 5 D none h hz 34 [(0, .ref a0), (1, .int a1), (3, .int s14_0)] [.int s34_0] h34j := by
      intro s34_0 h34j hf
      rw [ek34] at hf
      clear ek34
      refine a_istore (lv1 := [(4, .int s34_0), (0, .ref a0), (1, .int a1), (3, .int s14_0)]) dX14_ends_34 (by decide) rfl ?_
      refine a_aload_n (q := 1) dX14_ends_36 rfl rfl ?_
      obtain ⟨v5, e6, hf⟩ := obd hf
      refine o_gfR dX14_ends_37 lk_X14_11 rfl e6 ?_
      refine a_iload_n (q := 2) dX14_ends_40 rfl rfl ?_
      obtain ⟨v7, e8, hf⟩ := obd hf
      refine o_alI dX14_ends_41 e8 ?_
      refine a_iconst (v := 3) dX14_ends_42 (by decide) ?_
      refine a_icmp_ne (tgt := 75) dX14_ends_43 (by decide) (fun c => ?_) (fun c => ?_)
      · have hf := ifn c hf
        refine a_iload_n (q := 3) dX14_ends_75 rfl rfl ?_
        refine a_if_eq (tgt := 89) dX14_ends_76 (by decide) (fun c => ?_) (fun c => ?_)
        · have hf := ifp c hf
          refine a_aload_n (q := 1) dX14_ends_89 rfl rfl ?_
          obtain ⟨v9, e10, hf⟩ := obd hf
          refine o_gfR dX14_ends_90 lk_X14_11 rfl e10 ?_
          refine a_iload_n (q := 2) dX14_ends_93 rfl rfl ?_
          refine a_iconst (v := 0) dX14_ends_94 (by decide) ?_
          obtain ⟨h11, e12, hf⟩ := obd hf
          refine o_asI dX14_ends_95 e12 ?_
          obtain rfl := Option.some.inj hf
          exact a_return dX14_ends_96 rfl
        · have hf := ifn c hf
          refine a_aload_n (q := 1) dX14_ends_79 rfl rfl ?_
          refine a_iload_n (q := 2) dX14_ends_80 rfl rfl ?_
          refine a_iload (q := 0) dX14_ends_81 rfl ?_
          obtain ⟨_, e15, hf⟩ := obd hf
          obtain ⟨h14, e13, hf⟩ := obd hf
          refine a_callV (as := [.int a1, .int s34_0]) (np := 2) (ci := 13) (st := []) (sX14_isInt E (D - 1) (by omega) e13) dX14_ends_83 rfl (by omega) (by decide) cw_X14_171 ⟨wd_1515, ws_100⟩ rfl (ckT_s e15) rfl (Nat.le_of_ble_eq_true rfl) ?_
          refine a_goto (tgt := 96) dX14_ends_86 (by decide) ?_
          obtain rfl := Option.some.inj hf
          exact a_return dX14_ends_96 rfl
      · have hf := ifp c hf
        refine a_aload_n (q := 1) dX14_ends_46 rfl rfl ?_
        obtain ⟨v16, e17, hf⟩ := obd hf
        refine o_gfR dX14_ends_47 lk_X14_21 rfl e17 ?_
        refine a_bipush (v := 16) dX14_ends_50 (by decide) ?_
        refine a_iload_n (q := 2) dX14_ends_52 rfl rfl ?_
        refine a_imul dX14_ends_53 ?_
        refine a_iload (q := 0) dX14_ends_54 rfl ?_
        obtain ⟨h18, e19, hf⟩ := obd hf
        refine o_asI dX14_ends_56 e19 ?_
        refine a_aload_n (q := 1) dX14_ends_57 rfl rfl ?_
        obtain ⟨v20, e21, hf⟩ := obd hf
        refine o_gfR dX14_ends_58 lk_X14_18 rfl e21 ?_
        refine a_iload_n (q := 2) dX14_ends_61 rfl rfl ?_
        refine a_iload_n (q := 3) dX14_ends_62 rfl rfl ?_
        obtain ⟨k71, ek71, hf⟩ := jn_s hf
        have hj71 : ∀ (s71_0 : Int32) (h71j : hp), k71 s71_0 h71j = some hz → AW E yX14_ends cX14_ends (Option.none : Option Jvm.ClassFile.FieldType) 5 D none h hz 71 [] [.int s71_0, .int a1, .ref v20] h71j := by
          intro s71_0 h71j hf
          rw [ek71] at hf
          clear ek71
          obtain ⟨h22, e23, hf⟩ := obd hf
          refine o_asI dX14_ends_71 e23 ?_
          refine a_goto (tgt := 96) dX14_ends_72 (by decide) ?_
          obtain rfl := Option.some.inj hf
          exact a_return dX14_ends_96 rfl
        clear ek71
        refine a_if_eq (tgt := 70) dX14_ends_63 (by decide) (fun c => ?_) (fun c => ?_)
        · have hf := ifp c hf
          refine a_iconst (v := 0) dX14_ends_70 (by decide) ?_
          exact AW.sub [] rfl (hj71 _ _ hf)
        · have hf := ifn c hf
          refine a_iconst (v := 1) dX14_ends_66 (by decide) ?_
          refine a_goto (tgt := 71) dX14_ends_67 (by decide) ?_
          exact AW.sub [] rfl (hj71 _ _ hf)
    clear ek34
    refine a_if_eq (tgt := 33) dX14_ends_16 (by decide) (fun c => ?_) (fun c => ?_)
    · have hf := ifp c hf
      refine a_iconst (v := 0) dX14_ends_33 (by decide) ?_
      exact AW.sub [1, 2, 0] rfl (hj34 _ _ hf)
    · have hf := ifn c hf
      refine a_aload_n (q := 1) dX14_ends_19 rfl rfl ?_
      obtain ⟨v24, e25, hf⟩ := obd hf
      refine o_gfR dX14_ends_20 lk_X14_21 rfl e25 ?_
      refine a_bipush (v := 16) dX14_ends_23 (by decide) ?_
      refine a_iload_n (q := 2) dX14_ends_25 rfl rfl ?_
      refine a_imul dX14_ends_26 ?_
      refine a_iload_n (q := 3) dX14_ends_27 rfl rfl ?_
      refine a_iadd dX14_ends_28 ?_
      obtain ⟨v26, e27, hf⟩ := obd hf
      refine o_alI dX14_ends_29 e27 ?_
      refine a_goto (tgt := 34) dX14_ends_30 (by decide) ?_
      exact AW.sub [1, 2, 0] rfl (hj34 _ _ hf)
  clear ek14
  refine a_if_le (tgt := 13) dX14_ends_6 (by decide) (fun c => ?_) (fun c => ?_)
  · have hf := ifp c hf
    refine a_iconst (v := 0) dX14_ends_13 (by decide) ?_
    exact hj14 _ _ hf
  · have hf := ifn c hf
    refine a_iconst (v := 1) dX14_ends_9 (by decide) ?_
    refine a_goto (tgt := 14) dX14_ends_10 (by decide) ?_
    exact hj14 _ _ hf
def fJxe99ae_isNaN_b9ae7 (a0 : UInt64) (h : hp) : Option (Int32 × hp) :=
  if (Op.cmpValue (FP.dcmp a0 a0) .l) = 0 then (
    some (0, h)
  ) else (
    some (1, h)
  )
set_option maxHeartbeats 4000000 in
set_option maxRecDepth 100000 in
theorem sJxe99ae_isNaN_b9ae7 (E : gE) (D : Nat) (hD : 0 ≤ D) {a0 : UInt64} {h hz : hp} {v0 : Int32} (hf : fJxe99ae_isNaN_b9ae7 a0 h = some (v0, hz)) : MC E yJxe99ae_isNaN_b9ae7 cJxe99ae_isNaN_b9ae7 (Option.some Jvm.ClassFile.FieldType.boolean) 2 D [.double a0] h (some (.int v0)) hz := by
  refine MC.of (by decide +kernel) (Nat.le_of_ble_eq_true rfl) rfl ?_
  unfold fJxe99ae_isNaN_b9ae7 at hf
  show AW E yJxe99ae_isNaN_b9ae7 cJxe99ae_isNaN_b9ae7 (Option.some Jvm.ClassFile.FieldType.boolean) 2 D (some (.int v0)) h hz 0 [(0, .double a0)] [] h
  refine a_dload_n (q := 0) dJxe99ae_isNaN_b9ae7_0 rfl rfl ?_
  refine a_dload_n (q := 0) dJxe99ae_isNaN_b9ae7_1 rfl rfl ?_
  refine a_dcmp dJxe99ae_isNaN_b9ae7_2 ?_
  refine a_if_eq (tgt := 10) dJxe99ae_isNaN_b9ae7_3 (by decide) (fun c => ?_) (fun c => ?_)
  · have hf := ifp c hf
    refine a_iconst (v := 0) dJxe99ae_isNaN_b9ae7_10 (by decide) ?_
    obtain ⟨rfl, rfl⟩ := oc2 hf
    exact a_zreturn dJxe99ae_isNaN_b9ae7_11 rfl (by decide)
  · have hf := ifn c hf
    refine a_iconst (v := 1) dJxe99ae_isNaN_b9ae7_6 (by decide) ?_
    refine a_goto (tgt := 11) dJxe99ae_isNaN_b9ae7_7 (by decide) ?_
    obtain ⟨rfl, rfl⟩ := oc2 hf
    exact a_zreturn dJxe99ae_isNaN_b9ae7_11 rfl (by decide)

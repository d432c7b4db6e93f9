def fX14_begins (a0 : Nat) (a1 : Int32) (a2 : Int32) (a3 : Int32) (h : hp) : Option hp :=
  (pfZ h a0 13 42 a3).bind fun h1 =>
  (pfZ h1 a0 13 43 0).bind fun h3 =>
  (pfI h3 a0 13 35 0).bind fun h5 =>
  (pfI h5 a0 13 36 0).bind fun h7 =>
  (pfI h7 a0 13 37 0).bind fun h9 =>
  (pfI h9 a0 13 30 0).bind fun h11 =>
  (pfI h11 a0 13 22 0).bind fun h13 =>
  (pfI h13 a0 13 23 a2).bind fun h15 =>
  (ckT h15 a0 13).bind fun _ =>
  (fX14_prints a0 0 a1 h15).bind fun h18 =>
  some h18
set_option maxHeartbeats 4000000 in
set_option maxRecDepth 100000 in
theorem sX14_begins (E : gE) (D : Nat) (hD : 409 ≤ D) {a0 : Nat} {a1 : Int32} {a2 : Int32} {a3 : Int32} {h hz : hp} (hf : fX14_begins a0 a1 a2 a3 h = some hz) : MC E yX14_begins cX14_begins (Option.none : Option Jvm.ClassFile.FieldType) 4 D [.ref a0, .int a1, .int a2, .int a3] h none hz := by
  refine MC.of (by decide +kernel) (Nat.le_of_ble_eq_true rfl) rfl ?_
  unfold fX14_begins at hf
  show AW E yX14_begins cX14_begins (Option.none : Option Jvm.ClassFile.FieldType) 4 D none h hz 0 [(0, .ref a0), (1, .int a1), (2, .int a2), (3, .int a3)] [] h
  refine a_aload_n (q := 0) dX14_begins_0 rfl rfl ?_
  refine a_iload_n (q := 3) dX14_begins_1 rfl rfl ?_
  obtain ⟨h1, e2, hf⟩ := obd hf
  refine o_pfZ dX14_begins_2 lk_X14_423 (⟨_, rfl, Or.inl rfl⟩) rfl e2 ?_
  refine a_aload_n (q := 0) dX14_begins_5 rfl rfl ?_
  refine a_iconst (v := 0) dX14_begins_6 (by decide) ?_
  obtain ⟨h3, e4, hf⟩ := obd hf
  refine o_pfZ dX14_begins_7 lk_X14_409 (⟨_, rfl, Or.inl rfl⟩) rfl e4 ?_
  refine a_aload_n (q := 0) dX14_begins_10 rfl rfl ?_
  refine a_iconst (v := 0) dX14_begins_11 (by decide) ?_
  obtain ⟨h5, e6, hf⟩ := obd hf
  refine o_pfI dX14_begins_12 lk_X14_438 (⟨_, rfl, Or.inl rfl⟩) rfl e6 ?_
  refine a_aload_n (q := 0) dX14_begins_15 rfl rfl ?_
  refine a_iconst (v := 0) dX14_begins_16 (by decide) ?_
  obtain ⟨h7, e8, hf⟩ := obd hf
  refine o_pfI dX14_begins_17 lk_X14_482 (⟨_, rfl, Or.inl rfl⟩) rfl e8 ?_
  refine a_aload_n (q := 0) dX14_begins_20 rfl rfl ?_
  refine a_iconst (v := 0) dX14_begins_21 (by decide) ?_
  obtain ⟨h9, e10, hf⟩ := obd hf
  refine o_pfI dX14_begins_22 lk_X14_350 (⟨_, rfl, Or.inl rfl⟩) rfl e10 ?_
  refine a_aload_n (q := 0) dX14_begins_25 rfl rfl ?_
  refine a_iconst (v := 0) dX14_begins_26 (by decide) ?_
  obtain ⟨h11, e12, hf⟩ := obd hf
  refine o_pfI dX14_begins_27 lk_X14_400 (⟨_, rfl, Or.inl rfl⟩) rfl e12 ?_
  refine a_aload_n (q := 0) dX14_begins_30 rfl rfl ?_
  refine a_iconst (v := 0) dX14_begins_31 (by decide) ?_
  obtain ⟨h13, e14, hf⟩ := obd hf
  refine o_pfI dX14_begins_32 lk_X14_378 (⟨_, rfl, Or.inl rfl⟩) rfl e14 ?_
  refine a_aload_n (q := 0) dX14_begins_35 rfl rfl ?_
  refine a_iload_n (q := 2) dX14_begins_36 rfl rfl ?_
  obtain ⟨h15, e16, hf⟩ := obd hf
  refine o_pfI dX14_begins_37 lk_X14_384 (⟨_, rfl, Or.inl rfl⟩) rfl e16 ?_
  refine a_aload_n (q := 0) dX14_begins_40 rfl rfl ?_
  refine a_iconst (v := 0) dX14_begins_41 (by decide) ?_
  refine a_iload_n (q := 1) dX14_begins_42 rfl rfl ?_
  obtain ⟨_, e19, hf⟩ := obd hf
  obtain ⟨h18, e17, hf⟩ := obd hf
  refine a_callV (as := [.int 0, .int a1]) (np := 2) (ci := 13) (st := []) (sX14_prints E (D - 1) (by omega) e17) dX14_begins_43 rfl (by omega) (by decide) cw_X14_488 ⟨wd_1455, ws_85⟩ rfl (ckT_s e19) rfl (Nat.le_of_ble_eq_true rfl) ?_
  obtain rfl := Option.some.inj hf
  exact a_return dX14_begins_46 rfl
def fX14_isTemplate (a0 : Int32) (h : hp) : Option (Int32 × hp) :=
  bd2 (fX14_isIn (a0.toInt64) 0 5 h) fun v2 h3 =>
  (zck v2).bind fun _ =>
  some (v2, h3)
set_option maxHeartbeats 4000000 in
set_option maxRecDepth 100000 in
theorem sX14_isTemplate (E : gE) (D : Nat) (hD : 1 ≤ D) {a0 : Int32} {h hz : hp} {v0 : Int32} (hf : fX14_isTemplate a0 h = some (v0, hz)) : MC E yX14_isTemplate cX14_isTemplate (Option.some Jvm.ClassFile.FieldType.boolean) 1 D [.int a0] h (some (.int v0)) hz := by
  refine MC.of (by decide +kernel) (Nat.le_of_ble_eq_true rfl) rfl ?_
  unfold fX14_isTemplate at hf
  show AW E yX14_isTemplate cX14_isTemplate (Option.some Jvm.ClassFile.FieldType.boolean) 1 D (some (.int v0)) h hz 0 [(0, .int a0)] [] h
  refine a_iload_n (q := 0) dX14_isTemplate_0 rfl rfl ?_
  refine a_i2l dX14_isTemplate_1 rfl ?_
  refine a_lconst (v := 0) dX14_isTemplate_2 (by decide) ?_
  refine a_ldc2 (v := 5) dX14_isTemplate_3 wd_1334 ?_
  obtain ⟨v2, h3, e1, hf⟩ := ob2 hf
  refine a_callS (as := [.long (a0.toInt64), .long 0, .long 5]) (np := 3) (st := []) (sX14_isIn E (D - 1) (by omega) e1) dX14_isTemplate_6 rfl (by omega) (by decide) cw_X14_155 wd_1324 rfl (Nat.le_of_ble_eq_true rfl) ?_
  obtain ⟨_, e4, hf⟩ := obd hf
  obtain ⟨rfl, rfl⟩ := oc2 hf
  exact a_zreturn dX14_isTemplate_9 rfl (zck_s e4)
def fX14_look (a0 : Nat) (a1 : Int32) (a2 : Int32) (h : hp) : Option (Int32 × hp) :=
  bd2 (fX14_isTemplate a1 h) fun v2 h3 =>
  if v2 = 0 then (
    some ((-1), h3)
  ) else (
    bd2 (fX14_isIn (a2.toInt64) 0 3 h3) fun v5 h6 =>
    if v5 = 0 then (
      some ((-2), h6)
    ) else (
      (ckT h6 a0 13).bind fun _ =>
      (fX14_begins a0 a1 a2 1 h6).bind fun h8 =>
      (gfI h8 a0 13 43).bind fun v10 =>
      if v10 = 0 then (
        (gfI h8 a0 13 23).bind fun v12 =>
        some (v12, h8)
      ) else (
        some ((-20), h8)
      )
    )
  )
set_option maxHeartbeats 4000000 in
set_option maxRecDepth 100000 in
theorem sX14_look (E : gE) (D : Nat) (hD : 410 ≤ D) {a0 : Nat} {a1 : Int32} {a2 : Int32} {h hz : hp} {v0 : Int32} (hf : fX14_look a0 a1 a2 h = some (v0, hz)) : MC E yX14_look cX14_look (Option.some Jvm.ClassFile.FieldType.int) 3 D [.ref a0, .int a1, .int a2] h (some (.int v0)) hz := by
  refine MC.of (by decide +kernel) (Nat.le_of_ble_eq_true rfl) rfl ?_
  unfold fX14_look at hf
  show AW E yX14_look cX14_look (Option.some Jvm.ClassFile.FieldType.int) 3 D (some (.int v0)) h hz 0 [(0, .ref a0), (1, .int a1), (2, .int a2)] [] h
  refine a_iload_n (q := 1) dX14_look_0 rfl rfl ?_
  obtain ⟨v2, h3, e1, hf⟩ := ob2 hf
  refine a_callS (as := [.int a1]) (np := 1) (st := []) (sX14_isTemplate E (D - 1) (by omega) e1) dX14_look_1 rfl (by omega) (by decide) cw_X14_500 wd_1446 rfl (Nat.le_of_ble_eq_true rfl) ?_
  refine a_if_ne (tgt := 9) dX14_look_4 (by decide) (fun c => ?_) (fun c => ?_)
  · have hf := ifn c hf
    refine a_iload_n (q := 2) dX14_look_9 rfl rfl ?_
    refine a_i2l dX14_look_10 rfl ?_
    refine a_lconst (v := 0) dX14_look_11 (by decide) ?_
    refine a_ldc2 (v := 3) dX14_look_12 wd_1448 ?_
    obtain ⟨v5, h6, e4, hf⟩ := ob2 hf
    refine a_callS (as := [.long (a2.toInt64), .long 0, .long 3]) (np := 3) (st := []) (sX14_isIn E (D - 1) (by omega) e4) dX14_look_15 rfl (by omega) (by decide) cw_X14_155 wd_1324 rfl (Nat.le_of_ble_eq_true rfl) ?_
    refine a_if_ne (tgt := 24) dX14_look_18 (by decide) (fun c => ?_) (fun c => ?_)
    · have hf := ifn c hf
      refine a_aload_n (q := 0) dX14_look_24 rfl rfl ?_
      refine a_iload_n (q := 1) dX14_look_25 rfl rfl ?_
      refine a_iload_n (q := 2) dX14_look_26 rfl rfl ?_
      refine a_iconst (v := 1) dX14_look_27 (by decide) ?_
      obtain ⟨_, e9, hf⟩ := obd hf
      obtain ⟨h8, e7, hf⟩ := obd hf
      refine a_callV (as := [.int a1, .int a2, .int 1]) (np := 3) (ci := 13) (st := []) (sX14_begins E (D - 1) (by omega) e7) dX14_look_28 rfl (by omega) (by decide) cw_X14_505 ⟨wd_1451, ws_84⟩ rfl (ckT_s e9) rfl (Nat.le_of_ble_eq_true rfl) ?_
      refine a_aload_n (q := 0) dX14_look_31 rfl rfl ?_
      obtain ⟨v10, e11, hf⟩ := obd hf
      refine o_gfI dX14_look_32 lk_X14_409 rfl e11 ?_
      refine a_if_eq (tgt := 43) dX14_look_35 (by decide) (fun c => ?_) (fun c => ?_)
      · have hf := ifp c hf
        refine a_aload_n (q := 0) dX14_look_43 rfl rfl ?_
        obtain ⟨v12, e13, hf⟩ := obd hf
        refine o_gfI dX14_look_44 lk_X14_384 rfl e13 ?_
        obtain ⟨rfl, rfl⟩ := oc2 hf
        exact a_ireturn dX14_look_47 rfl
      · have hf := ifn c hf
        refine a_bipush (v := (-20)) dX14_look_38 (by decide) ?_
        refine a_goto (tgt := 47) dX14_look_40 (by decide) ?_
        obtain ⟨rfl, rfl⟩ := oc2 hf
        exact a_ireturn dX14_look_47 rfl
    · have hf := ifp c hf
      refine a_bipush (v := (-2)) dX14_look_21 (by decide) ?_
      obtain ⟨rfl, rfl⟩ := oc2 hf
      exact a_ireturn dX14_look_23 rfl
  · have hf := ifp c hf
    refine a_iconst (v := (-1)) dX14_look_7 (by decide) ?_
    obtain ⟨rfl, rfl⟩ := oc2 hf
    exact a_ireturn dX14_look_8 rfl
def fX14_press_l53 : Nat → Nat → Int32 → hp → Option hp
  | 0, _, _, _ => none
  | n + 1, x0, x2, h =>
    (gfI h x0 13 22).bind fun v1 =>
    if v1 ≤ x2 then (
      some (h)
    ) else (
      (gfR h x0 13 19).bind fun v3 =>
      (gfR h x0 13 20).bind fun v5 =>
      (alI h v5 x2).bind fun v7 =>
      (asI h v3 x2 v7).bind fun h9 =>
      fX14_press_l53 n x0 (x2 + 1) h9
    )
def fX14_press (a0 : Nat) (a1 : Int32) (h : hp) : Option (Int32 × hp) :=
  bd2 (fX14_isTemplate a1 h) fun v2 h3 =>
  if v2 = 0 then (
    some ((-1), h3)
  ) else (
    (ckT h3 a0 13).bind fun _ =>
    (fX14_begins a0 a1 0 1 h3).bind fun h5 =>
    (gfI h5 a0 13 43).bind fun v7 =>
    if v7 = 0 then (
      (ckT h5 a0 13).bind fun _ =>
      (fX14_begins a0 a1 0 0 h5).bind fun h10 =>
      (gfI h10 a0 13 35).bind fun v12 =>
      (pfI h10 a0 13 38 v12).bind fun h14 =>
      (gfI h14 a0 13 43).bind fun v16 =>
      if v16 = 0 then (
        (fX14_press_l53 FU a0 0 h14).bind fun h19 =>
        (gfI h19 a0 13 22).bind fun v20 =>
        (pfI h19 a0 13 21 v20).bind fun h22 =>
        (gfI h22 a0 13 21).bind fun v24 =>
        some (v24, h22)
      ) else (
        some ((-20), h14)
      )
    ) else (
      some ((-20), h5)
    )
  )
set_option maxHeartbeats 4000000 in
set_option maxRecDepth 100000 in
theorem sX14_press_l53 (E : gE) (D : Nat) (hD : 410 ≤ D) {rz : Option Value} {h0 hz : hp} : ∀ (n : Nat) (x0 : Nat) (x2 : Int32) (h : hp) (hq : hp), fX14_press_l53 n x0 x2 h = some hq → (AW E yX14_press cX14_press (Option.some Jvm.ClassFile.FieldType.int) 3 D rz h0 hz 79 [(0, .ref x0)] [] hq) → AW E yX14_press cX14_press (Option.some Jvm.ClassFile.FieldType.int) 3 D rz h0 hz 53 [(0, .ref x0), (2, .int x2)] [] h := by
  intro n
  induction n with
  | zero =>
    intro x0 x2 h hq hf _
    rw [fX14_press_l53] at hf
    cases hf
  | succ n ih =>
    intro x0 x2 h hq hf hk0
    rw [fX14_press_l53] at hf
    refine a_iload_n (q := 1) dX14_press_53 rfl rfl ?_
    refine a_aload_n (q := 0) dX14_press_54 rfl rfl ?_
    obtain ⟨v1, e2, hf⟩ := obd hf
    refine o_gfI dX14_press_55 lk_X14_378 rfl e2 ?_
    refine a_icmp_ge (tgt := 79) dX14_press_58 (by decide) (fun c => ?_) (fun c => ?_)
    · have hf := ifp c hf
      obtain rfl := Option.some.inj hf
      exact AW.sub [0] rfl (hk0)
    · have hf := ifn c hf
      refine a_aload_n (q := 0) dX14_press_61 rfl rfl ?_
      obtain ⟨v3, e4, hf⟩ := obd hf
      refine o_gfR dX14_press_62 lk_X14_43 rfl e4 ?_
      refine a_iload_n (q := 1) dX14_press_65 rfl rfl ?_
      refine a_aload_n (q := 0) dX14_press_66 rfl rfl ?_
      obtain ⟨v5, e6, hf⟩ := obd hf
      refine o_gfR dX14_press_67 lk_X14_46 rfl e6 ?_
      refine a_iload_n (q := 1) dX14_press_70 rfl rfl ?_
      obtain ⟨v7, e8, hf⟩ := obd hf
      refine o_alI dX14_press_71 e8 ?_
      obtain ⟨h9, e10, hf⟩ := obd hf
      refine o_asI dX14_press_72 e10 ?_
      refine a_iinc (q := 1) (v := (x2 + 1)) (lv1 := [(2, .int (x2 + 1)), (0, .ref x0)]) dX14_press_73 rfl (by rfl) (by decide) rfl ?_
      refine a_goto (tgt := 53) dX14_press_76 (by decide) ?_
      exact AW.sub [1, 0] rfl (ih _ _ _ _ hf hk0)
set_option maxHeartbeats 4000000 in
set_option maxRecDepth 100000 in
theorem sX14_press (E : gE) (D : Nat) (hD : 410 ≤ D) {a0 : Nat} {a1 : Int32} {h hz : hp} {v0 : Int32} (hf : fX14_press a0 a1 h = some (v0, hz)) : MC E yX14_press cX14_press (Option.some Jvm.ClassFile.FieldType.int) 3 D [.ref a0, .int a1] h (some (.int v0)) hz := by
  refine MC.of (by decide +kernel) (Nat.le_of_ble_eq_true rfl) rfl ?_
  unfold fX14_press at hf
  show AW E yX14_press cX14_press (Option.some Jvm.ClassFile.FieldType.int) 3 D (some (.int v0)) h hz 0 [(0, .ref a0), (1, .int a1)] [] h
  refine a_iload_n (q := 1) dX14_press_0 rfl rfl ?_
  obtain ⟨v2, h3, e1, hf⟩ := ob2 hf
  refine a_callS (as := [.int a1]) (np := 1) (st := []) (sX14_isTemplate E (D - 1) (by omega) e1) dX14_press_1 rfl (by omega) (by decide) cw_X14_500 wd_1446 rfl (Nat.le_of_ble_eq_true rfl) ?_
  refine a_if_ne (tgt := 9) dX14_press_4 (by decide) (fun c => ?_) (fun c => ?_)
  · have hf := ifn c hf
    refine a_aload_n (q := 0) dX14_press_9 rfl rfl ?_
    refine a_iload_n (q := 1) dX14_press_10 rfl rfl ?_
    refine a_iconst (v := 0) dX14_press_11 (by decide) ?_
    refine a_iconst (v := 1) dX14_press_12 (by decide) ?_
    obtain ⟨_, e6, hf⟩ := obd hf
    obtain ⟨h5, e4, hf⟩ := obd hf
    refine a_callV (as := [.int a1, .int 0, .int 1]) (np := 3) (ci := 13) (st := []) (sX14_begins E (D - 1) (by omega) e4) dX14_press_13 rfl (by omega) (by decide) cw_X14_505 ⟨wd_1451, ws_84⟩ rfl (ckT_s e6) rfl (Nat.le_of_ble_eq_true rfl) ?_
    refine a_aload_n (q := 0) dX14_press_16 rfl rfl ?_
    obtain ⟨v7, e8, hf⟩ := obd hf
    refine o_gfI dX14_press_17 lk_X14_409 rfl e8 ?_
    refine a_if_eq (tgt := 26) dX14_press_20 (by decide) (fun c => ?_) (fun c => ?_)
    · have hf := ifp c hf
      refine a_aload_n (q := 0) dX14_press_26 rfl rfl ?_
      refine a_iload_n (q := 1) dX14_press_27 rfl rfl ?_
      refine a_iconst (v := 0) dX14_press_28 (by decide) ?_
      refine a_iconst (v := 0) dX14_press_29 (by decide) ?_
      obtain ⟨_, e11, hf⟩ := obd hf
      obtain ⟨h10, e9, hf⟩ := obd hf
      refine a_callV (as := [.int a1, .int 0, .int 0]) (np := 3) (ci := 13) (st := []) (sX14_begins E (D - 1) (by omega) e9) dX14_press_30 rfl (by omega) (by decide) cw_X14_505 ⟨wd_1451, ws_84⟩ rfl (ckT_s e11) rfl (Nat.le_of_ble_eq_true rfl) ?_
      refine a_aload_n (q := 0) dX14_press_33 rfl rfl ?_
      refine a_aload_n (q := 0) dX14_press_34 rfl rfl ?_
      obtain ⟨v12, e13, hf⟩ := obd hf
      refine o_gfI dX14_press_35 lk_X14_438 rfl e13 ?_
      obtain ⟨h14, e15, hf⟩ := obd hf
      refine o_pfI dX14_press_38 lk_X14_509 (⟨_, rfl, Or.inl rfl⟩) rfl e15 ?_
      refine a_aload_n (q := 0) dX14_press_41 rfl rfl ?_
      obtain ⟨v16, e17, hf⟩ := obd hf
      refine o_gfI dX14_press_42 lk_X14_409 rfl e17 ?_
      refine a_if_eq (tgt := 51) dX14_press_45 (by decide) (fun c => ?_) (fun c => ?_)
      · have hf := ifp c hf
        refine a_iconst (v := 0) dX14_press_51 (by decide) ?_
        refine a_istore_n (lv1 := [(2, .int 0), (0, .ref a0), (1, .int a1)]) dX14_press_52 rfl (by decide) rfl ?_
        obtain ⟨h19, e18, hf⟩ := obd hf
        refine AW.sub [1, 0] rfl (sX14_press_l53 E D hD _ _ _ _ _ e18 ?_)
        refine a_aload_n (q := 0) dX14_press_79 rfl rfl ?_
        refine a_aload_n (q := 0) dX14_press_80 rfl rfl ?_
        obtain ⟨v20, e21, hf⟩ := obd hf
        refine o_gfI dX14_press_81 lk_X14_378 rfl e21 ?_
        obtain ⟨h22, e23, hf⟩ := obd hf
        refine o_pfI dX14_press_84 lk_X14_512 (⟨_, rfl, Or.inl rfl⟩) rfl e23 ?_
        refine a_aload_n (q := 0) dX14_press_87 rfl rfl ?_
        obtain ⟨v24, e25, hf⟩ := obd hf
        refine o_gfI dX14_press_88 lk_X14_512 rfl e25 ?_
        obtain ⟨rfl, rfl⟩ := oc2 hf
        exact a_ireturn dX14_press_91 rfl
      · have hf := ifn c hf
        refine a_bipush (v := (-20)) dX14_press_48 (by decide) ?_
        obtain ⟨rfl, rfl⟩ := oc2 hf
        exact a_ireturn dX14_press_50 rfl
    · have hf := ifn c hf
      refine a_bipush (v := (-20)) dX14_press_23 (by decide) ?_
      obtain ⟨rfl, rfl⟩ := oc2 hf
      exact a_ireturn dX14_press_25 rfl
  · have hf := ifp c hf
    refine a_iconst (v := (-1)) dX14_press_7 (by decide) ?_
    obtain ⟨rfl, rfl⟩ := oc2 hf
    exact a_ireturn dX14_press_8 rfl
def fX14_page (a0 : Nat) (a1 : Int32) (h : hp) : Option (Int32 × hp) :=
  (gfI h a0 13 21).bind fun v1 =>
  bd2 (fX14_isIn (a1.toInt64) 0 ((v1 - 1).toInt64) h) fun v4 h5 =>
  if v4 = 0 then (
    some ((-1), h5)
  ) else (
    (gfR h5 a0 13 19).bind fun v6 =>
    (alI h5 v6 a1).bind fun v8 =>
    some (v8, h5)
  )
set_option maxHeartbeats 4000000 in
set_option maxRecDepth 100000 in
theorem sX14_page (E : gE) (D : Nat) (hD : 1 ≤ D) {a0 : Nat} {a1 : Int32} {h hz : hp} {v0 : Int32} (hf : fX14_page a0 a1 h = some (v0, hz)) : MC E yX14_page cX14_page (Option.some Jvm.ClassFile.FieldType.int) 2 D [.ref a0, .int a1] h (some (.int v0)) hz := by
  refine MC.of (by decide +kernel) (Nat.le_of_ble_eq_true rfl) rfl ?_
  unfold fX14_page at hf
  show AW E yX14_page cX14_page (Option.some Jvm.ClassFile.FieldType.int) 2 D (some (.int v0)) h hz 0 [(0, .ref a0), (1, .int a1)] [] h
  refine a_iload_n (q := 1) dX14_page_0 rfl rfl ?_
  refine a_i2l dX14_page_1 rfl ?_
  refine a_lconst (v := 0) dX14_page_2 (by decide) ?_
  refine a_aload_n (q := 0) dX14_page_3 rfl rfl ?_
  obtain ⟨v1, e2, hf⟩ := obd hf
  refine o_gfI dX14_page_4 lk_X14_512 rfl e2 ?_
  refine a_iconst (v := 1) dX14_page_7 (by decide) ?_
  refine a_isub dX14_page_8 ?_
  refine a_i2l dX14_page_9 rfl ?_
  obtain ⟨v4, h5, e3, hf⟩ := ob2 hf
  refine a_callS (as := [.long (a1.toInt64), .long 0, .long ((v1 - 1).toInt64)]) (np := 3) (st := []) (sX14_isIn E (D - 1) (by omega) e3) dX14_page_10 rfl (by omega) (by decide) cw_X14_155 wd_1324 rfl (Nat.le_of_ble_eq_true rfl) ?_
  refine a_if_eq (tgt := 25) dX14_page_13 (by decide) (fun c => ?_) (fun c => ?_)
  · have hf := ifp c hf
    refine a_iconst (v := (-1)) dX14_page_25 (by decide) ?_
    obtain ⟨rfl, rfl⟩ := oc2 hf
    exact a_ireturn dX14_page_26 rfl
  · have hf := ifn c hf
    refine a_aload_n (q := 0) dX14_page_16 rfl rfl ?_
    obtain ⟨v6, e7, hf⟩ := obd hf
    refine o_gfR dX14_page_17 lk_X14_43 rfl e7 ?_
    refine a_iload_n (q := 1) dX14_page_20 rfl rfl ?_
    obtain ⟨v8, e9, hf⟩ := obd hf
    refine o_alI dX14_page_21 e9 ?_
    refine a_goto (tgt := 26) dX14_page_22 (by decide) ?_
    obtain ⟨rfl, rfl⟩ := oc2 hf
    exact a_ireturn dX14_page_26 rfl
def fX14_why (a0 : Nat) (a1 : Int32) (a2 : Int32) (h : hp) : Option (Int32 × hp) :=
  (gfI h a0 13 47).bind fun v1 =>
  bd2 (fX14_isIn (a1.toInt64) 0 ((v1 - 1).toInt64) h) fun v4 h5 =>
  if v4 = 0 then (
    some ((-1), h5)
  ) else (
    bd2 (fX14_isIn (a2.toInt64) 0 2 h5) fun v7 h8 =>
    if v7 = 0 then (
      some ((-1), h8)
    ) else (
      if a2 = 0 then (
        (gfR h8 a0 13 44).bind fun v17 =>
        (alI h8 v17 a1).bind fun v19 =>
        some (v19, h8)
      ) else (
        if a2 = 1 then (
          (gfR h8 a0 13 45).bind fun v13 =>
          (alI h8 v13 a1).bind fun v15 =>
          some (v15, h8)
        ) else (
          (gfR h8 a0 13 46).bind fun v9 =>
          (alI h8 v9 a1).bind fun v11 =>
          some (v11, h8)
        )
      )
    )
  )
set_option maxHeartbeats 4000000 in
set_option maxRecDepth 100000 in
theorem sX14_why (E : gE) (D : Nat) (hD : 1 ≤ D) {a0 : Nat} {a1 : Int32} {a2 : Int32} {h hz : hp} {v0 : Int32} (hf : fX14_why a0 a1 a2 h = some (v0, hz)) : MC E yX14_why cX14_why (Option.some Jvm.ClassFile.FieldType.int) 3 D [.ref a0, .int a1, .int a2] h (some (.int v0)) hz := by
  refine MC.of (by decide +kernel) (Nat.le_of_ble_eq_true rfl) rfl ?_
  unfold fX14_why at hf
  show AW E yX14_why cX14_why (Option.some Jvm.ClassFile.FieldType.int) 3 D (some (.int v0)) h hz 0 [(0, .ref a0), (1, .int a1), (2, .int a2)] [] h
  refine a_iload_n (q := 1) dX14_why_0 rfl rfl ?_
  refine a_i2l dX14_why_1 rfl ?_
  refine a_lconst (v := 0) dX14_why_2 (by decide) ?_
  refine a_aload_n (q := 0) dX14_why_3 rfl rfl ?_
  obtain ⟨v1, e2, hf⟩ := obd hf
  refine o_gfI dX14_why_4 lk_X14_403 rfl e2 ?_
  refine a_iconst (v := 1) dX14_why_7 (by decide) ?_
  refine a_isub dX14_why_8 ?_
  refine a_i2l dX14_why_9 rfl ?_
  obtain ⟨v4, h5, e3, hf⟩ := ob2 hf
  refine a_callS (as := [.long (a1.toInt64), .long 0, .long ((v1 - 1).toInt64)]) (np := 3) (st := []) (sX14_isIn E (D - 1) (by omega) e3) dX14_why_10 rfl (by omega) (by decide) cw_X14_155 wd_1324 rfl (Nat.le_of_ble_eq_true rfl) ?_
  refine a_if_eq (tgt := 28) dX14_why_13 (by decide) (fun c => ?_) (fun c => ?_)
  · have hf := ifp c hf
    refine a_iconst (v := (-1)) dX14_why_28 (by decide) ?_
    obtain ⟨rfl, rfl⟩ := oc2 hf
    exact a_ireturn dX14_why_29 rfl
  · have hf := ifn c hf
    refine a_iload_n (q := 2) dX14_why_16 rfl rfl ?_
    refine a_i2l dX14_why_17 rfl ?_
    refine a_lconst (v := 0) dX14_why_18 (by decide) ?_
    refine a_ldc2 (v := 2) dX14_why_19 wd_1714 ?_
    obtain ⟨v7, h8, e6, hf⟩ := ob2 hf
    refine a_callS (as := [.long (a2.toInt64), .long 0, .long 2]) (np := 3) (st := []) (sX14_isIn E (D - 1) (by omega) e6) dX14_why_22 rfl (by omega) (by decide) cw_X14_155 wd_1324 rfl (Nat.le_of_ble_eq_true rfl) ?_
    refine a_if_ne (tgt := 30) dX14_why_25 (by decide) (fun c => ?_) (fun c => ?_)
    · have hf := ifn c hf
      refine a_iload_n (q := 2) dX14_why_30 rfl rfl ?_
      refine a_if_ne (tgt := 43) dX14_why_31 (by decide) (fun c => ?_) (fun c => ?_)
      · have hf := ifn c hf
        refine a_iload_n (q := 2) dX14_why_43 rfl rfl ?_
        refine a_iconst (v := 1) dX14_why_44 (by decide) ?_
        refine a_icmp_ne (tgt := 57) dX14_why_45 (by decide) (fun c => ?_) (fun c => ?_)
        · have hf := ifn c hf
          refine a_aload_n (q := 0) dX14_why_57 rfl rfl ?_
          obtain ⟨v9, e10, hf⟩ := obd hf
          refine o_gfR dX14_why_58 lk_X14_95 rfl e10 ?_
          refine a_iload_n (q := 1) dX14_why_61 rfl rfl ?_
          obtain ⟨v11, e12, hf⟩ := obd hf
          refine o_alI dX14_why_62 e12 ?_
          obtain ⟨rfl, rfl⟩ := oc2 hf
          exact a_ireturn dX14_why_63 rfl
        · have hf := ifp c hf
          refine a_aload_n (q := 0) dX14_why_48 rfl rfl ?_
          obtain ⟨v13, e14, hf⟩ := obd hf
          refine o_gfR dX14_why_49 lk_X14_92 rfl e14 ?_
          refine a_iload_n (q := 1) dX14_why_52 rfl rfl ?_
          obtain ⟨v15, e16, hf⟩ := obd hf
          refine o_alI dX14_why_53 e16 ?_
          refine a_goto (tgt := 63) dX14_why_54 (by decide) ?_
          obtain ⟨rfl, rfl⟩ := oc2 hf
          exact a_ireturn dX14_why_63 rfl
      · have hf := ifp c hf
        refine a_aload_n (q := 0) dX14_why_34 rfl rfl ?_
        obtain ⟨v17, e18, hf⟩ := obd hf
        refine o_gfR dX14_why_35 lk_X14_89 rfl e18 ?_
        refine a_iload_n (q := 1) dX14_why_38 rfl rfl ?_
        obtain ⟨v19, e20, hf⟩ := obd hf
        refine o_alI dX14_why_39 e20 ?_
        refine a_goto (tgt := 63) dX14_why_40 (by decide) ?_
        obtain ⟨rfl, rfl⟩ := oc2 hf
        exact a_ireturn dX14_why_63 rfl
    · have hf := ifp c hf
      refine a_iconst (v := (-1)) dX14_why_28 (by decide) ?_
      obtain ⟨rfl, rfl⟩ := oc2 hf
      exact a_ireturn dX14_why_29 rfl
def fX14_budget (a0 : Nat) (a1 : Int32) (h : hp) : Option (Int32 × hp) :=
  bd2 (fX14_isIn (a1.toInt64) 0 400 h) fun v2 h3 =>
  if v2 = 0 then (
    some ((-2), h3)
  ) else (
    (gfI h3 a0 13 24).bind fun v4 =>
    (pfI h3 a0 13 24 a1).bind fun h6 =>
    some (v4, h6)
  )
set_option maxHeartbeats 4000000 in
set_option maxRecDepth 100000 in
theorem sX14_budget (E : gE) (D : Nat) (hD : 1 ≤ D) {a0 : Nat} {a1 : Int32} {h hz : hp} {v0 : Int32} (hf : fX14_budget a0 a1 h = some (v0, hz)) : MC E yX14_budget cX14_budget (Option.some Jvm.ClassFile.FieldType.int) 3 D [.ref a0, .int a1] h (some (.int v0)) hz := by
  refine MC.of (by decide +kernel) (Nat.le_of_ble_eq_true rfl) rfl ?_
  unfold fX14_budget at hf
  show AW E yX14_budget cX14_budget (Option.some Jvm.ClassFile.FieldType.int) 3 D (some (.int v0)) h hz 0 [(0, .ref a0), (1, .int a1)] [] h
  refine a_iload_n (q := 1) dX14_budget_0 rfl rfl ?_
  refine a_i2l dX14_budget_1 rfl ?_
  refine a_lconst (v := 0) dX14_budget_2 (by decide) ?_
  refine a_ldc2 (v := 400) dX14_budget_3 wd_1719 ?_
  obtain ⟨v2, h3, e1, hf⟩ := ob2 hf
  refine a_callS (as := [.long (a1.toInt64), .long 0, .long 400]) (np := 3) (st := []) (sX14_isIn E (D - 1) (by omega) e1) dX14_budget_6 rfl (by omega) (by decide) cw_X14_155 wd_1324 rfl (Nat.le_of_ble_eq_true rfl) ?_
  refine a_if_ne (tgt := 15) dX14_budget_9 (by decide) (fun c => ?_) (fun c => ?_)
  · have hf := ifn c hf
    refine a_aload_n (q := 0) dX14_budget_15 rfl rfl ?_
    obtain ⟨v4, e5, hf⟩ := obd hf
    refine o_gfI dX14_budget_16 lk_X14_49 rfl e5 ?_
    refine a_istore_n (lv1 := [(2, .int v4), (0, .ref a0), (1, .int a1)]) dX14_budget_19 rfl (by decide) rfl ?_
    refine a_aload_n (q := 1) dX14_budget_20 rfl rfl ?_
    refine a_iload_n (q := 2) dX14_budget_21 rfl rfl ?_
    obtain ⟨h6, e7, hf⟩ := obd hf
    refine o_pfI dX14_budget_22 lk_X14_49 (⟨_, rfl, Or.inl rfl⟩) rfl e7 ?_
    refine a_iload_n (q := 0) dX14_budget_25 rfl rfl ?_
    obtain ⟨rfl, rfl⟩ := oc2 hf
    exact a_ireturn dX14_budget_26 rfl
  · have hf := ifp c hf
    refine a_bipush (v := (-2)) dX14_budget_12 (by decide) ?_
    obtain ⟨rfl, rfl⟩ := oc2 hf
    exact a_ireturn dX14_budget_14 rfl
def fX14_withText_l4 : Nat → Nat → Int32 → Int32 → hp → Option (Int32 × hp)
  | 0, _, _, _, _ => none
  | n + 1, x0, x1, x2, h =>
    if 6 ≤ x2 then (
      some (x1, h)
    ) else (
      (gfR h x0 13 9).bind fun v1 =>
      (alI h v1 x2).bind fun v3 =>
      jn (fun (s27_0 : Int32) (h27j : hp) => (
        fX14_withText_l4 n x0 (x1 ||| s27_0) (x2 + 1) h27j
        : Option (Int32 × hp))) fun k27 =>
      if v3 < 0 then (
        k27 0 h
      ) else (
        k27 ((1 : Int32) <<< (x2 &&& 31)) h
      )
    )
def fX14_withText (a0 : Nat) (h : hp) : Option (Int32 × hp) :=
  bd2 (fX14_withText_l4 FU a0 0 0 h) fun v3 h2 =>
  some (v3, h2)
set_option maxHeartbeats 4000000 in
set_option maxRecDepth 100000 in
theorem sX14_withText_l4 (E : gE) (D : Nat) (hD : 0 ≤ D) {rz : Option Value} {h0 hz : hp} : ∀ (n : Nat) (x0 : Nat) (x1 : Int32) (x2 : Int32) (h : hp) (m1 : Int32) (hq : hp), fX14_withText_l4 n x0 x1 x2 h = some (m1, hq) → (AW E yX14_withText cX14_withText (Option.some Jvm.ClassFile.FieldType.int) 3 D rz h0 hz 35 [(1, .int m1)] [] hq) → AW E yX14_withText cX14_withText (Option.some Jvm.ClassFile.FieldType.int) 3 D rz h0 hz 4 [(0, .ref x0), (1, .int x1), (2, .int x2)] [] h := by
  intro n
  induction n with
  | zero =>
    intro x0 x1 x2 h m1 hq hf _
    rw [fX14_withText_l4] at hf
    cases hf
  | succ n ih =>
    intro x0 x1 x2 h m1 hq hf hk0
    rw [fX14_withText_l4] at hf
    refine a_iload_n (q := 2) dX14_withText_4 rfl rfl ?_
    refine a_bipush (v := 6) dX14_withText_5 (by decide) ?_
    refine a_icmp_ge (tgt := 35) dX14_withText_7 (by decide) (fun c => ?_) (fun c => ?_)
    · have hf := ifp c hf
      obtain ⟨rfl, rfl⟩ := oc2 hf
      exact AW.sub [1] rfl (hk0)
    · have hf := ifn c hf
      refine a_iload_n (q := 1) dX14_withText_10 rfl rfl ?_
      refine a_aload_n (q := 0) dX14_withText_11 rfl rfl ?_
      obtain ⟨v1, e2, hf⟩ := obd hf
      refine o_gfR dX14_withText_12 lk_X14_37 rfl e2 ?_
      refine a_iload_n (q := 2) dX14_withText_15 rfl rfl ?_
      obtain ⟨v3, e4, hf⟩ := obd hf
      refine o_alI dX14_withText_16 e4 ?_
      obtain ⟨k27, ek27, hf⟩ := jn_s hf
      have hj27 : ∀ (s27_0 : Int32) (h27j : hp), k27 s27_0 h27j = some (m1, hq) → AW E yX14_withText cX14_withText (Option.some Jvm.ClassFile.FieldType.int) 3 D rz h0 hz 27 [(0, .ref x0), (2, .int x2)] [.int s27_0, .int x1] h27j := by
        intro s27_0 h27j hf
        rw [ek27] at hf
        clear ek27
        refine a_ior dX14_withText_27 ?_
        refine a_istore_n (lv1 := [(1, .int (x1 ||| s27_0)), (0, .ref x0), (2, .int x2)]) dX14_withText_28 rfl (by decide) rfl ?_
        refine a_iinc (q := 2) (v := (x2 + 1)) (lv1 := [(2, .int (x2 + 1)), (1, .int (x1 ||| s27_0)), (0, .ref x0)]) dX14_withText_29 rfl (by rfl) (by decide) rfl ?_
        refine a_goto (tgt := 4) dX14_withText_32 (by decide) ?_
        exact AW.sub [2, 1, 0] rfl (ih _ _ _ _ _ _ hf hk0)
      clear ek27
      refine a_if_lt (tgt := 26) dX14_withText_17 (by decide) (fun c => ?_) (fun c => ?_)
      · have hf := ifp c hf
        refine a_iconst (v := 0) dX14_withText_26 (by decide) ?_
        exact AW.sub [0, 2] rfl (hj27 _ _ hf)
      · have hf := ifn c hf
        refine a_iconst (v := 1) dX14_withText_20 (by decide) ?_
        refine a_iload_n (q := 2) dX14_withText_21 rfl rfl ?_
        refine a_ishl dX14_withText_22 ?_
        refine a_goto (tgt := 27) dX14_withText_23 (by decide) ?_
        exact AW.sub [0, 2] rfl (hj27 _ _ hf)
set_option maxHeartbeats 4000000 in
set_option maxRecDepth 100000 in
theorem sX14_withText (E : gE) (D : Nat) (hD : 0 ≤ D) {a0 : Nat} {h hz : hp} {v0 : Int32} (hf : fX14_withText a0 h = some (v0, hz)) : MC E yX14_withText cX14_withText (Option.some Jvm.ClassFile.FieldType.int) 3 D [.ref a0] h (some (.int v0)) hz := by
  refine MC.of (by decide +kernel) (Nat.le_of_ble_eq_true rfl) rfl ?_
  unfold fX14_withText at hf
  show AW E yX14_withText cX14_withText (Option.some Jvm.ClassFile.FieldType.int) 3 D (some (.int v0)) h hz 0 [(0, .ref a0)] [] h
  refine a_iconst (v := 0) dX14_withText_0 (by decide) ?_
  refine a_istore_n (lv1 := [(1, .int 0), (0, .ref a0)]) dX14_withText_1 rfl (by decide) rfl ?_
  refine a_iconst (v := 0) dX14_withText_2 (by decide) ?_
  refine a_istore_n (lv1 := [(2, .int 0), (1, .int 0), (0, .ref a0)]) dX14_withText_3 rfl (by decide) rfl ?_
  obtain ⟨v3, h2, e1, hf⟩ := ob2 hf
  refine AW.sub [2, 1, 0] rfl (sX14_withText_l4 E D hD _ _ _ _ _ _ _ e1 ?_)
  refine a_iload_n (q := 0) dX14_withText_35 rfl rfl ?_
  obtain ⟨rfl, rfl⟩ := oc2 hf
  exact a_ireturn dX14_withText_36 rfl
def fX14_onPage_l4 : Nat → Nat → Int32 → Int32 → Int32 → hp → Option (Int32 × hp)
  | 0, _, _, _, _, _ => none
  | n + 1, x0, x1, x2, x3, h =>
    (gfI h x0 13 21).bind fun v1 =>
    if v1 ≤ x3 then (
      some (x2, h)
    ) else (
      jn (fun (s42_0 : Int32) (h42j : hp) => (
        fX14_onPage_l4 n x0 x1 (x2 + s42_0) (x3 + 1) h42j
        : Option (Int32 × hp))) fun k42 =>
      if x1 = 0 then (
        (gfR h x0 13 19).bind fun v3 =>
        (alI h v3 x3).bind fun v5 =>
        if v5 = 10 then (
          k42 1 h
        ) else (
          k42 0 h
        )
      ) else (
        (gfR h x0 13 19).bind fun v7 =>
        (alI h v7 x3).bind fun v9 =>
        k42 v9 h
      )
    )
def fX14_onPage (a0 : Nat) (a1 : Int32) (h : hp) : Option (Int32 × hp) :=
  bd2 (fX14_onPage_l4 FU a0 a1 0 0 h) fun v3 h2 =>
  some (v3, h2)
set_option maxHeartbeats 4000000 in
set_option maxRecDepth 100000 in
theorem sX14_onPage_l4 (E : gE) (D : Nat) (hD : 0 ≤ D) {rz : Option Value} {h0 hz : hp} : ∀ (n : Nat) (x0 : Nat) (x1 : Int32) (x2 : Int32) (x3 : Int32) (h : hp) (m2 : Int32) (hq : hp), fX14_onPage_l4 n x0 x1 x2 x3 h = some (m2, hq) → (AW E yX14_onPage cX14_onPage (Option.some Jvm.ClassFile.FieldType.int) 4 D rz h0 hz 50 [(2, .int m2)] [] hq) → AW E yX14_onPage cX14_onPage (Option.some Jvm.ClassFile.FieldType.int) 4 D rz h0 hz 4 [(0, .ref x0), (1, .int x1), (2, .int x2), (3, .int x3)] [] h := by
  intro n
  induction n with
  | zero =>
    intro x0 x1 x2 x3 h m2 hq hf _
    rw [fX14_onPage_l4] at hf
    cases hf
  | succ n ih =>
    intro x0 x1 x2 x3 h m2 hq hf hk0
    rw [fX14_onPage_l4] at hf
    refine a_iload_n (q := 3) dX14_onPage_4 rfl rfl ?_
    refine a_aload_n (q := 0) dX14_onPage_5 rfl rfl ?_
    obtain ⟨v1, e2, hf⟩ := obd hf
    refine o_gfI dX14_onPage_6 lk_X14_512 rfl e2 ?_
    refine a_icmp_ge (tgt := 50) dX14_onPage_9 (by decide) (fun c => ?_) (fun c => ?_)
    · have hf := ifp c hf
      obtain ⟨rfl, rfl⟩ := oc2 hf
      exact AW.sub [2] rfl (hk0)
    · have hf := ifn c hf
      refine a_iload_n (q := 2) dX14_onPage_12 rfl rfl ?_
      refine a_iload_n (q := 1) dX14_onPage_13 rfl rfl ?_
      obtain ⟨k42, ek42, hf⟩ := jn_s hf
      have hj42 : ∀ (s42_0 : Int32) (h42j : hp), k42 s42_0 h42j = some (m2, hq) → AW E yX14_onPage cX14_onPage (Option.some Jvm.ClassFile.FieldType.int) 4 D rz h0 hz 42 [(0, .ref x0), (1, .int x1), (3, .int x3)] [.int s42_0, .int x2] h42j := by
        intro s42_0 h42j hf
        rw [ek42] at hf
        clear ek42
        refine a_iadd dX14_onPage_42 ?_
        refine a_istore_n (lv1 := [(2, .int (x2 + s42_0)), (0, .ref x0), (1, .int x1), (3, .int x3)]) dX14_onPage_43 rfl (by decide) rfl ?_
        refine a_iinc (q := 3) (v := (x3 + 1)) (lv1 := [(3, .int (x3 + 1)), (2, .int (x2 + s42_0)), (0, .ref x0), (1, .int x1)]) dX14_onPage_44 rfl (by rfl) (by decide) rfl ?_
        refine a_goto (tgt := 4) dX14_onPage_47 (by decide) ?_
        exact AW.sub [2, 3, 1, 0] rfl (ih _ _ _ _ _ _ _ hf hk0)
      clear ek42
      refine a_if_eq (tgt := 26) dX14_onPage_14 (by decide) (fun c => ?_) (fun c => ?_)
      · have hf := ifp c hf
        refine a_aload_n (q := 0) dX14_onPage_26 rfl rfl ?_
        obtain ⟨v3, e4, hf⟩ := obd hf
        refine o_gfR dX14_onPage_27 lk_X14_43 rfl e4 ?_
        refine a_iload_n (q := 3) dX14_onPage_30 rfl rfl ?_
        obtain ⟨v5, e6, hf⟩ := obd hf
        refine o_alI dX14_onPage_31 e6 ?_
        refine a_bipush (v := 10) dX14_onPage_32 (by decide) ?_
        refine a_icmp_ne (tgt := 41) dX14_onPage_34 (by decide) (fun c => ?_) (fun c => ?_)
        · have hf := ifn c hf
          refine a_iconst (v := 0) dX14_onPage_41 (by decide) ?_
          exact AW.sub [0, 1, 3] rfl (hj42 _ _ hf)
        · have hf := ifp c hf
          refine a_iconst (v := 1) dX14_onPage_37 (by decide) ?_
          refine a_goto (tgt := 42) dX14_onPage_38 (by decide) ?_
          exact AW.sub [0, 1, 3] rfl (hj42 _ _ hf)
      · have hf := ifn c hf
        refine a_aload_n (q := 0) dX14_onPage_17 rfl rfl ?_
        obtain ⟨v7, e8, hf⟩ := obd hf
        refine o_gfR dX14_onPage_18 lk_X14_43 rfl e8 ?_
        refine a_iload_n (q := 3) dX14_onPage_21 rfl rfl ?_
        obtain ⟨v9, e10, hf⟩ := obd hf
        refine o_alI dX14_onPage_22 e10 ?_
        refine a_goto (tgt := 42) dX14_onPage_23 (by decide) ?_
        exact AW.sub [0, 1, 3] rfl (hj42 _ _ hf)
set_option maxHeartbeats 4000000 in
set_option maxRecDepth 100000 in
theorem sX14_onPage (E : gE) (D : Nat) (hD : 0 ≤ D) {a0 : Nat} {a1 : Int32} {h hz : hp} {v0 : Int32} (hf : fX14_onPage a0 a1 h = some (v0, hz)) : MC E yX14_onPage cX14_onPage (Option.some Jvm.ClassFile.FieldType.int) 4 D [.ref a0, .int a1] h (some (.int v0)) hz := by
  refine MC.of (by decide +kernel) (Nat.le_of_ble_eq_true rfl) rfl ?_
  unfold fX14_onPage at hf
  show AW E yX14_onPage cX14_onPage (Option.some Jvm.ClassFile.FieldType.int) 4 D (some (.int v0)) h hz 0 [(0, .ref a0), (1, .int a1)] [] h
  refine a_iconst (v := 0) dX14_onPage_0 (by decide) ?_
  refine a_istore_n (lv1 := [(2, .int 0), (0, .ref a0), (1, .int a1)]) dX14_onPage_1 rfl (by decide) rfl ?_
  refine a_iconst (v := 0) dX14_onPage_2 (by decide) ?_
  refine a_istore_n (lv1 := [(3, .int 0), (2, .int 0), (0, .ref a0), (1, .int a1)]) dX14_onPage_3 rfl (by decide) rfl ?_
  obtain ⟨v3, h2, e1, hf⟩ := ob2 hf
  refine AW.sub [2, 3, 1, 0] rfl (sX14_onPage_l4 E D hD _ _ _ _ _ _ _ _ e1 ?_)
  refine a_iload_n (q := 0) dX14_onPage_50 rfl rfl ?_
  obtain ⟨rfl, rfl⟩ := oc2 hf
  exact a_ireturn dX14_onPage_51 rfl
def fX14_told (a0 : Nat) (a1 : Int32) (h : hp) : Option (Int32 × hp) :=
  if a1 = 0 then (
    (gfI h a0 13 21).bind fun v1 =>
    some (v1, h)
  ) else (
  if a1 = 1 then (
    (gfI h a0 13 47).bind fun v3 =>
    some (v3, h)
  ) else (
  if a1 = 2 then (
    (gfI h a0 13 24).bind fun v5 =>
    some (v5, h)
  ) else (
  if a1 = 3 then (
    (ckT h a0 13).bind fun _ =>
    bd2 (fX14_withText a0 h) fun v8 h9 =>
    some (v8, h9)
  ) else (
  if a1 = 4 then (
    (gfI h a0 13 10).bind fun v11 =>
    some (v11, h)
  ) else (
  if a1 = 5 then (
    (gfI h a0 13 38).bind fun v13 =>
    some (v13, h)
  ) else (
  if a1 = 6 then (
    (ckT h a0 13).bind fun _ =>
    bd2 (fX14_onPage a0 1 h) fun v16 h17 =>
    some (v16, h17)
  ) else (
  if a1 = 7 then (
    (ckT h a0 13).bind fun _ =>
    bd2 (fX14_onPage a0 0 h) fun v20 h21 =>
    some (v20, h21)
  ) else (
    some ((-1), h)
  ))))))))
set_option maxHeartbeats 4000000 in
set_option maxRecDepth 100000 in
theorem sX14_told (E : gE) (D : Nat) (hD : 1 ≤ D) {a0 : Nat} {a1 : Int32} {h hz : hp} {v0 : Int32} (hf : fX14_told a0 a1 h = some (v0, hz)) : MC E yX14_told cX14_told (Option.some Jvm.ClassFile.FieldType.int) 2 D [.ref a0, .int a1] h (some (.int v0)) hz := by
  refine MC.of (by decide +kernel) (Nat.le_of_ble_eq_true rfl) rfl ?_
  unfold fX14_told at hf
  show AW E yX14_told cX14_told (Option.some Jvm.ClassFile.FieldType.int) 2 D (some (.int v0)) h hz 0 [(0, .ref a0), (1, .int a1)] [] h
  refine a_iload_n (q := 1) dX14_told_0 rfl rfl ?_
  by_cases c1_0 : a1 = 0
  · have hf := ifp c1_0 hf
    refine a_tblIn (k := 0) (off := 47) (tgt := 48) dX14_told_1 c1_0 (by decide) (by decide) rfl (by decide) ?_
    refine a_aload_n (q := 0) dX14_told_48 rfl rfl ?_
    obtain ⟨v1, e2, hf⟩ := obd hf
    refine o_gfI dX14_told_49 lk_X14_512 rfl e2 ?_
    obtain ⟨rfl, rfl⟩ := oc2 hf
    exact a_ireturn dX14_told_52 rfl
  have hf := ifn c1_0 hf
  by_cases c1_1 : a1 = 1
  · have hf := ifp c1_1 hf
    refine a_tblIn (k := 1) (off := 52) (tgt := 53) dX14_told_1 c1_1 (by decide) (by decide) rfl (by decide) ?_
    refine a_aload_n (q := 0) dX14_told_53 rfl rfl ?_
    obtain ⟨v3, e4, hf⟩ := obd hf
    refine o_gfI dX14_told_54 lk_X14_403 rfl e4 ?_
    obtain ⟨rfl, rfl⟩ := oc2 hf
    exact a_ireturn dX14_told_57 rfl
  have hf := ifn c1_1 hf
  by_cases c1_2 : a1 = 2
  · have hf := ifp c1_2 hf
    refine a_tblIn (k := 2) (off := 57) (tgt := 58) dX14_told_1 c1_2 (by decide) (by decide) rfl (by decide) ?_
    refine a_aload_n (q := 0) dX14_told_58 rfl rfl ?_
    obtain ⟨v5, e6, hf⟩ := obd hf
    refine o_gfI dX14_told_59 lk_X14_49 rfl e6 ?_
    obtain ⟨rfl, rfl⟩ := oc2 hf
    exact a_ireturn dX14_told_62 rfl
  have hf := ifn c1_2 hf
  by_cases c1_3 : a1 = 3
  · have hf := ifp c1_3 hf
    refine a_tblIn (k := 3) (off := 62) (tgt := 63) dX14_told_1 c1_3 (by decide) (by decide) rfl (by decide) ?_
    refine a_aload_n (q := 0) dX14_told_63 rfl rfl ?_
    obtain ⟨_, e10, hf⟩ := obd hf
    obtain ⟨v8, h9, e7, hf⟩ := ob2 hf
    refine a_callV (as := []) (np := 0) (ci := 13) (st := []) (sX14_withText E (D - 1) (by omega) e7) dX14_told_64 rfl (by omega) (by decide) cw_X14_519 ⟨wd_1726, ws_137⟩ rfl (ckT_s e10) rfl (Nat.le_of_ble_eq_true rfl) ?_
    obtain ⟨rfl, rfl⟩ := oc2 hf
    exact a_ireturn dX14_told_67 rfl
  have hf := ifn c1_3 hf
  by_cases c1_4 : a1 = 4
  · have hf := ifp c1_4 hf
    refine a_tblIn (k := 4) (off := 67) (tgt := 68) dX14_told_1 c1_4 (by decide) (by decide) rfl (by decide) ?_
    refine a_aload_n (q := 0) dX14_told_68 rfl rfl ?_
    obtain ⟨v11, e12, hf⟩ := obd hf
    refine o_gfI dX14_told_69 lk_X14_229 rfl e12 ?_
    obtain ⟨rfl, rfl⟩ := oc2 hf
    exact a_ireturn dX14_told_72 rfl
  have hf := ifn c1_4 hf
  by_cases c1_5 : a1 = 5
  · have hf := ifp c1_5 hf
    refine a_tblIn (k := 5) (off := 72) (tgt := 73) dX14_told_1 c1_5 (by decide) (by decide) rfl (by decide) ?_
    refine a_aload_n (q := 0) dX14_told_73 rfl rfl ?_
    obtain ⟨v13, e14, hf⟩ := obd hf
    refine o_gfI dX14_told_74 lk_X14_509 rfl e14 ?_
    obtain ⟨rfl, rfl⟩ := oc2 hf
    exact a_ireturn dX14_told_77 rfl
  have hf := ifn c1_5 hf
  by_cases c1_6 : a1 = 6
  · have hf := ifp c1_6 hf
    refine a_tblIn (k := 6) (off := 77) (tgt := 78) dX14_told_1 c1_6 (by decide) (by decide) rfl (by decide) ?_
    refine a_aload_n (q := 0) dX14_told_78 rfl rfl ?_
    refine a_iconst (v := 1) dX14_told_79 (by decide) ?_
    obtain ⟨_, e18, hf⟩ := obd hf
    obtain ⟨v16, h17, e15, hf⟩ := ob2 hf
    refine a_callV (as := [.int 1]) (np := 1) (ci := 13) (st := []) (sX14_onPage E (D - 1) (by omega) e15) dX14_told_80 rfl (by omega) (by decide) cw_X14_522 ⟨wd_1730, ws_138⟩ rfl (ckT_s e18) rfl (Nat.le_of_ble_eq_true rfl) ?_
    obtain ⟨rfl, rfl⟩ := oc2 hf
    exact a_ireturn dX14_told_83 rfl
  have hf := ifn c1_6 hf
  by_cases c1_7 : a1 = 7
  · have hf := ifp c1_7 hf
    refine a_tblIn (k := 7) (off := 83) (tgt := 84) dX14_told_1 c1_7 (by decide) (by decide) rfl (by decide) ?_
    refine a_aload_n (q := 0) dX14_told_84 rfl rfl ?_
    refine a_iconst (v := 0) dX14_told_85 (by decide) ?_
    obtain ⟨_, e22, hf⟩ := obd hf
    obtain ⟨v20, h21, e19, hf⟩ := ob2 hf
    refine a_callV (as := [.int 0]) (np := 1) (ci := 13) (st := []) (sX14_onPage E (D - 1) (by omega) e19) dX14_told_86 rfl (by omega) (by decide) cw_X14_522 ⟨wd_1730, ws_138⟩ rfl (ckT_s e22) rfl (Nat.le_of_ble_eq_true rfl) ?_
    obtain ⟨rfl, rfl⟩ := oc2 hf
    exact a_ireturn dX14_told_89 rfl
  have hf := ifn c1_7 hf
  have t1_0 := lv_neT (a := 0) c1_0 rfl
  have t1_1 := lv_neT (a := 1) c1_1 rfl
  have t1_2 := lv_neT (a := 2) c1_2 rfl
  have t1_3 := lv_neT (a := 3) c1_3 rfl
  have t1_4 := lv_neT (a := 4) c1_4 rfl
  have t1_5 := lv_neT (a := 5) c1_5 rfl
  have t1_6 := lv_neT (a := 6) c1_6 rfl
  have t1_7 := lv_neT (a := 7) c1_7 rfl
  refine a_tblOut (tgt := 90) dX14_told_1 (by omega) (by decide) ?_
  refine a_iconst (v := (-1)) dX14_told_90 (by decide) ?_
  obtain ⟨rfl, rfl⟩ := oc2 hf
  exact a_ireturn dX14_told_91 rfl
def fX14_isVariable (a0 : Int32) (h : hp) : Option (Int32 × hp) :=
  bd2 (fX14_isIn (a0.toInt64) 0 7 h) fun v2 h3 =>
  (zck v2).bind fun _ =>
  some (v2, h3)
set_option maxHeartbeats 4000000 in
set_option maxRecDepth 100000 in
theorem sX14_isVariable (E : gE) (D : Nat) (hD : 1 ≤ D) {a0 : Int32} {h hz : hp} {v0 : Int32} (hf : fX14_isVariable a0 h = some (v0, hz)) : MC E yX14_isVariable cX14_isVariable (Option.some Jvm.ClassFile.FieldType.boolean) 1 D [.int a0] h (some (.int v0)) hz := by
  refine MC.of (by decide +kernel) (Nat.le_of_ble_eq_true rfl) rfl ?_
  unfold fX14_isVariable at hf
  show AW E yX14_isVariable cX14_isVariable (Option.some Jvm.ClassFile.FieldType.boolean) 1 D (some (.int v0)) h hz 0 [(0, .int a0)] [] h
  refine a_iload_n (q := 0) dX14_isVariable_0 rfl rfl ?_
  refine a_i2l dX14_isVariable_1 rfl ?_
  refine a_lconst (v := 0) dX14_isVariable_2 (by decide) ?_
  refine a_ldc2 (v := 7) dX14_isVariable_3 wd_1739 ?_
  obtain ⟨v2, h3, e1, hf⟩ := ob2 hf
  refine a_callS (as := [.long (a0.toInt64), .long 0, .long 7]) (np := 3) (st := []) (sX14_isIn E (D - 1) (by omega) e1) dX14_isVariable_6 rfl (by omega) (by decide) cw_X14_155 wd_1324 rfl (Nat.le_of_ble_eq_true rfl) ?_
  obtain ⟨_, e4, hf⟩ := obd hf
  obtain ⟨rfl, rfl⟩ := oc2 hf
  exact a_zreturn dX14_isVariable_9 rfl (zck_s e4)
def fX14_none (a0 : Nat) (a1 : Int32) (h : hp) : Option (Int32 × hp) :=
  bd2 (fX14_isVariable a1 h) fun v2 h3 =>
  if v2 = 0 then (
    some ((-1), h3)
  ) else (
    (gfR h3 a0 13 0).bind fun v4 =>
    (alI h3 v4 a1).bind fun v6 =>
    (gfR h3 a0 13 0).bind fun v8 =>
    (asI h3 v8 a1 0).bind fun h10 =>
    some (v6, h10)
  )
set_option maxHeartbeats 4000000 in
set_option maxRecDepth 100000 in
theorem sX14_none (E : gE) (D : Nat) (hD : 2 ≤ D) {a0 : Nat} {a1 : Int32} {h hz : hp} {v0 : Int32} (hf : fX14_none a0 a1 h = some (v0, hz)) : MC E yX14_none cX14_none (Option.some Jvm.ClassFile.FieldType.int) 3 D [.ref a0, .int a1] h (some (.int v0)) hz := by
  refine MC.of (by decide +kernel) (Nat.le_of_ble_eq_true rfl) rfl ?_
  unfold fX14_none at hf
  show AW E yX14_none cX14_none (Option.some Jvm.ClassFile.FieldType.int) 3 D (some (.int v0)) h hz 0 [(0, .ref a0), (1, .int a1)] [] h
  refine a_iload_n (q := 1) dX14_none_0 rfl rfl ?_
  obtain ⟨v2, h3, e1, hf⟩ := ob2 hf
  refine a_callS (as := [.int a1]) (np := 1) (st := []) (sX14_isVariable E (D - 1) (by omega) e1) dX14_none_1 rfl (by omega) (by decide) cw_X14_528 wd_1737 rfl (Nat.le_of_ble_eq_true rfl) ?_
  refine a_if_ne (tgt := 9) dX14_none_4 (by decide) (fun c => ?_) (fun c => ?_)
  · have hf := ifn c hf
    refine a_aload_n (q := 0) dX14_none_9 rfl rfl ?_
    obtain ⟨v4, e5, hf⟩ := obd hf
    refine o_gfR dX14_none_10 lk_X14_11 rfl e5 ?_
    refine a_iload_n (q := 1) dX14_none_13 rfl rfl ?_
    obtain ⟨v6, e7, hf⟩ := obd hf
    refine o_alI dX14_none_14 e7 ?_
    refine a_istore_n (lv1 := [(2, .int v6), (0, .ref a0), (1, .int a1)]) dX14_none_15 rfl (by decide) rfl ?_
    refine a_aload_n (q := 1) dX14_none_16 rfl rfl ?_
    obtain ⟨v8, e9, hf⟩ := obd hf
    refine o_gfR dX14_none_17 lk_X14_11 rfl e9 ?_
    refine a_iload_n (q := 2) dX14_none_20 rfl rfl ?_
    refine a_iconst (v := 0) dX14_none_21 (by decide) ?_
    obtain ⟨h10, e11, hf⟩ := obd hf
    refine o_asI dX14_none_22 e11 ?_
    refine a_iload_n (q := 0) dX14_none_23 rfl rfl ?_
    obtain ⟨rfl, rfl⟩ := oc2 hf
    exact a_ireturn dX14_none_24 rfl
  · have hf := ifp c hf
    refine a_iconst (v := (-1)) dX14_none_7 (by decide) ?_
    obtain ⟨rfl, rfl⟩ := oc2 hf
    exact a_ireturn dX14_none_8 rfl
def fX14_number (a0 : Nat) (a1 : Int32) (a2 : Int32) (h : hp) : Option (Int32 × hp) :=
  bd2 (fX14_isVariable a1 h) fun v2 h3 =>
  if v2 = 0 then (
    some ((-1), h3)
  ) else (
    bd2 (fX14_isIn (a2.toInt64) (-1000000) 1000000 h3) fun v5 h6 =>
    if v5 = 0 then (
      some ((-2), h6)
    ) else (
      (gfR h6 a0 13 0).bind fun v7 =>
      (alI h6 v7 a1).bind fun v9 =>
      (ckT h6 a0 13).bind fun _ =>
      (fX14_isInt a0 a1 a2 h6).bind fun h12 =>
      some (v9, h12)
    )
  )
set_option maxHeartbeats 4000000 in
set_option maxRecDepth 100000 in
theorem sX14_number (E : gE) (D : Nat) (hD : 2 ≤ D) {a0 : Nat} {a1 : Int32} {a2 : Int32} {h hz : hp} {v0 : Int32} (hf : fX14_number a0 a1 a2 h = some (v0, hz)) : MC E yX14_number cX14_number (Option.some Jvm.ClassFile.FieldType.int) 4 D [.ref a0, .int a1, .int a2] h (some (.int v0)) hz := by
  refine MC.of (by decide +kernel) (Nat.le_of_ble_eq_true rfl) rfl ?_
  unfold fX14_number at hf
  show AW E yX14_number cX14_number (Option.some Jvm.ClassFile.FieldType.int) 4 D (some (.int v0)) h hz 0 [(0, .ref a0), (1, .int a1), (2, .int a2)] [] h
  refine a_iload_n (q := 1) dX14_number_0 rfl rfl ?_
  obtain ⟨v2, h3, e1, hf⟩ := ob2 hf
  refine a_callS (as := [.int a1]) (np := 1) (st := []) (sX14_isVariable E (D - 1) (by omega) e1) dX14_number_1 rfl (by omega) (by decide) cw_X14_528 wd_1737 rfl (Nat.le_of_ble_eq_true rfl) ?_
  refine a_if_ne (tgt := 9) dX14_number_4 (by decide) (fun c => ?_) (fun c => ?_)
  · have hf := ifn c hf
    refine a_iload_n (q := 2) dX14_number_9 rfl rfl ?_
    refine a_i2l dX14_number_10 rfl ?_
    refine a_ldc2 (v := (-1000000)) dX14_number_11 wd_1590 ?_
    refine a_ldc2 (v := 1000000) dX14_number_14 wd_1591 ?_
    obtain ⟨v5, h6, e4, hf⟩ := ob2 hf
    refine a_callS (as := [.long (a2.toInt64), .long (-1000000), .long 1000000]) (np := 3) (st := []) (sX14_isIn E (D - 1) (by omega) e4) dX14_number_17 rfl (by omega) (by decide) cw_X14_155 wd_1324 rfl (Nat.le_of_ble_eq_true rfl) ?_
    refine a_if_ne (tgt := 26) dX14_number_20 (by decide) (fun c => ?_) (fun c => ?_)
    · have hf := ifn c hf
      refine a_aload_n (q := 0) dX14_number_26 rfl rfl ?_
      obtain ⟨v7, e8, hf⟩ := obd hf
      refine o_gfR dX14_number_27 lk_X14_11 rfl e8 ?_
      refine a_iload_n (q := 1) dX14_number_30 rfl rfl ?_
      obtain ⟨v9, e10, hf⟩ := obd hf
      refine o_alI dX14_number_31 e10 ?_
      refine a_istore_n (lv1 := [(3, .int v9), (0, .ref a0), (1, .int a1), (2, .int a2)]) dX14_number_32 rfl (by decide) rfl ?_
      refine a_aload_n (q := 1) dX14_number_33 rfl rfl ?_
      refine a_iload_n (q := 2) dX14_number_34 rfl rfl ?_
      refine a_iload_n (q := 3) dX14_number_35 rfl rfl ?_
      obtain ⟨_, e13, hf⟩ := obd hf
      obtain ⟨h12, e11, hf⟩ := obd hf
      refine a_callV (as := [.int a1, .int a2]) (np := 2) (ci := 13) (st := []) (sX14_isInt E (D - 1) (by omega) e11) dX14_number_36 rfl (by omega) (by decide) cw_X14_171 ⟨wd_1515, ws_100⟩ rfl (ckT_s e13) rfl (Nat.le_of_ble_eq_true rfl) ?_
      refine a_iload_n (q := 0) dX14_number_39 rfl rfl ?_
      obtain ⟨rfl, rfl⟩ := oc2 hf
      exact a_ireturn dX14_number_40 rfl
    · have hf := ifp c hf
      refine a_bipush (v := (-2)) dX14_number_23 (by decide) ?_
      obtain ⟨rfl, rfl⟩ := oc2 hf
      exact a_ireturn dX14_number_25 rfl
  · have hf := ifp c hf
    refine a_iconst (v := (-1)) dX14_number_7 (by decide) ?_
    obtain ⟨rfl, rfl⟩ := oc2 hf
    exact a_ireturn dX14_number_8 rfl
def fX14_real (a0 : Nat) (a1 : Int32) (a2 : Int32) (a3 : Int32) (h : hp) : Option (Int32 × hp) :=
  bd2 (fX14_isVariable a1 h) fun v2 h3 =>
  if v2 = 0 then (
    some ((-1), h3)
  ) else (
    if a3 = 0 then (
      some ((-2), h3)
    ) else (
      (gfR h3 a0 13 0).bind fun v4 =>
      (alI h3 v4 a1).bind fun v6 =>
      (fnn (FP.fdiv (FP.i2f a2) (FP.i2f a3))).bind fun v8 =>
      (ckT h3 a0 13).bind fun _ =>
      (fX14_isReal a0 a1 v8 h3).bind fun h11 =>
      some (v6, h11)
    )
  )
set_option maxHeartbeats 4000000 in
set_option maxRecDepth 100000 in
theorem sX14_real (E : gE) (D : Nat) (hD : 2 ≤ D) {a0 : Nat} {a1 : Int32} {a2 : Int32} {a3 : Int32} {h hz : hp} {v0 : Int32} (hf : fX14_real a0 a1 a2 a3 h = some (v0, hz)) : MC E yX14_real cX14_real (Option.some Jvm.ClassFile.FieldType.int) 5 D [.ref a0, .int a1, .int a2, .int a3] h (some (.int v0)) hz := by
  refine MC.of (by decide +kernel) (Nat.le_of_ble_eq_true rfl) rfl ?_
  unfold fX14_real at hf
  show AW E yX14_real cX14_real (Option.some Jvm.ClassFile.FieldType.int) 5 D (some (.int v0)) h hz 0 [(0, .ref a0), (1, .int a1), (2, .int a2), (3, .int a3)] [] h
  refine a_iload_n (q := 1) dX14_real_0 rfl rfl ?_
  obtain ⟨v2, h3, e1, hf⟩ := ob2 hf
  refine a_callS (as := [.int a1]) (np := 1) (st := []) (sX14_isVariable E (D - 1) (by omega) e1) dX14_real_1 rfl (by omega) (by decide) cw_X14_528 wd_1737 rfl (Nat.le_of_ble_eq_true rfl) ?_
  refine a_if_ne (tgt := 9) dX14_real_4 (by decide) (fun c => ?_) (fun c => ?_)
  · have hf := ifn c hf
    refine a_iload_n (q := 3) dX14_real_9 rfl rfl ?_
    refine a_if_ne (tgt := 16) dX14_real_10 (by decide) (fun c => ?_) (fun c => ?_)
    · have hf := ifn c hf
      refine a_aload_n (q := 0) dX14_real_16 rfl rfl ?_
      obtain ⟨v4, e5, hf⟩ := obd hf
      refine o_gfR dX14_real_17 lk_X14_11 rfl e5 ?_
      refine a_iload_n (q := 1) dX14_real_20 rfl rfl ?_
      obtain ⟨v6, e7, hf⟩ := obd hf
      refine o_alI dX14_real_21 e7 ?_
      refine a_istore (lv1 := [(4, .int v6), (0, .ref a0), (1, .int a1), (2, .int a2), (3, .int a3)]) dX14_real_22 (by decide) rfl ?_
      refine a_aload_n (q := 1) dX14_real_24 rfl rfl ?_
      refine a_iload_n (q := 2) dX14_real_25 rfl rfl ?_
      refine a_iload_n (q := 3) dX14_real_26 rfl rfl ?_
      refine a_i2f dX14_real_27 ?_
      refine a_iload_n (q := 4) dX14_real_28 rfl rfl ?_
      refine a_i2f dX14_real_29 ?_
      obtain ⟨v8, e9, hf⟩ := obd hf
      refine o_fdiv dX14_real_30 e9 ?_
      obtain ⟨_, e12, hf⟩ := obd hf
      obtain ⟨h11, e10, hf⟩ := obd hf
      refine a_callV (as := [.int a1, .float v8]) (np := 2) (ci := 13) (st := []) (sX14_isReal E (D - 1) (by omega) e10) dX14_real_31 rfl (by omega) (by decide) cw_X14_193 ⟨wd_1543, ws_106⟩ rfl (ckT_s e12) rfl (Nat.le_of_ble_eq_true rfl) ?_
      refine a_iload (q := 0) dX14_real_34 rfl ?_
      obtain ⟨rfl, rfl⟩ := oc2 hf
      exact a_ireturn dX14_real_36 rfl
    · have hf := ifp c hf
      refine a_bipush (v := (-2)) dX14_real_13 (by decide) ?_
      obtain ⟨rfl, rfl⟩ := oc2 hf
      exact a_ireturn dX14_real_15 rfl
  · have hf := ifp c hf
    refine a_iconst (v := (-1)) dX14_real_7 (by decide) ?_
    obtain ⟨rfl, rfl⟩ := oc2 hf
    exact a_ireturn dX14_real_8 rfl
def fX14_text_l52 : Nat → Nat → Int32 → Int32 → Int32 → Int32 → hp → Option hp
  | 0, _, _, _, _, _, _ => none
  | n + 1, x0, x1, x2, x3, x4, h =>
    if x2 ≤ x4 then (
      some (h)
    ) else (
      (gfR h x0 13 3).bind fun v1 =>
      (gfR h x0 13 7).bind fun v3 =>
      (alI h v3 x4).bind fun v5 =>
      (asI h v1 ((16 * x1) + x4) v5).bind fun h7 =>
      fX14_text_l52 n x0 x1 x2 x3 (x4 + 1) h7
    )
def fX14_text (a0 : Nat) (a1 : Int32) (h : hp) : Option (Int32 × hp) :=
  bd2 (fX14_isVariable a1 h) fun v2 h3 =>
  if v2 = 0 then (
    some ((-1), h3)
  ) else (
    (gfI h3 a0 13 10).bind fun v4 =>
    (pfI h3 a0 13 10 0).bind fun h6 =>
    if v4 ≤ 16 then (
      (gfR h6 a0 13 0).bind fun v8 =>
      (alI h6 v8 a1).bind fun v10 =>
      (gfR h6 a0 13 0).bind fun v12 =>
      (asI h6 v12 a1 3).bind fun h14 =>
      (gfR h14 a0 13 2).bind fun v16 =>
      (asI h14 v16 a1 v4).bind fun h18 =>
      (fX14_text_l52 FU a0 a1 v4 v10 0 h18).bind fun h21 =>
      some (v10, h21)
    ) else (
      some ((-2), h6)
    )
  )
set_option maxHeartbeats 4000000 in
set_option maxRecDepth 100000 in
theorem sX14_text_l52 (E : gE) (D : Nat) (hD : 2 ≤ D) {rz : Option Value} {h0 hz : hp} : ∀ (n : Nat) (x0 : Nat) (x1 : Int32) (x2 : Int32) (x3 : Int32) (x4 : Int32) (h : hp) (hq : hp), fX14_text_l52 n x0 x1 x2 x3 x4 h = some hq → (AW E yX14_text cX14_text (Option.some Jvm.ClassFile.FieldType.int) 5 D rz h0 hz 83 [(3, .int x3)] [] hq) → AW E yX14_text cX14_text (Option.some Jvm.ClassFile.FieldType.int) 5 D rz h0 hz 52 [(0, .ref x0), (1, .int x1), (2, .int x2), (3, .int x3), (4, .int x4)] [] h := by
  intro n
  induction n with
  | zero =>
    intro x0 x1 x2 x3 x4 h hq hf _
    rw [fX14_text_l52] at hf
    cases hf
  | succ n ih =>
    intro x0 x1 x2 x3 x4 h hq hf hk0
    rw [fX14_text_l52] at hf
    refine a_iload (q := 4) dX14_text_52 rfl ?_
    refine a_iload_n (q := 2) dX14_text_54 rfl rfl ?_
    refine a_icmp_ge (tgt := 83) dX14_text_55 (by decide) (fun c => ?_) (fun c => ?_)
    · have hf := ifp c hf
      obtain rfl := Option.some.inj hf
      exact AW.sub [3] rfl (hk0)
    · have hf := ifn c hf
      refine a_aload_n (q := 0) dX14_text_58 rfl rfl ?_
      obtain ⟨v1, e2, hf⟩ := obd hf
      refine o_gfR dX14_text_59 lk_X14_21 rfl e2 ?_
      refine a_bipush (v := 16) dX14_text_62 (by decide) ?_
      refine a_iload_n (q := 1) dX14_text_64 rfl rfl ?_
      refine a_imul dX14_text_65 ?_
      refine a_iload (q := 4) dX14_text_66 rfl ?_
      refine a_iadd dX14_text_68 ?_
      refine a_aload_n (q := 0) dX14_text_69 rfl rfl ?_
      obtain ⟨v3, e4, hf⟩ := obd hf
      refine o_gfR dX14_text_70 lk_X14_31 rfl e4 ?_
      refine a_iload (q := 4) dX14_text_73 rfl ?_
      obtain ⟨v5, e6, hf⟩ := obd hf
      refine o_alI dX14_text_75 e6 ?_
      obtain ⟨h7, e8, hf⟩ := obd hf
      refine o_asI dX14_text_76 e8 ?_
      refine a_iinc (q := 4) (v := (x4 + 1)) (lv1 := [(4, .int (x4 + 1)), (0, .ref x0), (1, .int x1), (2, .int x2), (3, .int x3)]) dX14_text_77 rfl (by rfl) (by decide) rfl ?_
      refine a_goto (tgt := 52) dX14_text_80 (by decide) ?_
      exact AW.sub [1, 2, 3, 4, 0] rfl (ih _ _ _ _ _ _ _ hf hk0)
set_option maxHeartbeats 4000000 in
set_option maxRecDepth 100000 in
theorem sX14_text (E : gE) (D : Nat) (hD : 2 ≤ D) {a0 : Nat} {a1 : Int32} {h hz : hp} {v0 : Int32} (hf : fX14_text a0 a1 h = some (v0, hz)) : MC E yX14_text cX14_text (Option.some Jvm.ClassFile.FieldType.int) 5 D [.ref a0, .int a1] h (some (.int v0)) hz := by
  refine MC.of (by decide +kernel) (Nat.le_of_ble_eq_true rfl) rfl ?_
  unfold fX14_text at hf
  show AW E yX14_text cX14_text (Option.some Jvm.ClassFile.FieldType.int) 5 D (some (.int v0)) h hz 0 [(0, .ref a0), (1, .int a1)] [] h
  refine a_iload_n (q := 1) dX14_text_0 rfl rfl ?_
  obtain ⟨v2, h3, e1, hf⟩ := ob2 hf
  refine a_callS (as := [.int a1]) (np := 1) (st := []) (sX14_isVariable E (D - 1) (by omega) e1) dX14_text_1 rfl (by omega) (by decide) cw_X14_528 wd_1737 rfl (Nat.le_of_ble_eq_true rfl) ?_
  refine a_if_ne (tgt := 9) dX14_text_4 (by decide) (fun c => ?_) (fun c => ?_)
  · have hf := ifn c hf
    refine a_aload_n (q := 0) dX14_text_9 rfl rfl ?_
    obtain ⟨v4, e5, hf⟩ := obd hf
    refine o_gfI dX14_text_10 lk_X14_229 rfl e5 ?_
    refine a_istore_n (lv1 := [(2, .int v4), (0, .ref a0), (1, .int a1)]) dX14_text_13 rfl (by decide) rfl ?_
    refine a_aload_n (q := 1) dX14_text_14 rfl rfl ?_
    refine a_iconst (v := 0) dX14_text_15 (by decide) ?_
    obtain ⟨h6, e7, hf⟩ := obd hf
    refine o_pfI dX14_text_16 lk_X14_229 (⟨_, rfl, Or.inl rfl⟩) rfl e7 ?_
    refine a_iload_n (q := 0) dX14_text_19 rfl rfl ?_
    refine a_bipush (v := 16) dX14_text_20 (by decide) ?_
    refine a_icmp_le (tgt := 28) dX14_text_22 (by decide) (fun c => ?_) (fun c => ?_)
    · have hf := ifp c hf
      refine a_aload_n (q := 1) dX14_text_28 rfl rfl ?_
      obtain ⟨v8, e9, hf⟩ := obd hf
      refine o_gfR dX14_text_29 lk_X14_11 rfl e9 ?_
      refine a_iload_n (q := 2) dX14_text_32 rfl rfl ?_
      obtain ⟨v10, e11, hf⟩ := obd hf
      refine o_alI dX14_text_33 e11 ?_
      refine a_istore_n (lv1 := [(3, .int v10), (2, .int v4), (0, .ref a0), (1, .int a1)]) dX14_text_34 rfl (by decide) rfl ?_
      refine a_aload_n (q := 2) dX14_text_35 rfl rfl ?_
      obtain ⟨v12, e13, hf⟩ := obd hf
      refine o_gfR dX14_text_36 lk_X14_11 rfl e13 ?_
      refine a_iload_n (q := 3) dX14_text_39 rfl rfl ?_
      refine a_iconst (v := 3) dX14_text_40 (by decide) ?_
      obtain ⟨h14, e15, hf⟩ := obd hf
      refine o_asI dX14_text_41 e15 ?_
      refine a_aload_n (q := 2) dX14_text_42 rfl rfl ?_
      obtain ⟨v16, e17, hf⟩ := obd hf
      refine o_gfR dX14_text_43 lk_X14_18 rfl e17 ?_
      refine a_iload_n (q := 3) dX14_text_46 rfl rfl ?_
      refine a_iload_n (q := 1) dX14_text_47 rfl rfl ?_
      obtain ⟨h18, e19, hf⟩ := obd hf
      refine o_asI dX14_text_48 e19 ?_
      refine a_iconst (v := 0) dX14_text_49 (by decide) ?_
      refine a_istore (lv1 := [(4, .int 0), (3, .int v10), (2, .int v4), (0, .ref a0), (1, .int a1)]) dX14_text_50 (by decide) rfl ?_
      obtain ⟨h21, e20, hf⟩ := obd hf
      refine AW.sub [3, 4, 2, 1, 0] rfl (sX14_text_l52 E D hD _ _ _ _ _ _ _ _ e20 ?_)
      refine a_iload_n (q := 0) dX14_text_83 rfl rfl ?_
      obtain ⟨rfl, rfl⟩ := oc2 hf
      exact a_ireturn dX14_text_84 rfl
    · have hf := ifn c hf
      refine a_bipush (v := (-2)) dX14_text_25 (by decide) ?_
      obtain ⟨rfl, rfl⟩ := oc2 hf
      exact a_ireturn dX14_text_27 rfl
  · have hf := ifp c hf
    refine a_iconst (v := (-1)) dX14_text_7 (by decide) ?_
    obtain ⟨rfl, rfl⟩ := oc2 hf
    exact a_ireturn dX14_text_8 rfl
def fX14_list_l48 : Nat → Nat → Int32 → Int32 → Int32 → Int32 → hp → Option hp
  | 0, _, _, _, _, _, _ => none
  | n + 1, x0, x1, x2, x3, x4, h =>
    if x2 ≤ x4 then (
      some (h)
    ) else (
      (gfR h x0 13 3).bind fun v1 =>
      (asI h v1 ((16 * x1) + x4) 0).bind fun h3 =>
      fX14_list_l48 n x0 x1 x2 x3 (x4 + 1) h3
    )
def fX14_list (a0 : Nat) (a1 : Int32) (a2 : Int32) (h : hp) : Option (Int32 × hp) :=
  bd2 (fX14_isVariable a1 h) fun v2 h3 =>
  if v2 = 0 then (
    some ((-1), h3)
  ) else (
    bd2 (fX14_isIn (a2.toInt64) 0 6 h3) fun v5 h6 =>
    if v5 = 0 then (
      some ((-2), h6)
    ) else (
      (gfR h6 a0 13 0).bind fun v7 =>
      (alI h6 v7 a1).bind fun v9 =>
      (gfR h6 a0 13 0).bind fun v11 =>
      (asI h6 v11 a1 4).bind fun h13 =>
      (gfR h13 a0 13 2).bind fun v15 =>
      (asI h13 v15 a1 a2).bind fun h17 =>
      (fX14_list_l48 FU a0 a1 a2 v9 0 h17).bind fun h20 =>
      some (v9, h20)
    )
  )
set_option maxHeartbeats 4000000 in
set_option maxRecDepth 100000 in
theorem sX14_list_l48 (E : gE) (D : Nat) (hD : 2 ≤ D) {rz : Option Value} {h0 hz : hp} : ∀ (n : Nat) (x0 : Nat) (x1 : Int32) (x2 : Int32) (x3 : Int32) (x4 : Int32) (h : hp) (hq : hp), fX14_list_l48 n x0 x1 x2 x3 x4 h = some hq → (AW E yX14_list cX14_list (Option.some Jvm.ClassFile.FieldType.int) 5 D rz h0 hz 73 [(3, .int x3)] [] hq) → AW E yX14_list cX14_list (Option.some Jvm.ClassFile.FieldType.int) 5 D rz h0 hz 48 [(0, .ref x0), (1, .int x1), (2, .int x2), (3, .int x3), (4, .int x4)] [] h := by
  intro n
  induction n with
  | zero =>
    intro x0 x1 x2 x3 x4 h hq hf _
    rw [fX14_list_l48] at hf
    cases hf
  | succ n ih =>
    intro x0 x1 x2 x3 x4 h hq hf hk0
    rw [fX14_list_l48] at hf
    refine a_iload (q := 4) dX14_list_48 rfl ?_
    refine a_iload_n (q := 2) dX14_list_50 rfl rfl ?_
    refine a_icmp_ge (tgt := 73) dX14_list_51 (by decide) (fun c => ?_) (fun c => ?_)
    · have hf := ifp c hf
      obtain rfl := Option.some.inj hf
      exact AW.sub [3] rfl (hk0)
    · have hf := ifn c hf
      refine a_aload_n (q := 0) dX14_list_54 rfl rfl ?_
      obtain ⟨v1, e2, hf⟩ := obd hf
      refine o_gfR dX14_list_55 lk_X14_21 rfl e2 ?_
      refine a_bipush (v := 16) dX14_list_58 (by decide) ?_
      refine a_iload_n (q := 1) dX14_list_60 rfl rfl ?_
      refine a_imul dX14_list_61 ?_
      refine a_iload (q := 4) dX14_list_62 rfl ?_
      refine a_iadd dX14_list_64 ?_
      refine a_iconst (v := 0) dX14_list_65 (by decide) ?_
      obtain ⟨h3, e4, hf⟩ := obd hf
      refine o_asI dX14_list_66 e4 ?_
      refine a_iinc (q := 4) (v := (x4 + 1)) (lv1 := [(4, .int (x4 + 1)), (0, .ref x0), (1, .int x1), (2, .int x2), (3, .int x3)]) dX14_list_67 rfl (by rfl) (by decide) rfl ?_
      refine a_goto (tgt := 48) dX14_list_70 (by decide) ?_
      exact AW.sub [1, 2, 3, 4, 0] rfl (ih _ _ _ _ _ _ _ hf hk0)
set_option maxHeartbeats 4000000 in
set_option maxRecDepth 100000 in
theorem sX14_list (E : gE) (D : Nat) (hD : 2 ≤ D) {a0 : Nat} {a1 : Int32} {a2 : Int32} {h hz : hp} {v0 : Int32} (hf : fX14_list a0 a1 a2 h = some (v0, hz)) : MC E yX14_list cX14_list (Option.some Jvm.ClassFile.FieldType.int) 5 D [.ref a0, .int a1, .int a2] h (some (.int v0)) hz := by
  refine MC.of (by decide +kernel) (Nat.le_of_ble_eq_true rfl) rfl ?_
  unfold fX14_list at hf
  show AW E yX14_list cX14_list (Option.some Jvm.ClassFile.FieldType.int) 5 D (some (.int v0)) h hz 0 [(0, .ref a0), (1, .int a1), (2, .int a2)] [] h
  refine a_iload_n (q := 1) dX14_list_0 rfl rfl ?_
  obtain ⟨v2, h3, e1, hf⟩ := ob2 hf
  refine a_callS (as := [.int a1]) (np := 1) (st := []) (sX14_isVariable E (D - 1) (by omega) e1) dX14_list_1 rfl (by omega) (by decide) cw_X14_528 wd_1737 rfl (Nat.le_of_ble_eq_true rfl) ?_
  refine a_if_ne (tgt := 9) dX14_list_4 (by decide) (fun c => ?_) (fun c => ?_)
  · have hf := ifn c hf
    refine a_iload_n (q := 2) dX14_list_9 rfl rfl ?_
    refine a_i2l dX14_list_10 rfl ?_
    refine a_lconst (v := 0) dX14_list_11 (by decide) ?_
    refine a_ldc2 (v := 6) dX14_list_12 wd_1424 ?_
    obtain ⟨v5, h6, e4, hf⟩ := ob2 hf
    refine a_callS (as := [.long (a2.toInt64), .long 0, .long 6]) (np := 3) (st := []) (sX14_isIn E (D - 1) (by omega) e4) dX14_list_15 rfl (by omega) (by decide) cw_X14_155 wd_1324 rfl (Nat.le_of_ble_eq_true rfl) ?_
    refine a_if_ne (tgt := 24) dX14_list_18 (by decide) (fun c => ?_) (fun c => ?_)
    · have hf := ifn c hf
      refine a_aload_n (q := 0) dX14_list_24 rfl rfl ?_
      obtain ⟨v7, e8, hf⟩ := obd hf
      refine o_gfR dX14_list_25 lk_X14_11 rfl e8 ?_
      refine a_iload_n (q := 1) dX14_list_28 rfl rfl ?_
      obtain ⟨v9, e10, hf⟩ := obd hf
      refine o_alI dX14_list_29 e10 ?_
      refine a_istore_n (lv1 := [(3, .int v9), (0, .ref a0), (1, .int a1), (2, .int a2)]) dX14_list_30 rfl (by decide) rfl ?_
      refine a_aload_n (q := 1) dX14_list_31 rfl rfl ?_
      obtain ⟨v11, e12, hf⟩ := obd hf
      refine o_gfR dX14_list_32 lk_X14_11 rfl e12 ?_
      refine a_iload_n (q := 2) dX14_list_35 rfl rfl ?_
      refine a_iconst (v := 4) dX14_list_36 (by decide) ?_
      obtain ⟨h13, e14, hf⟩ := obd hf
      refine o_asI dX14_list_37 e14 ?_
      refine a_aload_n (q := 1) dX14_list_38 rfl rfl ?_
      obtain ⟨v15, e16, hf⟩ := obd hf
      refine o_gfR dX14_list_39 lk_X14_18 rfl e16 ?_
      refine a_iload_n (q := 2) dX14_list_42 rfl rfl ?_
      refine a_iload_n (q := 3) dX14_list_43 rfl rfl ?_
      obtain ⟨h17, e18, hf⟩ := obd hf
      refine o_asI dX14_list_44 e18 ?_
      refine a_iconst (v := 0) dX14_list_45 (by decide) ?_
      refine a_istore (lv1 := [(4, .int 0), (3, .int v9), (0, .ref a0), (1, .int a1), (2, .int a2)]) dX14_list_46 (by decide) rfl ?_
      obtain ⟨h20, e19, hf⟩ := obd hf
      refine AW.sub [2, 3, 4, 1, 0] rfl (sX14_list_l48 E D hD _ _ _ _ _ _ _ _ e19 ?_)
      refine a_iload_n (q := 0) dX14_list_73 rfl rfl ?_
      obtain ⟨rfl, rfl⟩ := oc2 hf
      exact a_ireturn dX14_list_74 rfl
    · have hf := ifp c hf
      refine a_bipush (v := (-2)) dX14_list_21 (by decide) ?_
      obtain ⟨rfl, rfl⟩ := oc2 hf
      exact a_ireturn dX14_list_23 rfl
  · have hf := ifp c hf
    refine a_iconst (v := (-1)) dX14_list_7 (by decide) ?_
    obtain ⟨rfl, rfl⟩ := oc2 hf
    exact a_ireturn dX14_list_8 rfl
def fX14_item (a0 : Nat) (a1 : Int32) (a2 : Int32) (a3 : Int32) (h : hp) : Option (Int32 × hp) :=
  bd2 (fX14_isVariable a1 h) fun v2 h3 =>
  if v2 = 0 then (
    some ((-1), h3)
  ) else (
    (gfR h3 a0 13 0).bind fun v4 =>
    (alI h3 v4 a1).bind fun v6 =>
    if v6 = 4 then (
      (gfR h3 a0 13 2).bind fun v8 =>
      (alI h3 v8 a1).bind fun v10 =>
      bd2 (fX14_isIn (a2.toInt64) 0 ((v10 - 1).toInt64) h3) fun v13 h14 =>
      if v13 = 0 then (
        some ((-1), h14)
      ) else (
        bd2 (fX14_isIn (a3.toInt64) (-1000000) 1000000 h14) fun v16 h17 =>
        if v16 = 0 then (
          some ((-2), h17)
        ) else (
          (gfR h17 a0 13 3).bind fun v18 =>
          (alI h17 v18 ((16 * a1) + a2)).bind fun v20 =>
          (gfR h17 a0 13 3).bind fun v22 =>
          (asI h17 v22 ((16 * a1) + a2) a3).bind fun h24 =>
          some (v20, h24)
        )
      )
    ) else (
      some ((-3), h3)
    )
  )
set_option maxHeartbeats 4000000 in
set_option maxRecDepth 100000 in
theorem sX14_item (E : gE) (D : Nat) (hD : 2 ≤ D) {a0 : Nat} {a1 : Int32} {a2 : Int32} {a3 : Int32} {h hz : hp} {v0 : Int32} (hf : fX14_item a0 a1 a2 a3 h = some (v0, hz)) : MC E yX14_item cX14_item (Option.some Jvm.ClassFile.FieldType.int) 5 D [.ref a0, .int a1, .int a2, .int a3] h (some (.int v0)) hz := by
  refine MC.of (by decide +kernel) (Nat.le_of_ble_eq_true rfl) rfl ?_
  unfold fX14_item at hf
  show AW E yX14_item cX14_item (Option.some Jvm.ClassFile.FieldType.int) 5 D (some (.int v0)) h hz 0 [(0, .ref a0), (1, .int a1), (2, .int a2), (3, .int a3)] [] h
  refine a_iload_n (q := 1) dX14_item_0 rfl rfl ?_
  obtain ⟨v2, h3, e1, hf⟩ := ob2 hf
  refine a_callS (as := [.int a1]) (np := 1) (st := []) (sX14_isVariable E (D - 1) (by omega) e1) dX14_item_1 rfl (by omega) (by decide) cw_X14_528 wd_1737 rfl (Nat.le_of_ble_eq_true rfl) ?_
  refine a_if_ne (tgt := 9) dX14_item_4 (by decide) (fun c => ?_) (fun c => ?_)
  · have hf := ifn c hf
    refine a_aload_n (q := 0) dX14_item_9 rfl rfl ?_
    obtain ⟨v4, e5, hf⟩ := obd hf
    refine o_gfR dX14_item_10 lk_X14_11 rfl e5 ?_
    refine a_iload_n (q := 1) dX14_item_13 rfl rfl ?_
    obtain ⟨v6, e7, hf⟩ := obd hf
    refine o_alI dX14_item_14 e7 ?_
    refine a_iconst (v := 4) dX14_item_15 (by decide) ?_
    refine a_icmp_eq (tgt := 22) dX14_item_16 (by decide) (fun c => ?_) (fun c => ?_)
    · have hf := ifp c hf
      refine a_iload_n (q := 2) dX14_item_22 rfl rfl ?_
      refine a_i2l dX14_item_23 rfl ?_
      refine a_lconst (v := 0) dX14_item_24 (by decide) ?_
      refine a_aload_n (q := 0) dX14_item_25 rfl rfl ?_
      obtain ⟨v8, e9, hf⟩ := obd hf
      refine o_gfR dX14_item_26 lk_X14_18 rfl e9 ?_
      refine a_iload_n (q := 1) dX14_item_29 rfl rfl ?_
      obtain ⟨v10, e11, hf⟩ := obd hf
      refine o_alI dX14_item_30 e11 ?_
      refine a_iconst (v := 1) dX14_item_31 (by decide) ?_
      refine a_isub dX14_item_32 ?_
      refine a_i2l dX14_item_33 rfl ?_
      obtain ⟨v13, h14, e12, hf⟩ := ob2 hf
      refine a_callS (as := [.long (a2.toInt64), .long 0, .long ((v10 - 1).toInt64)]) (np := 3) (st := []) (sX14_isIn E (D - 1) (by omega) e12) dX14_item_34 rfl (by omega) (by decide) cw_X14_155 wd_1324 rfl (Nat.le_of_ble_eq_true rfl) ?_
      refine a_if_ne (tgt := 42) dX14_item_37 (by decide) (fun c => ?_) (fun c => ?_)
      · have hf := ifn c hf
        refine a_iload_n (q := 3) dX14_item_42 rfl rfl ?_
        refine a_i2l dX14_item_43 rfl ?_
        refine a_ldc2 (v := (-1000000)) dX14_item_44 wd_1590 ?_
        refine a_ldc2 (v := 1000000) dX14_item_47 wd_1591 ?_
        obtain ⟨v16, h17, e15, hf⟩ := ob2 hf
        refine a_callS (as := [.long (a3.toInt64), .long (-1000000), .long 1000000]) (np := 3) (st := []) (sX14_isIn E (D - 1) (by omega) e15) dX14_item_50 rfl (by omega) (by decide) cw_X14_155 wd_1324 rfl (Nat.le_of_ble_eq_true rfl) ?_
        refine a_if_ne (tgt := 59) dX14_item_53 (by decide) (fun c => ?_) (fun c => ?_)
        · have hf := ifn c hf
          refine a_aload_n (q := 0) dX14_item_59 rfl rfl ?_
          obtain ⟨v18, e19, hf⟩ := obd hf
          refine o_gfR dX14_item_60 lk_X14_21 rfl e19 ?_
          refine a_bipush (v := 16) dX14_item_63 (by decide) ?_
          refine a_iload_n (q := 1) dX14_item_65 rfl rfl ?_
          refine a_imul dX14_item_66 ?_
          refine a_iload_n (q := 2) dX14_item_67 rfl rfl ?_
          refine a_iadd dX14_item_68 ?_
          obtain ⟨v20, e21, hf⟩ := obd hf
          refine o_alI dX14_item_69 e21 ?_
          refine a_istore (lv1 := [(4, .int v20), (0, .ref a0), (1, .int a1), (2, .int a2), (3, .int a3)]) dX14_item_70 (by decide) rfl ?_
          refine a_aload_n (q := 1) dX14_item_72 rfl rfl ?_
          obtain ⟨v22, e23, hf⟩ := obd hf
          refine o_gfR dX14_item_73 lk_X14_21 rfl e23 ?_
          refine a_bipush (v := 16) dX14_item_76 (by decide) ?_
          refine a_iload_n (q := 2) dX14_item_78 rfl rfl ?_
          refine a_imul dX14_item_79 ?_
          refine a_iload_n (q := 3) dX14_item_80 rfl rfl ?_
          refine a_iadd dX14_item_81 ?_
          refine a_iload_n (q := 4) dX14_item_82 rfl rfl ?_
          obtain ⟨h24, e25, hf⟩ := obd hf
          refine o_asI dX14_item_83 e25 ?_
          refine a_iload (q := 0) dX14_item_84 rfl ?_
          obtain ⟨rfl, rfl⟩ := oc2 hf
          exact a_ireturn dX14_item_86 rfl
        · have hf := ifp c hf
          refine a_bipush (v := (-2)) dX14_item_56 (by decide) ?_
          obtain ⟨rfl, rfl⟩ := oc2 hf
          exact a_ireturn dX14_item_58 rfl
      · have hf := ifp c hf
        refine a_iconst (v := (-1)) dX14_item_40 (by decide) ?_
        obtain ⟨rfl, rfl⟩ := oc2 hf
        exact a_ireturn dX14_item_41 rfl
    · have hf := ifn c hf
      refine a_bipush (v := (-3)) dX14_item_19 (by decide) ?_
      obtain ⟨rfl, rfl⟩ := oc2 hf
      exact a_ireturn dX14_item_21 rfl
  · have hf := ifp c hf
    refine a_iconst (v := (-1)) dX14_item_7 (by decide) ?_
    obtain ⟨rfl, rfl⟩ := oc2 hf
    exact a_ireturn dX14_item_8 rfl
def fX14_of (a0 : Nat) (a1 : Int32) (a2 : Int32) (h : hp) : Option (Int32 × hp) :=
  bd2 (fX14_isVariable a1 h) fun v2 h3 =>
  if v2 = 0 then (
    some ((-1), h3)
  ) else (
    bd2 (fX14_isIn (a2.toInt64) 0 3 h3) fun v5 h6 =>
    if v5 = 0 then (
      some ((-1), h6)
    ) else (
      if a2 = 0 then (
        (gfR h6 a0 13 0).bind fun v43 =>
        (alI h6 v43 a1).bind fun v45 =>
        some (v45, h6)
      ) else (
        if a2 = 3 then (
          (ckT h6 a0 13).bind fun _ =>
          bd2 (fX14_isTrue a0 a1 h6) fun v40 h41 =>
          if v40 = 0 then (
            some (0, h41)
          ) else (
            some (1, h41)
          )
        ) else (
          if a2 = 1 then (
            (ckT h6 a0 13).bind fun _ =>
            (fX14_showsValue a0 a1 h6).bind fun h35 =>
            (gfI h35 a0 13 6).bind fun v37 =>
            some (v37, h35)
          ) else (
            (gfR h6 a0 13 0).bind fun v7 =>
            (alI h6 v7 a1).bind fun v9 =>
            if v9 = 0 then (
              some (0, h6)
            ) else (
              (gfR h6 a0 13 0).bind fun v11 =>
              (alI h6 v11 a1).bind fun v13 =>
              if v13 = 1 then (
                (gfR h6 a0 13 1).bind fun v30 =>
                (alI h6 v30 a1).bind fun v32 =>
                some (v32, h6)
              ) else (
                (gfR h6 a0 13 0).bind fun v15 =>
                (alI h6 v15 a1).bind fun v17 =>
                if v17 = 2 then (
                  (gfR h6 a0 13 4).bind fun v23 =>
                  (alF h6 v23 a1).bind fun v25 =>
                  bd2 (fJxf58ca_floatToIntBits_5c35a v25 h6) fun v28 h29 =>
                  some (v28, h29)
                ) else (
                  (gfR h6 a0 13 2).bind fun v19 =>
                  (alI h6 v19 a1).bind fun v21 =>
                  some (v21, h6)
                )
              )
            )
          )
        )
      )
    )
  )
set_option maxHeartbeats 4000000 in
set_option maxRecDepth 100000 in
theorem sX14_of (E : gE) (D : Nat) (hD : 4 ≤ D) {a0 : Nat} {a1 : Int32} {a2 : Int32} {h hz : hp} {v0 : Int32} (hf : fX14_of a0 a1 a2 h = some (v0, hz)) : MC E yX14_of cX14_of (Option.some Jvm.ClassFile.FieldType.int) 3 D [.ref a0, .int a1, .int a2] h (some (.int v0)) hz := by
  refine MC.of (by decide +kernel) (Nat.le_of_ble_eq_true rfl) rfl ?_
  unfold fX14_of at hf
  show AW E yX14_of cX14_of (Option.some Jvm.ClassFile.FieldType.int) 3 D (some (.int v0)) h hz 0 [(0, .ref a0), (1, .int a1), (2, .int a2)] [] h
  refine a_iload_n (q := 1) dX14_of_0 rfl rfl ?_
  obtain ⟨v2, h3, e1, hf⟩ := ob2 hf
  refine a_callS (as := [.int a1]) (np := 1) (st := []) (sX14_isVariable E (D - 1) (by omega) e1) dX14_of_1 rfl (by omega) (by decide) cw_X14_528 wd_1737 rfl (Nat.le_of_ble_eq_true rfl) ?_
  refine a_if_eq (tgt := 19) dX14_of_4 (by decide) (fun c => ?_) (fun c => ?_)
  · have hf := ifp c hf
    refine a_iconst (v := (-1)) dX14_of_19 (by decide) ?_
    obtain ⟨rfl, rfl⟩ := oc2 hf
    exact a_ireturn dX14_of_20 rfl
  · have hf := ifn c hf
    refine a_iload_n (q := 2) dX14_of_7 rfl rfl ?_
    refine a_i2l dX14_of_8 rfl ?_
    refine a_lconst (v := 0) dX14_of_9 (by decide) ?_
    refine a_ldc2 (v := 3) dX14_of_10 wd_1448 ?_
    obtain ⟨v5, h6, e4, hf⟩ := ob2 hf
    refine a_callS (as := [.long (a2.toInt64), .long 0, .long 3]) (np := 3) (st := []) (sX14_isIn E (D - 1) (by omega) e4) dX14_of_13 rfl (by omega) (by decide) cw_X14_155 wd_1324 rfl (Nat.le_of_ble_eq_true rfl) ?_
    refine a_if_ne (tgt := 21) dX14_of_16 (by decide) (fun c => ?_) (fun c => ?_)
    · have hf := ifn c hf
      refine a_iload_n (q := 2) dX14_of_21 rfl rfl ?_
      refine a_if_ne (tgt := 32) dX14_of_22 (by decide) (fun c => ?_) (fun c => ?_)
      · have hf := ifn c hf
        refine a_iload_n (q := 2) dX14_of_32 rfl rfl ?_
        refine a_iconst (v := 3) dX14_of_33 (by decide) ?_
        refine a_icmp_ne (tgt := 51) dX14_of_34 (by decide) (fun c => ?_) (fun c => ?_)
        · have hf := ifn c hf
          refine a_iload_n (q := 2) dX14_of_51 rfl rfl ?_
          refine a_iconst (v := 1) dX14_of_52 (by decide) ?_
          refine a_icmp_ne (tgt := 66) dX14_of_53 (by decide) (fun c => ?_) (fun c => ?_)
          · have hf := ifn c hf
            refine a_aload_n (q := 0) dX14_of_66 rfl rfl ?_
            obtain ⟨v7, e8, hf⟩ := obd hf
            refine o_gfR dX14_of_67 lk_X14_11 rfl e8 ?_
            refine a_iload_n (q := 1) dX14_of_70 rfl rfl ?_
            obtain ⟨v9, e10, hf⟩ := obd hf
            refine o_alI dX14_of_71 e10 ?_
            refine a_if_ne (tgt := 79) dX14_of_72 (by decide) (fun c => ?_) (fun c => ?_)
            · have hf := ifn c hf
              refine a_aload_n (q := 0) dX14_of_79 rfl rfl ?_
              obtain ⟨v11, e12, hf⟩ := obd hf
              refine o_gfR dX14_of_80 lk_X14_11 rfl e12 ?_
              refine a_iload_n (q := 1) dX14_of_83 rfl rfl ?_
              obtain ⟨v13, e14, hf⟩ := obd hf
              refine o_alI dX14_of_84 e14 ?_
              refine a_iconst (v := 1) dX14_of_85 (by decide) ?_
              refine a_icmp_ne (tgt := 98) dX14_of_86 (by decide) (fun c => ?_) (fun c => ?_)
              · have hf := ifn c hf
                refine a_aload_n (q := 0) dX14_of_98 rfl rfl ?_
                obtain ⟨v15, e16, hf⟩ := obd hf
                refine o_gfR dX14_of_99 lk_X14_11 rfl e16 ?_
                refine a_iload_n (q := 1) dX14_of_102 rfl rfl ?_
                obtain ⟨v17, e18, hf⟩ := obd hf
                refine o_alI dX14_of_103 e18 ?_
                refine a_iconst (v := 2) dX14_of_104 (by decide) ?_
                refine a_icmp_ne (tgt := 120) dX14_of_105 (by decide) (fun c => ?_) (fun c => ?_)
                · have hf := ifn c hf
                  refine a_aload_n (q := 0) dX14_of_120 rfl rfl ?_
                  obtain ⟨v19, e20, hf⟩ := obd hf
                  refine o_gfR dX14_of_121 lk_X14_18 rfl e20 ?_
                  refine a_iload_n (q := 1) dX14_of_124 rfl rfl ?_
                  obtain ⟨v21, e22, hf⟩ := obd hf
                  refine o_alI dX14_of_125 e22 ?_
                  obtain ⟨rfl, rfl⟩ := oc2 hf
                  exact a_ireturn dX14_of_126 rfl
                · have hf := ifp c hf
                  refine a_aload_n (q := 0) dX14_of_108 rfl rfl ?_
                  obtain ⟨v23, e24, hf⟩ := obd hf
                  refine o_gfR dX14_of_109 lk_X14_24 rfl e24 ?_
                  refine a_iload_n (q := 1) dX14_of_112 rfl rfl ?_
                  obtain ⟨v25, e26, hf⟩ := obd hf
                  refine o_alF dX14_of_113 e26 ?_
                  obtain ⟨v28, h29, e27, hf⟩ := ob2 hf
                  refine a_callS (as := [.float v25]) (np := 1) (st := []) (sJxf58ca_floatToIntBits_5c35a E (D - 1) (by omega) e27) dX14_of_114 rfl (by omega) (by decide) cw_X14_202 wd_1556 rfl (Nat.le_of_ble_eq_true rfl) ?_
                  refine a_goto (tgt := 126) dX14_of_117 (by decide) ?_
                  obtain ⟨rfl, rfl⟩ := oc2 hf
                  exact a_ireturn dX14_of_126 rfl
              · have hf := ifp c hf
                refine a_aload_n (q := 0) dX14_of_89 rfl rfl ?_
                obtain ⟨v30, e31, hf⟩ := obd hf
                refine o_gfR dX14_of_90 lk_X14_15 rfl e31 ?_
                refine a_iload_n (q := 1) dX14_of_93 rfl rfl ?_
                obtain ⟨v32, e33, hf⟩ := obd hf
                refine o_alI dX14_of_94 e33 ?_
                refine a_goto (tgt := 126) dX14_of_95 (by decide) ?_
                obtain ⟨rfl, rfl⟩ := oc2 hf
                exact a_ireturn dX14_of_126 rfl
            · have hf := ifp c hf
              refine a_iconst (v := 0) dX14_of_75 (by decide) ?_
              refine a_goto (tgt := 126) dX14_of_76 (by decide) ?_
              obtain ⟨rfl, rfl⟩ := oc2 hf
              exact a_ireturn dX14_of_126 rfl
          · have hf := ifp c hf
            refine a_aload_n (q := 0) dX14_of_56 rfl rfl ?_
            refine a_iload_n (q := 1) dX14_of_57 rfl rfl ?_
            obtain ⟨_, e36, hf⟩ := obd hf
            obtain ⟨h35, e34, hf⟩ := obd hf
            refine a_callV (as := [.int a1]) (np := 1) (ci := 13) (st := []) (sX14_showsValue E (D - 1) (by omega) e34) dX14_of_58 rfl (by omega) (by decide) cw_X14_491 ⟨wd_1662, ws_128⟩ rfl (ckT_s e36) rfl (Nat.le_of_ble_eq_true rfl) ?_
            refine a_aload_n (q := 0) dX14_of_61 rfl rfl ?_
            obtain ⟨v37, e38, hf⟩ := obd hf
            refine o_gfI dX14_of_62 lk_X14_140 rfl e38 ?_
            obtain ⟨rfl, rfl⟩ := oc2 hf
            exact a_ireturn dX14_of_65 rfl
        · have hf := ifp c hf
          refine a_aload_n (q := 0) dX14_of_37 rfl rfl ?_
          refine a_iload_n (q := 1) dX14_of_38 rfl rfl ?_
          obtain ⟨_, e42, hf⟩ := obd hf
          obtain ⟨v40, h41, e39, hf⟩ := ob2 hf
          refine a_callV (as := [.int a1]) (np := 1) (ci := 13) (st := []) (sX14_isTrue E (D - 1) (by omega) e39) dX14_of_39 rfl (by omega) (by decide) cw_X14_365 ⟨wd_1602, ws_113⟩ rfl (ckT_s e42) rfl (Nat.le_of_ble_eq_true rfl) ?_
          refine a_if_eq (tgt := 49) dX14_of_42 (by decide) (fun c => ?_) (fun c => ?_)
          · have hf := ifp c hf
            refine a_iconst (v := 0) dX14_of_49 (by decide) ?_
            obtain ⟨rfl, rfl⟩ := oc2 hf
            exact a_ireturn dX14_of_50 rfl
          · have hf := ifn c hf
            refine a_iconst (v := 1) dX14_of_45 (by decide) ?_
            refine a_goto (tgt := 50) dX14_of_46 (by decide) ?_
            obtain ⟨rfl, rfl⟩ := oc2 hf
            exact a_ireturn dX14_of_50 rfl
      · have hf := ifp c hf
        refine a_aload_n (q := 0) dX14_of_25 rfl rfl ?_
        obtain ⟨v43, e44, hf⟩ := obd hf
        refine o_gfR dX14_of_26 lk_X14_11 rfl e44 ?_
        refine a_iload_n (q := 1) dX14_of_29 rfl rfl ?_
        obtain ⟨v45, e46, hf⟩ := obd hf
        refine o_alI dX14_of_30 e46 ?_
        obtain ⟨rfl, rfl⟩ := oc2 hf
        exact a_ireturn dX14_of_31 rfl
    · have hf := ifp c hf
      refine a_iconst (v := (-1)) dX14_of_19 (by decide) ?_
      obtain ⟨rfl, rfl⟩ := oc2 hf
      exact a_ireturn dX14_of_20 rfl
def fX14_shown (a0 : Nat) (a1 : Int32) (a2 : Int32) (h : hp) : Option (Int32 × hp) :=
  bd2 (fX14_isVariable a1 h) fun v2 h3 =>
  if v2 = 0 then (
    some ((-1), h3)
  ) else (
    (ckT h3 a0 13).bind fun _ =>
    (fX14_showsValue a0 a1 h3).bind fun h5 =>
    (gfI h5 a0 13 6).bind fun v7 =>
    bd2 (fX14_isIn (a2.toInt64) 0 ((v7 - 1).toInt64) h5) fun v10 h11 =>
    if v10 = 0 then (
      some ((-1), h11)
    ) else (
      (gfR h11 a0 13 5).bind fun v12 =>
      (alI h11 v12 a2).bind fun v14 =>
      some (v14, h11)
    )
  )
set_option maxHeartbeats 4000000 in
set_option maxRecDepth 100000 in
theorem sX14_shown (E : gE) (D : Nat) (hD : 4 ≤ D) {a0 : Nat} {a1 : Int32} {a2 : Int32} {h hz : hp} {v0 : Int32} (hf : fX14_shown a0 a1 a2 h = some (v0, hz)) : MC E yX14_shown cX14_shown (Option.some Jvm.ClassFile.FieldType.int) 3 D [.ref a0, .int a1, .int a2] h (some (.int v0)) hz := by
  refine MC.of (by decide +kernel) (Nat.le_of_ble_eq_true rfl) rfl ?_
  unfold fX14_shown at hf
  show AW E yX14_shown cX14_shown (Option.some Jvm.ClassFile.FieldType.int) 3 D (some (.int v0)) h hz 0 [(0, .ref a0), (1, .int a1), (2, .int a2)] [] h
  refine a_iload_n (q := 1) dX14_shown_0 rfl rfl ?_
  obtain ⟨v2, h3, e1, hf⟩ := ob2 hf
  refine a_callS (as := [.int a1]) (np := 1) (st := []) (sX14_isVariable E (D - 1) (by omega) e1) dX14_shown_1 rfl (by omega) (by decide) cw_X14_528 wd_1737 rfl (Nat.le_of_ble_eq_true rfl) ?_
  refine a_if_ne (tgt := 9) dX14_shown_4 (by decide) (fun c => ?_) (fun c => ?_)
  · have hf := ifn c hf
    refine a_aload_n (q := 0) dX14_shown_9 rfl rfl ?_
    refine a_iload_n (q := 1) dX14_shown_10 rfl rfl ?_
    obtain ⟨_, e6, hf⟩ := obd hf
    obtain ⟨h5, e4, hf⟩ := obd hf
    refine a_callV (as := [.int a1]) (np := 1) (ci := 13) (st := []) (sX14_showsValue E (D - 1) (by omega) e4) dX14_shown_11 rfl (by omega) (by decide) cw_X14_491 ⟨wd_1662, ws_128⟩ rfl (ckT_s e6) rfl (Nat.le_of_ble_eq_true rfl) ?_
    refine a_iload_n (q := 2) dX14_shown_14 rfl rfl ?_
    refine a_i2l dX14_shown_15 rfl ?_
    refine a_lconst (v := 0) dX14_shown_16 (by decide) ?_
    refine a_aload_n (q := 0) dX14_shown_17 rfl rfl ?_
    obtain ⟨v7, e8, hf⟩ := obd hf
    refine o_gfI dX14_shown_18 lk_X14_140 rfl e8 ?_
    refine a_iconst (v := 1) dX14_shown_21 (by decide) ?_
    refine a_isub dX14_shown_22 ?_
    refine a_i2l dX14_shown_23 rfl ?_
    obtain ⟨v10, h11, e9, hf⟩ := ob2 hf
    refine a_callS (as := [.long (a2.toInt64), .long 0, .long ((v7 - 1).toInt64)]) (np := 3) (st := []) (sX14_isIn E (D - 1) (by omega) e9) dX14_shown_24 rfl (by omega) (by decide) cw_X14_155 wd_1324 rfl (Nat.le_of_ble_eq_true rfl) ?_
    refine a_if_eq (tgt := 39) dX14_shown_27 (by decide) (fun c => ?_) (fun c => ?_)
    · have hf := ifp c hf
      refine a_iconst (v := (-1)) dX14_shown_39 (by decide) ?_
      obtain ⟨rfl, rfl⟩ := oc2 hf
      exact a_ireturn dX14_shown_40 rfl
    · have hf := ifn c hf
      refine a_aload_n (q := 0) dX14_shown_30 rfl rfl ?_
      obtain ⟨v12, e13, hf⟩ := obd hf
      refine o_gfR dX14_shown_31 lk_X14_28 rfl e13 ?_
      refine a_iload_n (q := 2) dX14_shown_34 rfl rfl ?_
      obtain ⟨v14, e15, hf⟩ := obd hf
      refine o_alI dX14_shown_35 e15 ?_
      refine a_goto (tgt := 40) dX14_shown_36 (by decide) ?_
      obtain ⟨rfl, rfl⟩ := oc2 hf
      exact a_ireturn dX14_shown_40 rfl
  · have hf := ifp c hf
    refine a_iconst (v := (-1)) dX14_shown_7 (by decide) ?_
    obtain ⟨rfl, rfl⟩ := oc2 hf
    exact a_ireturn dX14_shown_8 rfl

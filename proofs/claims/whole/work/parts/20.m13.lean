def fX14_ahead (a0 : Nat) (a1 : Int32) (h : hp) : Option (Int32 × hp) :=
  (gfI h a0 13 14).bind fun v1 =>
  (gfI h a0 13 13).bind fun v3 =>
  if v3 ≤ (v1 + a1) then (
    some ((-1), h)
  ) else (
    (gfR h a0 13 11).bind fun v5 =>
    (gfI h a0 13 12).bind fun v7 =>
    (gfI h a0 13 14).bind fun v9 =>
    (alI h v5 ((v7 + v9) + a1)).bind fun v11 =>
    some (v11, h)
  )
set_option maxHeartbeats 4000000 in
set_option maxRecDepth 100000 in
theorem sX14_ahead (E : gE) (D : Nat) (hD : 0 ≤ D) {a0 : Nat} {a1 : Int32} {h hz : hp} {v0 : Int32} (hf : fX14_ahead a0 a1 h = some (v0, hz)) : MC E yX14_ahead cX14_ahead (Option.some Jvm.ClassFile.FieldType.int) 2 D [.ref a0, .int a1] h (some (.int v0)) hz := by
  refine MC.of (by decide +kernel) (Nat.le_of_ble_eq_true rfl) rfl ?_
  unfold fX14_ahead at hf
  show AW E yX14_ahead cX14_ahead (Option.some Jvm.ClassFile.FieldType.int) 2 D (some (.int v0)) h hz 0 [(0, .ref a0), (1, .int a1)] [] h
  refine a_aload_n (q := 0) dX14_ahead_0 rfl rfl ?_
  obtain ⟨v1, e2, hf⟩ := obd hf
  refine o_gfI dX14_ahead_1 lk_X14_238 rfl e2 ?_
  refine a_iload_n (q := 1) dX14_ahead_4 rfl rfl ?_
  refine a_iadd dX14_ahead_5 ?_
  refine a_aload_n (q := 0) dX14_ahead_6 rfl rfl ?_
  obtain ⟨v3, e4, hf⟩ := obd hf
  refine o_gfI dX14_ahead_7 lk_X14_235 rfl e4 ?_
  refine a_icmp_ge (tgt := 32) dX14_ahead_10 (by decide) (fun c => ?_) (fun c => ?_)
  · have hf := ifp c hf
    refine a_iconst (v := (-1)) dX14_ahead_32 (by decide) ?_
    obtain ⟨rfl, rfl⟩ := oc2 hf
    exact a_ireturn dX14_ahead_33 rfl
  · have hf := ifn c hf
    refine a_aload_n (q := 0) dX14_ahead_13 rfl rfl ?_
    obtain ⟨v5, e6, hf⟩ := obd hf
    refine o_gfR dX14_ahead_14 lk_X14_40 rfl e6 ?_
    refine a_aload_n (q := 0) dX14_ahead_17 rfl rfl ?_
    obtain ⟨v7, e8, hf⟩ := obd hf
    refine o_gfI dX14_ahead_18 lk_X14_232 rfl e8 ?_
    refine a_aload_n (q := 0) dX14_ahead_21 rfl rfl ?_
    obtain ⟨v9, e10, hf⟩ := obd hf
    refine o_gfI dX14_ahead_22 lk_X14_238 rfl e10 ?_
    refine a_iadd dX14_ahead_25 ?_
    refine a_iload_n (q := 1) dX14_ahead_26 rfl rfl ?_
    refine a_iadd dX14_ahead_27 ?_
    obtain ⟨v11, e12, hf⟩ := obd hf
    refine o_alI dX14_ahead_28 e12 ?_
    refine a_goto (tgt := 33) dX14_ahead_29 (by decide) ?_
    obtain ⟨rfl, rfl⟩ := oc2 hf
    exact a_ireturn dX14_ahead_33 rfl
def fX14_fails (a0 : Nat) (a1 : Int32) (h : hp) : Option (Int32 × hp) :=
  (gfI h a0 13 15).bind fun v1 =>
  if 0 ≤ v1 then (
    some (0, h)
  ) else (
    (pfI h a0 13 15 a1).bind fun h3 =>
    some (0, h3)
  )
set_option maxHeartbeats 4000000 in
set_option maxRecDepth 100000 in
theorem sX14_fails (E : gE) (D : Nat) (hD : 0 ≤ D) {a0 : Nat} {a1 : Int32} {h hz : hp} {v0 : Int32} (hf : fX14_fails a0 a1 h = some (v0, hz)) : MC E yX14_fails cX14_fails (Option.some Jvm.ClassFile.FieldType.boolean) 2 D [.ref a0, .int a1] h (some (.int v0)) hz := by
  refine MC.of (by decide +kernel) (Nat.le_of_ble_eq_true rfl) rfl ?_
  unfold fX14_fails at hf
  show AW E yX14_fails cX14_fails (Option.some Jvm.ClassFile.FieldType.boolean) 2 D (some (.int v0)) h hz 0 [(0, .ref a0), (1, .int a1)] [] h
  refine a_aload_n (q := 0) dX14_fails_0 rfl rfl ?_
  obtain ⟨v1, e2, hf⟩ := obd hf
  refine o_gfI dX14_fails_1 lk_X14_241 rfl e2 ?_
  refine a_if_ge (tgt := 12) dX14_fails_4 (by decide) (fun c => ?_) (fun c => ?_)
  · have hf := ifp c hf
    refine a_iconst (v := 0) dX14_fails_12 (by decide) ?_
    obtain ⟨rfl, rfl⟩ := oc2 hf
    exact a_zreturn dX14_fails_13 rfl (by decide)
  · have hf := ifn c hf
    refine a_aload_n (q := 0) dX14_fails_7 rfl rfl ?_
    refine a_iload_n (q := 1) dX14_fails_8 rfl rfl ?_
    obtain ⟨h3, e4, hf⟩ := obd hf
    refine o_pfI dX14_fails_9 lk_X14_241 (⟨_, rfl, Or.inl rfl⟩) rfl e4 ?_
    refine a_iconst (v := 0) dX14_fails_12 (by decide) ?_
    obtain ⟨rfl, rfl⟩ := oc2 hf
    exact a_zreturn dX14_fails_13 rfl (by decide)
def fX14_isSign (a0 : Nat) (a1 : Int32) (h : hp) : Option (Int32 × hp) :=
  (ckT h a0 13).bind fun _ =>
  bd2 (fX14_here a0 h) fun v2 h3 =>
  if v2 = a1 then (
    (gfI h3 a0 13 14).bind fun v5 =>
    (pfI h3 a0 13 14 (v5 + 1)).bind fun h7 =>
    some (1, h7)
  ) else (
    (gfI h3 a0 13 14).bind fun v9 =>
    (ckT h3 a0 13).bind fun _ =>
    bd2 (fX14_fails a0 v9 h3) fun v12 h13 =>
    (zck v12).bind fun _ =>
    some (v12, h13)
  )
set_option maxHeartbeats 4000000 in
set_option maxRecDepth 100000 in
theorem sX14_isSign (E : gE) (D : Nat) (hD : 1 ≤ D) {a0 : Nat} {a1 : Int32} {h hz : hp} {v0 : Int32} (hf : fX14_isSign a0 a1 h = some (v0, hz)) : MC E yX14_isSign cX14_isSign (Option.some Jvm.ClassFile.FieldType.boolean) 2 D [.ref a0, .int a1] h (some (.int v0)) hz := by
  refine MC.of (by decide +kernel) (Nat.le_of_ble_eq_true rfl) rfl ?_
  unfold fX14_isSign at hf
  show AW E yX14_isSign cX14_isSign (Option.some Jvm.ClassFile.FieldType.boolean) 2 D (some (.int v0)) h hz 0 [(0, .ref a0), (1, .int a1)] [] h
  refine a_aload_n (q := 0) dX14_isSign_0 rfl rfl ?_
  obtain ⟨_, e4, hf⟩ := obd hf
  obtain ⟨v2, h3, e1, hf⟩ := ob2 hf
  refine a_callV (as := []) (np := 0) (ci := 13) (st := []) (sX14_here E (D - 1) (by omega) e1) dX14_isSign_1 rfl (by omega) (by decide) cw_X14_247 ⟨wd_1349, ws_65⟩ rfl (ckT_s e4) rfl (Nat.le_of_ble_eq_true rfl) ?_
  refine a_iload_n (q := 1) dX14_isSign_4 rfl rfl ?_
  refine a_icmp_eq (tgt := 17) dX14_isSign_5 (by decide) (fun c => ?_) (fun c => ?_)
  · have hf := ifp c hf
    refine a_aload_n (q := 0) dX14_isSign_17 rfl rfl ?_
    refine a_dup dX14_isSign_18 rfl ?_
    obtain ⟨v5, e6, hf⟩ := obd hf
    refine o_gfI dX14_isSign_19 lk_X14_238 rfl e6 ?_
    refine a_iconst (v := 1) dX14_isSign_22 (by decide) ?_
    refine a_iadd dX14_isSign_23 ?_
    obtain ⟨h7, e8, hf⟩ := obd hf
    refine o_pfI dX14_isSign_24 lk_X14_238 (⟨_, rfl, Or.inl rfl⟩) rfl e8 ?_
    refine a_iconst (v := 1) dX14_isSign_27 (by decide) ?_
    obtain ⟨rfl, rfl⟩ := oc2 hf
    exact a_zreturn dX14_isSign_28 rfl (by decide)
  · have hf := ifn c hf
    refine a_aload_n (q := 0) dX14_isSign_8 rfl rfl ?_
    refine a_aload_n (q := 0) dX14_isSign_9 rfl rfl ?_
    obtain ⟨v9, e10, hf⟩ := obd hf
    refine o_gfI dX14_isSign_10 lk_X14_238 rfl e10 ?_
    obtain ⟨_, e14, hf⟩ := obd hf
    obtain ⟨v12, h13, e11, hf⟩ := ob2 hf
    refine a_callV (as := [.int v9]) (np := 1) (ci := 13) (st := []) (sX14_fails E (D - 1) (by omega) e11) dX14_isSign_13 rfl (by omega) (by decide) cw_X14_251 ⟨wd_1353, ws_66⟩ rfl (ckT_s e14) rfl (Nat.le_of_ble_eq_true rfl) ?_
    obtain ⟨_, e15, hf⟩ := obd hf
    obtain ⟨rfl, rfl⟩ := oc2 hf
    exact a_zreturn dX14_isSign_16 rfl (zck_s e15)
def fX14_isOneOf (a0 : Nat) (a1 : Int32) (a2 : Int32) (h : hp) : Option (Int32 × hp) :=
  (ckT h a0 13).bind fun _ =>
  bd2 (fX14_here a0 h) fun v2 h3 =>
  bd2 (fX14_isIn (v2.toInt64) (a1.toInt64) (a2.toInt64) h3) fun v6 h7 =>
  if v6 = 0 then (
    (gfI h7 a0 13 14).bind fun v12 =>
    (ckT h7 a0 13).bind fun _ =>
    bd2 (fX14_fails a0 v12 h7) fun v15 h16 =>
    (zck v15).bind fun _ =>
    some (v15, h16)
  ) else (
    (gfI h7 a0 13 14).bind fun v8 =>
    (pfI h7 a0 13 14 (v8 + 1)).bind fun h10 =>
    some (1, h10)
  )
set_option maxHeartbeats 4000000 in
set_option maxRecDepth 100000 in
theorem sX14_isOneOf (E : gE) (D : Nat) (hD : 1 ≤ D) {a0 : Nat} {a1 : Int32} {a2 : Int32} {h hz : hp} {v0 : Int32} (hf : fX14_isOneOf a0 a1 a2 h = some (v0, hz)) : MC E yX14_isOneOf cX14_isOneOf (Option.some Jvm.ClassFile.FieldType.boolean) 3 D [.ref a0, .int a1, .int a2] h (some (.int v0)) hz := by
  refine MC.of (by decide +kernel) (Nat.le_of_ble_eq_true rfl) rfl ?_
  unfold fX14_isOneOf at hf
  show AW E yX14_isOneOf cX14_isOneOf (Option.some Jvm.ClassFile.FieldType.boolean) 3 D (some (.int v0)) h hz 0 [(0, .ref a0), (1, .int a1), (2, .int a2)] [] h
  refine a_aload_n (q := 0) dX14_isOneOf_0 rfl rfl ?_
  obtain ⟨_, e4, hf⟩ := obd hf
  obtain ⟨v2, h3, e1, hf⟩ := ob2 hf
  refine a_callV (as := []) (np := 0) (ci := 13) (st := []) (sX14_here E (D - 1) (by omega) e1) dX14_isOneOf_1 rfl (by omega) (by decide) cw_X14_247 ⟨wd_1349, ws_65⟩ rfl (ckT_s e4) rfl (Nat.le_of_ble_eq_true rfl) ?_
  refine a_i2l dX14_isOneOf_4 rfl ?_
  refine a_iload_n (q := 1) dX14_isOneOf_5 rfl rfl ?_
  refine a_i2l dX14_isOneOf_6 rfl ?_
  refine a_iload_n (q := 2) dX14_isOneOf_7 rfl rfl ?_
  refine a_i2l dX14_isOneOf_8 rfl ?_
  obtain ⟨v6, h7, e5, hf⟩ := ob2 hf
  refine a_callS (as := [.long (v2.toInt64), .long (a1.toInt64), .long (a2.toInt64)]) (np := 3) (st := []) (sX14_isIn E (D - 1) (by omega) e5) dX14_isOneOf_9 rfl (by omega) (by decide) cw_X14_155 wd_1324 rfl (Nat.le_of_ble_eq_true rfl) ?_
  refine a_if_ne (tgt := 24) dX14_isOneOf_12 (by decide) (fun c => ?_) (fun c => ?_)
  · have hf := ifn c hf
    refine a_aload_n (q := 0) dX14_isOneOf_24 rfl rfl ?_
    refine a_dup dX14_isOneOf_25 rfl ?_
    obtain ⟨v8, e9, hf⟩ := obd hf
    refine o_gfI dX14_isOneOf_26 lk_X14_238 rfl e9 ?_
    refine a_iconst (v := 1) dX14_isOneOf_29 (by decide) ?_
    refine a_iadd dX14_isOneOf_30 ?_
    obtain ⟨h10, e11, hf⟩ := obd hf
    refine o_pfI dX14_isOneOf_31 lk_X14_238 (⟨_, rfl, Or.inl rfl⟩) rfl e11 ?_
    refine a_iconst (v := 1) dX14_isOneOf_34 (by decide) ?_
    obtain ⟨rfl, rfl⟩ := oc2 hf
    exact a_zreturn dX14_isOneOf_35 rfl (by decide)
  · have hf := ifp c hf
    refine a_aload_n (q := 0) dX14_isOneOf_15 rfl rfl ?_
    refine a_aload_n (q := 0) dX14_isOneOf_16 rfl rfl ?_
    obtain ⟨v12, e13, hf⟩ := obd hf
    refine o_gfI dX14_isOneOf_17 lk_X14_238 rfl e13 ?_
    obtain ⟨_, e17, hf⟩ := obd hf
    obtain ⟨v15, h16, e14, hf⟩ := ob2 hf
    refine a_callV (as := [.int v12]) (np := 1) (ci := 13) (st := []) (sX14_fails E (D - 1) (by omega) e14) dX14_isOneOf_20 rfl (by omega) (by decide) cw_X14_251 ⟨wd_1353, ws_66⟩ rfl (ckT_s e17) rfl (Nat.le_of_ble_eq_true rfl) ?_
    obtain ⟨_, e18, hf⟩ := obd hf
    obtain ⟨rfl, rfl⟩ := oc2 hf
    exact a_zreturn dX14_isOneOf_23 rfl (zck_s e18)
def fX14_isFigures_l28 : Nat → Nat → Int32 → hp → Option hp
  | 0, _, _, _ => none
  | n + 1, x0, x1, h =>
    if 5 ≤ x1 then (
      some (h)
    ) else (
      (ckT h x0 13).bind fun _ =>
      bd2 (fX14_here x0 h) fun v2 h3 =>
      bd2 (fX14_isIn (v2.toInt64) 48 57 h3) fun v6 h7 =>
      if v6 = 0 then (
        some (h7)
      ) else (
        (gfI h7 x0 13 14).bind fun v8 =>
        (pfI h7 x0 13 14 (v8 + 1)).bind fun h10 =>
        fX14_isFigures_l28 n x0 (x1 + 1) h10
      )
    )
def fX14_isFigures (a0 : Nat) (h : hp) : Option (Int32 × hp) :=
  (ckT h a0 13).bind fun _ =>
  bd2 (fX14_here a0 h) fun v2 h3 =>
  bd2 (fX14_isIn (v2.toInt64) 48 57 h3) fun v6 h7 =>
  if v6 = 0 then (
    (gfI h7 a0 13 14).bind fun v10 =>
    (ckT h7 a0 13).bind fun _ =>
    bd2 (fX14_fails a0 v10 h7) fun v13 h14 =>
    (zck v13).bind fun _ =>
    some (v13, h14)
  ) else (
    (fX14_isFigures_l28 FU a0 0 h7).bind fun h9 =>
    some (1, h9)
  )
set_option maxHeartbeats 4000000 in
set_option maxRecDepth 100000 in
theorem sX14_isFigures_l28 (E : gE) (D : Nat) (hD : 1 ≤ D) {rz : Option Value} {h0 hz : hp} : ∀ (n : Nat) (x0 : Nat) (x1 : Int32) (h : hp) (hq : hp), fX14_isFigures_l28 n x0 x1 h = some hq → (AW E yX14_isFigures cX14_isFigures (Option.some Jvm.ClassFile.FieldType.boolean) 2 D rz h0 hz 66 [] [] hq) → AW E yX14_isFigures cX14_isFigures (Option.some Jvm.ClassFile.FieldType.boolean) 2 D rz h0 hz 28 [(0, .ref x0), (1, .int x1)] [] h := by
  intro n
  induction n with
  | zero =>
    intro x0 x1 h hq hf _
    rw [fX14_isFigures_l28] at hf
    cases hf
  | succ n ih =>
    intro x0 x1 h hq hf hk0
    rw [fX14_isFigures_l28] at hf
    refine a_iload_n (q := 1) dX14_isFigures_28 rfl rfl ?_
    refine a_iconst (v := 5) dX14_isFigures_29 (by decide) ?_
    refine a_icmp_ge (tgt := 66) dX14_isFigures_30 (by decide) (fun c => ?_) (fun c => ?_)
    · have hf := ifp c hf
      obtain rfl := Option.some.inj hf
      exact AW.sub [] rfl (hk0)
    · have hf := ifn c hf
      refine a_aload_n (q := 0) dX14_isFigures_33 rfl rfl ?_
      obtain ⟨_, e4, hf⟩ := obd hf
      obtain ⟨v2, h3, e1, hf⟩ := ob2 hf
      refine a_callV (as := []) (np := 0) (ci := 13) (st := []) (sX14_here E (D - 1) (by omega) e1) dX14_isFigures_34 rfl (by omega) (by decide) cw_X14_247 ⟨wd_1349, ws_65⟩ rfl (ckT_s e4) rfl (Nat.le_of_ble_eq_true rfl) ?_
      refine a_i2l dX14_isFigures_37 rfl ?_
      refine a_ldc2 (v := 48) dX14_isFigures_38 wd_1385 ?_
      refine a_ldc2 (v := 57) dX14_isFigures_41 wd_1386 ?_
      obtain ⟨v6, h7, e5, hf⟩ := ob2 hf
      refine a_callS (as := [.long (v2.toInt64), .long 48, .long 57]) (np := 3) (st := []) (sX14_isIn E (D - 1) (by omega) e5) dX14_isFigures_44 rfl (by omega) (by decide) cw_X14_155 wd_1324 rfl (Nat.le_of_ble_eq_true rfl) ?_
      refine a_if_eq (tgt := 66) dX14_isFigures_47 (by decide) (fun c => ?_) (fun c => ?_)
      · have hf := ifp c hf
        obtain rfl := Option.some.inj hf
        exact AW.sub [] rfl (hk0)
      · have hf := ifn c hf
        refine a_aload_n (q := 0) dX14_isFigures_50 rfl rfl ?_
        refine a_dup dX14_isFigures_51 rfl ?_
        obtain ⟨v8, e9, hf⟩ := obd hf
        refine o_gfI dX14_isFigures_52 lk_X14_238 rfl e9 ?_
        refine a_iconst (v := 1) dX14_isFigures_55 (by decide) ?_
        refine a_iadd dX14_isFigures_56 ?_
        obtain ⟨h10, e11, hf⟩ := obd hf
        refine o_pfI dX14_isFigures_57 lk_X14_238 (⟨_, rfl, Or.inl rfl⟩) rfl e11 ?_
        refine a_iinc (q := 1) (v := (x1 + 1)) (lv1 := [(1, .int (x1 + 1)), (0, .ref x0)]) dX14_isFigures_60 rfl (by rfl) (by decide) rfl ?_
        refine a_goto (tgt := 28) dX14_isFigures_63 (by decide) ?_
        exact AW.sub [1, 0] rfl (ih _ _ _ _ hf hk0)
set_option maxHeartbeats 4000000 in
set_option maxRecDepth 100000 in
theorem sX14_isFigures (E : gE) (D : Nat) (hD : 1 ≤ D) {a0 : Nat} {h hz : hp} {v0 : Int32} (hf : fX14_isFigures a0 h = some (v0, hz)) : MC E yX14_isFigures cX14_isFigures (Option.some Jvm.ClassFile.FieldType.boolean) 2 D [.ref a0] h (some (.int v0)) hz := by
  refine MC.of (by decide +kernel) (Nat.le_of_ble_eq_true rfl) rfl ?_
  unfold fX14_isFigures at hf
  show AW E yX14_isFigures cX14_isFigures (Option.some Jvm.ClassFile.FieldType.boolean) 2 D (some (.int v0)) h hz 0 [(0, .ref a0)] [] h
  refine a_aload_n (q := 0) dX14_isFigures_0 rfl rfl ?_
  obtain ⟨_, e4, hf⟩ := obd hf
  obtain ⟨v2, h3, e1, hf⟩ := ob2 hf
  refine a_callV (as := []) (np := 0) (ci := 13) (st := []) (sX14_here E (D - 1) (by omega) e1) dX14_isFigures_1 rfl (by omega) (by decide) cw_X14_247 ⟨wd_1349, ws_65⟩ rfl (ckT_s e4) rfl (Nat.le_of_ble_eq_true rfl) ?_
  refine a_i2l dX14_isFigures_4 rfl ?_
  refine a_ldc2 (v := 48) dX14_isFigures_5 wd_1385 ?_
  refine a_ldc2 (v := 57) dX14_isFigures_8 wd_1386 ?_
  obtain ⟨v6, h7, e5, hf⟩ := ob2 hf
  refine a_callS (as := [.long (v2.toInt64), .long 48, .long 57]) (np := 3) (st := []) (sX14_isIn E (D - 1) (by omega) e5) dX14_isFigures_11 rfl (by omega) (by decide) cw_X14_155 wd_1324 rfl (Nat.le_of_ble_eq_true rfl) ?_
  refine a_if_ne (tgt := 26) dX14_isFigures_14 (by decide) (fun c => ?_) (fun c => ?_)
  · have hf := ifn c hf
    refine a_iconst (v := 0) dX14_isFigures_26 (by decide) ?_
    refine a_istore_n (lv1 := [(1, .int 0), (0, .ref a0)]) dX14_isFigures_27 rfl (by decide) rfl ?_
    obtain ⟨h9, e8, hf⟩ := obd hf
    refine AW.sub [1, 0] rfl (sX14_isFigures_l28 E D hD _ _ _ _ _ e8 ?_)
    refine a_iconst (v := 1) dX14_isFigures_66 (by decide) ?_
    obtain ⟨rfl, rfl⟩ := oc2 hf
    exact a_zreturn dX14_isFigures_67 rfl (by decide)
  · have hf := ifp c hf
    refine a_aload_n (q := 0) dX14_isFigures_17 rfl rfl ?_
    refine a_aload_n (q := 0) dX14_isFigures_18 rfl rfl ?_
    obtain ⟨v10, e11, hf⟩ := obd hf
    refine o_gfI dX14_isFigures_19 lk_X14_238 rfl e11 ?_
    obtain ⟨_, e15, hf⟩ := obd hf
    obtain ⟨v13, h14, e12, hf⟩ := ob2 hf
    refine a_callV (as := [.int v10]) (np := 1) (ci := 13) (st := []) (sX14_fails E (D - 1) (by omega) e12) dX14_isFigures_22 rfl (by omega) (by decide) cw_X14_251 ⟨wd_1353, ws_66⟩ rfl (ckT_s e15) rfl (Nat.le_of_ble_eq_true rfl) ?_
    obtain ⟨_, e16, hf⟩ := obd hf
    obtain ⟨rfl, rfl⟩ := oc2 hf
    exact a_zreturn dX14_isFigures_25 rfl (zck_s e16)
def fX14_nameAt_l18 : Nat → Nat → Int32 → Int32 → Int32 → Int32 → Int32 → hp → Option (Int32 × hp)
  | 0, _, _, _, _, _, _, _ => none
  | n + 1, x0, x1, x2, x3, x4, x5, h =>
    if x2 ≤ (x1 + x5) then (
      some (x5, h)
    ) else (
      (ckS 39).bind fun _ =>
      bd2 (fJ0_charAt_5068e 39 (x4 + x5) h) fun v2 h3 =>
      (gfR h3 x0 13 11).bind fun v5 =>
      (gfI h3 x0 13 12).bind fun v7 =>
      (alI h3 v5 ((v7 + x1) + x5)).bind fun v9 =>
      if v2 = v9 then (
        fX14_nameAt_l18 n x0 x1 x2 x3 x4 (x5 + 1) h3
      ) else (
        some (x5, h3)
      )
    )
def fX14_nameAt_l89 : Nat → Nat → Int32 → Int32 → Int32 → Int32 → hp → Option (Int32 × hp)
  | 0, _, _, _, _, _, _ => none
  | n + 1, x0, x1, x2, x3, x4, h =>
    (ckS 39).bind fun _ =>
    bd2 (fJ0_charAt_5068e 39 x4 h) fun v2 h3 =>
    if v2 = 32 then (
      some (x4, h3)
    ) else (
      fX14_nameAt_l89 n x0 x1 x2 x3 (x4 + 1) h3
    )
def fX14_nameAt_l5 : Nat → Nat → Int32 → Int32 → Int32 → Int32 → hp → Option (Nat × Int32 × hp)
  | 0, _, _, _, _, _, _ => none
  | n + 1, x0, x1, x2, x3, x4, h =>
    (ckS 39).bind fun _ =>
    bd2 (fJ0_length_8abf5 39 h) fun v2 h3 =>
    if v2 ≤ x4 then (
      some (1, x3, h3)
    ) else (
      bd2 (fX14_nameAt_l18 FU x0 x1 x2 x3 x4 0 h3) fun v7 h6 =>
      jn (fun (h89j : hp) => (
        bd2 (fX14_nameAt_l89 FU x0 x1 x2 x3 x4 h89j) fun v10 h9 =>
        fX14_nameAt_l5 n x0 x1 x2 (x3 + 1) (v10 + 1) h9
        : Option (Nat × Int32 × hp))) fun k89 =>
      if v7 ≤ 0 then (
        k89 h6
      ) else (
        if (x1 + v7) = x2 then (
          (ckS 39).bind fun _ =>
          bd2 (fJ0_charAt_5068e 39 (x4 + v7) h6) fun v12 h13 =>
          if v12 = 32 then (
            some (0, x3, h13)
          ) else (
            k89 h13
          )
        ) else (
          k89 h6
        )
      )
    )
def fX14_nameAt (a0 : Nat) (a1 : Int32) (a2 : Int32) (h : hp) : Option (Int32 × hp) :=
  bd3 (fX14_nameAt_l5 FU a0 a1 a2 0 1 h) fun t4 v3 h2 =>
  if t4 = 0 then (
    some (v3, h2)
  ) else
  if t4 = 1 then (
    some ((-1), h2)
  ) else none
set_option maxHeartbeats 4000000 in
set_option maxRecDepth 100000 in
theorem sX14_nameAt_l18 (E : gE) (D : Nat) (hD : 5 ≤ D) {rz : Option Value} {h0 hz : hp} : ∀ (n : Nat) (x0 : Nat) (x1 : Int32) (x2 : Int32) (x3 : Int32) (x4 : Int32) (x5 : Int32) (h : hp) (m5 : Int32) (hq : hp), fX14_nameAt_l18 n x0 x1 x2 x3 x4 x5 h = some (m5, hq) → (AW E yX14_nameAt cX14_nameAt (Option.some Jvm.ClassFile.FieldType.int) 6 D rz h0 hz 59 [(0, .ref x0), (1, .int x1), (2, .int x2), (3, .int x3), (4, .int x4), (5, .int m5)] [] hq) → AW E yX14_nameAt cX14_nameAt (Option.some Jvm.ClassFile.FieldType.int) 6 D rz h0 hz 18 [(0, .ref x0), (1, .int x1), (2, .int x2), (3, .int x3), (4, .int x4), (5, .int x5)] [] h := by
  intro n
  induction n with
  | zero =>
    intro x0 x1 x2 x3 x4 x5 h m5 hq hf _
    rw [fX14_nameAt_l18] at hf
    cases hf
  | succ n ih =>
    intro x0 x1 x2 x3 x4 x5 h m5 hq hf hk0
    rw [fX14_nameAt_l18] at hf
    refine a_iload_n (q := 1) dX14_nameAt_18 rfl rfl ?_
    refine a_iload (q := 5) dX14_nameAt_19 rfl ?_
    refine a_iadd dX14_nameAt_21 ?_
    refine a_iload_n (q := 2) dX14_nameAt_22 rfl rfl ?_
    refine a_icmp_ge (tgt := 59) dX14_nameAt_23 (by decide) (fun c => ?_) (fun c => ?_)
    · have hf := ifp c hf
      obtain ⟨rfl, rfl⟩ := oc2 hf
      exact hk0
    · have hf := ifn c hf
      refine o_ldcS dX14_nameAt_26 rfl rfl ?_
      refine a_iload (q := 4) dX14_nameAt_28 rfl ?_
      refine a_iload (q := 5) dX14_nameAt_30 rfl ?_
      refine a_iadd dX14_nameAt_32 ?_
      obtain ⟨_, e4, hf⟩ := obd hf
      obtain ⟨v2, h3, e1, hf⟩ := ob2 hf
      refine a_callVg (as := [.int (x4 + x5)]) (np := 1) (C0 := "java/lang/String") (st := []) (sJ0_charAt_5068e E (D - 1) (by omega) e1) dX14_nameAt_33 rfl (by omega) (by decide) cw_X14_262 ⟨wd_649, wd_650⟩ (g_rvS e4) rfl (Nat.le_of_ble_eq_true rfl) ?_
      refine a_aload_n (q := 0) dX14_nameAt_36 rfl rfl ?_
      obtain ⟨v5, e6, hf⟩ := obd hf
      refine o_gfR dX14_nameAt_37 lk_X14_40 rfl e6 ?_
      refine a_aload_n (q := 0) dX14_nameAt_40 rfl rfl ?_
      obtain ⟨v7, e8, hf⟩ := obd hf
      refine o_gfI dX14_nameAt_41 lk_X14_232 rfl e8 ?_
      refine a_iload_n (q := 1) dX14_nameAt_44 rfl rfl ?_
      refine a_iadd dX14_nameAt_45 ?_
      refine a_iload (q := 5) dX14_nameAt_46 rfl ?_
      refine a_iadd dX14_nameAt_48 ?_
      obtain ⟨v9, e10, hf⟩ := obd hf
      refine o_alI dX14_nameAt_49 e10 ?_
      refine a_icmp_ne (tgt := 59) dX14_nameAt_50 (by decide) (fun c => ?_) (fun c => ?_)
      · have hf := ifn c hf
        obtain ⟨rfl, rfl⟩ := oc2 hf
        exact hk0
      · have hf := ifp c hf
        refine a_iinc (q := 5) (v := (x5 + 1)) (lv1 := [(5, .int (x5 + 1)), (0, .ref x0), (1, .int x1), (2, .int x2), (3, .int x3), (4, .int x4)]) dX14_nameAt_53 rfl (by rfl) (by decide) rfl ?_
        refine a_goto (tgt := 18) dX14_nameAt_56 (by decide) ?_
        exact AW.sub [1, 2, 3, 4, 5, 0] rfl (ih _ _ _ _ _ _ _ _ _ hf hk0)
set_option maxHeartbeats 4000000 in
set_option maxRecDepth 100000 in
theorem sX14_nameAt_l89 (E : gE) (D : Nat) (hD : 5 ≤ D) {rz : Option Value} {h0 hz : hp} : ∀ (n : Nat) (x0 : Nat) (x1 : Int32) (x2 : Int32) (x3 : Int32) (x4 : Int32) (h : hp) (m4 : Int32) (hq : hp), fX14_nameAt_l89 n x0 x1 x2 x3 x4 h = some (m4, hq) → (AW E yX14_nameAt cX14_nameAt (Option.some Jvm.ClassFile.FieldType.int) 6 D rz h0 hz 107 [(0, .ref x0), (1, .int x1), (2, .int x2), (3, .int x3), (4, .int m4)] [] hq) → AW E yX14_nameAt cX14_nameAt (Option.some Jvm.ClassFile.FieldType.int) 6 D rz h0 hz 89 [(0, .ref x0), (1, .int x1), (2, .int x2), (3, .int x3), (4, .int x4)] [] h := by
  intro n
  induction n with
  | zero =>
    intro x0 x1 x2 x3 x4 h m4 hq hf _
    rw [fX14_nameAt_l89] at hf
    cases hf
  | succ n ih =>
    intro x0 x1 x2 x3 x4 h m4 hq hf hk0
    rw [fX14_nameAt_l89] at hf
    refine o_ldcS dX14_nameAt_89 rfl rfl ?_
    refine a_iload (q := 4) dX14_nameAt_91 rfl ?_
    obtain ⟨_, e4, hf⟩ := obd hf
    obtain ⟨v2, h3, e1, hf⟩ := ob2 hf
    refine a_callVg (as := [.int x4]) (np := 1) (C0 := "java/lang/String") (st := []) (sJ0_charAt_5068e E (D - 1) (by omega) e1) dX14_nameAt_93 rfl (by omega) (by decide) cw_X14_262 ⟨wd_649, wd_650⟩ (g_rvS e4) rfl (Nat.le_of_ble_eq_true rfl) ?_
    refine a_bipush (v := 32) dX14_nameAt_96 (by decide) ?_
    refine a_icmp_eq (tgt := 107) dX14_nameAt_98 (by decide) (fun c => ?_) (fun c => ?_)
    · have hf := ifp c hf
      obtain ⟨rfl, rfl⟩ := oc2 hf
      exact hk0
    · have hf := ifn c hf
      refine a_iinc (q := 4) (v := (x4 + 1)) (lv1 := [(4, .int (x4 + 1)), (0, .ref x0), (1, .int x1), (2, .int x2), (3, .int x3)]) dX14_nameAt_101 rfl (by rfl) (by decide) rfl ?_
      refine a_goto (tgt := 89) dX14_nameAt_104 (by decide) ?_
      exact AW.sub [1, 2, 3, 4, 0] rfl (ih _ _ _ _ _ _ _ _ hf hk0)
set_option maxHeartbeats 4000000 in
set_option maxRecDepth 100000 in
theorem sX14_nameAt_l5 (E : gE) (D : Nat) (hD : 5 ≤ D) {rz : Option Value} {h0 hz : hp} : ∀ (n : Nat) (x0 : Nat) (x1 : Int32) (x2 : Int32) (x3 : Int32) (x4 : Int32) (h : hp) (tq : Nat) (m3 : Int32) (hq : hp), fX14_nameAt_l5 n x0 x1 x2 x3 x4 h = some (tq, m3, hq) → (tq = 0 → AW E yX14_nameAt cX14_nameAt (Option.some Jvm.ClassFile.FieldType.int) 6 D rz h0 hz 87 [(3, .int m3)] [] hq) → (tq = 1 → AW E yX14_nameAt cX14_nameAt (Option.some Jvm.ClassFile.FieldType.int) 6 D rz h0 hz 116 [] [] hq) → AW E yX14_nameAt cX14_nameAt (Option.some Jvm.ClassFile.FieldType.int) 6 D rz h0 hz 5 [(0, .ref x0), (1, .int x1), (2, .int x2), (3, .int x3), (4, .int x4)] [] h := by
  intro n
  induction n with
  | zero =>
    intro x0 x1 x2 x3 x4 h tq m3 hq hf _ _
    rw [fX14_nameAt_l5] at hf
    cases hf
  | succ n ih =>
    intro x0 x1 x2 x3 x4 h tq m3 hq hf hk0 hk1
    rw [fX14_nameAt_l5] at hf
    refine a_iload (q := 4) dX14_nameAt_5 rfl ?_
    refine o_ldcS dX14_nameAt_7 rfl rfl ?_
    obtain ⟨_, e4, hf⟩ := obd hf
    obtain ⟨v2, h3, e1, hf⟩ := ob2 hf
    refine a_callVg (as := []) (np := 0) (C0 := "java/lang/String") (st := [.int x4]) (sJ0_length_8abf5 E (D - 1) (by omega) e1) dX14_nameAt_9 rfl (by omega) (by decide) cw_X14_257 ⟨wd_639, wd_640⟩ (g_rvS e4) rfl (Nat.le_of_ble_eq_true rfl) ?_
    refine a_icmp_ge (tgt := 116) dX14_nameAt_12 (by decide) (fun c => ?_) (fun c => ?_)
    · have hf := ifp c hf
      obtain ⟨rfl, rfl, rfl⟩ := oc3 hf
      exact AW.sub [] rfl (hk1 rfl)
    · have hf := ifn c hf
      refine a_iconst (v := 0) dX14_nameAt_15 (by decide) ?_
      refine a_istore (lv1 := [(5, .int 0), (0, .ref x0), (1, .int x1), (2, .int x2), (3, .int x3), (4, .int x4)]) dX14_nameAt_16 (by decide) rfl ?_
      obtain ⟨v7, h6, e5, hf⟩ := ob2 hf
      refine AW.sub [1, 2, 3, 4, 5, 0] rfl (sX14_nameAt_l18 E D hD _ _ _ _ _ _ _ _ _ _ e5 ?_)
      refine a_iload (q := 5) dX14_nameAt_59 rfl ?_
      obtain ⟨k89, ek89, hf⟩ := jn_s hf
      have hj89 : ∀ (h89j : hp), k89 h89j = some (tq, m3, hq) → AW E yX14_nameAt cX14_nameAt (Option.some Jvm.ClassFile.FieldType.int) 6 D rz h0 hz 89 [(0, .ref x0), (1, .int x1), (2, .int x2), (3, .int x3), (4, .int x4)] [] h89j := by
        intro h89j hf
        rw [ek89] at hf
        clear ek89
        obtain ⟨v10, h9, e8, hf⟩ := ob2 hf
        refine sX14_nameAt_l89 E D hD _ _ _ _ _ _ _ _ _ e8 ?_
        refine a_iinc (q := 4) (v := (v10 + 1)) (lv1 := [(4, .int (v10 + 1)), (0, .ref x0), (1, .int x1), (2, .int x2), (3, .int x3)]) dX14_nameAt_107 rfl (by rfl) (by decide) rfl ?_
        refine a_iinc (q := 4) (v := (x3 + 1)) (lv1 := [(3, .int (x3 + 1)), (4, .int (v10 + 1)), (0, .ref x0), (1, .int x1), (2, .int x2)]) dX14_nameAt_110 rfl (by rfl) (by decide) rfl ?_
        refine a_goto (tgt := 5) dX14_nameAt_113 (by decide) ?_
        exact AW.sub [2, 3, 4, 0, 1] rfl (ih _ _ _ _ _ _ _ _ _ hf hk0 hk1)
      clear ek89
      refine a_if_le (tgt := 89) dX14_nameAt_61 (by decide) (fun c => ?_) (fun c => ?_)
      · have hf := ifp c hf
        exact AW.sub [0, 1, 2, 3, 4] rfl (hj89 _ hf)
      · have hf := ifn c hf
        refine a_iload_n (q := 1) dX14_nameAt_64 rfl rfl ?_
        refine a_iload (q := 5) dX14_nameAt_65 rfl ?_
        refine a_iadd dX14_nameAt_67 ?_
        refine a_iload_n (q := 2) dX14_nameAt_68 rfl rfl ?_
        refine a_icmp_ne (tgt := 89) dX14_nameAt_69 (by decide) (fun c => ?_) (fun c => ?_)
        · have hf := ifn c hf
          exact AW.sub [0, 1, 2, 3, 4] rfl (hj89 _ hf)
        · have hf := ifp c hf
          refine o_ldcS dX14_nameAt_72 rfl rfl ?_
          refine a_iload (q := 4) dX14_nameAt_74 rfl ?_
          refine a_iload (q := 5) dX14_nameAt_76 rfl ?_
          refine a_iadd dX14_nameAt_78 ?_
          obtain ⟨_, e14, hf⟩ := obd hf
          obtain ⟨v12, h13, e11, hf⟩ := ob2 hf
          refine a_callVg (as := [.int (x4 + v7)]) (np := 1) (C0 := "java/lang/String") (st := []) (sJ0_charAt_5068e E (D - 1) (by omega) e11) dX14_nameAt_79 rfl (by omega) (by decide) cw_X14_262 ⟨wd_649, wd_650⟩ (g_rvS e14) rfl (Nat.le_of_ble_eq_true rfl) ?_
          refine a_bipush (v := 32) dX14_nameAt_82 (by decide) ?_
          refine a_icmp_ne (tgt := 89) dX14_nameAt_84 (by decide) (fun c => ?_) (fun c => ?_)
          · have hf := ifn c hf
            exact AW.sub [0, 1, 2, 3, 4] rfl (hj89 _ hf)
          · have hf := ifp c hf
            obtain ⟨rfl, rfl, rfl⟩ := oc3 hf
            exact AW.sub [3] rfl (hk0 rfl)
set_option maxHeartbeats 4000000 in
set_option maxRecDepth 100000 in
theorem sX14_nameAt (E : gE) (D : Nat) (hD : 5 ≤ D) {a0 : Nat} {a1 : Int32} {a2 : Int32} {h hz : hp} {v0 : Int32} (hf : fX14_nameAt a0 a1 a2 h = some (v0, hz)) : MC E yX14_nameAt cX14_nameAt (Option.some Jvm.ClassFile.FieldType.int) 6 D [.ref a0, .int a1, .int a2] h (some (.int v0)) hz := by
  refine MC.of (by decide +kernel) (Nat.le_of_ble_eq_true rfl) rfl ?_
  unfold fX14_nameAt at hf
  show AW E yX14_nameAt cX14_nameAt (Option.some Jvm.ClassFile.FieldType.int) 6 D (some (.int v0)) h hz 0 [(0, .ref a0), (1, .int a1), (2, .int a2)] [] h
  refine a_iconst (v := 0) dX14_nameAt_0 (by decide) ?_
  refine a_istore_n (lv1 := [(3, .int 0), (0, .ref a0), (1, .int a1), (2, .int a2)]) dX14_nameAt_1 rfl (by decide) rfl ?_
  refine a_iconst (v := 1) dX14_nameAt_2 (by decide) ?_
  refine a_istore (lv1 := [(4, .int 1), (3, .int 0), (0, .ref a0), (1, .int a1), (2, .int a2)]) dX14_nameAt_3 (by decide) rfl ?_
  obtain ⟨t4, v3, h2, e1, hf⟩ := ob3 hf
  refine AW.sub [2, 3, 4, 1, 0] rfl (sX14_nameAt_l5 E D hD _ _ _ _ _ _ _ _ _ _ e1 (fun c => ?_) (fun c => ?_))
  · have hf := ifp c hf
    refine a_iload_n (q := 0) dX14_nameAt_87 rfl rfl ?_
    obtain ⟨rfl, rfl⟩ := oc2 hf
    exact a_ireturn dX14_nameAt_88 rfl
  · have hf := ifn (by rw [c]; decide) hf
    have hf := ifp c hf
    refine a_iconst (v := (-1)) dX14_nameAt_116 (by decide) ?_
    obtain ⟨rfl, rfl⟩ := oc2 hf
    exact a_ireturn dX14_nameAt_117 rfl
def fX14_nameHere_l5 : Nat → Nat → Int32 → hp → Option hp
  | 0, _, _, _ => none
  | n + 1, x0, x1, h =>
    (ckT h x0 13).bind fun _ =>
    bd2 (fX14_here x0 h) fun v2 h3 =>
    bd2 (fX14_isIn (v2.toInt64) 97 122 h3) fun v6 h7 =>
    if v6 = 0 then (
      some (h7)
    ) else (
      (gfI h7 x0 13 14).bind fun v8 =>
      (pfI h7 x0 13 14 (v8 + 1)).bind fun h10 =>
      fX14_nameHere_l5 n x0 x1 h10
    )
def fX14_nameHere (a0 : Nat) (h : hp) : Option (Int32 × hp) :=
  (gfI h a0 13 14).bind fun v1 =>
  (fX14_nameHere_l5 FU a0 v1 h).bind fun h4 =>
  (gfI h4 a0 13 14).bind fun v5 =>
  (ckT h4 a0 13).bind fun _ =>
  bd2 (fX14_nameAt a0 v1 v5 h4) fun v8 h9 =>
  some (v8, h9)
set_option maxHeartbeats 4000000 in
set_option maxRecDepth 100000 in
theorem sX14_nameHere_l5 (E : gE) (D : Nat) (hD : 6 ≤ D) {rz : Option Value} {h0 hz : hp} : ∀ (n : Nat) (x0 : Nat) (x1 : Int32) (h : hp) (hq : hp), fX14_nameHere_l5 n x0 x1 h = some hq → (AW E yX14_nameHere cX14_nameHere (Option.some Jvm.ClassFile.FieldType.int) 2 D rz h0 hz 35 [(0, .ref x0), (1, .int x1)] [] hq) → AW E yX14_nameHere cX14_nameHere (Option.some Jvm.ClassFile.FieldType.int) 2 D rz h0 hz 5 [(0, .ref x0), (1, .int x1)] [] h := by
  intro n
  induction n with
  | zero =>
    intro x0 x1 h hq hf _
    rw [fX14_nameHere_l5] at hf
    cases hf
  | succ n ih =>
    intro x0 x1 h hq hf hk0
    rw [fX14_nameHere_l5] at hf
    refine a_aload_n (q := 0) dX14_nameHere_5 rfl rfl ?_
    obtain ⟨_, e4, hf⟩ := obd hf
    obtain ⟨v2, h3, e1, hf⟩ := ob2 hf
    refine a_callV (as := []) (np := 0) (ci := 13) (st := []) (sX14_here E (D - 1) (by omega) e1) dX14_nameHere_6 rfl (by omega) (by decide) cw_X14_247 ⟨wd_1349, ws_65⟩ rfl (ckT_s e4) rfl (Nat.le_of_ble_eq_true rfl) ?_
    refine a_i2l dX14_nameHere_9 rfl ?_
    refine a_ldc2 (v := 97) dX14_nameHere_10 wd_1379 ?_
    refine a_ldc2 (v := 122) dX14_nameHere_13 wd_1395 ?_
    obtain ⟨v6, h7, e5, hf⟩ := ob2 hf
    refine a_callS (as := [.long (v2.toInt64), .long 97, .long 122]) (np := 3) (st := []) (sX14_isIn E (D - 1) (by omega) e5) dX14_nameHere_16 rfl (by omega) (by decide) cw_X14_155 wd_1324 rfl (Nat.le_of_ble_eq_true rfl) ?_
    refine a_if_eq (tgt := 35) dX14_nameHere_19 (by decide) (fun c => ?_) (fun c => ?_)
    · have hf := ifp c hf
      obtain rfl := Option.some.inj hf
      exact hk0
    · have hf := ifn c hf
      refine a_aload_n (q := 0) dX14_nameHere_22 rfl rfl ?_
      refine a_dup dX14_nameHere_23 rfl ?_
      obtain ⟨v8, e9, hf⟩ := obd hf
      refine o_gfI dX14_nameHere_24 lk_X14_238 rfl e9 ?_
      refine a_iconst (v := 1) dX14_nameHere_27 (by decide) ?_
      refine a_iadd dX14_nameHere_28 ?_
      obtain ⟨h10, e11, hf⟩ := obd hf
      refine o_pfI dX14_nameHere_29 lk_X14_238 (⟨_, rfl, Or.inl rfl⟩) rfl e11 ?_
      refine a_goto (tgt := 5) dX14_nameHere_32 (by decide) ?_
      exact (ih _ _ _ _ hf hk0)
set_option maxHeartbeats 4000000 in
set_option maxRecDepth 100000 in
theorem sX14_nameHere (E : gE) (D : Nat) (hD : 6 ≤ D) {a0 : Nat} {h hz : hp} {v0 : Int32} (hf : fX14_nameHere a0 h = some (v0, hz)) : MC E yX14_nameHere cX14_nameHere (Option.some Jvm.ClassFile.FieldType.int) 2 D [.ref a0] h (some (.int v0)) hz := by
  refine MC.of (by decide +kernel) (Nat.le_of_ble_eq_true rfl) rfl ?_
  unfold fX14_nameHere at hf
  show AW E yX14_nameHere cX14_nameHere (Option.some Jvm.ClassFile.FieldType.int) 2 D (some (.int v0)) h hz 0 [(0, .ref a0)] [] h
  refine a_aload_n (q := 0) dX14_nameHere_0 rfl rfl ?_
  obtain ⟨v1, e2, hf⟩ := obd hf
  refine o_gfI dX14_nameHere_1 lk_X14_238 rfl e2 ?_
  refine a_istore_n (lv1 := [(1, .int v1), (0, .ref a0)]) dX14_nameHere_4 rfl (by decide) rfl ?_
  obtain ⟨h4, e3, hf⟩ := obd hf
  refine AW.sub [1, 0] rfl (sX14_nameHere_l5 E D hD _ _ _ _ _ e3 ?_)
  refine a_aload_n (q := 0) dX14_nameHere_35 rfl rfl ?_
  refine a_iload_n (q := 1) dX14_nameHere_36 rfl rfl ?_
  refine a_aload_n (q := 0) dX14_nameHere_37 rfl rfl ?_
  obtain ⟨v5, e6, hf⟩ := obd hf
  refine o_gfI dX14_nameHere_38 lk_X14_238 rfl e6 ?_
  obtain ⟨_, e10, hf⟩ := obd hf
  obtain ⟨v8, h9, e7, hf⟩ := ob2 hf
  refine a_callV (as := [.int v1, .int v5]) (np := 2) (ci := 13) (st := []) (sX14_nameAt E (D - 1) (by omega) e7) dX14_nameHere_41 rfl (by omega) (by decide) cw_X14_270 ⟨wd_1398, ws_76⟩ rfl (ckT_s e10) rfl (Nat.le_of_ble_eq_true rfl) ?_
  obtain ⟨rfl, rfl⟩ := oc2 hf
  exact a_ireturn dX14_nameHere_44 rfl
def fX14_isFilterRead (a0 : Nat) (h : hp) : Option (Int32 × hp) :=
  (gfI h a0 13 14).bind fun v1 =>
  (ckT h a0 13).bind fun _ =>
  bd2 (fX14_nameHere a0 h) fun v4 h5 =>
  if 0 ≤ v4 then (
    if v4 < 13 then (
      some (1, h5)
    ) else (
      (ckT h5 a0 13).bind fun _ =>
      bd2 (fX14_isSign a0 58 h5) fun v8 h9 =>
      if v8 = 0 then (
        some (0, h9)
      ) else (
        (ckT h9 a0 13).bind fun _ =>
        bd2 (fX14_isFigures a0 h9) fun v12 h13 =>
        if v12 = 0 then (
          some (0, h13)
        ) else (
          some (1, h13)
        )
      )
    )
  ) else (
    (ckT h5 a0 13).bind fun _ =>
    bd2 (fX14_fails a0 v1 h5) fun v16 h17 =>
    (zck v16).bind fun _ =>
    some (v16, h17)
  )
set_option maxHeartbeats 4000000 in
set_option maxRecDepth 100000 in
theorem sX14_isFilterRead (E : gE) (D : Nat) (hD : 7 ≤ D) {a0 : Nat} {h hz : hp} {v0 : Int32} (hf : fX14_isFilterRead a0 h = some (v0, hz)) : MC E yX14_isFilterRead cX14_isFilterRead (Option.some Jvm.ClassFile.FieldType.boolean) 3 D [.ref a0] h (some (.int v0)) hz := by
  refine MC.of (by decide +kernel) (Nat.le_of_ble_eq_true rfl) rfl ?_
  unfold fX14_isFilterRead at hf
  show AW E yX14_isFilterRead cX14_isFilterRead (Option.some Jvm.ClassFile.FieldType.boolean) 3 D (some (.int v0)) h hz 0 [(0, .ref a0)] [] h
  refine a_aload_n (q := 0) dX14_isFilterRead_0 rfl rfl ?_
  obtain ⟨v1, e2, hf⟩ := obd hf
  refine o_gfI dX14_isFilterRead_1 lk_X14_238 rfl e2 ?_
  refine a_istore_n (lv1 := [(1, .int v1), (0, .ref a0)]) dX14_isFilterRead_4 rfl (by decide) rfl ?_
  refine a_aload_n (q := 1) dX14_isFilterRead_5 rfl rfl ?_
  obtain ⟨_, e6, hf⟩ := obd hf
  obtain ⟨v4, h5, e3, hf⟩ := ob2 hf
  refine a_callV (as := []) (np := 0) (ci := 13) (st := []) (sX14_nameHere E (D - 1) (by omega) e3) dX14_isFilterRead_6 rfl (by omega) (by decide) cw_X14_273 ⟨wd_1393, ws_75⟩ rfl (ckT_s e6) rfl (Nat.le_of_ble_eq_true rfl) ?_
  refine a_istore_n (lv1 := [(2, .int v4), (1, .int v1), (0, .ref a0)]) dX14_isFilterRead_9 rfl (by decide) rfl ?_
  refine a_iload_n (q := 0) dX14_isFilterRead_10 rfl rfl ?_
  refine a_if_ge (tgt := 20) dX14_isFilterRead_11 (by decide) (fun c => ?_) (fun c => ?_)
  · have hf := ifp c hf
    refine a_iload_n (q := 0) dX14_isFilterRead_20 rfl rfl ?_
    refine a_bipush (v := 13) dX14_isFilterRead_21 (by decide) ?_
    refine a_icmp_lt (tgt := 42) dX14_isFilterRead_23 (by decide) (fun c => ?_) (fun c => ?_)
    · have hf := ifp c hf
      refine a_iconst (v := 1) dX14_isFilterRead_42 (by decide) ?_
      refine a_goto (tgt := 47) dX14_isFilterRead_43 (by decide) ?_
      obtain ⟨rfl, rfl⟩ := oc2 hf
      exact a_zreturn dX14_isFilterRead_47 rfl (by decide)
    · have hf := ifn c hf
      refine a_aload_n (q := 2) dX14_isFilterRead_26 rfl rfl ?_
      refine a_bipush (v := 58) dX14_isFilterRead_27 (by decide) ?_
      obtain ⟨_, e10, hf⟩ := obd hf
      obtain ⟨v8, h9, e7, hf⟩ := ob2 hf
      refine a_callV (as := [.int 58]) (np := 1) (ci := 13) (st := []) (sX14_isSign E (D - 1) (by omega) e7) dX14_isFilterRead_29 rfl (by omega) (by decide) cw_X14_276 ⟨wd_1377, ws_72⟩ rfl (ckT_s e10) rfl (Nat.le_of_ble_eq_true rfl) ?_
      refine a_if_eq (tgt := 46) dX14_isFilterRead_32 (by decide) (fun c => ?_) (fun c => ?_)
      · have hf := ifp c hf
        refine a_iconst (v := 0) dX14_isFilterRead_46 (by decide) ?_
        obtain ⟨rfl, rfl⟩ := oc2 hf
        exact a_zreturn dX14_isFilterRead_47 rfl (by decide)
      · have hf := ifn c hf
        refine a_aload_n (q := 2) dX14_isFilterRead_35 rfl rfl ?_
        obtain ⟨_, e14, hf⟩ := obd hf
        obtain ⟨v12, h13, e11, hf⟩ := ob2 hf
        refine a_callV (as := []) (np := 0) (ci := 13) (st := []) (sX14_isFigures E (D - 1) (by omega) e11) dX14_isFilterRead_36 rfl (by omega) (by decide) cw_X14_279 ⟨wd_1383, ws_73⟩ rfl (ckT_s e14) rfl (Nat.le_of_ble_eq_true rfl) ?_
        refine a_if_eq (tgt := 46) dX14_isFilterRead_39 (by decide) (fun c => ?_) (fun c => ?_)
        · have hf := ifp c hf
          refine a_iconst (v := 0) dX14_isFilterRead_46 (by decide) ?_
          obtain ⟨rfl, rfl⟩ := oc2 hf
          exact a_zreturn dX14_isFilterRead_47 rfl (by decide)
        · have hf := ifn c hf
          refine a_iconst (v := 1) dX14_isFilterRead_42 (by decide) ?_
          refine a_goto (tgt := 47) dX14_isFilterRead_43 (by decide) ?_
          obtain ⟨rfl, rfl⟩ := oc2 hf
          exact a_zreturn dX14_isFilterRead_47 rfl (by decide)
  · have hf := ifn c hf
    refine a_aload_n (q := 2) dX14_isFilterRead_14 rfl rfl ?_
    refine a_iload_n (q := 1) dX14_isFilterRead_15 rfl rfl ?_
    obtain ⟨_, e18, hf⟩ := obd hf
    obtain ⟨v16, h17, e15, hf⟩ := ob2 hf
    refine a_callV (as := [.int v1]) (np := 1) (ci := 13) (st := []) (sX14_fails E (D - 1) (by omega) e15) dX14_isFilterRead_16 rfl (by omega) (by decide) cw_X14_251 ⟨wd_1353, ws_66⟩ rfl (ckT_s e18) rfl (Nat.le_of_ble_eq_true rfl) ?_
    obtain ⟨_, e19, hf⟩ := obd hf
    obtain ⟨rfl, rfl⟩ := oc2 hf
    exact a_zreturn dX14_isFilterRead_19 rfl (zck_s e19)
def fX14_isTextRead_l15 : Nat → Nat → Int32 → hp → Option hp
  | 0, _, _, _ => none
  | n + 1, x0, x1, h =>
    (gfI h x0 13 14).bind fun v1 =>
    if 16 ≤ (v1 - x1) then (
      some (h)
    ) else (
      (ckT h x0 13).bind fun _ =>
      bd2 (fX14_here x0 h) fun v4 h5 =>
      if v4 < 0 then (
        some (h5)
      ) else (
        (ckT h5 x0 13).bind fun _ =>
        bd2 (fX14_here x0 h5) fun v8 h9 =>
        if v8 = 39 then (
          some (h9)
        ) else (
          (ckT h9 x0 13).bind fun _ =>
          bd2 (fX14_here x0 h9) fun v12 h13 =>
          if v12 = 123 then (
            some (h13)
          ) else (
            (ckT h13 x0 13).bind fun _ =>
            bd2 (fX14_here x0 h13) fun v16 h17 =>
            if v16 = 125 then (
              some (h17)
            ) else (
              (gfI h17 x0 13 14).bind fun v19 =>
              (pfI h17 x0 13 14 (v19 + 1)).bind fun h21 =>
              fX14_isTextRead_l15 n x0 x1 h21
            )
          )
        )
      )
    )
def fX14_isTextRead (a0 : Nat) (h : hp) : Option (Int32 × hp) :=
  (gfI h a0 13 14).bind fun v1 =>
  (pfI h a0 13 14 (v1 + 1)).bind fun h3 =>
  (gfI h3 a0 13 14).bind fun v5 =>
  (fX14_isTextRead_l15 FU a0 v5 h3).bind fun h8 =>
  (ckT h8 a0 13).bind fun _ =>
  bd2 (fX14_isSign a0 39 h8) fun v10 h11 =>
  (zck v10).bind fun _ =>
  some (v10, h11)
set_option maxHeartbeats 4000000 in
set_option maxRecDepth 100000 in
theorem sX14_isTextRead_l15 (E : gE) (D : Nat) (hD : 2 ≤ D) {rz : Option Value} {h0 hz : hp} : ∀ (n : Nat) (x0 : Nat) (x1 : Int32) (h : hp) (hq : hp), fX14_isTextRead_l15 n x0 x1 h = some hq → (AW E yX14_isTextRead cX14_isTextRead (Option.some Jvm.ClassFile.FieldType.boolean) 2 D rz h0 hz 73 [(0, .ref x0)] [] hq) → AW E yX14_isTextRead cX14_isTextRead (Option.some Jvm.ClassFile.FieldType.boolean) 2 D rz h0 hz 15 [(0, .ref x0), (1, .int x1)] [] h := by
  intro n
  induction n with
  | zero =>
    intro x0 x1 h hq hf _
    rw [fX14_isTextRead_l15] at hf
    cases hf
  | succ n ih =>
    intro x0 x1 h hq hf hk0
    rw [fX14_isTextRead_l15] at hf
    refine a_aload_n (q := 0) dX14_isTextRead_15 rfl rfl ?_
    obtain ⟨v1, e2, hf⟩ := obd hf
    refine o_gfI dX14_isTextRead_16 lk_X14_238 rfl e2 ?_
    refine a_iload_n (q := 1) dX14_isTextRead_19 rfl rfl ?_
    refine a_isub dX14_isTextRead_20 ?_
    refine a_bipush (v := 16) dX14_isTextRead_21 (by decide) ?_
    refine a_icmp_ge (tgt := 73) dX14_isTextRead_23 (by decide) (fun c => ?_) (fun c => ?_)
    · have hf := ifp c hf
      obtain rfl := Option.some.inj hf
      exact AW.sub [0] rfl (hk0)
    · have hf := ifn c hf
      refine a_aload_n (q := 0) dX14_isTextRead_26 rfl rfl ?_
      obtain ⟨_, e6, hf⟩ := obd hf
      obtain ⟨v4, h5, e3, hf⟩ := ob2 hf
      refine a_callV (as := []) (np := 0) (ci := 13) (st := []) (sX14_here E (D - 1) (by omega) e3) dX14_isTextRead_27 rfl (by omega) (by decide) cw_X14_247 ⟨wd_1349, ws_65⟩ rfl (ckT_s e6) rfl (Nat.le_of_ble_eq_true rfl) ?_
      refine a_if_lt (tgt := 73) dX14_isTextRead_30 (by decide) (fun c => ?_) (fun c => ?_)
      · have hf := ifp c hf
        obtain rfl := Option.some.inj hf
        exact AW.sub [0] rfl (hk0)
      · have hf := ifn c hf
        refine a_aload_n (q := 0) dX14_isTextRead_33 rfl rfl ?_
        obtain ⟨_, e10, hf⟩ := obd hf
        obtain ⟨v8, h9, e7, hf⟩ := ob2 hf
        refine a_callV (as := []) (np := 0) (ci := 13) (st := []) (sX14_here E (D - 1) (by omega) e7) dX14_isTextRead_34 rfl (by omega) (by decide) cw_X14_247 ⟨wd_1349, ws_65⟩ rfl (ckT_s e10) rfl (Nat.le_of_ble_eq_true rfl) ?_
        refine a_bipush (v := 39) dX14_isTextRead_37 (by decide) ?_
        refine a_icmp_eq (tgt := 73) dX14_isTextRead_39 (by decide) (fun c => ?_) (fun c => ?_)
        · have hf := ifp c hf
          obtain rfl := Option.some.inj hf
          exact AW.sub [0] rfl (hk0)
        · have hf := ifn c hf
          refine a_aload_n (q := 0) dX14_isTextRead_42 rfl rfl ?_
          obtain ⟨_, e14, hf⟩ := obd hf
          obtain ⟨v12, h13, e11, hf⟩ := ob2 hf
          refine a_callV (as := []) (np := 0) (ci := 13) (st := []) (sX14_here E (D - 1) (by omega) e11) dX14_isTextRead_43 rfl (by omega) (by decide) cw_X14_247 ⟨wd_1349, ws_65⟩ rfl (ckT_s e14) rfl (Nat.le_of_ble_eq_true rfl) ?_
          refine a_bipush (v := 123) dX14_isTextRead_46 (by decide) ?_
          refine a_icmp_eq (tgt := 73) dX14_isTextRead_48 (by decide) (fun c => ?_) (fun c => ?_)
          · have hf := ifp c hf
            obtain rfl := Option.some.inj hf
            exact AW.sub [0] rfl (hk0)
          · have hf := ifn c hf
            refine a_aload_n (q := 0) dX14_isTextRead_51 rfl rfl ?_
            obtain ⟨_, e18, hf⟩ := obd hf
            obtain ⟨v16, h17, e15, hf⟩ := ob2 hf
            refine a_callV (as := []) (np := 0) (ci := 13) (st := []) (sX14_here E (D - 1) (by omega) e15) dX14_isTextRead_52 rfl (by omega) (by decide) cw_X14_247 ⟨wd_1349, ws_65⟩ rfl (ckT_s e18) rfl (Nat.le_of_ble_eq_true rfl) ?_
            refine a_bipush (v := 125) dX14_isTextRead_55 (by decide) ?_
            refine a_icmp_eq (tgt := 73) dX14_isTextRead_57 (by decide) (fun c => ?_) (fun c => ?_)
            · have hf := ifp c hf
              obtain rfl := Option.some.inj hf
              exact AW.sub [0] rfl (hk0)
            · have hf := ifn c hf
              refine a_aload_n (q := 0) dX14_isTextRead_60 rfl rfl ?_
              refine a_dup dX14_isTextRead_61 rfl ?_
              obtain ⟨v19, e20, hf⟩ := obd hf
              refine o_gfI dX14_isTextRead_62 lk_X14_238 rfl e20 ?_
              refine a_iconst (v := 1) dX14_isTextRead_65 (by decide) ?_
              refine a_iadd dX14_isTextRead_66 ?_
              obtain ⟨h21, e22, hf⟩ := obd hf
              refine o_pfI dX14_isTextRead_67 lk_X14_238 (⟨_, rfl, Or.inl rfl⟩) rfl e22 ?_
              refine a_goto (tgt := 15) dX14_isTextRead_70 (by decide) ?_
              exact (ih _ _ _ _ hf hk0)
set_option maxHeartbeats 4000000 in
set_option maxRecDepth 100000 in
theorem sX14_isTextRead (E : gE) (D : Nat) (hD : 2 ≤ D) {a0 : Nat} {h hz : hp} {v0 : Int32} (hf : fX14_isTextRead a0 h = some (v0, hz)) : MC E yX14_isTextRead cX14_isTextRead (Option.some Jvm.ClassFile.FieldType.boolean) 2 D [.ref a0] h (some (.int v0)) hz := by
  refine MC.of (by decide +kernel) (Nat.le_of_ble_eq_true rfl) rfl ?_
  unfold fX14_isTextRead at hf
  show AW E yX14_isTextRead cX14_isTextRead (Option.some Jvm.ClassFile.FieldType.boolean) 2 D (some (.int v0)) h hz 0 [(0, .ref a0)] [] h
  refine a_aload_n (q := 0) dX14_isTextRead_0 rfl rfl ?_
  refine a_dup dX14_isTextRead_1 rfl ?_
  obtain ⟨v1, e2, hf⟩ := obd hf
  refine o_gfI dX14_isTextRead_2 lk_X14_238 rfl e2 ?_
  refine a_iconst (v := 1) dX14_isTextRead_5 (by decide) ?_
  refine a_iadd dX14_isTextRead_6 ?_
  obtain ⟨h3, e4, hf⟩ := obd hf
  refine o_pfI dX14_isTextRead_7 lk_X14_238 (⟨_, rfl, Or.inl rfl⟩) rfl e4 ?_
  refine a_aload_n (q := 0) dX14_isTextRead_10 rfl rfl ?_
  obtain ⟨v5, e6, hf⟩ := obd hf
  refine o_gfI dX14_isTextRead_11 lk_X14_238 rfl e6 ?_
  refine a_istore_n (lv1 := [(1, .int v5), (0, .ref a0)]) dX14_isTextRead_14 rfl (by decide) rfl ?_
  obtain ⟨h8, e7, hf⟩ := obd hf
  refine AW.sub [1, 0] rfl (sX14_isTextRead_l15 E D hD _ _ _ _ _ e7 ?_)
  refine a_aload_n (q := 0) dX14_isTextRead_73 rfl rfl ?_
  refine a_bipush (v := 39) dX14_isTextRead_74 (by decide) ?_
  obtain ⟨_, e12, hf⟩ := obd hf
  obtain ⟨v10, h11, e9, hf⟩ := ob2 hf
  refine a_callV (as := [.int 39]) (np := 1) (ci := 13) (st := []) (sX14_isSign E (D - 1) (by omega) e9) dX14_isTextRead_76 rfl (by omega) (by decide) cw_X14_276 ⟨wd_1377, ws_72⟩ rfl (ckT_s e12) rfl (Nat.le_of_ble_eq_true rfl) ?_
  obtain ⟨_, e13, hf⟩ := obd hf
  obtain ⟨rfl, rfl⟩ := oc2 hf
  exact a_zreturn dX14_isTextRead_79 rfl (zck_s e13)
def fX14_isExpressionRead_l82 : Nat → Nat → hp → Option (Nat × hp)
  | 0, _, _ => none
  | n + 1, x0, h =>
    (ckT h x0 13).bind fun _ =>
    bd2 (fX14_here x0 h) fun v2 h3 =>
    if v2 = 124 then (
      (gfI h3 x0 13 14).bind fun v5 =>
      (pfI h3 x0 13 14 (v5 + 1)).bind fun h7 =>
      (ckT h7 x0 13).bind fun _ =>
      bd2 (fX14_isFilterRead x0 h7) fun v10 h11 =>
      if v10 = 0 then (
        some (0, h11)
      ) else (
        fX14_isExpressionRead_l82 n x0 h11
      )
    ) else (
      some (1, h3)
    )
def fX14_isExpressionRead (a0 : Nat) (h : hp) : Option (Int32 × hp) :=
  (ckT h a0 13).bind fun _ =>
  bd2 (fX14_here a0 h) fun v2 h3 =>
  jn (fun (h82j : hp) => (
    bd2 (fX14_isExpressionRead_l82 FU a0 h82j) fun t7 h6 =>
    if t7 = 0 then (
      some (0, h6)
    ) else
    if t7 = 1 then (
      some (1, h6)
    ) else none
    : Option (Int32 × hp))) fun k82 =>
  if v2 = 39 then (
    (ckT h3 a0 13).bind fun _ =>
    bd2 (fX14_isTextRead a0 h3) fun v24 h25 =>
    if v24 = 0 then (
      some (0, h25)
    ) else (
      k82 h25
    )
  ) else (
    bd2 (fX14_isIn (v2.toInt64) 97 104 h3) fun v9 h10 =>
    jn (fun (h40j : hp) => (
      (gfI h40j a0 13 14).bind fun v11 =>
      (pfI h40j a0 13 14 (v11 + 1)).bind fun h13 =>
      k82 h13
      : Option (Int32 × hp))) fun k40 =>
    if v9 = 0 then (
      if v2 = 35 then (
        k40 h10
      ) else (
        (gfI h10 a0 13 14).bind fun v15 =>
        jn (fun (s69_0 : Int32) (h69j : hp) => (
          (pfI h69j a0 13 14 (v15 + s69_0)).bind fun h17 =>
          (ckT h17 a0 13).bind fun _ =>
          bd2 (fX14_isFigures a0 h17) fun v20 h21 =>
          if v20 = 0 then (
            some (0, h21)
          ) else (
            k82 h21
          )
          : Option (Int32 × hp))) fun k69 =>
        if v2 = 45 then (
          k69 1 h10
        ) else (
          k69 0 h10
        )
      )
    ) else (
      k40 h10
    )
  )
set_option maxHeartbeats 4000000 in
set_option maxRecDepth 100000 in
theorem sX14_isExpressionRead_l82 (E : gE) (D : Nat) (hD : 8 ≤ D) {rz : Option Value} {h0 hz : hp} : ∀ (n : Nat) (x0 : Nat) (h : hp) (tq : Nat) (hq : hp), fX14_isExpressionRead_l82 n x0 h = some (tq, hq) → (tq = 0 → AW E yX14_isExpressionRead cX14_isExpressionRead (Option.some Jvm.ClassFile.FieldType.boolean) 2 D rz h0 hz 108 [] [] hq) → (tq = 1 → AW E yX14_isExpressionRead cX14_isExpressionRead (Option.some Jvm.ClassFile.FieldType.boolean) 2 D rz h0 hz 110 [] [] hq) → AW E yX14_isExpressionRead cX14_isExpressionRead (Option.some Jvm.ClassFile.FieldType.boolean) 2 D rz h0 hz 82 [(0, .ref x0)] [] h := by
  intro n
  induction n with
  | zero =>
    intro x0 h tq hq hf _ _
    rw [fX14_isExpressionRead_l82] at hf
    cases hf
  | succ n ih =>
    intro x0 h tq hq hf hk0 hk1
    rw [fX14_isExpressionRead_l82] at hf
    refine a_aload_n (q := 0) dX14_isExpressionRead_82 rfl rfl ?_
    obtain ⟨_, e4, hf⟩ := obd hf
    obtain ⟨v2, h3, e1, hf⟩ := ob2 hf
    refine a_callV (as := []) (np := 0) (ci := 13) (st := []) (sX14_here E (D - 1) (by omega) e1) dX14_isExpressionRead_83 rfl (by omega) (by decide) cw_X14_247 ⟨wd_1349, ws_65⟩ rfl (ckT_s e4) rfl (Nat.le_of_ble_eq_true rfl) ?_
    refine a_bipush (v := 124) dX14_isExpressionRead_86 (by decide) ?_
    refine a_icmp_ne (tgt := 110) dX14_isExpressionRead_88 (by decide) (fun c => ?_) (fun c => ?_)
    · have hf := ifn c hf
      obtain ⟨rfl, rfl⟩ := oc2 hf
      exact AW.sub [] rfl (hk1 rfl)
    · have hf := ifp c hf
      refine a_aload_n (q := 0) dX14_isExpressionRead_91 rfl rfl ?_
      refine a_dup dX14_isExpressionRead_92 rfl ?_
      obtain ⟨v5, e6, hf⟩ := obd hf
      refine o_gfI dX14_isExpressionRead_93 lk_X14_238 rfl e6 ?_
      refine a_iconst (v := 1) dX14_isExpressionRead_96 (by decide) ?_
      refine a_iadd dX14_isExpressionRead_97 ?_
      obtain ⟨h7, e8, hf⟩ := obd hf
      refine o_pfI dX14_isExpressionRead_98 lk_X14_238 (⟨_, rfl, Or.inl rfl⟩) rfl e8 ?_
      refine a_aload_n (q := 0) dX14_isExpressionRead_101 rfl rfl ?_
      obtain ⟨_, e12, hf⟩ := obd hf
      obtain ⟨v10, h11, e9, hf⟩ := ob2 hf
      refine a_callV (as := []) (np := 0) (ci := 13) (st := []) (sX14_isFilterRead E (D - 1) (by omega) e9) dX14_isExpressionRead_102 rfl (by omega) (by decide) cw_X14_288 ⟨wd_1389, ws_74⟩ rfl (ckT_s e12) rfl (Nat.le_of_ble_eq_true rfl) ?_
      refine a_if_ne (tgt := 82) dX14_isExpressionRead_105 (by decide) (fun c => ?_) (fun c => ?_)
      · have hf := ifn c hf
        exact (ih _ _ _ _ hf hk0 hk1)
      · have hf := ifp c hf
        obtain ⟨rfl, rfl⟩ := oc2 hf
        exact AW.sub [] rfl (hk0 rfl)
set_option maxHeartbeats 4000000 in
set_option maxRecDepth 100000 in
theorem sX14_isExpressionRead (E : gE) (D : Nat) (hD : 8 ≤ D) {a0 : Nat} {h hz : hp} {v0 : Int32} (hf : fX14_isExpressionRead a0 h = some (v0, hz)) : MC E yX14_isExpressionRead cX14_isExpressionRead (Option.some Jvm.ClassFile.FieldType.boolean) 2 D [.ref a0] h (some (.int v0)) hz := by
  refine MC.of (by decide +kernel) (Nat.le_of_ble_eq_true rfl) rfl ?_
  unfold fX14_isExpressionRead at hf
  show AW E yX14_isExpressionRead cX14_isExpressionRead (Option.some Jvm.ClassFile.FieldType.boolean) 2 D (some (.int v0)) h hz 0 [(0, .ref a0)] [] h
  refine a_aload_n (q := 0) dX14_isExpressionRead_0 rfl rfl ?_
  obtain ⟨_, e4, hf⟩ := obd hf
  obtain ⟨v2, h3, e1, hf⟩ := ob2 hf
  refine a_callV (as := []) (np := 0) (ci := 13) (st := []) (sX14_here E (D - 1) (by omega) e1) dX14_isExpressionRead_1 rfl (by omega) (by decide) cw_X14_247 ⟨wd_1349, ws_65⟩ rfl (ckT_s e4) rfl (Nat.le_of_ble_eq_true rfl) ?_
  refine a_istore_n (lv1 := [(1, .int v2), (0, .ref a0)]) dX14_isExpressionRead_4 rfl (by decide) rfl ?_
  refine a_iload_n (q := 0) dX14_isExpressionRead_5 rfl rfl ?_
  refine a_bipush (v := 39) dX14_isExpressionRead_6 (by decide) ?_
  obtain ⟨k82, ek82, hf⟩ := jn_s hf
  have hj82 : ∀ (h82j : hp), k82 h82j = some (v0, hz) → AW E yX14_isExpressionRead cX14_isExpressionRead (Option.some Jvm.ClassFile.FieldType.boolean) 2 D (some (.int v0)) h hz 82 [(0, .ref a0)] [] h82j := by
    intro h82j hf
    rw [ek82] at hf
    clear ek82
    obtain ⟨t7, h6, e5, hf⟩ := ob2 hf
    refine sX14_isExpressionRead_l82 E D hD _ _ _ _ _ e5 (fun c => ?_) (fun c => ?_)
    · have hf := ifp c hf
      refine a_iconst (v := 0) dX14_isExpressionRead_108 (by decide) ?_
      obtain ⟨rfl, rfl⟩ := oc2 hf
      exact a_zreturn dX14_isExpressionRead_109 rfl (by decide)
    · have hf := ifn (by rw [c]; decide) hf
      have hf := ifp c hf
      refine a_iconst (v := 1) dX14_isExpressionRead_110 (by decide) ?_
      obtain ⟨rfl, rfl⟩ := oc2 hf
      exact a_zreturn dX14_isExpressionRead_111 rfl (by decide)
  clear ek82
  refine a_icmp_ne (tgt := 20) dX14_isExpressionRead_8 (by decide) (fun c => ?_) (fun c => ?_)
  · have hf := ifn c hf
    refine a_iload_n (q := 0) dX14_isExpressionRead_20 rfl rfl ?_
    refine a_i2l dX14_isExpressionRead_21 rfl ?_
    refine a_ldc2 (v := 97) dX14_isExpressionRead_22 wd_1379 ?_
    refine a_ldc2 (v := 104) dX14_isExpressionRead_25 wd_1380 ?_
    obtain ⟨v9, h10, e8, hf⟩ := ob2 hf
    refine a_callS (as := [.long (v2.toInt64), .long 97, .long 104]) (np := 3) (st := []) (sX14_isIn E (D - 1) (by omega) e8) dX14_isExpressionRead_28 rfl (by omega) (by decide) cw_X14_155 wd_1324 rfl (Nat.le_of_ble_eq_true rfl) ?_
    obtain ⟨k40, ek40, hf⟩ := jn_s hf
    have hj40 : ∀ (h40j : hp), k40 h40j = some (v0, hz) → AW E yX14_isExpressionRead cX14_isExpressionRead (Option.some Jvm.ClassFile.FieldType.boolean) 2 D (some (.int v0)) h hz 40 [(0, .ref a0)] [] h40j := by
      intro h40j hf
      rw [ek40] at hf
      clear ek40
      refine a_aload_n (q := 0) dX14_isExpressionRead_40 rfl rfl ?_
      refine a_dup dX14_isExpressionRead_41 rfl ?_
      obtain ⟨v11, e12, hf⟩ := obd hf
      refine o_gfI dX14_isExpressionRead_42 lk_X14_238 rfl e12 ?_
      refine a_iconst (v := 1) dX14_isExpressionRead_45 (by decide) ?_
      refine a_iadd dX14_isExpressionRead_46 ?_
      obtain ⟨h13, e14, hf⟩ := obd hf
      refine o_pfI dX14_isExpressionRead_47 lk_X14_238 (⟨_, rfl, Or.inl rfl⟩) rfl e14 ?_
      refine a_goto (tgt := 82) dX14_isExpressionRead_50 (by decide) ?_
      exact hj82 _ hf
    clear ek40
    refine a_if_ne (tgt := 40) dX14_isExpressionRead_31 (by decide) (fun c => ?_) (fun c => ?_)
    · have hf := ifn c hf
      exact AW.sub [1] rfl (hj40 _ hf)
    · have hf := ifp c hf
      refine a_iload_n (q := 0) dX14_isExpressionRead_34 rfl rfl ?_
      refine a_bipush (v := 35) dX14_isExpressionRead_35 (by decide) ?_
      refine a_icmp_ne (tgt := 53) dX14_isExpressionRead_37 (by decide) (fun c => ?_) (fun c => ?_)
      · have hf := ifn c hf
        refine a_aload_n (q := 1) dX14_isExpressionRead_53 rfl rfl ?_
        refine a_dup dX14_isExpressionRead_54 rfl ?_
        obtain ⟨v15, e16, hf⟩ := obd hf
        refine o_gfI dX14_isExpressionRead_55 lk_X14_238 rfl e16 ?_
        refine a_iload_n (q := 0) dX14_isExpressionRead_58 rfl rfl ?_
        refine a_bipush (v := 45) dX14_isExpressionRead_59 (by decide) ?_
        obtain ⟨k69, ek69, hf⟩ := jn_s hf
        have hj69 : ∀ (s69_0 : Int32) (h69j : hp), k69 s69_0 h69j = some (v0, hz) → AW E yX14_isExpressionRead cX14_isExpressionRead (Option.some Jvm.ClassFile.FieldType.boolean) 2 D (some (.int v0)) h hz 69 [(0, .ref a0)] [.int s69_0, .int v15, .ref a0] h69j := by
          intro s69_0 h69j hf
          rw [ek69] at hf
          clear ek69
          refine a_iadd dX14_isExpressionRead_69 ?_
          obtain ⟨h17, e18, hf⟩ := obd hf
          refine o_pfI dX14_isExpressionRead_70 lk_X14_238 (⟨_, rfl, Or.inl rfl⟩) rfl e18 ?_
          refine a_aload_n (q := 0) dX14_isExpressionRead_73 rfl rfl ?_
          obtain ⟨_, e22, hf⟩ := obd hf
          obtain ⟨v20, h21, e19, hf⟩ := ob2 hf
          refine a_callV (as := []) (np := 0) (ci := 13) (st := []) (sX14_isFigures E (D - 1) (by omega) e19) dX14_isExpressionRead_74 rfl (by omega) (by decide) cw_X14_279 ⟨wd_1383, ws_73⟩ rfl (ckT_s e22) rfl (Nat.le_of_ble_eq_true rfl) ?_
          refine a_if_ne (tgt := 82) dX14_isExpressionRead_77 (by decide) (fun c => ?_) (fun c => ?_)
          · have hf := ifn c hf
            exact hj82 _ hf
          · have hf := ifp c hf
            refine a_iconst (v := 0) dX14_isExpressionRead_80 (by decide) ?_
            obtain ⟨rfl, rfl⟩ := oc2 hf
            exact a_zreturn dX14_isExpressionRead_81 rfl (by decide)
        clear ek69
        refine a_icmp_ne (tgt := 68) dX14_isExpressionRead_61 (by decide) (fun c => ?_) (fun c => ?_)
        · have hf := ifn c hf
          refine a_iconst (v := 0) dX14_isExpressionRead_68 (by decide) ?_
          exact AW.sub [1] rfl (hj69 _ _ hf)
        · have hf := ifp c hf
          refine a_iconst (v := 1) dX14_isExpressionRead_64 (by decide) ?_
          refine a_goto (tgt := 69) dX14_isExpressionRead_65 (by decide) ?_
          exact AW.sub [1] rfl (hj69 _ _ hf)
      · have hf := ifp c hf
        exact AW.sub [1] rfl (hj40 _ hf)
  · have hf := ifp c hf
    refine a_aload_n (q := 1) dX14_isExpressionRead_11 rfl rfl ?_
    obtain ⟨_, e26, hf⟩ := obd hf
    obtain ⟨v24, h25, e23, hf⟩ := ob2 hf
    refine a_callV (as := []) (np := 0) (ci := 13) (st := []) (sX14_isTextRead E (D - 1) (by omega) e23) dX14_isExpressionRead_12 rfl (by omega) (by decide) cw_X14_283 ⟨wd_1373, ws_71⟩ rfl (ckT_s e26) rfl (Nat.le_of_ble_eq_true rfl) ?_
    refine a_if_ne (tgt := 82) dX14_isExpressionRead_15 (by decide) (fun c => ?_) (fun c => ?_)
    · have hf := ifn c hf
      exact AW.sub [1] rfl (hj82 _ hf)
    · have hf := ifp c hf
      refine a_iconst (v := 0) dX14_isExpressionRead_18 (by decide) ?_
      obtain ⟨rfl, rfl⟩ := oc2 hf
      exact a_zreturn dX14_isExpressionRead_19 rfl (by decide)
def fX14_isConditionRead (a0 : Nat) (h : hp) : Option (Int32 × hp) :=
  (ckT h a0 13).bind fun _ =>
  bd2 (fX14_here a0 h) fun v2 h3 =>
  if v2 = 33 then (
    (gfI h3 a0 13 14).bind fun v26 =>
    (pfI h3 a0 13 14 (v26 + 1)).bind fun h28 =>
    (ckT h28 a0 13).bind fun _ =>
    bd2 (fX14_isExpressionRead a0 h28) fun v31 h32 =>
    (zck v31).bind fun _ =>
    some (v31, h32)
  ) else (
    (ckT h3 a0 13).bind fun _ =>
    bd2 (fX14_isExpressionRead a0 h3) fun v6 h7 =>
    if v6 = 0 then (
      some (0, h7)
    ) else (
      (ckT h7 a0 13).bind fun _ =>
      bd2 (fX14_here a0 h7) fun v10 h11 =>
      jn (fun (h53j : hp) => (
        (gfI h53j a0 13 14).bind fun v13 =>
        (pfI h53j a0 13 14 (v13 + 1)).bind fun h15 =>
        (ckT h15 a0 13).bind fun _ =>
        bd2 (fX14_isExpressionRead a0 h15) fun v18 h19 =>
        (zck v18).bind fun _ =>
        some (v18, h19)
        : Option (Int32 × hp))) fun k53 =>
      if v10 = 60 then (
        k53 h11
      ) else (
        (ckT h11 a0 13).bind fun _ =>
        bd2 (fX14_here a0 h11) fun v23 h24 =>
        if v23 = 61 then (
          k53 h24
        ) else (
          some (1, h24)
        )
      )
    )
  )
set_option maxHeartbeats 4000000 in
set_option maxRecDepth 100000 in
theorem sX14_isConditionRead (E : gE) (D : Nat) (hD : 9 ≤ D) {a0 : Nat} {h hz : hp} {v0 : Int32} (hf : fX14_isConditionRead a0 h = some (v0, hz)) : MC E yX14_isConditionRead cX14_isConditionRead (Option.some Jvm.ClassFile.FieldType.boolean) 1 D [.ref a0] h (some (.int v0)) hz := by
  refine MC.of (by decide +kernel) (Nat.le_of_ble_eq_true rfl) rfl ?_
  unfold fX14_isConditionRead at hf
  show AW E yX14_isConditionRead cX14_isConditionRead (Option.some Jvm.ClassFile.FieldType.boolean) 1 D (some (.int v0)) h hz 0 [(0, .ref a0)] [] h
  refine a_aload_n (q := 0) dX14_isConditionRead_0 rfl rfl ?_
  obtain ⟨_, e4, hf⟩ := obd hf
  obtain ⟨v2, h3, e1, hf⟩ := ob2 hf
  refine a_callV (as := []) (np := 0) (ci := 13) (st := []) (sX14_here E (D - 1) (by omega) e1) dX14_isConditionRead_1 rfl (by omega) (by decide) cw_X14_247 ⟨wd_1349, ws_65⟩ rfl (ckT_s e4) rfl (Nat.le_of_ble_eq_true rfl) ?_
  refine a_bipush (v := 33) dX14_isConditionRead_4 (by decide) ?_
  refine a_icmp_ne (tgt := 24) dX14_isConditionRead_6 (by decide) (fun c => ?_) (fun c => ?_)
  · have hf := ifn c hf
    refine a_aload_n (q := 0) dX14_isConditionRead_24 rfl rfl ?_
    obtain ⟨_, e8, hf⟩ := obd hf
    obtain ⟨v6, h7, e5, hf⟩ := ob2 hf
    refine a_callV (as := []) (np := 0) (ci := 13) (st := []) (sX14_isExpressionRead E (D - 1) (by omega) e5) dX14_isConditionRead_25 rfl (by omega) (by decide) cw_X14_291 ⟨wd_1369, ws_70⟩ rfl (ckT_s e8) rfl (Nat.le_of_ble_eq_true rfl) ?_
    refine a_if_ne (tgt := 33) dX14_isConditionRead_28 (by decide) (fun c => ?_) (fun c => ?_)
    · have hf := ifn c hf
      refine a_aload_n (q := 0) dX14_isConditionRead_33 rfl rfl ?_
      obtain ⟨_, e12, hf⟩ := obd hf
      obtain ⟨v10, h11, e9, hf⟩ := ob2 hf
      refine a_callV (as := []) (np := 0) (ci := 13) (st := []) (sX14_here E (D - 1) (by omega) e9) dX14_isConditionRead_34 rfl (by omega) (by decide) cw_X14_247 ⟨wd_1349, ws_65⟩ rfl (ckT_s e12) rfl (Nat.le_of_ble_eq_true rfl) ?_
      refine a_bipush (v := 60) dX14_isConditionRead_37 (by decide) ?_
      obtain ⟨k53, ek53, hf⟩ := jn_s hf
      have hj53 : ∀ (h53j : hp), k53 h53j = some (v0, hz) → AW E yX14_isConditionRead cX14_isConditionRead (Option.some Jvm.ClassFile.FieldType.boolean) 1 D (some (.int v0)) h hz 53 [(0, .ref a0)] [] h53j := by
        intro h53j hf
        rw [ek53] at hf
        clear ek53
        refine a_aload_n (q := 0) dX14_isConditionRead_53 rfl rfl ?_
        refine a_dup dX14_isConditionRead_54 rfl ?_
        obtain ⟨v13, e14, hf⟩ := obd hf
        refine o_gfI dX14_isConditionRead_55 lk_X14_238 rfl e14 ?_
        refine a_iconst (v := 1) dX14_isConditionRead_58 (by decide) ?_
        refine a_iadd dX14_isConditionRead_59 ?_
        obtain ⟨h15, e16, hf⟩ := obd hf
        refine o_pfI dX14_isConditionRead_60 lk_X14_238 (⟨_, rfl, Or.inl rfl⟩) rfl e16 ?_
        refine a_aload_n (q := 0) dX14_isConditionRead_63 rfl rfl ?_
        obtain ⟨_, e20, hf⟩ := obd hf
        obtain ⟨v18, h19, e17, hf⟩ := ob2 hf
        refine a_callV (as := []) (np := 0) (ci := 13) (st := []) (sX14_isExpressionRead E (D - 1) (by omega) e17) dX14_isConditionRead_64 rfl (by omega) (by decide) cw_X14_291 ⟨wd_1369, ws_70⟩ rfl (ckT_s e20) rfl (Nat.le_of_ble_eq_true rfl) ?_
        obtain ⟨_, e21, hf⟩ := obd hf
        obtain ⟨rfl, rfl⟩ := oc2 hf
        exact a_zreturn dX14_isConditionRead_67 rfl (zck_s e21)
      clear ek53
      refine a_icmp_eq (tgt := 53) dX14_isConditionRead_39 (by decide) (fun c => ?_) (fun c => ?_)
      · have hf := ifp c hf
        exact hj53 _ hf
      · have hf := ifn c hf
        refine a_aload_n (q := 0) dX14_isConditionRead_42 rfl rfl ?_
        obtain ⟨_, e25, hf⟩ := obd hf
        obtain ⟨v23, h24, e22, hf⟩ := ob2 hf
        refine a_callV (as := []) (np := 0) (ci := 13) (st := []) (sX14_here E (D - 1) (by omega) e22) dX14_isConditionRead_43 rfl (by omega) (by decide) cw_X14_247 ⟨wd_1349, ws_65⟩ rfl (ckT_s e25) rfl (Nat.le_of_ble_eq_true rfl) ?_
        refine a_bipush (v := 61) dX14_isConditionRead_46 (by decide) ?_
        refine a_icmp_eq (tgt := 53) dX14_isConditionRead_48 (by decide) (fun c => ?_) (fun c => ?_)
        · have hf := ifp c hf
          exact hj53 _ hf
        · have hf := ifn c hf
          refine a_iconst (v := 1) dX14_isConditionRead_51 (by decide) ?_
          obtain ⟨rfl, rfl⟩ := oc2 hf
          exact a_zreturn dX14_isConditionRead_52 rfl (by decide)
    · have hf := ifp c hf
      refine a_iconst (v := 0) dX14_isConditionRead_31 (by decide) ?_
      obtain ⟨rfl, rfl⟩ := oc2 hf
      exact a_zreturn dX14_isConditionRead_32 rfl (by decide)
  · have hf := ifp c hf
    refine a_aload_n (q := 0) dX14_isConditionRead_9 rfl rfl ?_
    refine a_dup dX14_isConditionRead_10 rfl ?_
    obtain ⟨v26, e27, hf⟩ := obd hf
    refine o_gfI dX14_isConditionRead_11 lk_X14_238 rfl e27 ?_
    refine a_iconst (v := 1) dX14_isConditionRead_14 (by decide) ?_
    refine a_iadd dX14_isConditionRead_15 ?_
    obtain ⟨h28, e29, hf⟩ := obd hf
    refine o_pfI dX14_isConditionRead_16 lk_X14_238 (⟨_, rfl, Or.inl rfl⟩) rfl e29 ?_
    refine a_aload_n (q := 0) dX14_isConditionRead_19 rfl rfl ?_
    obtain ⟨_, e33, hf⟩ := obd hf
    obtain ⟨v31, h32, e30, hf⟩ := ob2 hf
    refine a_callV (as := []) (np := 0) (ci := 13) (st := []) (sX14_isExpressionRead E (D - 1) (by omega) e30) dX14_isConditionRead_20 rfl (by omega) (by decide) cw_X14_291 ⟨wd_1369, ws_70⟩ rfl (ckT_s e33) rfl (Nat.le_of_ble_eq_true rfl) ?_
    obtain ⟨_, e34, hf⟩ := obd hf
    obtain ⟨rfl, rfl⟩ := oc2 hf
    exact a_zreturn dX14_isConditionRead_23 rfl (zck_s e34)

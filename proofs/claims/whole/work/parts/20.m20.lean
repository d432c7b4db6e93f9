def fX14_areFiltersRead_l9 : Nat → Nat → hp → Option (Nat × hp)
  | 0, _, _ => none
  | n + 1, x0, h =>
    (ckT h x0 13).bind fun _ =>
    bd2 (fX14_here x0 h) fun v2 h3 =>
    if v2 = 124 then (
      (gfI h3 x0 13 14).bind fun v5 =>
      (pfI h3 x0 13 14 (v5 + 1)).bind fun h7 =>
      (ckT h7 x0 13).bind fun _ =>
      bd2 (fX14_isFilterRead x0 h7) fun v10 h11 =>
      if v10 = 0 then (
        some (0, h11)
      ) else (
        fX14_areFiltersRead_l9 n x0 h11
      )
    ) else (
      some (1, h3)
    )
def fX14_areFiltersRead (a0 : Nat) (h : hp) : Option (Int32 × hp) :=
  (ckT h a0 13).bind fun _ =>
  bd2 (fX14_isFilterRead a0 h) fun v2 h3 =>
  if v2 = 0 then (
    some (0, h3)
  ) else (
    bd2 (fX14_areFiltersRead_l9 FU a0 h3) fun t7 h6 =>
    if t7 = 0 then (
      some (0, h6)
    ) else
    if t7 = 1 then (
      (gfI h6 a0 13 14).bind fun v8 =>
      (gfI h6 a0 13 13).bind fun v10 =>
      if v8 = v10 then (
        some (1, h6)
      ) else (
        (gfI h6 a0 13 14).bind fun v12 =>
        (ckT h6 a0 13).bind fun _ =>
        bd2 (fX14_fails a0 v12 h6) fun v15 h16 =>
        if v15 = 0 then (
          some (0, h16)
        ) else (
          some (1, h16)
        )
      )
    ) else none
  )
set_option maxHeartbeats 4000000 in
set_option maxRecDepth 100000 in
theorem sX14_areFiltersRead_l9 (E : gE) (D : Nat) (hD : 8 ≤ D) {rz : Option Value} {h0 hz : hp} : ∀ (n : Nat) (x0 : Nat) (h : hp) (tq : Nat) (hq : hp), fX14_areFiltersRead_l9 n x0 h = some (tq, hq) → (tq = 0 → AW E yX14_areFiltersRead cX14_areFiltersRead (Option.some Jvm.ClassFile.FieldType.boolean) 1 D rz h0 hz 35 [] [] hq) → (tq = 1 → AW E yX14_areFiltersRead cX14_areFiltersRead (Option.some Jvm.ClassFile.FieldType.boolean) 1 D rz h0 hz 37 [(0, .ref x0)] [] hq) → AW E yX14_areFiltersRead cX14_areFiltersRead (Option.some Jvm.ClassFile.FieldType.boolean) 1 D rz h0 hz 9 [(0, .ref x0)] [] h := by
  intro n
  induction n with
  | zero =>
    intro x0 h tq hq hf _ _
    rw [fX14_areFiltersRead_l9] at hf
    cases hf
  | succ n ih =>
    intro x0 h tq hq hf hk0 hk1
    rw [fX14_areFiltersRead_l9] at hf
    refine a_aload_n (q := 0) dX14_areFiltersRead_9 rfl rfl ?_
    obtain ⟨_, e4, hf⟩ := obd hf
    obtain ⟨v2, h3, e1, hf⟩ := ob2 hf
    refine a_callV (as := []) (np := 0) (ci := 13) (st := []) (sX14_here E (D - 1) (by omega) e1) dX14_areFiltersRead_10 rfl (by omega) (by decide) cw_X14_247 ⟨wd_1349, ws_65⟩ rfl (ckT_s e4) rfl (Nat.le_of_ble_eq_true rfl) ?_
    refine a_bipush (v := 124) dX14_areFiltersRead_13 (by decide) ?_
    refine a_icmp_ne (tgt := 37) dX14_areFiltersRead_15 (by decide) (fun c => ?_) (fun c => ?_)
    · have hf := ifn c hf
      obtain ⟨rfl, rfl⟩ := oc2 hf
      exact hk1 rfl
    · have hf := ifp c hf
      refine a_aload_n (q := 0) dX14_areFiltersRead_18 rfl rfl ?_
      refine a_dup dX14_areFiltersRead_19 rfl ?_
      obtain ⟨v5, e6, hf⟩ := obd hf
      refine o_gfI dX14_areFiltersRead_20 lk_X14_238 rfl e6 ?_
      refine a_iconst (v := 1) dX14_areFiltersRead_23 (by decide) ?_
      refine a_iadd dX14_areFiltersRead_24 ?_
      obtain ⟨h7, e8, hf⟩ := obd hf
      refine o_pfI dX14_areFiltersRead_25 lk_X14_238 (⟨_, rfl, Or.inl rfl⟩) rfl e8 ?_
      refine a_aload_n (q := 0) dX14_areFiltersRead_28 rfl rfl ?_
      obtain ⟨_, e12, hf⟩ := obd hf
      obtain ⟨v10, h11, e9, hf⟩ := ob2 hf
      refine a_callV (as := []) (np := 0) (ci := 13) (st := []) (sX14_isFilterRead E (D - 1) (by omega) e9) dX14_areFiltersRead_29 rfl (by omega) (by decide) cw_X14_288 ⟨wd_1389, ws_74⟩ rfl (ckT_s e12) rfl (Nat.le_of_ble_eq_true rfl) ?_
      refine a_if_ne (tgt := 9) dX14_areFiltersRead_32 (by decide) (fun c => ?_) (fun c => ?_)
      · have hf := ifn c hf
        exact (ih _ _ _ _ hf hk0 hk1)
      · have hf := ifp c hf
        obtain ⟨rfl, rfl⟩ := oc2 hf
        exact AW.sub [] rfl (hk0 rfl)
set_option maxHeartbeats 4000000 in
set_option maxRecDepth 100000 in
theorem sX14_areFiltersRead (E : gE) (D : Nat) (hD : 8 ≤ D) {a0 : Nat} {h hz : hp} {v0 : Int32} (hf : fX14_areFiltersRead a0 h = some (v0, hz)) : MC E yX14_areFiltersRead cX14_areFiltersRead (Option.some Jvm.ClassFile.FieldType.boolean) 1 D [.ref a0] h (some (.int v0)) hz := by
  refine MC.of (by decide +kernel) (Nat.le_of_ble_eq_true rfl) rfl ?_
  unfold fX14_areFiltersRead at hf
  show AW E yX14_areFiltersRead cX14_areFiltersRead (Option.some Jvm.ClassFile.FieldType.boolean) 1 D (some (.int v0)) h hz 0 [(0, .ref a0)] [] h
  refine a_aload_n (q := 0) dX14_areFiltersRead_0 rfl rfl ?_
  obtain ⟨_, e4, hf⟩ := obd hf
  obtain ⟨v2, h3, e1, hf⟩ := ob2 hf
  refine a_callV (as := []) (np := 0) (ci := 13) (st := []) (sX14_isFilterRead E (D - 1) (by omega) e1) dX14_areFiltersRead_1 rfl (by omega) (by decide) cw_X14_288 ⟨wd_1389, ws_74⟩ rfl (ckT_s e4) rfl (Nat.le_of_ble_eq_true rfl) ?_
  refine a_if_ne (tgt := 9) dX14_areFiltersRead_4 (by decide) (fun c => ?_) (fun c => ?_)
  · have hf := ifn c hf
    obtain ⟨t7, h6, e5, hf⟩ := ob2 hf
    refine sX14_areFiltersRead_l9 E D hD _ _ _ _ _ e5 (fun c => ?_) (fun c => ?_)
    · have hf := ifp c hf
      refine a_iconst (v := 0) dX14_areFiltersRead_35 (by decide) ?_
      obtain ⟨rfl, rfl⟩ := oc2 hf
      exact a_zreturn dX14_areFiltersRead_36 rfl (by decide)
    · have hf := ifn (by rw [c]; decide) hf
      have hf := ifp c hf
      refine a_aload_n (q := 0) dX14_areFiltersRead_37 rfl rfl ?_
      obtain ⟨v8, e9, hf⟩ := obd hf
      refine o_gfI dX14_areFiltersRead_38 lk_X14_238 rfl e9 ?_
      refine a_aload_n (q := 0) dX14_areFiltersRead_41 rfl rfl ?_
      obtain ⟨v10, e11, hf⟩ := obd hf
      refine o_gfI dX14_areFiltersRead_42 lk_X14_235 rfl e11 ?_
      refine a_icmp_eq (tgt := 59) dX14_areFiltersRead_45 (by decide) (fun c => ?_) (fun c => ?_)
      · have hf := ifp c hf
        refine a_iconst (v := 1) dX14_areFiltersRead_59 (by decide) ?_
        refine a_goto (tgt := 64) dX14_areFiltersRead_60 (by decide) ?_
        obtain ⟨rfl, rfl⟩ := oc2 hf
        exact a_zreturn dX14_areFiltersRead_64 rfl (by decide)
      · have hf := ifn c hf
        refine a_aload_n (q := 0) dX14_areFiltersRead_48 rfl rfl ?_
        refine a_aload_n (q := 0) dX14_areFiltersRead_49 rfl rfl ?_
        obtain ⟨v12, e13, hf⟩ := obd hf
        refine o_gfI dX14_areFiltersRead_50 lk_X14_238 rfl e13 ?_
        obtain ⟨_, e17, hf⟩ := obd hf
        obtain ⟨v15, h16, e14, hf⟩ := ob2 hf
        refine a_callV (as := [.int v12]) (np := 1) (ci := 13) (st := []) (sX14_fails E (D - 1) (by omega) e14) dX14_areFiltersRead_53 rfl (by omega) (by decide) cw_X14_251 ⟨wd_1353, ws_66⟩ rfl (ckT_s e17) rfl (Nat.le_of_ble_eq_true rfl) ?_
        refine a_if_eq (tgt := 63) dX14_areFiltersRead_56 (by decide) (fun c => ?_) (fun c => ?_)
        · have hf := ifp c hf
          refine a_iconst (v := 0) dX14_areFiltersRead_63 (by decide) ?_
          obtain ⟨rfl, rfl⟩ := oc2 hf
          exact a_zreturn dX14_areFiltersRead_64 rfl (by decide)
        · have hf := ifn c hf
          refine a_iconst (v := 1) dX14_areFiltersRead_59 (by decide) ?_
          refine a_goto (tgt := 64) dX14_areFiltersRead_60 (by decide) ?_
          obtain ⟨rfl, rfl⟩ := oc2 hf
          exact a_zreturn dX14_areFiltersRead_64 rfl (by decide)
  · have hf := ifp c hf
    refine a_iconst (v := 0) dX14_areFiltersRead_7 (by decide) ?_
    obtain ⟨rfl, rfl⟩ := oc2 hf
    exact a_zreturn dX14_areFiltersRead_8 rfl (by decide)
def fX14_filtersOne_l72 : Nat → Nat → Int32 → Int32 → hp → Option (Int32 × hp)
  | 0, _, _, _, _ => none
  | n + 1, x0, x2, x3, h =>
    (ckT h x0 13).bind fun _ =>
    bd2 (fX14_here x0 h) fun v2 h3 =>
    bd2 (fX14_isIn (v2.toInt64) 48 57 h3) fun v6 h7 =>
    if v6 = 0 then (
      some (x3, h7)
    ) else (
      (ckT h7 x0 13).bind fun _ =>
      bd2 (fX14_here x0 h7) fun v9 h10 =>
      (gfI h10 x0 13 14).bind fun v12 =>
      (pfI h10 x0 13 14 (v12 + 1)).bind fun h14 =>
      fX14_filtersOne_l72 n x0 x2 (((10 * x3) + v9) - 48) h14
    )
def fX14_filtersOne_l7 : Nat → Nat → Int32 → hp → Option (Int32 × hp)
  | 0, _, _, _ => none
  | n + 1, x0, x1, h =>
    if x1 = 0 then (
      (gfI h x0 13 14).bind fun v1 =>
      (gfI h x0 13 13).bind fun v3 =>
      if v3 ≤ v1 then (
        some (x1, h)
      ) else (
        (gfI h x0 13 14).bind fun v5 =>
        (ckT h x0 13).bind fun _ =>
        bd2 (fX14_here x0 h) fun v8 h9 =>
        jn (fun (s41_0 : Int32) (h41j : hp) => (
          (pfI h41j x0 13 14 (v5 + s41_0)).bind fun h11 =>
          (ckT h11 x0 13).bind fun _ =>
          bd2 (fX14_nameHere x0 h11) fun v14 h15 =>
          (gfI h15 x0 13 14).bind fun v17 =>
          jn (fun (s68_0 : Int32) (h68j : hp) => (
            (pfI h68j x0 13 14 (v17 + s68_0)).bind fun h19 =>
            bd2 (fX14_filtersOne_l72 FU x0 v14 0 h19) fun v23 h22 =>
            (ckT h22 x0 13).bind fun _ =>
            bd2 (fX14_filtered x0 8 v14 v23 h22) fun v25 h26 =>
            fX14_filtersOne_l7 n x0 v25 h26
            : Option (Int32 × hp))) fun k68 =>
          if v14 < 13 then (
            k68 0 h15
          ) else (
            k68 1 h15
          )
          : Option (Int32 × hp))) fun k41 =>
        if v8 = 124 then (
          k41 1 h9
        ) else (
          k41 0 h9
        )
      )
    ) else (
      some (x1, h)
    )
def fX14_filtersOne (a0 : Nat) (h : hp) : Option (Int32 × hp) :=
  (pfI h a0 13 14 0).bind fun h1 =>
  bd2 (fX14_filtersOne_l7 FU a0 0 h1) fun v5 h4 =>
  some (v5, h4)
set_option maxHeartbeats 4000000 in
set_option maxRecDepth 100000 in
theorem sX14_filtersOne_l72 (E : gE) (D : Nat) (hD : 7 ≤ D) {rz : Option Value} {h0 hz : hp} : ∀ (n : Nat) (x0 : Nat) (x2 : Int32) (x3 : Int32) (h : hp) (m3 : Int32) (hq : hp), fX14_filtersOne_l72 n x0 x2 x3 h = some (m3, hq) → (AW E yX14_filtersOne cX14_filtersOne (Option.some Jvm.ClassFile.FieldType.int) 4 D rz h0 hz 115 [(0, .ref x0), (2, .int x2), (3, .int m3)] [] hq) → AW E yX14_filtersOne cX14_filtersOne (Option.some Jvm.ClassFile.FieldType.int) 4 D rz h0 hz 72 [(0, .ref x0), (2, .int x2), (3, .int x3)] [] h := by
  intro n
  induction n with
  | zero =>
    intro x0 x2 x3 h m3 hq hf _
    rw [fX14_filtersOne_l72] at hf
    cases hf
  | succ n ih =>
    intro x0 x2 x3 h m3 hq hf hk0
    rw [fX14_filtersOne_l72] at hf
    refine a_aload_n (q := 0) dX14_filtersOne_72 rfl rfl ?_
    obtain ⟨_, e4, hf⟩ := obd hf
    obtain ⟨v2, h3, e1, hf⟩ := ob2 hf
    refine a_callV (as := []) (np := 0) (ci := 13) (st := []) (sX14_here E (D - 1) (by omega) e1) dX14_filtersOne_73 rfl (by omega) (by decide) cw_X14_247 ⟨wd_1349, ws_65⟩ rfl (ckT_s e4) rfl (Nat.le_of_ble_eq_true rfl) ?_
    refine a_i2l dX14_filtersOne_76 rfl ?_
    refine a_ldc2 (v := 48) dX14_filtersOne_77 wd_1385 ?_
    refine a_ldc2 (v := 57) dX14_filtersOne_80 wd_1386 ?_
    obtain ⟨v6, h7, e5, hf⟩ := ob2 hf
    refine a_callS (as := [.long (v2.toInt64), .long 48, .long 57]) (np := 3) (st := []) (sX14_isIn E (D - 1) (by omega) e5) dX14_filtersOne_83 rfl (by omega) (by decide) cw_X14_155 wd_1324 rfl (Nat.le_of_ble_eq_true rfl) ?_
    refine a_if_eq (tgt := 115) dX14_filtersOne_86 (by decide) (fun c => ?_) (fun c => ?_)
    · have hf := ifp c hf
      obtain ⟨rfl, rfl⟩ := oc2 hf
      exact hk0
    · have hf := ifn c hf
      refine a_bipush (v := 10) dX14_filtersOne_89 (by decide) ?_
      refine a_iload_n (q := 2) dX14_filtersOne_91 rfl rfl ?_
      refine a_imul dX14_filtersOne_92 ?_
      refine a_aload_n (q := 0) dX14_filtersOne_93 rfl rfl ?_
      obtain ⟨_, e11, hf⟩ := obd hf
      obtain ⟨v9, h10, e8, hf⟩ := ob2 hf
      refine a_callV (as := []) (np := 0) (ci := 13) (st := [.int (10 * x3)]) (sX14_here E (D - 1) (by omega) e8) dX14_filtersOne_94 rfl (by omega) (by decide) cw_X14_247 ⟨wd_1349, ws_65⟩ rfl (ckT_s e11) rfl (Nat.le_of_ble_eq_true rfl) ?_
      refine a_iadd dX14_filtersOne_97 ?_
      refine a_bipush (v := 48) dX14_filtersOne_98 (by decide) ?_
      refine a_isub dX14_filtersOne_100 ?_
      refine a_istore_n (lv1 := [(3, .int (((10 * x3) + v9) - 48)), (0, .ref x0), (2, .int x2)]) dX14_filtersOne_101 rfl (by decide) rfl ?_
      refine a_aload_n (q := 1) dX14_filtersOne_102 rfl rfl ?_
      refine a_dup dX14_filtersOne_103 rfl ?_
      obtain ⟨v12, e13, hf⟩ := obd hf
      refine o_gfI dX14_filtersOne_104 lk_X14_238 rfl e13 ?_
      refine a_iconst (v := 1) dX14_filtersOne_107 (by decide) ?_
      refine a_iadd dX14_filtersOne_108 ?_
      obtain ⟨h14, e15, hf⟩ := obd hf
      refine o_pfI dX14_filtersOne_109 lk_X14_238 (⟨_, rfl, Or.inl rfl⟩) rfl e15 ?_
      refine a_goto (tgt := 72) dX14_filtersOne_112 (by decide) ?_
      exact AW.sub [1, 2, 0] rfl (ih _ _ _ _ _ _ hf hk0)
set_option maxHeartbeats 4000000 in
set_option maxRecDepth 100000 in
theorem sX14_filtersOne_l7 (E : gE) (D : Nat) (hD : 7 ≤ D) {rz : Option Value} {h0 hz : hp} : ∀ (n : Nat) (x0 : Nat) (x1 : Int32) (h : hp) (m1 : Int32) (hq : hp), fX14_filtersOne_l7 n x0 x1 h = some (m1, hq) → (AW E yX14_filtersOne cX14_filtersOne (Option.some Jvm.ClassFile.FieldType.int) 4 D rz h0 hz 127 [(1, .int m1)] [] hq) → AW E yX14_filtersOne cX14_filtersOne (Option.some Jvm.ClassFile.FieldType.int) 4 D rz h0 hz 7 [(0, .ref x0), (1, .int x1)] [] h := by
  intro n
  induction n with
  | zero =>
    intro x0 x1 h m1 hq hf _
    rw [fX14_filtersOne_l7] at hf
    cases hf
  | succ n ih =>
    intro x0 x1 h m1 hq hf hk0
    rw [fX14_filtersOne_l7] at hf
    refine a_iload_n (q := 1) dX14_filtersOne_7 rfl rfl ?_
    refine a_if_ne (tgt := 127) dX14_filtersOne_8 (by decide) (fun c => ?_) (fun c => ?_)
    · have hf := ifn c hf
      obtain ⟨rfl, rfl⟩ := oc2 hf
      exact AW.sub [1] rfl (hk0)
    · have hf := ifp c hf
      refine a_aload_n (q := 0) dX14_filtersOne_11 rfl rfl ?_
      obtain ⟨v1, e2, hf⟩ := obd hf
      refine o_gfI dX14_filtersOne_12 lk_X14_238 rfl e2 ?_
      refine a_aload_n (q := 0) dX14_filtersOne_15 rfl rfl ?_
      obtain ⟨v3, e4, hf⟩ := obd hf
      refine o_gfI dX14_filtersOne_16 lk_X14_235 rfl e4 ?_
      refine a_icmp_ge (tgt := 127) dX14_filtersOne_19 (by decide) (fun c => ?_) (fun c => ?_)
      · have hf := ifp c hf
        obtain ⟨rfl, rfl⟩ := oc2 hf
        exact AW.sub [1] rfl (hk0)
      · have hf := ifn c hf
        refine a_aload_n (q := 0) dX14_filtersOne_22 rfl rfl ?_
        refine a_dup dX14_filtersOne_23 rfl ?_
        obtain ⟨v5, e6, hf⟩ := obd hf
        refine o_gfI dX14_filtersOne_24 lk_X14_238 rfl e6 ?_
        refine a_aload_n (q := 0) dX14_filtersOne_27 rfl rfl ?_
        obtain ⟨_, e10, hf⟩ := obd hf
        obtain ⟨v8, h9, e7, hf⟩ := ob2 hf
        refine a_callV (as := []) (np := 0) (ci := 13) (st := [.int v5, .ref x0]) (sX14_here E (D - 1) (by omega) e7) dX14_filtersOne_28 rfl (by omega) (by decide) cw_X14_247 ⟨wd_1349, ws_65⟩ rfl (ckT_s e10) rfl (Nat.le_of_ble_eq_true rfl) ?_
        refine a_bipush (v := 124) dX14_filtersOne_31 (by decide) ?_
        obtain ⟨k41, ek41, hf⟩ := jn_s hf
        have hj41 : ∀ (s41_0 : Int32) (h41j : hp), k41 s41_0 h41j = some (m1, hq) → AW E yX14_filtersOne cX14_filtersOne (Option.some Jvm.ClassFile.FieldType.int) 4 D rz h0 hz 41 [(0, .ref x0)] [.int s41_0, .int v5, .ref x0] h41j := by
          intro s41_0 h41j hf
          rw [ek41] at hf
          clear ek41
          refine a_iadd dX14_filtersOne_41 ?_
          obtain ⟨h11, e12, hf⟩ := obd hf
          refine o_pfI dX14_filtersOne_42 lk_X14_238 (⟨_, rfl, Or.inl rfl⟩) rfl e12 ?_
          refine a_aload_n (q := 0) dX14_filtersOne_45 rfl rfl ?_
          obtain ⟨_, e16, hf⟩ := obd hf
          obtain ⟨v14, h15, e13, hf⟩ := ob2 hf
          refine a_callV (as := []) (np := 0) (ci := 13) (st := []) (sX14_nameHere E (D - 1) (by omega) e13) dX14_filtersOne_46 rfl (by omega) (by decide) cw_X14_273 ⟨wd_1393, ws_75⟩ rfl (ckT_s e16) rfl (Nat.le_of_ble_eq_true rfl) ?_
          refine a_istore_n (lv1 := [(2, .int v14), (0, .ref x0)]) dX14_filtersOne_49 rfl (by decide) rfl ?_
          refine a_iconst (v := 0) dX14_filtersOne_50 (by decide) ?_
          refine a_istore_n (lv1 := [(3, .int 0), (2, .int v14), (0, .ref x0)]) dX14_filtersOne_51 rfl (by decide) rfl ?_
          refine a_aload_n (q := 2) dX14_filtersOne_52 rfl rfl ?_
          refine a_dup dX14_filtersOne_53 rfl ?_
          obtain ⟨v17, e18, hf⟩ := obd hf
          refine o_gfI dX14_filtersOne_54 lk_X14_238 rfl e18 ?_
          refine a_iload_n (q := 1) dX14_filtersOne_57 rfl rfl ?_
          refine a_bipush (v := 13) dX14_filtersOne_58 (by decide) ?_
          obtain ⟨k68, ek68, hf⟩ := jn_s hf
          have hj68 : ∀ (s68_0 : Int32) (h68j : hp), k68 s68_0 h68j = some (m1, hq) → AW E yX14_filtersOne cX14_filtersOne (Option.some Jvm.ClassFile.FieldType.int) 4 D rz h0 hz 68 [(0, .ref x0), (2, .int v14), (3, .int 0)] [.int s68_0, .int v17, .ref x0] h68j := by
            intro s68_0 h68j hf
            rw [ek68] at hf
            clear ek68
            refine a_iadd dX14_filtersOne_68 ?_
            obtain ⟨h19, e20, hf⟩ := obd hf
            refine o_pfI dX14_filtersOne_69 lk_X14_238 (⟨_, rfl, Or.inl rfl⟩) rfl e20 ?_
            obtain ⟨v23, h22, e21, hf⟩ := ob2 hf
            refine sX14_filtersOne_l72 E D hD _ _ _ _ _ _ _ e21 ?_
            refine a_aload_n (q := 0) dX14_filtersOne_115 rfl rfl ?_
            refine a_bipush (v := 8) dX14_filtersOne_116 (by decide) ?_
            refine a_iload_n (q := 1) dX14_filtersOne_118 rfl rfl ?_
            refine a_iload_n (q := 2) dX14_filtersOne_119 rfl rfl ?_
            obtain ⟨_, e27, hf⟩ := obd hf
            obtain ⟨v25, h26, e24, hf⟩ := ob2 hf
            refine a_callV (as := [.int 8, .int v14, .int v23]) (np := 3) (ci := 13) (st := []) (sX14_filtered E (D - 1) (by omega) e24) dX14_filtersOne_120 rfl (by omega) (by decide) cw_X14_359 ⟨wd_1523, ws_102⟩ rfl (ckT_s e27) rfl (Nat.le_of_ble_eq_true rfl) ?_
            refine a_istore_n (lv1 := [(1, .int v25), (0, .ref x0), (2, .int v14), (3, .int v23)]) dX14_filtersOne_123 rfl (by decide) rfl ?_
            refine a_goto (tgt := 7) dX14_filtersOne_124 (by decide) ?_
            exact AW.sub [1, 0] rfl (ih _ _ _ _ _ hf hk0)
          clear ek68
          refine a_icmp_lt (tgt := 67) dX14_filtersOne_60 (by decide) (fun c => ?_) (fun c => ?_)
          · have hf := ifp c hf
            refine a_iconst (v := 0) dX14_filtersOne_67 (by decide) ?_
            exact AW.sub [2, 1, 0] rfl (hj68 _ _ hf)
          · have hf := ifn c hf
            refine a_iconst (v := 1) dX14_filtersOne_63 (by decide) ?_
            refine a_goto (tgt := 68) dX14_filtersOne_64 (by decide) ?_
            exact AW.sub [2, 1, 0] rfl (hj68 _ _ hf)
        clear ek41
        refine a_icmp_ne (tgt := 40) dX14_filtersOne_33 (by decide) (fun c => ?_) (fun c => ?_)
        · have hf := ifn c hf
          refine a_iconst (v := 0) dX14_filtersOne_40 (by decide) ?_
          exact AW.sub [0] rfl (hj41 _ _ hf)
        · have hf := ifp c hf
          refine a_iconst (v := 1) dX14_filtersOne_36 (by decide) ?_
          refine a_goto (tgt := 41) dX14_filtersOne_37 (by decide) ?_
          exact AW.sub [0] rfl (hj41 _ _ hf)
set_option maxHeartbeats 4000000 in
set_option maxRecDepth 100000 in
theorem sX14_filtersOne (E : gE) (D : Nat) (hD : 7 ≤ D) {a0 : Nat} {h hz : hp} {v0 : Int32} (hf : fX14_filtersOne a0 h = some (v0, hz)) : MC E yX14_filtersOne cX14_filtersOne (Option.some Jvm.ClassFile.FieldType.int) 4 D [.ref a0] h (some (.int v0)) hz := by
  refine MC.of (by decide +kernel) (Nat.le_of_ble_eq_true rfl) rfl ?_
  unfold fX14_filtersOne at hf
  show AW E yX14_filtersOne cX14_filtersOne (Option.some Jvm.ClassFile.FieldType.int) 4 D (some (.int v0)) h hz 0 [(0, .ref a0)] [] h
  refine a_iconst (v := 0) dX14_filtersOne_0 (by decide) ?_
  refine a_istore_n (lv1 := [(1, .int 0), (0, .ref a0)]) dX14_filtersOne_1 rfl (by decide) rfl ?_
  refine a_aload_n (q := 1) dX14_filtersOne_2 rfl rfl ?_
  refine a_iconst (v := 0) dX14_filtersOne_3 (by decide) ?_
  obtain ⟨h1, e2, hf⟩ := obd hf
  refine o_pfI dX14_filtersOne_4 lk_X14_238 (⟨_, rfl, Or.inl rfl⟩) rfl e2 ?_
  obtain ⟨v5, h4, e3, hf⟩ := ob2 hf
  refine AW.sub [1, 0] rfl (sX14_filtersOne_l7 E D hD _ _ _ _ _ _ e3 ?_)
  refine a_iload_n (q := 0) dX14_filtersOne_127 rfl rfl ?_
  obtain ⟨rfl, rfl⟩ := oc2 hf
  exact a_ireturn dX14_filtersOne_128 rfl
def fX14_filter (a0 : Nat) (a1 : Int32) (h : hp) : Option (Int32 × hp) :=
  bd2 (fX14_isVariable a1 h) fun v2 h3 =>
  if v2 = 0 then (
    some ((-1), h3)
  ) else (
    (gfR h3 a0 13 7).bind fun v4 =>
    (gfI h3 a0 13 10).bind fun v6 =>
    (ckT h3 a0 13).bind fun _ =>
    (fX14_reads a0 v4 0 v6 h3).bind fun h9 =>
    (pfI h9 a0 13 10 0).bind fun h11 =>
    (ckT h11 a0 13).bind fun _ =>
    bd2 (fX14_areFiltersRead a0 h11) fun v14 h15 =>
    if v14 = 0 then (
      (gfI h15 a0 13 15).bind fun v36 =>
      some (((-100) - v36), h15)
    ) else (
      (ckT h15 a0 13).bind fun _ =>
      (fX14_copies a0 a1 8 h15).bind fun h18 =>
      (ckT h18 a0 13).bind fun _ =>
      bd2 (fX14_filtersOne a0 h18) fun v21 h22 =>
      if v21 = 0 then (
        (ckT h22 a0 13).bind fun _ =>
        (fX14_copies a0 8 a1 h22).bind fun h25 =>
        (gfR h25 a0 13 0).bind fun v27 =>
        (alI h25 v27 a1).bind fun v29 =>
        some (v29, h25)
      ) else (
        (pfI h22 a0 13 47 0).bind fun h31 =>
        (ckT h31 a0 13).bind fun _ =>
        (fX14_links a0 (-1) 0 v21 h31).bind fun h34 =>
        some ((-20), h34)
      )
    )
  )
set_option maxHeartbeats 4000000 in
set_option maxRecDepth 100000 in
theorem sX14_filter (E : gE) (D : Nat) (hD : 9 ≤ D) {a0 : Nat} {a1 : Int32} {h hz : hp} {v0 : Int32} (hf : fX14_filter a0 a1 h = some (v0, hz)) : MC E yX14_filter cX14_filter (Option.some Jvm.ClassFile.FieldType.int) 3 D [.ref a0, .int a1] h (some (.int v0)) hz := by
  refine MC.of (by decide +kernel) (Nat.le_of_ble_eq_true rfl) rfl ?_
  unfold fX14_filter at hf
  show AW E yX14_filter cX14_filter (Option.some Jvm.ClassFile.FieldType.int) 3 D (some (.int v0)) h hz 0 [(0, .ref a0), (1, .int a1)] [] h
  refine a_iload_n (q := 1) dX14_filter_0 rfl rfl ?_
  obtain ⟨v2, h3, e1, hf⟩ := ob2 hf
  refine a_callS (as := [.int a1]) (np := 1) (st := []) (sX14_isVariable E (D - 1) (by omega) e1) dX14_filter_1 rfl (by omega) (by decide) cw_X14_528 wd_1737 rfl (Nat.le_of_ble_eq_true rfl) ?_
  refine a_if_ne (tgt := 9) dX14_filter_4 (by decide) (fun c => ?_) (fun c => ?_)
  · have hf := ifn c hf
    refine a_aload_n (q := 0) dX14_filter_9 rfl rfl ?_
    refine a_aload_n (q := 0) dX14_filter_10 rfl rfl ?_
    obtain ⟨v4, e5, hf⟩ := obd hf
    refine o_gfR dX14_filter_11 lk_X14_31 rfl e5 ?_
    refine a_iconst (v := 0) dX14_filter_14 (by decide) ?_
    refine a_aload_n (q := 0) dX14_filter_15 rfl rfl ?_
    obtain ⟨v6, e7, hf⟩ := obd hf
    refine o_gfI dX14_filter_16 lk_X14_229 rfl e7 ?_
    obtain ⟨_, e10, hf⟩ := obd hf
    obtain ⟨h9, e8, hf⟩ := obd hf
    refine a_callV (as := [.ref v4, .int 0, .int v6]) (np := 3) (ci := 13) (st := []) (sX14_reads E (D - 1) (by omega) e8) dX14_filter_19 rfl (by omega) (by decide) cw_X14_317 ⟨wd_1337, ws_62⟩ rfl (ckT_s e10) rfl (Nat.le_of_ble_eq_true rfl) ?_
    refine a_aload_n (q := 0) dX14_filter_22 rfl rfl ?_
    refine a_iconst (v := 0) dX14_filter_23 (by decide) ?_
    obtain ⟨h11, e12, hf⟩ := obd hf
    refine o_pfI dX14_filter_24 lk_X14_229 (⟨_, rfl, Or.inl rfl⟩) rfl e12 ?_
    refine a_aload_n (q := 0) dX14_filter_27 rfl rfl ?_
    obtain ⟨_, e16, hf⟩ := obd hf
    obtain ⟨v14, h15, e13, hf⟩ := ob2 hf
    refine a_callV (as := []) (np := 0) (ci := 13) (st := []) (sX14_areFiltersRead E (D - 1) (by omega) e13) dX14_filter_28 rfl (by omega) (by decide) cw_X14_531 ⟨wd_1774, ws_139⟩ rfl (ckT_s e16) rfl (Nat.le_of_ble_eq_true rfl) ?_
    refine a_if_ne (tgt := 42) dX14_filter_31 (by decide) (fun c => ?_) (fun c => ?_)
    · have hf := ifn c hf
      refine a_aload_n (q := 0) dX14_filter_42 rfl rfl ?_
      refine a_iload_n (q := 1) dX14_filter_43 rfl rfl ?_
      refine a_bipush (v := 8) dX14_filter_44 (by decide) ?_
      obtain ⟨_, e19, hf⟩ := obd hf
      obtain ⟨h18, e17, hf⟩ := obd hf
      refine a_callV (as := [.int a1, .int 8]) (np := 2) (ci := 13) (st := []) (sX14_copies E (D - 1) (by omega) e17) dX14_filter_46 rfl (by omega) (by decide) cw_X14_347 ⟨wd_1511, ws_99⟩ rfl (ckT_s e19) rfl (Nat.le_of_ble_eq_true rfl) ?_
      refine a_aload_n (q := 0) dX14_filter_49 rfl rfl ?_
      obtain ⟨_, e23, hf⟩ := obd hf
      obtain ⟨v21, h22, e20, hf⟩ := ob2 hf
      refine a_callV (as := []) (np := 0) (ci := 13) (st := []) (sX14_filtersOne E (D - 1) (by omega) e20) dX14_filter_50 rfl (by omega) (by decide) cw_X14_534 ⟨wd_1778, ws_140⟩ rfl (ckT_s e23) rfl (Nat.le_of_ble_eq_true rfl) ?_
      refine a_istore_n (lv1 := [(2, .int v21), (0, .ref a0), (1, .int a1)]) dX14_filter_53 rfl (by decide) rfl ?_
      refine a_iload_n (q := 0) dX14_filter_54 rfl rfl ?_
      refine a_if_eq (tgt := 73) dX14_filter_55 (by decide) (fun c => ?_) (fun c => ?_)
      · have hf := ifp c hf
        refine a_aload_n (q := 1) dX14_filter_73 rfl rfl ?_
        refine a_bipush (v := 8) dX14_filter_74 (by decide) ?_
        refine a_iload_n (q := 2) dX14_filter_76 rfl rfl ?_
        obtain ⟨_, e26, hf⟩ := obd hf
        obtain ⟨h25, e24, hf⟩ := obd hf
        refine a_callV (as := [.int 8, .int a1]) (np := 2) (ci := 13) (st := []) (sX14_copies E (D - 1) (by omega) e24) dX14_filter_77 rfl (by omega) (by decide) cw_X14_347 ⟨wd_1511, ws_99⟩ rfl (ckT_s e26) rfl (Nat.le_of_ble_eq_true rfl) ?_
        refine a_aload_n (q := 1) dX14_filter_80 rfl rfl ?_
        obtain ⟨v27, e28, hf⟩ := obd hf
        refine o_gfR dX14_filter_81 lk_X14_11 rfl e28 ?_
        refine a_iload_n (q := 2) dX14_filter_84 rfl rfl ?_
        obtain ⟨v29, e30, hf⟩ := obd hf
        refine o_alI dX14_filter_85 e30 ?_
        obtain ⟨rfl, rfl⟩ := oc2 hf
        exact a_ireturn dX14_filter_86 rfl
      · have hf := ifn c hf
        refine a_aload_n (q := 1) dX14_filter_58 rfl rfl ?_
        refine a_iconst (v := 0) dX14_filter_59 (by decide) ?_
        obtain ⟨h31, e32, hf⟩ := obd hf
        refine o_pfI dX14_filter_60 lk_X14_403 (⟨_, rfl, Or.inl rfl⟩) rfl e32 ?_
        refine a_aload_n (q := 1) dX14_filter_63 rfl rfl ?_
        refine a_iconst (v := (-1)) dX14_filter_64 (by decide) ?_
        refine a_iconst (v := 0) dX14_filter_65 (by decide) ?_
        refine a_iload_n (q := 0) dX14_filter_66 rfl rfl ?_
        obtain ⟨_, e35, hf⟩ := obd hf
        obtain ⟨h34, e33, hf⟩ := obd hf
        refine a_callV (as := [.int (-1), .int 0, .int v21]) (np := 3) (ci := 13) (st := []) (sX14_links E (D - 1) (by omega) e33) dX14_filter_67 rfl (by omega) (by decide) cw_X14_406 ⟨wd_1471, ws_89⟩ rfl (ckT_s e35) rfl (Nat.le_of_ble_eq_true rfl) ?_
        refine a_bipush (v := (-20)) dX14_filter_70 (by decide) ?_
        obtain ⟨rfl, rfl⟩ := oc2 hf
        exact a_ireturn dX14_filter_72 rfl
    · have hf := ifp c hf
      refine a_bipush (v := (-100)) dX14_filter_34 (by decide) ?_
      refine a_aload_n (q := 0) dX14_filter_36 rfl rfl ?_
      obtain ⟨v36, e37, hf⟩ := obd hf
      refine o_gfI dX14_filter_37 lk_X14_241 rfl e37 ?_
      refine a_isub dX14_filter_40 ?_
      obtain ⟨rfl, rfl⟩ := oc2 hf
      exact a_ireturn dX14_filter_41 rfl
  · have hf := ifp c hf
    refine a_iconst (v := (-1)) dX14_filter_7 (by decide) ?_
    obtain ⟨rfl, rfl⟩ := oc2 hf
    exact a_ireturn dX14_filter_8 rfl
def fX14_isRow (a0 : Int32) (h : hp) : Option (Int32 × hp) :=
  bd2 (fX14_isIn (a0.toInt64) 0 5 h) fun v2 h3 =>
  (zck v2).bind fun _ =>
  some (v2, h3)
set_option maxHeartbeats 4000000 in
set_option maxRecDepth 100000 in
theorem sX14_isRow (E : gE) (D : Nat) (hD : 1 ≤ D) {a0 : Int32} {h hz : hp} {v0 : Int32} (hf : fX14_isRow a0 h = some (v0, hz)) : MC E yX14_isRow cX14_isRow (Option.some Jvm.ClassFile.FieldType.boolean) 1 D [.int a0] h (some (.int v0)) hz := by
  refine MC.of (by decide +kernel) (Nat.le_of_ble_eq_true rfl) rfl ?_
  unfold fX14_isRow at hf
  show AW E yX14_isRow cX14_isRow (Option.some Jvm.ClassFile.FieldType.boolean) 1 D (some (.int v0)) h hz 0 [(0, .int a0)] [] h
  refine a_iload_n (q := 0) dX14_isRow_0 rfl rfl ?_
  refine a_i2l dX14_isRow_1 rfl ?_
  refine a_lconst (v := 0) dX14_isRow_2 (by decide) ?_
  refine a_ldc2 (v := 5) dX14_isRow_3 wd_1334 ?_
  obtain ⟨v2, h3, e1, hf⟩ := ob2 hf
  refine a_callS (as := [.long (a0.toInt64), .long 0, .long 5]) (np := 3) (st := []) (sX14_isIn E (D - 1) (by omega) e1) dX14_isRow_6 rfl (by omega) (by decide) cw_X14_155 wd_1324 rfl (Nat.le_of_ble_eq_true rfl) ?_
  obtain ⟨_, e4, hf⟩ := obd hf
  obtain ⟨rfl, rfl⟩ := oc2 hf
  exact a_zreturn dX14_isRow_9 rfl (zck_s e4)
def fX14_wrong (a0 : Nat) (a1 : Int32) (h : hp) : Option (Int32 × hp) :=
  bd2 (fX14_isRow a1 h) fun v2 h3 =>
  if v2 = 0 then (
    some ((-1), h3)
  ) else (
    (gfR h3 a0 13 48).bind fun v4 =>
    (alI h3 v4 a1).bind fun v6 =>
    if 0 ≤ v6 then (
      some (0, h3)
    ) else (
      some ((-11), h3)
    )
  )
set_option maxHeartbeats 4000000 in
set_option maxRecDepth 100000 in
theorem sX14_wrong (E : gE) (D : Nat) (hD : 2 ≤ D) {a0 : Nat} {a1 : Int32} {h hz : hp} {v0 : Int32} (hf : fX14_wrong a0 a1 h = some (v0, hz)) : MC E yX14_wrong cX14_wrong (Option.some Jvm.ClassFile.FieldType.int) 2 D [.ref a0, .int a1] h (some (.int v0)) hz := by
  refine MC.of (by decide +kernel) (Nat.le_of_ble_eq_true rfl) rfl ?_
  unfold fX14_wrong at hf
  show AW E yX14_wrong cX14_wrong (Option.some Jvm.ClassFile.FieldType.int) 2 D (some (.int v0)) h hz 0 [(0, .ref a0), (1, .int a1)] [] h
  refine a_iload_n (q := 1) dX14_wrong_0 rfl rfl ?_
  obtain ⟨v2, h3, e1, hf⟩ := ob2 hf
  refine a_callS (as := [.int a1]) (np := 1) (st := []) (sX14_isRow E (D - 1) (by omega) e1) dX14_wrong_1 rfl (by omega) (by decide) cw_X14_537 wd_1785 rfl (Nat.le_of_ble_eq_true rfl) ?_
  refine a_if_ne (tgt := 11) dX14_wrong_4 (by decide) (fun c => ?_) (fun c => ?_)
  · have hf := ifn c hf
    refine a_aload_n (q := 0) dX14_wrong_11 rfl rfl ?_
    obtain ⟨v4, e5, hf⟩ := obd hf
    refine o_gfR dX14_wrong_12 lk_X14_98 rfl e5 ?_
    refine a_iload_n (q := 1) dX14_wrong_15 rfl rfl ?_
    obtain ⟨v6, e7, hf⟩ := obd hf
    refine o_alI dX14_wrong_16 e7 ?_
    refine a_if_ge (tgt := 25) dX14_wrong_17 (by decide) (fun c => ?_) (fun c => ?_)
    · have hf := ifp c hf
      refine a_iconst (v := 0) dX14_wrong_25 (by decide) ?_
      obtain ⟨rfl, rfl⟩ := oc2 hf
      exact a_ireturn dX14_wrong_26 rfl
    · have hf := ifn c hf
      refine a_bipush (v := (-11)) dX14_wrong_20 (by decide) ?_
      refine a_goto (tgt := 26) dX14_wrong_22 (by decide) ?_
      obtain ⟨rfl, rfl⟩ := oc2 hf
      exact a_ireturn dX14_wrong_26 rfl
  · have hf := ifp c hf
    refine a_iconst (v := (-1)) dX14_wrong_7 (by decide) ?_
    refine a_goto (tgt := 26) dX14_wrong_8 (by decide) ?_
    obtain ⟨rfl, rfl⟩ := oc2 hf
    exact a_ireturn dX14_wrong_26 rfl
def fX14_row_l54 : Nat → Nat → Int32 → Int32 → hp → Option hp
  | 0, _, _, _, _ => none
  | n + 1, x0, x1, x4, h =>
    if 60 ≤ x4 then (
      some (h)
    ) else (
      (gfR h x0 13 50).bind fun v1 =>
      (asI h v1 ((60 * x1) + x4) 0).bind fun h3 =>
      (gfR h3 x0 13 51).bind fun v5 =>
      (asF h3 v5 ((60 * x1) + x4) FP.fconst0).bind fun h7 =>
      fX14_row_l54 n x0 x1 (x4 + 1) h7
    )
def fX14_row (a0 : Nat) (a1 : Int32) (a2 : Int32) (a3 : Int32) (h : hp) : Option (Int32 × hp) :=
  bd2 (fX14_isRow a1 h) fun v2 h3 =>
  if v2 = 0 then (
    some ((-1), h3)
  ) else (
    bd2 (fX14_isIn (a2.toInt64) 0 2 h3) fun v5 h6 =>
    if v5 = 0 then (
      some ((-1), h6)
    ) else (
      if a3 ≤ 60 then (
        if 0 ≤ a3 then (
          (gfR h6 a0 13 48).bind fun v7 =>
          (asI h6 v7 a1 a2).bind fun h9 =>
          (gfR h9 a0 13 49).bind fun v11 =>
          (asI h9 v11 a1 a3).bind fun h13 =>
          (fX14_row_l54 FU a0 a1 0 h13).bind fun h16 =>
          some (1, h16)
        ) else (
          some ((-14), h6)
        )
      ) else (
        some ((-2), h6)
      )
    )
  )
set_option maxHeartbeats 4000000 in
set_option maxRecDepth 100000 in
theorem sX14_row_l54 (E : gE) (D : Nat) (hD : 2 ≤ D) {rz : Option Value} {h0 hz : hp} : ∀ (n : Nat) (x0 : Nat) (x1 : Int32) (x4 : Int32) (h : hp) (hq : hp), fX14_row_l54 n x0 x1 x4 h = some hq → (AW E yX14_row cX14_row (Option.some Jvm.ClassFile.FieldType.int) 5 D rz h0 hz 93 [] [] hq) → AW E yX14_row cX14_row (Option.some Jvm.ClassFile.FieldType.int) 5 D rz h0 hz 54 [(0, .ref x0), (1, .int x1), (4, .int x4)] [] h := by
  intro n
  induction n with
  | zero =>
    intro x0 x1 x4 h hq hf _
    rw [fX14_row_l54] at hf
    cases hf
  | succ n ih =>
    intro x0 x1 x4 h hq hf hk0
    rw [fX14_row_l54] at hf
    refine a_iload (q := 2) dX14_row_54 rfl ?_
    refine a_bipush (v := 60) dX14_row_56 (by decide) ?_
    refine a_icmp_ge (tgt := 93) dX14_row_58 (by decide) (fun c => ?_) (fun c => ?_)
    · have hf := ifp c hf
      obtain rfl := Option.some.inj hf
      exact AW.sub [] rfl (hk0)
    · have hf := ifn c hf
      refine a_aload_n (q := 0) dX14_row_61 rfl rfl ?_
      obtain ⟨v1, e2, hf⟩ := obd hf
      refine o_gfR dX14_row_62 lk_X14_104 rfl e2 ?_
      refine a_bipush (v := 60) dX14_row_65 (by decide) ?_
      refine a_iload_n (q := 1) dX14_row_67 rfl rfl ?_
      refine a_imul dX14_row_68 ?_
      refine a_iload (q := 2) dX14_row_69 rfl ?_
      refine a_iadd dX14_row_71 ?_
      refine a_iconst (v := 0) dX14_row_72 (by decide) ?_
      obtain ⟨h3, e4, hf⟩ := obd hf
      refine o_asI dX14_row_73 e4 ?_
      refine a_aload_n (q := 0) dX14_row_74 rfl rfl ?_
      obtain ⟨v5, e6, hf⟩ := obd hf
      refine o_gfR dX14_row_75 lk_X14_107 rfl e6 ?_
      refine a_bipush (v := 60) dX14_row_78 (by decide) ?_
      refine a_iload_n (q := 1) dX14_row_80 rfl rfl ?_
      refine a_imul dX14_row_81 ?_
      refine a_iload (q := 2) dX14_row_82 rfl ?_
      refine a_iadd dX14_row_84 ?_
      refine a_fconst0 dX14_row_85 ?_
      obtain ⟨h7, e8, hf⟩ := obd hf
      refine o_asF dX14_row_86 e8 ?_
      refine a_iinc (q := 2) (v := (x4 + 1)) (lv1 := [(4, .int (x4 + 1)), (0, .ref x0), (1, .int x1)]) dX14_row_87 rfl (by rfl) (by decide) rfl ?_
      refine a_goto (tgt := 54) dX14_row_90 (by decide) ?_
      exact AW.sub [1, 2, 0] rfl (ih _ _ _ _ _ hf hk0)
set_option maxHeartbeats 4000000 in
set_option maxRecDepth 100000 in
theorem sX14_row (E : gE) (D : Nat) (hD : 2 ≤ D) {a0 : Nat} {a1 : Int32} {a2 : Int32} {a3 : Int32} {h hz : hp} {v0 : Int32} (hf : fX14_row a0 a1 a2 a3 h = some (v0, hz)) : MC E yX14_row cX14_row (Option.some Jvm.ClassFile.FieldType.int) 5 D [.ref a0, .int a1, .int a2, .int a3] h (some (.int v0)) hz := by
  refine MC.of (by decide +kernel) (Nat.le_of_ble_eq_true rfl) rfl ?_
  unfold fX14_row at hf
  show AW E yX14_row cX14_row (Option.some Jvm.ClassFile.FieldType.int) 5 D (some (.int v0)) h hz 0 [(0, .ref a0), (1, .int a1), (2, .int a2), (3, .int a3)] [] h
  refine a_iload_n (q := 1) dX14_row_0 rfl rfl ?_
  obtain ⟨v2, h3, e1, hf⟩ := ob2 hf
  refine a_callS (as := [.int a1]) (np := 1) (st := []) (sX14_isRow E (D - 1) (by omega) e1) dX14_row_1 rfl (by omega) (by decide) cw_X14_537 wd_1785 rfl (Nat.le_of_ble_eq_true rfl) ?_
  refine a_if_eq (tgt := 19) dX14_row_4 (by decide) (fun c => ?_) (fun c => ?_)
  · have hf := ifp c hf
    refine a_iconst (v := (-1)) dX14_row_19 (by decide) ?_
    obtain ⟨rfl, rfl⟩ := oc2 hf
    exact a_ireturn dX14_row_20 rfl
  · have hf := ifn c hf
    refine a_iload_n (q := 2) dX14_row_7 rfl rfl ?_
    refine a_i2l dX14_row_8 rfl ?_
    refine a_lconst (v := 0) dX14_row_9 (by decide) ?_
    refine a_ldc2 (v := 2) dX14_row_10 wd_1714 ?_
    obtain ⟨v5, h6, e4, hf⟩ := ob2 hf
    refine a_callS (as := [.long (a2.toInt64), .long 0, .long 2]) (np := 3) (st := []) (sX14_isIn E (D - 1) (by omega) e4) dX14_row_13 rfl (by omega) (by decide) cw_X14_155 wd_1324 rfl (Nat.le_of_ble_eq_true rfl) ?_
    refine a_if_ne (tgt := 21) dX14_row_16 (by decide) (fun c => ?_) (fun c => ?_)
    · have hf := ifn c hf
      refine a_iload_n (q := 3) dX14_row_21 rfl rfl ?_
      refine a_bipush (v := 60) dX14_row_22 (by decide) ?_
      refine a_icmp_le (tgt := 30) dX14_row_24 (by decide) (fun c => ?_) (fun c => ?_)
      · have hf := ifp c hf
        refine a_iload_n (q := 3) dX14_row_30 rfl rfl ?_
        refine a_if_ge (tgt := 37) dX14_row_31 (by decide) (fun c => ?_) (fun c => ?_)
        · have hf := ifp c hf
          refine a_aload_n (q := 0) dX14_row_37 rfl rfl ?_
          obtain ⟨v7, e8, hf⟩ := obd hf
          refine o_gfR dX14_row_38 lk_X14_98 rfl e8 ?_
          refine a_iload_n (q := 1) dX14_row_41 rfl rfl ?_
          refine a_iload_n (q := 2) dX14_row_42 rfl rfl ?_
          obtain ⟨h9, e10, hf⟩ := obd hf
          refine o_asI dX14_row_43 e10 ?_
          refine a_aload_n (q := 0) dX14_row_44 rfl rfl ?_
          obtain ⟨v11, e12, hf⟩ := obd hf
          refine o_gfR dX14_row_45 lk_X14_101 rfl e12 ?_
          refine a_iload_n (q := 1) dX14_row_48 rfl rfl ?_
          refine a_iload_n (q := 3) dX14_row_49 rfl rfl ?_
          obtain ⟨h13, e14, hf⟩ := obd hf
          refine o_asI dX14_row_50 e14 ?_
          refine a_iconst (v := 0) dX14_row_51 (by decide) ?_
          refine a_istore (lv1 := [(4, .int 0), (0, .ref a0), (1, .int a1), (2, .int a2), (3, .int a3)]) dX14_row_52 (by decide) rfl ?_
          obtain ⟨h16, e15, hf⟩ := obd hf
          refine AW.sub [1, 2, 0] rfl (sX14_row_l54 E D hD _ _ _ _ _ _ e15 ?_)
          refine a_iconst (v := 1) dX14_row_93 (by decide) ?_
          obtain ⟨rfl, rfl⟩ := oc2 hf
          exact a_ireturn dX14_row_94 rfl
        · have hf := ifn c hf
          refine a_bipush (v := (-14)) dX14_row_34 (by decide) ?_
          obtain ⟨rfl, rfl⟩ := oc2 hf
          exact a_ireturn dX14_row_36 rfl
      · have hf := ifn c hf
        refine a_bipush (v := (-2)) dX14_row_27 (by decide) ?_
        obtain ⟨rfl, rfl⟩ := oc2 hf
        exact a_ireturn dX14_row_29 rfl
    · have hf := ifp c hf
      refine a_iconst (v := (-1)) dX14_row_19 (by decide) ?_
      obtain ⟨rfl, rfl⟩ := oc2 hf
      exact a_ireturn dX14_row_20 rfl
def fX14_holds (a0 : Nat) (a1 : Int32) (a2 : Int32) (a3 : Int64) (h : hp) : Option hp :=
  (gfR h a0 13 50).bind fun v1 =>
  (gfR h a0 13 48).bind fun v3 =>
  (alI h v3 a1).bind fun v5 =>
  jn (fun (s27_0 : Int32) (h27j : hp) => (
    (asI h27j v1 ((60 * a1) + a2) s27_0).bind fun h7 =>
    (gfR h7 a0 13 51).bind fun v9 =>
    (asF h7 v9 ((60 * a1) + a2) (FP.l2f a3)).bind fun h11 =>
    some h11
    : Option hp)) fun k27 =>
  if v5 = 0 then (
    k27 ((a3.toInt32).toInt8.toInt32) h
  ) else (
    k27 (a3.toInt32) h
  )
set_option maxHeartbeats 4000000 in
set_option maxRecDepth 100000 in
theorem sX14_holds (E : gE) (D : Nat) (hD : 0 ≤ D) {a0 : Nat} {a1 : Int32} {a2 : Int32} {a3 : Int64} {h hz : hp} (hf : fX14_holds a0 a1 a2 a3 h = some hz) : MC E yX14_holds cX14_holds (Option.none : Option Jvm.ClassFile.FieldType) 5 D [.ref a0, .int a1, .int a2, .long a3] h none hz := by
  refine MC.of (by decide +kernel) (Nat.le_of_ble_eq_true rfl) rfl ?_
  unfold fX14_holds at hf
  show AW E yX14_holds cX14_holds (Option.none : Option Jvm.ClassFile.FieldType) 5 D none h hz 0 [(0, .ref a0), (1, .int a1), (2, .int a2), (3, .long a3)] [] h
  refine a_aload_n (q := 0) dX14_holds_0 rfl rfl ?_
  obtain ⟨v1, e2, hf⟩ := obd hf
  refine o_gfR dX14_holds_1 lk_X14_104 rfl e2 ?_
  refine a_bipush (v := 60) dX14_holds_4 (by decide) ?_
  refine a_iload_n (q := 1) dX14_holds_6 rfl rfl ?_
  refine a_imul dX14_holds_7 ?_
  refine a_iload_n (q := 2) dX14_holds_8 rfl rfl ?_
  refine a_iadd dX14_holds_9 ?_
  refine a_aload_n (q := 0) dX14_holds_10 rfl rfl ?_
  obtain ⟨v3, e4, hf⟩ := obd hf
  refine o_gfR dX14_holds_11 lk_X14_98 rfl e4 ?_
  refine a_iload_n (q := 1) dX14_holds_14 rfl rfl ?_
  obtain ⟨v5, e6, hf⟩ := obd hf
  refine o_alI dX14_holds_15 e6 ?_
  obtain ⟨k27, ek27, hf⟩ := jn_s hf
  have hj27 : ∀ (s27_0 : Int32) (h27j : hp), k27 s27_0 h27j = some hz → AW E yX14_holds cX14_holds (Option.none : Option Jvm.ClassFile.FieldType) 5 D none h hz 27 [(0, .ref a0), (1, .int a1), (2, .int a2), (3, .long a3)] [.int s27_0, .int ((60 * a1) + a2), .ref v1] h27j := by
    intro s27_0 h27j hf
    rw [ek27] at hf
    clear ek27
    obtain ⟨h7, e8, hf⟩ := obd hf
    refine o_asI dX14_holds_27 e8 ?_
    refine a_aload_n (q := 0) dX14_holds_28 rfl rfl ?_
    obtain ⟨v9, e10, hf⟩ := obd hf
    refine o_gfR dX14_holds_29 lk_X14_107 rfl e10 ?_
    refine a_bipush (v := 60) dX14_holds_32 (by decide) ?_
    refine a_iload_n (q := 1) dX14_holds_34 rfl rfl ?_
    refine a_imul dX14_holds_35 ?_
    refine a_iload_n (q := 2) dX14_holds_36 rfl rfl ?_
    refine a_iadd dX14_holds_37 ?_
    refine a_lload_n (q := 3) dX14_holds_38 rfl rfl ?_
    refine a_l2f dX14_holds_39 ?_
    obtain ⟨h11, e12, hf⟩ := obd hf
    refine o_asF dX14_holds_40 e12 ?_
    obtain rfl := Option.some.inj hf
    exact a_return dX14_holds_41 rfl
  clear ek27
  refine a_if_ne (tgt := 25) dX14_holds_16 (by decide) (fun c => ?_) (fun c => ?_)
  · have hf := ifn c hf
    refine a_lload_n (q := 3) dX14_holds_25 rfl rfl ?_
    refine a_l2i dX14_holds_26 rfl ?_
    exact hj27 _ _ hf
  · have hf := ifp c hf
    refine a_lload_n (q := 3) dX14_holds_19 rfl rfl ?_
    refine a_l2i dX14_holds_20 rfl ?_
    refine a_i2b dX14_holds_21 rfl ?_
    refine a_goto (tgt := 27) dX14_holds_22 (by decide) ?_
    exact hj27 _ _ hf
def fX14_set (a0 : Nat) (a1 : Int32) (a2 : Int32) (a3 : Int64) (h : hp) : Option (Int32 × hp) :=
  (ckT h a0 13).bind fun _ =>
  bd2 (fX14_wrong a0 a1 h) fun v2 h3 =>
  if v2 = 0 then (
    (gfR h3 a0 13 49).bind fun v5 =>
    (alI h3 v5 a1).bind fun v7 =>
    bd2 (fX14_isIn (a2.toInt64) 0 ((v7 - 1).toInt64) h3) fun v10 h11 =>
    if v10 = 0 then (
      some ((-13), h11)
    ) else (
      (ckT h11 a0 13).bind fun _ =>
      (fX14_holds a0 a1 a2 a3 h11).bind fun h13 =>
      some (1, h13)
    )
  ) else (
    some (v2, h3)
  )
set_option maxHeartbeats 4000000 in
set_option maxRecDepth 100000 in
theorem sX14_set (E : gE) (D : Nat) (hD : 3 ≤ D) {a0 : Nat} {a1 : Int32} {a2 : Int32} {a3 : Int64} {h hz : hp} {v0 : Int32} (hf : fX14_set a0 a1 a2 a3 h = some (v0, hz)) : MC E yX14_set cX14_set (Option.some Jvm.ClassFile.FieldType.int) 6 D [.ref a0, .int a1, .int a2, .long a3] h (some (.int v0)) hz := by
  refine MC.of (by decide +kernel) (Nat.le_of_ble_eq_true rfl) rfl ?_
  unfold fX14_set at hf
  show AW E yX14_set cX14_set (Option.some Jvm.ClassFile.FieldType.int) 6 D (some (.int v0)) h hz 0 [(0, .ref a0), (1, .int a1), (2, .int a2), (3, .long a3)] [] h
  refine a_aload_n (q := 0) dX14_set_0 rfl rfl ?_
  refine a_iload_n (q := 1) dX14_set_1 rfl rfl ?_
  obtain ⟨_, e4, hf⟩ := obd hf
  obtain ⟨v2, h3, e1, hf⟩ := ob2 hf
  refine a_callV (as := [.int a1]) (np := 1) (ci := 13) (st := []) (sX14_wrong E (D - 1) (by omega) e1) dX14_set_2 rfl (by omega) (by decide) cw_X14_540 ⟨wd_1793, ws_141⟩ rfl (ckT_s e4) rfl (Nat.le_of_ble_eq_true rfl) ?_
  refine a_istore (lv1 := [(5, .int v2), (0, .ref a0), (1, .int a1), (2, .int a2), (3, .long a3)]) dX14_set_5 (by decide) rfl ?_
  refine a_iload (q := 0) dX14_set_7 rfl ?_
  refine a_if_eq (tgt := 15) dX14_set_9 (by decide) (fun c => ?_) (fun c => ?_)
  · have hf := ifp c hf
    refine a_iload_n (q := 3) dX14_set_15 rfl rfl ?_
    refine a_i2l dX14_set_16 rfl ?_
    refine a_lconst (v := 0) dX14_set_17 (by decide) ?_
    refine a_aload_n (q := 1) dX14_set_18 rfl rfl ?_
    obtain ⟨v5, e6, hf⟩ := obd hf
    refine o_gfR dX14_set_19 lk_X14_101 rfl e6 ?_
    refine a_iload_n (q := 2) dX14_set_22 rfl rfl ?_
    obtain ⟨v7, e8, hf⟩ := obd hf
    refine o_alI dX14_set_23 e8 ?_
    refine a_iconst (v := 1) dX14_set_24 (by decide) ?_
    refine a_isub dX14_set_25 ?_
    refine a_i2l dX14_set_26 rfl ?_
    obtain ⟨v10, h11, e9, hf⟩ := ob2 hf
    refine a_callS (as := [.long (a2.toInt64), .long 0, .long ((v7 - 1).toInt64)]) (np := 3) (st := []) (sX14_isIn E (D - 1) (by omega) e9) dX14_set_27 rfl (by omega) (by decide) cw_X14_155 wd_1324 rfl (Nat.le_of_ble_eq_true rfl) ?_
    refine a_if_ne (tgt := 36) dX14_set_30 (by decide) (fun c => ?_) (fun c => ?_)
    · have hf := ifn c hf
      refine a_aload_n (q := 1) dX14_set_36 rfl rfl ?_
      refine a_iload_n (q := 2) dX14_set_37 rfl rfl ?_
      refine a_iload_n (q := 3) dX14_set_38 rfl rfl ?_
      refine a_lload_n (q := 4) dX14_set_39 rfl rfl ?_
      obtain ⟨_, e14, hf⟩ := obd hf
      obtain ⟨h13, e12, hf⟩ := obd hf
      refine a_callV (as := [.int a1, .int a2, .long a3]) (np := 3) (ci := 13) (st := []) (sX14_holds E (D - 1) (by omega) e12) dX14_set_40 rfl (by omega) (by decide) cw_X14_543 ⟨wd_1797, ws_142⟩ rfl (ckT_s e14) rfl (Nat.le_of_ble_eq_true rfl) ?_
      refine a_iconst (v := 1) dX14_set_43 (by decide) ?_
      obtain ⟨rfl, rfl⟩ := oc2 hf
      exact a_ireturn dX14_set_44 rfl
    · have hf := ifp c hf
      refine a_bipush (v := (-13)) dX14_set_33 (by decide) ?_
      obtain ⟨rfl, rfl⟩ := oc2 hf
      exact a_ireturn dX14_set_35 rfl
  · have hf := ifn c hf
    refine a_iload (q := 0) dX14_set_12 rfl ?_
    obtain ⟨rfl, rfl⟩ := oc2 hf
    exact a_ireturn dX14_set_14 rfl
def fX14_get (a0 : Nat) (a1 : Int32) (a2 : Int32) (h : hp) : Option (Int64 × hp) :=
  (ckT h a0 13).bind fun _ =>
  bd2 (fX14_wrong a0 a1 h) fun v2 h3 =>
  jn (fun (h26j : hp) => (
    some ((-9223372036854775808), h26j)
    : Option (Int64 × hp))) fun k26 =>
  if v2 = 0 then (
    (gfR h3 a0 13 49).bind fun v5 =>
    (alI h3 v5 a1).bind fun v7 =>
    bd2 (fX14_isIn (a2.toInt64) 0 ((v7 - 1).toInt64) h3) fun v10 h11 =>
    if v10 = 0 then (
      k26 h11
    ) else (
      (gfR h11 a0 13 48).bind fun v12 =>
      (alI h11 v12 a1).bind fun v14 =>
      if v14 = 2 then (
        (gfR h11 a0 13 51).bind fun v20 =>
        (alF h11 v20 ((60 * a1) + a2)).bind fun v22 =>
        bd2 (fJxf58ca_floatToIntBits_5c35a v22 h11) fun v25 h26 =>
        some ((v25.toInt64), h26)
      ) else (
        (gfR h11 a0 13 50).bind fun v16 =>
        (alI h11 v16 ((60 * a1) + a2)).bind fun v18 =>
        some ((v18.toInt64), h11)
      )
    )
  ) else (
    k26 h3
  )
set_option maxHeartbeats 4000000 in
set_option maxRecDepth 100000 in
theorem sX14_get (E : gE) (D : Nat) (hD : 3 ≤ D) {a0 : Nat} {a1 : Int32} {a2 : Int32} {h hz : hp} {v0 : Int64} (hf : fX14_get a0 a1 a2 h = some (v0, hz)) : MC E yX14_get cX14_get (Option.some Jvm.ClassFile.FieldType.long) 3 D [.ref a0, .int a1, .int a2] h (some (.long v0)) hz := by
  refine MC.of (by decide +kernel) (Nat.le_of_ble_eq_true rfl) rfl ?_
  unfold fX14_get at hf
  show AW E yX14_get cX14_get (Option.some Jvm.ClassFile.FieldType.long) 3 D (some (.long v0)) h hz 0 [(0, .ref a0), (1, .int a1), (2, .int a2)] [] h
  refine a_aload_n (q := 0) dX14_get_0 rfl rfl ?_
  refine a_iload_n (q := 1) dX14_get_1 rfl rfl ?_
  obtain ⟨_, e4, hf⟩ := obd hf
  obtain ⟨v2, h3, e1, hf⟩ := ob2 hf
  refine a_callV (as := [.int a1]) (np := 1) (ci := 13) (st := []) (sX14_wrong E (D - 1) (by omega) e1) dX14_get_2 rfl (by omega) (by decide) cw_X14_540 ⟨wd_1793, ws_141⟩ rfl (ckT_s e4) rfl (Nat.le_of_ble_eq_true rfl) ?_
  obtain ⟨k26, ek26, hf⟩ := jn_s hf
  have hj26 : ∀ (h26j : hp), k26 h26j = some (v0, hz) → AW E yX14_get cX14_get (Option.some Jvm.ClassFile.FieldType.long) 3 D (some (.long v0)) h hz 26 [] [] h26j := by
    intro h26j hf
    rw [ek26] at hf
    clear ek26
    refine a_ldc2 (v := (-9223372036854775808)) dX14_get_26 wd_1803 ?_
    obtain ⟨rfl, rfl⟩ := oc2 hf
    exact a_lreturn dX14_get_29 rfl
  clear ek26
  refine a_if_ne (tgt := 26) dX14_get_5 (by decide) (fun c => ?_) (fun c => ?_)
  · have hf := ifn c hf
    exact AW.sub [] rfl (hj26 _ hf)
  · have hf := ifp c hf
    refine a_iload_n (q := 2) dX14_get_8 rfl rfl ?_
    refine a_i2l dX14_get_9 rfl ?_
    refine a_lconst (v := 0) dX14_get_10 (by decide) ?_
    refine a_aload_n (q := 0) dX14_get_11 rfl rfl ?_
    obtain ⟨v5, e6, hf⟩ := obd hf
    refine o_gfR dX14_get_12 lk_X14_101 rfl e6 ?_
    refine a_iload_n (q := 1) dX14_get_15 rfl rfl ?_
    obtain ⟨v7, e8, hf⟩ := obd hf
    refine o_alI dX14_get_16 e8 ?_
    refine a_iconst (v := 1) dX14_get_17 (by decide) ?_
    refine a_isub dX14_get_18 ?_
    refine a_i2l dX14_get_19 rfl ?_
    obtain ⟨v10, h11, e9, hf⟩ := ob2 hf
    refine a_callS (as := [.long (a2.toInt64), .long 0, .long ((v7 - 1).toInt64)]) (np := 3) (st := []) (sX14_isIn E (D - 1) (by omega) e9) dX14_get_20 rfl (by omega) (by decide) cw_X14_155 wd_1324 rfl (Nat.le_of_ble_eq_true rfl) ?_
    refine a_if_ne (tgt := 30) dX14_get_23 (by decide) (fun c => ?_) (fun c => ?_)
    · have hf := ifn c hf
      refine a_aload_n (q := 0) dX14_get_30 rfl rfl ?_
      obtain ⟨v12, e13, hf⟩ := obd hf
      refine o_gfR dX14_get_31 lk_X14_98 rfl e13 ?_
      refine a_iload_n (q := 1) dX14_get_34 rfl rfl ?_
      obtain ⟨v14, e15, hf⟩ := obd hf
      refine o_alI dX14_get_35 e15 ?_
      refine a_iconst (v := 2) dX14_get_36 (by decide) ?_
      refine a_icmp_ne (tgt := 58) dX14_get_37 (by decide) (fun c => ?_) (fun c => ?_)
      · have hf := ifn c hf
        refine a_aload_n (q := 0) dX14_get_58 rfl rfl ?_
        obtain ⟨v16, e17, hf⟩ := obd hf
        refine o_gfR dX14_get_59 lk_X14_104 rfl e17 ?_
        refine a_bipush (v := 60) dX14_get_62 (by decide) ?_
        refine a_iload_n (q := 1) dX14_get_64 rfl rfl ?_
        refine a_imul dX14_get_65 ?_
        refine a_iload_n (q := 2) dX14_get_66 rfl rfl ?_
        refine a_iadd dX14_get_67 ?_
        obtain ⟨v18, e19, hf⟩ := obd hf
        refine o_alI dX14_get_68 e19 ?_
        refine a_i2l dX14_get_69 rfl ?_
        obtain ⟨rfl, rfl⟩ := oc2 hf
        exact a_lreturn dX14_get_70 rfl
      · have hf := ifp c hf
        refine a_aload_n (q := 0) dX14_get_40 rfl rfl ?_
        obtain ⟨v20, e21, hf⟩ := obd hf
        refine o_gfR dX14_get_41 lk_X14_107 rfl e21 ?_
        refine a_bipush (v := 60) dX14_get_44 (by decide) ?_
        refine a_iload_n (q := 1) dX14_get_46 rfl rfl ?_
        refine a_imul dX14_get_47 ?_
        refine a_iload_n (q := 2) dX14_get_48 rfl rfl ?_
        refine a_iadd dX14_get_49 ?_
        obtain ⟨v22, e23, hf⟩ := obd hf
        refine o_alF dX14_get_50 e23 ?_
        obtain ⟨v25, h26, e24, hf⟩ := ob2 hf
        refine a_callS (as := [.float v22]) (np := 1) (st := []) (sJxf58ca_floatToIntBits_5c35a E (D - 1) (by omega) e24) dX14_get_51 rfl (by omega) (by decide) cw_X14_202 wd_1556 rfl (Nat.le_of_ble_eq_true rfl) ?_
        refine a_i2l dX14_get_54 rfl ?_
        refine a_goto (tgt := 70) dX14_get_55 (by decide) ?_
        obtain ⟨rfl, rfl⟩ := oc2 hf
        exact a_lreturn dX14_get_70 rfl
    · have hf := ifp c hf
      exact AW.sub [] rfl (hj26 _ hf)
def fX14_copiesItem (a0 : Nat) (a1 : Int32) (a2 : Int32) (a3 : Int32) (a4 : Int32) (h : hp) : Option hp :=
  (gfR h a0 13 50).bind fun v1 =>
  (gfR h a0 13 50).bind fun v3 =>
  (alI h v3 ((60 * a1) + a2)).bind fun v5 =>
  (asI h v1 ((60 * a3) + a4) v5).bind fun h7 =>
  (gfR h7 a0 13 51).bind fun v9 =>
  (gfR h7 a0 13 51).bind fun v11 =>
  (alF h7 v11 ((60 * a1) + a2)).bind fun v13 =>
  (asF h7 v9 ((60 * a3) + a4) v13).bind fun h15 =>
  some h15
set_option maxHeartbeats 4000000 in
set_option maxRecDepth 100000 in
theorem sX14_copiesItem (E : gE) (D : Nat) (hD : 0 ≤ D) {a0 : Nat} {a1 : Int32} {a2 : Int32} {a3 : Int32} {a4 : Int32} {h hz : hp} (hf : fX14_copiesItem a0 a1 a2 a3 a4 h = some hz) : MC E yX14_copiesItem cX14_copiesItem (Option.none : Option Jvm.ClassFile.FieldType) 5 D [.ref a0, .int a1, .int a2, .int a3, .int a4] h none hz := by
  refine MC.of (by decide +kernel) (Nat.le_of_ble_eq_true rfl) rfl ?_
  unfold fX14_copiesItem at hf
  show AW E yX14_copiesItem cX14_copiesItem (Option.none : Option Jvm.ClassFile.FieldType) 5 D none h hz 0 [(0, .ref a0), (1, .int a1), (2, .int a2), (3, .int a3), (4, .int a4)] [] h
  refine a_aload_n (q := 0) dX14_copiesItem_0 rfl rfl ?_
  obtain ⟨v1, e2, hf⟩ := obd hf
  refine o_gfR dX14_copiesItem_1 lk_X14_104 rfl e2 ?_
  refine a_bipush (v := 60) dX14_copiesItem_4 (by decide) ?_
  refine a_iload_n (q := 3) dX14_copiesItem_6 rfl rfl ?_
  refine a_imul dX14_copiesItem_7 ?_
  refine a_iload (q := 4) dX14_copiesItem_8 rfl ?_
  refine a_iadd dX14_copiesItem_10 ?_
  refine a_aload_n (q := 0) dX14_copiesItem_11 rfl rfl ?_
  obtain ⟨v3, e4, hf⟩ := obd hf
  refine o_gfR dX14_copiesItem_12 lk_X14_104 rfl e4 ?_
  refine a_bipush (v := 60) dX14_copiesItem_15 (by decide) ?_
  refine a_iload_n (q := 1) dX14_copiesItem_17 rfl rfl ?_
  refine a_imul dX14_copiesItem_18 ?_
  refine a_iload_n (q := 2) dX14_copiesItem_19 rfl rfl ?_
  refine a_iadd dX14_copiesItem_20 ?_
  obtain ⟨v5, e6, hf⟩ := obd hf
  refine o_alI dX14_copiesItem_21 e6 ?_
  obtain ⟨h7, e8, hf⟩ := obd hf
  refine o_asI dX14_copiesItem_22 e8 ?_
  refine a_aload_n (q := 0) dX14_copiesItem_23 rfl rfl ?_
  obtain ⟨v9, e10, hf⟩ := obd hf
  refine o_gfR dX14_copiesItem_24 lk_X14_107 rfl e10 ?_
  refine a_bipush (v := 60) dX14_copiesItem_27 (by decide) ?_
  refine a_iload_n (q := 3) dX14_copiesItem_29 rfl rfl ?_
  refine a_imul dX14_copiesItem_30 ?_
  refine a_iload (q := 4) dX14_copiesItem_31 rfl ?_
  refine a_iadd dX14_copiesItem_33 ?_
  refine a_aload_n (q := 0) dX14_copiesItem_34 rfl rfl ?_
  obtain ⟨v11, e12, hf⟩ := obd hf
  refine o_gfR dX14_copiesItem_35 lk_X14_107 rfl e12 ?_
  refine a_bipush (v := 60) dX14_copiesItem_38 (by decide) ?_
  refine a_iload_n (q := 1) dX14_copiesItem_40 rfl rfl ?_
  refine a_imul dX14_copiesItem_41 ?_
  refine a_iload_n (q := 2) dX14_copiesItem_42 rfl rfl ?_
  refine a_iadd dX14_copiesItem_43 ?_
  obtain ⟨v13, e14, hf⟩ := obd hf
  refine o_alF dX14_copiesItem_44 e14 ?_
  obtain ⟨h15, e16, hf⟩ := obd hf
  refine o_asF dX14_copiesItem_45 e16 ?_
  obtain rfl := Option.some.inj hf
  exact a_return dX14_copiesItem_46 rfl
def fX14_move_l102 : Nat → Nat → Int32 → Int32 → Int32 → Int32 → Int32 → Int32 → hp → Option hp
  | 0, _, _, _, _, _, _, _, _ => none
  | n + 1, x0, x1, x2, x3, x4, x5, x6, h =>
    if x5 ≤ x6 then (
      some (h)
    ) else (
      jn (fun (s127_0 : Int32) (h127j : hp) => (
        (ckT h127j x0 13).bind fun _ =>
        (fX14_copiesItem x0 x1 (x2 + s127_0) x3 (x4 + s127_0) h127j).bind fun h2 =>
        fX14_move_l102 n x0 x1 x2 x3 x4 x5 (x6 + 1) h2
        : Option hp)) fun k127 =>
      if x2 ≤ x4 then (
        k127 ((x5 - 1) - x6) h
      ) else (
        k127 x6 h
      )
    )
def fX14_move (a0 : Nat) (a1 : Int32) (a2 : Int32) (a3 : Int32) (a4 : Int32) (a5 : Int32) (h : hp) : Option (Int32 × hp) :=
  bd2 (fX14_isRow a1 h) fun v2 h3 =>
  if v2 = 0 then (
    some ((-1), h3)
  ) else (
    bd2 (fX14_isRow a3 h3) fun v5 h6 =>
    if v5 = 0 then (
      some ((-1), h6)
    ) else (
      (gfR h6 a0 13 48).bind fun v7 =>
      (alI h6 v7 a1).bind fun v9 =>
      if v9 < 0 then (
        some ((-11), h6)
      ) else (
        (gfR h6 a0 13 48).bind fun v11 =>
        (alI h6 v11 a3).bind fun v13 =>
        if 0 ≤ v13 then (
          (gfR h6 a0 13 48).bind fun v15 =>
          (alI h6 v15 a1).bind fun v17 =>
          (gfR h6 a0 13 48).bind fun v19 =>
          (alI h6 v19 a3).bind fun v21 =>
          if v17 = v21 then (
            if a5 < 0 then (
              some ((-13), h6)
            ) else (
              if a2 < 0 then (
                some ((-13), h6)
              ) else (
                if a4 < 0 then (
                  some ((-13), h6)
                ) else (
                  (gfR h6 a0 13 49).bind fun v23 =>
                  (alI h6 v23 a1).bind fun v25 =>
                  if (v25 - a2) < a5 then (
                    some ((-13), h6)
                  ) else (
                    (gfR h6 a0 13 49).bind fun v27 =>
                    (alI h6 v27 a3).bind fun v29 =>
                    if a5 ≤ (v29 - a4) then (
                      (fX14_move_l102 FU a0 a1 a2 a3 a4 a5 0 h6).bind fun h32 =>
                      some (a5, h32)
                    ) else (
                      some ((-13), h6)
                    )
                  )
                )
              )
            )
          ) else (
            some ((-12), h6)
          )
        ) else (
          some ((-11), h6)
        )
      )
    )
  )
set_option maxHeartbeats 4000000 in
set_option maxRecDepth 100000 in
theorem sX14_move_l102 (E : gE) (D : Nat) (hD : 2 ≤ D) {rz : Option Value} {h0 hz : hp} : ∀ (n : Nat) (x0 : Nat) (x1 : Int32) (x2 : Int32) (x3 : Int32) (x4 : Int32) (x5 : Int32) (x6 : Int32) (h : hp) (hq : hp), fX14_move_l102 n x0 x1 x2 x3 x4 x5 x6 h = some hq → (AW E yX14_move cX14_move (Option.some Jvm.ClassFile.FieldType.int) 8 D rz h0 hz 150 [(5, .int x5)] [] hq) → AW E yX14_move cX14_move (Option.some Jvm.ClassFile.FieldType.int) 8 D rz h0 hz 102 [(0, .ref x0), (1, .int x1), (2, .int x2), (3, .int x3), (4, .int x4), (5, .int x5), (6, .int x6)] [] h := by
  intro n
  induction n with
  | zero =>
    intro x0 x1 x2 x3 x4 x5 x6 h hq hf _
    rw [fX14_move_l102] at hf
    cases hf
  | succ n ih =>
    intro x0 x1 x2 x3 x4 x5 x6 h hq hf hk0
    rw [fX14_move_l102] at hf
    refine a_iload (q := 6) dX14_move_102 rfl ?_
    refine a_iload (q := 5) dX14_move_104 rfl ?_
    refine a_icmp_ge (tgt := 150) dX14_move_106 (by decide) (fun c => ?_) (fun c => ?_)
    · have hf := ifp c hf
      obtain rfl := Option.some.inj hf
      exact AW.sub [5] rfl (hk0)
    · have hf := ifn c hf
      refine a_iload_n (q := 2) dX14_move_109 rfl rfl ?_
      refine a_iload (q := 4) dX14_move_110 rfl ?_
      obtain ⟨k127, ek127, hf⟩ := jn_s hf
      have hj127 : ∀ (s127_0 : Int32) (h127j : hp), k127 s127_0 h127j = some hq → AW E yX14_move cX14_move (Option.some Jvm.ClassFile.FieldType.int) 8 D rz h0 hz 127 [(0, .ref x0), (1, .int x1), (2, .int x2), (3, .int x3), (4, .int x4), (5, .int x5), (6, .int x6)] [.int s127_0] h127j := by
        intro s127_0 h127j hf
        rw [ek127] at hf
        clear ek127
        refine a_istore (lv1 := [(7, .int s127_0), (0, .ref x0), (1, .int x1), (2, .int x2), (3, .int x3), (4, .int x4), (5, .int x5), (6, .int x6)]) dX14_move_127 (by decide) rfl ?_
        refine a_aload_n (q := 1) dX14_move_129 rfl rfl ?_
        refine a_iload_n (q := 2) dX14_move_130 rfl rfl ?_
        refine a_iload_n (q := 3) dX14_move_131 rfl rfl ?_
        refine a_iload (q := 0) dX14_move_132 rfl ?_
        refine a_iadd dX14_move_134 ?_
        refine a_iload_n (q := 4) dX14_move_135 rfl rfl ?_
        refine a_iload (q := 5) dX14_move_136 rfl ?_
        refine a_iload (q := 0) dX14_move_138 rfl ?_
        refine a_iadd dX14_move_140 ?_
        obtain ⟨_, e3, hf⟩ := obd hf
        obtain ⟨h2, e1, hf⟩ := obd hf
        refine a_callV (as := [.int x1, .int (x2 + s127_0), .int x3, .int (x4 + s127_0)]) (np := 4) (ci := 13) (st := []) (sX14_copiesItem E (D - 1) (by omega) e1) dX14_move_141 rfl (by omega) (by decide) cw_X14_548 ⟨wd_1810, ws_143⟩ rfl (ckT_s e3) rfl (Nat.le_of_ble_eq_true rfl) ?_
        refine a_iinc (q := 7) (v := (x6 + 1)) (lv1 := [(6, .int (x6 + 1)), (7, .int s127_0), (0, .ref x0), (1, .int x1), (2, .int x2), (3, .int x3), (4, .int x4), (5, .int x5)]) dX14_move_144 rfl (by rfl) (by decide) rfl ?_
        refine a_goto (tgt := 102) dX14_move_147 (by decide) ?_
        exact AW.sub [2, 3, 4, 5, 6, 7, 0] rfl (ih _ _ _ _ _ _ _ _ _ hf hk0)
      clear ek127
      refine a_icmp_le (tgt := 120) dX14_move_112 (by decide) (fun c => ?_) (fun c => ?_)
      · have hf := ifp c hf
        refine a_iload (q := 5) dX14_move_120 rfl ?_
        refine a_iconst (v := 1) dX14_move_122 (by decide) ?_
        refine a_isub dX14_move_123 ?_
        refine a_iload (q := 6) dX14_move_124 rfl ?_
        refine a_isub dX14_move_126 ?_
        exact hj127 _ _ hf
      · have hf := ifn c hf
        refine a_iload (q := 6) dX14_move_115 rfl ?_
        refine a_goto (tgt := 127) dX14_move_117 (by decide) ?_
        exact hj127 _ _ hf
set_option maxHeartbeats 4000000 in
set_option maxRecDepth 100000 in
theorem sX14_move (E : gE) (D : Nat) (hD : 2 ≤ D) {a0 : Nat} {a1 : Int32} {a2 : Int32} {a3 : Int32} {a4 : Int32} {a5 : Int32} {h hz : hp} {v0 : Int32} (hf : fX14_move a0 a1 a2 a3 a4 a5 h = some (v0, hz)) : MC E yX14_move cX14_move (Option.some Jvm.ClassFile.FieldType.int) 8 D [.ref a0, .int a1, .int a2, .int a3, .int a4, .int a5] h (some (.int v0)) hz := by
  refine MC.of (by decide +kernel) (Nat.le_of_ble_eq_true rfl) rfl ?_
  unfold fX14_move at hf
  show AW E yX14_move cX14_move (Option.some Jvm.ClassFile.FieldType.int) 8 D (some (.int v0)) h hz 0 [(0, .ref a0), (1, .int a1), (2, .int a2), (3, .int a3), (4, .int a4), (5, .int a5)] [] h
  refine a_iload_n (q := 1) dX14_move_0 rfl rfl ?_
  obtain ⟨v2, h3, e1, hf⟩ := ob2 hf
  refine a_callS (as := [.int a1]) (np := 1) (st := []) (sX14_isRow E (D - 1) (by omega) e1) dX14_move_1 rfl (by omega) (by decide) cw_X14_537 wd_1785 rfl (Nat.le_of_ble_eq_true rfl) ?_
  refine a_if_eq (tgt := 14) dX14_move_4 (by decide) (fun c => ?_) (fun c => ?_)
  · have hf := ifp c hf
    refine a_iconst (v := (-1)) dX14_move_14 (by decide) ?_
    obtain ⟨rfl, rfl⟩ := oc2 hf
    exact a_ireturn dX14_move_15 rfl
  · have hf := ifn c hf
    refine a_iload_n (q := 3) dX14_move_7 rfl rfl ?_
    obtain ⟨v5, h6, e4, hf⟩ := ob2 hf
    refine a_callS (as := [.int a3]) (np := 1) (st := []) (sX14_isRow E (D - 1) (by omega) e4) dX14_move_8 rfl (by omega) (by decide) cw_X14_537 wd_1785 rfl (Nat.le_of_ble_eq_true rfl) ?_
    refine a_if_ne (tgt := 16) dX14_move_11 (by decide) (fun c => ?_) (fun c => ?_)
    · have hf := ifn c hf
      refine a_aload_n (q := 0) dX14_move_16 rfl rfl ?_
      obtain ⟨v7, e8, hf⟩ := obd hf
      refine o_gfR dX14_move_17 lk_X14_98 rfl e8 ?_
      refine a_iload_n (q := 1) dX14_move_20 rfl rfl ?_
      obtain ⟨v9, e10, hf⟩ := obd hf
      refine o_alI dX14_move_21 e10 ?_
      refine a_if_lt (tgt := 34) dX14_move_22 (by decide) (fun c => ?_) (fun c => ?_)
      · have hf := ifp c hf
        refine a_bipush (v := (-11)) dX14_move_34 (by decide) ?_
        obtain ⟨rfl, rfl⟩ := oc2 hf
        exact a_ireturn dX14_move_36 rfl
      · have hf := ifn c hf
        refine a_aload_n (q := 0) dX14_move_25 rfl rfl ?_
        obtain ⟨v11, e12, hf⟩ := obd hf
        refine o_gfR dX14_move_26 lk_X14_98 rfl e12 ?_
        refine a_iload_n (q := 3) dX14_move_29 rfl rfl ?_
        obtain ⟨v13, e14, hf⟩ := obd hf
        refine o_alI dX14_move_30 e14 ?_
        refine a_if_ge (tgt := 37) dX14_move_31 (by decide) (fun c => ?_) (fun c => ?_)
        · have hf := ifp c hf
          refine a_aload_n (q := 0) dX14_move_37 rfl rfl ?_
          obtain ⟨v15, e16, hf⟩ := obd hf
          refine o_gfR dX14_move_38 lk_X14_98 rfl e16 ?_
          refine a_iload_n (q := 1) dX14_move_41 rfl rfl ?_
          obtain ⟨v17, e18, hf⟩ := obd hf
          refine o_alI dX14_move_42 e18 ?_
          refine a_aload_n (q := 0) dX14_move_43 rfl rfl ?_
          obtain ⟨v19, e20, hf⟩ := obd hf
          refine o_gfR dX14_move_44 lk_X14_98 rfl e20 ?_
          refine a_iload_n (q := 3) dX14_move_47 rfl rfl ?_
          obtain ⟨v21, e22, hf⟩ := obd hf
          refine o_alI dX14_move_48 e22 ?_
          refine a_icmp_eq (tgt := 55) dX14_move_49 (by decide) (fun c => ?_) (fun c => ?_)
          · have hf := ifp c hf
            refine a_iload (q := 5) dX14_move_55 rfl ?_
            refine a_if_lt (tgt := 96) dX14_move_57 (by decide) (fun c => ?_) (fun c => ?_)
            · have hf := ifp c hf
              refine a_bipush (v := (-13)) dX14_move_96 (by decide) ?_
              obtain ⟨rfl, rfl⟩ := oc2 hf
              exact a_ireturn dX14_move_98 rfl
            · have hf := ifn c hf
              refine a_iload_n (q := 2) dX14_move_60 rfl rfl ?_
              refine a_if_lt (tgt := 96) dX14_move_61 (by decide) (fun c => ?_) (fun c => ?_)
              · have hf := ifp c hf
                refine a_bipush (v := (-13)) dX14_move_96 (by decide) ?_
                obtain ⟨rfl, rfl⟩ := oc2 hf
                exact a_ireturn dX14_move_98 rfl
              · have hf := ifn c hf
                refine a_iload (q := 4) dX14_move_64 rfl ?_
                refine a_if_lt (tgt := 96) dX14_move_66 (by decide) (fun c => ?_) (fun c => ?_)
                · have hf := ifp c hf
                  refine a_bipush (v := (-13)) dX14_move_96 (by decide) ?_
                  obtain ⟨rfl, rfl⟩ := oc2 hf
                  exact a_ireturn dX14_move_98 rfl
                · have hf := ifn c hf
                  refine a_iload (q := 5) dX14_move_69 rfl ?_
                  refine a_aload_n (q := 0) dX14_move_71 rfl rfl ?_
                  obtain ⟨v23, e24, hf⟩ := obd hf
                  refine o_gfR dX14_move_72 lk_X14_101 rfl e24 ?_
                  refine a_iload_n (q := 1) dX14_move_75 rfl rfl ?_
                  obtain ⟨v25, e26, hf⟩ := obd hf
                  refine o_alI dX14_move_76 e26 ?_
                  refine a_iload_n (q := 2) dX14_move_77 rfl rfl ?_
                  refine a_isub dX14_move_78 ?_
                  refine a_icmp_gt (tgt := 96) dX14_move_79 (by decide) (fun c => ?_) (fun c => ?_)
                  · have hf := ifp c hf
                    refine a_bipush (v := (-13)) dX14_move_96 (by decide) ?_
                    obtain ⟨rfl, rfl⟩ := oc2 hf
                    exact a_ireturn dX14_move_98 rfl
                  · have hf := ifn c hf
                    refine a_iload (q := 5) dX14_move_82 rfl ?_
                    refine a_aload_n (q := 0) dX14_move_84 rfl rfl ?_
                    obtain ⟨v27, e28, hf⟩ := obd hf
                    refine o_gfR dX14_move_85 lk_X14_101 rfl e28 ?_
                    refine a_iload_n (q := 3) dX14_move_88 rfl rfl ?_
                    obtain ⟨v29, e30, hf⟩ := obd hf
                    refine o_alI dX14_move_89 e30 ?_
                    refine a_iload (q := 4) dX14_move_90 rfl ?_
                    refine a_isub dX14_move_92 ?_
                    refine a_icmp_le (tgt := 99) dX14_move_93 (by decide) (fun c => ?_) (fun c => ?_)
                    · have hf := ifp c hf
                      refine a_iconst (v := 0) dX14_move_99 (by decide) ?_
                      refine a_istore (lv1 := [(6, .int 0), (0, .ref a0), (1, .int a1), (2, .int a2), (3, .int a3), (4, .int a4), (5, .int a5)]) dX14_move_100 (by decide) rfl ?_
                      obtain ⟨h32, e31, hf⟩ := obd hf
                      refine AW.sub [1, 2, 3, 4, 5, 6, 0] rfl (sX14_move_l102 E D hD _ _ _ _ _ _ _ _ _ _ e31 ?_)
                      refine a_iload (q := 0) dX14_move_150 rfl ?_
                      obtain ⟨rfl, rfl⟩ := oc2 hf
                      exact a_ireturn dX14_move_152 rfl
                    · have hf := ifn c hf
                      refine a_bipush (v := (-13)) dX14_move_96 (by decide) ?_
                      obtain ⟨rfl, rfl⟩ := oc2 hf
                      exact a_ireturn dX14_move_98 rfl
          · have hf := ifn c hf
            refine a_bipush (v := (-12)) dX14_move_52 (by decide) ?_
            obtain ⟨rfl, rfl⟩ := oc2 hf
            exact a_ireturn dX14_move_54 rfl
        · have hf := ifn c hf
          refine a_bipush (v := (-11)) dX14_move_34 (by decide) ?_
          obtain ⟨rfl, rfl⟩ := oc2 hf
          exact a_ireturn dX14_move_36 rfl
    · have hf := ifp c hf
      refine a_iconst (v := (-1)) dX14_move_14 (by decide) ?_
      obtain ⟨rfl, rfl⟩ := oc2 hf
      exact a_ireturn dX14_move_15 rfl
def fX14_twin_l54 : Nat → Nat → Int32 → Int32 → Int32 → hp → Option hp
  | 0, _, _, _, _, _ => none
  | n + 1, x0, x1, x2, x3, h =>
    if 60 ≤ x3 then (
      some (h)
    ) else (
      (ckT h x0 13).bind fun _ =>
      (fX14_copiesItem x0 x1 x3 x2 x3 h).bind fun h2 =>
      fX14_twin_l54 n x0 x1 x2 (x3 + 1) h2
    )
def fX14_twin (a0 : Nat) (a1 : Int32) (a2 : Int32) (h : hp) : Option (Int32 × hp) :=
  bd2 (fX14_isRow a1 h) fun v2 h3 =>
  if v2 = 0 then (
    some ((-1), h3)
  ) else (
    bd2 (fX14_isRow a2 h3) fun v5 h6 =>
    if v5 = 0 then (
      some ((-1), h6)
    ) else (
      (gfR h6 a0 13 48).bind fun v7 =>
      (alI h6 v7 a1).bind fun v9 =>
      if 0 ≤ v9 then (
        (gfR h6 a0 13 48).bind fun v11 =>
        (gfR h6 a0 13 48).bind fun v13 =>
        (alI h6 v13 a1).bind fun v15 =>
        (asI h6 v11 a2 v15).bind fun h17 =>
        (gfR h17 a0 13 49).bind fun v19 =>
        (gfR h17 a0 13 49).bind fun v21 =>
        (alI h17 v21 a1).bind fun v23 =>
        (asI h17 v19 a2 v23).bind fun h25 =>
        (fX14_twin_l54 FU a0 a1 a2 0 h25).bind fun h28 =>
        (gfR h28 a0 13 49).bind fun v29 =>
        (alI h28 v29 a1).bind fun v31 =>
        some (v31, h28)
      ) else (
        some ((-11), h6)
      )
    )
  )
set_option maxHeartbeats 4000000 in
set_option maxRecDepth 100000 in
theorem sX14_twin_l54 (E : gE) (D : Nat) (hD : 2 ≤ D) {rz : Option Value} {h0 hz : hp} : ∀ (n : Nat) (x0 : Nat) (x1 : Int32) (x2 : Int32) (x3 : Int32) (h : hp) (hq : hp), fX14_twin_l54 n x0 x1 x2 x3 h = some hq → (AW E yX14_twin cX14_twin (Option.some Jvm.ClassFile.FieldType.int) 4 D rz h0 hz 74 [(0, .ref x0), (1, .int x1)] [] hq) → AW E yX14_twin cX14_twin (Option.some Jvm.ClassFile.FieldType.int) 4 D rz h0 hz 54 [(0, .ref x0), (1, .int x1), (2, .int x2), (3, .int x3)] [] h := by
  intro n
  induction n with
  | zero =>
    intro x0 x1 x2 x3 h hq hf _
    rw [fX14_twin_l54] at hf
    cases hf
  | succ n ih =>
    intro x0 x1 x2 x3 h hq hf hk0
    rw [fX14_twin_l54] at hf
    refine a_iload_n (q := 3) dX14_twin_54 rfl rfl ?_
    refine a_bipush (v := 60) dX14_twin_55 (by decide) ?_
    refine a_icmp_ge (tgt := 74) dX14_twin_57 (by decide) (fun c => ?_) (fun c => ?_)
    · have hf := ifp c hf
      obtain rfl := Option.some.inj hf
      exact AW.sub [0, 1] rfl (hk0)
    · have hf := ifn c hf
      refine a_aload_n (q := 0) dX14_twin_60 rfl rfl ?_
      refine a_iload_n (q := 1) dX14_twin_61 rfl rfl ?_
      refine a_iload_n (q := 3) dX14_twin_62 rfl rfl ?_
      refine a_iload_n (q := 2) dX14_twin_63 rfl rfl ?_
      refine a_iload_n (q := 3) dX14_twin_64 rfl rfl ?_
      obtain ⟨_, e3, hf⟩ := obd hf
      obtain ⟨h2, e1, hf⟩ := obd hf
      refine a_callV (as := [.int x1, .int x3, .int x2, .int x3]) (np := 4) (ci := 13) (st := []) (sX14_copiesItem E (D - 1) (by omega) e1) dX14_twin_65 rfl (by omega) (by decide) cw_X14_548 ⟨wd_1810, ws_143⟩ rfl (ckT_s e3) rfl (Nat.le_of_ble_eq_true rfl) ?_
      refine a_iinc (q := 3) (v := (x3 + 1)) (lv1 := [(3, .int (x3 + 1)), (0, .ref x0), (1, .int x1), (2, .int x2)]) dX14_twin_68 rfl (by rfl) (by decide) rfl ?_
      refine a_goto (tgt := 54) dX14_twin_71 (by decide) ?_
      exact AW.sub [1, 2, 3, 0] rfl (ih _ _ _ _ _ _ hf hk0)
set_option maxHeartbeats 4000000 in
set_option maxRecDepth 100000 in
theorem sX14_twin (E : gE) (D : Nat) (hD : 2 ≤ D) {a0 : Nat} {a1 : Int32} {a2 : Int32} {h hz : hp} {v0 : Int32} (hf : fX14_twin a0 a1 a2 h = some (v0, hz)) : MC E yX14_twin cX14_twin (Option.some Jvm.ClassFile.FieldType.int) 4 D [.ref a0, .int a1, .int a2] h (some (.int v0)) hz := by
  refine MC.of (by decide +kernel) (Nat.le_of_ble_eq_true rfl) rfl ?_
  unfold fX14_twin at hf
  show AW E yX14_twin cX14_twin (Option.some Jvm.ClassFile.FieldType.int) 4 D (some (.int v0)) h hz 0 [(0, .ref a0), (1, .int a1), (2, .int a2)] [] h
  refine a_iload_n (q := 1) dX14_twin_0 rfl rfl ?_
  obtain ⟨v2, h3, e1, hf⟩ := ob2 hf
  refine a_callS (as := [.int a1]) (np := 1) (st := []) (sX14_isRow E (D - 1) (by omega) e1) dX14_twin_1 rfl (by omega) (by decide) cw_X14_537 wd_1785 rfl (Nat.le_of_ble_eq_true rfl) ?_
  refine a_if_eq (tgt := 14) dX14_twin_4 (by decide) (fun c => ?_) (fun c => ?_)
  · have hf := ifp c hf
    refine a_iconst (v := (-1)) dX14_twin_14 (by decide) ?_
    obtain ⟨rfl, rfl⟩ := oc2 hf
    exact a_ireturn dX14_twin_15 rfl
  · have hf := ifn c hf
    refine a_iload_n (q := 2) dX14_twin_7 rfl rfl ?_
    obtain ⟨v5, h6, e4, hf⟩ := ob2 hf
    refine a_callS (as := [.int a2]) (np := 1) (st := []) (sX14_isRow E (D - 1) (by omega) e4) dX14_twin_8 rfl (by omega) (by decide) cw_X14_537 wd_1785 rfl (Nat.le_of_ble_eq_true rfl) ?_
    refine a_if_ne (tgt := 16) dX14_twin_11 (by decide) (fun c => ?_) (fun c => ?_)
    · have hf := ifn c hf
      refine a_aload_n (q := 0) dX14_twin_16 rfl rfl ?_
      obtain ⟨v7, e8, hf⟩ := obd hf
      refine o_gfR dX14_twin_17 lk_X14_98 rfl e8 ?_
      refine a_iload_n (q := 1) dX14_twin_20 rfl rfl ?_
      obtain ⟨v9, e10, hf⟩ := obd hf
      refine o_alI dX14_twin_21 e10 ?_
      refine a_if_ge (tgt := 28) dX14_twin_22 (by decide) (fun c => ?_) (fun c => ?_)
      · have hf := ifp c hf
        refine a_aload_n (q := 0) dX14_twin_28 rfl rfl ?_
        obtain ⟨v11, e12, hf⟩ := obd hf
        refine o_gfR dX14_twin_29 lk_X14_98 rfl e12 ?_
        refine a_iload_n (q := 2) dX14_twin_32 rfl rfl ?_
        refine a_aload_n (q := 0) dX14_twin_33 rfl rfl ?_
        obtain ⟨v13, e14, hf⟩ := obd hf
        refine o_gfR dX14_twin_34 lk_X14_98 rfl e14 ?_
        refine a_iload_n (q := 1) dX14_twin_37 rfl rfl ?_
        obtain ⟨v15, e16, hf⟩ := obd hf
        refine o_alI dX14_twin_38 e16 ?_
        obtain ⟨h17, e18, hf⟩ := obd hf
        refine o_asI dX14_twin_39 e18 ?_
        refine a_aload_n (q := 0) dX14_twin_40 rfl rfl ?_
        obtain ⟨v19, e20, hf⟩ := obd hf
        refine o_gfR dX14_twin_41 lk_X14_101 rfl e20 ?_
        refine a_iload_n (q := 2) dX14_twin_44 rfl rfl ?_
        refine a_aload_n (q := 0) dX14_twin_45 rfl rfl ?_
        obtain ⟨v21, e22, hf⟩ := obd hf
        refine o_gfR dX14_twin_46 lk_X14_101 rfl e22 ?_
        refine a_iload_n (q := 1) dX14_twin_49 rfl rfl ?_
        obtain ⟨v23, e24, hf⟩ := obd hf
        refine o_alI dX14_twin_50 e24 ?_
        obtain ⟨h25, e26, hf⟩ := obd hf
        refine o_asI dX14_twin_51 e26 ?_
        refine a_iconst (v := 0) dX14_twin_52 (by decide) ?_
        refine a_istore_n (lv1 := [(3, .int 0), (0, .ref a0), (1, .int a1), (2, .int a2)]) dX14_twin_53 rfl (by decide) rfl ?_
        obtain ⟨h28, e27, hf⟩ := obd hf
        refine AW.sub [1, 2, 3, 0] rfl (sX14_twin_l54 E D hD _ _ _ _ _ _ _ e27 ?_)
        refine a_aload_n (q := 0) dX14_twin_74 rfl rfl ?_
        obtain ⟨v29, e30, hf⟩ := obd hf
        refine o_gfR dX14_twin_75 lk_X14_101 rfl e30 ?_
        refine a_iload_n (q := 1) dX14_twin_78 rfl rfl ?_
        obtain ⟨v31, e32, hf⟩ := obd hf
        refine o_alI dX14_twin_79 e32 ?_
        obtain ⟨rfl, rfl⟩ := oc2 hf
        exact a_ireturn dX14_twin_80 rfl
      · have hf := ifn c hf
        refine a_bipush (v := (-11)) dX14_twin_25 (by decide) ?_
        obtain ⟨rfl, rfl⟩ := oc2 hf
        exact a_ireturn dX14_twin_27 rfl
    · have hf := ifp c hf
      refine a_iconst (v := (-1)) dX14_twin_14 (by decide) ?_
      obtain ⟨rfl, rfl⟩ := oc2 hf
      exact a_ireturn dX14_twin_15 rfl
def fX14_lay_l15 : Nat → Nat → Int32 → Int32 → Int32 → hp → Option (Nat × hp)
  | 0, _, _, _, _, _ => none
  | n + 1, x0, x1, x2, x4, h =>
    (gfI h x0 13 21).bind fun v1 =>
    if v1 ≤ x4 then (
      some (1, h)
    ) else (
      if x2 < 0 then (
        some (0, h)
      ) else (
        (gfR h x0 13 49).bind fun v3 =>
        (alI h v3 x1).bind fun v5 =>
        if x4 < (v5 - x2) then (
          (gfR h x0 13 19).bind fun v7 =>
          (alI h v7 x4).bind fun v9 =>
          (ckT h x0 13).bind fun _ =>
          (fX14_holds x0 x1 (x2 + x4) (v9.toInt64) h).bind fun h12 =>
          fX14_lay_l15 n x0 x1 x2 (x4 + 1) h12
        ) else (
          some (0, h)
        )
      )
    )
def fX14_lay (a0 : Nat) (a1 : Int32) (a2 : Int32) (h : hp) : Option (Int32 × hp) :=
  (ckT h a0 13).bind fun _ =>
  bd2 (fX14_wrong a0 a1 h) fun v2 h3 =>
  if v2 = 0 then (
    bd2 (fX14_lay_l15 FU a0 a1 a2 0 h3) fun t7 h6 =>
    if t7 = 0 then (
      some ((-13), h6)
    ) else
    if t7 = 1 then (
      (gfI h6 a0 13 21).bind fun v8 =>
      some (v8, h6)
    ) else none
  ) else (
    some (v2, h3)
  )
set_option maxHeartbeats 4000000 in
set_option maxRecDepth 100000 in
theorem sX14_lay_l15 (E : gE) (D : Nat) (hD : 3 ≤ D) {rz : Option Value} {h0 hz : hp} : ∀ (n : Nat) (x0 : Nat) (x1 : Int32) (x2 : Int32) (x4 : Int32) (h : hp) (tq : Nat) (hq : hp), fX14_lay_l15 n x0 x1 x2 x4 h = some (tq, hq) → (tq = 0 → AW E yX14_lay cX14_lay (Option.some Jvm.ClassFile.FieldType.int) 5 D rz h0 hz 41 [] [] hq) → (tq = 1 → AW E yX14_lay cX14_lay (Option.some Jvm.ClassFile.FieldType.int) 5 D rz h0 hz 67 [(0, .ref x0)] [] hq) → AW E yX14_lay cX14_lay (Option.some Jvm.ClassFile.FieldType.int) 5 D rz h0 hz 15 [(0, .ref x0), (1, .int x1), (2, .int x2), (4, .int x4)] [] h := by
  intro n
  induction n with
  | zero =>
    intro x0 x1 x2 x4 h tq hq hf _ _
    rw [fX14_lay_l15] at hf
    cases hf
  | succ n ih =>
    intro x0 x1 x2 x4 h tq hq hf hk0 hk1
    rw [fX14_lay_l15] at hf
    refine a_iload (q := 3) dX14_lay_15 rfl ?_
    refine a_aload_n (q := 0) dX14_lay_17 rfl rfl ?_
    obtain ⟨v1, e2, hf⟩ := obd hf
    refine o_gfI dX14_lay_18 lk_X14_512 rfl e2 ?_
    refine a_icmp_ge (tgt := 67) dX14_lay_21 (by decide) (fun c => ?_) (fun c => ?_)
    · have hf := ifp c hf
      obtain ⟨rfl, rfl⟩ := oc2 hf
      exact AW.sub [0] rfl (hk1 rfl)
    · have hf := ifn c hf
      refine a_iload_n (q := 2) dX14_lay_24 rfl rfl ?_
      refine a_if_lt (tgt := 41) dX14_lay_25 (by decide) (fun c => ?_) (fun c => ?_)
      · have hf := ifp c hf
        obtain ⟨rfl, rfl⟩ := oc2 hf
        exact AW.sub [] rfl (hk0 rfl)
      · have hf := ifn c hf
        refine a_iload (q := 3) dX14_lay_28 rfl ?_
        refine a_aload_n (q := 0) dX14_lay_30 rfl rfl ?_
        obtain ⟨v3, e4, hf⟩ := obd hf
        refine o_gfR dX14_lay_31 lk_X14_101 rfl e4 ?_
        refine a_iload_n (q := 1) dX14_lay_34 rfl rfl ?_
        obtain ⟨v5, e6, hf⟩ := obd hf
        refine o_alI dX14_lay_35 e6 ?_
        refine a_iload_n (q := 2) dX14_lay_36 rfl rfl ?_
        refine a_isub dX14_lay_37 ?_
        refine a_icmp_lt (tgt := 44) dX14_lay_38 (by decide) (fun c => ?_) (fun c => ?_)
        · have hf := ifp c hf
          refine a_aload_n (q := 0) dX14_lay_44 rfl rfl ?_
          refine a_iload_n (q := 1) dX14_lay_45 rfl rfl ?_
          refine a_iload_n (q := 2) dX14_lay_46 rfl rfl ?_
          refine a_iload (q := 3) dX14_lay_47 rfl ?_
          refine a_iadd dX14_lay_49 ?_
          refine a_aload_n (q := 0) dX14_lay_50 rfl rfl ?_
          obtain ⟨v7, e8, hf⟩ := obd hf
          refine o_gfR dX14_lay_51 lk_X14_43 rfl e8 ?_
          refine a_iload (q := 3) dX14_lay_54 rfl ?_
          obtain ⟨v9, e10, hf⟩ := obd hf
          refine o_alI dX14_lay_56 e10 ?_
          refine a_i2l dX14_lay_57 rfl ?_
          obtain ⟨_, e13, hf⟩ := obd hf
          obtain ⟨h12, e11, hf⟩ := obd hf
          refine a_callV (as := [.int x1, .int (x2 + x4), .long (v9.toInt64)]) (np := 3) (ci := 13) (st := []) (sX14_holds E (D - 1) (by omega) e11) dX14_lay_58 rfl (by omega) (by decide) cw_X14_543 ⟨wd_1797, ws_142⟩ rfl (ckT_s e13) rfl (Nat.le_of_ble_eq_true rfl) ?_
          refine a_iinc (q := 3) (v := (x4 + 1)) (lv1 := [(4, .int (x4 + 1)), (0, .ref x0), (1, .int x1), (2, .int x2)]) dX14_lay_61 rfl (by rfl) (by decide) rfl ?_
          refine a_goto (tgt := 15) dX14_lay_64 (by decide) ?_
          exact AW.sub [1, 2, 3, 0] rfl (ih _ _ _ _ _ _ _ hf hk0 hk1)
        · have hf := ifn c hf
          obtain ⟨rfl, rfl⟩ := oc2 hf
          exact AW.sub [] rfl (hk0 rfl)
set_option maxHeartbeats 4000000 in
set_option maxRecDepth 100000 in
theorem sX14_lay (E : gE) (D : Nat) (hD : 3 ≤ D) {a0 : Nat} {a1 : Int32} {a2 : Int32} {h hz : hp} {v0 : Int32} (hf : fX14_lay a0 a1 a2 h = some (v0, hz)) : MC E yX14_lay cX14_lay (Option.some Jvm.ClassFile.FieldType.int) 5 D [.ref a0, .int a1, .int a2] h (some (.int v0)) hz := by
  refine MC.of (by decide +kernel) (Nat.le_of_ble_eq_true rfl) rfl ?_
  unfold fX14_lay at hf
  show AW E yX14_lay cX14_lay (Option.some Jvm.ClassFile.FieldType.int) 5 D (some (.int v0)) h hz 0 [(0, .ref a0), (1, .int a1), (2, .int a2)] [] h
  refine a_aload_n (q := 0) dX14_lay_0 rfl rfl ?_
  refine a_iload_n (q := 1) dX14_lay_1 rfl rfl ?_
  obtain ⟨_, e4, hf⟩ := obd hf
  obtain ⟨v2, h3, e1, hf⟩ := ob2 hf
  refine a_callV (as := [.int a1]) (np := 1) (ci := 13) (st := []) (sX14_wrong E (D - 1) (by omega) e1) dX14_lay_2 rfl (by omega) (by decide) cw_X14_540 ⟨wd_1793, ws_141⟩ rfl (ckT_s e4) rfl (Nat.le_of_ble_eq_true rfl) ?_
  refine a_istore_n (lv1 := [(3, .int v2), (0, .ref a0), (1, .int a1), (2, .int a2)]) dX14_lay_5 rfl (by decide) rfl ?_
  refine a_iload_n (q := 0) dX14_lay_6 rfl rfl ?_
  refine a_if_eq (tgt := 12) dX14_lay_7 (by decide) (fun c => ?_) (fun c => ?_)
  · have hf := ifp c hf
    refine a_iconst (v := 0) dX14_lay_12 (by decide) ?_
    refine a_istore (lv1 := [(4, .int 0), (3, .int v2), (0, .ref a0), (1, .int a1), (2, .int a2)]) dX14_lay_13 (by decide) rfl ?_
    obtain ⟨t7, h6, e5, hf⟩ := ob2 hf
    refine AW.sub [2, 3, 4, 0] rfl (sX14_lay_l15 E D hD _ _ _ _ _ _ _ _ e5 (fun c => ?_) (fun c => ?_))
    · have hf := ifp c hf
      refine a_bipush (v := (-13)) dX14_lay_41 (by decide) ?_
      obtain ⟨rfl, rfl⟩ := oc2 hf
      exact a_ireturn dX14_lay_43 rfl
    · have hf := ifn (by rw [c]; decide) hf
      have hf := ifp c hf
      refine a_aload_n (q := 0) dX14_lay_67 rfl rfl ?_
      obtain ⟨v8, e9, hf⟩ := obd hf
      refine o_gfI dX14_lay_68 lk_X14_512 rfl e9 ?_
      obtain ⟨rfl, rfl⟩ := oc2 hf
      exact a_ireturn dX14_lay_71 rfl
  · have hf := ifn c hf
    refine a_iload_n (q := 0) dX14_lay_10 rfl rfl ?_
    obtain ⟨rfl, rfl⟩ := oc2 hf
    exact a_ireturn dX14_lay_11 rfl
def fX14_cast (a0 : Nat) (a1 : Int32) (a2 : Int32) (h : hp) : Option (Int32 × hp) :=
  (gfR h a0 13 48).bind fun v1 =>
  (alI h v1 a1).bind fun v3 =>
  if v3 = 2 then (
    (gfR h a0 13 51).bind fun v9 =>
    (alF h v9 ((60 * a1) + a2)).bind fun v11 =>
    some ((FP.f2i v11), h)
  ) else (
    (gfR h a0 13 50).bind fun v5 =>
    (alI h v5 ((60 * a1) + a2)).bind fun v7 =>
    some (v7, h)
  )
set_option maxHeartbeats 4000000 in
set_option maxRecDepth 100000 in
theorem sX14_cast (E : gE) (D : Nat) (hD : 0 ≤ D) {a0 : Nat} {a1 : Int32} {a2 : Int32} {h hz : hp} {v0 : Int32} (hf : fX14_cast a0 a1 a2 h = some (v0, hz)) : MC E yX14_cast cX14_cast (Option.some Jvm.ClassFile.FieldType.int) 3 D [.ref a0, .int a1, .int a2] h (some (.int v0)) hz := by
  refine MC.of (by decide +kernel) (Nat.le_of_ble_eq_true rfl) rfl ?_
  unfold fX14_cast at hf
  show AW E yX14_cast cX14_cast (Option.some Jvm.ClassFile.FieldType.int) 3 D (some (.int v0)) h hz 0 [(0, .ref a0), (1, .int a1), (2, .int a2)] [] h
  refine a_aload_n (q := 0) dX14_cast_0 rfl rfl ?_
  obtain ⟨v1, e2, hf⟩ := obd hf
  refine o_gfR dX14_cast_1 lk_X14_98 rfl e2 ?_
  refine a_iload_n (q := 1) dX14_cast_4 rfl rfl ?_
  obtain ⟨v3, e4, hf⟩ := obd hf
  refine o_alI dX14_cast_5 e4 ?_
  refine a_iconst (v := 2) dX14_cast_6 (by decide) ?_
  refine a_icmp_ne (tgt := 25) dX14_cast_7 (by decide) (fun c => ?_) (fun c => ?_)
  · have hf := ifn c hf
    refine a_aload_n (q := 0) dX14_cast_25 rfl rfl ?_
    obtain ⟨v5, e6, hf⟩ := obd hf
    refine o_gfR dX14_cast_26 lk_X14_104 rfl e6 ?_
    refine a_bipush (v := 60) dX14_cast_29 (by decide) ?_
    refine a_iload_n (q := 1) dX14_cast_31 rfl rfl ?_
    refine a_imul dX14_cast_32 ?_
    refine a_iload_n (q := 2) dX14_cast_33 rfl rfl ?_
    refine a_iadd dX14_cast_34 ?_
    obtain ⟨v7, e8, hf⟩ := obd hf
    refine o_alI dX14_cast_35 e8 ?_
    obtain ⟨rfl, rfl⟩ := oc2 hf
    exact a_ireturn dX14_cast_36 rfl
  · have hf := ifp c hf
    refine a_aload_n (q := 0) dX14_cast_10 rfl rfl ?_
    obtain ⟨v9, e10, hf⟩ := obd hf
    refine o_gfR dX14_cast_11 lk_X14_107 rfl e10 ?_
    refine a_bipush (v := 60) dX14_cast_14 (by decide) ?_
    refine a_iload_n (q := 1) dX14_cast_16 rfl rfl ?_
    refine a_imul dX14_cast_17 ?_
    refine a_iload_n (q := 2) dX14_cast_18 rfl rfl ?_
    refine a_iadd dX14_cast_19 ?_
    obtain ⟨v11, e12, hf⟩ := obd hf
    refine o_alF dX14_cast_20 e12 ?_
    refine a_f2i dX14_cast_21 ?_
    refine a_goto (tgt := 36) dX14_cast_22 (by decide) ?_
    obtain ⟨rfl, rfl⟩ := oc2 hf
    exact a_ireturn dX14_cast_36 rfl

def fX14_goesOnBy (a0 : Nat) (a1 : Int32) (h : hp) : Option hp :=
  (gfI h a0 13 23).bind fun v1 =>
  if v1 = 0 then (
    jn (fun (s29_0 : Int32) (h29j : hp) => (
      (pfI h29j a0 13 23 s29_0).bind fun h13 =>
      some h13
      : Option hp)) fun k29 =>
    if a1 = 60 then (
      k29 1 h
    ) else (
      if a1 = 96 then (
        k29 3 h
      ) else (
        k29 0 h
      )
    )
  ) else (
    (gfI h a0 13 23).bind fun v3 =>
    if v3 = 1 then (
      jn (fun (s65_0 : Int32) (h65j : hp) => (
        (pfI h65j a0 13 23 s65_0).bind fun h11 =>
        some h11
        : Option hp)) fun k65 =>
      if a1 = 62 then (
        k65 0 h
      ) else (
        if a1 = 34 then (
          k65 2 h
        ) else (
          k65 1 h
        )
      )
    ) else (
      (gfI h a0 13 23).bind fun v5 =>
      if v5 = 2 then (
        jn (fun (s91_0 : Int32) (h91j : hp) => (
          (pfI h91j a0 13 23 s91_0).bind fun h9 =>
          some h9
          : Option hp)) fun k91 =>
        if a1 = 34 then (
          k91 1 h
        ) else (
          k91 2 h
        )
      ) else (
        jn (fun (s109_0 : Int32) (h109j : hp) => (
          (pfI h109j a0 13 23 s109_0).bind fun h7 =>
          some h7
          : Option hp)) fun k109 =>
        if a1 = 96 then (
          k109 0 h
        ) else (
          k109 3 h
        )
      )
    )
  )
set_option maxHeartbeats 4000000 in
set_option maxRecDepth 100000 in
theorem sX14_goesOnBy (E : gE) (D : Nat) (hD : 0 ≤ D) {a0 : Nat} {a1 : Int32} {h hz : hp} (hf : fX14_goesOnBy a0 a1 h = some hz) : MC E yX14_goesOnBy cX14_goesOnBy (Option.none : Option Jvm.ClassFile.FieldType) 2 D [.ref a0, .int a1] h none hz := by
  refine MC.of (by decide +kernel) (Nat.le_of_ble_eq_true rfl) rfl ?_
  unfold fX14_goesOnBy at hf
  show AW E yX14_goesOnBy cX14_goesOnBy (Option.none : Option Jvm.ClassFile.FieldType) 2 D none h hz 0 [(0, .ref a0), (1, .int a1)] [] h
  refine a_aload_n (q := 0) dX14_goesOnBy_0 rfl rfl ?_
  obtain ⟨v1, e2, hf⟩ := obd hf
  refine o_gfI dX14_goesOnBy_1 lk_X14_384 rfl e2 ?_
  refine a_if_ne (tgt := 35) dX14_goesOnBy_4 (by decide) (fun c => ?_) (fun c => ?_)
  · have hf := ifn c hf
    refine a_aload_n (q := 0) dX14_goesOnBy_35 rfl rfl ?_
    obtain ⟨v3, e4, hf⟩ := obd hf
    refine o_gfI dX14_goesOnBy_36 lk_X14_384 rfl e4 ?_
    refine a_iconst (v := 1) dX14_goesOnBy_39 (by decide) ?_
    refine a_icmp_ne (tgt := 71) dX14_goesOnBy_40 (by decide) (fun c => ?_) (fun c => ?_)
    · have hf := ifn c hf
      refine a_aload_n (q := 0) dX14_goesOnBy_71 rfl rfl ?_
      obtain ⟨v5, e6, hf⟩ := obd hf
      refine o_gfI dX14_goesOnBy_72 lk_X14_384 rfl e6 ?_
      refine a_iconst (v := 2) dX14_goesOnBy_75 (by decide) ?_
      refine a_icmp_ne (tgt := 97) dX14_goesOnBy_76 (by decide) (fun c => ?_) (fun c => ?_)
      · have hf := ifn c hf
        refine a_aload_n (q := 0) dX14_goesOnBy_97 rfl rfl ?_
        refine a_iload_n (q := 1) dX14_goesOnBy_98 rfl rfl ?_
        refine a_bipush (v := 96) dX14_goesOnBy_99 (by decide) ?_
        obtain ⟨k109, ek109, hf⟩ := jn_s hf
        have hj109 : ∀ (s109_0 : Int32) (h109j : hp), k109 s109_0 h109j = some hz → AW E yX14_goesOnBy cX14_goesOnBy (Option.none : Option Jvm.ClassFile.FieldType) 2 D none h hz 109 [] [.int s109_0, .ref a0] h109j := by
          intro s109_0 h109j hf
          rw [ek109] at hf
          clear ek109
          obtain ⟨h7, e8, hf⟩ := obd hf
          refine o_pfI dX14_goesOnBy_109 lk_X14_384 (⟨_, rfl, Or.inl rfl⟩) rfl e8 ?_
          obtain rfl := Option.some.inj hf
          exact a_return dX14_goesOnBy_112 rfl
        clear ek109
        refine a_icmp_ne (tgt := 108) dX14_goesOnBy_101 (by decide) (fun c => ?_) (fun c => ?_)
        · have hf := ifn c hf
          refine a_iconst (v := 3) dX14_goesOnBy_108 (by decide) ?_
          exact AW.sub [] rfl (hj109 _ _ hf)
        · have hf := ifp c hf
          refine a_iconst (v := 0) dX14_goesOnBy_104 (by decide) ?_
          refine a_goto (tgt := 109) dX14_goesOnBy_105 (by decide) ?_
          exact AW.sub [] rfl (hj109 _ _ hf)
      · have hf := ifp c hf
        refine a_aload_n (q := 0) dX14_goesOnBy_79 rfl rfl ?_
        refine a_iload_n (q := 1) dX14_goesOnBy_80 rfl rfl ?_
        refine a_bipush (v := 34) dX14_goesOnBy_81 (by decide) ?_
        obtain ⟨k91, ek91, hf⟩ := jn_s hf
        have hj91 : ∀ (s91_0 : Int32) (h91j : hp), k91 s91_0 h91j = some hz → AW E yX14_goesOnBy cX14_goesOnBy (Option.none : Option Jvm.ClassFile.FieldType) 2 D none h hz 91 [] [.int s91_0, .ref a0] h91j := by
          intro s91_0 h91j hf
          rw [ek91] at hf
          clear ek91
          obtain ⟨h9, e10, hf⟩ := obd hf
          refine o_pfI dX14_goesOnBy_91 lk_X14_384 (⟨_, rfl, Or.inl rfl⟩) rfl e10 ?_
          refine a_goto (tgt := 112) dX14_goesOnBy_94 (by decide) ?_
          obtain rfl := Option.some.inj hf
          exact a_return dX14_goesOnBy_112 rfl
        clear ek91
        refine a_icmp_ne (tgt := 90) dX14_goesOnBy_83 (by decide) (fun c => ?_) (fun c => ?_)
        · have hf := ifn c hf
          refine a_iconst (v := 2) dX14_goesOnBy_90 (by decide) ?_
          exact AW.sub [] rfl (hj91 _ _ hf)
        · have hf := ifp c hf
          refine a_iconst (v := 1) dX14_goesOnBy_86 (by decide) ?_
          refine a_goto (tgt := 91) dX14_goesOnBy_87 (by decide) ?_
          exact AW.sub [] rfl (hj91 _ _ hf)
    · have hf := ifp c hf
      refine a_aload_n (q := 0) dX14_goesOnBy_43 rfl rfl ?_
      refine a_iload_n (q := 1) dX14_goesOnBy_44 rfl rfl ?_
      refine a_bipush (v := 62) dX14_goesOnBy_45 (by decide) ?_
      obtain ⟨k65, ek65, hf⟩ := jn_s hf
      have hj65 : ∀ (s65_0 : Int32) (h65j : hp), k65 s65_0 h65j = some hz → AW E yX14_goesOnBy cX14_goesOnBy (Option.none : Option Jvm.ClassFile.FieldType) 2 D none h hz 65 [] [.int s65_0, .ref a0] h65j := by
        intro s65_0 h65j hf
        rw [ek65] at hf
        clear ek65
        obtain ⟨h11, e12, hf⟩ := obd hf
        refine o_pfI dX14_goesOnBy_65 lk_X14_384 (⟨_, rfl, Or.inl rfl⟩) rfl e12 ?_
        refine a_goto (tgt := 112) dX14_goesOnBy_68 (by decide) ?_
        obtain rfl := Option.some.inj hf
        exact a_return dX14_goesOnBy_112 rfl
      clear ek65
      refine a_icmp_ne (tgt := 54) dX14_goesOnBy_47 (by decide) (fun c => ?_) (fun c => ?_)
      · have hf := ifn c hf
        refine a_iload_n (q := 1) dX14_goesOnBy_54 rfl rfl ?_
        refine a_bipush (v := 34) dX14_goesOnBy_55 (by decide) ?_
        refine a_icmp_ne (tgt := 64) dX14_goesOnBy_57 (by decide) (fun c => ?_) (fun c => ?_)
        · have hf := ifn c hf
          refine a_iconst (v := 1) dX14_goesOnBy_64 (by decide) ?_
          exact AW.sub [] rfl (hj65 _ _ hf)
        · have hf := ifp c hf
          refine a_iconst (v := 2) dX14_goesOnBy_60 (by decide) ?_
          refine a_goto (tgt := 65) dX14_goesOnBy_61 (by decide) ?_
          exact AW.sub [] rfl (hj65 _ _ hf)
      · have hf := ifp c hf
        refine a_iconst (v := 0) dX14_goesOnBy_50 (by decide) ?_
        refine a_goto (tgt := 65) dX14_goesOnBy_51 (by decide) ?_
        exact AW.sub [] rfl (hj65 _ _ hf)
  · have hf := ifp c hf
    refine a_aload_n (q := 0) dX14_goesOnBy_7 rfl rfl ?_
    refine a_iload_n (q := 1) dX14_goesOnBy_8 rfl rfl ?_
    refine a_bipush (v := 60) dX14_goesOnBy_9 (by decide) ?_
    obtain ⟨k29, ek29, hf⟩ := jn_s hf
    have hj29 : ∀ (s29_0 : Int32) (h29j : hp), k29 s29_0 h29j = some hz → AW E yX14_goesOnBy cX14_goesOnBy (Option.none : Option Jvm.ClassFile.FieldType) 2 D none h hz 29 [] [.int s29_0, .ref a0] h29j := by
      intro s29_0 h29j hf
      rw [ek29] at hf
      clear ek29
      obtain ⟨h13, e14, hf⟩ := obd hf
      refine o_pfI dX14_goesOnBy_29 lk_X14_384 (⟨_, rfl, Or.inl rfl⟩) rfl e14 ?_
      refine a_goto (tgt := 112) dX14_goesOnBy_32 (by decide) ?_
      obtain rfl := Option.some.inj hf
      exact a_return dX14_goesOnBy_112 rfl
    clear ek29
    refine a_icmp_ne (tgt := 18) dX14_goesOnBy_11 (by decide) (fun c => ?_) (fun c => ?_)
    · have hf := ifn c hf
      refine a_iload_n (q := 1) dX14_goesOnBy_18 rfl rfl ?_
      refine a_bipush (v := 96) dX14_goesOnBy_19 (by decide) ?_
      refine a_icmp_ne (tgt := 28) dX14_goesOnBy_21 (by decide) (fun c => ?_) (fun c => ?_)
      · have hf := ifn c hf
        refine a_iconst (v := 0) dX14_goesOnBy_28 (by decide) ?_
        exact AW.sub [] rfl (hj29 _ _ hf)
      · have hf := ifp c hf
        refine a_iconst (v := 3) dX14_goesOnBy_24 (by decide) ?_
        refine a_goto (tgt := 29) dX14_goesOnBy_25 (by decide) ?_
        exact AW.sub [] rfl (hj29 _ _ hf)
    · have hf := ifp c hf
      refine a_iconst (v := 1) dX14_goesOnBy_14 (by decide) ?_
      refine a_goto (tgt := 29) dX14_goesOnBy_15 (by decide) ?_
      exact AW.sub [] rfl (hj29 _ _ hf)
def fX14_isLetterOrFigure (a0 : Int32) (h : hp) : Option (Int32 × hp) :=
  bd2 (fX14_isIn (a0.toInt64) 48 57 h) fun v2 h3 =>
  if v2 = 0 then (
    bd2 (fX14_isIn (a0.toInt64) 97 122 h3) fun v5 h6 =>
    if v5 = 0 then (
      bd2 (fX14_isIn (a0.toInt64) 65 90 h6) fun v8 h9 =>
      if v8 = 0 then (
        some (0, h9)
      ) else (
        some (1, h9)
      )
    ) else (
      some (1, h6)
    )
  ) else (
    some (1, h3)
  )
set_option maxHeartbeats 4000000 in
set_option maxRecDepth 100000 in
theorem sX14_isLetterOrFigure (E : gE) (D : Nat) (hD : 1 ≤ D) {a0 : Int32} {h hz : hp} {v0 : Int32} (hf : fX14_isLetterOrFigure a0 h = some (v0, hz)) : MC E yX14_isLetterOrFigure cX14_isLetterOrFigure (Option.some Jvm.ClassFile.FieldType.boolean) 1 D [.int a0] h (some (.int v0)) hz := by
  refine MC.of (by decide +kernel) (Nat.le_of_ble_eq_true rfl) rfl ?_
  unfold fX14_isLetterOrFigure at hf
  show AW E yX14_isLetterOrFigure cX14_isLetterOrFigure (Option.some Jvm.ClassFile.FieldType.boolean) 1 D (some (.int v0)) h hz 0 [(0, .int a0)] [] h
  refine a_iload_n (q := 0) dX14_isLetterOrFigure_0 rfl rfl ?_
  refine a_i2l dX14_isLetterOrFigure_1 rfl ?_
  refine a_ldc2 (v := 48) dX14_isLetterOrFigure_2 wd_1385 ?_
  refine a_ldc2 (v := 57) dX14_isLetterOrFigure_5 wd_1386 ?_
  obtain ⟨v2, h3, e1, hf⟩ := ob2 hf
  refine a_callS (as := [.long (a0.toInt64), .long 48, .long 57]) (np := 3) (st := []) (sX14_isIn E (D - 1) (by omega) e1) dX14_isLetterOrFigure_8 rfl (by omega) (by decide) cw_X14_155 wd_1324 rfl (Nat.le_of_ble_eq_true rfl) ?_
  refine a_if_ne (tgt := 42) dX14_isLetterOrFigure_11 (by decide) (fun c => ?_) (fun c => ?_)
  · have hf := ifn c hf
    refine a_iconst (v := 1) dX14_isLetterOrFigure_42 (by decide) ?_
    refine a_goto (tgt := 47) dX14_isLetterOrFigure_43 (by decide) ?_
    obtain ⟨rfl, rfl⟩ := oc2 hf
    exact a_zreturn dX14_isLetterOrFigure_47 rfl (by decide)
  · have hf := ifp c hf
    refine a_iload_n (q := 0) dX14_isLetterOrFigure_14 rfl rfl ?_
    refine a_i2l dX14_isLetterOrFigure_15 rfl ?_
    refine a_ldc2 (v := 97) dX14_isLetterOrFigure_16 wd_1379 ?_
    refine a_ldc2 (v := 122) dX14_isLetterOrFigure_19 wd_1395 ?_
    obtain ⟨v5, h6, e4, hf⟩ := ob2 hf
    refine a_callS (as := [.long (a0.toInt64), .long 97, .long 122]) (np := 3) (st := []) (sX14_isIn E (D - 1) (by omega) e4) dX14_isLetterOrFigure_22 rfl (by omega) (by decide) cw_X14_155 wd_1324 rfl (Nat.le_of_ble_eq_true rfl) ?_
    refine a_if_ne (tgt := 42) dX14_isLetterOrFigure_25 (by decide) (fun c => ?_) (fun c => ?_)
    · have hf := ifn c hf
      refine a_iconst (v := 1) dX14_isLetterOrFigure_42 (by decide) ?_
      refine a_goto (tgt := 47) dX14_isLetterOrFigure_43 (by decide) ?_
      obtain ⟨rfl, rfl⟩ := oc2 hf
      exact a_zreturn dX14_isLetterOrFigure_47 rfl (by decide)
    · have hf := ifp c hf
      refine a_iload_n (q := 0) dX14_isLetterOrFigure_28 rfl rfl ?_
      refine a_i2l dX14_isLetterOrFigure_29 rfl ?_
      refine a_ldc2 (v := 65) dX14_isLetterOrFigure_30 wd_1684 ?_
      refine a_ldc2 (v := 90) dX14_isLetterOrFigure_33 wd_1685 ?_
      obtain ⟨v8, h9, e7, hf⟩ := ob2 hf
      refine a_callS (as := [.long (a0.toInt64), .long 65, .long 90]) (np := 3) (st := []) (sX14_isIn E (D - 1) (by omega) e7) dX14_isLetterOrFigure_36 rfl (by omega) (by decide) cw_X14_155 wd_1324 rfl (Nat.le_of_ble_eq_true rfl) ?_
      refine a_if_eq (tgt := 46) dX14_isLetterOrFigure_39 (by decide) (fun c => ?_) (fun c => ?_)
      · have hf := ifp c hf
        refine a_iconst (v := 0) dX14_isLetterOrFigure_46 (by decide) ?_
        obtain ⟨rfl, rfl⟩ := oc2 hf
        exact a_zreturn dX14_isLetterOrFigure_47 rfl (by decide)
      · have hf := ifn c hf
        refine a_iconst (v := 1) dX14_isLetterOrFigure_42 (by decide) ?_
        refine a_goto (tgt := 47) dX14_isLetterOrFigure_43 (by decide) ?_
        obtain ⟨rfl, rfl⟩ := oc2 hf
        exact a_zreturn dX14_isLetterOrFigure_47 rfl (by decide)
def fX14_putsNamed (a0 : Nat) (a1 : Int32) (h : hp) : Option (Int32 × hp) :=
  (ckT h a0 13).bind fun _ =>
  bd2 (fX14_puts a0 38 h) fun v2 h3 =>
  if v2 = 0 then (
    some (0, h3)
  ) else (
    (ckT h3 a0 13).bind fun _ =>
    bd2 (fX14_puts a0 a1 h3) fun v6 h7 =>
    if v6 = 0 then (
      some (0, h7)
    ) else (
      (ckT h7 a0 13).bind fun _ =>
      bd2 (fX14_puts a0 59 h7) fun v10 h11 =>
      if v10 = 0 then (
        some (0, h11)
      ) else (
        some (1, h11)
      )
    )
  )
set_option maxHeartbeats 4000000 in
set_option maxRecDepth 100000 in
theorem sX14_putsNamed (E : gE) (D : Nat) (hD : 2 ≤ D) {a0 : Nat} {a1 : Int32} {h hz : hp} {v0 : Int32} (hf : fX14_putsNamed a0 a1 h = some (v0, hz)) : MC E yX14_putsNamed cX14_putsNamed (Option.some Jvm.ClassFile.FieldType.boolean) 2 D [.ref a0, .int a1] h (some (.int v0)) hz := by
  refine MC.of (by decide +kernel) (Nat.le_of_ble_eq_true rfl) rfl ?_
  unfold fX14_putsNamed at hf
  show AW E yX14_putsNamed cX14_putsNamed (Option.some Jvm.ClassFile.FieldType.boolean) 2 D (some (.int v0)) h hz 0 [(0, .ref a0), (1, .int a1)] [] h
  refine a_aload_n (q := 0) dX14_putsNamed_0 rfl rfl ?_
  refine a_bipush (v := 38) dX14_putsNamed_1 (by decide) ?_
  obtain ⟨_, e4, hf⟩ := obd hf
  obtain ⟨v2, h3, e1, hf⟩ := ob2 hf
  refine a_callV (as := [.int 38]) (np := 1) (ci := 13) (st := []) (sX14_puts E (D - 1) (by omega) e1) dX14_putsNamed_3 rfl (by omega) (by decide) cw_X14_391 ⟨wd_1688, ws_133⟩ rfl (ckT_s e4) rfl (Nat.le_of_ble_eq_true rfl) ?_
  refine a_if_eq (tgt := 30) dX14_putsNamed_6 (by decide) (fun c => ?_) (fun c => ?_)
  · have hf := ifp c hf
    refine a_iconst (v := 0) dX14_putsNamed_30 (by decide) ?_
    obtain ⟨rfl, rfl⟩ := oc2 hf
    exact a_zreturn dX14_putsNamed_31 rfl (by decide)
  · have hf := ifn c hf
    refine a_aload_n (q := 0) dX14_putsNamed_9 rfl rfl ?_
    refine a_iload_n (q := 1) dX14_putsNamed_10 rfl rfl ?_
    obtain ⟨_, e8, hf⟩ := obd hf
    obtain ⟨v6, h7, e5, hf⟩ := ob2 hf
    refine a_callV (as := [.int a1]) (np := 1) (ci := 13) (st := []) (sX14_puts E (D - 1) (by omega) e5) dX14_putsNamed_11 rfl (by omega) (by decide) cw_X14_391 ⟨wd_1688, ws_133⟩ rfl (ckT_s e8) rfl (Nat.le_of_ble_eq_true rfl) ?_
    refine a_if_eq (tgt := 30) dX14_putsNamed_14 (by decide) (fun c => ?_) (fun c => ?_)
    · have hf := ifp c hf
      refine a_iconst (v := 0) dX14_putsNamed_30 (by decide) ?_
      obtain ⟨rfl, rfl⟩ := oc2 hf
      exact a_zreturn dX14_putsNamed_31 rfl (by decide)
    · have hf := ifn c hf
      refine a_aload_n (q := 0) dX14_putsNamed_17 rfl rfl ?_
      refine a_bipush (v := 59) dX14_putsNamed_18 (by decide) ?_
      obtain ⟨_, e12, hf⟩ := obd hf
      obtain ⟨v10, h11, e9, hf⟩ := ob2 hf
      refine a_callV (as := [.int 59]) (np := 1) (ci := 13) (st := []) (sX14_puts E (D - 1) (by omega) e9) dX14_putsNamed_20 rfl (by omega) (by decide) cw_X14_391 ⟨wd_1688, ws_133⟩ rfl (ckT_s e12) rfl (Nat.le_of_ble_eq_true rfl) ?_
      refine a_if_eq (tgt := 30) dX14_putsNamed_23 (by decide) (fun c => ?_) (fun c => ?_)
      · have hf := ifp c hf
        refine a_iconst (v := 0) dX14_putsNamed_30 (by decide) ?_
        obtain ⟨rfl, rfl⟩ := oc2 hf
        exact a_zreturn dX14_putsNamed_31 rfl (by decide)
      · have hf := ifn c hf
        refine a_iconst (v := 1) dX14_putsNamed_26 (by decide) ?_
        refine a_goto (tgt := 31) dX14_putsNamed_27 (by decide) ?_
        obtain ⟨rfl, rfl⟩ := oc2 hf
        exact a_zreturn dX14_putsNamed_31 rfl (by decide)
def fX14_putsEscaped (a0 : Nat) (a1 : Int32) (h : hp) : Option (Int32 × hp) :=
  (gfI h a0 13 23).bind fun v1 =>
  if v1 = 1 then (
    bd2 (fX14_isLetterOrFigure a1 h) fun v36 h37 =>
    jn (fun (s22_0 : Int32) (h22j : hp) => (
      (ckT h22j a0 13).bind fun _ =>
      bd2 (fX14_puts a0 s22_0 h22j) fun v39 h40 =>
      (zck v39).bind fun _ =>
      some (v39, h40)
      : Option (Int32 × hp))) fun k22 =>
    if v36 = 0 then (
      k22 95 h37
    ) else (
      k22 a1 h37
    )
  ) else (
    (gfI h a0 13 23).bind fun v3 =>
    if v3 = 3 then (
      jn (fun (h55j : hp) => (
        (ckT h55j a0 13).bind fun _ =>
        bd2 (fX14_puts a0 a1 h55j) fun v28 h29 =>
        if v28 = 0 then (
          some (0, h29)
        ) else (
          some (1, h29)
        )
        : Option (Int32 × hp))) fun k55 =>
      jn (fun (h46j : hp) => (
        (ckT h46j a0 13).bind fun _ =>
        bd2 (fX14_puts a0 92 h46j) fun v32 h33 =>
        if v32 = 0 then (
          some (0, h33)
        ) else (
          k55 h33
        )
        : Option (Int32 × hp))) fun k46 =>
      if a1 = 96 then (
        k46 h
      ) else (
        if a1 = 92 then (
          k46 h
        ) else (
          k55 h
        )
      )
    ) else (
      if a1 = 60 then (
        (ckT h a0 13).bind fun _ =>
        bd2 (fX14_putsNamed a0 108 h) fun v23 h24 =>
        (zck v23).bind fun _ =>
        some (v23, h24)
      ) else (
        if a1 = 38 then (
          (ckT h a0 13).bind fun _ =>
          bd2 (fX14_putsNamed a0 97 h) fun v18 h19 =>
          (zck v18).bind fun _ =>
          some (v18, h19)
        ) else (
          (gfI h a0 13 23).bind fun v5 =>
          jn (fun (h118j : hp) => (
            (ckT h118j a0 13).bind fun _ =>
            bd2 (fX14_puts a0 a1 h118j) fun v8 h9 =>
            (zck v8).bind fun _ =>
            some (v8, h9)
            : Option (Int32 × hp))) fun k118 =>
          if v5 = 2 then (
            if a1 = 34 then (
              (ckT h a0 13).bind fun _ =>
              bd2 (fX14_putsNamed a0 113 h) fun v13 h14 =>
              (zck v13).bind fun _ =>
              some (v13, h14)
            ) else (
              k118 h
            )
          ) else (
            k118 h
          )
        )
      )
    )
  )
set_option maxHeartbeats 4000000 in
set_option maxRecDepth 100000 in
theorem sX14_putsEscaped (E : gE) (D : Nat) (hD : 3 ≤ D) {a0 : Nat} {a1 : Int32} {h hz : hp} {v0 : Int32} (hf : fX14_putsEscaped a0 a1 h = some (v0, hz)) : MC E yX14_putsEscaped cX14_putsEscaped (Option.some Jvm.ClassFile.FieldType.boolean) 2 D [.ref a0, .int a1] h (some (.int v0)) hz := by
  refine MC.of (by decide +kernel) (Nat.le_of_ble_eq_true rfl) rfl ?_
  unfold fX14_putsEscaped at hf
  show AW E yX14_putsEscaped cX14_putsEscaped (Option.some Jvm.ClassFile.FieldType.boolean) 2 D (some (.int v0)) h hz 0 [(0, .ref a0), (1, .int a1)] [] h
  refine a_aload_n (q := 0) dX14_putsEscaped_0 rfl rfl ?_
  obtain ⟨v1, e2, hf⟩ := obd hf
  refine o_gfI dX14_putsEscaped_1 lk_X14_384 rfl e2 ?_
  refine a_iconst (v := 1) dX14_putsEscaped_4 (by decide) ?_
  refine a_icmp_ne (tgt := 26) dX14_putsEscaped_5 (by decide) (fun c => ?_) (fun c => ?_)
  · have hf := ifn c hf
    refine a_aload_n (q := 0) dX14_putsEscaped_26 rfl rfl ?_
    obtain ⟨v3, e4, hf⟩ := obd hf
    refine o_gfI dX14_putsEscaped_27 lk_X14_384 rfl e4 ?_
    refine a_iconst (v := 3) dX14_putsEscaped_30 (by decide) ?_
    refine a_icmp_ne (tgt := 69) dX14_putsEscaped_31 (by decide) (fun c => ?_) (fun c => ?_)
    · have hf := ifn c hf
      refine a_iload_n (q := 1) dX14_putsEscaped_69 rfl rfl ?_
      refine a_bipush (v := 60) dX14_putsEscaped_70 (by decide) ?_
      refine a_icmp_ne (tgt := 82) dX14_putsEscaped_72 (by decide) (fun c => ?_) (fun c => ?_)
      · have hf := ifn c hf
        refine a_iload_n (q := 1) dX14_putsEscaped_82 rfl rfl ?_
        refine a_bipush (v := 38) dX14_putsEscaped_83 (by decide) ?_
        refine a_icmp_ne (tgt := 95) dX14_putsEscaped_85 (by decide) (fun c => ?_) (fun c => ?_)
        · have hf := ifn c hf
          refine a_aload_n (q := 0) dX14_putsEscaped_95 rfl rfl ?_
          obtain ⟨v5, e6, hf⟩ := obd hf
          refine o_gfI dX14_putsEscaped_96 lk_X14_384 rfl e6 ?_
          refine a_iconst (v := 2) dX14_putsEscaped_99 (by decide) ?_
          obtain ⟨k118, ek118, hf⟩ := jn_s hf
          have hj118 : ∀ (h118j : hp), k118 h118j = some (v0, hz) → AW E yX14_putsEscaped cX14_putsEscaped (Option.some Jvm.ClassFile.FieldType.boolean) 2 D (some (.int v0)) h hz 118 [(0, .ref a0), (1, .int a1)] [] h118j := by
            intro h118j hf
            rw [ek118] at hf
            clear ek118
            refine a_aload_n (q := 0) dX14_putsEscaped_118 rfl rfl ?_
            refine a_iload_n (q := 1) dX14_putsEscaped_119 rfl rfl ?_
            obtain ⟨_, e10, hf⟩ := obd hf
            obtain ⟨v8, h9, e7, hf⟩ := ob2 hf
            refine a_callV (as := [.int a1]) (np := 1) (ci := 13) (st := []) (sX14_puts E (D - 1) (by omega) e7) dX14_putsEscaped_120 rfl (by omega) (by decide) cw_X14_391 ⟨wd_1688, ws_133⟩ rfl (ckT_s e10) rfl (Nat.le_of_ble_eq_true rfl) ?_
            obtain ⟨_, e11, hf⟩ := obd hf
            obtain ⟨rfl, rfl⟩ := oc2 hf
            exact a_zreturn dX14_putsEscaped_123 rfl (zck_s e11)
          clear ek118
          refine a_icmp_ne (tgt := 118) dX14_putsEscaped_100 (by decide) (fun c => ?_) (fun c => ?_)
          · have hf := ifn c hf
            exact hj118 _ hf
          · have hf := ifp c hf
            refine a_iload_n (q := 1) dX14_putsEscaped_103 rfl rfl ?_
            refine a_bipush (v := 34) dX14_putsEscaped_104 (by decide) ?_
            refine a_icmp_ne (tgt := 118) dX14_putsEscaped_106 (by decide) (fun c => ?_) (fun c => ?_)
            · have hf := ifn c hf
              exact hj118 _ hf
            · have hf := ifp c hf
              refine a_aload_n (q := 0) dX14_putsEscaped_109 rfl rfl ?_
              refine a_bipush (v := 113) dX14_putsEscaped_110 (by decide) ?_
              obtain ⟨_, e15, hf⟩ := obd hf
              obtain ⟨v13, h14, e12, hf⟩ := ob2 hf
              refine a_callV (as := [.int 113]) (np := 1) (ci := 13) (st := []) (sX14_putsNamed E (D - 1) (by omega) e12) dX14_putsEscaped_112 rfl (by omega) (by decide) cw_X14_397 ⟨wd_1696, ws_135⟩ rfl (ckT_s e15) rfl (Nat.le_of_ble_eq_true rfl) ?_
              refine a_goto (tgt := 123) dX14_putsEscaped_115 (by decide) ?_
              obtain ⟨_, e16, hf⟩ := obd hf
              obtain ⟨rfl, rfl⟩ := oc2 hf
              exact a_zreturn dX14_putsEscaped_123 rfl (zck_s e16)
        · have hf := ifp c hf
          refine a_aload_n (q := 0) dX14_putsEscaped_88 rfl rfl ?_
          refine a_bipush (v := 97) dX14_putsEscaped_89 (by decide) ?_
          obtain ⟨_, e20, hf⟩ := obd hf
          obtain ⟨v18, h19, e17, hf⟩ := ob2 hf
          refine a_callV (as := [.int 97]) (np := 1) (ci := 13) (st := []) (sX14_putsNamed E (D - 1) (by omega) e17) dX14_putsEscaped_91 rfl (by omega) (by decide) cw_X14_397 ⟨wd_1696, ws_135⟩ rfl (ckT_s e20) rfl (Nat.le_of_ble_eq_true rfl) ?_
          obtain ⟨_, e21, hf⟩ := obd hf
          obtain ⟨rfl, rfl⟩ := oc2 hf
          exact a_zreturn dX14_putsEscaped_94 rfl (zck_s e21)
      · have hf := ifp c hf
        refine a_aload_n (q := 0) dX14_putsEscaped_75 rfl rfl ?_
        refine a_bipush (v := 108) dX14_putsEscaped_76 (by decide) ?_
        obtain ⟨_, e25, hf⟩ := obd hf
        obtain ⟨v23, h24, e22, hf⟩ := ob2 hf
        refine a_callV (as := [.int 108]) (np := 1) (ci := 13) (st := []) (sX14_putsNamed E (D - 1) (by omega) e22) dX14_putsEscaped_78 rfl (by omega) (by decide) cw_X14_397 ⟨wd_1696, ws_135⟩ rfl (ckT_s e25) rfl (Nat.le_of_ble_eq_true rfl) ?_
        obtain ⟨_, e26, hf⟩ := obd hf
        obtain ⟨rfl, rfl⟩ := oc2 hf
        exact a_zreturn dX14_putsEscaped_81 rfl (zck_s e26)
    · have hf := ifp c hf
      refine a_iload_n (q := 1) dX14_putsEscaped_34 rfl rfl ?_
      refine a_bipush (v := 96) dX14_putsEscaped_35 (by decide) ?_
      obtain ⟨k55, ek55, hf⟩ := jn_s hf
      have hj55 : ∀ (h55j : hp), k55 h55j = some (v0, hz) → AW E yX14_putsEscaped cX14_putsEscaped (Option.some Jvm.ClassFile.FieldType.boolean) 2 D (some (.int v0)) h hz 55 [(0, .ref a0), (1, .int a1)] [] h55j := by
        intro h55j hf
        rw [ek55] at hf
        clear ek55
        refine a_aload_n (q := 0) dX14_putsEscaped_55 rfl rfl ?_
        refine a_iload_n (q := 1) dX14_putsEscaped_56 rfl rfl ?_
        obtain ⟨_, e30, hf⟩ := obd hf
        obtain ⟨v28, h29, e27, hf⟩ := ob2 hf
        refine a_callV (as := [.int a1]) (np := 1) (ci := 13) (st := []) (sX14_puts E (D - 1) (by omega) e27) dX14_putsEscaped_57 rfl (by omega) (by decide) cw_X14_391 ⟨wd_1688, ws_133⟩ rfl (ckT_s e30) rfl (Nat.le_of_ble_eq_true rfl) ?_
        refine a_if_eq (tgt := 67) dX14_putsEscaped_60 (by decide) (fun c => ?_) (fun c => ?_)
        · have hf := ifp c hf
          refine a_iconst (v := 0) dX14_putsEscaped_67 (by decide) ?_
          obtain ⟨rfl, rfl⟩ := oc2 hf
          exact a_zreturn dX14_putsEscaped_68 rfl (by decide)
        · have hf := ifn c hf
          refine a_iconst (v := 1) dX14_putsEscaped_63 (by decide) ?_
          refine a_goto (tgt := 68) dX14_putsEscaped_64 (by decide) ?_
          obtain ⟨rfl, rfl⟩ := oc2 hf
          exact a_zreturn dX14_putsEscaped_68 rfl (by decide)
      clear ek55
      obtain ⟨k46, ek46, hf⟩ := jn_s hf
      have hj46 : ∀ (h46j : hp), k46 h46j = some (v0, hz) → AW E yX14_putsEscaped cX14_putsEscaped (Option.some Jvm.ClassFile.FieldType.boolean) 2 D (some (.int v0)) h hz 46 [(0, .ref a0), (1, .int a1)] [] h46j := by
        intro h46j hf
        rw [ek46] at hf
        clear ek46
        refine a_aload_n (q := 0) dX14_putsEscaped_46 rfl rfl ?_
        refine a_bipush (v := 92) dX14_putsEscaped_47 (by decide) ?_
        obtain ⟨_, e34, hf⟩ := obd hf
        obtain ⟨v32, h33, e31, hf⟩ := ob2 hf
        refine a_callV (as := [.int 92]) (np := 1) (ci := 13) (st := []) (sX14_puts E (D - 1) (by omega) e31) dX14_putsEscaped_49 rfl (by omega) (by decide) cw_X14_391 ⟨wd_1688, ws_133⟩ rfl (ckT_s e34) rfl (Nat.le_of_ble_eq_true rfl) ?_
        refine a_if_eq (tgt := 67) dX14_putsEscaped_52 (by decide) (fun c => ?_) (fun c => ?_)
        · have hf := ifp c hf
          refine a_iconst (v := 0) dX14_putsEscaped_67 (by decide) ?_
          obtain ⟨rfl, rfl⟩ := oc2 hf
          exact a_zreturn dX14_putsEscaped_68 rfl (by decide)
        · have hf := ifn c hf
          exact hj55 _ hf
      clear ek46
      refine a_icmp_eq (tgt := 46) dX14_putsEscaped_37 (by decide) (fun c => ?_) (fun c => ?_)
      · have hf := ifp c hf
        exact hj46 _ hf
      · have hf := ifn c hf
        refine a_iload_n (q := 1) dX14_putsEscaped_40 rfl rfl ?_
        refine a_bipush (v := 92) dX14_putsEscaped_41 (by decide) ?_
        refine a_icmp_ne (tgt := 55) dX14_putsEscaped_43 (by decide) (fun c => ?_) (fun c => ?_)
        · have hf := ifn c hf
          exact hj55 _ hf
        · have hf := ifp c hf
          exact hj46 _ hf
  · have hf := ifp c hf
    refine a_aload_n (q := 0) dX14_putsEscaped_8 rfl rfl ?_
    refine a_iload_n (q := 1) dX14_putsEscaped_9 rfl rfl ?_
    obtain ⟨v36, h37, e35, hf⟩ := ob2 hf
    refine a_callS (as := [.int a1]) (np := 1) (st := [.ref a0]) (sX14_isLetterOrFigure E (D - 1) (by omega) e35) dX14_putsEscaped_10 rfl (by omega) (by decide) cw_X14_394 wd_1682 rfl (Nat.le_of_ble_eq_true rfl) ?_
    obtain ⟨k22, ek22, hf⟩ := jn_s hf
    have hj22 : ∀ (s22_0 : Int32) (h22j : hp), k22 s22_0 h22j = some (v0, hz) → AW E yX14_putsEscaped cX14_putsEscaped (Option.some Jvm.ClassFile.FieldType.boolean) 2 D (some (.int v0)) h hz 22 [] [.int s22_0, .ref a0] h22j := by
      intro s22_0 h22j hf
      rw [ek22] at hf
      clear ek22
      obtain ⟨_, e41, hf⟩ := obd hf
      obtain ⟨v39, h40, e38, hf⟩ := ob2 hf
      refine a_callV (as := [.int s22_0]) (np := 1) (ci := 13) (st := []) (sX14_puts E (D - 1) (by omega) e38) dX14_putsEscaped_22 rfl (by omega) (by decide) cw_X14_391 ⟨wd_1688, ws_133⟩ rfl (ckT_s e41) rfl (Nat.le_of_ble_eq_true rfl) ?_
      obtain ⟨_, e42, hf⟩ := obd hf
      obtain ⟨rfl, rfl⟩ := oc2 hf
      exact a_zreturn dX14_putsEscaped_25 rfl (zck_s e42)
    clear ek22
    refine a_if_eq (tgt := 20) dX14_putsEscaped_13 (by decide) (fun c => ?_) (fun c => ?_)
    · have hf := ifp c hf
      refine a_bipush (v := 95) dX14_putsEscaped_20 (by decide) ?_
      exact AW.sub [] rfl (hj22 _ _ hf)
    · have hf := ifn c hf
      refine a_iload_n (q := 1) dX14_putsEscaped_16 rfl rfl ?_
      refine a_goto (tgt := 22) dX14_putsEscaped_17 (by decide) ?_
      exact AW.sub [] rfl (hj22 _ _ hf)
def fX14_keeps_l68 : Nat → Nat → Int32 → Int32 → Int32 → hp → Option hp
  | 0, _, _, _, _, _ => none
  | n + 1, x0, x1, x2, x3, h =>
    if 16 ≤ x3 then (
      some (h)
    ) else (
      (gfR h x0 13 28).bind fun v1 =>
      (gfR h x0 13 3).bind fun v3 =>
      (alI h v3 ((16 * x1) + x3)).bind fun v5 =>
      (asI h v1 ((16 * x2) + x3) v5).bind fun h7 =>
      fX14_keeps_l68 n x0 x1 x2 (x3 + 1) h7
    )
def fX14_keeps_l2 : Nat → Nat → Int32 → hp → Option hp
  | 0, _, _, _ => none
  | n + 1, x0, x1, h =>
    if 8 ≤ x1 then (
      some (h)
    ) else (
      (gfI h x0 13 30).bind fun v1 =>
      (gfR h x0 13 25).bind fun v3 =>
      (gfR h x0 13 0).bind fun v5 =>
      (alI h v5 x1).bind fun v7 =>
      (asI h v3 ((8 * v1) + x1) v7).bind fun h9 =>
      (gfR h9 x0 13 26).bind fun v11 =>
      (gfR h9 x0 13 1).bind fun v13 =>
      (alI h9 v13 x1).bind fun v15 =>
      (asI h9 v11 ((8 * v1) + x1) v15).bind fun h17 =>
      (gfR h17 x0 13 27).bind fun v19 =>
      (gfR h17 x0 13 2).bind fun v21 =>
      (alI h17 v21 x1).bind fun v23 =>
      (asI h17 v19 ((8 * v1) + x1) v23).bind fun h25 =>
      (gfR h25 x0 13 29).bind fun v27 =>
      (gfR h25 x0 13 4).bind fun v29 =>
      (alF h25 v29 x1).bind fun v31 =>
      (asF h25 v27 ((8 * v1) + x1) v31).bind fun h33 =>
      (fX14_keeps_l68 FU x0 x1 ((8 * v1) + x1) 0 h33).bind fun h36 =>
      fX14_keeps_l2 n x0 (x1 + 1) h36
    )
def fX14_keeps (a0 : Nat) (h : hp) : Option hp :=
  (fX14_keeps_l2 FU a0 0 h).bind fun h2 =>
  (gfI h2 a0 13 30).bind fun v3 =>
  (pfI h2 a0 13 30 (v3 + 1)).bind fun h5 =>
  some h5
set_option maxHeartbeats 4000000 in
set_option maxRecDepth 100000 in
theorem sX14_keeps_l68 (E : gE) (D : Nat) (hD : 0 ≤ D) {rz : Option Value} {h0 hz : hp} : ∀ (n : Nat) (x0 : Nat) (x1 : Int32) (x2 : Int32) (x3 : Int32) (h : hp) (hq : hp), fX14_keeps_l68 n x0 x1 x2 x3 h = some hq → (AW E yX14_keeps cX14_keeps (Option.none : Option Jvm.ClassFile.FieldType) 4 D rz h0 hz 102 [(0, .ref x0), (1, .int x1)] [] hq) → AW E yX14_keeps cX14_keeps (Option.none : Option Jvm.ClassFile.FieldType) 4 D rz h0 hz 68 [(0, .ref x0), (1, .int x1), (2, .int x2), (3, .int x3)] [] h := by
  intro n
  induction n with
  | zero =>
    intro x0 x1 x2 x3 h hq hf _
    rw [fX14_keeps_l68] at hf
    cases hf
  | succ n ih =>
    intro x0 x1 x2 x3 h hq hf hk0
    rw [fX14_keeps_l68] at hf
    refine a_iload_n (q := 3) dX14_keeps_68 rfl rfl ?_
    refine a_bipush (v := 16) dX14_keeps_69 (by decide) ?_
    refine a_icmp_ge (tgt := 102) dX14_keeps_71 (by decide) (fun c => ?_) (fun c => ?_)
    · have hf := ifp c hf
      obtain rfl := Option.some.inj hf
      exact AW.sub [0, 1] rfl (hk0)
    · have hf := ifn c hf
      refine a_aload_n (q := 0) dX14_keeps_74 rfl rfl ?_
      obtain ⟨v1, e2, hf⟩ := obd hf
      refine o_gfR dX14_keeps_75 lk_X14_62 rfl e2 ?_
      refine a_bipush (v := 16) dX14_keeps_78 (by decide) ?_
      refine a_iload_n (q := 2) dX14_keeps_80 rfl rfl ?_
      refine a_imul dX14_keeps_81 ?_
      refine a_iload_n (q := 3) dX14_keeps_82 rfl rfl ?_
      refine a_iadd dX14_keeps_83 ?_
      refine a_aload_n (q := 0) dX14_keeps_84 rfl rfl ?_
      obtain ⟨v3, e4, hf⟩ := obd hf
      refine o_gfR dX14_keeps_85 lk_X14_21 rfl e4 ?_
      refine a_bipush (v := 16) dX14_keeps_88 (by decide) ?_
      refine a_iload_n (q := 1) dX14_keeps_90 rfl rfl ?_
      refine a_imul dX14_keeps_91 ?_
      refine a_iload_n (q := 3) dX14_keeps_92 rfl rfl ?_
      refine a_iadd dX14_keeps_93 ?_
      obtain ⟨v5, e6, hf⟩ := obd hf
      refine o_alI dX14_keeps_94 e6 ?_
      obtain ⟨h7, e8, hf⟩ := obd hf
      refine o_asI dX14_keeps_95 e8 ?_
      refine a_iinc (q := 3) (v := (x3 + 1)) (lv1 := [(3, .int (x3 + 1)), (0, .ref x0), (1, .int x1), (2, .int x2)]) dX14_keeps_96 rfl (by rfl) (by decide) rfl ?_
      refine a_goto (tgt := 68) dX14_keeps_99 (by decide) ?_
      exact AW.sub [1, 2, 3, 0] rfl (ih _ _ _ _ _ _ hf hk0)
set_option maxHeartbeats 4000000 in
set_option maxRecDepth 100000 in
theorem sX14_keeps_l2 (E : gE) (D : Nat) (hD : 0 ≤ D) {rz : Option Value} {h0 hz : hp} : ∀ (n : Nat) (x0 : Nat) (x1 : Int32) (h : hp) (hq : hp), fX14_keeps_l2 n x0 x1 h = some hq → (AW E yX14_keeps cX14_keeps (Option.none : Option Jvm.ClassFile.FieldType) 4 D rz h0 hz 108 [(0, .ref x0)] [] hq) → AW E yX14_keeps cX14_keeps (Option.none : Option Jvm.ClassFile.FieldType) 4 D rz h0 hz 2 [(0, .ref x0), (1, .int x1)] [] h := by
  intro n
  induction n with
  | zero =>
    intro x0 x1 h hq hf _
    rw [fX14_keeps_l2] at hf
    cases hf
  | succ n ih =>
    intro x0 x1 h hq hf hk0
    rw [fX14_keeps_l2] at hf
    refine a_iload_n (q := 1) dX14_keeps_2 rfl rfl ?_
    refine a_bipush (v := 8) dX14_keeps_3 (by decide) ?_
    refine a_icmp_ge (tgt := 108) dX14_keeps_5 (by decide) (fun c => ?_) (fun c => ?_)
    · have hf := ifp c hf
      obtain rfl := Option.some.inj hf
      exact AW.sub [0] rfl (hk0)
    · have hf := ifn c hf
      refine a_bipush (v := 8) dX14_keeps_8 (by decide) ?_
      refine a_aload_n (q := 0) dX14_keeps_10 rfl rfl ?_
      obtain ⟨v1, e2, hf⟩ := obd hf
      refine o_gfI dX14_keeps_11 lk_X14_400 rfl e2 ?_
      refine a_imul dX14_keeps_14 ?_
      refine a_iload_n (q := 1) dX14_keeps_15 rfl rfl ?_
      refine a_iadd dX14_keeps_16 ?_
      refine a_istore_n (lv1 := [(2, .int ((8 * v1) + x1)), (0, .ref x0), (1, .int x1)]) dX14_keeps_17 rfl (by decide) rfl ?_
      refine a_aload_n (q := 1) dX14_keeps_18 rfl rfl ?_
      obtain ⟨v3, e4, hf⟩ := obd hf
      refine o_gfR dX14_keeps_19 lk_X14_53 rfl e4 ?_
      refine a_iload_n (q := 0) dX14_keeps_22 rfl rfl ?_
      refine a_aload_n (q := 1) dX14_keeps_23 rfl rfl ?_
      obtain ⟨v5, e6, hf⟩ := obd hf
      refine o_gfR dX14_keeps_24 lk_X14_11 rfl e6 ?_
      refine a_iload_n (q := 2) dX14_keeps_27 rfl rfl ?_
      obtain ⟨v7, e8, hf⟩ := obd hf
      refine o_alI dX14_keeps_28 e8 ?_
      obtain ⟨h9, e10, hf⟩ := obd hf
      refine o_asI dX14_keeps_29 e10 ?_
      refine a_aload_n (q := 1) dX14_keeps_30 rfl rfl ?_
      obtain ⟨v11, e12, hf⟩ := obd hf
      refine o_gfR dX14_keeps_31 lk_X14_56 rfl e12 ?_
      refine a_iload_n (q := 0) dX14_keeps_34 rfl rfl ?_
      refine a_aload_n (q := 1) dX14_keeps_35 rfl rfl ?_
      obtain ⟨v13, e14, hf⟩ := obd hf
      refine o_gfR dX14_keeps_36 lk_X14_15 rfl e14 ?_
      refine a_iload_n (q := 2) dX14_keeps_39 rfl rfl ?_
      obtain ⟨v15, e16, hf⟩ := obd hf
      refine o_alI dX14_keeps_40 e16 ?_
      obtain ⟨h17, e18, hf⟩ := obd hf
      refine o_asI dX14_keeps_41 e18 ?_
      refine a_aload_n (q := 1) dX14_keeps_42 rfl rfl ?_
      obtain ⟨v19, e20, hf⟩ := obd hf
      refine o_gfR dX14_keeps_43 lk_X14_59 rfl e20 ?_
      refine a_iload_n (q := 0) dX14_keeps_46 rfl rfl ?_
      refine a_aload_n (q := 1) dX14_keeps_47 rfl rfl ?_
      obtain ⟨v21, e22, hf⟩ := obd hf
      refine o_gfR dX14_keeps_48 lk_X14_18 rfl e22 ?_
      refine a_iload_n (q := 2) dX14_keeps_51 rfl rfl ?_
      obtain ⟨v23, e24, hf⟩ := obd hf
      refine o_alI dX14_keeps_52 e24 ?_
      obtain ⟨h25, e26, hf⟩ := obd hf
      refine o_asI dX14_keeps_53 e26 ?_
      refine a_aload_n (q := 1) dX14_keeps_54 rfl rfl ?_
      obtain ⟨v27, e28, hf⟩ := obd hf
      refine o_gfR dX14_keeps_55 lk_X14_65 rfl e28 ?_
      refine a_iload_n (q := 0) dX14_keeps_58 rfl rfl ?_
      refine a_aload_n (q := 1) dX14_keeps_59 rfl rfl ?_
      obtain ⟨v29, e30, hf⟩ := obd hf
      refine o_gfR dX14_keeps_60 lk_X14_24 rfl e30 ?_
      refine a_iload_n (q := 2) dX14_keeps_63 rfl rfl ?_
      obtain ⟨v31, e32, hf⟩ := obd hf
      refine o_alF dX14_keeps_64 e32 ?_
      obtain ⟨h33, e34, hf⟩ := obd hf
      refine o_asF dX14_keeps_65 e34 ?_
      refine a_iconst (v := 0) dX14_keeps_66 (by decide) ?_
      refine a_istore_n (lv1 := [(3, .int 0), (2, .int ((8 * v1) + x1)), (0, .ref x0), (1, .int x1)]) dX14_keeps_67 rfl (by decide) rfl ?_
      obtain ⟨h36, e35, hf⟩ := obd hf
      refine AW.sub [2, 3, 1, 0] rfl (sX14_keeps_l68 E D hD _ _ _ _ _ _ _ e35 ?_)
      refine a_iinc (q := 1) (v := (x1 + 1)) (lv1 := [(1, .int (x1 + 1)), (0, .ref x0)]) dX14_keeps_102 rfl (by rfl) (by decide) rfl ?_
      refine a_goto (tgt := 2) dX14_keeps_105 (by decide) ?_
      exact AW.sub [1, 0] rfl (ih _ _ _ _ hf hk0)
set_option maxHeartbeats 4000000 in
set_option maxRecDepth 100000 in
theorem sX14_keeps (E : gE) (D : Nat) (hD : 0 ≤ D) {a0 : Nat} {h hz : hp} (hf : fX14_keeps a0 h = some hz) : MC E yX14_keeps cX14_keeps (Option.none : Option Jvm.ClassFile.FieldType) 4 D [.ref a0] h none hz := by
  refine MC.of (by decide +kernel) (Nat.le_of_ble_eq_true rfl) rfl ?_
  unfold fX14_keeps at hf
  show AW E yX14_keeps cX14_keeps (Option.none : Option Jvm.ClassFile.FieldType) 4 D none h hz 0 [(0, .ref a0)] [] h
  refine a_iconst (v := 0) dX14_keeps_0 (by decide) ?_
  refine a_istore_n (lv1 := [(1, .int 0), (0, .ref a0)]) dX14_keeps_1 rfl (by decide) rfl ?_
  obtain ⟨h2, e1, hf⟩ := obd hf
  refine AW.sub [1, 0] rfl (sX14_keeps_l2 E D hD _ _ _ _ _ e1 ?_)
  refine a_aload_n (q := 0) dX14_keeps_108 rfl rfl ?_
  refine a_dup dX14_keeps_109 rfl ?_
  obtain ⟨v3, e4, hf⟩ := obd hf
  refine o_gfI dX14_keeps_110 lk_X14_400 rfl e4 ?_
  refine a_iconst (v := 1) dX14_keeps_113 (by decide) ?_
  refine a_iadd dX14_keeps_114 ?_
  obtain ⟨h5, e6, hf⟩ := obd hf
  refine o_pfI dX14_keeps_115 lk_X14_400 (⟨_, rfl, Or.inl rfl⟩) rfl e6 ?_
  obtain rfl := Option.some.inj hf
  exact a_return dX14_keeps_118 rfl
def fX14_comeBack_l78 : Nat → Nat → Int32 → Int32 → Int32 → hp → Option hp
  | 0, _, _, _, _, _ => none
  | n + 1, x0, x1, x2, x3, h =>
    if 16 ≤ x3 then (
      some (h)
    ) else (
      (gfR h x0 13 3).bind fun v1 =>
      (gfR h x0 13 28).bind fun v3 =>
      (alI h v3 ((16 * x2) + x3)).bind fun v5 =>
      (asI h v1 ((16 * x1) + x3) v5).bind fun h7 =>
      fX14_comeBack_l78 n x0 x1 x2 (x3 + 1) h7
    )
def fX14_comeBack_l12 : Nat → Nat → Int32 → hp → Option hp
  | 0, _, _, _ => none
  | n + 1, x0, x1, h =>
    if 8 ≤ x1 then (
      some (h)
    ) else (
      (gfI h x0 13 30).bind fun v1 =>
      (gfR h x0 13 0).bind fun v3 =>
      (gfR h x0 13 25).bind fun v5 =>
      (alI h v5 ((8 * v1) + x1)).bind fun v7 =>
      (asI h v3 x1 v7).bind fun h9 =>
      (gfR h9 x0 13 1).bind fun v11 =>
      (gfR h9 x0 13 26).bind fun v13 =>
      (alI h9 v13 ((8 * v1) + x1)).bind fun v15 =>
      (asI h9 v11 x1 v15).bind fun h17 =>
      (gfR h17 x0 13 2).bind fun v19 =>
      (gfR h17 x0 13 27).bind fun v21 =>
      (alI h17 v21 ((8 * v1) + x1)).bind fun v23 =>
      (asI h17 v19 x1 v23).bind fun h25 =>
      (gfR h25 x0 13 4).bind fun v27 =>
      (gfR h25 x0 13 29).bind fun v29 =>
      (alF h25 v29 ((8 * v1) + x1)).bind fun v31 =>
      (asF h25 v27 x1 v31).bind fun h33 =>
      (fX14_comeBack_l78 FU x0 x1 ((8 * v1) + x1) 0 h33).bind fun h36 =>
      fX14_comeBack_l12 n x0 (x1 + 1) h36
    )
def fX14_comeBack (a0 : Nat) (h : hp) : Option hp :=
  (gfI h a0 13 30).bind fun v1 =>
  (pfI h a0 13 30 (v1 - 1)).bind fun h3 =>
  (fX14_comeBack_l12 FU a0 0 h3).bind fun h6 =>
  some h6
set_option maxHeartbeats 4000000 in
set_option maxRecDepth 100000 in
theorem sX14_comeBack_l78 (E : gE) (D : Nat) (hD : 0 ≤ D) {rz : Option Value} {h0 hz : hp} : ∀ (n : Nat) (x0 : Nat) (x1 : Int32) (x2 : Int32) (x3 : Int32) (h : hp) (hq : hp), fX14_comeBack_l78 n x0 x1 x2 x3 h = some hq → (AW E yX14_comeBack cX14_comeBack (Option.none : Option Jvm.ClassFile.FieldType) 4 D rz h0 hz 112 [(0, .ref x0), (1, .int x1)] [] hq) → AW E yX14_comeBack cX14_comeBack (Option.none : Option Jvm.ClassFile.FieldType) 4 D rz h0 hz 78 [(0, .ref x0), (1, .int x1), (2, .int x2), (3, .int x3)] [] h := by
  intro n
  induction n with
  | zero =>
    intro x0 x1 x2 x3 h hq hf _
    rw [fX14_comeBack_l78] at hf
    cases hf
  | succ n ih =>
    intro x0 x1 x2 x3 h hq hf hk0
    rw [fX14_comeBack_l78] at hf
    refine a_iload_n (q := 3) dX14_comeBack_78 rfl rfl ?_
    refine a_bipush (v := 16) dX14_comeBack_79 (by decide) ?_
    refine a_icmp_ge (tgt := 112) dX14_comeBack_81 (by decide) (fun c => ?_) (fun c => ?_)
    · have hf := ifp c hf
      obtain rfl := Option.some.inj hf
      exact AW.sub [0, 1] rfl (hk0)
    · have hf := ifn c hf
      refine a_aload_n (q := 0) dX14_comeBack_84 rfl rfl ?_
      obtain ⟨v1, e2, hf⟩ := obd hf
      refine o_gfR dX14_comeBack_85 lk_X14_21 rfl e2 ?_
      refine a_bipush (v := 16) dX14_comeBack_88 (by decide) ?_
      refine a_iload_n (q := 1) dX14_comeBack_90 rfl rfl ?_
      refine a_imul dX14_comeBack_91 ?_
      refine a_iload_n (q := 3) dX14_comeBack_92 rfl rfl ?_
      refine a_iadd dX14_comeBack_93 ?_
      refine a_aload_n (q := 0) dX14_comeBack_94 rfl rfl ?_
      obtain ⟨v3, e4, hf⟩ := obd hf
      refine o_gfR dX14_comeBack_95 lk_X14_62 rfl e4 ?_
      refine a_bipush (v := 16) dX14_comeBack_98 (by decide) ?_
      refine a_iload_n (q := 2) dX14_comeBack_100 rfl rfl ?_
      refine a_imul dX14_comeBack_101 ?_
      refine a_iload_n (q := 3) dX14_comeBack_102 rfl rfl ?_
      refine a_iadd dX14_comeBack_103 ?_
      obtain ⟨v5, e6, hf⟩ := obd hf
      refine o_alI dX14_comeBack_104 e6 ?_
      obtain ⟨h7, e8, hf⟩ := obd hf
      refine o_asI dX14_comeBack_105 e8 ?_
      refine a_iinc (q := 3) (v := (x3 + 1)) (lv1 := [(3, .int (x3 + 1)), (0, .ref x0), (1, .int x1), (2, .int x2)]) dX14_comeBack_106 rfl (by rfl) (by decide) rfl ?_
      refine a_goto (tgt := 78) dX14_comeBack_109 (by decide) ?_
      exact AW.sub [1, 2, 3, 0] rfl (ih _ _ _ _ _ _ hf hk0)
set_option maxHeartbeats 4000000 in
set_option maxRecDepth 100000 in
theorem sX14_comeBack_l12 (E : gE) (D : Nat) (hD : 0 ≤ D) {rz : Option Value} {h0 hz : hp} : ∀ (n : Nat) (x0 : Nat) (x1 : Int32) (h : hp) (hq : hp), fX14_comeBack_l12 n x0 x1 h = some hq → (AW E yX14_comeBack cX14_comeBack (Option.none : Option Jvm.ClassFile.FieldType) 4 D rz h0 hz 118 [] [] hq) → AW E yX14_comeBack cX14_comeBack (Option.none : Option Jvm.ClassFile.FieldType) 4 D rz h0 hz 12 [(0, .ref x0), (1, .int x1)] [] h := by
  intro n
  induction n with
  | zero =>
    intro x0 x1 h hq hf _
    rw [fX14_comeBack_l12] at hf
    cases hf
  | succ n ih =>
    intro x0 x1 h hq hf hk0
    rw [fX14_comeBack_l12] at hf
    refine a_iload_n (q := 1) dX14_comeBack_12 rfl rfl ?_
    refine a_bipush (v := 8) dX14_comeBack_13 (by decide) ?_
    refine a_icmp_ge (tgt := 118) dX14_comeBack_15 (by decide) (fun c => ?_) (fun c => ?_)
    · have hf := ifp c hf
      obtain rfl := Option.some.inj hf
      exact AW.sub [] rfl (hk0)
    · have hf := ifn c hf
      refine a_bipush (v := 8) dX14_comeBack_18 (by decide) ?_
      refine a_aload_n (q := 0) dX14_comeBack_20 rfl rfl ?_
      obtain ⟨v1, e2, hf⟩ := obd hf
      refine o_gfI dX14_comeBack_21 lk_X14_400 rfl e2 ?_
      refine a_imul dX14_comeBack_24 ?_
      refine a_iload_n (q := 1) dX14_comeBack_25 rfl rfl ?_
      refine a_iadd dX14_comeBack_26 ?_
      refine a_istore_n (lv1 := [(2, .int ((8 * v1) + x1)), (0, .ref x0), (1, .int x1)]) dX14_comeBack_27 rfl (by decide) rfl ?_
      refine a_aload_n (q := 1) dX14_comeBack_28 rfl rfl ?_
      obtain ⟨v3, e4, hf⟩ := obd hf
      refine o_gfR dX14_comeBack_29 lk_X14_11 rfl e4 ?_
      refine a_iload_n (q := 2) dX14_comeBack_32 rfl rfl ?_
      refine a_aload_n (q := 1) dX14_comeBack_33 rfl rfl ?_
      obtain ⟨v5, e6, hf⟩ := obd hf
      refine o_gfR dX14_comeBack_34 lk_X14_53 rfl e6 ?_
      refine a_iload_n (q := 0) dX14_comeBack_37 rfl rfl ?_
      obtain ⟨v7, e8, hf⟩ := obd hf
      refine o_alI dX14_comeBack_38 e8 ?_
      obtain ⟨h9, e10, hf⟩ := obd hf
      refine o_asI dX14_comeBack_39 e10 ?_
      refine a_aload_n (q := 1) dX14_comeBack_40 rfl rfl ?_
      obtain ⟨v11, e12, hf⟩ := obd hf
      refine o_gfR dX14_comeBack_41 lk_X14_15 rfl e12 ?_
      refine a_iload_n (q := 2) dX14_comeBack_44 rfl rfl ?_
      refine a_aload_n (q := 1) dX14_comeBack_45 rfl rfl ?_
      obtain ⟨v13, e14, hf⟩ := obd hf
      refine o_gfR dX14_comeBack_46 lk_X14_56 rfl e14 ?_
      refine a_iload_n (q := 0) dX14_comeBack_49 rfl rfl ?_
      obtain ⟨v15, e16, hf⟩ := obd hf
      refine o_alI dX14_comeBack_50 e16 ?_
      obtain ⟨h17, e18, hf⟩ := obd hf
      refine o_asI dX14_comeBack_51 e18 ?_
      refine a_aload_n (q := 1) dX14_comeBack_52 rfl rfl ?_
      obtain ⟨v19, e20, hf⟩ := obd hf
      refine o_gfR dX14_comeBack_53 lk_X14_18 rfl e20 ?_
      refine a_iload_n (q := 2) dX14_comeBack_56 rfl rfl ?_
      refine a_aload_n (q := 1) dX14_comeBack_57 rfl rfl ?_
      obtain ⟨v21, e22, hf⟩ := obd hf
      refine o_gfR dX14_comeBack_58 lk_X14_59 rfl e22 ?_
      refine a_iload_n (q := 0) dX14_comeBack_61 rfl rfl ?_
      obtain ⟨v23, e24, hf⟩ := obd hf
      refine o_alI dX14_comeBack_62 e24 ?_
      obtain ⟨h25, e26, hf⟩ := obd hf
      refine o_asI dX14_comeBack_63 e26 ?_
      refine a_aload_n (q := 1) dX14_comeBack_64 rfl rfl ?_
      obtain ⟨v27, e28, hf⟩ := obd hf
      refine o_gfR dX14_comeBack_65 lk_X14_24 rfl e28 ?_
      refine a_iload_n (q := 2) dX14_comeBack_68 rfl rfl ?_
      refine a_aload_n (q := 1) dX14_comeBack_69 rfl rfl ?_
      obtain ⟨v29, e30, hf⟩ := obd hf
      refine o_gfR dX14_comeBack_70 lk_X14_65 rfl e30 ?_
      refine a_iload_n (q := 0) dX14_comeBack_73 rfl rfl ?_
      obtain ⟨v31, e32, hf⟩ := obd hf
      refine o_alF dX14_comeBack_74 e32 ?_
      obtain ⟨h33, e34, hf⟩ := obd hf
      refine o_asF dX14_comeBack_75 e34 ?_
      refine a_iconst (v := 0) dX14_comeBack_76 (by decide) ?_
      refine a_istore_n (lv1 := [(3, .int 0), (2, .int ((8 * v1) + x1)), (0, .ref x0), (1, .int x1)]) dX14_comeBack_77 rfl (by decide) rfl ?_
      obtain ⟨h36, e35, hf⟩ := obd hf
      refine AW.sub [2, 3, 1, 0] rfl (sX14_comeBack_l78 E D hD _ _ _ _ _ _ _ e35 ?_)
      refine a_iinc (q := 1) (v := (x1 + 1)) (lv1 := [(1, .int (x1 + 1)), (0, .ref x0)]) dX14_comeBack_112 rfl (by rfl) (by decide) rfl ?_
      refine a_goto (tgt := 12) dX14_comeBack_115 (by decide) ?_
      exact AW.sub [1, 0] rfl (ih _ _ _ _ hf hk0)
set_option maxHeartbeats 4000000 in
set_option maxRecDepth 100000 in
theorem sX14_comeBack (E : gE) (D : Nat) (hD : 0 ≤ D) {a0 : Nat} {h hz : hp} (hf : fX14_comeBack a0 h = some hz) : MC E yX14_comeBack cX14_comeBack (Option.none : Option Jvm.ClassFile.FieldType) 4 D [.ref a0] h none hz := by
  refine MC.of (by decide +kernel) (Nat.le_of_ble_eq_true rfl) rfl ?_
  unfold fX14_comeBack at hf
  show AW E yX14_comeBack cX14_comeBack (Option.none : Option Jvm.ClassFile.FieldType) 4 D none h hz 0 [(0, .ref a0)] [] h
  refine a_aload_n (q := 0) dX14_comeBack_0 rfl rfl ?_
  refine a_dup dX14_comeBack_1 rfl ?_
  obtain ⟨v1, e2, hf⟩ := obd hf
  refine o_gfI dX14_comeBack_2 lk_X14_400 rfl e2 ?_
  refine a_iconst (v := 1) dX14_comeBack_5 (by decide) ?_
  refine a_isub dX14_comeBack_6 ?_
  obtain ⟨h3, e4, hf⟩ := obd hf
  refine o_pfI dX14_comeBack_7 lk_X14_400 (⟨_, rfl, Or.inl rfl⟩) rfl e4 ?_
  refine a_iconst (v := 0) dX14_comeBack_10 (by decide) ?_
  refine a_istore_n (lv1 := [(1, .int 0), (0, .ref a0)]) dX14_comeBack_11 rfl (by decide) rfl ?_
  obtain ⟨h6, e5, hf⟩ := obd hf
  refine AW.sub [1, 0] rfl (sX14_comeBack_l12 E D hD _ _ _ _ _ e5 ?_)
  obtain rfl := Option.some.inj hf
  exact a_return dX14_comeBack_118 rfl
def fX14_links (a0 : Nat) (a1 : Int32) (a2 : Int32) (a3 : Int32) (h : hp) : Option hp :=
  (gfR h a0 13 44).bind fun v1 =>
  (gfI h a0 13 47).bind fun v3 =>
  (asI h v1 v3 a1).bind fun h5 =>
  (gfR h5 a0 13 45).bind fun v7 =>
  (gfI h5 a0 13 47).bind fun v9 =>
  (asI h5 v7 v9 a2).bind fun h11 =>
  (gfR h11 a0 13 46).bind fun v13 =>
  (gfI h11 a0 13 47).bind fun v15 =>
  (asI h11 v13 v15 a3).bind fun h17 =>
  (gfI h17 a0 13 47).bind fun v19 =>
  (pfI h17 a0 13 47 (v19 + 1)).bind fun h21 =>
  some h21
set_option maxHeartbeats 4000000 in
set_option maxRecDepth 100000 in
theorem sX14_links (E : gE) (D : Nat) (hD : 0 ≤ D) {a0 : Nat} {a1 : Int32} {a2 : Int32} {a3 : Int32} {h hz : hp} (hf : fX14_links a0 a1 a2 a3 h = some hz) : MC E yX14_links cX14_links (Option.none : Option Jvm.ClassFile.FieldType) 4 D [.ref a0, .int a1, .int a2, .int a3] h none hz := by
  refine MC.of (by decide +kernel) (Nat.le_of_ble_eq_true rfl) rfl ?_
  unfold fX14_links at hf
  show AW E yX14_links cX14_links (Option.none : Option Jvm.ClassFile.FieldType) 4 D none h hz 0 [(0, .ref a0), (1, .int a1), (2, .int a2), (3, .int a3)] [] h
  refine a_aload_n (q := 0) dX14_links_0 rfl rfl ?_
  obtain ⟨v1, e2, hf⟩ := obd hf
  refine o_gfR dX14_links_1 lk_X14_89 rfl e2 ?_
  refine a_aload_n (q := 0) dX14_links_4 rfl rfl ?_
  obtain ⟨v3, e4, hf⟩ := obd hf
  refine o_gfI dX14_links_5 lk_X14_403 rfl e4 ?_
  refine a_iload_n (q := 1) dX14_links_8 rfl rfl ?_
  obtain ⟨h5, e6, hf⟩ := obd hf
  refine o_asI dX14_links_9 e6 ?_
  refine a_aload_n (q := 0) dX14_links_10 rfl rfl ?_
  obtain ⟨v7, e8, hf⟩ := obd hf
  refine o_gfR dX14_links_11 lk_X14_92 rfl e8 ?_
  refine a_aload_n (q := 0) dX14_links_14 rfl rfl ?_
  obtain ⟨v9, e10, hf⟩ := obd hf
  refine o_gfI dX14_links_15 lk_X14_403 rfl e10 ?_
  refine a_iload_n (q := 2) dX14_links_18 rfl rfl ?_
  obtain ⟨h11, e12, hf⟩ := obd hf
  refine o_asI dX14_links_19 e12 ?_
  refine a_aload_n (q := 0) dX14_links_20 rfl rfl ?_
  obtain ⟨v13, e14, hf⟩ := obd hf
  refine o_gfR dX14_links_21 lk_X14_95 rfl e14 ?_
  refine a_aload_n (q := 0) dX14_links_24 rfl rfl ?_
  obtain ⟨v15, e16, hf⟩ := obd hf
  refine o_gfI dX14_links_25 lk_X14_403 rfl e16 ?_
  refine a_iload_n (q := 3) dX14_links_28 rfl rfl ?_
  obtain ⟨h17, e18, hf⟩ := obd hf
  refine o_asI dX14_links_29 e18 ?_
  refine a_aload_n (q := 0) dX14_links_30 rfl rfl ?_
  refine a_dup dX14_links_31 rfl ?_
  obtain ⟨v19, e20, hf⟩ := obd hf
  refine o_gfI dX14_links_32 lk_X14_403 rfl e20 ?_
  refine a_iconst (v := 1) dX14_links_35 (by decide) ?_
  refine a_iadd dX14_links_36 ?_
  obtain ⟨h21, e22, hf⟩ := obd hf
  refine o_pfI dX14_links_37 lk_X14_403 (⟨_, rfl, Or.inl rfl⟩) rfl e22 ?_
  obtain rfl := Option.some.inj hf
  exact a_return dX14_links_40 rfl
def fX14_linksBases_l2 : Nat → Nat → Int32 → Int32 → Int32 → hp → Option hp
  | 0, _, _, _, _, _ => none
  | n + 1, x0, x1, x2, x3, h =>
    if x2 ≤ x3 then (
      some (h)
    ) else (
      (gfR h x0 13 31).bind fun v1 =>
      (alI h v1 ((6 * x1) + x3)).bind fun v3 =>
      (ckT h x0 13).bind fun _ =>
      (fX14_links x0 v3 1 11 h).bind fun h6 =>
      fX14_linksBases_l2 n x0 x1 x2 (x3 + 1) h6
    )
def fX14_linksBases (a0 : Nat) (a1 : Int32) (a2 : Int32) (h : hp) : Option hp :=
  (fX14_linksBases_l2 FU a0 a1 a2 0 h).bind fun h2 =>
  some h2
set_option maxHeartbeats 4000000 in
set_option maxRecDepth 100000 in
theorem sX14_linksBases_l2 (E : gE) (D : Nat) (hD : 1 ≤ D) {rz : Option Value} {h0 hz : hp} : ∀ (n : Nat) (x0 : Nat) (x1 : Int32) (x2 : Int32) (x3 : Int32) (h : hp) (hq : hp), fX14_linksBases_l2 n x0 x1 x2 x3 h = some hq → (AW E yX14_linksBases cX14_linksBases (Option.none : Option Jvm.ClassFile.FieldType) 4 D rz h0 hz 31 [] [] hq) → AW E yX14_linksBases cX14_linksBases (Option.none : Option Jvm.ClassFile.FieldType) 4 D rz h0 hz 2 [(0, .ref x0), (1, .int x1), (2, .int x2), (3, .int x3)] [] h := by
  intro n
  induction n with
  | zero =>
    intro x0 x1 x2 x3 h hq hf _
    rw [fX14_linksBases_l2] at hf
    cases hf
  | succ n ih =>
    intro x0 x1 x2 x3 h hq hf hk0
    rw [fX14_linksBases_l2] at hf
    refine a_iload_n (q := 3) dX14_linksBases_2 rfl rfl ?_
    refine a_iload_n (q := 2) dX14_linksBases_3 rfl rfl ?_
    refine a_icmp_ge (tgt := 31) dX14_linksBases_4 (by decide) (fun c => ?_) (fun c => ?_)
    · have hf := ifp c hf
      obtain rfl := Option.some.inj hf
      exact AW.sub [] rfl (hk0)
    · have hf := ifn c hf
      refine a_aload_n (q := 0) dX14_linksBases_7 rfl rfl ?_
      refine a_aload_n (q := 0) dX14_linksBases_8 rfl rfl ?_
      obtain ⟨v1, e2, hf⟩ := obd hf
      refine o_gfR dX14_linksBases_9 lk_X14_68 rfl e2 ?_
      refine a_bipush (v := 6) dX14_linksBases_12 (by decide) ?_
      refine a_iload_n (q := 1) dX14_linksBases_14 rfl rfl ?_
      refine a_imul dX14_linksBases_15 ?_
      refine a_iload_n (q := 3) dX14_linksBases_16 rfl rfl ?_
      refine a_iadd dX14_linksBases_17 ?_
      obtain ⟨v3, e4, hf⟩ := obd hf
      refine o_alI dX14_linksBases_18 e4 ?_
      refine a_iconst (v := 1) dX14_linksBases_19 (by decide) ?_
      refine a_bipush (v := 11) dX14_linksBases_20 (by decide) ?_
      obtain ⟨_, e7, hf⟩ := obd hf
      obtain ⟨h6, e5, hf⟩ := obd hf
      refine a_callV (as := [.int v3, .int 1, .int 11]) (np := 3) (ci := 13) (st := []) (sX14_links E (D - 1) (by omega) e5) dX14_linksBases_22 rfl (by omega) (by decide) cw_X14_406 ⟨wd_1471, ws_89⟩ rfl (ckT_s e7) rfl (Nat.le_of_ble_eq_true rfl) ?_
      refine a_iinc (q := 3) (v := (x3 + 1)) (lv1 := [(3, .int (x3 + 1)), (0, .ref x0), (1, .int x1), (2, .int x2)]) dX14_linksBases_25 rfl (by rfl) (by decide) rfl ?_
      refine a_goto (tgt := 2) dX14_linksBases_28 (by decide) ?_
      exact AW.sub [1, 2, 3, 0] rfl (ih _ _ _ _ _ _ hf hk0)
set_option maxHeartbeats 4000000 in
set_option maxRecDepth 100000 in
theorem sX14_linksBases (E : gE) (D : Nat) (hD : 1 ≤ D) {a0 : Nat} {a1 : Int32} {a2 : Int32} {h hz : hp} (hf : fX14_linksBases a0 a1 a2 h = some hz) : MC E yX14_linksBases cX14_linksBases (Option.none : Option Jvm.ClassFile.FieldType) 4 D [.ref a0, .int a1, .int a2] h none hz := by
  refine MC.of (by decide +kernel) (Nat.le_of_ble_eq_true rfl) rfl ?_
  unfold fX14_linksBases at hf
  show AW E yX14_linksBases cX14_linksBases (Option.none : Option Jvm.ClassFile.FieldType) 4 D none h hz 0 [(0, .ref a0), (1, .int a1), (2, .int a2)] [] h
  refine a_iconst (v := 0) dX14_linksBases_0 (by decide) ?_
  refine a_istore_n (lv1 := [(3, .int 0), (0, .ref a0), (1, .int a1), (2, .int a2)]) dX14_linksBases_1 rfl (by decide) rfl ?_
  obtain ⟨h2, e1, hf⟩ := obd hf
  refine AW.sub [1, 2, 3, 0] rfl (sX14_linksBases_l2 E D hD _ _ _ _ _ _ _ e1 ?_)
  obtain rfl := Option.some.inj hf
  exact a_return dX14_linksBases_31 rfl
def fX14_faults_l21 : Nat → Nat → Int32 → Int32 → Int32 → Int32 → Int32 → hp → Option hp
  | 0, _, _, _, _, _, _, _ => none
  | n + 1, x0, x1, x2, x3, x4, x5, h =>
    if x1 ≤ x5 then (
      some (h)
    ) else (
      (gfR h x0 13 33).bind fun v1 =>
      (alI h v1 x5).bind fun v3 =>
      (ckT h x0 13).bind fun _ =>
      (fX14_linksBases x0 x5 v3 h).bind fun h6 =>
      (gfR h6 x0 13 31).bind fun v8 =>
      (gfR h6 x0 13 33).bind fun v10 =>
      (alI h6 v10 x5).bind fun v12 =>
      (alI h6 v8 ((6 * x5) + v12)).bind fun v14 =>
      (gfR h6 x0 13 34).bind fun v16 =>
      (alI h6 v16 x5).bind fun v18 =>
      (ckT h6 x0 13).bind fun _ =>
      (fX14_links x0 v14 v18 10 h6).bind fun h21 =>
      fX14_faults_l21 n x0 x1 x2 x3 x4 (x5 + 1) h21
    )
def fX14_faults (a0 : Nat) (a1 : Int32) (a2 : Int32) (a3 : Int32) (a4 : Int32) (h : hp) : Option hp :=
  (gfI h a0 13 43).bind fun v1 =>
  if v1 = 0 then (
    (pfZ h a0 13 43 1).bind fun h3 =>
    (pfI h3 a0 13 47 0).bind fun h5 =>
    (fX14_faults_l21 FU a0 a1 a2 a3 a4 0 h5).bind fun h8 =>
    (ckT h8 a0 13).bind fun _ =>
    (fX14_linksBases a0 a1 a2 h8).bind fun h10 =>
    (gfR h10 a0 13 31).bind fun v12 =>
    (alI h10 v12 ((6 * a1) + a2)).bind fun v14 =>
    (ckT h10 a0 13).bind fun _ =>
    (fX14_links a0 v14 a3 a4 h10).bind fun h17 =>
    some h17
  ) else (
    some h
  )
set_option maxHeartbeats 4000000 in
set_option maxRecDepth 100000 in
theorem sX14_faults_l21 (E : gE) (D : Nat) (hD : 2 ≤ D) {rz : Option Value} {h0 hz : hp} : ∀ (n : Nat) (x0 : Nat) (x1 : Int32) (x2 : Int32) (x3 : Int32) (x4 : Int32) (x5 : Int32) (h : hp) (hq : hp), fX14_faults_l21 n x0 x1 x2 x3 x4 x5 h = some hq → (AW E yX14_faults cX14_faults (Option.none : Option Jvm.ClassFile.FieldType) 6 D rz h0 hz 77 [(0, .ref x0), (1, .int x1), (2, .int x2), (3, .int x3), (4, .int x4)] [] hq) → AW E yX14_faults cX14_faults (Option.none : Option Jvm.ClassFile.FieldType) 6 D rz h0 hz 21 [(0, .ref x0), (1, .int x1), (2, .int x2), (3, .int x3), (4, .int x4), (5, .int x5)] [] h := by
  intro n
  induction n with
  | zero =>
    intro x0 x1 x2 x3 x4 x5 h hq hf _
    rw [fX14_faults_l21] at hf
    cases hf
  | succ n ih =>
    intro x0 x1 x2 x3 x4 x5 h hq hf hk0
    rw [fX14_faults_l21] at hf
    refine a_iload (q := 5) dX14_faults_21 rfl ?_
    refine a_iload_n (q := 1) dX14_faults_23 rfl rfl ?_
    refine a_icmp_ge (tgt := 77) dX14_faults_24 (by decide) (fun c => ?_) (fun c => ?_)
    · have hf := ifp c hf
      obtain rfl := Option.some.inj hf
      exact AW.sub [0, 1, 2, 3, 4] rfl (hk0)
    · have hf := ifn c hf
      refine a_aload_n (q := 0) dX14_faults_27 rfl rfl ?_
      refine a_iload (q := 5) dX14_faults_28 rfl ?_
      refine a_aload_n (q := 0) dX14_faults_30 rfl rfl ?_
      obtain ⟨v1, e2, hf⟩ := obd hf
      refine o_gfR dX14_faults_31 lk_X14_74 rfl e2 ?_
      refine a_iload (q := 5) dX14_faults_34 rfl ?_
      obtain ⟨v3, e4, hf⟩ := obd hf
      refine o_alI dX14_faults_36 e4 ?_
      obtain ⟨_, e7, hf⟩ := obd hf
      obtain ⟨h6, e5, hf⟩ := obd hf
      refine a_callV (as := [.int x5, .int v3]) (np := 2) (ci := 13) (st := []) (sX14_linksBases E (D - 1) (by omega) e5) dX14_faults_37 rfl (by omega) (by decide) cw_X14_412 ⟨wd_1467, ws_88⟩ rfl (ckT_s e7) rfl (Nat.le_of_ble_eq_true rfl) ?_
      refine a_aload_n (q := 0) dX14_faults_40 rfl rfl ?_
      refine a_aload_n (q := 0) dX14_faults_41 rfl rfl ?_
      obtain ⟨v8, e9, hf⟩ := obd hf
      refine o_gfR dX14_faults_42 lk_X14_68 rfl e9 ?_
      refine a_bipush (v := 6) dX14_faults_45 (by decide) ?_
      refine a_iload (q := 5) dX14_faults_47 rfl ?_
      refine a_imul dX14_faults_49 ?_
      refine a_aload_n (q := 0) dX14_faults_50 rfl rfl ?_
      obtain ⟨v10, e11, hf⟩ := obd hf
      refine o_gfR dX14_faults_51 lk_X14_74 rfl e11 ?_
      refine a_iload (q := 5) dX14_faults_54 rfl ?_
      obtain ⟨v12, e13, hf⟩ := obd hf
      refine o_alI dX14_faults_56 e13 ?_
      refine a_iadd dX14_faults_57 ?_
      obtain ⟨v14, e15, hf⟩ := obd hf
      refine o_alI dX14_faults_58 e15 ?_
      refine a_aload_n (q := 0) dX14_faults_59 rfl rfl ?_
      obtain ⟨v16, e17, hf⟩ := obd hf
      refine o_gfR dX14_faults_60 lk_X14_77 rfl e17 ?_
      refine a_iload (q := 5) dX14_faults_63 rfl ?_
      obtain ⟨v18, e19, hf⟩ := obd hf
      refine o_alI dX14_faults_65 e19 ?_
      refine a_bipush (v := 10) dX14_faults_66 (by decide) ?_
      obtain ⟨_, e22, hf⟩ := obd hf
      obtain ⟨h21, e20, hf⟩ := obd hf
      refine a_callV (as := [.int v14, .int v18, .int 10]) (np := 3) (ci := 13) (st := []) (sX14_links E (D - 1) (by omega) e20) dX14_faults_68 rfl (by omega) (by decide) cw_X14_406 ⟨wd_1471, ws_89⟩ rfl (ckT_s e22) rfl (Nat.le_of_ble_eq_true rfl) ?_
      refine a_iinc (q := 5) (v := (x5 + 1)) (lv1 := [(5, .int (x5 + 1)), (0, .ref x0), (1, .int x1), (2, .int x2), (3, .int x3), (4, .int x4)]) dX14_faults_71 rfl (by rfl) (by decide) rfl ?_
      refine a_goto (tgt := 21) dX14_faults_74 (by decide) ?_
      exact AW.sub [1, 2, 3, 4, 5, 0] rfl (ih _ _ _ _ _ _ _ _ hf hk0)
set_option maxHeartbeats 4000000 in
set_option maxRecDepth 100000 in
theorem sX14_faults (E : gE) (D : Nat) (hD : 2 ≤ D) {a0 : Nat} {a1 : Int32} {a2 : Int32} {a3 : Int32} {a4 : Int32} {h hz : hp} (hf : fX14_faults a0 a1 a2 a3 a4 h = some hz) : MC E yX14_faults cX14_faults (Option.none : Option Jvm.ClassFile.FieldType) 6 D [.ref a0, .int a1, .int a2, .int a3, .int a4] h none hz := by
  refine MC.of (by decide +kernel) (Nat.le_of_ble_eq_true rfl) rfl ?_
  unfold fX14_faults at hf
  show AW E yX14_faults cX14_faults (Option.none : Option Jvm.ClassFile.FieldType) 6 D none h hz 0 [(0, .ref a0), (1, .int a1), (2, .int a2), (3, .int a3), (4, .int a4)] [] h
  refine a_aload_n (q := 0) dX14_faults_0 rfl rfl ?_
  obtain ⟨v1, e2, hf⟩ := obd hf
  refine o_gfI dX14_faults_1 lk_X14_409 rfl e2 ?_
  refine a_if_eq (tgt := 8) dX14_faults_4 (by decide) (fun c => ?_) (fun c => ?_)
  · have hf := ifp c hf
    refine a_aload_n (q := 0) dX14_faults_8 rfl rfl ?_
    refine a_iconst (v := 1) dX14_faults_9 (by decide) ?_
    obtain ⟨h3, e4, hf⟩ := obd hf
    refine o_pfZ dX14_faults_10 lk_X14_409 (⟨_, rfl, Or.inl rfl⟩) rfl e4 ?_
    refine a_aload_n (q := 0) dX14_faults_13 rfl rfl ?_
    refine a_iconst (v := 0) dX14_faults_14 (by decide) ?_
    obtain ⟨h5, e6, hf⟩ := obd hf
    refine o_pfI dX14_faults_15 lk_X14_403 (⟨_, rfl, Or.inl rfl⟩) rfl e6 ?_
    refine a_iconst (v := 0) dX14_faults_18 (by decide) ?_
    refine a_istore (lv1 := [(5, .int 0), (0, .ref a0), (1, .int a1), (2, .int a2), (3, .int a3), (4, .int a4)]) dX14_faults_19 (by decide) rfl ?_
    obtain ⟨h8, e7, hf⟩ := obd hf
    refine AW.sub [1, 2, 3, 4, 5, 0] rfl (sX14_faults_l21 E D hD _ _ _ _ _ _ _ _ _ e7 ?_)
    refine a_aload_n (q := 0) dX14_faults_77 rfl rfl ?_
    refine a_iload_n (q := 1) dX14_faults_78 rfl rfl ?_
    refine a_iload_n (q := 2) dX14_faults_79 rfl rfl ?_
    obtain ⟨_, e11, hf⟩ := obd hf
    obtain ⟨h10, e9, hf⟩ := obd hf
    refine a_callV (as := [.int a1, .int a2]) (np := 2) (ci := 13) (st := []) (sX14_linksBases E (D - 1) (by omega) e9) dX14_faults_80 rfl (by omega) (by decide) cw_X14_412 ⟨wd_1467, ws_88⟩ rfl (ckT_s e11) rfl (Nat.le_of_ble_eq_true rfl) ?_
    refine a_aload_n (q := 0) dX14_faults_83 rfl rfl ?_
    refine a_aload_n (q := 0) dX14_faults_84 rfl rfl ?_
    obtain ⟨v12, e13, hf⟩ := obd hf
    refine o_gfR dX14_faults_85 lk_X14_68 rfl e13 ?_
    refine a_bipush (v := 6) dX14_faults_88 (by decide) ?_
    refine a_iload_n (q := 1) dX14_faults_90 rfl rfl ?_
    refine a_imul dX14_faults_91 ?_
    refine a_iload_n (q := 2) dX14_faults_92 rfl rfl ?_
    refine a_iadd dX14_faults_93 ?_
    obtain ⟨v14, e15, hf⟩ := obd hf
    refine o_alI dX14_faults_94 e15 ?_
    refine a_iload_n (q := 3) dX14_faults_95 rfl rfl ?_
    refine a_iload (q := 4) dX14_faults_96 rfl ?_
    obtain ⟨_, e18, hf⟩ := obd hf
    obtain ⟨h17, e16, hf⟩ := obd hf
    refine a_callV (as := [.int v14, .int a3, .int a4]) (np := 3) (ci := 13) (st := []) (sX14_links E (D - 1) (by omega) e16) dX14_faults_98 rfl (by omega) (by decide) cw_X14_406 ⟨wd_1471, ws_89⟩ rfl (ckT_s e18) rfl (Nat.le_of_ble_eq_true rfl) ?_
    obtain rfl := Option.some.inj hf
    exact a_return dX14_faults_101 rfl
  · have hf := ifn c hf
    obtain rfl := Option.some.inj hf
    exact a_return dX14_faults_7 rfl
def fX14_isChained_l9 : Nat → Nat → Int32 → Int32 → hp → Option (Nat × Int32 × hp)
  | 0, _, _, _, _ => none
  | n + 1, x0, x1, x3, h =>
    if x3 < 0 then (
      some (2, 0, h)
    ) else (
      (gfR h x0 13 32).bind fun v1 =>
      (alI h v1 x1).bind fun v3 =>
      (gfR h x0 13 31).bind fun v5 =>
      (asI h v5 ((6 * x1) + v3) x3).bind fun h7 =>
      (gfR h7 x0 13 9).bind fun v9 =>
      (alI h7 v9 x3).bind fun v11 =>
      if 0 ≤ v11 then (
        (gfR h7 x0 13 32).bind fun v13 =>
        (alI h7 v13 x1).bind fun v15 =>
        (asI h7 v13 x1 (v15 + 1)).bind fun h17 =>
        (ckT h17 x0 13).bind fun _ =>
        bd2 (fX14_extended x0 x3 h17) fun v20 h21 =>
        if v20 < 0 then (
          fX14_isChained_l9 n x0 x1 v20 h21
        ) else (
          (gfR h21 x0 13 32).bind fun v23 =>
          (alI h21 v23 x1).bind fun v25 =>
          if v25 = 6 then (
            some (1, v3, h21)
          ) else (
            fX14_isChained_l9 n x0 x1 v20 h21
          )
        )
      ) else (
        some (0, v3, h7)
      )
    )
def fX14_isChained (a0 : Nat) (a1 : Int32) (a2 : Int32) (h : hp) : Option (Int32 × hp) :=
  (gfR h a0 13 32).bind fun v1 =>
  (asI h v1 a1 0).bind fun h3 =>
  bd3 (fX14_isChained_l9 FU a0 a1 a2 h3) fun t8 v7 h6 =>
  if t8 = 0 then (
    (ckT h6 a0 13).bind fun _ =>
    (fX14_faults a0 a1 v7 0 1 h6).bind fun h10 =>
    some (0, h10)
  ) else
  if t8 = 1 then (
    (ckT h6 a0 13).bind fun _ =>
    (fX14_faults a0 a1 v7 1 7 h6).bind fun h13 =>
    some (0, h13)
  ) else
  if t8 = 2 then (
    some (1, h6)
  ) else none
set_option maxHeartbeats 4000000 in
set_option maxRecDepth 100000 in
theorem sX14_isChained_l9 (E : gE) (D : Nat) (hD : 3 ≤ D) {rz : Option Value} {h0 hz : hp} : ∀ (n : Nat) (x0 : Nat) (x1 : Int32) (x3 : Int32) (h : hp) (tq : Nat) (m4 : Int32) (hq : hp), fX14_isChained_l9 n x0 x1 x3 h = some (tq, m4, hq) → (tq = 0 → AW E yX14_isChained cX14_isChained (Option.some Jvm.ClassFile.FieldType.boolean) 5 D rz h0 hz 43 [(0, .ref x0), (1, .int x1), (4, .int m4)] [] hq) → (tq = 1 → AW E yX14_isChained cX14_isChained (Option.some Jvm.ClassFile.FieldType.boolean) 5 D rz h0 hz 85 [(0, .ref x0), (1, .int x1), (4, .int m4)] [] hq) → (tq = 2 → AW E yX14_isChained cX14_isChained (Option.some Jvm.ClassFile.FieldType.boolean) 5 D rz h0 hz 100 [] [] hq) → AW E yX14_isChained cX14_isChained (Option.some Jvm.ClassFile.FieldType.boolean) 5 D rz h0 hz 9 [(0, .ref x0), (1, .int x1), (3, .int x3)] [] h := by
  intro n
  induction n with
  | zero =>
    intro x0 x1 x3 h tq m4 hq hf _ _ _
    rw [fX14_isChained_l9] at hf
    cases hf
  | succ n ih =>
    intro x0 x1 x3 h tq m4 hq hf hk0 hk1 hk2
    rw [fX14_isChained_l9] at hf
    refine a_iload_n (q := 2) dX14_isChained_9 rfl rfl ?_
    refine a_if_lt (tgt := 100) dX14_isChained_10 (by decide) (fun c => ?_) (fun c => ?_)
    · have hf := ifp c hf
      obtain ⟨rfl, rfl, rfl⟩ := oc3 hf
      exact AW.sub [] rfl (hk2 rfl)
    · have hf := ifn c hf
      refine a_aload_n (q := 0) dX14_isChained_13 rfl rfl ?_
      obtain ⟨v1, e2, hf⟩ := obd hf
      refine o_gfR dX14_isChained_14 lk_X14_71 rfl e2 ?_
      refine a_iload_n (q := 1) dX14_isChained_17 rfl rfl ?_
      obtain ⟨v3, e4, hf⟩ := obd hf
      refine o_alI dX14_isChained_18 e4 ?_
      refine a_istore (lv1 := [(4, .int v3), (0, .ref x0), (1, .int x1), (3, .int x3)]) dX14_isChained_19 (by decide) rfl ?_
      refine a_aload_n (q := 1) dX14_isChained_21 rfl rfl ?_
      obtain ⟨v5, e6, hf⟩ := obd hf
      refine o_gfR dX14_isChained_22 lk_X14_68 rfl e6 ?_
      refine a_bipush (v := 6) dX14_isChained_25 (by decide) ?_
      refine a_iload_n (q := 2) dX14_isChained_27 rfl rfl ?_
      refine a_imul dX14_isChained_28 ?_
      refine a_iload (q := 0) dX14_isChained_29 rfl ?_
      refine a_iadd dX14_isChained_31 ?_
      refine a_iload_n (q := 3) dX14_isChained_32 rfl rfl ?_
      obtain ⟨h7, e8, hf⟩ := obd hf
      refine o_asI dX14_isChained_33 e8 ?_
      refine a_aload_n (q := 1) dX14_isChained_34 rfl rfl ?_
      obtain ⟨v9, e10, hf⟩ := obd hf
      refine o_gfR dX14_isChained_35 lk_X14_37 rfl e10 ?_
      refine a_iload_n (q := 3) dX14_isChained_38 rfl rfl ?_
      obtain ⟨v11, e12, hf⟩ := obd hf
      refine o_alI dX14_isChained_39 e12 ?_
      refine a_if_ge (tgt := 54) dX14_isChained_40 (by decide) (fun c => ?_) (fun c => ?_)
      · have hf := ifp c hf
        refine a_aload_n (q := 1) dX14_isChained_54 rfl rfl ?_
        obtain ⟨v13, e14, hf⟩ := obd hf
        refine o_gfR dX14_isChained_55 lk_X14_71 rfl e14 ?_
        refine a_iload_n (q := 2) dX14_isChained_58 rfl rfl ?_
        refine a_dup2 dX14_isChained_59 rfl rfl ?_
        obtain ⟨v15, e16, hf⟩ := obd hf
        refine o_alI dX14_isChained_60 e16 ?_
        refine a_iconst (v := 1) dX14_isChained_61 (by decide) ?_
        refine a_iadd dX14_isChained_62 ?_
        obtain ⟨h17, e18, hf⟩ := obd hf
        refine o_asI dX14_isChained_63 e18 ?_
        refine a_aload_n (q := 1) dX14_isChained_64 rfl rfl ?_
        refine a_iload_n (q := 3) dX14_isChained_65 rfl rfl ?_
        obtain ⟨_, e22, hf⟩ := obd hf
        obtain ⟨v20, h21, e19, hf⟩ := ob2 hf
        refine a_callV (as := [.int x3]) (np := 1) (ci := 13) (st := []) (sX14_extended E (D - 1) (by omega) e19) dX14_isChained_66 rfl (by omega) (by decide) cw_X14_332 ⟨wd_1431, ws_81⟩ rfl (ckT_s e22) rfl (Nat.le_of_ble_eq_true rfl) ?_
        refine a_istore_n (lv1 := [(3, .int v20), (4, .int v3), (0, .ref x0), (1, .int x1)]) dX14_isChained_69 rfl (by decide) rfl ?_
        refine a_iload_n (q := 0) dX14_isChained_70 rfl rfl ?_
        refine a_if_lt (tgt := 97) dX14_isChained_71 (by decide) (fun c => ?_) (fun c => ?_)
        · have hf := ifp c hf
          refine a_goto (tgt := 9) dX14_isChained_97 (by decide) ?_
          exact AW.sub [2, 3, 0] rfl (ih _ _ _ _ _ _ _ hf hk0 hk1 hk2)
        · have hf := ifn c hf
          refine a_aload_n (q := 2) dX14_isChained_74 rfl rfl ?_
          obtain ⟨v23, e24, hf⟩ := obd hf
          refine o_gfR dX14_isChained_75 lk_X14_71 rfl e24 ?_
          refine a_iload_n (q := 3) dX14_isChained_78 rfl rfl ?_
          obtain ⟨v25, e26, hf⟩ := obd hf
          refine o_alI dX14_isChained_79 e26 ?_
          refine a_bipush (v := 6) dX14_isChained_80 (by decide) ?_
          refine a_icmp_ne (tgt := 97) dX14_isChained_82 (by decide) (fun c => ?_) (fun c => ?_)
          · have hf := ifn c hf
            refine a_goto (tgt := 9) dX14_isChained_97 (by decide) ?_
            exact AW.sub [2, 3, 0] rfl (ih _ _ _ _ _ _ _ hf hk0 hk1 hk2)
          · have hf := ifp c hf
            obtain ⟨rfl, rfl, rfl⟩ := oc3 hf
            exact AW.sub [2, 3, 1] rfl (hk1 rfl)
      · have hf := ifn c hf
        obtain ⟨rfl, rfl, rfl⟩ := oc3 hf
        exact AW.sub [1, 2, 0] rfl (hk0 rfl)
set_option maxHeartbeats 4000000 in
set_option maxRecDepth 100000 in
theorem sX14_isChained (E : gE) (D : Nat) (hD : 3 ≤ D) {a0 : Nat} {a1 : Int32} {a2 : Int32} {h hz : hp} {v0 : Int32} (hf : fX14_isChained a0 a1 a2 h = some (v0, hz)) : MC E yX14_isChained cX14_isChained (Option.some Jvm.ClassFile.FieldType.boolean) 5 D [.ref a0, .int a1, .int a2] h (some (.int v0)) hz := by
  refine MC.of (by decide +kernel) (Nat.le_of_ble_eq_true rfl) rfl ?_
  unfold fX14_isChained at hf
  show AW E yX14_isChained cX14_isChained (Option.some Jvm.ClassFile.FieldType.boolean) 5 D (some (.int v0)) h hz 0 [(0, .ref a0), (1, .int a1), (2, .int a2)] [] h
  refine a_iload_n (q := 2) dX14_isChained_0 rfl rfl ?_
  refine a_istore_n (lv1 := [(3, .int a2), (0, .ref a0), (1, .int a1), (2, .int a2)]) dX14_isChained_1 rfl (by decide) rfl ?_
  refine a_aload_n (q := 1) dX14_isChained_2 rfl rfl ?_
  obtain ⟨v1, e2, hf⟩ := obd hf
  refine o_gfR dX14_isChained_3 lk_X14_71 rfl e2 ?_
  refine a_iload_n (q := 2) dX14_isChained_6 rfl rfl ?_
  refine a_iconst (v := 0) dX14_isChained_7 (by decide) ?_
  obtain ⟨h3, e4, hf⟩ := obd hf
  refine o_asI dX14_isChained_8 e4 ?_
  obtain ⟨t8, v7, h6, e5, hf⟩ := ob3 hf
  refine AW.sub [1, 2, 0] rfl (sX14_isChained_l9 E D hD _ _ _ _ _ _ _ _ e5 (fun c => ?_) (fun c => ?_) (fun c => ?_))
  · have hf := ifp c hf
    refine a_aload_n (q := 0) dX14_isChained_43 rfl rfl ?_
    refine a_iload_n (q := 1) dX14_isChained_44 rfl rfl ?_
    refine a_iload (q := 2) dX14_isChained_45 rfl ?_
    refine a_iconst (v := 0) dX14_isChained_47 (by decide) ?_
    refine a_iconst (v := 1) dX14_isChained_48 (by decide) ?_
    obtain ⟨_, e11, hf⟩ := obd hf
    obtain ⟨h10, e9, hf⟩ := obd hf
    refine a_callV (as := [.int a1, .int v7, .int 0, .int 1]) (np := 4) (ci := 13) (st := []) (sX14_faults E (D - 1) (by omega) e9) dX14_isChained_49 rfl (by omega) (by decide) cw_X14_415 ⟨wd_1463, ws_87⟩ rfl (ckT_s e11) rfl (Nat.le_of_ble_eq_true rfl) ?_
    refine a_iconst (v := 0) dX14_isChained_52 (by decide) ?_
    obtain ⟨rfl, rfl⟩ := oc2 hf
    exact a_zreturn dX14_isChained_53 rfl (by decide)
  · have hf := ifn (by rw [c]; decide) hf
    have hf := ifp c hf
    refine a_aload_n (q := 0) dX14_isChained_85 rfl rfl ?_
    refine a_iload_n (q := 1) dX14_isChained_86 rfl rfl ?_
    refine a_iload (q := 2) dX14_isChained_87 rfl ?_
    refine a_iconst (v := 1) dX14_isChained_89 (by decide) ?_
    refine a_bipush (v := 7) dX14_isChained_90 (by decide) ?_
    obtain ⟨_, e14, hf⟩ := obd hf
    obtain ⟨h13, e12, hf⟩ := obd hf
    refine a_callV (as := [.int a1, .int v7, .int 1, .int 7]) (np := 4) (ci := 13) (st := []) (sX14_faults E (D - 1) (by omega) e12) dX14_isChained_92 rfl (by omega) (by decide) cw_X14_415 ⟨wd_1463, ws_87⟩ rfl (ckT_s e14) rfl (Nat.le_of_ble_eq_true rfl) ?_
    refine a_iconst (v := 0) dX14_isChained_95 (by decide) ?_
    obtain ⟨rfl, rfl⟩ := oc2 hf
    exact a_zreturn dX14_isChained_96 rfl (by decide)
  · have hf := ifn (by rw [c]; decide) hf
    have hf := ifn (by rw [c]; decide) hf
    have hf := ifp c hf
    refine a_iconst (v := 1) dX14_isChained_100 (by decide) ?_
    obtain ⟨rfl, rfl⟩ := oc2 hf
    exact a_zreturn dX14_isChained_101 rfl (by decide)
def fX14_blockFrom_l3 : Nat → Nat → Int32 → Int32 → Int32 → hp → Option (Nat × Int32 × hp)
  | 0, _, _, _, _, _ => none
  | n + 1, x0, x1, x3, x4, h =>
    (gfR h x0 13 32).bind fun v1 =>
    (alI h v1 x1).bind fun v3 =>
    if v3 ≤ x4 then (
      some (1, x4, h)
    ) else (
      (gfR h x0 13 31).bind fun v5 =>
      (alI h v5 ((6 * x1) + x4)).bind fun v7 =>
      (ckT h x0 13).bind fun _ =>
      bd2 (fX14_signsBehind x0 v7 61 65 h) fun v10 h11 =>
      if ((v10 >>> (x3 &&& 31)) &&& 1) = 1 then (
        some (0, x4, h11)
      ) else (
        fX14_blockFrom_l3 n x0 x1 x3 (x4 + 1) h11
      )
    )
def fX14_blockFrom (a0 : Nat) (a1 : Int32) (a2 : Int32) (a3 : Int32) (h : hp) : Option (Int32 × hp) :=
  bd3 (fX14_blockFrom_l3 FU a0 a1 a3 a2 h) fun t4 v3 h2 =>
  if t4 = 0 then (
    some (v3, h2)
  ) else
  if t4 = 1 then (
    some ((-1), h2)
  ) else none
set_option maxHeartbeats 4000000 in
set_option maxRecDepth 100000 in
theorem sX14_blockFrom_l3 (E : gE) (D : Nat) (hD : 1 ≤ D) {rz : Option Value} {h0 hz : hp} : ∀ (n : Nat) (x0 : Nat) (x1 : Int32) (x3 : Int32) (x4 : Int32) (h : hp) (tq : Nat) (m4 : Int32) (hq : hp), fX14_blockFrom_l3 n x0 x1 x3 x4 h = some (tq, m4, hq) → (tq = 0 → AW E yX14_blockFrom cX14_blockFrom (Option.some Jvm.ClassFile.FieldType.int) 5 D rz h0 hz 42 [(4, .int m4)] [] hq) → (tq = 1 → AW E yX14_blockFrom cX14_blockFrom (Option.some Jvm.ClassFile.FieldType.int) 5 D rz h0 hz 51 [] [] hq) → AW E yX14_blockFrom cX14_blockFrom (Option.some Jvm.ClassFile.FieldType.int) 5 D rz h0 hz 3 [(0, .ref x0), (1, .int x1), (3, .int x3), (4, .int x4)] [] h := by
  intro n
  induction n with
  | zero =>
    intro x0 x1 x3 x4 h tq m4 hq hf _ _
    rw [fX14_blockFrom_l3] at hf
    cases hf
  | succ n ih =>
    intro x0 x1 x3 x4 h tq m4 hq hf hk0 hk1
    rw [fX14_blockFrom_l3] at hf
    refine a_iload (q := 3) dX14_blockFrom_3 rfl ?_
    refine a_aload_n (q := 0) dX14_blockFrom_5 rfl rfl ?_
    obtain ⟨v1, e2, hf⟩ := obd hf
    refine o_gfR dX14_blockFrom_6 lk_X14_71 rfl e2 ?_
    refine a_iload_n (q := 1) dX14_blockFrom_9 rfl rfl ?_
    obtain ⟨v3, e4, hf⟩ := obd hf
    refine o_alI dX14_blockFrom_10 e4 ?_
    refine a_icmp_ge (tgt := 51) dX14_blockFrom_11 (by decide) (fun c => ?_) (fun c => ?_)
    · have hf := ifp c hf
      obtain ⟨rfl, rfl, rfl⟩ := oc3 hf
      exact AW.sub [] rfl (hk1 rfl)
    · have hf := ifn c hf
      refine a_aload_n (q := 0) dX14_blockFrom_14 rfl rfl ?_
      refine a_aload_n (q := 0) dX14_blockFrom_15 rfl rfl ?_
      obtain ⟨v5, e6, hf⟩ := obd hf
      refine o_gfR dX14_blockFrom_16 lk_X14_68 rfl e6 ?_
      refine a_bipush (v := 6) dX14_blockFrom_19 (by decide) ?_
      refine a_iload_n (q := 1) dX14_blockFrom_21 rfl rfl ?_
      refine a_imul dX14_blockFrom_22 ?_
      refine a_iload (q := 3) dX14_blockFrom_23 rfl ?_
      refine a_iadd dX14_blockFrom_25 ?_
      obtain ⟨v7, e8, hf⟩ := obd hf
      refine o_alI dX14_blockFrom_26 e8 ?_
      refine a_bipush (v := 61) dX14_blockFrom_27 (by decide) ?_
      refine a_bipush (v := 65) dX14_blockFrom_29 (by decide) ?_
      obtain ⟨_, e12, hf⟩ := obd hf
      obtain ⟨v10, h11, e9, hf⟩ := ob2 hf
      refine a_callV (as := [.int v7, .int 61, .int 65]) (np := 3) (ci := 13) (st := []) (sX14_signsBehind E (D - 1) (by omega) e9) dX14_blockFrom_31 rfl (by omega) (by decide) cw_X14_335 ⟨wd_1435, ws_82⟩ rfl (ckT_s e12) rfl (Nat.le_of_ble_eq_true rfl) ?_
      refine a_iload_n (q := 2) dX14_blockFrom_34 rfl rfl ?_
      refine a_ishr dX14_blockFrom_35 ?_
      refine a_iconst (v := 1) dX14_blockFrom_36 (by decide) ?_
      refine a_iand dX14_blockFrom_37 ?_
      refine a_iconst (v := 1) dX14_blockFrom_38 (by decide) ?_
      refine a_icmp_ne (tgt := 45) dX14_blockFrom_39 (by decide) (fun c => ?_) (fun c => ?_)
      · have hf := ifn c hf
        refine a_iinc (q := 3) (v := (x4 + 1)) (lv1 := [(4, .int (x4 + 1)), (0, .ref x0), (1, .int x1), (3, .int x3)]) dX14_blockFrom_45 rfl (by rfl) (by decide) rfl ?_
        refine a_goto (tgt := 3) dX14_blockFrom_48 (by decide) ?_
        exact AW.sub [1, 2, 3, 0] rfl (ih _ _ _ _ _ _ _ _ hf hk0 hk1)
      · have hf := ifp c hf
        obtain ⟨rfl, rfl, rfl⟩ := oc3 hf
        exact AW.sub [3] rfl (hk0 rfl)
set_option maxHeartbeats 4000000 in
set_option maxRecDepth 100000 in
theorem sX14_blockFrom (E : gE) (D : Nat) (hD : 1 ≤ D) {a0 : Nat} {a1 : Int32} {a2 : Int32} {a3 : Int32} {h hz : hp} {v0 : Int32} (hf : fX14_blockFrom a0 a1 a2 a3 h = some (v0, hz)) : MC E yX14_blockFrom cX14_blockFrom (Option.some Jvm.ClassFile.FieldType.int) 5 D [.ref a0, .int a1, .int a2, .int a3] h (some (.int v0)) hz := by
  refine MC.of (by decide +kernel) (Nat.le_of_ble_eq_true rfl) rfl ?_
  unfold fX14_blockFrom at hf
  show AW E yX14_blockFrom cX14_blockFrom (Option.some Jvm.ClassFile.FieldType.int) 5 D (some (.int v0)) h hz 0 [(0, .ref a0), (1, .int a1), (2, .int a2), (3, .int a3)] [] h
  refine a_iload_n (q := 2) dX14_blockFrom_0 rfl rfl ?_
  refine a_istore (lv1 := [(4, .int a2), (0, .ref a0), (1, .int a1), (2, .int a2), (3, .int a3)]) dX14_blockFrom_1 (by decide) rfl ?_
  obtain ⟨t4, v3, h2, e1, hf⟩ := ob3 hf
  refine AW.sub [1, 2, 4, 0] rfl (sX14_blockFrom_l3 E D hD _ _ _ _ _ _ _ _ _ e1 (fun c => ?_) (fun c => ?_))
  · have hf := ifp c hf
    refine a_iload (q := 0) dX14_blockFrom_42 rfl ?_
    obtain ⟨rfl, rfl⟩ := oc2 hf
    exact a_ireturn dX14_blockFrom_44 rfl
  · have hf := ifn (by rw [c]; decide) hf
    have hf := ifp c hf
    refine a_iconst (v := (-1)) dX14_blockFrom_51 (by decide) ?_
    obtain ⟨rfl, rfl⟩ := oc2 hf
    exact a_ireturn dX14_blockFrom_52 rfl
def fX14_blockAt_l2 : Nat → Nat → Int32 → Int32 → Int32 → hp → Option (Int32 × hp)
  | 0, _, _, _, _, _ => none
  | n + 1, x0, x1, x2, x3, h =>
    (ckT h x0 13).bind fun _ =>
    bd2 (fX14_byteAt x0 x1 x3 h) fun v2 h3 =>
    if v2 = 123 then (
      (ckT h3 x0 13).bind fun _ =>
      bd2 (fX14_byteAt x0 x1 (x3 + 1) h3) fun v6 h7 =>
      if v6 = 61 then (
        (ckT h7 x0 13).bind fun _ =>
        bd2 (fX14_byteAt x0 x1 (x3 + 2) h7) fun v10 h11 =>
        if v10 = (65 + x2) then (
          some (x3, h11)
        ) else (
          fX14_blockAt_l2 n x0 x1 x2 (x3 + 1) h11
        )
      ) else (
        fX14_blockAt_l2 n x0 x1 x2 (x3 + 1) h7
      )
    ) else (
      fX14_blockAt_l2 n x0 x1 x2 (x3 + 1) h3
    )
def fX14_blockAt (a0 : Nat) (a1 : Int32) (a2 : Int32) (h : hp) : Option (Int32 × hp) :=
  bd2 (fX14_blockAt_l2 FU a0 a1 a2 0 h) fun v3 h2 =>
  some ((v3 + 4), h2)
set_option maxHeartbeats 4000000 in
set_option maxRecDepth 100000 in
theorem sX14_blockAt_l2 (E : gE) (D : Nat) (hD : 1 ≤ D) {rz : Option Value} {h0 hz : hp} : ∀ (n : Nat) (x0 : Nat) (x1 : Int32) (x2 : Int32) (x3 : Int32) (h : hp) (m3 : Int32) (hq : hp), fX14_blockAt_l2 n x0 x1 x2 x3 h = some (m3, hq) → (AW E yX14_blockAt cX14_blockAt (Option.some Jvm.ClassFile.FieldType.int) 4 D rz h0 hz 47 [(3, .int m3)] [] hq) → AW E yX14_blockAt cX14_blockAt (Option.some Jvm.ClassFile.FieldType.int) 4 D rz h0 hz 2 [(0, .ref x0), (1, .int x1), (2, .int x2), (3, .int x3)] [] h := by
  intro n
  induction n with
  | zero =>
    intro x0 x1 x2 x3 h m3 hq hf _
    rw [fX14_blockAt_l2] at hf
    cases hf
  | succ n ih =>
    intro x0 x1 x2 x3 h m3 hq hf hk0
    rw [fX14_blockAt_l2] at hf
    refine a_aload_n (q := 0) dX14_blockAt_2 rfl rfl ?_
    refine a_iload_n (q := 1) dX14_blockAt_3 rfl rfl ?_
    refine a_iload_n (q := 3) dX14_blockAt_4 rfl rfl ?_
    obtain ⟨_, e4, hf⟩ := obd hf
    obtain ⟨v2, h3, e1, hf⟩ := ob2 hf
    refine a_callV (as := [.int x1, .int x3]) (np := 2) (ci := 13) (st := []) (sX14_byteAt E (D - 1) (by omega) e1) dX14_blockAt_5 rfl (by omega) (by decide) cw_X14_344 ⟨wd_1487, ws_93⟩ rfl (ckT_s e4) rfl (Nat.le_of_ble_eq_true rfl) ?_
    refine a_bipush (v := 123) dX14_blockAt_8 (by decide) ?_
    refine a_icmp_ne (tgt := 41) dX14_blockAt_10 (by decide) (fun c => ?_) (fun c => ?_)
    · have hf := ifn c hf
      refine a_iinc (q := 3) (v := (x3 + 1)) (lv1 := [(3, .int (x3 + 1)), (0, .ref x0), (1, .int x1), (2, .int x2)]) dX14_blockAt_41 rfl (by rfl) (by decide) rfl ?_
      refine a_goto (tgt := 2) dX14_blockAt_44 (by decide) ?_
      exact AW.sub [1, 2, 3, 0] rfl (ih _ _ _ _ _ _ _ hf hk0)
    · have hf := ifp c hf
      refine a_aload_n (q := 0) dX14_blockAt_13 rfl rfl ?_
      refine a_iload_n (q := 1) dX14_blockAt_14 rfl rfl ?_
      refine a_iload_n (q := 3) dX14_blockAt_15 rfl rfl ?_
      refine a_iconst (v := 1) dX14_blockAt_16 (by decide) ?_
      refine a_iadd dX14_blockAt_17 ?_
      obtain ⟨_, e8, hf⟩ := obd hf
      obtain ⟨v6, h7, e5, hf⟩ := ob2 hf
      refine a_callV (as := [.int x1, .int (x3 + 1)]) (np := 2) (ci := 13) (st := []) (sX14_byteAt E (D - 1) (by omega) e5) dX14_blockAt_18 rfl (by omega) (by decide) cw_X14_344 ⟨wd_1487, ws_93⟩ rfl (ckT_s e8) rfl (Nat.le_of_ble_eq_true rfl) ?_
      refine a_bipush (v := 61) dX14_blockAt_21 (by decide) ?_
      refine a_icmp_ne (tgt := 41) dX14_blockAt_23 (by decide) (fun c => ?_) (fun c => ?_)
      · have hf := ifn c hf
        refine a_iinc (q := 3) (v := (x3 + 1)) (lv1 := [(3, .int (x3 + 1)), (0, .ref x0), (1, .int x1), (2, .int x2)]) dX14_blockAt_41 rfl (by rfl) (by decide) rfl ?_
        refine a_goto (tgt := 2) dX14_blockAt_44 (by decide) ?_
        exact AW.sub [1, 2, 3, 0] rfl (ih _ _ _ _ _ _ _ hf hk0)
      · have hf := ifp c hf
        refine a_aload_n (q := 0) dX14_blockAt_26 rfl rfl ?_
        refine a_iload_n (q := 1) dX14_blockAt_27 rfl rfl ?_
        refine a_iload_n (q := 3) dX14_blockAt_28 rfl rfl ?_
        refine a_iconst (v := 2) dX14_blockAt_29 (by decide) ?_
        refine a_iadd dX14_blockAt_30 ?_
        obtain ⟨_, e12, hf⟩ := obd hf
        obtain ⟨v10, h11, e9, hf⟩ := ob2 hf
        refine a_callV (as := [.int x1, .int (x3 + 2)]) (np := 2) (ci := 13) (st := []) (sX14_byteAt E (D - 1) (by omega) e9) dX14_blockAt_31 rfl (by omega) (by decide) cw_X14_344 ⟨wd_1487, ws_93⟩ rfl (ckT_s e12) rfl (Nat.le_of_ble_eq_true rfl) ?_
        refine a_bipush (v := 65) dX14_blockAt_34 (by decide) ?_
        refine a_iload_n (q := 2) dX14_blockAt_36 rfl rfl ?_
        refine a_iadd dX14_blockAt_37 ?_
        refine a_icmp_eq (tgt := 47) dX14_blockAt_38 (by decide) (fun c => ?_) (fun c => ?_)
        · have hf := ifp c hf
          obtain ⟨rfl, rfl⟩ := oc2 hf
          exact AW.sub [3] rfl (hk0)
        · have hf := ifn c hf
          refine a_iinc (q := 3) (v := (x3 + 1)) (lv1 := [(3, .int (x3 + 1)), (0, .ref x0), (1, .int x1), (2, .int x2)]) dX14_blockAt_41 rfl (by rfl) (by decide) rfl ?_
          refine a_goto (tgt := 2) dX14_blockAt_44 (by decide) ?_
          exact AW.sub [1, 2, 3, 0] rfl (ih _ _ _ _ _ _ _ hf hk0)
set_option maxHeartbeats 4000000 in
set_option maxRecDepth 100000 in
theorem sX14_blockAt (E : gE) (D : Nat) (hD : 1 ≤ D) {a0 : Nat} {a1 : Int32} {a2 : Int32} {h hz : hp} {v0 : Int32} (hf : fX14_blockAt a0 a1 a2 h = some (v0, hz)) : MC E yX14_blockAt cX14_blockAt (Option.some Jvm.ClassFile.FieldType.int) 4 D [.ref a0, .int a1, .int a2] h (some (.int v0)) hz := by
  refine MC.of (by decide +kernel) (Nat.le_of_ble_eq_true rfl) rfl ?_
  unfold fX14_blockAt at hf
  show AW E yX14_blockAt cX14_blockAt (Option.some Jvm.ClassFile.FieldType.int) 4 D (some (.int v0)) h hz 0 [(0, .ref a0), (1, .int a1), (2, .int a2)] [] h
  refine a_iconst (v := 0) dX14_blockAt_0 (by decide) ?_
  refine a_istore_n (lv1 := [(3, .int 0), (0, .ref a0), (1, .int a1), (2, .int a2)]) dX14_blockAt_1 rfl (by decide) rfl ?_
  obtain ⟨v3, h2, e1, hf⟩ := ob2 hf
  refine AW.sub [1, 2, 3, 0] rfl (sX14_blockAt_l2 E D hD _ _ _ _ _ _ _ _ e1 ?_)
  refine a_iload_n (q := 0) dX14_blockAt_47 rfl rfl ?_
  refine a_iconst (v := 4) dX14_blockAt_48 (by decide) ?_
  refine a_iadd dX14_blockAt_49 ?_
  obtain ⟨rfl, rfl⟩ := oc2 hf
  exact a_ireturn dX14_blockAt_50 rfl

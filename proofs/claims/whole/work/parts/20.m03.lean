def fX8_begin_l21 : Nat → Nat → Int32 → hp → Option hp
  | 0, _, _, _ => none
  | n + 1, x0, x3, h =>
    if 60 ≤ x3 then (
      some (h)
    ) else (
      (gfR h x0 7 2).bind fun v1 =>
      (asI h v1 x3 0).bind fun h3 =>
      (gfR h3 x0 7 3).bind fun v5 =>
      (asF h3 v5 x3 FP.fconst0).bind fun h7 =>
      fX8_begin_l21 n x0 (x3 + 1) h7
    )
def fX8_begin (a0 : Nat) (a1 : Int32) (a2 : Int32) (h : hp) : Option hp :=
  (pfI h a0 7 0 a1).bind fun h1 =>
  bd2 (fJ9_min_7cf53 a2 60 h1) fun v4 h5 =>
  bd2 (fJ9_max_7cf53 0 v4 h5) fun v7 h8 =>
  (pfI h8 a0 7 1 v7).bind fun h9 =>
  (fX8_begin_l21 FU a0 0 h9).bind fun h12 =>
  some h12
set_option maxHeartbeats 4000000 in
set_option maxRecDepth 100000 in
theorem sX8_begin_l21 (E : gE) (D : Nat) (hD : 1 ≤ D) {rz : Option Value} {h0 hz : hp} : ∀ (n : Nat) (x0 : Nat) (x3 : Int32) (h : hp) (hq : hp), fX8_begin_l21 n x0 x3 h = some hq → (AW E yX8_begin cX8_begin (Option.none : Option Jvm.ClassFile.FieldType) 4 D rz h0 hz 47 [] [] hq) → AW E yX8_begin cX8_begin (Option.none : Option Jvm.ClassFile.FieldType) 4 D rz h0 hz 21 [(0, .ref x0), (3, .int x3)] [] h := by
  intro n
  induction n with
  | zero =>
    intro x0 x3 h hq hf _
    rw [fX8_begin_l21] at hf
    cases hf
  | succ n ih =>
    intro x0 x3 h hq hf hk0
    rw [fX8_begin_l21] at hf
    refine a_iload_n (q := 1) dX8_begin_21 rfl rfl ?_
    refine a_bipush (v := 60) dX8_begin_22 (by decide) ?_
    refine a_icmp_ge (tgt := 47) dX8_begin_24 (by decide) (fun c => ?_) (fun c => ?_)
    · have hf := ifp c hf
      obtain rfl := Option.some.inj hf
      exact AW.sub [] rfl (hk0)
    · have hf := ifn c hf
      refine a_aload_n (q := 0) dX8_begin_27 rfl rfl ?_
      obtain ⟨v1, e2, hf⟩ := obd hf
      refine o_gfR dX8_begin_28 lk_X8_15 rfl e2 ?_
      refine a_iload_n (q := 1) dX8_begin_31 rfl rfl ?_
      refine a_iconst (v := 0) dX8_begin_32 (by decide) ?_
      obtain ⟨h3, e4, hf⟩ := obd hf
      refine o_asI dX8_begin_33 e4 ?_
      refine a_aload_n (q := 0) dX8_begin_34 rfl rfl ?_
      obtain ⟨v5, e6, hf⟩ := obd hf
      refine o_gfR dX8_begin_35 lk_X8_19 rfl e6 ?_
      refine a_iload_n (q := 1) dX8_begin_38 rfl rfl ?_
      refine a_fconst0 dX8_begin_39 ?_
      obtain ⟨h7, e8, hf⟩ := obd hf
      refine o_asF dX8_begin_40 e8 ?_
      refine a_iinc (q := 1) (v := (x3 + 1)) (lv1 := [(3, .int (x3 + 1)), (0, .ref x0)]) dX8_begin_41 rfl (by rfl) (by decide) rfl ?_
      refine a_goto (tgt := 21) dX8_begin_44 (by decide) ?_
      exact AW.sub [1, 0] rfl (ih _ _ _ _ hf hk0)
set_option maxHeartbeats 4000000 in
set_option maxRecDepth 100000 in
theorem sX8_begin (E : gE) (D : Nat) (hD : 1 ≤ D) {a0 : Nat} {a1 : Int32} {a2 : Int32} {h hz : hp} (hf : fX8_begin a0 a1 a2 h = some hz) : MC E yX8_begin cX8_begin (Option.none : Option Jvm.ClassFile.FieldType) 4 D [.ref a0, .int a1, .int a2] h none hz := by
  refine MC.of (by decide +kernel) (Nat.le_of_ble_eq_true rfl) rfl ?_
  unfold fX8_begin at hf
  show AW E yX8_begin cX8_begin (Option.none : Option Jvm.ClassFile.FieldType) 4 D none h hz 0 [(0, .ref a0), (1, .int a1), (2, .int a2)] [] h
  refine a_aload_n (q := 0) dX8_begin_0 rfl rfl ?_
  refine a_iload_n (q := 1) dX8_begin_1 rfl rfl ?_
  obtain ⟨h1, e2, hf⟩ := obd hf
  refine o_pfI dX8_begin_2 lk_X8_9 (⟨_, rfl, Or.inl rfl⟩) rfl e2 ?_
  refine a_aload_n (q := 0) dX8_begin_5 rfl rfl ?_
  refine a_iconst (v := 0) dX8_begin_6 (by decide) ?_
  refine a_iload_n (q := 2) dX8_begin_7 rfl rfl ?_
  refine a_bipush (v := 60) dX8_begin_8 (by decide) ?_
  obtain ⟨v4, h5, e3, hf⟩ := ob2 hf
  refine a_callS (as := [.int a2, .int 60]) (np := 2) (st := [.int 0, .ref a0]) (sJ9_min_7cf53 E (D - 1) (by omega) e3) dX8_begin_10 rfl (by omega) (by decide) cw_X8_23 wd_310 rfl (Nat.le_of_ble_eq_true rfl) ?_
  obtain ⟨v7, h8, e6, hf⟩ := ob2 hf
  refine a_callS (as := [.int 0, .int v4]) (np := 2) (st := [.ref a0]) (sJ9_max_7cf53 E (D - 1) (by omega) e6) dX8_begin_13 rfl (by omega) (by decide) cw_X8_29 wd_880 rfl (Nat.le_of_ble_eq_true rfl) ?_
  obtain ⟨h9, e10, hf⟩ := obd hf
  refine o_pfI dX8_begin_16 lk_X8_32 (⟨_, rfl, Or.inl rfl⟩) rfl e10 ?_
  refine a_iconst (v := 0) dX8_begin_19 (by decide) ?_
  refine a_istore_n (lv1 := [(3, .int 0), (0, .ref a0), (1, .int a1), (2, .int a2)]) dX8_begin_20 rfl (by decide) rfl ?_
  obtain ⟨h12, e11, hf⟩ := obd hf
  refine AW.sub [1, 0] rfl (sX8_begin_l21 E D hD _ _ _ _ _ e11 ?_)
  obtain rfl := Option.some.inj hf
  exact a_return dX8_begin_47 rfl
def fX8_isNothing (a0 : Nat) (h : hp) : Option (Int32 × hp) :=
  (gfI h a0 7 0).bind fun v1 =>
  if 0 ≤ v1 then (
    some (0, h)
  ) else (
    some (1, h)
  )
set_option maxHeartbeats 4000000 in
set_option maxRecDepth 100000 in
theorem sX8_isNothing (E : gE) (D : Nat) (hD : 0 ≤ D) {a0 : Nat} {h hz : hp} {v0 : Int32} (hf : fX8_isNothing a0 h = some (v0, hz)) : MC E yX8_isNothing cX8_isNothing (Option.some Jvm.ClassFile.FieldType.boolean) 1 D [.ref a0] h (some (.int v0)) hz := by
  refine MC.of (by decide +kernel) (Nat.le_of_ble_eq_true rfl) rfl ?_
  unfold fX8_isNothing at hf
  show AW E yX8_isNothing cX8_isNothing (Option.some Jvm.ClassFile.FieldType.boolean) 1 D (some (.int v0)) h hz 0 [(0, .ref a0)] [] h
  refine a_aload_n (q := 0) dX8_isNothing_0 rfl rfl ?_
  obtain ⟨v1, e2, hf⟩ := obd hf
  refine o_gfI dX8_isNothing_1 lk_X8_9 rfl e2 ?_
  refine a_if_ge (tgt := 11) dX8_isNothing_4 (by decide) (fun c => ?_) (fun c => ?_)
  · have hf := ifp c hf
    refine a_iconst (v := 0) dX8_isNothing_11 (by decide) ?_
    obtain ⟨rfl, rfl⟩ := oc2 hf
    exact a_zreturn dX8_isNothing_12 rfl (by decide)
  · have hf := ifn c hf
    refine a_iconst (v := 1) dX8_isNothing_7 (by decide) ?_
    refine a_goto (tgt := 12) dX8_isNothing_8 (by decide) ?_
    obtain ⟨rfl, rfl⟩ := oc2 hf
    exact a_zreturn dX8_isNothing_12 rfl (by decide)
def fX8_spans (a0 : Nat) (a1 : Int32) (a2 : Int32) (h : hp) : Option (Int32 × hp) :=
  if a2 < 0 then (
    some (0, h)
  ) else (
    if a1 < 0 then (
      some (0, h)
    ) else (
      (gfI h a0 7 1).bind fun v1 =>
      if v1 < a2 then (
        some (0, h)
      ) else (
        (gfI h a0 7 1).bind fun v3 =>
        if (v3 - a2) < a1 then (
          some (0, h)
        ) else (
          some (1, h)
        )
      )
    )
  )
set_option maxHeartbeats 4000000 in
set_option maxRecDepth 100000 in
theorem sX8_spans (E : gE) (D : Nat) (hD : 0 ≤ D) {a0 : Nat} {a1 : Int32} {a2 : Int32} {h hz : hp} {v0 : Int32} (hf : fX8_spans a0 a1 a2 h = some (v0, hz)) : MC E yX8_spans cX8_spans (Option.some Jvm.ClassFile.FieldType.boolean) 3 D [.ref a0, .int a1, .int a2] h (some (.int v0)) hz := by
  refine MC.of (by decide +kernel) (Nat.le_of_ble_eq_true rfl) rfl ?_
  unfold fX8_spans at hf
  show AW E yX8_spans cX8_spans (Option.some Jvm.ClassFile.FieldType.boolean) 3 D (some (.int v0)) h hz 0 [(0, .ref a0), (1, .int a1), (2, .int a2)] [] h
  refine a_iload_n (q := 2) dX8_spans_0 rfl rfl ?_
  refine a_if_lt (tgt := 30) dX8_spans_1 (by decide) (fun c => ?_) (fun c => ?_)
  · have hf := ifp c hf
    refine a_iconst (v := 0) dX8_spans_30 (by decide) ?_
    obtain ⟨rfl, rfl⟩ := oc2 hf
    exact a_zreturn dX8_spans_31 rfl (by decide)
  · have hf := ifn c hf
    refine a_iload_n (q := 1) dX8_spans_4 rfl rfl ?_
    refine a_if_lt (tgt := 30) dX8_spans_5 (by decide) (fun c => ?_) (fun c => ?_)
    · have hf := ifp c hf
      refine a_iconst (v := 0) dX8_spans_30 (by decide) ?_
      obtain ⟨rfl, rfl⟩ := oc2 hf
      exact a_zreturn dX8_spans_31 rfl (by decide)
    · have hf := ifn c hf
      refine a_iload_n (q := 2) dX8_spans_8 rfl rfl ?_
      refine a_aload_n (q := 0) dX8_spans_9 rfl rfl ?_
      obtain ⟨v1, e2, hf⟩ := obd hf
      refine o_gfI dX8_spans_10 lk_X8_32 rfl e2 ?_
      refine a_icmp_gt (tgt := 30) dX8_spans_13 (by decide) (fun c => ?_) (fun c => ?_)
      · have hf := ifp c hf
        refine a_iconst (v := 0) dX8_spans_30 (by decide) ?_
        obtain ⟨rfl, rfl⟩ := oc2 hf
        exact a_zreturn dX8_spans_31 rfl (by decide)
      · have hf := ifn c hf
        refine a_iload_n (q := 1) dX8_spans_16 rfl rfl ?_
        refine a_aload_n (q := 0) dX8_spans_17 rfl rfl ?_
        obtain ⟨v3, e4, hf⟩ := obd hf
        refine o_gfI dX8_spans_18 lk_X8_32 rfl e4 ?_
        refine a_iload_n (q := 2) dX8_spans_21 rfl rfl ?_
        refine a_isub dX8_spans_22 ?_
        refine a_icmp_gt (tgt := 30) dX8_spans_23 (by decide) (fun c => ?_) (fun c => ?_)
        · have hf := ifp c hf
          refine a_iconst (v := 0) dX8_spans_30 (by decide) ?_
          obtain ⟨rfl, rfl⟩ := oc2 hf
          exact a_zreturn dX8_spans_31 rfl (by decide)
        · have hf := ifn c hf
          refine a_iconst (v := 1) dX8_spans_26 (by decide) ?_
          refine a_goto (tgt := 31) dX8_spans_27 (by decide) ?_
          obtain ⟨rfl, rfl⟩ := oc2 hf
          exact a_zreturn dX8_spans_31 rfl (by decide)
def fX8_put (a0 : Nat) (a1 : Int32) (a2 : Int64) (h : hp) : Option hp :=
  (gfI h a0 7 1).bind fun v1 =>
  bd2 (fX13_among a1 v1 h) fun v4 h5 =>
  if v4 = 0 then (
    some h5
  ) else (
    (gfI h5 a0 7 0).bind fun v6 =>
    if v6 = 2 then (
      (gfR h5 a0 7 3).bind fun v14 =>
      (asF h5 v14 a1 (FP.l2f a2)).bind fun h16 =>
      some h16
    ) else (
      (gfR h5 a0 7 2).bind fun v8 =>
      (gfI h5 a0 7 0).bind fun v10 =>
      jn (fun (s51_0 : Int32) (h51j : hp) => (
        (asI h51j v8 a1 s51_0).bind fun h12 =>
        some h12
        : Option hp)) fun k51 =>
      if v10 = 0 then (
        k51 ((a2.toInt32).toInt8.toInt32) h5
      ) else (
        k51 (a2.toInt32) h5
      )
    )
  )
set_option maxHeartbeats 4000000 in
set_option maxRecDepth 100000 in
theorem sX8_put (E : gE) (D : Nat) (hD : 1 ≤ D) {a0 : Nat} {a1 : Int32} {a2 : Int64} {h hz : hp} (hf : fX8_put a0 a1 a2 h = some hz) : MC E yX8_put cX8_put (Option.none : Option Jvm.ClassFile.FieldType) 4 D [.ref a0, .int a1, .long a2] h none hz := by
  refine MC.of (by decide +kernel) (Nat.le_of_ble_eq_true rfl) rfl ?_
  unfold fX8_put at hf
  show AW E yX8_put cX8_put (Option.none : Option Jvm.ClassFile.FieldType) 4 D none h hz 0 [(0, .ref a0), (1, .int a1), (2, .long a2)] [] h
  refine a_iload_n (q := 1) dX8_put_0 rfl rfl ?_
  refine a_aload_n (q := 0) dX8_put_1 rfl rfl ?_
  obtain ⟨v1, e2, hf⟩ := obd hf
  refine o_gfI dX8_put_2 lk_X8_32 rfl e2 ?_
  obtain ⟨v4, h5, e3, hf⟩ := ob2 hf
  refine a_callS (as := [.int a1, .int v1]) (np := 2) (st := []) (sX13_among E (D - 1) (by omega) e3) dX8_put_5 rfl (by omega) (by decide) cw_X8_35 wd_268 rfl (Nat.le_of_ble_eq_true rfl) ?_
  refine a_if_ne (tgt := 12) dX8_put_8 (by decide) (fun c => ?_) (fun c => ?_)
  · have hf := ifn c hf
    refine a_aload_n (q := 0) dX8_put_12 rfl rfl ?_
    obtain ⟨v6, e7, hf⟩ := obd hf
    refine o_gfI dX8_put_13 lk_X8_9 rfl e7 ?_
    refine a_iconst (v := 2) dX8_put_16 (by decide) ?_
    refine a_icmp_ne (tgt := 31) dX8_put_17 (by decide) (fun c => ?_) (fun c => ?_)
    · have hf := ifn c hf
      refine a_aload_n (q := 0) dX8_put_31 rfl rfl ?_
      obtain ⟨v8, e9, hf⟩ := obd hf
      refine o_gfR dX8_put_32 lk_X8_15 rfl e9 ?_
      refine a_iload_n (q := 1) dX8_put_35 rfl rfl ?_
      refine a_aload_n (q := 0) dX8_put_36 rfl rfl ?_
      obtain ⟨v10, e11, hf⟩ := obd hf
      refine o_gfI dX8_put_37 lk_X8_9 rfl e11 ?_
      obtain ⟨k51, ek51, hf⟩ := jn_s hf
      have hj51 : ∀ (s51_0 : Int32) (h51j : hp), k51 s51_0 h51j = some hz → AW E yX8_put cX8_put (Option.none : Option Jvm.ClassFile.FieldType) 4 D none h hz 51 [] [.int s51_0, .int a1, .ref v8] h51j := by
        intro s51_0 h51j hf
        rw [ek51] at hf
        clear ek51
        obtain ⟨h12, e13, hf⟩ := obd hf
        refine o_asI dX8_put_51 e13 ?_
        obtain rfl := Option.some.inj hf
        exact a_return dX8_put_52 rfl
      clear ek51
      refine a_if_ne (tgt := 49) dX8_put_40 (by decide) (fun c => ?_) (fun c => ?_)
      · have hf := ifn c hf
        refine a_lload_n (q := 2) dX8_put_49 rfl rfl ?_
        refine a_l2i dX8_put_50 rfl ?_
        exact AW.sub [] rfl (hj51 _ _ hf)
      · have hf := ifp c hf
        refine a_lload_n (q := 2) dX8_put_43 rfl rfl ?_
        refine a_l2i dX8_put_44 rfl ?_
        refine a_i2b dX8_put_45 rfl ?_
        refine a_goto (tgt := 51) dX8_put_46 (by decide) ?_
        exact AW.sub [] rfl (hj51 _ _ hf)
    · have hf := ifp c hf
      refine a_aload_n (q := 0) dX8_put_20 rfl rfl ?_
      obtain ⟨v14, e15, hf⟩ := obd hf
      refine o_gfR dX8_put_21 lk_X8_19 rfl e15 ?_
      refine a_iload_n (q := 1) dX8_put_24 rfl rfl ?_
      refine a_lload_n (q := 2) dX8_put_25 rfl rfl ?_
      refine a_l2f dX8_put_26 ?_
      obtain ⟨h16, e17, hf⟩ := obd hf
      refine o_asF dX8_put_27 e17 ?_
      refine a_goto (tgt := 52) dX8_put_28 (by decide) ?_
      obtain rfl := Option.some.inj hf
      exact a_return dX8_put_52 rfl
  · have hf := ifp c hf
    obtain rfl := Option.some.inj hf
    exact a_return dX8_put_11 rfl
def fX11_bitsOf_l28 : Nat → UInt32 → UInt64 → Int32 → Int32 → hp → Option (UInt64 × Int32 × hp)
  | 0, _, _, _, _, _ => none
  | n + 1, x0, x1, x3, x4, h =>
    if 128 ≤ x4 then (
      some (x1, x3, h)
    ) else (
      if (Op.cmpValue (FP.dcmp x1 4611686018427387904) .l) < 0 then (
        some (x1, x3, h)
      ) else (
        (dnn (FP.dmul x1 4602678819172646912)).bind fun v1 =>
        fX11_bitsOf_l28 n x0 v1 (x3 + 1) (x4 + 1) h
      )
    )
def fX11_bitsOf_l63 : Nat → UInt32 → UInt64 → Int32 → Int32 → hp → Option (UInt64 × Int32 × hp)
  | 0, _, _, _, _, _ => none
  | n + 1, x0, x1, x3, x4, h =>
    if 126 ≤ x4 then (
      some (x1, x3, h)
    ) else (
      if 0 ≤ (Op.cmpValue (FP.dcmp x1 FP.dconst1) .g) then (
        some (x1, x3, h)
      ) else (
        (dnn (FP.dmul x1 4611686018427387904)).bind fun v1 =>
        fX11_bitsOf_l63 n x0 v1 (x3 - 1) (x4 + 1) h
      )
    )
def fX11_bitsOf (a0 : UInt32) (h : hp) : Option (Int32 × hp) :=
  if (Op.cmpValue (FP.fcmp a0 FP.fconst0) .l) = 0 then (
    some (0, h)
  ) else (
    jn (fun (s22_0 : UInt64) (h22j : hp) => (
      bd3 (fX11_bitsOf_l28 FU a0 s22_0 0 0 h22j) fun v3 v4 h2 =>
      bd3 (fX11_bitsOf_l63 FU a0 v3 v4 0 h2) fun v7 v8 h6 =>
      (dnn (FP.dmul v7 4710765210229538816)).bind fun v9 =>
      jn (fun (p122_4 : Int32) (h122j : hp) => (
        if 0 ≤ (Op.cmpValue (FP.fcmp a0 FP.fconst0) .g) then (
          some (p122_4, h122j)
        ) else (
          some ((p122_4 ||| (-2147483648)), h122j)
        )
        : Option (Int32 × hp))) fun k122 =>
      if (FP.d2i v9) < 8388608 then (
        k122 (FP.d2i v9) h6
      ) else (
        k122 (((FP.d2i v9) - 8388608) + ((v8 + 127) <<< ((23 : Int32) &&& 31))) h6
      )
      : Option (Int32 × hp))) fun k22 =>
    if 0 ≤ (Op.cmpValue (FP.fcmp a0 FP.fconst0) .g) then (
      (dnn (FP.f2d a0)).bind fun v11 =>
      k22 v11 h
    ) else (
      (dnn (FP.f2d a0)).bind fun v13 =>
      k22 (FP.dneg v13) h
    )
  )
set_option maxHeartbeats 4000000 in
set_option maxRecDepth 100000 in
theorem sX11_bitsOf_l28 (E : gE) (D : Nat) (hD : 0 ≤ D) {rz : Option Value} {h0 hz : hp} : ∀ (n : Nat) (x0 : UInt32) (x1 : UInt64) (x3 : Int32) (x4 : Int32) (h : hp) (m1 : UInt64) (m3 : Int32) (hq : hp), fX11_bitsOf_l28 n x0 x1 x3 x4 h = some (m1, m3, hq) → (AW E yX11_bitsOf cX11_bitsOf (Option.some Jvm.ClassFile.FieldType.int) 5 D rz h0 hz 60 [(0, .float x0), (1, .double m1), (3, .int m3)] [] hq) → AW E yX11_bitsOf cX11_bitsOf (Option.some Jvm.ClassFile.FieldType.int) 5 D rz h0 hz 28 [(0, .float x0), (1, .double x1), (3, .int x3), (4, .int x4)] [] h := by
  intro n
  induction n with
  | zero =>
    intro x0 x1 x3 x4 h m1 m3 hq hf _
    rw [fX11_bitsOf_l28] at hf
    cases hf
  | succ n ih =>
    intro x0 x1 x3 x4 h m1 m3 hq hf hk0
    rw [fX11_bitsOf_l28] at hf
    refine a_iload (q := 3) dX11_bitsOf_28 rfl ?_
    refine a_sipush (v := 128) dX11_bitsOf_30 (by decide) ?_
    refine a_icmp_ge (tgt := 60) dX11_bitsOf_33 (by decide) (fun c => ?_) (fun c => ?_)
    · have hf := ifp c hf
      obtain ⟨rfl, rfl, rfl⟩ := oc3 hf
      exact AW.sub [0, 1, 2] rfl (hk0)
    · have hf := ifn c hf
      refine a_dload_n (q := 1) dX11_bitsOf_36 rfl rfl ?_
      refine a_ldc2d (v := 4611686018427387904) dX11_bitsOf_37 wd_377 ?_
      refine a_dcmp dX11_bitsOf_40 ?_
      refine a_if_lt (tgt := 60) dX11_bitsOf_41 (by decide) (fun c => ?_) (fun c => ?_)
      · have hf := ifp c hf
        obtain ⟨rfl, rfl, rfl⟩ := oc3 hf
        exact AW.sub [0, 1, 2] rfl (hk0)
      · have hf := ifn c hf
        refine a_dload_n (q := 1) dX11_bitsOf_44 rfl rfl ?_
        refine a_ldc2d (v := 4602678819172646912) dX11_bitsOf_45 wd_378 ?_
        obtain ⟨v1, e2, hf⟩ := obd hf
        refine o_dmul dX11_bitsOf_48 e2 ?_
        refine a_dstore_n (lv1 := [(1, .double v1), (0, .float x0), (3, .int x3), (4, .int x4)]) dX11_bitsOf_49 rfl (by decide) rfl ?_
        refine a_iload_n (q := 2) dX11_bitsOf_50 rfl rfl ?_
        refine a_iconst (v := 1) dX11_bitsOf_51 (by decide) ?_
        refine a_iadd dX11_bitsOf_52 ?_
        refine a_istore_n (lv1 := [(3, .int (x3 + 1)), (1, .double v1), (0, .float x0), (4, .int x4)]) dX11_bitsOf_53 rfl (by decide) rfl ?_
        refine a_iinc (q := 3) (v := (x4 + 1)) (lv1 := [(4, .int (x4 + 1)), (3, .int (x3 + 1)), (1, .double v1), (0, .float x0)]) dX11_bitsOf_54 rfl (by rfl) (by decide) rfl ?_
        refine a_goto (tgt := 28) dX11_bitsOf_57 (by decide) ?_
        exact AW.sub [3, 2, 1, 0] rfl (ih _ _ _ _ _ _ _ _ hf hk0)
set_option maxHeartbeats 4000000 in
set_option maxRecDepth 100000 in
theorem sX11_bitsOf_l63 (E : gE) (D : Nat) (hD : 0 ≤ D) {rz : Option Value} {h0 hz : hp} : ∀ (n : Nat) (x0 : UInt32) (x1 : UInt64) (x3 : Int32) (x4 : Int32) (h : hp) (m1 : UInt64) (m3 : Int32) (hq : hp), fX11_bitsOf_l63 n x0 x1 x3 x4 h = some (m1, m3, hq) → (AW E yX11_bitsOf cX11_bitsOf (Option.some Jvm.ClassFile.FieldType.int) 5 D rz h0 hz 92 [(0, .float x0), (1, .double m1), (3, .int m3)] [] hq) → AW E yX11_bitsOf cX11_bitsOf (Option.some Jvm.ClassFile.FieldType.int) 5 D rz h0 hz 63 [(0, .float x0), (1, .double x1), (3, .int x3), (4, .int x4)] [] h := by
  intro n
  induction n with
  | zero =>
    intro x0 x1 x3 x4 h m1 m3 hq hf _
    rw [fX11_bitsOf_l63] at hf
    cases hf
  | succ n ih =>
    intro x0 x1 x3 x4 h m1 m3 hq hf hk0
    rw [fX11_bitsOf_l63] at hf
    refine a_iload (q := 3) dX11_bitsOf_63 rfl ?_
    refine a_bipush (v := 126) dX11_bitsOf_65 (by decide) ?_
    refine a_icmp_ge (tgt := 92) dX11_bitsOf_67 (by decide) (fun c => ?_) (fun c => ?_)
    · have hf := ifp c hf
      obtain ⟨rfl, rfl, rfl⟩ := oc3 hf
      exact AW.sub [0, 1, 2] rfl (hk0)
    · have hf := ifn c hf
      refine a_dload_n (q := 1) dX11_bitsOf_70 rfl rfl ?_
      refine a_dconst1 dX11_bitsOf_71 ?_
      refine a_dcmp dX11_bitsOf_72 ?_
      refine a_if_ge (tgt := 92) dX11_bitsOf_73 (by decide) (fun c => ?_) (fun c => ?_)
      · have hf := ifp c hf
        obtain ⟨rfl, rfl, rfl⟩ := oc3 hf
        exact AW.sub [0, 1, 2] rfl (hk0)
      · have hf := ifn c hf
        refine a_dload_n (q := 1) dX11_bitsOf_76 rfl rfl ?_
        refine a_ldc2d (v := 4611686018427387904) dX11_bitsOf_77 wd_377 ?_
        obtain ⟨v1, e2, hf⟩ := obd hf
        refine o_dmul dX11_bitsOf_80 e2 ?_
        refine a_dstore_n (lv1 := [(1, .double v1), (0, .float x0), (3, .int x3), (4, .int x4)]) dX11_bitsOf_81 rfl (by decide) rfl ?_
        refine a_iload_n (q := 2) dX11_bitsOf_82 rfl rfl ?_
        refine a_iconst (v := 1) dX11_bitsOf_83 (by decide) ?_
        refine a_isub dX11_bitsOf_84 ?_
        refine a_istore_n (lv1 := [(3, .int (x3 - 1)), (1, .double v1), (0, .float x0), (4, .int x4)]) dX11_bitsOf_85 rfl (by decide) rfl ?_
        refine a_iinc (q := 3) (v := (x4 + 1)) (lv1 := [(4, .int (x4 + 1)), (3, .int (x3 - 1)), (1, .double v1), (0, .float x0)]) dX11_bitsOf_86 rfl (by rfl) (by decide) rfl ?_
        refine a_goto (tgt := 63) dX11_bitsOf_89 (by decide) ?_
        exact AW.sub [3, 2, 1, 0] rfl (ih _ _ _ _ _ _ _ _ hf hk0)
set_option maxHeartbeats 4000000 in
set_option maxRecDepth 100000 in
theorem sX11_bitsOf (E : gE) (D : Nat) (hD : 0 ≤ D) {a0 : UInt32} {h hz : hp} {v0 : Int32} (hf : fX11_bitsOf a0 h = some (v0, hz)) : MC E yX11_bitsOf cX11_bitsOf (Option.some Jvm.ClassFile.FieldType.int) 5 D [.float a0] h (some (.int v0)) hz := by
  refine MC.of (by decide +kernel) (Nat.le_of_ble_eq_true rfl) rfl ?_
  unfold fX11_bitsOf at hf
  show AW E yX11_bitsOf cX11_bitsOf (Option.some Jvm.ClassFile.FieldType.int) 5 D (some (.int v0)) h hz 0 [(0, .float a0)] [] h
  refine a_fload_n (q := 0) dX11_bitsOf_0 rfl rfl ?_
  refine a_fconst0 dX11_bitsOf_1 ?_
  refine a_fcmp dX11_bitsOf_2 ?_
  refine a_if_ne (tgt := 8) dX11_bitsOf_3 (by decide) (fun c => ?_) (fun c => ?_)
  · have hf := ifn c hf
    refine a_fload_n (q := 0) dX11_bitsOf_8 rfl rfl ?_
    refine a_fconst0 dX11_bitsOf_9 ?_
    refine a_fcmp dX11_bitsOf_10 ?_
    obtain ⟨k22, ek22, hf⟩ := jn_s hf
    have hj22 : ∀ (s22_0 : UInt64) (h22j : hp), k22 s22_0 h22j = some (v0, hz) → AW E yX11_bitsOf cX11_bitsOf (Option.some Jvm.ClassFile.FieldType.int) 5 D (some (.int v0)) h hz 22 [(0, .float a0)] [.double s22_0] h22j := by
      intro s22_0 h22j hf
      rw [ek22] at hf
      clear ek22
      refine a_dstore_n (lv1 := [(1, .double s22_0), (0, .float a0)]) dX11_bitsOf_22 rfl (by decide) rfl ?_
      refine a_iconst (v := 0) dX11_bitsOf_23 (by decide) ?_
      refine a_istore_n (lv1 := [(3, .int 0), (1, .double s22_0), (0, .float a0)]) dX11_bitsOf_24 rfl (by decide) rfl ?_
      refine a_iconst (v := 0) dX11_bitsOf_25 (by decide) ?_
      refine a_istore (lv1 := [(4, .int 0), (3, .int 0), (1, .double s22_0), (0, .float a0)]) dX11_bitsOf_26 (by decide) rfl ?_
      obtain ⟨v3, v4, h2, e1, hf⟩ := ob3 hf
      refine AW.sub [3, 2, 1, 0] rfl (sX11_bitsOf_l28 E D hD _ _ _ _ _ _ _ _ _ e1 ?_)
      refine a_iconst (v := 0) dX11_bitsOf_60 (by decide) ?_
      refine a_istore (lv1 := [(4, .int 0), (0, .float a0), (1, .double v3), (3, .int v4)]) dX11_bitsOf_61 (by decide) rfl ?_
      obtain ⟨v7, v8, h6, e5, hf⟩ := ob3 hf
      refine AW.sub [1, 2, 3, 0] rfl (sX11_bitsOf_l63 E D hD _ _ _ _ _ _ _ _ _ e5 ?_)
      refine a_dload_n (q := 1) dX11_bitsOf_92 rfl rfl ?_
      refine a_ldc2d (v := 4710765210229538816) dX11_bitsOf_93 wd_379 ?_
      obtain ⟨v9, e10, hf⟩ := obd hf
      refine o_dmul dX11_bitsOf_96 e10 ?_
      refine a_d2i dX11_bitsOf_97 ?_
      refine a_istore (lv1 := [(4, .int (FP.d2i v9)), (0, .float a0), (1, .double v7), (3, .int v8)]) dX11_bitsOf_98 (by decide) rfl ?_
      refine a_iload (q := 0) dX11_bitsOf_100 rfl ?_
      refine a_ldc (v := 8388608) dX11_bitsOf_102 wd_380 ?_
      obtain ⟨k122, ek122, hf⟩ := jn_s hf
      have hj122 : ∀ (p122_4 : Int32) (h122j : hp), k122 p122_4 h122j = some (v0, hz) → AW E yX11_bitsOf cX11_bitsOf (Option.some Jvm.ClassFile.FieldType.int) 5 D (some (.int v0)) h hz 122 [(0, .float a0), (4, .int p122_4)] [] h122j := by
        intro p122_4 h122j hf
        rw [ek122] at hf
        clear ek122
        refine a_fload_n (q := 0) dX11_bitsOf_122 rfl rfl ?_
        refine a_fconst0 dX11_bitsOf_123 ?_
        refine a_fcmp dX11_bitsOf_124 ?_
        refine a_if_ge (tgt := 136) dX11_bitsOf_125 (by decide) (fun c => ?_) (fun c => ?_)
        · have hf := ifp c hf
          refine a_iload (q := 1) dX11_bitsOf_136 rfl ?_
          obtain ⟨rfl, rfl⟩ := oc2 hf
          exact a_ireturn dX11_bitsOf_138 rfl
        · have hf := ifn c hf
          refine a_iload (q := 1) dX11_bitsOf_128 rfl ?_
          refine a_ldc (v := (-2147483648)) dX11_bitsOf_130 wd_381 ?_
          refine a_ior dX11_bitsOf_132 ?_
          refine a_goto (tgt := 138) dX11_bitsOf_133 (by decide) ?_
          obtain ⟨rfl, rfl⟩ := oc2 hf
          exact a_ireturn dX11_bitsOf_138 rfl
      clear ek122
      refine a_icmp_lt (tgt := 122) dX11_bitsOf_104 (by decide) (fun c => ?_) (fun c => ?_)
      · have hf := ifp c hf
        exact AW.sub [1, 0] rfl (hj122 _ _ hf)
      · have hf := ifn c hf
        refine a_iload (q := 0) dX11_bitsOf_107 rfl ?_
        refine a_ldc (v := 8388608) dX11_bitsOf_109 wd_380 ?_
        refine a_isub dX11_bitsOf_111 ?_
        refine a_iload_n (q := 3) dX11_bitsOf_112 rfl rfl ?_
        refine a_bipush (v := 127) dX11_bitsOf_113 (by decide) ?_
        refine a_iadd dX11_bitsOf_115 ?_
        refine a_bipush (v := 23) dX11_bitsOf_116 (by decide) ?_
        refine a_ishl dX11_bitsOf_118 ?_
        refine a_iadd dX11_bitsOf_119 ?_
        refine a_istore (lv1 := [(4, .int (((FP.d2i v9) - 8388608) + ((v8 + 127) <<< ((23 : Int32) &&& 31)))), (0, .float a0), (1, .double v7), (3, .int v8)]) dX11_bitsOf_120 (by decide) rfl ?_
        exact AW.sub [1, 0] rfl (hj122 _ _ hf)
    clear ek22
    refine a_if_ge (tgt := 20) dX11_bitsOf_11 (by decide) (fun c => ?_) (fun c => ?_)
    · have hf := ifp c hf
      refine a_fload_n (q := 0) dX11_bitsOf_20 rfl rfl ?_
      obtain ⟨v11, e12, hf⟩ := obd hf
      refine o_f2d dX11_bitsOf_21 e12 ?_
      exact hj22 _ _ hf
    · have hf := ifn c hf
      refine a_fload_n (q := 0) dX11_bitsOf_14 rfl rfl ?_
      obtain ⟨v13, e14, hf⟩ := obd hf
      refine o_f2d dX11_bitsOf_15 e14 ?_
      refine a_dneg dX11_bitsOf_16 ?_
      refine a_goto (tgt := 22) dX11_bitsOf_17 (by decide) ?_
      exact hj22 _ _ hf
  · have hf := ifp c hf
    refine a_iconst (v := 0) dX11_bitsOf_6 (by decide) ?_
    obtain ⟨rfl, rfl⟩ := oc2 hf
    exact a_ireturn dX11_bitsOf_7 rfl
def fX8_bits (a0 : Nat) (a1 : Int32) (h : hp) : Option (Int64 × hp) :=
  (gfI h a0 7 1).bind fun v1 =>
  bd2 (fX13_among a1 v1 h) fun v4 h5 =>
  if v4 = 0 then (
    some ((-9223372036854775808), h5)
  ) else (
    (gfI h5 a0 7 0).bind fun v6 =>
    if v6 = 2 then (
      (gfR h5 a0 7 3).bind fun v12 =>
      (alF h5 v12 a1).bind fun v14 =>
      bd2 (fX11_bitsOf v14 h5) fun v17 h18 =>
      some ((v17.toInt64), h18)
    ) else (
      (gfR h5 a0 7 2).bind fun v8 =>
      (alI h5 v8 a1).bind fun v10 =>
      some ((v10.toInt64), h5)
    )
  )
set_option maxHeartbeats 4000000 in
set_option maxRecDepth 100000 in
theorem sX8_bits (E : gE) (D : Nat) (hD : 1 ≤ D) {a0 : Nat} {a1 : Int32} {h hz : hp} {v0 : Int64} (hf : fX8_bits a0 a1 h = some (v0, hz)) : MC E yX8_bits cX8_bits (Option.some Jvm.ClassFile.FieldType.long) 2 D [.ref a0, .int a1] h (some (.long v0)) hz := by
  refine MC.of (by decide +kernel) (Nat.le_of_ble_eq_true rfl) rfl ?_
  unfold fX8_bits at hf
  show AW E yX8_bits cX8_bits (Option.some Jvm.ClassFile.FieldType.long) 2 D (some (.long v0)) h hz 0 [(0, .ref a0), (1, .int a1)] [] h
  refine a_iload_n (q := 1) dX8_bits_0 rfl rfl ?_
  refine a_aload_n (q := 0) dX8_bits_1 rfl rfl ?_
  obtain ⟨v1, e2, hf⟩ := obd hf
  refine o_gfI dX8_bits_2 lk_X8_32 rfl e2 ?_
  obtain ⟨v4, h5, e3, hf⟩ := ob2 hf
  refine a_callS (as := [.int a1, .int v1]) (np := 2) (st := []) (sX13_among E (D - 1) (by omega) e3) dX8_bits_5 rfl (by omega) (by decide) cw_X8_35 wd_268 rfl (Nat.le_of_ble_eq_true rfl) ?_
  refine a_if_ne (tgt := 15) dX8_bits_8 (by decide) (fun c => ?_) (fun c => ?_)
  · have hf := ifn c hf
    refine a_aload_n (q := 0) dX8_bits_15 rfl rfl ?_
    obtain ⟨v6, e7, hf⟩ := obd hf
    refine o_gfI dX8_bits_16 lk_X8_9 rfl e7 ?_
    refine a_iconst (v := 2) dX8_bits_19 (by decide) ?_
    refine a_icmp_ne (tgt := 36) dX8_bits_20 (by decide) (fun c => ?_) (fun c => ?_)
    · have hf := ifn c hf
      refine a_aload_n (q := 0) dX8_bits_36 rfl rfl ?_
      obtain ⟨v8, e9, hf⟩ := obd hf
      refine o_gfR dX8_bits_37 lk_X8_15 rfl e9 ?_
      refine a_iload_n (q := 1) dX8_bits_40 rfl rfl ?_
      obtain ⟨v10, e11, hf⟩ := obd hf
      refine o_alI dX8_bits_41 e11 ?_
      refine a_i2l dX8_bits_42 rfl ?_
      obtain ⟨rfl, rfl⟩ := oc2 hf
      exact a_lreturn dX8_bits_43 rfl
    · have hf := ifp c hf
      refine a_aload_n (q := 0) dX8_bits_23 rfl rfl ?_
      obtain ⟨v12, e13, hf⟩ := obd hf
      refine o_gfR dX8_bits_24 lk_X8_19 rfl e13 ?_
      refine a_iload_n (q := 1) dX8_bits_27 rfl rfl ?_
      obtain ⟨v14, e15, hf⟩ := obd hf
      refine o_alF dX8_bits_28 e15 ?_
      obtain ⟨v17, h18, e16, hf⟩ := ob2 hf
      refine a_callS (as := [.float v14]) (np := 1) (st := []) (sX11_bitsOf E (D - 1) (by omega) e16) dX8_bits_29 rfl (by omega) (by decide) cw_X8_41 wd_375 rfl (Nat.le_of_ble_eq_true rfl) ?_
      refine a_i2l dX8_bits_32 rfl ?_
      refine a_goto (tgt := 43) dX8_bits_33 (by decide) ?_
      obtain ⟨rfl, rfl⟩ := oc2 hf
      exact a_lreturn dX8_bits_43 rfl
  · have hf := ifp c hf
    refine a_ldc2 (v := (-9223372036854775808)) dX8_bits_11 wd_1076 ?_
    obtain ⟨rfl, rfl⟩ := oc2 hf
    exact a_lreturn dX8_bits_14 rfl
def fX8_whole (a0 : Nat) (a1 : Int32) (h : hp) : Option (Int32 × hp) :=
  (gfI h a0 7 1).bind fun v1 =>
  bd2 (fX13_among a1 v1 h) fun v4 h5 =>
  if v4 = 0 then (
    some (0, h5)
  ) else (
    (gfI h5 a0 7 0).bind fun v6 =>
    if v6 = 2 then (
      (gfR h5 a0 7 3).bind fun v12 =>
      (alF h5 v12 a1).bind fun v14 =>
      some ((FP.f2i v14), h5)
    ) else (
      (gfR h5 a0 7 2).bind fun v8 =>
      (alI h5 v8 a1).bind fun v10 =>
      some (v10, h5)
    )
  )
set_option maxHeartbeats 4000000 in
set_option maxRecDepth 100000 in
theorem sX8_whole (E : gE) (D : Nat) (hD : 1 ≤ D) {a0 : Nat} {a1 : Int32} {h hz : hp} {v0 : Int32} (hf : fX8_whole a0 a1 h = some (v0, hz)) : MC E yX8_whole cX8_whole (Option.some Jvm.ClassFile.FieldType.int) 2 D [.ref a0, .int a1] h (some (.int v0)) hz := by
  refine MC.of (by decide +kernel) (Nat.le_of_ble_eq_true rfl) rfl ?_
  unfold fX8_whole at hf
  show AW E yX8_whole cX8_whole (Option.some Jvm.ClassFile.FieldType.int) 2 D (some (.int v0)) h hz 0 [(0, .ref a0), (1, .int a1)] [] h
  refine a_iload_n (q := 1) dX8_whole_0 rfl rfl ?_
  refine a_aload_n (q := 0) dX8_whole_1 rfl rfl ?_
  obtain ⟨v1, e2, hf⟩ := obd hf
  refine o_gfI dX8_whole_2 lk_X8_32 rfl e2 ?_
  obtain ⟨v4, h5, e3, hf⟩ := ob2 hf
  refine a_callS (as := [.int a1, .int v1]) (np := 2) (st := []) (sX13_among E (D - 1) (by omega) e3) dX8_whole_5 rfl (by omega) (by decide) cw_X8_35 wd_268 rfl (Nat.le_of_ble_eq_true rfl) ?_
  refine a_if_ne (tgt := 13) dX8_whole_8 (by decide) (fun c => ?_) (fun c => ?_)
  · have hf := ifn c hf
    refine a_aload_n (q := 0) dX8_whole_13 rfl rfl ?_
    obtain ⟨v6, e7, hf⟩ := obd hf
    refine o_gfI dX8_whole_14 lk_X8_9 rfl e7 ?_
    refine a_iconst (v := 2) dX8_whole_17 (by decide) ?_
    refine a_icmp_ne (tgt := 31) dX8_whole_18 (by decide) (fun c => ?_) (fun c => ?_)
    · have hf := ifn c hf
      refine a_aload_n (q := 0) dX8_whole_31 rfl rfl ?_
      obtain ⟨v8, e9, hf⟩ := obd hf
      refine o_gfR dX8_whole_32 lk_X8_15 rfl e9 ?_
      refine a_iload_n (q := 1) dX8_whole_35 rfl rfl ?_
      obtain ⟨v10, e11, hf⟩ := obd hf
      refine o_alI dX8_whole_36 e11 ?_
      obtain ⟨rfl, rfl⟩ := oc2 hf
      exact a_ireturn dX8_whole_37 rfl
    · have hf := ifp c hf
      refine a_aload_n (q := 0) dX8_whole_21 rfl rfl ?_
      obtain ⟨v12, e13, hf⟩ := obd hf
      refine o_gfR dX8_whole_22 lk_X8_19 rfl e13 ?_
      refine a_iload_n (q := 1) dX8_whole_25 rfl rfl ?_
      obtain ⟨v14, e15, hf⟩ := obd hf
      refine o_alF dX8_whole_26 e15 ?_
      refine a_f2i dX8_whole_27 ?_
      refine a_goto (tgt := 37) dX8_whole_28 (by decide) ?_
      obtain ⟨rfl, rfl⟩ := oc2 hf
      exact a_ireturn dX8_whole_37 rfl
  · have hf := ifp c hf
    refine a_iconst (v := 0) dX8_whole_11 (by decide) ?_
    obtain ⟨rfl, rfl⟩ := oc2 hf
    exact a_ireturn dX8_whole_12 rfl
def fX8_take (a0 : Nat) (a1 : Nat) (a2 : Int32) (a3 : Int32) (a4 : Int32) (h : hp) : Option hp :=
  (ckT h a1 7).bind fun _ =>
  bd2 (fX8_spans a1 a2 a4 h) fun v2 h3 =>
  if v2 = 0 then (
    some h3
  ) else (
    (ckT h3 a0 7).bind fun _ =>
    bd2 (fX8_spans a0 a3 a4 h3) fun v6 h7 =>
    if v6 = 0 then (
      some h7
    ) else (
      (gfR h7 a1 7 2).bind fun v9 =>
      (gfR h7 a0 7 2).bind fun v11 =>
      (cpI h7 v9 a2 v11 a3 a4).bind fun h13 =>
      (gfR h13 a1 7 3).bind fun v15 =>
      (gfR h13 a0 7 3).bind fun v17 =>
      (cpF h13 v15 a2 v17 a3 a4).bind fun h19 =>
      some h19
    )
  )
set_option maxHeartbeats 4000000 in
set_option maxRecDepth 100000 in
theorem sX8_take (E : gE) (D : Nat) (hD : 1 ≤ D) {a0 : Nat} {a1 : Nat} {a2 : Int32} {a3 : Int32} {a4 : Int32} {h hz : hp} (hf : fX8_take a0 a1 a2 a3 a4 h = some hz) : MC E yX8_take cX8_take (Option.none : Option Jvm.ClassFile.FieldType) 5 D [.ref a0, .ref a1, .int a2, .int a3, .int a4] h none hz := by
  refine MC.of (by decide +kernel) (Nat.le_of_ble_eq_true rfl) rfl ?_
  unfold fX8_take at hf
  show AW E yX8_take cX8_take (Option.none : Option Jvm.ClassFile.FieldType) 5 D none h hz 0 [(0, .ref a0), (1, .ref a1), (2, .int a2), (3, .int a3), (4, .int a4)] [] h
  refine a_aload_n (q := 1) dX8_take_0 rfl rfl ?_
  refine a_iload_n (q := 2) dX8_take_1 rfl rfl ?_
  refine a_iload (q := 4) dX8_take_2 rfl ?_
  obtain ⟨_, e4, hf⟩ := obd hf
  obtain ⟨v2, h3, e1, hf⟩ := ob2 hf
  refine a_callV (as := [.int a2, .int a4]) (np := 2) (ci := 7) (st := []) (sX8_spans E (D - 1) (by omega) e1) dX8_take_4 rfl (by omega) (by decide) cw_X8_47 ⟨wd_1083, wd_1084⟩ rfl (ckT_s e4) rfl (Nat.le_of_ble_eq_true rfl) ?_
  refine a_if_eq (tgt := 20) dX8_take_7 (by decide) (fun c => ?_) (fun c => ?_)
  · have hf := ifp c hf
    obtain rfl := Option.some.inj hf
    exact a_return dX8_take_20 rfl
  · have hf := ifn c hf
    refine a_aload_n (q := 0) dX8_take_10 rfl rfl ?_
    refine a_iload_n (q := 3) dX8_take_11 rfl rfl ?_
    refine a_iload (q := 4) dX8_take_12 rfl ?_
    obtain ⟨_, e8, hf⟩ := obd hf
    obtain ⟨v6, h7, e5, hf⟩ := ob2 hf
    refine a_callV (as := [.int a3, .int a4]) (np := 2) (ci := 7) (st := []) (sX8_spans E (D - 1) (by omega) e5) dX8_take_14 rfl (by omega) (by decide) cw_X8_47 ⟨wd_1083, wd_1084⟩ rfl (ckT_s e8) rfl (Nat.le_of_ble_eq_true rfl) ?_
    refine a_if_ne (tgt := 21) dX8_take_17 (by decide) (fun c => ?_) (fun c => ?_)
    · have hf := ifn c hf
      refine a_aload_n (q := 1) dX8_take_21 rfl rfl ?_
      obtain ⟨v9, e10, hf⟩ := obd hf
      refine o_gfR dX8_take_22 lk_X8_15 rfl e10 ?_
      refine a_iload_n (q := 2) dX8_take_25 rfl rfl ?_
      refine a_aload_n (q := 0) dX8_take_26 rfl rfl ?_
      obtain ⟨v11, e12, hf⟩ := obd hf
      refine o_gfR dX8_take_27 lk_X8_15 rfl e12 ?_
      refine a_iload_n (q := 3) dX8_take_30 rfl rfl ?_
      refine a_iload (q := 4) dX8_take_31 rfl ?_
      obtain ⟨h13, e14, hf⟩ := obd hf
      refine o_cpI dX8_take_33 (by omega) wd_1091 wd_830 wd_829 wd_22 e14 (Nat.le_of_ble_eq_true rfl) ?_
      refine a_aload_n (q := 1) dX8_take_36 rfl rfl ?_
      obtain ⟨v15, e16, hf⟩ := obd hf
      refine o_gfR dX8_take_37 lk_X8_19 rfl e16 ?_
      refine a_iload_n (q := 2) dX8_take_40 rfl rfl ?_
      refine a_aload_n (q := 0) dX8_take_41 rfl rfl ?_
      obtain ⟨v17, e18, hf⟩ := obd hf
      refine o_gfR dX8_take_42 lk_X8_19 rfl e18 ?_
      refine a_iload_n (q := 3) dX8_take_45 rfl rfl ?_
      refine a_iload (q := 4) dX8_take_46 rfl ?_
      obtain ⟨h19, e20, hf⟩ := obd hf
      refine o_cpF dX8_take_48 (by omega) wd_1091 wd_830 wd_829 wd_22 e20 (Nat.le_of_ble_eq_true rfl) ?_
      obtain rfl := Option.some.inj hf
      exact a_return dX8_take_51 rfl
    · have hf := ifp c hf
      obtain rfl := Option.some.inj hf
      exact a_return dX8_take_20 rfl
def fX9_init_l45 : Nat → Nat → Int32 → hp → Option hp
  | 0, _, _, _ => none
  | n + 1, x0, x1, h =>
    if 8 ≤ x1 then (
      some (h)
    ) else (
      (gfR h x0 8 0).bind fun v1 =>
      bd2 (nwO h 10 5) fun v3 h4 =>
      (ckT h4 v3 10).bind fun _ =>
      (fX11_init v3 h4).bind fun h7 =>
      (asR 6 h7 v1 x1 v3).bind fun h9 =>
      fX9_init_l45 n x0 (x1 + 1) h9
    )
def fX9_init (a0 : Nat) (h : hp) : Option hp :=
  (ckT h a0 8).bind fun _ =>
  bd2 (nwA h 6 8) fun v2 h3 =>
  (pfR h3 a0 8 0 v2).bind fun h5 =>
  bd2 (nwA h5 5 6) fun v7 h8 =>
  (pfR h8 a0 8 1 v7).bind fun h10 =>
  bd2 (nwO h10 4 2) fun v12 h13 =>
  (ckT h13 v12 4).bind fun _ =>
  (fX5_init v12 400 h13).bind fun h16 =>
  (pfR h16 a0 8 2 v12).bind fun h18 =>
  (pfI h18 a0 8 3 200).bind fun h20 =>
  (fX9_init_l45 FU a0 0 h20).bind fun h23 =>
  some h23
set_option maxHeartbeats 4000000 in
set_option maxRecDepth 100000 in
theorem sX9_init_l45 (E : gE) (D : Nat) (hD : 2 ≤ D) {rz : Option Value} {h0 hz : hp} : ∀ (n : Nat) (x0 : Nat) (x1 : Int32) (h : hp) (hq : hp), fX9_init_l45 n x0 x1 h = some hq → (AW E yX9_init cX9_init (Option.none : Option Jvm.ClassFile.FieldType) 2 D rz h0 hz 70 [] [] hq) → AW E yX9_init cX9_init (Option.none : Option Jvm.ClassFile.FieldType) 2 D rz h0 hz 45 [(0, .ref x0), (1, .int x1)] [] h := by
  intro n
  induction n with
  | zero =>
    intro x0 x1 h hq hf _
    rw [fX9_init_l45] at hf
    cases hf
  | succ n ih =>
    intro x0 x1 h hq hf hk0
    rw [fX9_init_l45] at hf
    refine a_iload_n (q := 1) dX9_init_45 rfl rfl ?_
    refine a_bipush (v := 8) dX9_init_46 (by decide) ?_
    refine a_icmp_ge (tgt := 70) dX9_init_48 (by decide) (fun c => ?_) (fun c => ?_)
    · have hf := ifp c hf
      obtain rfl := Option.some.inj hf
      exact AW.sub [] rfl (hk0)
    · have hf := ifn c hf
      refine a_aload_n (q := 0) dX9_init_51 rfl rfl ?_
      obtain ⟨v1, e2, hf⟩ := obd hf
      refine o_gfR dX9_init_52 lk_X9_11 rfl e2 ?_
      refine a_iload_n (q := 1) dX9_init_55 rfl rfl ?_
      obtain ⟨v3, h4, e5, hf⟩ := ob2 hf
      refine o_nwO (ci := 10) dX9_init_56 rfl rfl gu_10 tyX11_ok (by decide) wd_40 wd_64 wd_4 e5 ?_
      refine a_dup dX9_init_59 rfl ?_
      obtain ⟨_, e8, hf⟩ := obd hf
      obtain ⟨h7, e6, hf⟩ := obd hf
      refine a_callI (as := []) (np := 0) (ci := 10) (st := [.ref v3, .int x1, .ref v1]) (sX11_init E (D - 1) (by omega) e6) dX9_init_60 rfl (by omega) (by decide) cw_X9_36 ⟨wd_66, rfl⟩ rfl (ckT_s e8) rfl (Nat.le_of_ble_eq_true rfl) ?_
      obtain ⟨h9, e10, hf⟩ := obd hf
      refine o_asR dX9_init_63 (by decide) e10 ?_
      refine a_iinc (q := 1) (v := (x1 + 1)) (lv1 := [(1, .int (x1 + 1)), (0, .ref x0)]) dX9_init_64 rfl (by rfl) (by decide) rfl ?_
      refine a_goto (tgt := 45) dX9_init_67 (by decide) ?_
      exact AW.sub [1, 0] rfl (ih _ _ _ _ hf hk0)
set_option maxHeartbeats 4000000 in
set_option maxRecDepth 100000 in
theorem sX9_init (E : gE) (D : Nat) (hD : 2 ≤ D) {a0 : Nat} {h hz : hp} (hf : fX9_init a0 h = some hz) : MC E yX9_init cX9_init (Option.none : Option Jvm.ClassFile.FieldType) 2 D [.ref a0] h none hz := by
  refine MC.of (by decide +kernel) (Nat.le_of_ble_eq_true rfl) rfl ?_
  unfold fX9_init at hf
  show AW E yX9_init cX9_init (Option.none : Option Jvm.ClassFile.FieldType) 2 D none h hz 0 [(0, .ref a0)] [] h
  refine a_aload_n (q := 0) dX9_init_0 rfl rfl ?_
  obtain ⟨_, e1, hf⟩ := obd hf
  refine o_objI dX9_init_1 (by omega) wd_39 wd_32 wd_33 (by decide) (ckT_s e1) (Nat.le_of_ble_eq_true rfl) ?_
  refine a_aload_n (q := 0) dX9_init_4 rfl rfl ?_
  refine a_bipush (v := 8) dX9_init_5 (by decide) ?_
  obtain ⟨v2, h3, e4, hf⟩ := ob2 hf
  refine o_nwR (j := 6) dX9_init_7 (by decide) rfl wd_40 (by decide +kernel) e4 ?_
  obtain ⟨h5, e6, hf⟩ := obd hf
  refine o_pfR dX9_init_10 lk_X9_11 (⟨_, rfl, Or.inr ⟨rfl, rfl, rfl, wd_89⟩⟩) rfl e6 ?_
  refine a_aload_n (q := 0) dX9_init_13 rfl rfl ?_
  refine a_bipush (v := 6) dX9_init_14 (by decide) ?_
  obtain ⟨v7, h8, e9, hf⟩ := ob2 hf
  refine o_nwR (j := 5) dX9_init_16 (by decide) rfl wd_42 (by decide +kernel) e9 ?_
  obtain ⟨h10, e11, hf⟩ := obd hf
  refine o_pfR dX9_init_19 lk_X9_19 (⟨_, rfl, Or.inr ⟨rfl, rfl, rfl, wd_90⟩⟩) rfl e11 ?_
  refine a_aload_n (q := 0) dX9_init_22 rfl rfl ?_
  obtain ⟨v12, h13, e14, hf⟩ := ob2 hf
  refine o_nwO (ci := 4) dX9_init_23 rfl rfl gu_4 tyX5_ok (by decide) wd_44 wd_45 wd_3 e14 ?_
  refine a_dup dX9_init_26 rfl ?_
  refine a_sipush (v := 400) dX9_init_27 (by decide) ?_
  obtain ⟨_, e17, hf⟩ := obd hf
  obtain ⟨h16, e15, hf⟩ := obd hf
  refine a_callI (as := [.int 400]) (np := 1) (ci := 4) (st := [.ref v12, .ref a0]) (sX5_init E (D - 1) (by omega) e15) dX9_init_30 rfl (by omega) (by decide) cw_X9_25 ⟨wd_47, rfl⟩ rfl (ckT_s e17) rfl (Nat.le_of_ble_eq_true rfl) ?_
  obtain ⟨h18, e19, hf⟩ := obd hf
  refine o_pfR dX9_init_33 lk_X9_28 (⟨_, rfl, Or.inr ⟨rfl, rfl, rfl, wd_92⟩⟩) rfl e19 ?_
  refine a_aload_n (q := 0) dX9_init_36 rfl rfl ?_
  refine a_sipush (v := 200) dX9_init_37 (by decide) ?_
  obtain ⟨h20, e21, hf⟩ := obd hf
  refine o_pfI dX9_init_40 lk_X9_32 (⟨_, rfl, Or.inl rfl⟩) rfl e21 ?_
  refine a_iconst (v := 0) dX9_init_43 (by decide) ?_
  refine a_istore_n (lv1 := [(1, .int 0), (0, .ref a0)]) dX9_init_44 rfl (by decide) rfl ?_
  obtain ⟨h23, e22, hf⟩ := obd hf
  refine AW.sub [1, 0] rfl (sX9_init_l45 E D hD _ _ _ _ _ e22 ?_)
  obtain rfl := Option.some.inj hf
  exact a_return dX9_init_70 rfl
def fX9_variable (a0 : Nat) (a1 : Int32) (h : hp) : Option (Nat × hp) :=
  bd2 (fX13_among a1 8 h) fun v2 h3 =>
  if v2 = 0 then (
    some (0, h3)
  ) else (
    (gfR h3 a0 8 0).bind fun v4 =>
    (alR 6 h3 v4 a1).bind fun v6 =>
    some (v6, h3)
  )
set_option maxHeartbeats 4000000 in
set_option maxRecDepth 100000 in
theorem sX9_variable (E : gE) (D : Nat) (hD : 1 ≤ D) {a0 : Nat} {a1 : Int32} {h hz : hp} {v0 : Nat} (hf : fX9_variable a0 a1 h = some (v0, hz)) : MC E yX9_variable cX9_variable (Option.some (Jvm.ClassFile.FieldType.object "TemplatePress$Value")) 2 D [.ref a0, .int a1] h (some (.ref v0)) hz := by
  refine MC.of (by decide +kernel) (Nat.le_of_ble_eq_true rfl) rfl ?_
  unfold fX9_variable at hf
  show AW E yX9_variable cX9_variable (Option.some (Jvm.ClassFile.FieldType.object "TemplatePress$Value")) 2 D (some (.ref v0)) h hz 0 [(0, .ref a0), (1, .int a1)] [] h
  refine a_iload_n (q := 1) dX9_variable_0 rfl rfl ?_
  refine a_bipush (v := 8) dX9_variable_1 (by decide) ?_
  obtain ⟨v2, h3, e1, hf⟩ := ob2 hf
  refine a_callS (as := [.int a1, .int 8]) (np := 2) (st := []) (sX13_among E (D - 1) (by omega) e1) dX9_variable_3 rfl (by omega) (by decide) cw_X9_37 wd_268 rfl (Nat.le_of_ble_eq_true rfl) ?_
  refine a_if_eq (tgt := 18) dX9_variable_6 (by decide) (fun c => ?_) (fun c => ?_)
  · have hf := ifp c hf
    refine a_null dX9_variable_18 ?_
    obtain ⟨rfl, rfl⟩ := oc2 hf
    exact a_areturn dX9_variable_19 rfl (Or.inl ⟨_, rfl⟩)
  · have hf := ifn c hf
    refine a_aload_n (q := 0) dX9_variable_9 rfl rfl ?_
    obtain ⟨v4, e5, hf⟩ := obd hf
    refine o_gfR dX9_variable_10 lk_X9_11 rfl e5 ?_
    refine a_iload_n (q := 1) dX9_variable_13 rfl rfl ?_
    obtain ⟨v6, e7, hf⟩ := obd hf
    refine o_alR dX9_variable_14 (by decide) e7 ?_
    refine a_goto (tgt := 19) dX9_variable_15 (by decide) ?_
    obtain ⟨rfl, rfl⟩ := oc2 hf
    exact a_areturn dX9_variable_19 rfl (Or.inl ⟨_, rfl⟩)
def fX9_held (a0 : Nat) (a1 : Int32) (h : hp) : Option (Nat × hp) :=
  bd2 (fX13_among a1 6 h) fun v2 h3 =>
  if v2 = 0 then (
    some (0, h3)
  ) else (
    (gfR h3 a0 8 1).bind fun v4 =>
    (alR 5 h3 v4 a1).bind fun v6 =>
    some (v6, h3)
  )
set_option maxHeartbeats 4000000 in
set_option maxRecDepth 100000 in
theorem sX9_held (E : gE) (D : Nat) (hD : 1 ≤ D) {a0 : Nat} {a1 : Int32} {h hz : hp} {v0 : Nat} (hf : fX9_held a0 a1 h = some (v0, hz)) : MC E yX9_held cX9_held (Option.some (Jvm.ClassFile.FieldType.object "TemplatePress$Template")) 2 D [.ref a0, .int a1] h (some (.ref v0)) hz := by
  refine MC.of (by decide +kernel) (Nat.le_of_ble_eq_true rfl) rfl ?_
  unfold fX9_held at hf
  show AW E yX9_held cX9_held (Option.some (Jvm.ClassFile.FieldType.object "TemplatePress$Template")) 2 D (some (.ref v0)) h hz 0 [(0, .ref a0), (1, .int a1)] [] h
  refine a_iload_n (q := 1) dX9_held_0 rfl rfl ?_
  refine a_bipush (v := 6) dX9_held_1 (by decide) ?_
  obtain ⟨v2, h3, e1, hf⟩ := ob2 hf
  refine a_callS (as := [.int a1, .int 6]) (np := 2) (st := []) (sX13_among E (D - 1) (by omega) e1) dX9_held_3 rfl (by omega) (by decide) cw_X9_37 wd_268 rfl (Nat.le_of_ble_eq_true rfl) ?_
  refine a_if_eq (tgt := 18) dX9_held_6 (by decide) (fun c => ?_) (fun c => ?_)
  · have hf := ifp c hf
    refine a_null dX9_held_18 ?_
    obtain ⟨rfl, rfl⟩ := oc2 hf
    exact a_areturn dX9_held_19 rfl (Or.inl ⟨_, rfl⟩)
  · have hf := ifn c hf
    refine a_aload_n (q := 0) dX9_held_9 rfl rfl ?_
    obtain ⟨v4, e5, hf⟩ := obd hf
    refine o_gfR dX9_held_10 lk_X9_19 rfl e5 ?_
    refine a_iload_n (q := 1) dX9_held_13 rfl rfl ?_
    obtain ⟨v6, e7, hf⟩ := obd hf
    refine o_alR dX9_held_14 (by decide) e7 ?_
    refine a_goto (tgt := 19) dX9_held_15 (by decide) ?_
    obtain ⟨rfl, rfl⟩ := oc2 hf
    exact a_areturn dX9_held_19 rfl (Or.inl ⟨_, rfl⟩)
def fX9_holding_l4 : Nat → Nat → Int32 → Int32 → hp → Option (Int32 × hp)
  | 0, _, _, _, _ => none
  | n + 1, x0, x1, x2, h =>
    if 6 ≤ x2 then (
      some (x1, h)
    ) else (
      (gfR h x0 8 1).bind fun v1 =>
      (alR 5 h v1 x2).bind fun v3 =>
      if v3 = 0 then (
        fX9_holding_l4 n x0 x1 (x2 + 1) h
      ) else (
        fX9_holding_l4 n x0 (x1 ||| ((1 : Int32) <<< (x2 &&& 31))) (x2 + 1) h
      )
    )
def fX9_holding (a0 : Nat) (h : hp) : Option (Int32 × hp) :=
  bd2 (fX9_holding_l4 FU a0 0 0 h) fun v3 h2 =>
  some (v3, h2)
set_option maxHeartbeats 4000000 in
set_option maxRecDepth 100000 in
theorem sX9_holding_l4 (E : gE) (D : Nat) (hD : 0 ≤ D) {rz : Option Value} {h0 hz : hp} : ∀ (n : Nat) (x0 : Nat) (x1 : Int32) (x2 : Int32) (h : hp) (m1 : Int32) (hq : hp), fX9_holding_l4 n x0 x1 x2 h = some (m1, hq) → (AW E yX9_holding cX9_holding (Option.some Jvm.ClassFile.FieldType.int) 3 D rz h0 hz 31 [(1, .int m1)] [] hq) → AW E yX9_holding cX9_holding (Option.some Jvm.ClassFile.FieldType.int) 3 D rz h0 hz 4 [(0, .ref x0), (1, .int x1), (2, .int x2)] [] h := by
  intro n
  induction n with
  | zero =>
    intro x0 x1 x2 h m1 hq hf _
    rw [fX9_holding_l4] at hf
    cases hf
  | succ n ih =>
    intro x0 x1 x2 h m1 hq hf hk0
    rw [fX9_holding_l4] at hf
    refine a_iload_n (q := 2) dX9_holding_4 rfl rfl ?_
    refine a_bipush (v := 6) dX9_holding_5 (by decide) ?_
    refine a_icmp_ge (tgt := 31) dX9_holding_7 (by decide) (fun c => ?_) (fun c => ?_)
    · have hf := ifp c hf
      obtain ⟨rfl, rfl⟩ := oc2 hf
      exact AW.sub [1] rfl (hk0)
    · have hf := ifn c hf
      refine a_aload_n (q := 0) dX9_holding_10 rfl rfl ?_
      obtain ⟨v1, e2, hf⟩ := obd hf
      refine o_gfR dX9_holding_11 lk_X9_19 rfl e2 ?_
      refine a_iload_n (q := 2) dX9_holding_14 rfl rfl ?_
      obtain ⟨v3, e4, hf⟩ := obd hf
      refine o_alR dX9_holding_15 (by decide) e4 ?_
      refine a_ifnull (tgt := 25) dX9_holding_16 (by decide) (fun c => ?_) (fun c => ?_)
      · have hf := ifp c hf
        refine a_iinc (q := 2) (v := (x2 + 1)) (lv1 := [(2, .int (x2 + 1)), (0, .ref x0), (1, .int x1)]) dX9_holding_25 rfl (by rfl) (by decide) rfl ?_
        refine a_goto (tgt := 4) dX9_holding_28 (by decide) ?_
        exact AW.sub [1, 2, 0] rfl (ih _ _ _ _ _ _ hf hk0)
      · have hf := ifn c hf
        refine a_iload_n (q := 1) dX9_holding_19 rfl rfl ?_
        refine a_iconst (v := 1) dX9_holding_20 (by decide) ?_
        refine a_iload_n (q := 2) dX9_holding_21 rfl rfl ?_
        refine a_ishl dX9_holding_22 ?_
        refine a_ior dX9_holding_23 ?_
        refine a_istore_n (lv1 := [(1, .int (x1 ||| ((1 : Int32) <<< (x2 &&& 31)))), (0, .ref x0), (2, .int x2)]) dX9_holding_24 rfl (by decide) rfl ?_
        refine a_iinc (q := 2) (v := (x2 + 1)) (lv1 := [(2, .int (x2 + 1)), (1, .int (x1 ||| ((1 : Int32) <<< (x2 &&& 31)))), (0, .ref x0)]) dX9_holding_25 rfl (by rfl) (by decide) rfl ?_
        refine a_goto (tgt := 4) dX9_holding_28 (by decide) ?_
        exact AW.sub [2, 1, 0] rfl (ih _ _ _ _ _ _ hf hk0)
set_option maxHeartbeats 4000000 in
set_option maxRecDepth 100000 in
theorem sX9_holding (E : gE) (D : Nat) (hD : 0 ≤ D) {a0 : Nat} {h hz : hp} {v0 : Int32} (hf : fX9_holding a0 h = some (v0, hz)) : MC E yX9_holding cX9_holding (Option.some Jvm.ClassFile.FieldType.int) 3 D [.ref a0] h (some (.int v0)) hz := by
  refine MC.of (by decide +kernel) (Nat.le_of_ble_eq_true rfl) rfl ?_
  unfold fX9_holding at hf
  show AW E yX9_holding cX9_holding (Option.some Jvm.ClassFile.FieldType.int) 3 D (some (.int v0)) h hz 0 [(0, .ref a0)] [] h
  refine a_iconst (v := 0) dX9_holding_0 (by decide) ?_
  refine a_istore_n (lv1 := [(1, .int 0), (0, .ref a0)]) dX9_holding_1 rfl (by decide) rfl ?_
  refine a_iconst (v := 0) dX9_holding_2 (by decide) ?_
  refine a_istore_n (lv1 := [(2, .int 0), (1, .int 0), (0, .ref a0)]) dX9_holding_3 rfl (by decide) rfl ?_
  obtain ⟨v3, h2, e1, hf⟩ := ob2 hf
  refine AW.sub [2, 1, 0] rfl (sX9_holding_l4 E D hD _ _ _ _ _ _ _ e1 ?_)
  refine a_iload_n (q := 0) dX9_holding_31 rfl rfl ?_
  obtain ⟨rfl, rfl⟩ := oc2 hf
  exact a_ireturn dX9_holding_32 rfl
def fX11_copy (a0 : Nat) (a1 : Nat) (h : hp) : Option hp :=
  (gfI h a1 10 0).bind fun v1 =>
  (pfI h a0 10 0 v1).bind fun h3 =>
  (gfI h3 a1 10 1).bind fun v5 =>
  (pfI h3 a0 10 1 v5).bind fun h7 =>
  (gfF h7 a1 10 2).bind fun v9 =>
  (pfF h7 a0 10 2 v9).bind fun h11 =>
  (gfI h11 a1 10 3).bind fun v13 =>
  (pfI h11 a0 10 3 v13).bind fun h15 =>
  (gfR h15 a1 10 4).bind fun v17 =>
  (gfR h15 a0 10 4).bind fun v19 =>
  (gfR h15 a0 10 4).bind fun v21 =>
  (aln 0 h15 v21).bind fun v23 =>
  (cpI h15 v17 0 v19 0 v23).bind fun h25 =>
  some h25
set_option maxHeartbeats 4000000 in
set_option maxRecDepth 100000 in
theorem sX11_copy (E : gE) (D : Nat) (hD : 1 ≤ D) {a0 : Nat} {a1 : Nat} {h hz : hp} (hf : fX11_copy a0 a1 h = some hz) : MC E yX11_copy cX11_copy (Option.none : Option Jvm.ClassFile.FieldType) 2 D [.ref a0, .ref a1] h none hz := by
  refine MC.of (by decide +kernel) (Nat.le_of_ble_eq_true rfl) rfl ?_
  unfold fX11_copy at hf
  show AW E yX11_copy cX11_copy (Option.none : Option Jvm.ClassFile.FieldType) 2 D none h hz 0 [(0, .ref a0), (1, .ref a1)] [] h
  refine a_aload_n (q := 0) dX11_copy_0 rfl rfl ?_
  refine a_aload_n (q := 1) dX11_copy_1 rfl rfl ?_
  obtain ⟨v1, e2, hf⟩ := obd hf
  refine o_gfI dX11_copy_2 lk_X11_23 rfl e2 ?_
  obtain ⟨h3, e4, hf⟩ := obd hf
  refine o_pfI dX11_copy_5 lk_X11_23 (⟨_, rfl, Or.inl rfl⟩) rfl e4 ?_
  refine a_aload_n (q := 0) dX11_copy_8 rfl rfl ?_
  refine a_aload_n (q := 1) dX11_copy_9 rfl rfl ?_
  obtain ⟨v5, e6, hf⟩ := obd hf
  refine o_gfI dX11_copy_10 lk_X11_26 rfl e6 ?_
  obtain ⟨h7, e8, hf⟩ := obd hf
  refine o_pfI dX11_copy_13 lk_X11_26 (⟨_, rfl, Or.inl rfl⟩) rfl e8 ?_
  refine a_aload_n (q := 0) dX11_copy_16 rfl rfl ?_
  refine a_aload_n (q := 1) dX11_copy_17 rfl rfl ?_
  obtain ⟨v9, e10, hf⟩ := obd hf
  refine o_gfF dX11_copy_18 lk_X11_29 rfl e10 ?_
  obtain ⟨h11, e12, hf⟩ := obd hf
  refine o_pfF dX11_copy_21 lk_X11_29 (⟨_, rfl, Or.inl rfl⟩) rfl e12 ?_
  refine a_aload_n (q := 0) dX11_copy_24 rfl rfl ?_
  refine a_aload_n (q := 1) dX11_copy_25 rfl rfl ?_
  obtain ⟨v13, e14, hf⟩ := obd hf
  refine o_gfI dX11_copy_26 lk_X11_19 rfl e14 ?_
  obtain ⟨h15, e16, hf⟩ := obd hf
  refine o_pfI dX11_copy_29 lk_X11_19 (⟨_, rfl, Or.inl rfl⟩) rfl e16 ?_
  refine a_aload_n (q := 1) dX11_copy_32 rfl rfl ?_
  obtain ⟨v17, e18, hf⟩ := obd hf
  refine o_gfR dX11_copy_33 lk_X11_9 rfl e18 ?_
  refine a_iconst (v := 0) dX11_copy_36 (by decide) ?_
  refine a_aload_n (q := 0) dX11_copy_37 rfl rfl ?_
  obtain ⟨v19, e20, hf⟩ := obd hf
  refine o_gfR dX11_copy_38 lk_X11_9 rfl e20 ?_
  refine a_iconst (v := 0) dX11_copy_41 (by decide) ?_
  refine a_aload_n (q := 0) dX11_copy_42 rfl rfl ?_
  obtain ⟨v21, e22, hf⟩ := obd hf
  refine o_gfR dX11_copy_43 lk_X11_9 rfl e22 ?_
  obtain ⟨v23, e24, hf⟩ := obd hf
  refine o_aln dX11_copy_46 (by decide) e24 ?_
  obtain ⟨h25, e26, hf⟩ := obd hf
  refine o_cpI dX11_copy_47 (by omega) wd_828 wd_830 wd_829 wd_22 e26 (Nat.le_of_ble_eq_true rfl) ?_
  obtain rfl := Option.some.inj hf
  exact a_return dX11_copy_50 rfl
def fX9_copy_l2 : Nat → Nat → Nat → Int32 → hp → Option hp
  | 0, _, _, _, _ => none
  | n + 1, x0, x1, x2, h =>
    if 8 ≤ x2 then (
      some (h)
    ) else (
      (gfR h x0 8 0).bind fun v1 =>
      (alR 6 h v1 x2).bind fun v3 =>
      (gfR h x1 8 0).bind fun v5 =>
      (alR 6 h v5 x2).bind fun v7 =>
      (ckT h v3 10).bind fun _ =>
      (fX11_copy v3 v7 h).bind fun h10 =>
      fX9_copy_l2 n x0 x1 (x2 + 1) h10
    )
def fX9_copy_l31 : Nat → Nat → Nat → Int32 → hp → Option hp
  | 0, _, _, _, _ => none
  | n + 1, x0, x1, x2, h =>
    if 6 ≤ x2 then (
      some (h)
    ) else (
      (gfR h x0 8 1).bind fun v1 =>
      (gfR h x1 8 1).bind fun v3 =>
      (alR 5 h v3 x2).bind fun v5 =>
      (asR 5 h v1 x2 v5).bind fun h7 =>
      fX9_copy_l31 n x0 x1 (x2 + 1) h7
    )
def fX9_copy (a0 : Nat) (a1 : Nat) (h : hp) : Option hp :=
  (fX9_copy_l2 FU a0 a1 0 h).bind fun h2 =>
  (fX9_copy_l31 FU a0 a1 0 h2).bind fun h4 =>
  (gfR h4 a0 8 2).bind fun v5 =>
  (gfR h4 a1 8 2).bind fun v7 =>
  (ckT h4 v5 4).bind fun _ =>
  (fX5_copy v5 v7 h4).bind fun h10 =>
  (gfI h10 a1 8 3).bind fun v12 =>
  (pfI h10 a0 8 3 v12).bind fun h14 =>
  some h14
set_option maxHeartbeats 4000000 in
set_option maxRecDepth 100000 in
theorem sX9_copy_l2 (E : gE) (D : Nat) (hD : 2 ≤ D) {rz : Option Value} {h0 hz : hp} : ∀ (n : Nat) (x0 : Nat) (x1 : Nat) (x2 : Int32) (h : hp) (hq : hp), fX9_copy_l2 n x0 x1 x2 h = some hq → (AW E yX9_copy cX9_copy (Option.none : Option Jvm.ClassFile.FieldType) 3 D rz h0 hz 29 [(0, .ref x0), (1, .ref x1)] [] hq) → AW E yX9_copy cX9_copy (Option.none : Option Jvm.ClassFile.FieldType) 3 D rz h0 hz 2 [(0, .ref x0), (1, .ref x1), (2, .int x2)] [] h := by
  intro n
  induction n with
  | zero =>
    intro x0 x1 x2 h hq hf _
    rw [fX9_copy_l2] at hf
    cases hf
  | succ n ih =>
    intro x0 x1 x2 h hq hf hk0
    rw [fX9_copy_l2] at hf
    refine a_iload_n (q := 2) dX9_copy_2 rfl rfl ?_
    refine a_bipush (v := 8) dX9_copy_3 (by decide) ?_
    refine a_icmp_ge (tgt := 29) dX9_copy_5 (by decide) (fun c => ?_) (fun c => ?_)
    · have hf := ifp c hf
      obtain rfl := Option.some.inj hf
      exact AW.sub [0, 1] rfl (hk0)
    · have hf := ifn c hf
      refine a_aload_n (q := 0) dX9_copy_8 rfl rfl ?_
      obtain ⟨v1, e2, hf⟩ := obd hf
      refine o_gfR dX9_copy_9 lk_X9_11 rfl e2 ?_
      refine a_iload_n (q := 2) dX9_copy_12 rfl rfl ?_
      obtain ⟨v3, e4, hf⟩ := obd hf
      refine o_alR dX9_copy_13 (by decide) e4 ?_
      refine a_aload_n (q := 1) dX9_copy_14 rfl rfl ?_
      obtain ⟨v5, e6, hf⟩ := obd hf
      refine o_gfR dX9_copy_15 lk_X9_11 rfl e6 ?_
      refine a_iload_n (q := 2) dX9_copy_18 rfl rfl ?_
      obtain ⟨v7, e8, hf⟩ := obd hf
      refine o_alR dX9_copy_19 (by decide) e8 ?_
      obtain ⟨_, e11, hf⟩ := obd hf
      obtain ⟨h10, e9, hf⟩ := obd hf
      refine a_callV (as := [.ref v7]) (np := 1) (ci := 10) (st := []) (sX11_copy E (D - 1) (by omega) e9) dX9_copy_20 rfl (by omega) (by decide) cw_X9_41 ⟨wd_825, wd_826⟩ rfl (ckT_s e11) rfl (Nat.le_of_ble_eq_true rfl) ?_
      refine a_iinc (q := 2) (v := (x2 + 1)) (lv1 := [(2, .int (x2 + 1)), (0, .ref x0), (1, .ref x1)]) dX9_copy_23 rfl (by rfl) (by decide) rfl ?_
      refine a_goto (tgt := 2) dX9_copy_26 (by decide) ?_
      exact AW.sub [1, 2, 0] rfl (ih _ _ _ _ _ hf hk0)
set_option maxHeartbeats 4000000 in
set_option maxRecDepth 100000 in
theorem sX9_copy_l31 (E : gE) (D : Nat) (hD : 2 ≤ D) {rz : Option Value} {h0 hz : hp} : ∀ (n : Nat) (x0 : Nat) (x1 : Nat) (x2 : Int32) (h : hp) (hq : hp), fX9_copy_l31 n x0 x1 x2 h = some hq → (AW E yX9_copy cX9_copy (Option.none : Option Jvm.ClassFile.FieldType) 3 D rz h0 hz 55 [(0, .ref x0), (1, .ref x1)] [] hq) → AW E yX9_copy cX9_copy (Option.none : Option Jvm.ClassFile.FieldType) 3 D rz h0 hz 31 [(0, .ref x0), (1, .ref x1), (2, .int x2)] [] h := by
  intro n
  induction n with
  | zero =>
    intro x0 x1 x2 h hq hf _
    rw [fX9_copy_l31] at hf
    cases hf
  | succ n ih =>
    intro x0 x1 x2 h hq hf hk0
    rw [fX9_copy_l31] at hf
    refine a_iload_n (q := 2) dX9_copy_31 rfl rfl ?_
    refine a_bipush (v := 6) dX9_copy_32 (by decide) ?_
    refine a_icmp_ge (tgt := 55) dX9_copy_34 (by decide) (fun c => ?_) (fun c => ?_)
    · have hf := ifp c hf
      obtain rfl := Option.some.inj hf
      exact AW.sub [0, 1] rfl (hk0)
    · have hf := ifn c hf
      refine a_aload_n (q := 0) dX9_copy_37 rfl rfl ?_
      obtain ⟨v1, e2, hf⟩ := obd hf
      refine o_gfR dX9_copy_38 lk_X9_19 rfl e2 ?_
      refine a_iload_n (q := 2) dX9_copy_41 rfl rfl ?_
      refine a_aload_n (q := 1) dX9_copy_42 rfl rfl ?_
      obtain ⟨v3, e4, hf⟩ := obd hf
      refine o_gfR dX9_copy_43 lk_X9_19 rfl e4 ?_
      refine a_iload_n (q := 2) dX9_copy_46 rfl rfl ?_
      obtain ⟨v5, e6, hf⟩ := obd hf
      refine o_alR dX9_copy_47 (by decide) e6 ?_
      obtain ⟨h7, e8, hf⟩ := obd hf
      refine o_asR dX9_copy_48 (by decide) e8 ?_
      refine a_iinc (q := 2) (v := (x2 + 1)) (lv1 := [(2, .int (x2 + 1)), (0, .ref x0), (1, .ref x1)]) dX9_copy_49 rfl (by rfl) (by decide) rfl ?_
      refine a_goto (tgt := 31) dX9_copy_52 (by decide) ?_
      exact AW.sub [1, 2, 0] rfl (ih _ _ _ _ _ hf hk0)
set_option maxHeartbeats 4000000 in
set_option maxRecDepth 100000 in
theorem sX9_copy (E : gE) (D : Nat) (hD : 2 ≤ D) {a0 : Nat} {a1 : Nat} {h hz : hp} (hf : fX9_copy a0 a1 h = some hz) : MC E yX9_copy cX9_copy (Option.none : Option Jvm.ClassFile.FieldType) 3 D [.ref a0, .ref a1] h none hz := by
  refine MC.of (by decide +kernel) (Nat.le_of_ble_eq_true rfl) rfl ?_
  unfold fX9_copy at hf
  show AW E yX9_copy cX9_copy (Option.none : Option Jvm.ClassFile.FieldType) 3 D none h hz 0 [(0, .ref a0), (1, .ref a1)] [] h
  refine a_iconst (v := 0) dX9_copy_0 (by decide) ?_
  refine a_istore_n (lv1 := [(2, .int 0), (0, .ref a0), (1, .ref a1)]) dX9_copy_1 rfl (by decide) rfl ?_
  obtain ⟨h2, e1, hf⟩ := obd hf
  refine AW.sub [1, 2, 0] rfl (sX9_copy_l2 E D hD _ _ _ _ _ _ e1 ?_)
  refine a_iconst (v := 0) dX9_copy_29 (by decide) ?_
  refine a_istore_n (lv1 := [(2, .int 0), (0, .ref a0), (1, .ref a1)]) dX9_copy_30 rfl (by decide) rfl ?_
  obtain ⟨h4, e3, hf⟩ := obd hf
  refine AW.sub [1, 2, 0] rfl (sX9_copy_l31 E D hD _ _ _ _ _ _ e3 ?_)
  refine a_aload_n (q := 0) dX9_copy_55 rfl rfl ?_
  obtain ⟨v5, e6, hf⟩ := obd hf
  refine o_gfR dX9_copy_56 lk_X9_28 rfl e6 ?_
  refine a_aload_n (q := 1) dX9_copy_59 rfl rfl ?_
  obtain ⟨v7, e8, hf⟩ := obd hf
  refine o_gfR dX9_copy_60 lk_X9_28 rfl e8 ?_
  obtain ⟨_, e11, hf⟩ := obd hf
  obtain ⟨h10, e9, hf⟩ := obd hf
  refine a_callV (as := [.ref v7]) (np := 1) (ci := 4) (st := []) (sX5_copy E (D - 1) (by omega) e9) dX9_copy_63 rfl (by omega) (by decide) cw_X9_45 ⟨wd_1000, wd_1001⟩ rfl (ckT_s e11) rfl (Nat.le_of_ble_eq_true rfl) ?_
  refine a_aload_n (q := 0) dX9_copy_66 rfl rfl ?_
  refine a_aload_n (q := 1) dX9_copy_67 rfl rfl ?_
  obtain ⟨v12, e13, hf⟩ := obd hf
  refine o_gfI dX9_copy_68 lk_X9_32 rfl e13 ?_
  obtain ⟨h14, e15, hf⟩ := obd hf
  refine o_pfI dX9_copy_71 lk_X9_32 (⟨_, rfl, Or.inl rfl⟩) rfl e15 ?_
  obtain rfl := Option.some.inj hf
  exact a_return dX9_copy_74 rfl
def fX10_block (a0 : Nat) (a1 : Int32) (h : hp) : Option (Nat × hp) :=
  bd2 (fX13_among a1 4 h) fun v2 h3 =>
  if v2 = 0 then (
    some (0, h3)
  ) else (
    (gfR h3 a0 9 1).bind fun v4 =>
    (alR 3 h3 v4 a1).bind fun v6 =>
    some (v6, h3)
  )
set_option maxHeartbeats 4000000 in
set_option maxRecDepth 100000 in
theorem sX10_block (E : gE) (D : Nat) (hD : 1 ≤ D) {a0 : Nat} {a1 : Int32} {h hz : hp} {v0 : Nat} (hf : fX10_block a0 a1 h = some (v0, hz)) : MC E yX10_block cX10_block (Option.some (Jvm.ClassFile.FieldType.object "TemplatePress$Piece")) 2 D [.ref a0, .int a1] h (some (.ref v0)) hz := by
  refine MC.of (by decide +kernel) (Nat.le_of_ble_eq_true rfl) rfl ?_
  unfold fX10_block at hf
  show AW E yX10_block cX10_block (Option.some (Jvm.ClassFile.FieldType.object "TemplatePress$Piece")) 2 D (some (.ref v0)) h hz 0 [(0, .ref a0), (1, .int a1)] [] h
  refine a_iload_n (q := 1) dX10_block_0 rfl rfl ?_
  refine a_iconst (v := 4) dX10_block_1 (by decide) ?_
  obtain ⟨v2, h3, e1, hf⟩ := ob2 hf
  refine a_callS (as := [.int a1, .int 4]) (np := 2) (st := []) (sX13_among E (D - 1) (by omega) e1) dX10_block_2 rfl (by omega) (by decide) cw_X10_24 wd_268 rfl (Nat.le_of_ble_eq_true rfl) ?_
  refine a_if_eq (tgt := 17) dX10_block_5 (by decide) (fun c => ?_) (fun c => ?_)
  · have hf := ifp c hf
    refine a_null dX10_block_17 ?_
    obtain ⟨rfl, rfl⟩ := oc2 hf
    exact a_areturn dX10_block_18 rfl (Or.inl ⟨_, rfl⟩)
  · have hf := ifn c hf
    refine a_aload_n (q := 0) dX10_block_8 rfl rfl ?_
    obtain ⟨v4, e5, hf⟩ := obd hf
    refine o_gfR dX10_block_9 lk_X10_11 rfl e5 ?_
    refine a_iload_n (q := 1) dX10_block_12 rfl rfl ?_
    obtain ⟨v6, e7, hf⟩ := obd hf
    refine o_alR dX10_block_13 (by decide) e7 ?_
    refine a_goto (tgt := 18) dX10_block_14 (by decide) ?_
    obtain ⟨rfl, rfl⟩ := oc2 hf
    exact a_areturn dX10_block_18 rfl (Or.inl ⟨_, rfl⟩)
def fX10_letters_l4 : Nat → Nat → Int32 → Int32 → hp → Option (Int32 × hp)
  | 0, _, _, _, _ => none
  | n + 1, x0, x1, x2, h =>
    if 4 ≤ x2 then (
      some (x1, h)
    ) else (
      (gfR h x0 9 1).bind fun v1 =>
      (alR 3 h v1 x2).bind fun v3 =>
      if v3 = 0 then (
        fX10_letters_l4 n x0 x1 (x2 + 1) h
      ) else (
        fX10_letters_l4 n x0 (x1 ||| ((1 : Int32) <<< (x2 &&& 31))) (x2 + 1) h
      )
    )
def fX10_letters (a0 : Nat) (h : hp) : Option (Int32 × hp) :=
  bd2 (fX10_letters_l4 FU a0 0 0 h) fun v3 h2 =>
  some (v3, h2)
set_option maxHeartbeats 4000000 in
set_option maxRecDepth 100000 in
theorem sX10_letters_l4 (E : gE) (D : Nat) (hD : 0 ≤ D) {rz : Option Value} {h0 hz : hp} : ∀ (n : Nat) (x0 : Nat) (x1 : Int32) (x2 : Int32) (h : hp) (m1 : Int32) (hq : hp), fX10_letters_l4 n x0 x1 x2 h = some (m1, hq) → (AW E yX10_letters cX10_letters (Option.some Jvm.ClassFile.FieldType.int) 3 D rz h0 hz 30 [(1, .int m1)] [] hq) → AW E yX10_letters cX10_letters (Option.some Jvm.ClassFile.FieldType.int) 3 D rz h0 hz 4 [(0, .ref x0), (1, .int x1), (2, .int x2)] [] h := by
  intro n
  induction n with
  | zero =>
    intro x0 x1 x2 h m1 hq hf _
    rw [fX10_letters_l4] at hf
    cases hf
  | succ n ih =>
    intro x0 x1 x2 h m1 hq hf hk0
    rw [fX10_letters_l4] at hf
    refine a_iload_n (q := 2) dX10_letters_4 rfl rfl ?_
    refine a_iconst (v := 4) dX10_letters_5 (by decide) ?_
    refine a_icmp_ge (tgt := 30) dX10_letters_6 (by decide) (fun c => ?_) (fun c => ?_)
    · have hf := ifp c hf
      obtain ⟨rfl, rfl⟩ := oc2 hf
      exact AW.sub [1] rfl (hk0)
    · have hf := ifn c hf
      refine a_aload_n (q := 0) dX10_letters_9 rfl rfl ?_
      obtain ⟨v1, e2, hf⟩ := obd hf
      refine o_gfR dX10_letters_10 lk_X10_11 rfl e2 ?_
      refine a_iload_n (q := 2) dX10_letters_13 rfl rfl ?_
      obtain ⟨v3, e4, hf⟩ := obd hf
      refine o_alR dX10_letters_14 (by decide) e4 ?_
      refine a_ifnull (tgt := 24) dX10_letters_15 (by decide) (fun c => ?_) (fun c => ?_)
      · have hf := ifp c hf
        refine a_iinc (q := 2) (v := (x2 + 1)) (lv1 := [(2, .int (x2 + 1)), (0, .ref x0), (1, .int x1)]) dX10_letters_24 rfl (by rfl) (by decide) rfl ?_
        refine a_goto (tgt := 4) dX10_letters_27 (by decide) ?_
        exact AW.sub [1, 2, 0] rfl (ih _ _ _ _ _ _ hf hk0)
      · have hf := ifn c hf
        refine a_iload_n (q := 1) dX10_letters_18 rfl rfl ?_
        refine a_iconst (v := 1) dX10_letters_19 (by decide) ?_
        refine a_iload_n (q := 2) dX10_letters_20 rfl rfl ?_
        refine a_ishl dX10_letters_21 ?_
        refine a_ior dX10_letters_22 ?_
        refine a_istore_n (lv1 := [(1, .int (x1 ||| ((1 : Int32) <<< (x2 &&& 31)))), (0, .ref x0), (2, .int x2)]) dX10_letters_23 rfl (by decide) rfl ?_
        refine a_iinc (q := 2) (v := (x2 + 1)) (lv1 := [(2, .int (x2 + 1)), (1, .int (x1 ||| ((1 : Int32) <<< (x2 &&& 31)))), (0, .ref x0)]) dX10_letters_24 rfl (by rfl) (by decide) rfl ?_
        refine a_goto (tgt := 4) dX10_letters_27 (by decide) ?_
        exact AW.sub [2, 1, 0] rfl (ih _ _ _ _ _ _ hf hk0)
set_option maxHeartbeats 4000000 in
set_option maxRecDepth 100000 in
theorem sX10_letters (E : gE) (D : Nat) (hD : 0 ≤ D) {a0 : Nat} {h hz : hp} {v0 : Int32} (hf : fX10_letters a0 h = some (v0, hz)) : MC E yX10_letters cX10_letters (Option.some Jvm.ClassFile.FieldType.int) 3 D [.ref a0] h (some (.int v0)) hz := by
  refine MC.of (by decide +kernel) (Nat.le_of_ble_eq_true rfl) rfl ?_
  unfold fX10_letters at hf
  show AW E yX10_letters cX10_letters (Option.some Jvm.ClassFile.FieldType.int) 3 D (some (.int v0)) h hz 0 [(0, .ref a0)] [] h
  refine a_iconst (v := 0) dX10_letters_0 (by decide) ?_
  refine a_istore_n (lv1 := [(1, .int 0), (0, .ref a0)]) dX10_letters_1 rfl (by decide) rfl ?_
  refine a_iconst (v := 0) dX10_letters_2 (by decide) ?_
  refine a_istore_n (lv1 := [(2, .int 0), (1, .int 0), (0, .ref a0)]) dX10_letters_3 rfl (by decide) rfl ?_
  obtain ⟨v3, h2, e1, hf⟩ := ob2 hf
  refine AW.sub [2, 1, 0] rfl (sX10_letters_l4 E D hD _ _ _ _ _ _ _ e1 ?_)
  refine a_iload_n (q := 0) dX10_letters_30 rfl rfl ?_
  obtain ⟨rfl, rfl⟩ := oc2 hf
  exact a_ireturn dX10_letters_31 rfl
def fX11_isInt (a0 : Int64) (h : hp) : Option (Int32 × hp) :=
  if (lg_cmp a0 (-1000000)) < 0 then (
    some (0, h)
  ) else (
    if 0 < (lg_cmp a0 1000000) then (
      some (0, h)
    ) else (
      some (1, h)
    )
  )
set_option maxHeartbeats 4000000 in
set_option maxRecDepth 100000 in
theorem sX11_isInt (E : gE) (D : Nat) (hD : 0 ≤ D) {a0 : Int64} {h hz : hp} {v0 : Int32} (hf : fX11_isInt a0 h = some (v0, hz)) : MC E yX11_isInt cX11_isInt (Option.some Jvm.ClassFile.FieldType.boolean) 2 D [.long a0] h (some (.int v0)) hz := by
  refine MC.of (by decide +kernel) (Nat.le_of_ble_eq_true rfl) rfl ?_
  unfold fX11_isInt at hf
  show AW E yX11_isInt cX11_isInt (Option.some Jvm.ClassFile.FieldType.boolean) 2 D (some (.int v0)) h hz 0 [(0, .long a0)] [] h
  refine a_lload_n (q := 0) dX11_isInt_0 rfl rfl ?_
  refine a_ldc2 (v := (-1000000)) dX11_isInt_1 wd_281 ?_
  refine a_lcmp dX11_isInt_4 ?_
  refine a_if_lt (tgt := 20) dX11_isInt_5 (by decide) (fun c => ?_) (fun c => ?_)
  · have hf := ifp c hf
    refine a_iconst (v := 0) dX11_isInt_20 (by decide) ?_
    obtain ⟨rfl, rfl⟩ := oc2 hf
    exact a_zreturn dX11_isInt_21 rfl (by decide)
  · have hf := ifn c hf
    refine a_lload_n (q := 0) dX11_isInt_8 rfl rfl ?_
    refine a_ldc2 (v := 1000000) dX11_isInt_9 wd_282 ?_
    refine a_lcmp dX11_isInt_12 ?_
    refine a_if_gt (tgt := 20) dX11_isInt_13 (by decide) (fun c => ?_) (fun c => ?_)
    · have hf := ifp c hf
      refine a_iconst (v := 0) dX11_isInt_20 (by decide) ?_
      obtain ⟨rfl, rfl⟩ := oc2 hf
      exact a_zreturn dX11_isInt_21 rfl (by decide)
    · have hf := ifn c hf
      refine a_iconst (v := 1) dX11_isInt_16 (by decide) ?_
      refine a_goto (tgt := 21) dX11_isInt_17 (by decide) ?_
      obtain ⟨rfl, rfl⟩ := oc2 hf
      exact a_zreturn dX11_isInt_21 rfl (by decide)
def fX11_at (a0 : Nat) (a1 : Int32) (h : hp) : Option (Int32 × hp) :=
  if a1 < 0 then (
    some (0, h)
  ) else (
    (gfI h a0 10 3).bind fun v1 =>
    if v1 ≤ a1 then (
      some (0, h)
    ) else (
      (gfR h a0 10 4).bind fun v3 =>
      (aln 0 h v3).bind fun v5 =>
      if v5 ≤ a1 then (
        some (0, h)
      ) else (
        (gfR h a0 10 4).bind fun v7 =>
        (alI h v7 a1).bind fun v9 =>
        some (v9, h)
      )
    )
  )
set_option maxHeartbeats 4000000 in
set_option maxRecDepth 100000 in
theorem sX11_at (E : gE) (D : Nat) (hD : 0 ≤ D) {a0 : Nat} {a1 : Int32} {h hz : hp} {v0 : Int32} (hf : fX11_at a0 a1 h = some (v0, hz)) : MC E yX11_at cX11_at (Option.some Jvm.ClassFile.FieldType.int) 2 D [.ref a0, .int a1] h (some (.int v0)) hz := by
  refine MC.of (by decide +kernel) (Nat.le_of_ble_eq_true rfl) rfl ?_
  unfold fX11_at at hf
  show AW E yX11_at cX11_at (Option.some Jvm.ClassFile.FieldType.int) 2 D (some (.int v0)) h hz 0 [(0, .ref a0), (1, .int a1)] [] h
  refine a_iload_n (q := 1) dX11_at_0 rfl rfl ?_
  refine a_if_lt (tgt := 30) dX11_at_1 (by decide) (fun c => ?_) (fun c => ?_)
  · have hf := ifp c hf
    refine a_iconst (v := 0) dX11_at_30 (by decide) ?_
    obtain ⟨rfl, rfl⟩ := oc2 hf
    exact a_ireturn dX11_at_31 rfl
  · have hf := ifn c hf
    refine a_iload_n (q := 1) dX11_at_4 rfl rfl ?_
    refine a_aload_n (q := 0) dX11_at_5 rfl rfl ?_
    obtain ⟨v1, e2, hf⟩ := obd hf
    refine o_gfI dX11_at_6 lk_X11_19 rfl e2 ?_
    refine a_icmp_ge (tgt := 30) dX11_at_9 (by decide) (fun c => ?_) (fun c => ?_)
    · have hf := ifp c hf
      refine a_iconst (v := 0) dX11_at_30 (by decide) ?_
      obtain ⟨rfl, rfl⟩ := oc2 hf
      exact a_ireturn dX11_at_31 rfl
    · have hf := ifn c hf
      refine a_iload_n (q := 1) dX11_at_12 rfl rfl ?_
      refine a_aload_n (q := 0) dX11_at_13 rfl rfl ?_
      obtain ⟨v3, e4, hf⟩ := obd hf
      refine o_gfR dX11_at_14 lk_X11_9 rfl e4 ?_
      obtain ⟨v5, e6, hf⟩ := obd hf
      refine o_aln dX11_at_17 (by decide) e6 ?_
      refine a_icmp_ge (tgt := 30) dX11_at_18 (by decide) (fun c => ?_) (fun c => ?_)
      · have hf := ifp c hf
        refine a_iconst (v := 0) dX11_at_30 (by decide) ?_
        obtain ⟨rfl, rfl⟩ := oc2 hf
        exact a_ireturn dX11_at_31 rfl
      · have hf := ifn c hf
        refine a_aload_n (q := 0) dX11_at_21 rfl rfl ?_
        obtain ⟨v7, e8, hf⟩ := obd hf
        refine o_gfR dX11_at_22 lk_X11_9 rfl e8 ?_
        refine a_iload_n (q := 1) dX11_at_25 rfl rfl ?_
        obtain ⟨v9, e10, hf⟩ := obd hf
        refine o_alI dX11_at_26 e10 ?_
        refine a_goto (tgt := 31) dX11_at_27 (by decide) ?_
        obtain ⟨rfl, rfl⟩ := oc2 hf
        exact a_ireturn dX11_at_31 rfl
def fX11_becomeNothing (a0 : Nat) (h : hp) : Option hp :=
  (pfI h a0 10 0 0).bind fun h1 =>
  (pfI h1 a0 10 3 0).bind fun h3 =>
  some h3
set_option maxHeartbeats 4000000 in
set_option maxRecDepth 100000 in
theorem sX11_becomeNothing (E : gE) (D : Nat) (hD : 0 ≤ D) {a0 : Nat} {h hz : hp} (hf : fX11_becomeNothing a0 h = some hz) : MC E yX11_becomeNothing cX11_becomeNothing (Option.none : Option Jvm.ClassFile.FieldType) 1 D [.ref a0] h none hz := by
  refine MC.of (by decide +kernel) (Nat.le_of_ble_eq_true rfl) rfl ?_
  unfold fX11_becomeNothing at hf
  show AW E yX11_becomeNothing cX11_becomeNothing (Option.none : Option Jvm.ClassFile.FieldType) 1 D none h hz 0 [(0, .ref a0)] [] h
  refine a_aload_n (q := 0) dX11_becomeNothing_0 rfl rfl ?_
  refine a_iconst (v := 0) dX11_becomeNothing_1 (by decide) ?_
  obtain ⟨h1, e2, hf⟩ := obd hf
  refine o_pfI dX11_becomeNothing_2 lk_X11_23 (⟨_, rfl, Or.inl rfl⟩) rfl e2 ?_
  refine a_aload_n (q := 0) dX11_becomeNothing_5 rfl rfl ?_
  refine a_iconst (v := 0) dX11_becomeNothing_6 (by decide) ?_
  obtain ⟨h3, e4, hf⟩ := obd hf
  refine o_pfI dX11_becomeNothing_7 lk_X11_19 (⟨_, rfl, Or.inl rfl⟩) rfl e4 ?_
  obtain rfl := Option.some.inj hf
  exact a_return dX11_becomeNothing_10 rfl
def fX11_becomeReal (a0 : Nat) (a1 : UInt32) (h : hp) : Option hp :=
  (pfI h a0 10 0 2).bind fun h1 =>
  jn (fun (s41_0 : UInt32) (h41j : hp) => (
    (pfF h41j a0 10 2 s41_0).bind fun h3 =>
    (pfI h3 a0 10 3 0).bind fun h5 =>
    some h5
    : Option hp)) fun k41 =>
  if (Op.cmpValue (FP.fcmp a1 1232348160) .l) ≤ 0 then (
    if 0 ≤ (Op.cmpValue (FP.fcmp a1 3379831808) .g) then (
      if (Op.cmpValue (FP.fcmp a1 FP.fconst0) .l) = 0 then (
        k41 FP.fconst0 h1
      ) else (
        k41 a1 h1
      )
    ) else (
      k41 3379831808 h1
    )
  ) else (
    k41 1232348160 h1
  )
set_option maxHeartbeats 4000000 in
set_option maxRecDepth 100000 in
theorem sX11_becomeReal (E : gE) (D : Nat) (hD : 0 ≤ D) {a0 : Nat} {a1 : UInt32} {h hz : hp} (hf : fX11_becomeReal a0 a1 h = some hz) : MC E yX11_becomeReal cX11_becomeReal (Option.none : Option Jvm.ClassFile.FieldType) 2 D [.ref a0, .float a1] h none hz := by
  refine MC.of (by decide +kernel) (Nat.le_of_ble_eq_true rfl) rfl ?_
  unfold fX11_becomeReal at hf
  show AW E yX11_becomeReal cX11_becomeReal (Option.none : Option Jvm.ClassFile.FieldType) 2 D none h hz 0 [(0, .ref a0), (1, .float a1)] [] h
  refine a_aload_n (q := 0) dX11_becomeReal_0 rfl rfl ?_
  refine a_iconst (v := 2) dX11_becomeReal_1 (by decide) ?_
  obtain ⟨h1, e2, hf⟩ := obd hf
  refine o_pfI dX11_becomeReal_2 lk_X11_23 (⟨_, rfl, Or.inl rfl⟩) rfl e2 ?_
  refine a_aload_n (q := 0) dX11_becomeReal_5 rfl rfl ?_
  refine a_fload_n (q := 1) dX11_becomeReal_6 rfl rfl ?_
  refine a_ldcf (v := 1232348160) dX11_becomeReal_7 wd_295 ?_
  refine a_fcmp dX11_becomeReal_9 ?_
  obtain ⟨k41, ek41, hf⟩ := jn_s hf
  have hj41 : ∀ (s41_0 : UInt32) (h41j : hp), k41 s41_0 h41j = some hz → AW E yX11_becomeReal cX11_becomeReal (Option.none : Option Jvm.ClassFile.FieldType) 2 D none h hz 41 [(0, .ref a0)] [.float s41_0, .ref a0] h41j := by
    intro s41_0 h41j hf
    rw [ek41] at hf
    clear ek41
    obtain ⟨h3, e4, hf⟩ := obd hf
    refine o_pfF dX11_becomeReal_41 lk_X11_29 (⟨_, rfl, Or.inl rfl⟩) rfl e4 ?_
    refine a_aload_n (q := 0) dX11_becomeReal_44 rfl rfl ?_
    refine a_iconst (v := 0) dX11_becomeReal_45 (by decide) ?_
    obtain ⟨h5, e6, hf⟩ := obd hf
    refine o_pfI dX11_becomeReal_46 lk_X11_19 (⟨_, rfl, Or.inl rfl⟩) rfl e6 ?_
    obtain rfl := Option.some.inj hf
    exact a_return dX11_becomeReal_49 rfl
  clear ek41
  refine a_if_le (tgt := 18) dX11_becomeReal_10 (by decide) (fun c => ?_) (fun c => ?_)
  · have hf := ifp c hf
    refine a_fload_n (q := 1) dX11_becomeReal_18 rfl rfl ?_
    refine a_ldcf (v := 3379831808) dX11_becomeReal_19 wd_296 ?_
    refine a_fcmp dX11_becomeReal_21 ?_
    refine a_if_ge (tgt := 30) dX11_becomeReal_22 (by decide) (fun c => ?_) (fun c => ?_)
    · have hf := ifp c hf
      refine a_fload_n (q := 1) dX11_becomeReal_30 rfl rfl ?_
      refine a_fconst0 dX11_becomeReal_31 ?_
      refine a_fcmp dX11_becomeReal_32 ?_
      refine a_if_ne (tgt := 40) dX11_becomeReal_33 (by decide) (fun c => ?_) (fun c => ?_)
      · have hf := ifn c hf
        refine a_fload_n (q := 1) dX11_becomeReal_40 rfl rfl ?_
        exact AW.sub [0] rfl (hj41 _ _ hf)
      · have hf := ifp c hf
        refine a_fconst0 dX11_becomeReal_36 ?_
        refine a_goto (tgt := 41) dX11_becomeReal_37 (by decide) ?_
        exact AW.sub [0] rfl (hj41 _ _ hf)
    · have hf := ifn c hf
      refine a_ldcf (v := 3379831808) dX11_becomeReal_25 wd_296 ?_
      refine a_goto (tgt := 41) dX11_becomeReal_27 (by decide) ?_
      exact AW.sub [0] rfl (hj41 _ _ hf)
  · have hf := ifn c hf
    refine a_ldcf (v := 1232348160) dX11_becomeReal_13 wd_295 ?_
    refine a_goto (tgt := 41) dX11_becomeReal_15 (by decide) ?_
    exact AW.sub [0] rfl (hj41 _ _ hf)
def fX11_becomeList_l12 : Nat → Nat → Int32 → hp → Option hp
  | 0, _, _, _ => none
  | n + 1, x0, x2, h =>
    (gfI h x0 10 3).bind fun v1 =>
    if v1 ≤ x2 then (
      some (h)
    ) else (
      (ckT h x0 10).bind fun _ =>
      (fX11_put x0 x2 0 h).bind fun h4 =>
      fX11_becomeList_l12 n x0 (x2 + 1) h4
    )
def fX11_becomeList (a0 : Nat) (a1 : Int32) (h : hp) : Option hp :=
  (pfI h a0 10 0 4).bind fun h1 =>
  (ckT h1 a0 10).bind fun _ =>
  (fX11_resize a0 a1 h1).bind fun h4 =>
  (fX11_becomeList_l12 FU a0 0 h4).bind fun h7 =>
  some h7
set_option maxHeartbeats 4000000 in
set_option maxRecDepth 100000 in
theorem sX11_becomeList_l12 (E : gE) (D : Nat) (hD : 2 ≤ D) {rz : Option Value} {h0 hz : hp} : ∀ (n : Nat) (x0 : Nat) (x2 : Int32) (h : hp) (hq : hp), fX11_becomeList_l12 n x0 x2 h = some hq → (AW E yX11_becomeList cX11_becomeList (Option.none : Option Jvm.ClassFile.FieldType) 3 D rz h0 hz 32 [] [] hq) → AW E yX11_becomeList cX11_becomeList (Option.none : Option Jvm.ClassFile.FieldType) 3 D rz h0 hz 12 [(0, .ref x0), (2, .int x2)] [] h := by
  intro n
  induction n with
  | zero =>
    intro x0 x2 h hq hf _
    rw [fX11_becomeList_l12] at hf
    cases hf
  | succ n ih =>
    intro x0 x2 h hq hf hk0
    rw [fX11_becomeList_l12] at hf
    refine a_iload_n (q := 1) dX11_becomeList_12 rfl rfl ?_
    refine a_aload_n (q := 0) dX11_becomeList_13 rfl rfl ?_
    obtain ⟨v1, e2, hf⟩ := obd hf
    refine o_gfI dX11_becomeList_14 lk_X11_19 rfl e2 ?_
    refine a_icmp_ge (tgt := 32) dX11_becomeList_17 (by decide) (fun c => ?_) (fun c => ?_)
    · have hf := ifp c hf
      obtain rfl := Option.some.inj hf
      exact AW.sub [] rfl (hk0)
    · have hf := ifn c hf
      refine a_aload_n (q := 0) dX11_becomeList_20 rfl rfl ?_
      refine a_iload_n (q := 1) dX11_becomeList_21 rfl rfl ?_
      refine a_iconst (v := 0) dX11_becomeList_22 (by decide) ?_
      obtain ⟨_, e5, hf⟩ := obd hf
      obtain ⟨h4, e3, hf⟩ := obd hf
      refine a_callV (as := [.int x2, .int 0]) (np := 2) (ci := 10) (st := []) (sX11_put E (D - 1) (by omega) e3) dX11_becomeList_23 rfl (by omega) (by decide) cw_X11_45 ⟨wd_317, wd_318⟩ rfl (ckT_s e5) rfl (Nat.le_of_ble_eq_true rfl) ?_
      refine a_iinc (q := 1) (v := (x2 + 1)) (lv1 := [(2, .int (x2 + 1)), (0, .ref x0)]) dX11_becomeList_26 rfl (by rfl) (by decide) rfl ?_
      refine a_goto (tgt := 12) dX11_becomeList_29 (by decide) ?_
      exact AW.sub [1, 0] rfl (ih _ _ _ _ hf hk0)
set_option maxHeartbeats 4000000 in
set_option maxRecDepth 100000 in
theorem sX11_becomeList (E : gE) (D : Nat) (hD : 2 ≤ D) {a0 : Nat} {a1 : Int32} {h hz : hp} (hf : fX11_becomeList a0 a1 h = some hz) : MC E yX11_becomeList cX11_becomeList (Option.none : Option Jvm.ClassFile.FieldType) 3 D [.ref a0, .int a1] h none hz := by
  refine MC.of (by decide +kernel) (Nat.le_of_ble_eq_true rfl) rfl ?_
  unfold fX11_becomeList at hf
  show AW E yX11_becomeList cX11_becomeList (Option.none : Option Jvm.ClassFile.FieldType) 3 D none h hz 0 [(0, .ref a0), (1, .int a1)] [] h
  refine a_aload_n (q := 0) dX11_becomeList_0 rfl rfl ?_
  refine a_iconst (v := 4) dX11_becomeList_1 (by decide) ?_
  obtain ⟨h1, e2, hf⟩ := obd hf
  refine o_pfI dX11_becomeList_2 lk_X11_23 (⟨_, rfl, Or.inl rfl⟩) rfl e2 ?_
  refine a_aload_n (q := 0) dX11_becomeList_5 rfl rfl ?_
  refine a_iload_n (q := 1) dX11_becomeList_6 rfl rfl ?_
  obtain ⟨_, e5, hf⟩ := obd hf
  obtain ⟨h4, e3, hf⟩ := obd hf
  refine a_callV (as := [.int a1]) (np := 1) (ci := 10) (st := []) (sX11_resize E (D - 1) (by omega) e3) dX11_becomeList_7 rfl (by omega) (by decide) cw_X11_41 ⟨wd_307, ws_0⟩ rfl (ckT_s e5) rfl (Nat.le_of_ble_eq_true rfl) ?_
  refine a_iconst (v := 0) dX11_becomeList_10 (by decide) ?_
  refine a_istore_n (lv1 := [(2, .int 0), (0, .ref a0), (1, .int a1)]) dX11_becomeList_11 rfl (by decide) rfl ?_
  obtain ⟨h7, e6, hf⟩ := obd hf
  refine AW.sub [1, 0] rfl (sX11_becomeList_l12 E D hD _ _ _ _ _ e6 ?_)
  obtain rfl := Option.some.inj hf
  exact a_return dX11_becomeList_32 rfl
def fX11_becomeCounted (a0 : Nat) (a1 : Int64) (h : hp) : Option (Int32 × hp) :=
  bd2 (fX11_isInt a1 h) fun v2 h3 =>
  if v2 = 0 then (
    some (4, h3)
  ) else (
    (pfI h3 a0 10 0 1).bind fun h4 =>
    (pfI h4 a0 10 1 (a1.toInt32)).bind fun h6 =>
    (pfI h6 a0 10 3 0).bind fun h8 =>
    some (0, h8)
  )
set_option maxHeartbeats 4000000 in
set_option maxRecDepth 100000 in
theorem sX11_becomeCounted (E : gE) (D : Nat) (hD : 1 ≤ D) {a0 : Nat} {a1 : Int64} {h hz : hp} {v0 : Int32} (hf : fX11_becomeCounted a0 a1 h = some (v0, hz)) : MC E yX11_becomeCounted cX11_becomeCounted (Option.some Jvm.ClassFile.FieldType.int) 3 D [.ref a0, .long a1] h (some (.int v0)) hz := by
  refine MC.of (by decide +kernel) (Nat.le_of_ble_eq_true rfl) rfl ?_
  unfold fX11_becomeCounted at hf
  show AW E yX11_becomeCounted cX11_becomeCounted (Option.some Jvm.ClassFile.FieldType.int) 3 D (some (.int v0)) h hz 0 [(0, .ref a0), (1, .long a1)] [] h
  refine a_lload_n (q := 1) dX11_becomeCounted_0 rfl rfl ?_
  obtain ⟨v2, h3, e1, hf⟩ := ob2 hf
  refine a_callS (as := [.long a1]) (np := 1) (st := []) (sX11_isInt E (D - 1) (by omega) e1) dX11_becomeCounted_1 rfl (by omega) (by decide) cw_X11_62 wd_279 rfl (Nat.le_of_ble_eq_true rfl) ?_
  refine a_if_ne (tgt := 9) dX11_becomeCounted_4 (by decide) (fun c => ?_) (fun c => ?_)
  · have hf := ifn c hf
    refine a_aload_n (q := 0) dX11_becomeCounted_9 rfl rfl ?_
    refine a_iconst (v := 1) dX11_becomeCounted_10 (by decide) ?_
    obtain ⟨h4, e5, hf⟩ := obd hf
    refine o_pfI dX11_becomeCounted_11 lk_X11_23 (⟨_, rfl, Or.inl rfl⟩) rfl e5 ?_
    refine a_aload_n (q := 0) dX11_becomeCounted_14 rfl rfl ?_
    refine a_lload_n (q := 1) dX11_becomeCounted_15 rfl rfl ?_
    refine a_l2i dX11_becomeCounted_16 rfl ?_
    obtain ⟨h6, e7, hf⟩ := obd hf
    refine o_pfI dX11_becomeCounted_17 lk_X11_26 (⟨_, rfl, Or.inl rfl⟩) rfl e7 ?_
    refine a_aload_n (q := 0) dX11_becomeCounted_20 rfl rfl ?_
    refine a_iconst (v := 0) dX11_becomeCounted_21 (by decide) ?_
    obtain ⟨h8, e9, hf⟩ := obd hf
    refine o_pfI dX11_becomeCounted_22 lk_X11_19 (⟨_, rfl, Or.inl rfl⟩) rfl e9 ?_
    refine a_iconst (v := 0) dX11_becomeCounted_25 (by decide) ?_
    obtain ⟨rfl, rfl⟩ := oc2 hf
    exact a_ireturn dX11_becomeCounted_26 rfl
  · have hf := ifp c hf
    refine a_iconst (v := 4) dX11_becomeCounted_7 (by decide) ?_
    obtain ⟨rfl, rfl⟩ := oc2 hf
    exact a_ireturn dX11_becomeCounted_8 rfl
def fX11_isTrue (a0 : Nat) (h : hp) : Option (Int32 × hp) :=
  (gfI h a0 10 0).bind fun v1 =>
  if v1 = 1 then (
    (gfI h a0 10 1).bind fun v3 =>
    if v3 = 0 then (
      some (0, h)
    ) else (
      some (1, h)
    )
  ) else (
  if v1 = 2 then (
    (gfF h a0 10 2).bind fun v5 =>
    if (Op.cmpValue (FP.fcmp v5 FP.fconst0) .l) = 0 then (
      some (0, h)
    ) else (
      some (1, h)
    )
  ) else (
  if v1 = 3 then (
    (gfI h a0 10 3).bind fun v7 =>
    if v7 ≤ 0 then (
      some (0, h)
    ) else (
      some (1, h)
    )
  ) else (
  if v1 = 4 then (
    (gfI h a0 10 3).bind fun v9 =>
    if v9 ≤ 0 then (
      some (0, h)
    ) else (
      some (1, h)
    )
  ) else (
    some (0, h)
  ))))
set_option maxHeartbeats 4000000 in
set_option maxRecDepth 100000 in
theorem sX11_isTrue (E : gE) (D : Nat) (hD : 0 ≤ D) {a0 : Nat} {h hz : hp} {v0 : Int32} (hf : fX11_isTrue a0 h = some (v0, hz)) : MC E yX11_isTrue cX11_isTrue (Option.some Jvm.ClassFile.FieldType.boolean) 1 D [.ref a0] h (some (.int v0)) hz := by
  refine MC.of (by decide +kernel) (Nat.le_of_ble_eq_true rfl) rfl ?_
  unfold fX11_isTrue at hf
  show AW E yX11_isTrue cX11_isTrue (Option.some Jvm.ClassFile.FieldType.boolean) 1 D (some (.int v0)) h hz 0 [(0, .ref a0)] [] h
  refine a_aload_n (q := 0) dX11_isTrue_0 rfl rfl ?_
  obtain ⟨v1, e2, hf⟩ := obd hf
  refine o_gfI dX11_isTrue_1 lk_X11_23 rfl e2 ?_
  by_cases c4_0 : v1 = 1
  · have hf := ifp c4_0 hf
    refine a_tblIn (k := 1) (off := 32) (tgt := 36) dX11_isTrue_4 c4_0 (by decide) (by decide) rfl (by decide) ?_
    refine a_aload_n (q := 0) dX11_isTrue_36 rfl rfl ?_
    obtain ⟨v3, e4, hf⟩ := obd hf
    refine o_gfI dX11_isTrue_37 lk_X11_26 rfl e4 ?_
    refine a_if_eq (tgt := 47) dX11_isTrue_40 (by decide) (fun c => ?_) (fun c => ?_)
    · have hf := ifp c hf
      refine a_iconst (v := 0) dX11_isTrue_47 (by decide) ?_
      obtain ⟨rfl, rfl⟩ := oc2 hf
      exact a_zreturn dX11_isTrue_48 rfl (by decide)
    · have hf := ifn c hf
      refine a_iconst (v := 1) dX11_isTrue_43 (by decide) ?_
      refine a_goto (tgt := 48) dX11_isTrue_44 (by decide) ?_
      obtain ⟨rfl, rfl⟩ := oc2 hf
      exact a_zreturn dX11_isTrue_48 rfl (by decide)
  have hf := ifn c4_0 hf
  by_cases c4_1 : v1 = 2
  · have hf := ifp c4_1 hf
    refine a_tblIn (k := 2) (off := 45) (tgt := 49) dX11_isTrue_4 c4_1 (by decide) (by decide) rfl (by decide) ?_
    refine a_aload_n (q := 0) dX11_isTrue_49 rfl rfl ?_
    obtain ⟨v5, e6, hf⟩ := obd hf
    refine o_gfF dX11_isTrue_50 lk_X11_29 rfl e6 ?_
    refine a_fconst0 dX11_isTrue_53 ?_
    refine a_fcmp dX11_isTrue_54 ?_
    refine a_if_eq (tgt := 62) dX11_isTrue_55 (by decide) (fun c => ?_) (fun c => ?_)
    · have hf := ifp c hf
      refine a_iconst (v := 0) dX11_isTrue_62 (by decide) ?_
      obtain ⟨rfl, rfl⟩ := oc2 hf
      exact a_zreturn dX11_isTrue_63 rfl (by decide)
    · have hf := ifn c hf
      refine a_iconst (v := 1) dX11_isTrue_58 (by decide) ?_
      refine a_goto (tgt := 63) dX11_isTrue_59 (by decide) ?_
      obtain ⟨rfl, rfl⟩ := oc2 hf
      exact a_zreturn dX11_isTrue_63 rfl (by decide)
  have hf := ifn c4_1 hf
  by_cases c4_2 : v1 = 3
  · have hf := ifp c4_2 hf
    refine a_tblIn (k := 3) (off := 60) (tgt := 64) dX11_isTrue_4 c4_2 (by decide) (by decide) rfl (by decide) ?_
    refine a_aload_n (q := 0) dX11_isTrue_64 rfl rfl ?_
    obtain ⟨v7, e8, hf⟩ := obd hf
    refine o_gfI dX11_isTrue_65 lk_X11_19 rfl e8 ?_
    refine a_if_le (tgt := 75) dX11_isTrue_68 (by decide) (fun c => ?_) (fun c => ?_)
    · have hf := ifp c hf
      refine a_iconst (v := 0) dX11_isTrue_75 (by decide) ?_
      obtain ⟨rfl, rfl⟩ := oc2 hf
      exact a_zreturn dX11_isTrue_76 rfl (by decide)
    · have hf := ifn c hf
      refine a_iconst (v := 1) dX11_isTrue_71 (by decide) ?_
      refine a_goto (tgt := 76) dX11_isTrue_72 (by decide) ?_
      obtain ⟨rfl, rfl⟩ := oc2 hf
      exact a_zreturn dX11_isTrue_76 rfl (by decide)
  have hf := ifn c4_2 hf
  by_cases c4_3 : v1 = 4
  · have hf := ifp c4_3 hf
    refine a_tblIn (k := 4) (off := 60) (tgt := 64) dX11_isTrue_4 c4_3 (by decide) (by decide) rfl (by decide) ?_
    refine a_aload_n (q := 0) dX11_isTrue_64 rfl rfl ?_
    obtain ⟨v9, e10, hf⟩ := obd hf
    refine o_gfI dX11_isTrue_65 lk_X11_19 rfl e10 ?_
    refine a_if_le (tgt := 75) dX11_isTrue_68 (by decide) (fun c => ?_) (fun c => ?_)
    · have hf := ifp c hf
      refine a_iconst (v := 0) dX11_isTrue_75 (by decide) ?_
      obtain ⟨rfl, rfl⟩ := oc2 hf
      exact a_zreturn dX11_isTrue_76 rfl (by decide)
    · have hf := ifn c hf
      refine a_iconst (v := 1) dX11_isTrue_71 (by decide) ?_
      refine a_goto (tgt := 76) dX11_isTrue_72 (by decide) ?_
      obtain ⟨rfl, rfl⟩ := oc2 hf
      exact a_zreturn dX11_isTrue_76 rfl (by decide)
  have hf := ifn c4_3 hf
  have t4_0 := lv_neT (a := 1) c4_0 rfl
  have t4_1 := lv_neT (a := 2) c4_1 rfl
  have t4_2 := lv_neT (a := 3) c4_2 rfl
  have t4_3 := lv_neT (a := 4) c4_3 rfl
  refine a_tblOut (tgt := 77) dX11_isTrue_4 (by omega) (by decide) ?_
  refine a_iconst (v := 0) dX11_isTrue_77 (by decide) ?_
  obtain ⟨rfl, rfl⟩ := oc2 hf
  exact a_zreturn dX11_isTrue_78 rfl (by decide)
def fX11_measure (a0 : Nat) (h : hp) : Option (Int32 × hp) :=
  (gfI h a0 10 0).bind fun v1 =>
  if v1 = 1 then (
    (gfI h a0 10 1).bind fun v3 =>
    some (v3, h)
  ) else (
  if v1 = 2 then (
    (gfF h a0 10 2).bind fun v5 =>
    bd2 (fX11_bitsOf v5 h) fun v8 h9 =>
    some (v8, h9)
  ) else (
  if v1 = 3 then (
    (gfI h a0 10 3).bind fun v10 =>
    some (v10, h)
  ) else (
  if v1 = 4 then (
    (gfI h a0 10 3).bind fun v12 =>
    some (v12, h)
  ) else (
    some (0, h)
  ))))
set_option maxHeartbeats 4000000 in
set_option maxRecDepth 100000 in
theorem sX11_measure (E : gE) (D : Nat) (hD : 1 ≤ D) {a0 : Nat} {h hz : hp} {v0 : Int32} (hf : fX11_measure a0 h = some (v0, hz)) : MC E yX11_measure cX11_measure (Option.some Jvm.ClassFile.FieldType.int) 1 D [.ref a0] h (some (.int v0)) hz := by
  refine MC.of (by decide +kernel) (Nat.le_of_ble_eq_true rfl) rfl ?_
  unfold fX11_measure at hf
  show AW E yX11_measure cX11_measure (Option.some Jvm.ClassFile.FieldType.int) 1 D (some (.int v0)) h hz 0 [(0, .ref a0)] [] h
  refine a_aload_n (q := 0) dX11_measure_0 rfl rfl ?_
  obtain ⟨v1, e2, hf⟩ := obd hf
  refine o_gfI dX11_measure_1 lk_X11_23 rfl e2 ?_
  by_cases c4_0 : v1 = 1
  · have hf := ifp c4_0 hf
    refine a_tblIn (k := 1) (off := 32) (tgt := 36) dX11_measure_4 c4_0 (by decide) (by decide) rfl (by decide) ?_
    refine a_aload_n (q := 0) dX11_measure_36 rfl rfl ?_
    obtain ⟨v3, e4, hf⟩ := obd hf
    refine o_gfI dX11_measure_37 lk_X11_26 rfl e4 ?_
    obtain ⟨rfl, rfl⟩ := oc2 hf
    exact a_ireturn dX11_measure_40 rfl
  have hf := ifn c4_0 hf
  by_cases c4_1 : v1 = 2
  · have hf := ifp c4_1 hf
    refine a_tblIn (k := 2) (off := 37) (tgt := 41) dX11_measure_4 c4_1 (by decide) (by decide) rfl (by decide) ?_
    refine a_aload_n (q := 0) dX11_measure_41 rfl rfl ?_
    obtain ⟨v5, e6, hf⟩ := obd hf
    refine o_gfF dX11_measure_42 lk_X11_29 rfl e6 ?_
    obtain ⟨v8, h9, e7, hf⟩ := ob2 hf
    refine a_callS (as := [.float v5]) (np := 1) (st := []) (sX11_bitsOf E (D - 1) (by omega) e7) dX11_measure_45 rfl (by omega) (by decide) cw_X11_66 wd_375 rfl (Nat.le_of_ble_eq_true rfl) ?_
    obtain ⟨rfl, rfl⟩ := oc2 hf
    exact a_ireturn dX11_measure_48 rfl
  have hf := ifn c4_1 hf
  by_cases c4_2 : v1 = 3
  · have hf := ifp c4_2 hf
    refine a_tblIn (k := 3) (off := 45) (tgt := 49) dX11_measure_4 c4_2 (by decide) (by decide) rfl (by decide) ?_
    refine a_aload_n (q := 0) dX11_measure_49 rfl rfl ?_
    obtain ⟨v10, e11, hf⟩ := obd hf
    refine o_gfI dX11_measure_50 lk_X11_19 rfl e11 ?_
    obtain ⟨rfl, rfl⟩ := oc2 hf
    exact a_ireturn dX11_measure_53 rfl
  have hf := ifn c4_2 hf
  by_cases c4_3 : v1 = 4
  · have hf := ifp c4_3 hf
    refine a_tblIn (k := 4) (off := 45) (tgt := 49) dX11_measure_4 c4_3 (by decide) (by decide) rfl (by decide) ?_
    refine a_aload_n (q := 0) dX11_measure_49 rfl rfl ?_
    obtain ⟨v12, e13, hf⟩ := obd hf
    refine o_gfI dX11_measure_50 lk_X11_19 rfl e13 ?_
    obtain ⟨rfl, rfl⟩ := oc2 hf
    exact a_ireturn dX11_measure_53 rfl
  have hf := ifn c4_3 hf
  have t4_0 := lv_neT (a := 1) c4_0 rfl
  have t4_1 := lv_neT (a := 2) c4_1 rfl
  have t4_2 := lv_neT (a := 3) c4_2 rfl
  have t4_3 := lv_neT (a := 4) c4_3 rfl
  refine a_tblOut (tgt := 54) dX11_measure_4 (by omega) (by decide) ?_
  refine a_iconst (v := 0) dX11_measure_54 (by decide) ?_
  obtain ⟨rfl, rfl⟩ := oc2 hf
  exact a_ireturn dX11_measure_55 rfl

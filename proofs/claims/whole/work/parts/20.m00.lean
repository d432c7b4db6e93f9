def fX1_init (a0 : Nat) (h : hp) : Option hp :=
  (ckT h a0 0).bind fun _ =>
  bd2 (nwA h 0 6) fun v2 h3 =>
  (pfR h3 a0 0 0 v2).bind fun h5 =>
  some h5
set_option maxHeartbeats 4000000 in
set_option maxRecDepth 100000 in
theorem sX1_init (E : gE) (D : Nat) (hD : 1 ≤ D) {a0 : Nat} {h hz : hp} (hf : fX1_init a0 h = some hz) : MC E yX1_init cX1_init (Option.none : Option Jvm.ClassFile.FieldType) 1 D [.ref a0] h none hz := by
  refine MC.of (by decide +kernel) (Nat.le_of_ble_eq_true rfl) rfl ?_
  unfold fX1_init at hf
  show AW E yX1_init cX1_init (Option.none : Option Jvm.ClassFile.FieldType) 1 D none h hz 0 [(0, .ref a0)] [] h
  refine a_aload_n (q := 0) dX1_init_0 rfl rfl ?_
  obtain ⟨_, e1, hf⟩ := obd hf
  refine o_objI dX1_init_1 (by omega) wd_149 wd_32 wd_33 (by decide) (ckT_s e1) (Nat.le_of_ble_eq_true rfl) ?_
  refine a_aload_n (q := 0) dX1_init_4 rfl rfl ?_
  refine a_bipush (v := 6) dX1_init_5 (by decide) ?_
  obtain ⟨v2, h3, e4, hf⟩ := ob2 hf
  refine o_nwI dX1_init_7 wd_63 e4 ?_
  obtain ⟨h5, e6, hf⟩ := obd hf
  refine o_pfR dX1_init_9 lk_X1_9 (⟨_, rfl, Or.inr ⟨rfl, rfl, rfl, wd_150⟩⟩) rfl e6 ?_
  obtain rfl := Option.some.inj hf
  exact a_return dX1_init_12 rfl
def fX1_begin (a0 : Nat) (h : hp) : Option hp :=
  (pfI h a0 0 1 0).bind fun h1 =>
  (pfI h1 a0 0 2 0).bind fun h3 =>
  (pfI h3 a0 0 3 (-1)).bind fun h5 =>
  some h5
set_option maxHeartbeats 4000000 in
set_option maxRecDepth 100000 in
theorem sX1_begin (E : gE) (D : Nat) (hD : 0 ≤ D) {a0 : Nat} {h hz : hp} (hf : fX1_begin a0 h = some hz) : MC E yX1_begin cX1_begin (Option.none : Option Jvm.ClassFile.FieldType) 1 D [.ref a0] h none hz := by
  refine MC.of (by decide +kernel) (Nat.le_of_ble_eq_true rfl) rfl ?_
  unfold fX1_begin at hf
  show AW E yX1_begin cX1_begin (Option.none : Option Jvm.ClassFile.FieldType) 1 D none h hz 0 [(0, .ref a0)] [] h
  refine a_aload_n (q := 0) dX1_begin_0 rfl rfl ?_
  refine a_iconst (v := 0) dX1_begin_1 (by decide) ?_
  obtain ⟨h1, e2, hf⟩ := obd hf
  refine o_pfI dX1_begin_2 lk_X1_15 (⟨_, rfl, Or.inl rfl⟩) rfl e2 ?_
  refine a_aload_n (q := 0) dX1_begin_5 rfl rfl ?_
  refine a_iconst (v := 0) dX1_begin_6 (by decide) ?_
  obtain ⟨h3, e4, hf⟩ := obd hf
  refine o_pfI dX1_begin_7 lk_X1_19 (⟨_, rfl, Or.inl rfl⟩) rfl e4 ?_
  refine a_aload_n (q := 0) dX1_begin_10 rfl rfl ?_
  refine a_iconst (v := (-1)) dX1_begin_11 (by decide) ?_
  obtain ⟨h5, e6, hf⟩ := obd hf
  refine o_pfI dX1_begin_12 lk_X1_22 (⟨_, rfl, Or.inl rfl⟩) rfl e6 ?_
  obtain rfl := Option.some.inj hf
  exact a_return dX1_begin_15 rfl
def fX13_among (a0 : Int32) (a1 : Int32) (h : hp) : Option (Int32 × hp) :=
  if a0 < 0 then (
    some (0, h)
  ) else (
    if a1 ≤ a0 then (
      some (0, h)
    ) else (
      some (1, h)
    )
  )
set_option maxHeartbeats 4000000 in
set_option maxRecDepth 100000 in
theorem sX13_among (E : gE) (D : Nat) (hD : 0 ≤ D) {a0 : Int32} {a1 : Int32} {h hz : hp} {v0 : Int32} (hf : fX13_among a0 a1 h = some (v0, hz)) : MC E yX13_among cX13_among (Option.some Jvm.ClassFile.FieldType.boolean) 2 D [.int a0, .int a1] h (some (.int v0)) hz := by
  refine MC.of (by decide +kernel) (Nat.le_of_ble_eq_true rfl) rfl ?_
  unfold fX13_among at hf
  show AW E yX13_among cX13_among (Option.some Jvm.ClassFile.FieldType.boolean) 2 D (some (.int v0)) h hz 0 [(0, .int a0), (1, .int a1)] [] h
  refine a_iload_n (q := 0) dX13_among_0 rfl rfl ?_
  refine a_if_lt (tgt := 13) dX13_among_1 (by decide) (fun c => ?_) (fun c => ?_)
  · have hf := ifp c hf
    refine a_iconst (v := 0) dX13_among_13 (by decide) ?_
    obtain ⟨rfl, rfl⟩ := oc2 hf
    exact a_zreturn dX13_among_14 rfl (by decide)
  · have hf := ifn c hf
    refine a_iload_n (q := 0) dX13_among_4 rfl rfl ?_
    refine a_iload_n (q := 1) dX13_among_5 rfl rfl ?_
    refine a_icmp_ge (tgt := 13) dX13_among_6 (by decide) (fun c => ?_) (fun c => ?_)
    · have hf := ifp c hf
      refine a_iconst (v := 0) dX13_among_13 (by decide) ?_
      obtain ⟨rfl, rfl⟩ := oc2 hf
      exact a_zreturn dX13_among_14 rfl (by decide)
    · have hf := ifn c hf
      refine a_iconst (v := 1) dX13_among_9 (by decide) ?_
      refine a_goto (tgt := 14) dX13_among_10 (by decide) ?_
      obtain ⟨rfl, rfl⟩ := oc2 hf
      exact a_zreturn dX13_among_14 rfl (by decide)
def fX1_add (a0 : Nat) (a1 : Int32) (h : hp) : Option hp :=
  (gfI h a0 0 1).bind fun v1 =>
  bd2 (fX13_among v1 6 h) fun v4 h5 =>
  if v4 = 0 then (
    some h5
  ) else (
    (gfR h5 a0 0 0).bind fun v6 =>
    (gfI h5 a0 0 1).bind fun v8 =>
    (asI h5 v6 v8 a1).bind fun h10 =>
    (gfI h10 a0 0 1).bind fun v12 =>
    (pfI h10 a0 0 2 v12).bind fun h14 =>
    (gfI h14 a0 0 1).bind fun v16 =>
    (pfI h14 a0 0 1 (v16 + 1)).bind fun h18 =>
    some h18
  )
set_option maxHeartbeats 4000000 in
set_option maxRecDepth 100000 in
theorem sX1_add (E : gE) (D : Nat) (hD : 1 ≤ D) {a0 : Nat} {a1 : Int32} {h hz : hp} (hf : fX1_add a0 a1 h = some hz) : MC E yX1_add cX1_add (Option.none : Option Jvm.ClassFile.FieldType) 2 D [.ref a0, .int a1] h none hz := by
  refine MC.of (by decide +kernel) (Nat.le_of_ble_eq_true rfl) rfl ?_
  unfold fX1_add at hf
  show AW E yX1_add cX1_add (Option.none : Option Jvm.ClassFile.FieldType) 2 D none h hz 0 [(0, .ref a0), (1, .int a1)] [] h
  refine a_aload_n (q := 0) dX1_add_0 rfl rfl ?_
  obtain ⟨v1, e2, hf⟩ := obd hf
  refine o_gfI dX1_add_1 lk_X1_15 rfl e2 ?_
  refine a_bipush (v := 6) dX1_add_4 (by decide) ?_
  obtain ⟨v4, h5, e3, hf⟩ := ob2 hf
  refine a_callS (as := [.int v1, .int 6]) (np := 2) (st := []) (sX13_among E (D - 1) (by omega) e3) dX1_add_6 rfl (by omega) (by decide) cw_X1_25 wd_268 rfl (Nat.le_of_ble_eq_true rfl) ?_
  refine a_if_ne (tgt := 13) dX1_add_9 (by decide) (fun c => ?_) (fun c => ?_)
  · have hf := ifn c hf
    refine a_aload_n (q := 0) dX1_add_13 rfl rfl ?_
    obtain ⟨v6, e7, hf⟩ := obd hf
    refine o_gfR dX1_add_14 lk_X1_9 rfl e7 ?_
    refine a_aload_n (q := 0) dX1_add_17 rfl rfl ?_
    obtain ⟨v8, e9, hf⟩ := obd hf
    refine o_gfI dX1_add_18 lk_X1_15 rfl e9 ?_
    refine a_iload_n (q := 1) dX1_add_21 rfl rfl ?_
    obtain ⟨h10, e11, hf⟩ := obd hf
    refine o_asI dX1_add_22 e11 ?_
    refine a_aload_n (q := 0) dX1_add_23 rfl rfl ?_
    refine a_aload_n (q := 0) dX1_add_24 rfl rfl ?_
    obtain ⟨v12, e13, hf⟩ := obd hf
    refine o_gfI dX1_add_25 lk_X1_15 rfl e13 ?_
    obtain ⟨h14, e15, hf⟩ := obd hf
    refine o_pfI dX1_add_28 lk_X1_19 (⟨_, rfl, Or.inl rfl⟩) rfl e15 ?_
    refine a_aload_n (q := 0) dX1_add_31 rfl rfl ?_
    refine a_aload_n (q := 0) dX1_add_32 rfl rfl ?_
    obtain ⟨v16, e17, hf⟩ := obd hf
    refine o_gfI dX1_add_33 lk_X1_15 rfl e17 ?_
    refine a_iconst (v := 1) dX1_add_36 (by decide) ?_
    refine a_iadd dX1_add_37 ?_
    obtain ⟨h18, e19, hf⟩ := obd hf
    refine o_pfI dX1_add_38 lk_X1_15 (⟨_, rfl, Or.inl rfl⟩) rfl e19 ?_
    obtain rfl := Option.some.inj hf
    exact a_return dX1_add_41 rfl
  · have hf := ifp c hf
    obtain rfl := Option.some.inj hf
    exact a_return dX1_add_12 rfl
def fX1_at (a0 : Nat) (a1 : Int32) (h : hp) : Option (Int32 × hp) :=
  if a1 < 0 then (
    some ((-1), h)
  ) else (
    (gfR h a0 0 0).bind fun v1 =>
    (aln 0 h v1).bind fun v3 =>
    if v3 ≤ a1 then (
      some ((-1), h)
    ) else (
      (gfR h a0 0 0).bind fun v5 =>
      (alI h v5 a1).bind fun v7 =>
      some (v7, h)
    )
  )
set_option maxHeartbeats 4000000 in
set_option maxRecDepth 100000 in
theorem sX1_at (E : gE) (D : Nat) (hD : 0 ≤ D) {a0 : Nat} {a1 : Int32} {h hz : hp} {v0 : Int32} (hf : fX1_at a0 a1 h = some (v0, hz)) : MC E yX1_at cX1_at (Option.some Jvm.ClassFile.FieldType.int) 2 D [.ref a0, .int a1] h (some (.int v0)) hz := by
  refine MC.of (by decide +kernel) (Nat.le_of_ble_eq_true rfl) rfl ?_
  unfold fX1_at at hf
  show AW E yX1_at cX1_at (Option.some Jvm.ClassFile.FieldType.int) 2 D (some (.int v0)) h hz 0 [(0, .ref a0), (1, .int a1)] [] h
  refine a_iload_n (q := 1) dX1_at_0 rfl rfl ?_
  refine a_if_lt (tgt := 22) dX1_at_1 (by decide) (fun c => ?_) (fun c => ?_)
  · have hf := ifp c hf
    refine a_iconst (v := (-1)) dX1_at_22 (by decide) ?_
    obtain ⟨rfl, rfl⟩ := oc2 hf
    exact a_ireturn dX1_at_23 rfl
  · have hf := ifn c hf
    refine a_iload_n (q := 1) dX1_at_4 rfl rfl ?_
    refine a_aload_n (q := 0) dX1_at_5 rfl rfl ?_
    obtain ⟨v1, e2, hf⟩ := obd hf
    refine o_gfR dX1_at_6 lk_X1_9 rfl e2 ?_
    obtain ⟨v3, e4, hf⟩ := obd hf
    refine o_aln dX1_at_9 (by decide) e4 ?_
    refine a_icmp_ge (tgt := 22) dX1_at_10 (by decide) (fun c => ?_) (fun c => ?_)
    · have hf := ifp c hf
      refine a_iconst (v := (-1)) dX1_at_22 (by decide) ?_
      obtain ⟨rfl, rfl⟩ := oc2 hf
      exact a_ireturn dX1_at_23 rfl
    · have hf := ifn c hf
      refine a_aload_n (q := 0) dX1_at_13 rfl rfl ?_
      obtain ⟨v5, e6, hf⟩ := obd hf
      refine o_gfR dX1_at_14 lk_X1_9 rfl e6 ?_
      refine a_iload_n (q := 1) dX1_at_17 rfl rfl ?_
      obtain ⟨v7, e8, hf⟩ := obd hf
      refine o_alI dX1_at_18 e8 ?_
      refine a_goto (tgt := 23) dX1_at_19 (by decide) ?_
      obtain ⟨rfl, rfl⟩ := oc2 hf
      exact a_ireturn dX1_at_23 rfl
def fX5_addLink (a0 : Nat) (a1 : Int32) (a2 : Int32) (a3 : Int32) (h : hp) : Option hp :=
  (gfI h a0 4 1).bind fun v1 =>
  if v1 < 0 then (
    some h
  ) else (
    (gfI h a0 4 1).bind fun v3 =>
    (gfR h a0 4 0).bind fun v5 =>
    (aln 0 h v5).bind fun v7 =>
    if v3 ≤ (v7 - 3) then (
      (gfR h a0 4 0).bind fun v9 =>
      (gfI h a0 4 1).bind fun v11 =>
      (asI h v9 v11 a1).bind fun h13 =>
      (gfR h13 a0 4 0).bind fun v15 =>
      (gfI h13 a0 4 1).bind fun v17 =>
      (asI h13 v15 (v17 + 1) a2).bind fun h19 =>
      (gfR h19 a0 4 0).bind fun v21 =>
      (gfI h19 a0 4 1).bind fun v23 =>
      (asI h19 v21 (v23 + 2) a3).bind fun h25 =>
      (gfI h25 a0 4 1).bind fun v27 =>
      (pfI h25 a0 4 1 (v27 + 3)).bind fun h29 =>
      some h29
    ) else (
      some h
    )
  )
set_option maxHeartbeats 4000000 in
set_option maxRecDepth 100000 in
theorem sX5_addLink (E : gE) (D : Nat) (hD : 0 ≤ D) {a0 : Nat} {a1 : Int32} {a2 : Int32} {a3 : Int32} {h hz : hp} (hf : fX5_addLink a0 a1 a2 a3 h = some hz) : MC E yX5_addLink cX5_addLink (Option.none : Option Jvm.ClassFile.FieldType) 4 D [.ref a0, .int a1, .int a2, .int a3] h none hz := by
  refine MC.of (by decide +kernel) (Nat.le_of_ble_eq_true rfl) rfl ?_
  unfold fX5_addLink at hf
  show AW E yX5_addLink cX5_addLink (Option.none : Option Jvm.ClassFile.FieldType) 4 D none h hz 0 [(0, .ref a0), (1, .int a1), (2, .int a2), (3, .int a3)] [] h
  refine a_aload_n (q := 0) dX5_addLink_0 rfl rfl ?_
  obtain ⟨v1, e2, hf⟩ := obd hf
  refine o_gfI dX5_addLink_1 lk_X5_15 rfl e2 ?_
  refine a_if_lt (tgt := 21) dX5_addLink_4 (by decide) (fun c => ?_) (fun c => ?_)
  · have hf := ifp c hf
    obtain rfl := Option.some.inj hf
    exact a_return dX5_addLink_21 rfl
  · have hf := ifn c hf
    refine a_aload_n (q := 0) dX5_addLink_7 rfl rfl ?_
    obtain ⟨v3, e4, hf⟩ := obd hf
    refine o_gfI dX5_addLink_8 lk_X5_15 rfl e4 ?_
    refine a_aload_n (q := 0) dX5_addLink_11 rfl rfl ?_
    obtain ⟨v5, e6, hf⟩ := obd hf
    refine o_gfR dX5_addLink_12 lk_X5_9 rfl e6 ?_
    obtain ⟨v7, e8, hf⟩ := obd hf
    refine o_aln dX5_addLink_15 (by decide) e8 ?_
    refine a_iconst (v := 3) dX5_addLink_16 (by decide) ?_
    refine a_isub dX5_addLink_17 ?_
    refine a_icmp_le (tgt := 22) dX5_addLink_18 (by decide) (fun c => ?_) (fun c => ?_)
    · have hf := ifp c hf
      refine a_aload_n (q := 0) dX5_addLink_22 rfl rfl ?_
      obtain ⟨v9, e10, hf⟩ := obd hf
      refine o_gfR dX5_addLink_23 lk_X5_9 rfl e10 ?_
      refine a_aload_n (q := 0) dX5_addLink_26 rfl rfl ?_
      obtain ⟨v11, e12, hf⟩ := obd hf
      refine o_gfI dX5_addLink_27 lk_X5_15 rfl e12 ?_
      refine a_iload_n (q := 1) dX5_addLink_30 rfl rfl ?_
      obtain ⟨h13, e14, hf⟩ := obd hf
      refine o_asI dX5_addLink_31 e14 ?_
      refine a_aload_n (q := 0) dX5_addLink_32 rfl rfl ?_
      obtain ⟨v15, e16, hf⟩ := obd hf
      refine o_gfR dX5_addLink_33 lk_X5_9 rfl e16 ?_
      refine a_aload_n (q := 0) dX5_addLink_36 rfl rfl ?_
      obtain ⟨v17, e18, hf⟩ := obd hf
      refine o_gfI dX5_addLink_37 lk_X5_15 rfl e18 ?_
      refine a_iconst (v := 1) dX5_addLink_40 (by decide) ?_
      refine a_iadd dX5_addLink_41 ?_
      refine a_iload_n (q := 2) dX5_addLink_42 rfl rfl ?_
      obtain ⟨h19, e20, hf⟩ := obd hf
      refine o_asI dX5_addLink_43 e20 ?_
      refine a_aload_n (q := 0) dX5_addLink_44 rfl rfl ?_
      obtain ⟨v21, e22, hf⟩ := obd hf
      refine o_gfR dX5_addLink_45 lk_X5_9 rfl e22 ?_
      refine a_aload_n (q := 0) dX5_addLink_48 rfl rfl ?_
      obtain ⟨v23, e24, hf⟩ := obd hf
      refine o_gfI dX5_addLink_49 lk_X5_15 rfl e24 ?_
      refine a_iconst (v := 2) dX5_addLink_52 (by decide) ?_
      refine a_iadd dX5_addLink_53 ?_
      refine a_iload_n (q := 3) dX5_addLink_54 rfl rfl ?_
      obtain ⟨h25, e26, hf⟩ := obd hf
      refine o_asI dX5_addLink_55 e26 ?_
      refine a_aload_n (q := 0) dX5_addLink_56 rfl rfl ?_
      refine a_aload_n (q := 0) dX5_addLink_57 rfl rfl ?_
      obtain ⟨v27, e28, hf⟩ := obd hf
      refine o_gfI dX5_addLink_58 lk_X5_15 rfl e28 ?_
      refine a_iconst (v := 3) dX5_addLink_61 (by decide) ?_
      refine a_iadd dX5_addLink_62 ?_
      obtain ⟨h29, e30, hf⟩ := obd hf
      refine o_pfI dX5_addLink_63 lk_X5_15 (⟨_, rfl, Or.inl rfl⟩) rfl e30 ?_
      obtain rfl := Option.some.inj hf
      exact a_return dX5_addLink_66 rfl
    · have hf := ifn c hf
      obtain rfl := Option.some.inj hf
      exact a_return dX5_addLink_21 rfl
def fX1_tell_l3 : Nat → Nat → Nat → Int32 → Int32 → Int32 → hp → Option hp
  | 0, _, _, _, _, _, _ => none
  | n + 1, x0, x1, x2, x3, x4, h =>
    (gfI h x0 0 2).bind fun v1 =>
    if v1 ≤ x4 then (
      some (h)
    ) else (
      (ckT h x0 0).bind fun _ =>
      bd2 (fX1_at x0 x4 h) fun v4 h5 =>
      (ckT h5 x1 4).bind fun _ =>
      (fX5_addLink x1 v4 1 11 h5).bind fun h8 =>
      fX1_tell_l3 n x0 x1 x2 x3 (x4 + 1) h8
    )
def fX1_tell (a0 : Nat) (a1 : Nat) (a2 : Int32) (a3 : Int32) (h : hp) : Option hp :=
  (fX1_tell_l3 FU a0 a1 a2 a3 0 h).bind fun h2 =>
  (gfI h2 a0 0 2).bind fun v3 =>
  (ckT h2 a0 0).bind fun _ =>
  bd2 (fX1_at a0 v3 h2) fun v6 h7 =>
  (ckT h7 a1 4).bind fun _ =>
  (fX5_addLink a1 v6 a2 a3 h7).bind fun h10 =>
  some h10
set_option maxHeartbeats 4000000 in
set_option maxRecDepth 100000 in
theorem sX1_tell_l3 (E : gE) (D : Nat) (hD : 1 ≤ D) {rz : Option Value} {h0 hz : hp} : ∀ (n : Nat) (x0 : Nat) (x1 : Nat) (x2 : Int32) (x3 : Int32) (x4 : Int32) (h : hp) (hq : hp), fX1_tell_l3 n x0 x1 x2 x3 x4 h = some hq → (AW E yX1_tell cX1_tell (Option.none : Option Jvm.ClassFile.FieldType) 5 D rz h0 hz 31 [(0, .ref x0), (1, .ref x1), (2, .int x2), (3, .int x3)] [] hq) → AW E yX1_tell cX1_tell (Option.none : Option Jvm.ClassFile.FieldType) 5 D rz h0 hz 3 [(0, .ref x0), (1, .ref x1), (2, .int x2), (3, .int x3), (4, .int x4)] [] h := by
  intro n
  induction n with
  | zero =>
    intro x0 x1 x2 x3 x4 h hq hf _
    rw [fX1_tell_l3] at hf
    cases hf
  | succ n ih =>
    intro x0 x1 x2 x3 x4 h hq hf hk0
    rw [fX1_tell_l3] at hf
    refine a_iload (q := 4) dX1_tell_3 rfl ?_
    refine a_aload_n (q := 0) dX1_tell_5 rfl rfl ?_
    obtain ⟨v1, e2, hf⟩ := obd hf
    refine o_gfI dX1_tell_6 lk_X1_19 rfl e2 ?_
    refine a_icmp_ge (tgt := 31) dX1_tell_9 (by decide) (fun c => ?_) (fun c => ?_)
    · have hf := ifp c hf
      obtain rfl := Option.some.inj hf
      exact AW.sub [0, 1, 2, 3] rfl (hk0)
    · have hf := ifn c hf
      refine a_aload_n (q := 1) dX1_tell_12 rfl rfl ?_
      refine a_aload_n (q := 0) dX1_tell_13 rfl rfl ?_
      refine a_iload (q := 4) dX1_tell_14 rfl ?_
      obtain ⟨_, e6, hf⟩ := obd hf
      obtain ⟨v4, h5, e3, hf⟩ := ob2 hf
      refine a_callV (as := [.int x4]) (np := 1) (ci := 0) (st := [.ref x1]) (sX1_at E (D - 1) (by omega) e3) dX1_tell_16 rfl (by omega) (by decide) cw_X1_29 ⟨wd_777, wd_778⟩ rfl (ckT_s e6) rfl (Nat.le_of_ble_eq_true rfl) ?_
      refine a_iconst (v := 1) dX1_tell_19 (by decide) ?_
      refine a_bipush (v := 11) dX1_tell_20 (by decide) ?_
      obtain ⟨_, e9, hf⟩ := obd hf
      obtain ⟨h8, e7, hf⟩ := obd hf
      refine a_callV (as := [.int v4, .int 1, .int 11]) (np := 3) (ci := 4) (st := []) (sX5_addLink E (D - 1) (by omega) e7) dX1_tell_22 rfl (by omega) (by decide) cw_X1_33 ⟨wd_781, wd_782⟩ rfl (ckT_s e9) rfl (Nat.le_of_ble_eq_true rfl) ?_
      refine a_iinc (q := 4) (v := (x4 + 1)) (lv1 := [(4, .int (x4 + 1)), (0, .ref x0), (1, .ref x1), (2, .int x2), (3, .int x3)]) dX1_tell_25 rfl (by rfl) (by decide) rfl ?_
      refine a_goto (tgt := 3) dX1_tell_28 (by decide) ?_
      exact AW.sub [1, 2, 3, 4, 0] rfl (ih _ _ _ _ _ _ _ hf hk0)
set_option maxHeartbeats 4000000 in
set_option maxRecDepth 100000 in
theorem sX1_tell (E : gE) (D : Nat) (hD : 1 ≤ D) {a0 : Nat} {a1 : Nat} {a2 : Int32} {a3 : Int32} {h hz : hp} (hf : fX1_tell a0 a1 a2 a3 h = some hz) : MC E yX1_tell cX1_tell (Option.none : Option Jvm.ClassFile.FieldType) 5 D [.ref a0, .ref a1, .int a2, .int a3] h none hz := by
  refine MC.of (by decide +kernel) (Nat.le_of_ble_eq_true rfl) rfl ?_
  unfold fX1_tell at hf
  show AW E yX1_tell cX1_tell (Option.none : Option Jvm.ClassFile.FieldType) 5 D none h hz 0 [(0, .ref a0), (1, .ref a1), (2, .int a2), (3, .int a3)] [] h
  refine a_iconst (v := 0) dX1_tell_0 (by decide) ?_
  refine a_istore (lv1 := [(4, .int 0), (0, .ref a0), (1, .ref a1), (2, .int a2), (3, .int a3)]) dX1_tell_1 (by decide) rfl ?_
  obtain ⟨h2, e1, hf⟩ := obd hf
  refine AW.sub [1, 2, 3, 4, 0] rfl (sX1_tell_l3 E D hD _ _ _ _ _ _ _ _ e1 ?_)
  refine a_aload_n (q := 1) dX1_tell_31 rfl rfl ?_
  refine a_aload_n (q := 0) dX1_tell_32 rfl rfl ?_
  refine a_aload_n (q := 0) dX1_tell_33 rfl rfl ?_
  obtain ⟨v3, e4, hf⟩ := obd hf
  refine o_gfI dX1_tell_34 lk_X1_19 rfl e4 ?_
  obtain ⟨_, e8, hf⟩ := obd hf
  obtain ⟨v6, h7, e5, hf⟩ := ob2 hf
  refine a_callV (as := [.int v3]) (np := 1) (ci := 0) (st := [.ref a1]) (sX1_at E (D - 1) (by omega) e5) dX1_tell_37 rfl (by omega) (by decide) cw_X1_29 ⟨wd_777, wd_778⟩ rfl (ckT_s e8) rfl (Nat.le_of_ble_eq_true rfl) ?_
  refine a_iload_n (q := 2) dX1_tell_40 rfl rfl ?_
  refine a_iload_n (q := 3) dX1_tell_41 rfl rfl ?_
  obtain ⟨_, e11, hf⟩ := obd hf
  obtain ⟨h10, e9, hf⟩ := obd hf
  refine a_callV (as := [.int v6, .int a2, .int a3]) (np := 3) (ci := 4) (st := []) (sX5_addLink E (D - 1) (by omega) e9) dX1_tell_42 rfl (by omega) (by decide) cw_X1_33 ⟨wd_781, wd_782⟩ rfl (ckT_s e11) rfl (Nat.le_of_ble_eq_true rfl) ?_
  obtain rfl := Option.some.inj hf
  exact a_return dX1_tell_45 rfl
def fX2_init (a0 : Nat) (h : hp) : Option hp :=
  (ckT h a0 1).bind fun _ =>
  some h
set_option maxHeartbeats 4000000 in
set_option maxRecDepth 100000 in
theorem sX2_init (E : gE) (D : Nat) (hD : 1 ≤ D) {a0 : Nat} {h hz : hp} (hf : fX2_init a0 h = some hz) : MC E yX2_init cX2_init (Option.none : Option Jvm.ClassFile.FieldType) 1 D [.ref a0] h none hz := by
  refine MC.of (by decide +kernel) (Nat.le_of_ble_eq_true rfl) rfl ?_
  unfold fX2_init at hf
  show AW E yX2_init cX2_init (Option.none : Option Jvm.ClassFile.FieldType) 1 D none h hz 0 [(0, .ref a0)] [] h
  refine a_aload_n (q := 0) dX2_init_0 rfl rfl ?_
  obtain ⟨_, e1, hf⟩ := obd hf
  refine o_objI dX2_init_1 (by omega) wd_570 wd_32 wd_33 (by decide) (ckT_s e1) (Nat.le_of_ble_eq_true rfl) ?_
  obtain rfl := Option.some.inj hf
  exact a_return dX2_init_4 rfl
def fJ0_isLatin1_aae02 (a0 : Nat) (h : hp) : Option (Int32 × hp) :=
  (gsK a0).bind fun v1 =>
  if v1 = 0 then (
    some (1, h)
  ) else (
    some (0, h)
  )
set_option maxHeartbeats 4000000 in
set_option maxRecDepth 100000 in
theorem sJ0_isLatin1_aae02 (E : gE) (D : Nat) (hD : 0 ≤ D) {a0 : Nat} {h hz : hp} {v0 : Int32} (hf : fJ0_isLatin1_aae02 a0 h = some (v0, hz)) : MC E yJ0_isLatin1_aae02 cJ0_isLatin1_aae02 (Option.some Jvm.ClassFile.FieldType.boolean) 1 D [.ref a0] h (some (.int v0)) hz := by
  refine MC.of (by decide +kernel) (Nat.le_of_ble_eq_true rfl) rfl ?_
  unfold fJ0_isLatin1_aae02 at hf
  show AW E yJ0_isLatin1_aae02 cJ0_isLatin1_aae02 (Option.some Jvm.ClassFile.FieldType.boolean) 1 D (some (.int v0)) h hz 0 [(0, .ref a0)] [] h
  refine o_gzI (v := 1) dJ0_isLatin1_aae02_0 wd_646 (fun _ _ z => z.2.2.2.2.2.2.2.1) ?_
  refine a_if_eq (tgt := 17) dJ0_isLatin1_aae02_3 (by decide) (fun c => ?_) (fun c => ?_)
  · exact absurd c (by decide)
  · refine a_aload_n (q := 0) dJ0_isLatin1_aae02_6 rfl rfl ?_
    obtain ⟨v1, e2, hf⟩ := obd hf
    refine o_gsK dJ0_isLatin1_aae02_7 (Or.inl wd_1845) e2 ?_
    refine a_if_ne (tgt := 17) dJ0_isLatin1_aae02_10 (by decide) (fun c => ?_) (fun c => ?_)
    · have hf := ifn c hf
      refine a_iconst (v := 0) dJ0_isLatin1_aae02_17 (by decide) ?_
      obtain ⟨rfl, rfl⟩ := oc2 hf
      exact a_zreturn dJ0_isLatin1_aae02_18 rfl (by decide)
    · have hf := ifp c hf
      refine a_iconst (v := 1) dJ0_isLatin1_aae02_13 (by decide) ?_
      refine a_goto (tgt := 18) dJ0_isLatin1_aae02_14 (by decide) ?_
      obtain ⟨rfl, rfl⟩ := oc2 hf
      exact a_zreturn dJ0_isLatin1_aae02_18 rfl (by decide)
def fJ3_checkIndex_8e157 (a0 : Int32) (a1 : Int32) (a2 : Nat) (h : hp) : Option (Int32 × hp) :=
  jn (fun (h9j : hp) => (
    none
    : Option (Int32 × hp))) fun k9 =>
  if a0 < 0 then (
    k9 h
  ) else (
    if a0 < a1 then (
      some (a0, h)
    ) else (
      k9 h
    )
  )
set_option maxHeartbeats 4000000 in
set_option maxRecDepth 100000 in
theorem sJ3_checkIndex_8e157 (E : gE) (D : Nat) (hD : 1 ≤ D) {a0 : Int32} {a1 : Int32} {a2 : Nat} {h hz : hp} {v0 : Int32} (hf : fJ3_checkIndex_8e157 a0 a1 a2 h = some (v0, hz)) : MC E yJ3_checkIndex_8e157 cJ3_checkIndex_8e157 (Option.some Jvm.ClassFile.FieldType.int) 3 D [.int a0, .int a1, .ref a2] h (some (.int v0)) hz := by
  refine MC.of (by decide +kernel) (Nat.le_of_ble_eq_true rfl) rfl ?_
  unfold fJ3_checkIndex_8e157 at hf
  show AW E yJ3_checkIndex_8e157 cJ3_checkIndex_8e157 (Option.some Jvm.ClassFile.FieldType.int) 3 D (some (.int v0)) h hz 0 [(0, .int a0), (1, .int a1), (2, .ref a2)] [] h
  refine a_iload_n (q := 0) dJ3_checkIndex_8e157_0 rfl rfl ?_
  obtain ⟨k9, ek9, hf⟩ := jn_s hf
  have hj9 : ∀ (h9j : hp), k9 h9j = some (v0, hz) → AW E yJ3_checkIndex_8e157 cJ3_checkIndex_8e157 (Option.some Jvm.ClassFile.FieldType.int) 3 D (some (.int v0)) h hz 9 [(0, .int a0), (1, .int a1), (2, .ref a2)] [] h9j := by
    intro h9j hf
    rw [ek9] at hf
    clear ek9
    refine a_aload_n (q := 2) dJ3_checkIndex_8e157_9 rfl rfl ?_
    refine a_iload_n (q := 0) dJ3_checkIndex_8e157_10 rfl rfl ?_
    refine a_iload_n (q := 1) dJ3_checkIndex_8e157_11 rfl rfl ?_
    cases hf
  clear ek9
  refine a_if_lt (tgt := 9) dJ3_checkIndex_8e157_1 (by decide) (fun c => ?_) (fun c => ?_)
  · have hf := ifp c hf
    exact hj9 _ hf
  · have hf := ifn c hf
    refine a_iload_n (q := 0) dJ3_checkIndex_8e157_4 rfl rfl ?_
    refine a_iload_n (q := 1) dJ3_checkIndex_8e157_5 rfl rfl ?_
    refine a_icmp_lt (tgt := 16) dJ3_checkIndex_8e157_6 (by decide) (fun c => ?_) (fun c => ?_)
    · have hf := ifp c hf
      refine a_iload_n (q := 0) dJ3_checkIndex_8e157_16 rfl rfl ?_
      obtain ⟨rfl, rfl⟩ := oc2 hf
      exact a_ireturn dJ3_checkIndex_8e157_17 rfl
    · have hf := ifn c hf
      exact hj9 _ hf
def fJ0_checkIndex_df160 (a0 a1 : Int32) (h : hp) : Option hp := bd2 (fJ3_checkIndex_8e157 a0 a1 0 h) fun _ h2 => some h2
set_option maxHeartbeats 4000000 in
theorem sJ0_checkIndex_df160 (E : gE) (D : Nat) (hD : 2 ≤ D) {a0 a1 : Int32} {h hz : hp} (hf : fJ0_checkIndex_df160 a0 a1 h = some hz) : MC E yJ0_checkIndex_df160 cJ0_checkIndex_df160 none 2 D [.int a0, .int a1] h none hz := by
  refine MC.of (by decide +kernel) (Nat.le_of_ble_eq_true rfl) rfl ?_
  unfold fJ0_checkIndex_df160 at hf
  obtain ⟨v, h2, e, hf⟩ := ob2 hf
  obtain rfl := Option.some.inj hf
  show AW E yJ0_checkIndex_df160 cJ0_checkIndex_df160 none 2 D none h h2 0 [(0, .int a0), (1, .int a1)] [] h
  refine a_iload_n (q := 0) dJ0_checkIndex_df160_0 rfl rfl ?_
  refine a_iload_n (q := 1) dJ0_checkIndex_df160_1 rfl rfl ?_
  refine o_gq dJ0_checkIndex_df160_2 wd_662 (fun z => ?_)
  have e2 : fJ3_checkIndex_8e157 a0 a1 z h = some (v, h2) := e
  refine a_callS (as := [.int a0, .int a1, .ref z]) (np := 3) (st := []) (sJ3_checkIndex_8e157 E (D - 1) (by omega) e2) dJ0_checkIndex_df160_5 rfl (by omega) (by decide) cw_J0_1059 wd_665 rfl (Nat.le_of_ble_eq_true rfl) ?_
  refine a_pop dJ0_checkIndex_df160_8 rfl ?_
  exact a_return dJ0_checkIndex_df160_9 rfl

def fJ1_charAt_3b067 (a0 : Nat) (a1 : Int32) (h : hp) : Option (Int32 × hp) :=
  (lnB a0).bind fun v1 =>
  (fJ0_checkIndex_df160 a1 v1 h).bind fun h4 =>
  (blB a0 a1).bind fun v5 =>
  (bck (((v5 &&& 255)).toUInt32 % 65536).toInt32).bind fun _ =>
  some ((((v5 &&& 255)).toUInt32 % 65536).toInt32, h4)
set_option maxHeartbeats 4000000 in
set_option maxRecDepth 100000 in
theorem sJ1_charAt_3b067 (E : gE) (D : Nat) (hD : 3 ≤ D) {a0 : Nat} {a1 : Int32} {h hz : hp} {v0 : Int32} (hf : fJ1_charAt_3b067 a0 a1 h = some (v0, hz)) : MC E yJ1_charAt_3b067 cJ1_charAt_3b067 (Option.some Jvm.ClassFile.FieldType.char) 2 D [.ref a0, .int a1] h (some (.int v0)) hz := by
  refine MC.of (by decide +kernel) (Nat.le_of_ble_eq_true rfl) rfl ?_
  unfold fJ1_charAt_3b067 at hf
  show AW E yJ1_charAt_3b067 cJ1_charAt_3b067 (Option.some Jvm.ClassFile.FieldType.char) 2 D (some (.int v0)) h hz 0 [(0, .ref a0), (1, .int a1)] [] h
  refine a_iload_n (q := 1) dJ1_charAt_3b067_0 rfl rfl ?_
  refine a_aload_n (q := 0) dJ1_charAt_3b067_1 rfl rfl ?_
  obtain ⟨v1, e2, hf⟩ := obd hf
  refine o_lnB dJ1_charAt_3b067_2 e2 ?_
  obtain ⟨h4, e3, hf⟩ := obd hf
  refine a_callS (as := [.int a1, .int v1]) (np := 2) (st := []) (sJ0_checkIndex_df160 E (D - 1) (by omega) e3) dJ1_charAt_3b067_3 rfl (by omega) (by decide) cw_J1_9 wd_660 rfl (Nat.le_of_ble_eq_true rfl) ?_
  refine a_aload_n (q := 0) dJ1_charAt_3b067_6 rfl rfl ?_
  refine a_iload_n (q := 1) dJ1_charAt_3b067_7 rfl rfl ?_
  obtain ⟨v5, e6, hf⟩ := obd hf
  refine o_blB dJ1_charAt_3b067_8 e6 ?_
  refine a_sipush (v := 255) dJ1_charAt_3b067_9 (by decide) ?_
  refine a_iand dJ1_charAt_3b067_12 ?_
  refine a_i2c dJ1_charAt_3b067_13 rfl ?_
  obtain ⟨_, e7, hf⟩ := obd hf
  obtain ⟨rfl, rfl⟩ := oc2 hf
  exact a_creturn dJ1_charAt_3b067_14 rfl (bck_s e7)
def fJ0_charAt_5068e (a0 : Nat) (a1 : Int32) (h : hp) : Option (Int32 × hp) :=
  (ckS a0).bind fun _ =>
  bd2 (fJ0_isLatin1_aae02 a0 h) fun v2 h3 =>
  if v2 = 0 then (
    (gsV a0).bind fun v5 =>
    none
  ) else (
    (gsV a0).bind fun v7 =>
    bd2 (fJ1_charAt_3b067 v7 a1 h3) fun v10 h11 =>
    (bck v10).bind fun _ =>
    some (v10, h11)
  )
set_option maxHeartbeats 4000000 in
set_option maxRecDepth 100000 in
theorem sJ0_charAt_5068e (E : gE) (D : Nat) (hD : 4 ≤ D) {a0 : Nat} {a1 : Int32} {h hz : hp} {v0 : Int32} (hf : fJ0_charAt_5068e a0 a1 h = some (v0, hz)) : MC E yJ0_charAt_5068e cJ0_charAt_5068e (Option.some Jvm.ClassFile.FieldType.char) 2 D [.ref a0, .int a1] h (some (.int v0)) hz := by
  refine MC.of (by decide +kernel) (Nat.le_of_ble_eq_true rfl) rfl ?_
  unfold fJ0_charAt_5068e at hf
  show AW E yJ0_charAt_5068e cJ0_charAt_5068e (Option.some Jvm.ClassFile.FieldType.char) 2 D (some (.int v0)) h hz 0 [(0, .ref a0), (1, .int a1)] [] h
  refine a_aload_n (q := 0) dJ0_charAt_5068e_0 rfl rfl ?_
  obtain ⟨_, e4, hf⟩ := obd hf
  obtain ⟨v2, h3, e1, hf⟩ := ob2 hf
  refine a_callVg (as := []) (np := 0) (C0 := "java/lang/String") (st := []) (sJ0_isLatin1_aae02 E (D - 1) (by omega) e1) dJ0_charAt_5068e_1 rfl (by omega) (by decide) cw_J0_492 ⟨wd_653, wd_654⟩ (g_rvS e4) rfl (Nat.le_of_ble_eq_true rfl) ?_
  refine a_if_eq (tgt := 16) dJ0_charAt_5068e_4 (by decide) (fun c => ?_) (fun c => ?_)
  · have hf := ifp c hf
    refine a_aload_n (q := 0) dJ0_charAt_5068e_16 rfl rfl ?_
    obtain ⟨v5, e6, hf⟩ := obd hf
    refine o_gsV dJ0_charAt_5068e_17 (Or.inl wd_1844) e6 ?_
    refine a_iload_n (q := 1) dJ0_charAt_5068e_20 rfl rfl ?_
    cases hf
  · have hf := ifn c hf
    refine a_aload_n (q := 0) dJ0_charAt_5068e_7 rfl rfl ?_
    obtain ⟨v7, e8, hf⟩ := obd hf
    refine o_gsV dJ0_charAt_5068e_8 (Or.inl wd_1844) e8 ?_
    refine a_iload_n (q := 1) dJ0_charAt_5068e_11 rfl rfl ?_
    obtain ⟨v10, h11, e9, hf⟩ := ob2 hf
    refine a_callS (as := [.ref v7, .int a1]) (np := 2) (st := []) (sJ1_charAt_3b067 E (D - 1) (by omega) e9) dJ0_charAt_5068e_12 rfl (by omega) (by decide) cw_J0_495 wd_657 rfl (Nat.le_of_ble_eq_true rfl) ?_
    obtain ⟨_, e12, hf⟩ := obd hf
    obtain ⟨rfl, rfl⟩ := oc2 hf
    exact a_creturn dJ0_charAt_5068e_15 rfl (bck_s e12)
def fJ0_coder_7d493 (a0 : Nat) (h : hp) : Option (Int32 × hp) :=
  (gsK a0).bind fun v1 =>
  (zck v1).bind fun _ =>
  some (v1, h)
set_option maxHeartbeats 4000000 in
set_option maxRecDepth 100000 in
theorem sJ0_coder_7d493 (E : gE) (D : Nat) (hD : 0 ≤ D) {a0 : Nat} {h hz : hp} {v0 : Int32} (hf : fJ0_coder_7d493 a0 h = some (v0, hz)) : MC E yJ0_coder_7d493 cJ0_coder_7d493 (Option.some Jvm.ClassFile.FieldType.byte) 1 D [.ref a0] h (some (.int v0)) hz := by
  refine MC.of (by decide +kernel) (Nat.le_of_ble_eq_true rfl) rfl ?_
  unfold fJ0_coder_7d493 at hf
  show AW E yJ0_coder_7d493 cJ0_coder_7d493 (Option.some Jvm.ClassFile.FieldType.byte) 1 D (some (.int v0)) h hz 0 [(0, .ref a0)] [] h
  refine o_gzI (v := 1) dJ0_coder_7d493_0 wd_646 (fun _ _ z => z.2.2.2.2.2.2.2.1) ?_
  refine a_if_eq (tgt := 13) dJ0_coder_7d493_3 (by decide) (fun c => ?_) (fun c => ?_)
  · exact absurd c (by decide)
  · refine a_aload_n (q := 0) dJ0_coder_7d493_6 rfl rfl ?_
    obtain ⟨v1, e2, hf⟩ := obd hf
    refine o_gsK dJ0_coder_7d493_7 (Or.inl wd_1845) e2 ?_
    refine a_goto (tgt := 14) dJ0_coder_7d493_10 (by decide) ?_
    obtain ⟨_, e3, hf⟩ := obd hf
    obtain ⟨rfl, rfl⟩ := oc2 hf
    exact a_breturn dJ0_coder_7d493_14 rfl (zck_s e3)
def fJ0_length_8abf5 (a0 : Nat) (h : hp) : Option (Int32 × hp) :=
  (gsV a0).bind fun v1 =>
  (lnB v1).bind fun v3 =>
  (ckS a0).bind fun _ =>
  bd2 (fJ0_coder_7d493 a0 h) fun v6 h7 =>
  some ((v3 >>> (v6 &&& 31)), h7)
set_option maxHeartbeats 4000000 in
set_option maxRecDepth 100000 in
theorem sJ0_length_8abf5 (E : gE) (D : Nat) (hD : 1 ≤ D) {a0 : Nat} {h hz : hp} {v0 : Int32} (hf : fJ0_length_8abf5 a0 h = some (v0, hz)) : MC E yJ0_length_8abf5 cJ0_length_8abf5 (Option.some Jvm.ClassFile.FieldType.int) 1 D [.ref a0] h (some (.int v0)) hz := by
  refine MC.of (by decide +kernel) (Nat.le_of_ble_eq_true rfl) rfl ?_
  unfold fJ0_length_8abf5 at hf
  show AW E yJ0_length_8abf5 cJ0_length_8abf5 (Option.some Jvm.ClassFile.FieldType.int) 1 D (some (.int v0)) h hz 0 [(0, .ref a0)] [] h
  refine a_aload_n (q := 0) dJ0_length_8abf5_0 rfl rfl ?_
  obtain ⟨v1, e2, hf⟩ := obd hf
  refine o_gsV dJ0_length_8abf5_1 (Or.inl wd_1844) e2 ?_
  obtain ⟨v3, e4, hf⟩ := obd hf
  refine o_lnB dJ0_length_8abf5_4 e4 ?_
  refine a_aload_n (q := 0) dJ0_length_8abf5_5 rfl rfl ?_
  obtain ⟨_, e8, hf⟩ := obd hf
  obtain ⟨v6, h7, e5, hf⟩ := ob2 hf
  refine a_callVg (as := []) (np := 0) (C0 := "java/lang/String") (st := [.int v3]) (sJ0_coder_7d493 E (D - 1) (by omega) e5) dJ0_length_8abf5_6 rfl (by omega) (by decide) cw_J0_335 ⟨wd_643, wd_644⟩ (g_rvS e8) rfl (Nat.le_of_ble_eq_true rfl) ?_
  refine a_ishr dJ0_length_8abf5_9 ?_
  obtain ⟨rfl, rfl⟩ := oc2 hf
  exact a_ireturn dJ0_length_8abf5_10 rfl
def fX3_stands_l31 : Nat → Nat → Nat → Int32 → Int32 → Int32 → hp → Option (Nat × hp)
  | 0, _, _, _, _, _, _ => none
  | n + 1, x0, x1, x2, x3, x4, h =>
    if x3 ≤ x4 then (
      some (1, h)
    ) else (
      (gsW x0).bind fun v1 =>
      (ckS v1).bind fun _ =>
      bd2 (fJ0_length_8abf5 v1 h) fun v4 h5 =>
      if v4 ≤ x4 then (
        some (1, h5)
      ) else (
        (gfR h5 x1 4 0).bind fun v7 =>
        (alI h5 v7 (x2 + x4)).bind fun v9 =>
        (gsW x0).bind fun v11 =>
        (ckS v11).bind fun _ =>
        bd2 (fJ0_charAt_5068e v11 x4 h5) fun v14 h15 =>
        if v9 = v14 then (
          fX3_stands_l31 n x0 x1 x2 x3 (x4 + 1) h15
        ) else (
          some (0, h15)
        )
      )
    )
def fX3_stands (a0 : Nat) (a1 : Nat) (a2 : Int32) (a3 : Int32) (h : hp) : Option (Int32 × hp) :=
  (gsW a0).bind fun v1 =>
  (ckS v1).bind fun _ =>
  bd2 (fJ0_length_8abf5 v1 h) fun v4 h5 =>
  if v4 = a3 then (
    if a2 < 0 then (
      some (0, h5)
    ) else (
      (gfR h5 a1 4 0).bind fun v7 =>
      (aln 0 h5 v7).bind fun v9 =>
      if a2 ≤ (v9 - a3) then (
        bd2 (fX3_stands_l31 FU a0 a1 a2 a3 0 h5) fun t13 h12 =>
        if t13 = 0 then (
          some (0, h12)
        ) else
        if t13 = 1 then (
          some (1, h12)
        ) else none
      ) else (
        some (0, h5)
      )
    )
  ) else (
    some (0, h5)
  )
set_option maxHeartbeats 4000000 in
set_option maxRecDepth 100000 in
theorem sX3_stands_l31 (E : gE) (D : Nat) (hD : 5 ≤ D) {rz : Option Value} {h0 hz : hp} : ∀ (n : Nat) (x0 : Nat) (x1 : Nat) (x2 : Int32) (x3 : Int32) (x4 : Int32) (h : hp) (tq : Nat) (hq : hp), fX3_stands_l31 n x0 x1 x2 x3 x4 h = some (tq, hq) → (tq = 0 → AW E yX3_stands cX3_stands (Option.some Jvm.ClassFile.FieldType.boolean) 5 D rz h0 hz 70 [] [] hq) → (tq = 1 → AW E yX3_stands cX3_stands (Option.some Jvm.ClassFile.FieldType.boolean) 5 D rz h0 hz 78 [] [] hq) → AW E yX3_stands cX3_stands (Option.some Jvm.ClassFile.FieldType.boolean) 5 D rz h0 hz 31 [(0, .ref x0), (1, .ref x1), (2, .int x2), (3, .int x3), (4, .int x4)] [] h := by
  intro n
  induction n with
  | zero =>
    intro x0 x1 x2 x3 x4 h tq hq hf _ _
    rw [fX3_stands_l31] at hf
    cases hf
  | succ n ih =>
    intro x0 x1 x2 x3 x4 h tq hq hf hk0 hk1
    rw [fX3_stands_l31] at hf
    refine a_iload (q := 4) dX3_stands_31 rfl ?_
    refine a_iload_n (q := 3) dX3_stands_33 rfl rfl ?_
    refine a_icmp_ge (tgt := 78) dX3_stands_34 (by decide) (fun c => ?_) (fun c => ?_)
    · have hf := ifp c hf
      obtain ⟨rfl, rfl⟩ := oc2 hf
      exact AW.sub [] rfl (hk1 rfl)
    · have hf := ifn c hf
      refine a_iload (q := 4) dX3_stands_37 rfl ?_
      refine a_aload_n (q := 0) dX3_stands_39 rfl rfl ?_
      obtain ⟨v1, e2, hf⟩ := obd hf
      refine o_gsW dX3_stands_40 (Or.inl wd_1843) e2 ?_
      obtain ⟨_, e6, hf⟩ := obd hf
      obtain ⟨v4, h5, e3, hf⟩ := ob2 hf
      refine a_callVg (as := []) (np := 0) (C0 := "java/lang/String") (st := [.int x4]) (sJ0_length_8abf5 E (D - 1) (by omega) e3) dX3_stands_43 rfl (by omega) (by decide) cw_X3_85 ⟨wd_639, wd_640⟩ (g_rvS e6) rfl (Nat.le_of_ble_eq_true rfl) ?_
      refine a_icmp_ge (tgt := 78) dX3_stands_46 (by decide) (fun c => ?_) (fun c => ?_)
      · have hf := ifp c hf
        obtain ⟨rfl, rfl⟩ := oc2 hf
        exact AW.sub [] rfl (hk1 rfl)
      · have hf := ifn c hf
        refine a_aload_n (q := 1) dX3_stands_49 rfl rfl ?_
        obtain ⟨v7, e8, hf⟩ := obd hf
        refine o_gfR dX3_stands_50 lk_X3_91 rfl e8 ?_
        refine a_iload_n (q := 2) dX3_stands_53 rfl rfl ?_
        refine a_iload (q := 4) dX3_stands_54 rfl ?_
        refine a_iadd dX3_stands_56 ?_
        obtain ⟨v9, e10, hf⟩ := obd hf
        refine o_alI dX3_stands_57 e10 ?_
        refine a_aload_n (q := 0) dX3_stands_58 rfl rfl ?_
        obtain ⟨v11, e12, hf⟩ := obd hf
        refine o_gsW dX3_stands_59 (Or.inl wd_1843) e12 ?_
        refine a_iload (q := 4) dX3_stands_62 rfl ?_
        obtain ⟨_, e16, hf⟩ := obd hf
        obtain ⟨v14, h15, e13, hf⟩ := ob2 hf
        refine a_callVg (as := [.int x4]) (np := 1) (C0 := "java/lang/String") (st := [.int v9]) (sJ0_charAt_5068e E (D - 1) (by omega) e13) dX3_stands_64 rfl (by omega) (by decide) cw_X3_97 ⟨wd_649, wd_650⟩ (g_rvS e16) rfl (Nat.le_of_ble_eq_true rfl) ?_
        refine a_icmp_eq (tgt := 72) dX3_stands_67 (by decide) (fun c => ?_) (fun c => ?_)
        · have hf := ifp c hf
          refine a_iinc (q := 4) (v := (x4 + 1)) (lv1 := [(4, .int (x4 + 1)), (0, .ref x0), (1, .ref x1), (2, .int x2), (3, .int x3)]) dX3_stands_72 rfl (by rfl) (by decide) rfl ?_
          refine a_goto (tgt := 31) dX3_stands_75 (by decide) ?_
          exact AW.sub [1, 2, 3, 4, 0] rfl (ih _ _ _ _ _ _ _ _ hf hk0 hk1)
        · have hf := ifn c hf
          obtain ⟨rfl, rfl⟩ := oc2 hf
          exact AW.sub [] rfl (hk0 rfl)
set_option maxHeartbeats 4000000 in
set_option maxRecDepth 100000 in
theorem sX3_stands (E : gE) (D : Nat) (hD : 5 ≤ D) {a0 : Nat} {a1 : Nat} {a2 : Int32} {a3 : Int32} {h hz : hp} {v0 : Int32} (hf : fX3_stands a0 a1 a2 a3 h = some (v0, hz)) : MC E yX3_stands cX3_stands (Option.some Jvm.ClassFile.FieldType.boolean) 5 D [.ref a0, .ref a1, .int a2, .int a3] h (some (.int v0)) hz := by
  refine MC.of (by decide +kernel) (Nat.le_of_ble_eq_true rfl) rfl ?_
  unfold fX3_stands at hf
  show AW E yX3_stands cX3_stands (Option.some Jvm.ClassFile.FieldType.boolean) 5 D (some (.int v0)) h hz 0 [(0, .ref a0), (1, .ref a1), (2, .int a2), (3, .int a3)] [] h
  refine a_aload_n (q := 0) dX3_stands_0 rfl rfl ?_
  obtain ⟨v1, e2, hf⟩ := obd hf
  refine o_gsW dX3_stands_1 (Or.inl wd_1843) e2 ?_
  obtain ⟨_, e6, hf⟩ := obd hf
  obtain ⟨v4, h5, e3, hf⟩ := ob2 hf
  refine a_callVg (as := []) (np := 0) (C0 := "java/lang/String") (st := []) (sJ0_length_8abf5 E (D - 1) (by omega) e3) dX3_stands_4 rfl (by omega) (by decide) cw_X3_85 ⟨wd_639, wd_640⟩ (g_rvS e6) rfl (Nat.le_of_ble_eq_true rfl) ?_
  refine a_iload_n (q := 3) dX3_stands_7 rfl rfl ?_
  refine a_icmp_ne (tgt := 26) dX3_stands_8 (by decide) (fun c => ?_) (fun c => ?_)
  · have hf := ifn c hf
    refine a_iconst (v := 0) dX3_stands_26 (by decide) ?_
    obtain ⟨rfl, rfl⟩ := oc2 hf
    exact a_zreturn dX3_stands_27 rfl (by decide)
  · have hf := ifp c hf
    refine a_iload_n (q := 2) dX3_stands_11 rfl rfl ?_
    refine a_if_lt (tgt := 26) dX3_stands_12 (by decide) (fun c => ?_) (fun c => ?_)
    · have hf := ifp c hf
      refine a_iconst (v := 0) dX3_stands_26 (by decide) ?_
      obtain ⟨rfl, rfl⟩ := oc2 hf
      exact a_zreturn dX3_stands_27 rfl (by decide)
    · have hf := ifn c hf
      refine a_iload_n (q := 2) dX3_stands_15 rfl rfl ?_
      refine a_aload_n (q := 1) dX3_stands_16 rfl rfl ?_
      obtain ⟨v7, e8, hf⟩ := obd hf
      refine o_gfR dX3_stands_17 lk_X3_91 rfl e8 ?_
      obtain ⟨v9, e10, hf⟩ := obd hf
      refine o_aln dX3_stands_20 (by decide) e10 ?_
      refine a_iload_n (q := 3) dX3_stands_21 rfl rfl ?_
      refine a_isub dX3_stands_22 ?_
      refine a_icmp_le (tgt := 28) dX3_stands_23 (by decide) (fun c => ?_) (fun c => ?_)
      · have hf := ifp c hf
        refine a_iconst (v := 0) dX3_stands_28 (by decide) ?_
        refine a_istore (lv1 := [(4, .int 0), (0, .ref a0), (1, .ref a1), (2, .int a2), (3, .int a3)]) dX3_stands_29 (by decide) rfl ?_
        obtain ⟨t13, h12, e11, hf⟩ := ob2 hf
        refine AW.sub [1, 2, 3, 4, 0] rfl (sX3_stands_l31 E D hD _ _ _ _ _ _ _ _ _ e11 (fun c => ?_) (fun c => ?_))
        · have hf := ifp c hf
          refine a_iconst (v := 0) dX3_stands_70 (by decide) ?_
          obtain ⟨rfl, rfl⟩ := oc2 hf
          exact a_zreturn dX3_stands_71 rfl (by decide)
        · have hf := ifn (by rw [c]; decide) hf
          have hf := ifp c hf
          refine a_iconst (v := 1) dX3_stands_78 (by decide) ?_
          obtain ⟨rfl, rfl⟩ := oc2 hf
          exact a_zreturn dX3_stands_79 rfl (by decide)
      · have hf := ifn c hf
        refine a_iconst (v := 0) dX3_stands_26 (by decide) ?_
        obtain ⟨rfl, rfl⟩ := oc2 hf
        exact a_zreturn dX3_stands_27 rfl (by decide)
def fX3_called_l2 : Nat → Nat → Int32 → Int32 → Int32 → hp → Option (Nat × Int32 × hp)
  | 0, _, _, _, _, _ => none
  | n + 1, x0, x1, x2, x3, h =>
    (lnA 19).bind fun v1 =>
    if v1 ≤ x3 then (
      some (1, x3, h)
    ) else (
      (alA 19 x3).bind fun v3 =>
      (ckE v3).bind fun _ =>
      bd2 (fX3_stands v3 x0 x1 x2 h) fun v6 h7 =>
      if v6 = 0 then (
        fX3_called_l2 n x0 x1 x2 (x3 + 1) h7
      ) else (
        some (0, x3, h7)
      )
    )
def fX3_called (a0 : Nat) (a1 : Int32) (a2 : Int32) (h : hp) : Option (Nat × hp) :=
  bd3 (fX3_called_l2 FU a0 a1 a2 0 h) fun t4 v3 h2 =>
  if t4 = 0 then (
    (alA 19 v3).bind fun v5 =>
    some (v5, h2)
  ) else
  if t4 = 1 then (
    some (0, h2)
  ) else none
set_option maxHeartbeats 4000000 in
set_option maxRecDepth 100000 in
theorem sX3_called_l2 (E : gE) (D : Nat) (hD : 6 ≤ D) {rz : Option Value} {h0 hz : hp} : ∀ (n : Nat) (x0 : Nat) (x1 : Int32) (x2 : Int32) (x3 : Int32) (h : hp) (tq : Nat) (m3 : Int32) (hq : hp), fX3_called_l2 n x0 x1 x2 x3 h = some (tq, m3, hq) → (tq = 0 → AW E yX3_called cX3_called (Option.some (Jvm.ClassFile.FieldType.object "TemplatePress$Filter")) 4 D rz h0 hz 24 [(3, .int m3)] [] hq) → (tq = 1 → AW E yX3_called cX3_called (Option.some (Jvm.ClassFile.FieldType.object "TemplatePress$Filter")) 4 D rz h0 hz 36 [] [] hq) → AW E yX3_called cX3_called (Option.some (Jvm.ClassFile.FieldType.object "TemplatePress$Filter")) 4 D rz h0 hz 2 [(0, .ref x0), (1, .int x1), (2, .int x2), (3, .int x3)] [] h := by
  intro n
  induction n with
  | zero =>
    intro x0 x1 x2 x3 h tq m3 hq hf _ _
    rw [fX3_called_l2] at hf
    cases hf
  | succ n ih =>
    intro x0 x1 x2 x3 h tq m3 hq hf hk0 hk1
    rw [fX3_called_l2] at hf
    refine a_iload_n (q := 3) dX3_called_2 rfl rfl ?_
    refine o_gz (id := 19) dX3_called_3 wd_631 (by decide) (by decide) (fun _ _ z => z.2.2.1) ?_
    obtain ⟨v1, e2, hf⟩ := obd hf
    refine o_lnA dX3_called_6 e2 ?_
    refine a_icmp_ge (tgt := 36) dX3_called_7 (by decide) (fun c => ?_) (fun c => ?_)
    · have hf := ifp c hf
      obtain ⟨rfl, rfl, rfl⟩ := oc3 hf
      exact AW.sub [] rfl (hk1 rfl)
    · have hf := ifn c hf
      refine o_gz (id := 19) dX3_called_10 wd_631 (by decide) (by decide) (fun _ _ z => z.2.2.1) ?_
      refine a_iload_n (q := 3) dX3_called_13 rfl rfl ?_
      obtain ⟨v3, e4, hf⟩ := obd hf
      refine o_alA dX3_called_14 e4 ?_
      refine a_aload_n (q := 0) dX3_called_15 rfl rfl ?_
      refine a_iload_n (q := 1) dX3_called_16 rfl rfl ?_
      refine a_iload_n (q := 2) dX3_called_17 rfl rfl ?_
      obtain ⟨_, e8, hf⟩ := obd hf
      obtain ⟨v6, h7, e5, hf⟩ := ob2 hf
      refine a_callVg (as := [.ref x0, .int x1, .int x2]) (np := 3) (C0 := "TemplatePress$Filter") (st := []) (sX3_stands E (D - 1) (by omega) e5) dX3_called_18 rfl (by omega) (by decide) cw_X3_104 ⟨wd_635, ws_20⟩ (g_rvE e8) rfl (Nat.le_of_ble_eq_true rfl) ?_
      refine a_if_eq (tgt := 30) dX3_called_21 (by decide) (fun c => ?_) (fun c => ?_)
      · have hf := ifp c hf
        refine a_iinc (q := 3) (v := (x3 + 1)) (lv1 := [(3, .int (x3 + 1)), (0, .ref x0), (1, .int x1), (2, .int x2)]) dX3_called_30 rfl (by rfl) (by decide) rfl ?_
        refine a_goto (tgt := 2) dX3_called_33 (by decide) ?_
        exact AW.sub [1, 2, 3, 0] rfl (ih _ _ _ _ _ _ _ _ hf hk0 hk1)
      · have hf := ifn c hf
        obtain ⟨rfl, rfl, rfl⟩ := oc3 hf
        exact AW.sub [3] rfl (hk0 rfl)
set_option maxHeartbeats 4000000 in
set_option maxRecDepth 100000 in
theorem sX3_called (E : gE) (D : Nat) (hD : 6 ≤ D) {a0 : Nat} {a1 : Int32} {a2 : Int32} {h hz : hp} {v0 : Nat} (hf : fX3_called a0 a1 a2 h = some (v0, hz)) : MC E yX3_called cX3_called (Option.some (Jvm.ClassFile.FieldType.object "TemplatePress$Filter")) 4 D [.ref a0, .int a1, .int a2] h (some (.ref v0)) hz := by
  refine MC.of (by decide +kernel) (Nat.le_of_ble_eq_true rfl) rfl ?_
  unfold fX3_called at hf
  show AW E yX3_called cX3_called (Option.some (Jvm.ClassFile.FieldType.object "TemplatePress$Filter")) 4 D (some (.ref v0)) h hz 0 [(0, .ref a0), (1, .int a1), (2, .int a2)] [] h
  refine a_iconst (v := 0) dX3_called_0 (by decide) ?_
  refine a_istore_n (lv1 := [(3, .int 0), (0, .ref a0), (1, .int a1), (2, .int a2)]) dX3_called_1 rfl (by decide) rfl ?_
  obtain ⟨t4, v3, h2, e1, hf⟩ := ob3 hf
  refine AW.sub [1, 2, 3, 0] rfl (sX3_called_l2 E D hD _ _ _ _ _ _ _ _ _ e1 (fun c => ?_) (fun c => ?_))
  · have hf := ifp c hf
    refine o_gz (id := 19) dX3_called_24 wd_631 (by decide) (by decide) (fun _ _ z => z.2.2.1) ?_
    refine a_iload_n (q := 0) dX3_called_27 rfl rfl ?_
    obtain ⟨v5, e6, hf⟩ := obd hf
    refine o_alA dX3_called_28 e6 ?_
    obtain ⟨rfl, rfl⟩ := oc2 hf
    exact a_areturn dX3_called_29 rfl (Or.inl ⟨_, rfl⟩)
  · have hf := ifn (by rw [c]; decide) hf
    have hf := ifp c hf
    refine a_null dX3_called_36 ?_
    obtain ⟨rfl, rfl⟩ := oc2 hf
    exact a_areturn dX3_called_37 rfl (Or.inl ⟨_, rfl⟩)
def fX4_init (a0 : Nat) (a1 : Nat) (h : hp) : Option hp :=
  (ckT h a0 3).bind fun _ =>
  (pfR h a0 3 0 a1).bind fun h2 =>
  some h2
set_option maxHeartbeats 4000000 in
set_option maxRecDepth 100000 in
theorem sX4_init (E : gE) (D : Nat) (hD : 1 ≤ D) {a0 : Nat} {a1 : Nat} {h hz : hp} (hf : fX4_init a0 a1 h = some hz) : MC E yX4_init cX4_init (Option.none : Option Jvm.ClassFile.FieldType) 2 D [.ref a0, .ref a1] h none hz := by
  refine MC.of (by decide +kernel) (Nat.le_of_ble_eq_true rfl) rfl ?_
  unfold fX4_init at hf
  show AW E yX4_init cX4_init (Option.none : Option Jvm.ClassFile.FieldType) 2 D none h hz 0 [(0, .ref a0), (1, .ref a1)] [] h
  refine a_aload_n (q := 0) dX4_init_0 rfl rfl ?_
  obtain ⟨_, e1, hf⟩ := obd hf
  refine o_objI dX4_init_1 (by omega) wd_691 wd_32 wd_33 (by decide) (ckT_s e1) (Nat.le_of_ble_eq_true rfl) ?_
  refine a_aload_n (q := 0) dX4_init_4 rfl rfl ?_
  refine a_aload_n (q := 1) dX4_init_5 rfl rfl ?_
  obtain ⟨h2, e3, hf⟩ := obd hf
  refine o_pfR dX4_init_6 lk_X4_7 (⟨_, rfl, Or.inr ⟨rfl, rfl, rfl, wd_692⟩⟩) rfl e3 ?_
  obtain rfl := Option.some.inj hf
  exact a_return dX4_init_9 rfl
def fX5_init (a0 : Nat) (a1 : Int32) (h : hp) : Option hp :=
  (ckT h a0 4).bind fun _ =>
  jn (fun (s14_0 : Int32) (h14j : hp) => (
    bd2 (nwA h14j 0 s14_0) fun v2 h3 =>
    (pfR h3 a0 4 0 v2).bind fun h5 =>
    some h5
    : Option hp)) fun k14 =>
  if a1 ≤ 0 then (
    k14 0 h
  ) else (
    k14 a1 h
  )
set_option maxHeartbeats 4000000 in
set_option maxRecDepth 100000 in
theorem sX5_init (E : gE) (D : Nat) (hD : 1 ≤ D) {a0 : Nat} {a1 : Int32} {h hz : hp} (hf : fX5_init a0 a1 h = some hz) : MC E yX5_init cX5_init (Option.none : Option Jvm.ClassFile.FieldType) 2 D [.ref a0, .int a1] h none hz := by
  refine MC.of (by decide +kernel) (Nat.le_of_ble_eq_true rfl) rfl ?_
  unfold fX5_init at hf
  show AW E yX5_init cX5_init (Option.none : Option Jvm.ClassFile.FieldType) 2 D none h hz 0 [(0, .ref a0), (1, .int a1)] [] h
  refine a_aload_n (q := 0) dX5_init_0 rfl rfl ?_
  obtain ⟨_, e1, hf⟩ := obd hf
  refine o_objI dX5_init_1 (by omega) wd_49 wd_32 wd_33 (by decide) (ckT_s e1) (Nat.le_of_ble_eq_true rfl) ?_
  refine a_aload_n (q := 0) dX5_init_4 rfl rfl ?_
  refine a_iload_n (q := 1) dX5_init_5 rfl rfl ?_
  obtain ⟨k14, ek14, hf⟩ := jn_s hf
  have hj14 : ∀ (s14_0 : Int32) (h14j : hp), k14 s14_0 h14j = some hz → AW E yX5_init cX5_init (Option.none : Option Jvm.ClassFile.FieldType) 2 D none h hz 14 [] [.int s14_0, .ref a0] h14j := by
    intro s14_0 h14j hf
    rw [ek14] at hf
    clear ek14
    obtain ⟨v2, h3, e4, hf⟩ := ob2 hf
    refine o_nwI dX5_init_14 wd_63 e4 ?_
    obtain ⟨h5, e6, hf⟩ := obd hf
    refine o_pfR dX5_init_16 lk_X5_9 (⟨_, rfl, Or.inr ⟨rfl, rfl, rfl, wd_50⟩⟩) rfl e6 ?_
    obtain rfl := Option.some.inj hf
    exact a_return dX5_init_19 rfl
  clear ek14
  refine a_if_le (tgt := 13) dX5_init_6 (by decide) (fun c => ?_) (fun c => ?_)
  · have hf := ifp c hf
    refine a_iconst (v := 0) dX5_init_13 (by decide) ?_
    exact AW.sub [] rfl (hj14 _ _ hf)
  · have hf := ifn c hf
    refine a_iload_n (q := 1) dX5_init_9 rfl rfl ?_
    refine a_goto (tgt := 14) dX5_init_10 (by decide) ?_
    exact AW.sub [] rfl (hj14 _ _ hf)
def fX5_empty (a0 : Nat) (h : hp) : Option hp :=
  (pfI h a0 4 1 0).bind fun h1 =>
  some h1
set_option maxHeartbeats 4000000 in
set_option maxRecDepth 100000 in
theorem sX5_empty (E : gE) (D : Nat) (hD : 0 ≤ D) {a0 : Nat} {h hz : hp} (hf : fX5_empty a0 h = some hz) : MC E yX5_empty cX5_empty (Option.none : Option Jvm.ClassFile.FieldType) 1 D [.ref a0] h none hz := by
  refine MC.of (by decide +kernel) (Nat.le_of_ble_eq_true rfl) rfl ?_
  unfold fX5_empty at hf
  show AW E yX5_empty cX5_empty (Option.none : Option Jvm.ClassFile.FieldType) 1 D none h hz 0 [(0, .ref a0)] [] h
  refine a_aload_n (q := 0) dX5_empty_0 rfl rfl ?_
  refine a_iconst (v := 0) dX5_empty_1 (by decide) ?_
  obtain ⟨h1, e2, hf⟩ := obd hf
  refine o_pfI dX5_empty_2 lk_X5_15 (⟨_, rfl, Or.inl rfl⟩) rfl e2 ?_
  obtain rfl := Option.some.inj hf
  exact a_return dX5_empty_5 rfl
def fX5_add (a0 : Nat) (a1 : Int32) (h : hp) : Option (Int32 × hp) :=
  (gfI h a0 4 1).bind fun v1 =>
  if v1 < 0 then (
    some (0, h)
  ) else (
    (gfI h a0 4 1).bind fun v3 =>
    (gfR h a0 4 0).bind fun v5 =>
    (aln 0 h v5).bind fun v7 =>
    if v3 < v7 then (
      (gfR h a0 4 0).bind fun v9 =>
      (gfI h a0 4 1).bind fun v11 =>
      (asI h v9 v11 a1).bind fun h13 =>
      (gfI h13 a0 4 1).bind fun v15 =>
      (pfI h13 a0 4 1 (v15 + 1)).bind fun h17 =>
      some (1, h17)
    ) else (
      some (0, h)
    )
  )
set_option maxHeartbeats 4000000 in
set_option maxRecDepth 100000 in
theorem sX5_add (E : gE) (D : Nat) (hD : 0 ≤ D) {a0 : Nat} {a1 : Int32} {h hz : hp} {v0 : Int32} (hf : fX5_add a0 a1 h = some (v0, hz)) : MC E yX5_add cX5_add (Option.some Jvm.ClassFile.FieldType.boolean) 2 D [.ref a0, .int a1] h (some (.int v0)) hz := by
  refine MC.of (by decide +kernel) (Nat.le_of_ble_eq_true rfl) rfl ?_
  unfold fX5_add at hf
  show AW E yX5_add cX5_add (Option.some Jvm.ClassFile.FieldType.boolean) 2 D (some (.int v0)) h hz 0 [(0, .ref a0), (1, .int a1)] [] h
  refine a_aload_n (q := 0) dX5_add_0 rfl rfl ?_
  obtain ⟨v1, e2, hf⟩ := obd hf
  refine o_gfI dX5_add_1 lk_X5_15 rfl e2 ?_
  refine a_if_lt (tgt := 19) dX5_add_4 (by decide) (fun c => ?_) (fun c => ?_)
  · have hf := ifp c hf
    refine a_iconst (v := 0) dX5_add_19 (by decide) ?_
    obtain ⟨rfl, rfl⟩ := oc2 hf
    exact a_zreturn dX5_add_20 rfl (by decide)
  · have hf := ifn c hf
    refine a_aload_n (q := 0) dX5_add_7 rfl rfl ?_
    obtain ⟨v3, e4, hf⟩ := obd hf
    refine o_gfI dX5_add_8 lk_X5_15 rfl e4 ?_
    refine a_aload_n (q := 0) dX5_add_11 rfl rfl ?_
    obtain ⟨v5, e6, hf⟩ := obd hf
    refine o_gfR dX5_add_12 lk_X5_9 rfl e6 ?_
    obtain ⟨v7, e8, hf⟩ := obd hf
    refine o_aln dX5_add_15 (by decide) e8 ?_
    refine a_icmp_lt (tgt := 21) dX5_add_16 (by decide) (fun c => ?_) (fun c => ?_)
    · have hf := ifp c hf
      refine a_aload_n (q := 0) dX5_add_21 rfl rfl ?_
      obtain ⟨v9, e10, hf⟩ := obd hf
      refine o_gfR dX5_add_22 lk_X5_9 rfl e10 ?_
      refine a_aload_n (q := 0) dX5_add_25 rfl rfl ?_
      obtain ⟨v11, e12, hf⟩ := obd hf
      refine o_gfI dX5_add_26 lk_X5_15 rfl e12 ?_
      refine a_iload_n (q := 1) dX5_add_29 rfl rfl ?_
      obtain ⟨h13, e14, hf⟩ := obd hf
      refine o_asI dX5_add_30 e14 ?_
      refine a_aload_n (q := 0) dX5_add_31 rfl rfl ?_
      refine a_aload_n (q := 0) dX5_add_32 rfl rfl ?_
      obtain ⟨v15, e16, hf⟩ := obd hf
      refine o_gfI dX5_add_33 lk_X5_15 rfl e16 ?_
      refine a_iconst (v := 1) dX5_add_36 (by decide) ?_
      refine a_iadd dX5_add_37 ?_
      obtain ⟨h17, e18, hf⟩ := obd hf
      refine o_pfI dX5_add_38 lk_X5_15 (⟨_, rfl, Or.inl rfl⟩) rfl e18 ?_
      refine a_iconst (v := 1) dX5_add_41 (by decide) ?_
      obtain ⟨rfl, rfl⟩ := oc2 hf
      exact a_zreturn dX5_add_42 rfl (by decide)
    · have hf := ifn c hf
      refine a_iconst (v := 0) dX5_add_19 (by decide) ?_
      obtain ⟨rfl, rfl⟩ := oc2 hf
      exact a_zreturn dX5_add_20 rfl (by decide)
def fX5_at (a0 : Nat) (a1 : Int32) (h : hp) : Option (Int32 × hp) :=
  if a1 < 0 then (
    some ((-1), h)
  ) else (
    (gfI h a0 4 1).bind fun v1 =>
    if v1 ≤ a1 then (
      some ((-1), h)
    ) else (
      (gfR h a0 4 0).bind fun v3 =>
      (aln 0 h v3).bind fun v5 =>
      if v5 ≤ a1 then (
        some ((-1), h)
      ) else (
        (gfR h a0 4 0).bind fun v7 =>
        (alI h v7 a1).bind fun v9 =>
        some (v9, h)
      )
    )
  )
set_option maxHeartbeats 4000000 in
set_option maxRecDepth 100000 in
theorem sX5_at (E : gE) (D : Nat) (hD : 0 ≤ D) {a0 : Nat} {a1 : Int32} {h hz : hp} {v0 : Int32} (hf : fX5_at a0 a1 h = some (v0, hz)) : MC E yX5_at cX5_at (Option.some Jvm.ClassFile.FieldType.int) 2 D [.ref a0, .int a1] h (some (.int v0)) hz := by
  refine MC.of (by decide +kernel) (Nat.le_of_ble_eq_true rfl) rfl ?_
  unfold fX5_at at hf
  show AW E yX5_at cX5_at (Option.some Jvm.ClassFile.FieldType.int) 2 D (some (.int v0)) h hz 0 [(0, .ref a0), (1, .int a1)] [] h
  refine a_iload_n (q := 1) dX5_at_0 rfl rfl ?_
  refine a_if_lt (tgt := 30) dX5_at_1 (by decide) (fun c => ?_) (fun c => ?_)
  · have hf := ifp c hf
    refine a_iconst (v := (-1)) dX5_at_30 (by decide) ?_
    obtain ⟨rfl, rfl⟩ := oc2 hf
    exact a_ireturn dX5_at_31 rfl
  · have hf := ifn c hf
    refine a_iload_n (q := 1) dX5_at_4 rfl rfl ?_
    refine a_aload_n (q := 0) dX5_at_5 rfl rfl ?_
    obtain ⟨v1, e2, hf⟩ := obd hf
    refine o_gfI dX5_at_6 lk_X5_15 rfl e2 ?_
    refine a_icmp_ge (tgt := 30) dX5_at_9 (by decide) (fun c => ?_) (fun c => ?_)
    · have hf := ifp c hf
      refine a_iconst (v := (-1)) dX5_at_30 (by decide) ?_
      obtain ⟨rfl, rfl⟩ := oc2 hf
      exact a_ireturn dX5_at_31 rfl
    · have hf := ifn c hf
      refine a_iload_n (q := 1) dX5_at_12 rfl rfl ?_
      refine a_aload_n (q := 0) dX5_at_13 rfl rfl ?_
      obtain ⟨v3, e4, hf⟩ := obd hf
      refine o_gfR dX5_at_14 lk_X5_9 rfl e4 ?_
      obtain ⟨v5, e6, hf⟩ := obd hf
      refine o_aln dX5_at_17 (by decide) e6 ?_
      refine a_icmp_ge (tgt := 30) dX5_at_18 (by decide) (fun c => ?_) (fun c => ?_)
      · have hf := ifp c hf
        refine a_iconst (v := (-1)) dX5_at_30 (by decide) ?_
        obtain ⟨rfl, rfl⟩ := oc2 hf
        exact a_ireturn dX5_at_31 rfl
      · have hf := ifn c hf
        refine a_aload_n (q := 0) dX5_at_21 rfl rfl ?_
        obtain ⟨v7, e8, hf⟩ := obd hf
        refine o_gfR dX5_at_22 lk_X5_9 rfl e8 ?_
        refine a_iload_n (q := 1) dX5_at_25 rfl rfl ?_
        obtain ⟨v9, e10, hf⟩ := obd hf
        refine o_alI dX5_at_26 e10 ?_
        refine a_goto (tgt := 31) dX5_at_27 (by decide) ?_
        obtain ⟨rfl, rfl⟩ := oc2 hf
        exact a_ireturn dX5_at_31 rfl
def fJ9_min_7cf53 (a0 : Int32) (a1 : Int32) (h : hp) : Option (Int32 × hp) :=
  if a1 < a0 then (
    some (a1, h)
  ) else (
    some (a0, h)
  )
set_option maxHeartbeats 4000000 in
set_option maxRecDepth 100000 in
theorem sJ9_min_7cf53 (E : gE) (D : Nat) (hD : 0 ≤ D) {a0 : Int32} {a1 : Int32} {h hz : hp} {v0 : Int32} (hf : fJ9_min_7cf53 a0 a1 h = some (v0, hz)) : MC E yJ9_min_7cf53 cJ9_min_7cf53 (Option.some Jvm.ClassFile.FieldType.int) 2 D [.int a0, .int a1] h (some (.int v0)) hz := by
  refine MC.of (by decide +kernel) (Nat.le_of_ble_eq_true rfl) rfl ?_
  unfold fJ9_min_7cf53 at hf
  show AW E yJ9_min_7cf53 cJ9_min_7cf53 (Option.some Jvm.ClassFile.FieldType.int) 2 D (some (.int v0)) h hz 0 [(0, .int a0), (1, .int a1)] [] h
  refine a_iload_n (q := 0) dJ9_min_7cf53_0 rfl rfl ?_
  refine a_iload_n (q := 1) dJ9_min_7cf53_1 rfl rfl ?_
  refine a_icmp_gt (tgt := 9) dJ9_min_7cf53_2 (by decide) (fun c => ?_) (fun c => ?_)
  · have hf := ifp c hf
    refine a_iload_n (q := 1) dJ9_min_7cf53_9 rfl rfl ?_
    obtain ⟨rfl, rfl⟩ := oc2 hf
    exact a_ireturn dJ9_min_7cf53_10 rfl
  · have hf := ifn c hf
    refine a_iload_n (q := 0) dJ9_min_7cf53_5 rfl rfl ?_
    refine a_goto (tgt := 10) dJ9_min_7cf53_6 (by decide) ?_
    obtain ⟨rfl, rfl⟩ := oc2 hf
    exact a_ireturn dJ9_min_7cf53_10 rfl
def fX5_copy (a0 : Nat) (a1 : Nat) (h : hp) : Option hp :=
  (gfI h a1 4 1).bind fun v1 =>
  (gfR h a0 4 0).bind fun v3 =>
  (aln 0 h v3).bind fun v5 =>
  bd2 (fJ9_min_7cf53 v1 v5 h) fun v8 h9 =>
  (gfR h9 a1 4 0).bind fun v10 =>
  (gfR h9 a0 4 0).bind fun v12 =>
  (cpI h9 v10 0 v12 0 v8).bind fun h14 =>
  (pfI h14 a0 4 1 v8).bind fun h16 =>
  some h16
set_option maxHeartbeats 4000000 in
set_option maxRecDepth 100000 in
theorem sX5_copy (E : gE) (D : Nat) (hD : 1 ≤ D) {a0 : Nat} {a1 : Nat} {h hz : hp} (hf : fX5_copy a0 a1 h = some hz) : MC E yX5_copy cX5_copy (Option.none : Option Jvm.ClassFile.FieldType) 3 D [.ref a0, .ref a1] h none hz := by
  refine MC.of (by decide +kernel) (Nat.le_of_ble_eq_true rfl) rfl ?_
  unfold fX5_copy at hf
  show AW E yX5_copy cX5_copy (Option.none : Option Jvm.ClassFile.FieldType) 3 D none h hz 0 [(0, .ref a0), (1, .ref a1)] [] h
  refine a_aload_n (q := 1) dX5_copy_0 rfl rfl ?_
  obtain ⟨v1, e2, hf⟩ := obd hf
  refine o_gfI dX5_copy_1 lk_X5_15 rfl e2 ?_
  refine a_aload_n (q := 0) dX5_copy_4 rfl rfl ?_
  obtain ⟨v3, e4, hf⟩ := obd hf
  refine o_gfR dX5_copy_5 lk_X5_9 rfl e4 ?_
  obtain ⟨v5, e6, hf⟩ := obd hf
  refine o_aln dX5_copy_8 (by decide) e6 ?_
  obtain ⟨v8, h9, e7, hf⟩ := ob2 hf
  refine a_callS (as := [.int v1, .int v5]) (np := 2) (st := []) (sJ9_min_7cf53 E (D - 1) (by omega) e7) dX5_copy_9 rfl (by omega) (by decide) cw_X5_19 wd_310 rfl (Nat.le_of_ble_eq_true rfl) ?_
  refine a_istore_n (lv1 := [(2, .int v8), (0, .ref a0), (1, .ref a1)]) dX5_copy_12 rfl (by decide) rfl ?_
  refine a_aload_n (q := 2) dX5_copy_13 rfl rfl ?_
  obtain ⟨v10, e11, hf⟩ := obd hf
  refine o_gfR dX5_copy_14 lk_X5_9 rfl e11 ?_
  refine a_iconst (v := 0) dX5_copy_17 (by decide) ?_
  refine a_aload_n (q := 1) dX5_copy_18 rfl rfl ?_
  obtain ⟨v12, e13, hf⟩ := obd hf
  refine o_gfR dX5_copy_19 lk_X5_9 rfl e13 ?_
  refine a_iconst (v := 0) dX5_copy_22 (by decide) ?_
  refine a_iload_n (q := 0) dX5_copy_23 rfl rfl ?_
  obtain ⟨h14, e15, hf⟩ := obd hf
  refine o_cpI dX5_copy_24 (by omega) wd_1004 wd_830 wd_829 wd_22 e15 (Nat.le_of_ble_eq_true rfl) ?_
  refine a_aload_n (q := 1) dX5_copy_27 rfl rfl ?_
  refine a_iload_n (q := 0) dX5_copy_28 rfl rfl ?_
  obtain ⟨h16, e17, hf⟩ := obd hf
  refine o_pfI dX5_copy_29 lk_X5_15 (⟨_, rfl, Or.inl rfl⟩) rfl e17 ?_
  obtain rfl := Option.some.inj hf
  exact a_return dX5_copy_32 rfl
def fX5_sum_l4 : Nat → Nat → Int32 → Int32 → hp → Option (Int32 × hp)
  | 0, _, _, _, _ => none
  | n + 1, x0, x1, x2, h =>
    (gfI h x0 4 1).bind fun v1 =>
    if v1 ≤ x2 then (
      some (x1, h)
    ) else (
      (gfR h x0 4 0).bind fun v3 =>
      (aln 0 h v3).bind fun v5 =>
      if v5 ≤ x2 then (
        some (x1, h)
      ) else (
        (gfR h x0 4 0).bind fun v7 =>
        (alI h v7 x2).bind fun v9 =>
        fX5_sum_l4 n x0 (x1 + v9) (x2 + 1) h
      )
    )
def fX5_sum (a0 : Nat) (h : hp) : Option (Int32 × hp) :=
  bd2 (fX5_sum_l4 FU a0 0 0 h) fun v3 h2 =>
  some (v3, h2)
set_option maxHeartbeats 4000000 in
set_option maxRecDepth 100000 in
theorem sX5_sum_l4 (E : gE) (D : Nat) (hD : 0 ≤ D) {rz : Option Value} {h0 hz : hp} : ∀ (n : Nat) (x0 : Nat) (x1 : Int32) (x2 : Int32) (h : hp) (m1 : Int32) (hq : hp), fX5_sum_l4 n x0 x1 x2 h = some (m1, hq) → (AW E yX5_sum cX5_sum (Option.some Jvm.ClassFile.FieldType.int) 3 D rz h0 hz 36 [(1, .int m1)] [] hq) → AW E yX5_sum cX5_sum (Option.some Jvm.ClassFile.FieldType.int) 3 D rz h0 hz 4 [(0, .ref x0), (1, .int x1), (2, .int x2)] [] h := by
  intro n
  induction n with
  | zero =>
    intro x0 x1 x2 h m1 hq hf _
    rw [fX5_sum_l4] at hf
    cases hf
  | succ n ih =>
    intro x0 x1 x2 h m1 hq hf hk0
    rw [fX5_sum_l4] at hf
    refine a_iload_n (q := 2) dX5_sum_4 rfl rfl ?_
    refine a_aload_n (q := 0) dX5_sum_5 rfl rfl ?_
    obtain ⟨v1, e2, hf⟩ := obd hf
    refine o_gfI dX5_sum_6 lk_X5_15 rfl e2 ?_
    refine a_icmp_ge (tgt := 36) dX5_sum_9 (by decide) (fun c => ?_) (fun c => ?_)
    · have hf := ifp c hf
      obtain ⟨rfl, rfl⟩ := oc2 hf
      exact AW.sub [1] rfl (hk0)
    · have hf := ifn c hf
      refine a_iload_n (q := 2) dX5_sum_12 rfl rfl ?_
      refine a_aload_n (q := 0) dX5_sum_13 rfl rfl ?_
      obtain ⟨v3, e4, hf⟩ := obd hf
      refine o_gfR dX5_sum_14 lk_X5_9 rfl e4 ?_
      obtain ⟨v5, e6, hf⟩ := obd hf
      refine o_aln dX5_sum_17 (by decide) e6 ?_
      refine a_icmp_ge (tgt := 36) dX5_sum_18 (by decide) (fun c => ?_) (fun c => ?_)
      · have hf := ifp c hf
        obtain ⟨rfl, rfl⟩ := oc2 hf
        exact AW.sub [1] rfl (hk0)
      · have hf := ifn c hf
        refine a_iload_n (q := 1) dX5_sum_21 rfl rfl ?_
        refine a_aload_n (q := 0) dX5_sum_22 rfl rfl ?_
        obtain ⟨v7, e8, hf⟩ := obd hf
        refine o_gfR dX5_sum_23 lk_X5_9 rfl e8 ?_
        refine a_iload_n (q := 2) dX5_sum_26 rfl rfl ?_
        obtain ⟨v9, e10, hf⟩ := obd hf
        refine o_alI dX5_sum_27 e10 ?_
        refine a_iadd dX5_sum_28 ?_
        refine a_istore_n (lv1 := [(1, .int (x1 + v9)), (0, .ref x0), (2, .int x2)]) dX5_sum_29 rfl (by decide) rfl ?_
        refine a_iinc (q := 2) (v := (x2 + 1)) (lv1 := [(2, .int (x2 + 1)), (1, .int (x1 + v9)), (0, .ref x0)]) dX5_sum_30 rfl (by rfl) (by decide) rfl ?_
        refine a_goto (tgt := 4) dX5_sum_33 (by decide) ?_
        exact AW.sub [2, 1, 0] rfl (ih _ _ _ _ _ _ hf hk0)
set_option maxHeartbeats 4000000 in
set_option maxRecDepth 100000 in
theorem sX5_sum (E : gE) (D : Nat) (hD : 0 ≤ D) {a0 : Nat} {h hz : hp} {v0 : Int32} (hf : fX5_sum a0 h = some (v0, hz)) : MC E yX5_sum cX5_sum (Option.some Jvm.ClassFile.FieldType.int) 3 D [.ref a0] h (some (.int v0)) hz := by
  refine MC.of (by decide +kernel) (Nat.le_of_ble_eq_true rfl) rfl ?_
  unfold fX5_sum at hf
  show AW E yX5_sum cX5_sum (Option.some Jvm.ClassFile.FieldType.int) 3 D (some (.int v0)) h hz 0 [(0, .ref a0)] [] h
  refine a_iconst (v := 0) dX5_sum_0 (by decide) ?_
  refine a_istore_n (lv1 := [(1, .int 0), (0, .ref a0)]) dX5_sum_1 rfl (by decide) rfl ?_
  refine a_iconst (v := 0) dX5_sum_2 (by decide) ?_
  refine a_istore_n (lv1 := [(2, .int 0), (1, .int 0), (0, .ref a0)]) dX5_sum_3 rfl (by decide) rfl ?_
  obtain ⟨v3, h2, e1, hf⟩ := ob2 hf
  refine AW.sub [2, 1, 0] rfl (sX5_sum_l4 E D hD _ _ _ _ _ _ _ e1 ?_)
  refine a_iload_n (q := 0) dX5_sum_36 rfl rfl ?_
  obtain ⟨rfl, rfl⟩ := oc2 hf
  exact a_ireturn dX5_sum_37 rfl
def fX5_count_l4 : Nat → Nat → Int32 → Int32 → Int32 → hp → Option (Int32 × hp)
  | 0, _, _, _, _, _ => none
  | n + 1, x0, x1, x2, x3, h =>
    (gfI h x0 4 1).bind fun v1 =>
    if v1 ≤ x3 then (
      some (x2, h)
    ) else (
      (gfR h x0 4 0).bind fun v3 =>
      (aln 0 h v3).bind fun v5 =>
      if v5 ≤ x3 then (
        some (x2, h)
      ) else (
        (gfR h x0 4 0).bind fun v7 =>
        (alI h v7 x3).bind fun v9 =>
        if v9 = x1 then (
          fX5_count_l4 n x0 x1 (x2 + 1) (x3 + 1) h
        ) else (
          fX5_count_l4 n x0 x1 x2 (x3 + 1) h
        )
      )
    )
def fX5_count (a0 : Nat) (a1 : Int32) (h : hp) : Option (Int32 × hp) :=
  bd2 (fX5_count_l4 FU a0 a1 0 0 h) fun v3 h2 =>
  some (v3, h2)
set_option maxHeartbeats 4000000 in
set_option maxRecDepth 100000 in
theorem sX5_count_l4 (E : gE) (D : Nat) (hD : 0 ≤ D) {rz : Option Value} {h0 hz : hp} : ∀ (n : Nat) (x0 : Nat) (x1 : Int32) (x2 : Int32) (x3 : Int32) (h : hp) (m2 : Int32) (hq : hp), fX5_count_l4 n x0 x1 x2 x3 h = some (m2, hq) → (AW E yX5_count cX5_count (Option.some Jvm.ClassFile.FieldType.int) 4 D rz h0 hz 41 [(2, .int m2)] [] hq) → AW E yX5_count cX5_count (Option.some Jvm.ClassFile.FieldType.int) 4 D rz h0 hz 4 [(0, .ref x0), (1, .int x1), (2, .int x2), (3, .int x3)] [] h := by
  intro n
  induction n with
  | zero =>
    intro x0 x1 x2 x3 h m2 hq hf _
    rw [fX5_count_l4] at hf
    cases hf
  | succ n ih =>
    intro x0 x1 x2 x3 h m2 hq hf hk0
    rw [fX5_count_l4] at hf
    refine a_iload_n (q := 3) dX5_count_4 rfl rfl ?_
    refine a_aload_n (q := 0) dX5_count_5 rfl rfl ?_
    obtain ⟨v1, e2, hf⟩ := obd hf
    refine o_gfI dX5_count_6 lk_X5_15 rfl e2 ?_
    refine a_icmp_ge (tgt := 41) dX5_count_9 (by decide) (fun c => ?_) (fun c => ?_)
    · have hf := ifp c hf
      obtain ⟨rfl, rfl⟩ := oc2 hf
      exact AW.sub [2] rfl (hk0)
    · have hf := ifn c hf
      refine a_iload_n (q := 3) dX5_count_12 rfl rfl ?_
      refine a_aload_n (q := 0) dX5_count_13 rfl rfl ?_
      obtain ⟨v3, e4, hf⟩ := obd hf
      refine o_gfR dX5_count_14 lk_X5_9 rfl e4 ?_
      obtain ⟨v5, e6, hf⟩ := obd hf
      refine o_aln dX5_count_17 (by decide) e6 ?_
      refine a_icmp_ge (tgt := 41) dX5_count_18 (by decide) (fun c => ?_) (fun c => ?_)
      · have hf := ifp c hf
        obtain ⟨rfl, rfl⟩ := oc2 hf
        exact AW.sub [2] rfl (hk0)
      · have hf := ifn c hf
        refine a_aload_n (q := 0) dX5_count_21 rfl rfl ?_
        obtain ⟨v7, e8, hf⟩ := obd hf
        refine o_gfR dX5_count_22 lk_X5_9 rfl e8 ?_
        refine a_iload_n (q := 3) dX5_count_25 rfl rfl ?_
        obtain ⟨v9, e10, hf⟩ := obd hf
        refine o_alI dX5_count_26 e10 ?_
        refine a_iload_n (q := 1) dX5_count_27 rfl rfl ?_
        refine a_icmp_ne (tgt := 35) dX5_count_28 (by decide) (fun c => ?_) (fun c => ?_)
        · have hf := ifn c hf
          refine a_iinc (q := 3) (v := (x3 + 1)) (lv1 := [(3, .int (x3 + 1)), (0, .ref x0), (1, .int x1), (2, .int x2)]) dX5_count_35 rfl (by rfl) (by decide) rfl ?_
          refine a_goto (tgt := 4) dX5_count_38 (by decide) ?_
          exact AW.sub [1, 2, 3, 0] rfl (ih _ _ _ _ _ _ _ hf hk0)
        · have hf := ifp c hf
          refine a_iload_n (q := 2) dX5_count_31 rfl rfl ?_
          refine a_iconst (v := 1) dX5_count_32 (by decide) ?_
          refine a_iadd dX5_count_33 ?_
          refine a_istore_n (lv1 := [(2, .int (x2 + 1)), (0, .ref x0), (1, .int x1), (3, .int x3)]) dX5_count_34 rfl (by decide) rfl ?_
          refine a_iinc (q := 3) (v := (x3 + 1)) (lv1 := [(3, .int (x3 + 1)), (2, .int (x2 + 1)), (0, .ref x0), (1, .int x1)]) dX5_count_35 rfl (by rfl) (by decide) rfl ?_
          refine a_goto (tgt := 4) dX5_count_38 (by decide) ?_
          exact AW.sub [2, 3, 1, 0] rfl (ih _ _ _ _ _ _ _ hf hk0)
set_option maxHeartbeats 4000000 in
set_option maxRecDepth 100000 in
theorem sX5_count (E : gE) (D : Nat) (hD : 0 ≤ D) {a0 : Nat} {a1 : Int32} {h hz : hp} {v0 : Int32} (hf : fX5_count a0 a1 h = some (v0, hz)) : MC E yX5_count cX5_count (Option.some Jvm.ClassFile.FieldType.int) 4 D [.ref a0, .int a1] h (some (.int v0)) hz := by
  refine MC.of (by decide +kernel) (Nat.le_of_ble_eq_true rfl) rfl ?_
  unfold fX5_count at hf
  show AW E yX5_count cX5_count (Option.some Jvm.ClassFile.FieldType.int) 4 D (some (.int v0)) h hz 0 [(0, .ref a0), (1, .int a1)] [] h
  refine a_iconst (v := 0) dX5_count_0 (by decide) ?_
  refine a_istore_n (lv1 := [(2, .int 0), (0, .ref a0), (1, .int a1)]) dX5_count_1 rfl (by decide) rfl ?_
  refine a_iconst (v := 0) dX5_count_2 (by decide) ?_
  refine a_istore_n (lv1 := [(3, .int 0), (2, .int 0), (0, .ref a0), (1, .int a1)]) dX5_count_3 rfl (by decide) rfl ?_
  obtain ⟨v3, h2, e1, hf⟩ := ob2 hf
  refine AW.sub [2, 3, 1, 0] rfl (sX5_count_l4 E D hD _ _ _ _ _ _ _ _ e1 ?_)
  refine a_iload_n (q := 0) dX5_count_41 rfl rfl ?_
  obtain ⟨rfl, rfl⟩ := oc2 hf
  exact a_ireturn dX5_count_42 rfl
def fX6_init (a0 : Nat) (a1 : Int32) (a2 : Int32) (h : hp) : Option hp :=
  (ckT h a0 5).bind fun _ =>
  (pfI h a0 5 0 a1).bind fun h2 =>
  (pfI h2 a0 5 1 a2).bind fun h4 =>
  some h4
set_option maxHeartbeats 4000000 in
set_option maxRecDepth 100000 in
theorem sX6_init (E : gE) (D : Nat) (hD : 1 ≤ D) {a0 : Nat} {a1 : Int32} {a2 : Int32} {h hz : hp} (hf : fX6_init a0 a1 a2 h = some hz) : MC E yX6_init cX6_init (Option.none : Option Jvm.ClassFile.FieldType) 3 D [.ref a0, .int a1, .int a2] h none hz := by
  refine MC.of (by decide +kernel) (Nat.le_of_ble_eq_true rfl) rfl ?_
  unfold fX6_init at hf
  show AW E yX6_init cX6_init (Option.none : Option Jvm.ClassFile.FieldType) 3 D none h hz 0 [(0, .ref a0), (1, .int a1), (2, .int a2)] [] h
  refine a_aload_n (q := 0) dX6_init_0 rfl rfl ?_
  obtain ⟨_, e1, hf⟩ := obd hf
  refine o_objI dX6_init_1 (by omega) wd_515 wd_32 wd_33 (by decide) (ckT_s e1) (Nat.le_of_ble_eq_true rfl) ?_
  refine a_aload_n (q := 0) dX6_init_4 rfl rfl ?_
  refine a_iload_n (q := 1) dX6_init_5 rfl rfl ?_
  obtain ⟨h2, e3, hf⟩ := obd hf
  refine o_pfI dX6_init_6 lk_X6_7 (⟨_, rfl, Or.inr ⟨rfl, rfl, rfl, wd_516⟩⟩) rfl e3 ?_
  refine a_aload_n (q := 0) dX6_init_9 rfl rfl ?_
  refine a_iload_n (q := 2) dX6_init_10 rfl rfl ?_
  obtain ⟨h4, e5, hf⟩ := obd hf
  refine o_pfI dX6_init_11 lk_X6_13 (⟨_, rfl, Or.inr ⟨rfl, rfl, rfl, wd_518⟩⟩) rfl e5 ?_
  obtain rfl := Option.some.inj hf
  exact a_return dX6_init_14 rfl
def fX10_init (a0 : Nat) (a1 : Int32) (h : hp) : Option hp :=
  (ckT h a0 9).bind fun _ =>
  bd2 (nwA h 3 4) fun v2 h3 =>
  (pfR h3 a0 9 1 v2).bind fun h5 =>
  (pfI h5 a0 9 3 (-1)).bind fun h7 =>
  (pfI h7 a0 9 0 a1).bind fun h9 =>
  some h9
set_option maxHeartbeats 4000000 in
set_option maxRecDepth 100000 in
theorem sX10_init (E : gE) (D : Nat) (hD : 1 ≤ D) {a0 : Nat} {a1 : Int32} {h hz : hp} (hf : fX10_init a0 a1 h = some hz) : MC E yX10_init cX10_init (Option.none : Option Jvm.ClassFile.FieldType) 2 D [.ref a0, .int a1] h none hz := by
  refine MC.of (by decide +kernel) (Nat.le_of_ble_eq_true rfl) rfl ?_
  unfold fX10_init at hf
  show AW E yX10_init cX10_init (Option.none : Option Jvm.ClassFile.FieldType) 2 D none h hz 0 [(0, .ref a0), (1, .int a1)] [] h
  refine a_aload_n (q := 0) dX10_init_0 rfl rfl ?_
  obtain ⟨_, e1, hf⟩ := obd hf
  refine o_objI dX10_init_1 (by omega) wd_415 wd_32 wd_33 (by decide) (ckT_s e1) (Nat.le_of_ble_eq_true rfl) ?_
  refine a_aload_n (q := 0) dX10_init_4 rfl rfl ?_
  refine a_iconst (v := 4) dX10_init_5 (by decide) ?_
  obtain ⟨v2, h3, e4, hf⟩ := ob2 hf
  refine o_nwR (j := 3) dX10_init_6 (by decide) rfl wd_416 (by decide +kernel) e4 ?_
  obtain ⟨h5, e6, hf⟩ := obd hf
  refine o_pfR dX10_init_9 lk_X10_11 (⟨_, rfl, Or.inr ⟨rfl, rfl, rfl, wd_420⟩⟩) rfl e6 ?_
  refine a_aload_n (q := 0) dX10_init_12 rfl rfl ?_
  refine a_iconst (v := (-1)) dX10_init_13 (by decide) ?_
  obtain ⟨h7, e8, hf⟩ := obd hf
  refine o_pfI dX10_init_14 lk_X10_17 (⟨_, rfl, Or.inl rfl⟩) rfl e8 ?_
  refine a_aload_n (q := 0) dX10_init_17 rfl rfl ?_
  refine a_iload_n (q := 1) dX10_init_18 rfl rfl ?_
  obtain ⟨h9, e10, hf⟩ := obd hf
  refine o_pfI dX10_init_19 lk_X10_21 (⟨_, rfl, Or.inr ⟨rfl, rfl, rfl, wd_418⟩⟩) rfl e10 ?_
  obtain rfl := Option.some.inj hf
  exact a_return dX10_init_22 rfl
def fX7_init (a0 : Nat) (a1 : Nat) (h : hp) : Option hp :=
  (ckT h a0 6).bind fun _ =>
  (pfI h a0 6 3 1).bind fun h2 =>
  (pfI h2 a0 6 4 (-1)).bind fun h4 =>
  (pfR h4 a0 6 0 a1).bind fun h6 =>
  bd2 (nwO h6 9 8) fun v8 h9 =>
  (gfI h9 a1 4 1).bind fun v11 =>
  (ckT h9 v8 9).bind fun _ =>
  (fX10_init v8 v11 h9).bind fun h14 =>
  (pfR h14 a0 6 1 v8).bind fun h16 =>
  some h16
set_option maxHeartbeats 4000000 in
set_option maxRecDepth 100000 in
theorem sX7_init (E : gE) (D : Nat) (hD : 2 ≤ D) {a0 : Nat} {a1 : Nat} {h hz : hp} (hf : fX7_init a0 a1 h = some hz) : MC E yX7_init cX7_init (Option.none : Option Jvm.ClassFile.FieldType) 2 D [.ref a0, .ref a1] h none hz := by
  refine MC.of (by decide +kernel) (Nat.le_of_ble_eq_true rfl) rfl ?_
  unfold fX7_init at hf
  show AW E yX7_init cX7_init (Option.none : Option Jvm.ClassFile.FieldType) 2 D none h hz 0 [(0, .ref a0), (1, .ref a1)] [] h
  refine a_aload_n (q := 0) dX7_init_0 rfl rfl ?_
  obtain ⟨_, e1, hf⟩ := obd hf
  refine o_objI dX7_init_1 (by omega) wd_409 wd_32 wd_33 (by decide) (ckT_s e1) (Nat.le_of_ble_eq_true rfl) ?_
  refine a_aload_n (q := 0) dX7_init_4 rfl rfl ?_
  refine a_iconst (v := 1) dX7_init_5 (by decide) ?_
  obtain ⟨h2, e3, hf⟩ := obd hf
  refine o_pfI dX7_init_6 lk_X7_9 (⟨_, rfl, Or.inl rfl⟩) rfl e3 ?_
  refine a_aload_n (q := 0) dX7_init_9 rfl rfl ?_
  refine a_iconst (v := (-1)) dX7_init_10 (by decide) ?_
  obtain ⟨h4, e5, hf⟩ := obd hf
  refine o_pfI dX7_init_11 lk_X7_15 (⟨_, rfl, Or.inl rfl⟩) rfl e5 ?_
  refine a_aload_n (q := 0) dX7_init_14 rfl rfl ?_
  refine a_aload_n (q := 1) dX7_init_15 rfl rfl ?_
  obtain ⟨h6, e7, hf⟩ := obd hf
  refine o_pfR dX7_init_16 lk_X7_18 (⟨_, rfl, Or.inr ⟨rfl, rfl, rfl, wd_452⟩⟩) rfl e7 ?_
  refine a_aload_n (q := 0) dX7_init_19 rfl rfl ?_
  obtain ⟨v8, h9, e10, hf⟩ := ob2 hf
  refine o_nwO (ci := 9) dX7_init_20 rfl rfl gu_9 tyX10_ok (by decide) wd_410 wd_411 wd_12 e10 ?_
  refine a_dup dX7_init_23 rfl ?_
  refine a_aload_n (q := 1) dX7_init_24 rfl rfl ?_
  obtain ⟨v11, e12, hf⟩ := obd hf
  refine o_gfI dX7_init_25 lk_X7_24 rfl e12 ?_
  obtain ⟨_, e15, hf⟩ := obd hf
  obtain ⟨h14, e13, hf⟩ := obd hf
  refine a_callI (as := [.int v11]) (np := 1) (ci := 9) (st := [.ref v8, .ref a0]) (sX10_init E (D - 1) (by omega) e13) dX7_init_28 rfl (by omega) (by decide) cw_X7_29 ⟨wd_413, rfl⟩ rfl (ckT_s e15) rfl (Nat.le_of_ble_eq_true rfl) ?_
  obtain ⟨h16, e17, hf⟩ := obd hf
  refine o_pfR dX7_init_31 lk_X7_32 (⟨_, rfl, Or.inr ⟨rfl, rfl, rfl, wd_453⟩⟩) rfl e17 ?_
  obtain rfl := Option.some.inj hf
  exact a_return dX7_init_34 rfl
def fX7_peek (a0 : Nat) (h : hp) : Option (Int32 × hp) :=
  (gfI h a0 6 2).bind fun v1 =>
  if v1 < 0 then (
    some ((-1), h)
  ) else (
    (gfI h a0 6 2).bind fun v3 =>
    (gfR h a0 6 0).bind fun v5 =>
    (gfI h v5 4 1).bind fun v7 =>
    if v7 ≤ v3 then (
      some ((-1), h)
    ) else (
      (gfI h a0 6 2).bind fun v9 =>
      (gfR h a0 6 0).bind fun v11 =>
      (gfR h v11 4 0).bind fun v13 =>
      (aln 0 h v13).bind fun v15 =>
      if v15 ≤ v9 then (
        some ((-1), h)
      ) else (
        (gfR h a0 6 0).bind fun v17 =>
        (gfR h v17 4 0).bind fun v19 =>
        (gfI h a0 6 2).bind fun v21 =>
        (alI h v19 v21).bind fun v23 =>
        some (v23, h)
      )
    )
  )
set_option maxHeartbeats 4000000 in
set_option maxRecDepth 100000 in
theorem sX7_peek (E : gE) (D : Nat) (hD : 0 ≤ D) {a0 : Nat} {h hz : hp} {v0 : Int32} (hf : fX7_peek a0 h = some (v0, hz)) : MC E yX7_peek cX7_peek (Option.some Jvm.ClassFile.FieldType.int) 1 D [.ref a0] h (some (.int v0)) hz := by
  refine MC.of (by decide +kernel) (Nat.le_of_ble_eq_true rfl) rfl ?_
  unfold fX7_peek at hf
  show AW E yX7_peek cX7_peek (Option.some Jvm.ClassFile.FieldType.int) 1 D (some (.int v0)) h hz 0 [(0, .ref a0)] [] h
  refine a_aload_n (q := 0) dX7_peek_0 rfl rfl ?_
  obtain ⟨v1, e2, hf⟩ := obd hf
  refine o_gfI dX7_peek_1 lk_X7_40 rfl e2 ?_
  refine a_if_lt (tgt := 51) dX7_peek_4 (by decide) (fun c => ?_) (fun c => ?_)
  · have hf := ifp c hf
    refine a_iconst (v := (-1)) dX7_peek_51 (by decide) ?_
    obtain ⟨rfl, rfl⟩ := oc2 hf
    exact a_ireturn dX7_peek_52 rfl
  · have hf := ifn c hf
    refine a_aload_n (q := 0) dX7_peek_7 rfl rfl ?_
    obtain ⟨v3, e4, hf⟩ := obd hf
    refine o_gfI dX7_peek_8 lk_X7_40 rfl e4 ?_
    refine a_aload_n (q := 0) dX7_peek_11 rfl rfl ?_
    obtain ⟨v5, e6, hf⟩ := obd hf
    refine o_gfR dX7_peek_12 lk_X7_18 rfl e6 ?_
    obtain ⟨v7, e8, hf⟩ := obd hf
    refine o_gfI dX7_peek_15 lk_X7_24 rfl e8 ?_
    refine a_icmp_ge (tgt := 51) dX7_peek_18 (by decide) (fun c => ?_) (fun c => ?_)
    · have hf := ifp c hf
      refine a_iconst (v := (-1)) dX7_peek_51 (by decide) ?_
      obtain ⟨rfl, rfl⟩ := oc2 hf
      exact a_ireturn dX7_peek_52 rfl
    · have hf := ifn c hf
      refine a_aload_n (q := 0) dX7_peek_21 rfl rfl ?_
      obtain ⟨v9, e10, hf⟩ := obd hf
      refine o_gfI dX7_peek_22 lk_X7_40 rfl e10 ?_
      refine a_aload_n (q := 0) dX7_peek_25 rfl rfl ?_
      obtain ⟨v11, e12, hf⟩ := obd hf
      refine o_gfR dX7_peek_26 lk_X7_18 rfl e12 ?_
      obtain ⟨v13, e14, hf⟩ := obd hf
      refine o_gfR dX7_peek_29 lk_X7_73 rfl e14 ?_
      obtain ⟨v15, e16, hf⟩ := obd hf
      refine o_aln dX7_peek_32 (by decide) e16 ?_
      refine a_icmp_ge (tgt := 51) dX7_peek_33 (by decide) (fun c => ?_) (fun c => ?_)
      · have hf := ifp c hf
        refine a_iconst (v := (-1)) dX7_peek_51 (by decide) ?_
        obtain ⟨rfl, rfl⟩ := oc2 hf
        exact a_ireturn dX7_peek_52 rfl
      · have hf := ifn c hf
        refine a_aload_n (q := 0) dX7_peek_36 rfl rfl ?_
        obtain ⟨v17, e18, hf⟩ := obd hf
        refine o_gfR dX7_peek_37 lk_X7_18 rfl e18 ?_
        obtain ⟨v19, e20, hf⟩ := obd hf
        refine o_gfR dX7_peek_40 lk_X7_73 rfl e20 ?_
        refine a_aload_n (q := 0) dX7_peek_43 rfl rfl ?_
        obtain ⟨v21, e22, hf⟩ := obd hf
        refine o_gfI dX7_peek_44 lk_X7_40 rfl e22 ?_
        obtain ⟨v23, e24, hf⟩ := obd hf
        refine o_alI dX7_peek_47 e24 ?_
        refine a_goto (tgt := 52) dX7_peek_48 (by decide) ?_
        obtain ⟨rfl, rfl⟩ := oc2 hf
        exact a_ireturn dX7_peek_52 rfl
def fX7_refuse (a0 : Nat) (h : hp) : Option hp :=
  (gfI h a0 6 4).bind fun v1 =>
  if 0 ≤ v1 then (
    some h
  ) else (
    (gfI h a0 6 2).bind fun v3 =>
    (pfI h a0 6 4 v3).bind fun h5 =>
    some h5
  )
set_option maxHeartbeats 4000000 in
set_option maxRecDepth 100000 in
theorem sX7_refuse (E : gE) (D : Nat) (hD : 0 ≤ D) {a0 : Nat} {h hz : hp} (hf : fX7_refuse a0 h = some hz) : MC E yX7_refuse cX7_refuse (Option.none : Option Jvm.ClassFile.FieldType) 1 D [.ref a0] h none hz := by
  refine MC.of (by decide +kernel) (Nat.le_of_ble_eq_true rfl) rfl ?_
  unfold fX7_refuse at hf
  show AW E yX7_refuse cX7_refuse (Option.none : Option Jvm.ClassFile.FieldType) 1 D none h hz 0 [(0, .ref a0)] [] h
  refine a_aload_n (q := 0) dX7_refuse_0 rfl rfl ?_
  obtain ⟨v1, e2, hf⟩ := obd hf
  refine o_gfI dX7_refuse_1 lk_X7_15 rfl e2 ?_
  refine a_if_ge (tgt := 15) dX7_refuse_4 (by decide) (fun c => ?_) (fun c => ?_)
  · have hf := ifp c hf
    obtain rfl := Option.some.inj hf
    exact a_return dX7_refuse_15 rfl
  · have hf := ifn c hf
    refine a_aload_n (q := 0) dX7_refuse_7 rfl rfl ?_
    refine a_aload_n (q := 0) dX7_refuse_8 rfl rfl ?_
    obtain ⟨v3, e4, hf⟩ := obd hf
    refine o_gfI dX7_refuse_9 lk_X7_40 rfl e4 ?_
    obtain ⟨h5, e6, hf⟩ := obd hf
    refine o_pfI dX7_refuse_12 lk_X7_15 (⟨_, rfl, Or.inl rfl⟩) rfl e6 ?_
    obtain rfl := Option.some.inj hf
    exact a_return dX7_refuse_15 rfl
def fX7_expect (a0 : Nat) (a1 : Int32) (h : hp) : Option hp :=
  (ckT h a0 6).bind fun _ =>
  bd2 (fX7_peek a0 h) fun v2 h3 =>
  if v2 = a1 then (
    (gfI h3 a0 6 2).bind fun v8 =>
    (pfI h3 a0 6 2 (v8 + 1)).bind fun h10 =>
    some h10
  ) else (
    (ckT h3 a0 6).bind fun _ =>
    (fX7_refuse a0 h3).bind fun h6 =>
    some h6
  )
set_option maxHeartbeats 4000000 in
set_option maxRecDepth 100000 in
theorem sX7_expect (E : gE) (D : Nat) (hD : 1 ≤ D) {a0 : Nat} {a1 : Int32} {h hz : hp} (hf : fX7_expect a0 a1 h = some hz) : MC E yX7_expect cX7_expect (Option.none : Option Jvm.ClassFile.FieldType) 2 D [.ref a0, .int a1] h none hz := by
  refine MC.of (by decide +kernel) (Nat.le_of_ble_eq_true rfl) rfl ?_
  unfold fX7_expect at hf
  show AW E yX7_expect cX7_expect (Option.none : Option Jvm.ClassFile.FieldType) 2 D none h hz 0 [(0, .ref a0), (1, .int a1)] [] h
  refine a_aload_n (q := 0) dX7_expect_0 rfl rfl ?_
  obtain ⟨_, e4, hf⟩ := obd hf
  obtain ⟨v2, h3, e1, hf⟩ := ob2 hf
  refine a_callV (as := []) (np := 0) (ci := 6) (st := []) (sX7_peek E (D - 1) (by omega) e1) dX7_expect_1 rfl (by omega) (by decide) cw_X7_77 ⟨wd_483, ws_4⟩ rfl (ckT_s e4) rfl (Nat.le_of_ble_eq_true rfl) ?_
  refine a_iload_n (q := 1) dX7_expect_4 rfl rfl ?_
  refine a_icmp_ne (tgt := 21) dX7_expect_5 (by decide) (fun c => ?_) (fun c => ?_)
  · have hf := ifn c hf
    refine a_aload_n (q := 0) dX7_expect_21 rfl rfl ?_
    obtain ⟨_, e7, hf⟩ := obd hf
    obtain ⟨h6, e5, hf⟩ := obd hf
    refine a_callV (as := []) (np := 0) (ci := 6) (st := []) (sX7_refuse E (D - 1) (by omega) e5) dX7_expect_22 rfl (by omega) (by decide) cw_X7_70 ⟨wd_488, ws_5⟩ rfl (ckT_s e7) rfl (Nat.le_of_ble_eq_true rfl) ?_
    obtain rfl := Option.some.inj hf
    exact a_return dX7_expect_25 rfl
  · have hf := ifp c hf
    refine a_aload_n (q := 0) dX7_expect_8 rfl rfl ?_
    refine a_aload_n (q := 0) dX7_expect_9 rfl rfl ?_
    obtain ⟨v8, e9, hf⟩ := obd hf
    refine o_gfI dX7_expect_10 lk_X7_40 rfl e9 ?_
    refine a_iconst (v := 1) dX7_expect_13 (by decide) ?_
    refine a_iadd dX7_expect_14 ?_
    obtain ⟨h10, e11, hf⟩ := obd hf
    refine o_pfI dX7_expect_15 lk_X7_40 (⟨_, rfl, Or.inl rfl⟩) rfl e11 ?_
    refine a_goto (tgt := 25) dX7_expect_18 (by decide) ?_
    obtain rfl := Option.some.inj hf
    exact a_return dX7_expect_25 rfl
def fX7_endsHere (a0 : Nat) (a1 : Int32) (a2 : Int32) (a3 : Int32) (h : hp) : Option (Int32 × hp) :=
  jn (fun (s15_0 : Int32) (h15j : hp) => (
    jn (fun (s32_0 : Int32) (h32j : hp) => (
      jn (fun (h46j : hp) => (
        (gfI h46j a0 6 2).bind fun v1 =>
        (pfI h46j a0 6 2 (v1 + 2)).bind fun h3 =>
        (ckT h3 a0 6).bind fun _ =>
        (fX7_expect a0 125 h3).bind fun h6 =>
        (pfZ h6 a0 6 5 s32_0).bind fun h8 =>
        some (1, h8)
        : Option (Int32 × hp))) fun k46 =>
      if s15_0 = 0 then (
        if s32_0 = 0 then (
          some (0, h32j)
        ) else (
          k46 h32j
        )
      ) else (
        k46 h32j
      )
      : Option (Int32 × hp))) fun k32 =>
    jn (fun (h31j : hp) => (
      k32 0 h31j
      : Option (Int32 × hp))) fun k31 =>
    if a1 = 58 then (
      if a3 = 0 then (
        k31 h15j
      ) else (
        k32 1 h15j
      )
    ) else (
      k31 h15j
    )
    : Option (Int32 × hp))) fun k15 =>
  jn (fun (h14j : hp) => (
    k15 0 h14j
    : Option (Int32 × hp))) fun k14 =>
  if a1 = 47 then (
    if a2 ≤ 0 then (
      k14 h
    ) else (
      k15 1 h
    )
  ) else (
    k14 h
  )
set_option maxHeartbeats 4000000 in
set_option maxRecDepth 100000 in
theorem sX7_endsHere (E : gE) (D : Nat) (hD : 2 ≤ D) {a0 : Nat} {a1 : Int32} {a2 : Int32} {a3 : Int32} {h hz : hp} {v0 : Int32} (hf : fX7_endsHere a0 a1 a2 a3 h = some (v0, hz)) : MC E yX7_endsHere cX7_endsHere (Option.some Jvm.ClassFile.FieldType.boolean) 6 D [.ref a0, .int a1, .int a2, .int a3] h (some (.int v0)) hz := by
  refine MC.of (by decide +kernel) (Nat.le_of_ble_eq_true rfl) rfl ?_
  unfold fX7_endsHere at hf
  show AW E yX7_endsHere cX7_endsHere (Option.some Jvm.ClassFile.FieldType.boolean) 6 D (some (.int v0)) h hz 0 [(0, .ref a0), (1, .int a1), (2, .int a2), (3, .int a3)] [] h
  refine a_iload_n (q := 1) dX7_endsHere_0 rfl rfl ?_
  refine a_bipush (v := 47) dX7_endsHere_1 (by decide) ?_
  obtain ⟨k15, ek15, hf⟩ := jn_s hf
  have hj15 : ∀ (s15_0 : Int32) (h15j : hp), k15 s15_0 h15j = some (v0, hz) → AW E yX7_endsHere cX7_endsHere (Option.some Jvm.ClassFile.FieldType.boolean) 6 D (some (.int v0)) h hz 15 [(0, .ref a0), (1, .int a1), (3, .int a3)] [.int s15_0] h15j := by
    intro s15_0 h15j hf
    rw [ek15] at hf
    clear ek15
    refine a_istore (lv1 := [(4, .int s15_0), (0, .ref a0), (1, .int a1), (3, .int a3)]) dX7_endsHere_15 (by decide) rfl ?_
    refine a_iload_n (q := 2) dX7_endsHere_17 rfl rfl ?_
    refine a_bipush (v := 58) dX7_endsHere_18 (by decide) ?_
    obtain ⟨k32, ek32, hf⟩ := jn_s hf
    have hj32 : ∀ (s32_0 : Int32) (h32j : hp), k32 s32_0 h32j = some (v0, hz) → AW E yX7_endsHere cX7_endsHere (Option.some Jvm.ClassFile.FieldType.boolean) 6 D (some (.int v0)) h hz 32 [(0, .ref a0), (4, .int s15_0)] [.int s32_0] h32j := by
      intro s32_0 h32j hf
      rw [ek32] at hf
      clear ek32
      refine a_istore (lv1 := [(5, .int s32_0), (0, .ref a0), (4, .int s15_0)]) dX7_endsHere_32 (by decide) rfl ?_
      refine a_iload (q := 2) dX7_endsHere_34 rfl ?_
      obtain ⟨k46, ek46, hf⟩ := jn_s hf
      have hj46 : ∀ (h46j : hp), k46 h46j = some (v0, hz) → AW E yX7_endsHere cX7_endsHere (Option.some Jvm.ClassFile.FieldType.boolean) 6 D (some (.int v0)) h hz 46 [(0, .ref a0), (5, .int s32_0)] [] h46j := by
        intro h46j hf
        rw [ek46] at hf
        clear ek46
        refine a_aload_n (q := 0) dX7_endsHere_46 rfl rfl ?_
        refine a_aload_n (q := 0) dX7_endsHere_47 rfl rfl ?_
        obtain ⟨v1, e2, hf⟩ := obd hf
        refine o_gfI dX7_endsHere_48 lk_X7_40 rfl e2 ?_
        refine a_iconst (v := 2) dX7_endsHere_51 (by decide) ?_
        refine a_iadd dX7_endsHere_52 ?_
        obtain ⟨h3, e4, hf⟩ := obd hf
        refine o_pfI dX7_endsHere_53 lk_X7_40 (⟨_, rfl, Or.inl rfl⟩) rfl e4 ?_
        refine a_aload_n (q := 0) dX7_endsHere_56 rfl rfl ?_
        refine a_bipush (v := 125) dX7_endsHere_57 (by decide) ?_
        obtain ⟨_, e7, hf⟩ := obd hf
        obtain ⟨h6, e5, hf⟩ := obd hf
        refine a_callV (as := [.int 125]) (np := 1) (ci := 6) (st := []) (sX7_expect E (D - 1) (by omega) e5) dX7_endsHere_59 rfl (by omega) (by decide) cw_X7_52 ⟨wd_492, ws_6⟩ rfl (ckT_s e7) rfl (Nat.le_of_ble_eq_true rfl) ?_
        refine a_aload_n (q := 0) dX7_endsHere_62 rfl rfl ?_
        refine a_iload (q := 1) dX7_endsHere_63 rfl ?_
        obtain ⟨h8, e9, hf⟩ := obd hf
        refine o_pfZ dX7_endsHere_65 lk_X7_92 (⟨_, rfl, Or.inl rfl⟩) rfl e9 ?_
        refine a_iconst (v := 1) dX7_endsHere_68 (by decide) ?_
        obtain ⟨rfl, rfl⟩ := oc2 hf
        exact a_zreturn dX7_endsHere_69 rfl (by decide)
      clear ek46
      refine a_if_ne (tgt := 46) dX7_endsHere_36 (by decide) (fun c => ?_) (fun c => ?_)
      · have hf := ifn c hf
        exact AW.sub [1, 0] rfl (hj46 _ hf)
      · have hf := ifp c hf
        refine a_iload (q := 0) dX7_endsHere_39 rfl ?_
        refine a_if_ne (tgt := 46) dX7_endsHere_41 (by decide) (fun c => ?_) (fun c => ?_)
        · have hf := ifn c hf
          exact AW.sub [1, 0] rfl (hj46 _ hf)
        · have hf := ifp c hf
          refine a_iconst (v := 0) dX7_endsHere_44 (by decide) ?_
          obtain ⟨rfl, rfl⟩ := oc2 hf
          exact a_zreturn dX7_endsHere_45 rfl (by decide)
    clear ek32
    obtain ⟨k31, ek31, hf⟩ := jn_s hf
    have hj31 : ∀ (h31j : hp), k31 h31j = some (v0, hz) → AW E yX7_endsHere cX7_endsHere (Option.some Jvm.ClassFile.FieldType.boolean) 6 D (some (.int v0)) h hz 31 [(0, .ref a0), (4, .int s15_0)] [] h31j := by
      intro h31j hf
      rw [ek31] at hf
      clear ek31
      refine a_iconst (v := 0) dX7_endsHere_31 (by decide) ?_
      exact hj32 _ _ hf
    clear ek31
    refine a_icmp_ne (tgt := 31) dX7_endsHere_20 (by decide) (fun c => ?_) (fun c => ?_)
    · have hf := ifn c hf
      exact AW.sub [1, 0] rfl (hj31 _ hf)
    · have hf := ifp c hf
      refine a_iload_n (q := 3) dX7_endsHere_23 rfl rfl ?_
      refine a_if_eq (tgt := 31) dX7_endsHere_24 (by decide) (fun c => ?_) (fun c => ?_)
      · have hf := ifp c hf
        exact AW.sub [1, 0] rfl (hj31 _ hf)
      · have hf := ifn c hf
        refine a_iconst (v := 1) dX7_endsHere_27 (by decide) ?_
        refine a_goto (tgt := 32) dX7_endsHere_28 (by decide) ?_
        exact AW.sub [1, 0] rfl (hj32 _ _ hf)
  clear ek15
  obtain ⟨k14, ek14, hf⟩ := jn_s hf
  have hj14 : ∀ (h14j : hp), k14 h14j = some (v0, hz) → AW E yX7_endsHere cX7_endsHere (Option.some Jvm.ClassFile.FieldType.boolean) 6 D (some (.int v0)) h hz 14 [(0, .ref a0), (1, .int a1), (3, .int a3)] [] h14j := by
    intro h14j hf
    rw [ek14] at hf
    clear ek14
    refine a_iconst (v := 0) dX7_endsHere_14 (by decide) ?_
    exact hj15 _ _ hf
  clear ek14
  refine a_icmp_ne (tgt := 14) dX7_endsHere_3 (by decide) (fun c => ?_) (fun c => ?_)
  · have hf := ifn c hf
    exact AW.sub [0, 1, 3] rfl (hj14 _ hf)
  · have hf := ifp c hf
    refine a_iload_n (q := 2) dX7_endsHere_6 rfl rfl ?_
    refine a_if_le (tgt := 14) dX7_endsHere_7 (by decide) (fun c => ?_) (fun c => ?_)
    · have hf := ifp c hf
      exact AW.sub [0, 1, 3] rfl (hj14 _ hf)
    · have hf := ifn c hf
      refine a_iconst (v := 1) dX7_endsHere_10 (by decide) ?_
      refine a_goto (tgt := 15) dX7_endsHere_11 (by decide) ?_
      exact AW.sub [0, 1, 3] rfl (hj15 _ _ hf)

def fX7_readAbove (a0 : Nat) (a1 : Int32) (h : hp) : Option (Nat × hp) :=
  bd2 (nwO h 5 9) fun v1 h2 =>
  (gfI h2 a0 6 3).bind fun v4 =>
  (ckT h2 v1 5).bind fun _ =>
  (fX6_init v1 5 v4 h2).bind fun h7 =>
  jn (fun (h21j : hp) => (
    (gfI h21j a0 6 2).bind fun v9 =>
    (pfI h21j a0 6 2 (v9 + 1)).bind fun h11 =>
    (ckT h11 a0 6).bind fun _ =>
    (fX7_expect a0 125 h11).bind fun h14 =>
    some (v1, h14)
    : Option (Nat × hp))) fun k21 =>
  if a1 = 0 then (
    (ckT h7 a0 6).bind fun _ =>
    (fX7_refuse a0 h7).bind fun h17 =>
    k21 h17
  ) else (
    k21 h7
  )
set_option maxHeartbeats 4000000 in
set_option maxRecDepth 100000 in
theorem sX7_readAbove (E : gE) (D : Nat) (hD : 2 ≤ D) {a0 : Nat} {a1 : Int32} {h hz : hp} {v0 : Nat} (hf : fX7_readAbove a0 a1 h = some (v0, hz)) : MC E yX7_readAbove cX7_readAbove (Option.some (Jvm.ClassFile.FieldType.object "TemplatePress$Piece")) 3 D [.ref a0, .int a1] h (some (.ref v0)) hz := by
  refine MC.of (by decide +kernel) (Nat.le_of_ble_eq_true rfl) rfl ?_
  unfold fX7_readAbove at hf
  show AW E yX7_readAbove cX7_readAbove (Option.some (Jvm.ClassFile.FieldType.object "TemplatePress$Piece")) 3 D (some (.ref v0)) h hz 0 [(0, .ref a0), (1, .int a1)] [] h
  obtain ⟨v1, h2, e3, hf⟩ := ob2 hf
  refine o_nwO (ci := 5) dX7_readAbove_0 rfl rfl gu_5 tyX6_ok (by decide) wd_510 wd_511 wd_13 e3 ?_
  refine a_dup dX7_readAbove_3 rfl ?_
  refine a_iconst (v := 5) dX7_readAbove_4 (by decide) ?_
  refine a_aload_n (q := 0) dX7_readAbove_5 rfl rfl ?_
  obtain ⟨v4, e5, hf⟩ := obd hf
  refine o_gfI dX7_readAbove_6 lk_X7_9 rfl e5 ?_
  obtain ⟨_, e8, hf⟩ := obd hf
  obtain ⟨h7, e6, hf⟩ := obd hf
  refine a_callI (as := [.int 5, .int v4]) (np := 2) (ci := 5) (st := [.ref v1]) (sX6_init E (D - 1) (by omega) e6) dX7_readAbove_9 rfl (by omega) (by decide) cw_X7_136 ⟨wd_513, rfl⟩ rfl (ckT_s e8) rfl (Nat.le_of_ble_eq_true rfl) ?_
  refine a_astore_n (lv1 := [(2, .ref v1), (0, .ref a0), (1, .int a1)]) dX7_readAbove_12 rfl (by decide) rfl ?_
  refine a_iload_n (q := 2) dX7_readAbove_13 rfl rfl ?_
  obtain ⟨k21, ek21, hf⟩ := jn_s hf
  have hj21 : ∀ (h21j : hp), k21 h21j = some (v0, hz) → AW E yX7_readAbove cX7_readAbove (Option.some (Jvm.ClassFile.FieldType.object "TemplatePress$Piece")) 3 D (some (.ref v0)) h hz 21 [(0, .ref a0), (2, .ref v1)] [] h21j := by
    intro h21j hf
    rw [ek21] at hf
    clear ek21
    refine a_aload_n (q := 0) dX7_readAbove_21 rfl rfl ?_
    refine a_aload_n (q := 0) dX7_readAbove_22 rfl rfl ?_
    obtain ⟨v9, e10, hf⟩ := obd hf
    refine o_gfI dX7_readAbove_23 lk_X7_40 rfl e10 ?_
    refine a_iconst (v := 1) dX7_readAbove_26 (by decide) ?_
    refine a_iadd dX7_readAbove_27 ?_
    obtain ⟨h11, e12, hf⟩ := obd hf
    refine o_pfI dX7_readAbove_28 lk_X7_40 (⟨_, rfl, Or.inl rfl⟩) rfl e12 ?_
    refine a_aload_n (q := 0) dX7_readAbove_31 rfl rfl ?_
    refine a_bipush (v := 125) dX7_readAbove_32 (by decide) ?_
    obtain ⟨_, e15, hf⟩ := obd hf
    obtain ⟨h14, e13, hf⟩ := obd hf
    refine a_callV (as := [.int 125]) (np := 1) (ci := 6) (st := []) (sX7_expect E (D - 1) (by omega) e13) dX7_readAbove_34 rfl (by omega) (by decide) cw_X7_52 ⟨wd_492, ws_6⟩ rfl (ckT_s e15) rfl (Nat.le_of_ble_eq_true rfl) ?_
    refine a_aload_n (q := 1) dX7_readAbove_37 rfl rfl ?_
    obtain ⟨rfl, rfl⟩ := oc2 hf
    exact a_areturn dX7_readAbove_38 rfl (Or.inl ⟨_, rfl⟩)
  clear ek21
  refine a_if_ne (tgt := 21) dX7_readAbove_14 (by decide) (fun c => ?_) (fun c => ?_)
  · have hf := ifn c hf
    exact AW.sub [1, 0] rfl (hj21 _ hf)
  · have hf := ifp c hf
    refine a_aload_n (q := 1) dX7_readAbove_17 rfl rfl ?_
    obtain ⟨_, e18, hf⟩ := obd hf
    obtain ⟨h17, e16, hf⟩ := obd hf
    refine a_callV (as := []) (np := 0) (ci := 6) (st := []) (sX7_refuse E (D - 1) (by omega) e16) dX7_readAbove_18 rfl (by omega) (by decide) cw_X7_70 ⟨wd_488, ws_5⟩ rfl (ckT_s e18) rfl (Nat.le_of_ble_eq_true rfl) ?_
    exact AW.sub [1, 0] rfl (hj21 _ hf)
def fX10_addBlock (a0 : Nat) (a1 : Int32) (a2 : Nat) (h : hp) : Option hp :=
  bd2 (fX13_among a1 4 h) fun v2 h3 =>
  if v2 = 0 then (
    some h3
  ) else (
    (gfR h3 a0 9 1).bind fun v4 =>
    (alR 3 h3 v4 a1).bind fun v6 =>
    if v6 = 0 then (
      (gfR h3 a0 9 1).bind fun v8 =>
      (asR 3 h3 v8 a1 a2).bind fun h10 =>
      some h10
    ) else (
      some h3
    )
  )
set_option maxHeartbeats 4000000 in
set_option maxRecDepth 100000 in
theorem sX10_addBlock (E : gE) (D : Nat) (hD : 1 ≤ D) {a0 : Nat} {a1 : Int32} {a2 : Nat} {h hz : hp} (hf : fX10_addBlock a0 a1 a2 h = some hz) : MC E yX10_addBlock cX10_addBlock (Option.none : Option Jvm.ClassFile.FieldType) 3 D [.ref a0, .int a1, .ref a2] h none hz := by
  refine MC.of (by decide +kernel) (Nat.le_of_ble_eq_true rfl) rfl ?_
  unfold fX10_addBlock at hf
  show AW E yX10_addBlock cX10_addBlock (Option.none : Option Jvm.ClassFile.FieldType) 3 D none h hz 0 [(0, .ref a0), (1, .int a1), (2, .ref a2)] [] h
  refine a_iload_n (q := 1) dX10_addBlock_0 rfl rfl ?_
  refine a_iconst (v := 4) dX10_addBlock_1 (by decide) ?_
  obtain ⟨v2, h3, e1, hf⟩ := ob2 hf
  refine a_callS (as := [.int a1, .int 4]) (np := 2) (st := []) (sX13_among E (D - 1) (by omega) e1) dX10_addBlock_2 rfl (by omega) (by decide) cw_X10_24 wd_268 rfl (Nat.le_of_ble_eq_true rfl) ?_
  refine a_if_eq (tgt := 24) dX10_addBlock_5 (by decide) (fun c => ?_) (fun c => ?_)
  · have hf := ifp c hf
    obtain rfl := Option.some.inj hf
    exact a_return dX10_addBlock_24 rfl
  · have hf := ifn c hf
    refine a_aload_n (q := 0) dX10_addBlock_8 rfl rfl ?_
    obtain ⟨v4, e5, hf⟩ := obd hf
    refine o_gfR dX10_addBlock_9 lk_X10_11 rfl e5 ?_
    refine a_iload_n (q := 1) dX10_addBlock_12 rfl rfl ?_
    obtain ⟨v6, e7, hf⟩ := obd hf
    refine o_alR dX10_addBlock_13 (by decide) e7 ?_
    refine a_ifnonnull (tgt := 24) dX10_addBlock_14 (by decide) (fun c => ?_) (fun c => ?_)
    · have hf := ifn c hf
      obtain rfl := Option.some.inj hf
      exact a_return dX10_addBlock_24 rfl
    · have hf := ifp c hf
      refine a_aload_n (q := 0) dX10_addBlock_17 rfl rfl ?_
      obtain ⟨v8, e9, hf⟩ := obd hf
      refine o_gfR dX10_addBlock_18 lk_X10_11 rfl e9 ?_
      refine a_iload_n (q := 1) dX10_addBlock_21 rfl rfl ?_
      refine a_aload_n (q := 2) dX10_addBlock_22 rfl rfl ?_
      obtain ⟨h10, e11, hf⟩ := obd hf
      refine o_asR dX10_addBlock_23 (by decide) e11 ?_
      obtain rfl := Option.some.inj hf
      exact a_return dX10_addBlock_24 rfl
def fX7_readNested (a0 : Nat) (a1 : Int32) (h : hp) : Option hp :=
  jn (fun (h9j : hp) => (
    (gfI h9j a0 6 2).bind fun v1 =>
    (pfI h9j a0 6 2 (v1 + 1)).bind fun h3 =>
    some h3
    : Option hp)) fun k9 =>
  if a1 < 4 then (
    k9 h
  ) else (
    (ckT h a0 6).bind fun _ =>
    (fX7_refuse a0 h).bind fun h6 =>
    k9 h6
  )
set_option maxHeartbeats 4000000 in
set_option maxRecDepth 100000 in
theorem sX7_readNested (E : gE) (D : Nat) (hD : 1 ≤ D) {a0 : Nat} {a1 : Int32} {h hz : hp} (hf : fX7_readNested a0 a1 h = some hz) : MC E yX7_readNested cX7_readNested (Option.none : Option Jvm.ClassFile.FieldType) 2 D [.ref a0, .int a1] h none hz := by
  refine MC.of (by decide +kernel) (Nat.le_of_ble_eq_true rfl) rfl ?_
  unfold fX7_readNested at hf
  show AW E yX7_readNested cX7_readNested (Option.none : Option Jvm.ClassFile.FieldType) 2 D none h hz 0 [(0, .ref a0), (1, .int a1)] [] h
  refine a_iload_n (q := 1) dX7_readNested_0 rfl rfl ?_
  refine a_iconst (v := 4) dX7_readNested_1 (by decide) ?_
  obtain ⟨k9, ek9, hf⟩ := jn_s hf
  have hj9 : ∀ (h9j : hp), k9 h9j = some hz → AW E yX7_readNested cX7_readNested (Option.none : Option Jvm.ClassFile.FieldType) 2 D none h hz 9 [(0, .ref a0)] [] h9j := by
    intro h9j hf
    rw [ek9] at hf
    clear ek9
    refine a_aload_n (q := 0) dX7_readNested_9 rfl rfl ?_
    refine a_aload_n (q := 0) dX7_readNested_10 rfl rfl ?_
    obtain ⟨v1, e2, hf⟩ := obd hf
    refine o_gfI dX7_readNested_11 lk_X7_40 rfl e2 ?_
    refine a_iconst (v := 1) dX7_readNested_14 (by decide) ?_
    refine a_iadd dX7_readNested_15 ?_
    obtain ⟨h3, e4, hf⟩ := obd hf
    refine o_pfI dX7_readNested_16 lk_X7_40 (⟨_, rfl, Or.inl rfl⟩) rfl e4 ?_
    obtain rfl := Option.some.inj hf
    exact a_return dX7_readNested_19 rfl
  clear ek9
  refine a_icmp_lt (tgt := 9) dX7_readNested_2 (by decide) (fun c => ?_) (fun c => ?_)
  · have hf := ifp c hf
    exact AW.sub [0] rfl (hj9 _ hf)
  · have hf := ifn c hf
    refine a_aload_n (q := 0) dX7_readNested_5 rfl rfl ?_
    obtain ⟨_, e7, hf⟩ := obd hf
    obtain ⟨h6, e5, hf⟩ := obd hf
    refine a_callV (as := []) (np := 0) (ci := 6) (st := []) (sX7_refuse E (D - 1) (by omega) e5) dX7_readNested_6 rfl (by omega) (by decide) cw_X7_70 ⟨wd_488, ws_5⟩ rfl (ckT_s e7) rfl (Nat.le_of_ble_eq_true rfl) ?_
    exact AW.sub [0] rfl (hj9 _ hf)
def fX7_readOneOf (a0 : Nat) (a1 : Int32) (a2 : Int32) (h : hp) : Option (Int32 × hp) :=
  (ckT h a0 6).bind fun _ =>
  bd2 (fX7_peek a0 h) fun v2 h3 =>
  bd2 (fX13_among (v2 - a1) a2 h3) fun v6 h7 =>
  if v6 = 0 then (
    (ckT h7 a0 6).bind fun _ =>
    (fX7_refuse a0 h7).bind fun h13 =>
    some (0, h13)
  ) else (
    (gfI h7 a0 6 2).bind fun v8 =>
    (pfI h7 a0 6 2 (v8 + 1)).bind fun h10 =>
    some ((v2 - a1), h10)
  )
set_option maxHeartbeats 4000000 in
set_option maxRecDepth 100000 in
theorem sX7_readOneOf (E : gE) (D : Nat) (hD : 1 ≤ D) {a0 : Nat} {a1 : Int32} {a2 : Int32} {h hz : hp} {v0 : Int32} (hf : fX7_readOneOf a0 a1 a2 h = some (v0, hz)) : MC E yX7_readOneOf cX7_readOneOf (Option.some Jvm.ClassFile.FieldType.int) 4 D [.ref a0, .int a1, .int a2] h (some (.int v0)) hz := by
  refine MC.of (by decide +kernel) (Nat.le_of_ble_eq_true rfl) rfl ?_
  unfold fX7_readOneOf at hf
  show AW E yX7_readOneOf cX7_readOneOf (Option.some Jvm.ClassFile.FieldType.int) 4 D (some (.int v0)) h hz 0 [(0, .ref a0), (1, .int a1), (2, .int a2)] [] h
  refine a_aload_n (q := 0) dX7_readOneOf_0 rfl rfl ?_
  obtain ⟨_, e4, hf⟩ := obd hf
  obtain ⟨v2, h3, e1, hf⟩ := ob2 hf
  refine a_callV (as := []) (np := 0) (ci := 6) (st := []) (sX7_peek E (D - 1) (by omega) e1) dX7_readOneOf_1 rfl (by omega) (by decide) cw_X7_77 ⟨wd_483, ws_4⟩ rfl (ckT_s e4) rfl (Nat.le_of_ble_eq_true rfl) ?_
  refine a_iload_n (q := 1) dX7_readOneOf_4 rfl rfl ?_
  refine a_isub dX7_readOneOf_5 ?_
  refine a_istore_n (lv1 := [(3, .int (v2 - a1)), (0, .ref a0), (1, .int a1), (2, .int a2)]) dX7_readOneOf_6 rfl (by decide) rfl ?_
  refine a_iload_n (q := 0) dX7_readOneOf_7 rfl rfl ?_
  refine a_iload_n (q := 3) dX7_readOneOf_8 rfl rfl ?_
  obtain ⟨v6, h7, e5, hf⟩ := ob2 hf
  refine a_callS (as := [.int (v2 - a1), .int a2]) (np := 2) (st := []) (sX13_among E (D - 1) (by omega) e5) dX7_readOneOf_9 rfl (by omega) (by decide) cw_X7_81 wd_268 rfl (Nat.le_of_ble_eq_true rfl) ?_
  refine a_if_ne (tgt := 21) dX7_readOneOf_12 (by decide) (fun c => ?_) (fun c => ?_)
  · have hf := ifn c hf
    refine a_aload_n (q := 1) dX7_readOneOf_21 rfl rfl ?_
    refine a_aload_n (q := 1) dX7_readOneOf_22 rfl rfl ?_
    obtain ⟨v8, e9, hf⟩ := obd hf
    refine o_gfI dX7_readOneOf_23 lk_X7_40 rfl e9 ?_
    refine a_iconst (v := 1) dX7_readOneOf_26 (by decide) ?_
    refine a_iadd dX7_readOneOf_27 ?_
    obtain ⟨h10, e11, hf⟩ := obd hf
    refine o_pfI dX7_readOneOf_28 lk_X7_40 (⟨_, rfl, Or.inl rfl⟩) rfl e11 ?_
    refine a_iload_n (q := 0) dX7_readOneOf_31 rfl rfl ?_
    obtain ⟨rfl, rfl⟩ := oc2 hf
    exact a_ireturn dX7_readOneOf_32 rfl
  · have hf := ifp c hf
    refine a_aload_n (q := 1) dX7_readOneOf_15 rfl rfl ?_
    obtain ⟨_, e14, hf⟩ := obd hf
    obtain ⟨h13, e12, hf⟩ := obd hf
    refine a_callV (as := []) (np := 0) (ci := 6) (st := []) (sX7_refuse E (D - 1) (by omega) e12) dX7_readOneOf_16 rfl (by omega) (by decide) cw_X7_70 ⟨wd_488, ws_5⟩ rfl (ckT_s e14) rfl (Nat.le_of_ble_eq_true rfl) ?_
    refine a_iconst (v := 0) dX7_readOneOf_19 (by decide) ?_
    obtain ⟨rfl, rfl⟩ := oc2 hf
    exact a_ireturn dX7_readOneOf_20 rfl
def fX13_isSmall (a0 : Int32) (h : hp) : Option (Int32 × hp) :=
  if a0 < 97 then (
    some (0, h)
  ) else (
    if 122 < a0 then (
      some (0, h)
    ) else (
      some (1, h)
    )
  )
set_option maxHeartbeats 4000000 in
set_option maxRecDepth 100000 in
theorem sX13_isSmall (E : gE) (D : Nat) (hD : 0 ≤ D) {a0 : Int32} {h hz : hp} {v0 : Int32} (hf : fX13_isSmall a0 h = some (v0, hz)) : MC E yX13_isSmall cX13_isSmall (Option.some Jvm.ClassFile.FieldType.boolean) 1 D [.int a0] h (some (.int v0)) hz := by
  refine MC.of (by decide +kernel) (Nat.le_of_ble_eq_true rfl) rfl ?_
  unfold fX13_isSmall at hf
  show AW E yX13_isSmall cX13_isSmall (Option.some Jvm.ClassFile.FieldType.boolean) 1 D (some (.int v0)) h hz 0 [(0, .int a0)] [] h
  refine a_iload_n (q := 0) dX13_isSmall_0 rfl rfl ?_
  refine a_bipush (v := 97) dX13_isSmall_1 (by decide) ?_
  refine a_icmp_lt (tgt := 16) dX13_isSmall_3 (by decide) (fun c => ?_) (fun c => ?_)
  · have hf := ifp c hf
    refine a_iconst (v := 0) dX13_isSmall_16 (by decide) ?_
    obtain ⟨rfl, rfl⟩ := oc2 hf
    exact a_zreturn dX13_isSmall_17 rfl (by decide)
  · have hf := ifn c hf
    refine a_iload_n (q := 0) dX13_isSmall_6 rfl rfl ?_
    refine a_bipush (v := 122) dX13_isSmall_7 (by decide) ?_
    refine a_icmp_gt (tgt := 16) dX13_isSmall_9 (by decide) (fun c => ?_) (fun c => ?_)
    · have hf := ifp c hf
      refine a_iconst (v := 0) dX13_isSmall_16 (by decide) ?_
      obtain ⟨rfl, rfl⟩ := oc2 hf
      exact a_zreturn dX13_isSmall_17 rfl (by decide)
    · have hf := ifn c hf
      refine a_iconst (v := 1) dX13_isSmall_12 (by decide) ?_
      refine a_goto (tgt := 17) dX13_isSmall_13 (by decide) ?_
      obtain ⟨rfl, rfl⟩ := oc2 hf
      exact a_zreturn dX13_isSmall_17 rfl (by decide)
def fX7_countSmall_l4 : Nat → Nat → Int32 → Int32 → hp → Option (Int32 × hp)
  | 0, _, _, _, _ => none
  | n + 1, x0, x1, x2, h =>
    if 160 ≤ x2 then (
      some (x1, h)
    ) else (
      (gfR h x0 6 0).bind fun v1 =>
      (gfI h x0 6 2).bind fun v3 =>
      (ckT h v1 4).bind fun _ =>
      bd2 (fX5_at v1 (v3 + x1) h) fun v6 h7 =>
      bd2 (fX13_isSmall v6 h7) fun v10 h11 =>
      if v10 = 0 then (
        some (x1, h11)
      ) else (
        fX7_countSmall_l4 n x0 (x1 + 1) (x2 + 1) h11
      )
    )
def fX7_countSmall (a0 : Nat) (h : hp) : Option (Int32 × hp) :=
  bd2 (fX7_countSmall_l4 FU a0 0 0 h) fun v3 h2 =>
  some (v3, h2)
set_option maxHeartbeats 4000000 in
set_option maxRecDepth 100000 in
theorem sX7_countSmall_l4 (E : gE) (D : Nat) (hD : 1 ≤ D) {rz : Option Value} {h0 hz : hp} : ∀ (n : Nat) (x0 : Nat) (x1 : Int32) (x2 : Int32) (h : hp) (m1 : Int32) (hq : hp), fX7_countSmall_l4 n x0 x1 x2 h = some (m1, hq) → (AW E yX7_countSmall cX7_countSmall (Option.some Jvm.ClassFile.FieldType.int) 3 D rz h0 hz 40 [(1, .int m1)] [] hq) → AW E yX7_countSmall cX7_countSmall (Option.some Jvm.ClassFile.FieldType.int) 3 D rz h0 hz 4 [(0, .ref x0), (1, .int x1), (2, .int x2)] [] h := by
  intro n
  induction n with
  | zero =>
    intro x0 x1 x2 h m1 hq hf _
    rw [fX7_countSmall_l4] at hf
    cases hf
  | succ n ih =>
    intro x0 x1 x2 h m1 hq hf hk0
    rw [fX7_countSmall_l4] at hf
    refine a_iload_n (q := 2) dX7_countSmall_4 rfl rfl ?_
    refine a_sipush (v := 160) dX7_countSmall_5 (by decide) ?_
    refine a_icmp_ge (tgt := 40) dX7_countSmall_8 (by decide) (fun c => ?_) (fun c => ?_)
    · have hf := ifp c hf
      obtain ⟨rfl, rfl⟩ := oc2 hf
      exact AW.sub [1] rfl (hk0)
    · have hf := ifn c hf
      refine a_aload_n (q := 0) dX7_countSmall_11 rfl rfl ?_
      obtain ⟨v1, e2, hf⟩ := obd hf
      refine o_gfR dX7_countSmall_12 lk_X7_18 rfl e2 ?_
      refine a_aload_n (q := 0) dX7_countSmall_15 rfl rfl ?_
      obtain ⟨v3, e4, hf⟩ := obd hf
      refine o_gfI dX7_countSmall_16 lk_X7_40 rfl e4 ?_
      refine a_iload_n (q := 1) dX7_countSmall_19 rfl rfl ?_
      refine a_iadd dX7_countSmall_20 ?_
      obtain ⟨_, e8, hf⟩ := obd hf
      obtain ⟨v6, h7, e5, hf⟩ := ob2 hf
      refine a_callV (as := [.int (v3 + x1)]) (np := 1) (ci := 4) (st := []) (sX5_at E (D - 1) (by omega) e5) dX7_countSmall_21 rfl (by omega) (by decide) cw_X7_36 ⟨wd_313, wd_314⟩ rfl (ckT_s e8) rfl (Nat.le_of_ble_eq_true rfl) ?_
      obtain ⟨v10, h11, e9, hf⟩ := ob2 hf
      refine a_callS (as := [.int v6]) (np := 1) (st := []) (sX13_isSmall E (D - 1) (by omega) e9) dX7_countSmall_24 rfl (by omega) (by decide) cw_X7_244 wd_626 rfl (Nat.le_of_ble_eq_true rfl) ?_
      refine a_if_eq (tgt := 40) dX7_countSmall_27 (by decide) (fun c => ?_) (fun c => ?_)
      · have hf := ifp c hf
        obtain ⟨rfl, rfl⟩ := oc2 hf
        exact AW.sub [1] rfl (hk0)
      · have hf := ifn c hf
        refine a_iload_n (q := 1) dX7_countSmall_30 rfl rfl ?_
        refine a_iconst (v := 1) dX7_countSmall_31 (by decide) ?_
        refine a_iadd dX7_countSmall_32 ?_
        refine a_istore_n (lv1 := [(1, .int (x1 + 1)), (0, .ref x0), (2, .int x2)]) dX7_countSmall_33 rfl (by decide) rfl ?_
        refine a_iinc (q := 2) (v := (x2 + 1)) (lv1 := [(2, .int (x2 + 1)), (1, .int (x1 + 1)), (0, .ref x0)]) dX7_countSmall_34 rfl (by rfl) (by decide) rfl ?_
        refine a_goto (tgt := 4) dX7_countSmall_37 (by decide) ?_
        exact AW.sub [2, 1, 0] rfl (ih _ _ _ _ _ _ hf hk0)
set_option maxHeartbeats 4000000 in
set_option maxRecDepth 100000 in
theorem sX7_countSmall (E : gE) (D : Nat) (hD : 1 ≤ D) {a0 : Nat} {h hz : hp} {v0 : Int32} (hf : fX7_countSmall a0 h = some (v0, hz)) : MC E yX7_countSmall cX7_countSmall (Option.some Jvm.ClassFile.FieldType.int) 3 D [.ref a0] h (some (.int v0)) hz := by
  refine MC.of (by decide +kernel) (Nat.le_of_ble_eq_true rfl) rfl ?_
  unfold fX7_countSmall at hf
  show AW E yX7_countSmall cX7_countSmall (Option.some Jvm.ClassFile.FieldType.int) 3 D (some (.int v0)) h hz 0 [(0, .ref a0)] [] h
  refine a_iconst (v := 0) dX7_countSmall_0 (by decide) ?_
  refine a_istore_n (lv1 := [(1, .int 0), (0, .ref a0)]) dX7_countSmall_1 rfl (by decide) rfl ?_
  refine a_iconst (v := 0) dX7_countSmall_2 (by decide) ?_
  refine a_istore_n (lv1 := [(2, .int 0), (1, .int 0), (0, .ref a0)]) dX7_countSmall_3 rfl (by decide) rfl ?_
  obtain ⟨v3, h2, e1, hf⟩ := ob2 hf
  refine AW.sub [2, 1, 0] rfl (sX7_countSmall_l4 E D hD _ _ _ _ _ _ _ e1 ?_)
  refine a_iload_n (q := 0) dX7_countSmall_40 rfl rfl ?_
  obtain ⟨rfl, rfl⟩ := oc2 hf
  exact a_ireturn dX7_countSmall_41 rfl
def fX13_isFigure (a0 : Int32) (h : hp) : Option (Int32 × hp) :=
  if a0 < 48 then (
    some (0, h)
  ) else (
    if 57 < a0 then (
      some (0, h)
    ) else (
      some (1, h)
    )
  )
set_option maxHeartbeats 4000000 in
set_option maxRecDepth 100000 in
theorem sX13_isFigure (E : gE) (D : Nat) (hD : 0 ≤ D) {a0 : Int32} {h hz : hp} {v0 : Int32} (hf : fX13_isFigure a0 h = some (v0, hz)) : MC E yX13_isFigure cX13_isFigure (Option.some Jvm.ClassFile.FieldType.boolean) 1 D [.int a0] h (some (.int v0)) hz := by
  refine MC.of (by decide +kernel) (Nat.le_of_ble_eq_true rfl) rfl ?_
  unfold fX13_isFigure at hf
  show AW E yX13_isFigure cX13_isFigure (Option.some Jvm.ClassFile.FieldType.boolean) 1 D (some (.int v0)) h hz 0 [(0, .int a0)] [] h
  refine a_iload_n (q := 0) dX13_isFigure_0 rfl rfl ?_
  refine a_bipush (v := 48) dX13_isFigure_1 (by decide) ?_
  refine a_icmp_lt (tgt := 16) dX13_isFigure_3 (by decide) (fun c => ?_) (fun c => ?_)
  · have hf := ifp c hf
    refine a_iconst (v := 0) dX13_isFigure_16 (by decide) ?_
    obtain ⟨rfl, rfl⟩ := oc2 hf
    exact a_zreturn dX13_isFigure_17 rfl (by decide)
  · have hf := ifn c hf
    refine a_iload_n (q := 0) dX13_isFigure_6 rfl rfl ?_
    refine a_bipush (v := 57) dX13_isFigure_7 (by decide) ?_
    refine a_icmp_gt (tgt := 16) dX13_isFigure_9 (by decide) (fun c => ?_) (fun c => ?_)
    · have hf := ifp c hf
      refine a_iconst (v := 0) dX13_isFigure_16 (by decide) ?_
      obtain ⟨rfl, rfl⟩ := oc2 hf
      exact a_zreturn dX13_isFigure_17 rfl (by decide)
    · have hf := ifn c hf
      refine a_iconst (v := 1) dX13_isFigure_12 (by decide) ?_
      refine a_goto (tgt := 17) dX13_isFigure_13 (by decide) ?_
      obtain ⟨rfl, rfl⟩ := oc2 hf
      exact a_zreturn dX13_isFigure_17 rfl (by decide)
def fX7_readFigures_l9 : Nat → Nat → Int32 → Int32 → Int32 → hp → Option (Int32 × hp)
  | 0, _, _, _, _, _ => none
  | n + 1, x0, x1, x2, x3, h =>
    if 5 ≤ x3 then (
      some (x1, h)
    ) else (
      (ckT h x0 6).bind fun _ =>
      bd2 (fX7_peek x0 h) fun v2 h3 =>
      bd2 (fX13_isFigure v2 h3) fun v6 h7 =>
      if v6 = 0 then (
        some (x1, h7)
      ) else (
        (ckT h7 x0 6).bind fun _ =>
        bd2 (fX7_peek x0 h7) fun v9 h10 =>
        (gfI h10 x0 6 2).bind fun v12 =>
        (pfI h10 x0 6 2 (v12 + 1)).bind fun h14 =>
        fX7_readFigures_l9 n x0 (((x1 * 10) + v9) - 48) x2 (x3 + 1) h14
      )
    )
def fX7_readFigures (a0 : Nat) (h : hp) : Option (Int32 × hp) :=
  (gfI h a0 6 2).bind fun v1 =>
  bd2 (fX7_readFigures_l9 FU a0 0 v1 0 h) fun v5 h4 =>
  (gfI h4 a0 6 2).bind fun v6 =>
  if v6 = v1 then (
    (ckT h4 a0 6).bind fun _ =>
    (fX7_refuse a0 h4).bind fun h9 =>
    some (v5, h9)
  ) else (
    some (v5, h4)
  )
set_option maxHeartbeats 4000000 in
set_option maxRecDepth 100000 in
theorem sX7_readFigures_l9 (E : gE) (D : Nat) (hD : 1 ≤ D) {rz : Option Value} {h0 hz : hp} : ∀ (n : Nat) (x0 : Nat) (x1 : Int32) (x2 : Int32) (x3 : Int32) (h : hp) (m1 : Int32) (hq : hp), fX7_readFigures_l9 n x0 x1 x2 x3 h = some (m1, hq) → (AW E yX7_readFigures cX7_readFigures (Option.some Jvm.ClassFile.FieldType.int) 4 D rz h0 hz 53 [(0, .ref x0), (1, .int m1), (2, .int x2)] [] hq) → AW E yX7_readFigures cX7_readFigures (Option.some Jvm.ClassFile.FieldType.int) 4 D rz h0 hz 9 [(0, .ref x0), (1, .int x1), (2, .int x2), (3, .int x3)] [] h := by
  intro n
  induction n with
  | zero =>
    intro x0 x1 x2 x3 h m1 hq hf _
    rw [fX7_readFigures_l9] at hf
    cases hf
  | succ n ih =>
    intro x0 x1 x2 x3 h m1 hq hf hk0
    rw [fX7_readFigures_l9] at hf
    refine a_iload_n (q := 3) dX7_readFigures_9 rfl rfl ?_
    refine a_iconst (v := 5) dX7_readFigures_10 (by decide) ?_
    refine a_icmp_ge (tgt := 53) dX7_readFigures_11 (by decide) (fun c => ?_) (fun c => ?_)
    · have hf := ifp c hf
      obtain ⟨rfl, rfl⟩ := oc2 hf
      exact AW.sub [0, 1, 2] rfl (hk0)
    · have hf := ifn c hf
      refine a_aload_n (q := 0) dX7_readFigures_14 rfl rfl ?_
      obtain ⟨_, e4, hf⟩ := obd hf
      obtain ⟨v2, h3, e1, hf⟩ := ob2 hf
      refine a_callV (as := []) (np := 0) (ci := 6) (st := []) (sX7_peek E (D - 1) (by omega) e1) dX7_readFigures_15 rfl (by omega) (by decide) cw_X7_77 ⟨wd_483, ws_4⟩ rfl (ckT_s e4) rfl (Nat.le_of_ble_eq_true rfl) ?_
      obtain ⟨v6, h7, e5, hf⟩ := ob2 hf
      refine a_callS (as := [.int v2]) (np := 1) (st := []) (sX13_isFigure E (D - 1) (by omega) e5) dX7_readFigures_18 rfl (by omega) (by decide) cw_X7_88 wd_614 rfl (Nat.le_of_ble_eq_true rfl) ?_
      refine a_if_eq (tgt := 53) dX7_readFigures_21 (by decide) (fun c => ?_) (fun c => ?_)
      · have hf := ifp c hf
        obtain ⟨rfl, rfl⟩ := oc2 hf
        exact AW.sub [0, 1, 2] rfl (hk0)
      · have hf := ifn c hf
        refine a_iload_n (q := 1) dX7_readFigures_24 rfl rfl ?_
        refine a_bipush (v := 10) dX7_readFigures_25 (by decide) ?_
        refine a_imul dX7_readFigures_27 ?_
        refine a_aload_n (q := 0) dX7_readFigures_28 rfl rfl ?_
        obtain ⟨_, e11, hf⟩ := obd hf
        obtain ⟨v9, h10, e8, hf⟩ := ob2 hf
        refine a_callV (as := []) (np := 0) (ci := 6) (st := [.int (x1 * 10)]) (sX7_peek E (D - 1) (by omega) e8) dX7_readFigures_29 rfl (by omega) (by decide) cw_X7_77 ⟨wd_483, ws_4⟩ rfl (ckT_s e11) rfl (Nat.le_of_ble_eq_true rfl) ?_
        refine a_iadd dX7_readFigures_32 ?_
        refine a_bipush (v := 48) dX7_readFigures_33 (by decide) ?_
        refine a_isub dX7_readFigures_35 ?_
        refine a_istore_n (lv1 := [(1, .int (((x1 * 10) + v9) - 48)), (0, .ref x0), (2, .int x2), (3, .int x3)]) dX7_readFigures_36 rfl (by decide) rfl ?_
        refine a_aload_n (q := 1) dX7_readFigures_37 rfl rfl ?_
        refine a_aload_n (q := 1) dX7_readFigures_38 rfl rfl ?_
        obtain ⟨v12, e13, hf⟩ := obd hf
        refine o_gfI dX7_readFigures_39 lk_X7_40 rfl e13 ?_
        refine a_iconst (v := 1) dX7_readFigures_42 (by decide) ?_
        refine a_iadd dX7_readFigures_43 ?_
        obtain ⟨h14, e15, hf⟩ := obd hf
        refine o_pfI dX7_readFigures_44 lk_X7_40 (⟨_, rfl, Or.inl rfl⟩) rfl e15 ?_
        refine a_iinc (q := 3) (v := (x3 + 1)) (lv1 := [(3, .int (x3 + 1)), (1, .int (((x1 * 10) + v9) - 48)), (0, .ref x0), (2, .int x2)]) dX7_readFigures_47 rfl (by rfl) (by decide) rfl ?_
        refine a_goto (tgt := 9) dX7_readFigures_50 (by decide) ?_
        exact AW.sub [2, 1, 3, 0] rfl (ih _ _ _ _ _ _ _ hf hk0)
set_option maxHeartbeats 4000000 in
set_option maxRecDepth 100000 in
theorem sX7_readFigures (E : gE) (D : Nat) (hD : 1 ≤ D) {a0 : Nat} {h hz : hp} {v0 : Int32} (hf : fX7_readFigures a0 h = some (v0, hz)) : MC E yX7_readFigures cX7_readFigures (Option.some Jvm.ClassFile.FieldType.int) 4 D [.ref a0] h (some (.int v0)) hz := by
  refine MC.of (by decide +kernel) (Nat.le_of_ble_eq_true rfl) rfl ?_
  unfold fX7_readFigures at hf
  show AW E yX7_readFigures cX7_readFigures (Option.some Jvm.ClassFile.FieldType.int) 4 D (some (.int v0)) h hz 0 [(0, .ref a0)] [] h
  refine a_iconst (v := 0) dX7_readFigures_0 (by decide) ?_
  refine a_istore_n (lv1 := [(1, .int 0), (0, .ref a0)]) dX7_readFigures_1 rfl (by decide) rfl ?_
  refine a_aload_n (q := 1) dX7_readFigures_2 rfl rfl ?_
  obtain ⟨v1, e2, hf⟩ := obd hf
  refine o_gfI dX7_readFigures_3 lk_X7_40 rfl e2 ?_
  refine a_istore_n (lv1 := [(2, .int v1), (1, .int 0), (0, .ref a0)]) dX7_readFigures_6 rfl (by decide) rfl ?_
  refine a_iconst (v := 0) dX7_readFigures_7 (by decide) ?_
  refine a_istore_n (lv1 := [(3, .int 0), (2, .int v1), (1, .int 0), (0, .ref a0)]) dX7_readFigures_8 rfl (by decide) rfl ?_
  obtain ⟨v5, h4, e3, hf⟩ := ob2 hf
  refine AW.sub [3, 2, 1, 0] rfl (sX7_readFigures_l9 E D hD _ _ _ _ _ _ _ _ e3 ?_)
  refine a_aload_n (q := 0) dX7_readFigures_53 rfl rfl ?_
  obtain ⟨v6, e7, hf⟩ := obd hf
  refine o_gfI dX7_readFigures_54 lk_X7_40 rfl e7 ?_
  refine a_iload_n (q := 2) dX7_readFigures_57 rfl rfl ?_
  refine a_icmp_ne (tgt := 65) dX7_readFigures_58 (by decide) (fun c => ?_) (fun c => ?_)
  · have hf := ifn c hf
    refine a_iload_n (q := 1) dX7_readFigures_65 rfl rfl ?_
    obtain ⟨rfl, rfl⟩ := oc2 hf
    exact a_ireturn dX7_readFigures_66 rfl
  · have hf := ifp c hf
    refine a_aload_n (q := 0) dX7_readFigures_61 rfl rfl ?_
    obtain ⟨_, e10, hf⟩ := obd hf
    obtain ⟨h9, e8, hf⟩ := obd hf
    refine a_callV (as := []) (np := 0) (ci := 6) (st := []) (sX7_refuse E (D - 1) (by omega) e8) dX7_readFigures_62 rfl (by omega) (by decide) cw_X7_70 ⟨wd_488, ws_5⟩ rfl (ckT_s e10) rfl (Nat.le_of_ble_eq_true rfl) ?_
    refine a_iload_n (q := 1) dX7_readFigures_65 rfl rfl ?_
    obtain ⟨rfl, rfl⟩ := oc2 hf
    exact a_ireturn dX7_readFigures_66 rfl
def fX7_readFilters_l6 : Nat → Nat → Nat → Nat → Int32 → hp → Option (Nat × Nat × hp)
  | 0, _, _, _, _, _ => none
  | n + 1, x0, x1, x2, x3, h =>
    if 160 < x3 then (
      some (2, x1, h)
    ) else (
      (gfI h x0 6 4).bind fun v1 =>
      if 0 ≤ v1 then (
        some (2, x1, h)
      ) else (
        (ckT h x0 6).bind fun _ =>
        bd2 (fX7_countSmall x0 h) fun v4 h5 =>
        (gfR h5 x0 6 0).bind fun v7 =>
        (gfI h5 x0 6 2).bind fun v9 =>
        bd2 (fX3_called v7 v9 v4 h5) fun v12 h13 =>
        if v12 = 0 then (
          some (0, x1, h13)
        ) else (
          (gfI h13 x0 6 2).bind fun v14 =>
          (pfI h13 x0 6 2 (v14 + v4)).bind fun h16 =>
          bd2 (nwO h16 3 3) fun v18 h19 =>
          (ckT h19 v18 3).bind fun _ =>
          (fX4_init v18 v12 h19).bind fun h22 =>
          jn (fun (p90_1 : Nat) (h90j : hp) => (
            (gsC v12).bind fun v24 =>
            jn (fun (h116j : hp) => (
              (ckT h116j x0 6).bind fun _ =>
              bd2 (fX7_peek x0 h116j) fun v27 h28 =>
              if v27 = 124 then (
                (gfI h28 x0 6 2).bind fun v30 =>
                (pfI h28 x0 6 2 (v30 + 1)).bind fun h32 =>
                fX7_readFilters_l6 n x0 p90_1 v18 (x3 + 1) h32
              ) else (
                some (1, p90_1, h28)
              )
              : Option (Nat × Nat × hp))) fun k116 =>
            if v24 = 0 then (
              k116 h90j
            ) else (
              (ckT h90j x0 6).bind fun _ =>
              (fX7_expect x0 58 h90j).bind fun h35 =>
              (ckT h35 x0 6).bind fun _ =>
              bd2 (fX7_readFigures x0 h35) fun v38 h39 =>
              (pfI h39 v18 3 1 v38).bind fun h41 =>
              k116 h41
            )
            : Option (Nat × Nat × hp))) fun k90 =>
          if x2 = 0 then (
            k90 v18 h22
          ) else (
            (pfR h22 x2 3 2 v18).bind fun h43 =>
            k90 x1 h43
          )
        )
      )
    )
def fX7_readFilters (a0 : Nat) (h : hp) : Option (Nat × hp) :=
  bd3 (fX7_readFilters_l6 FU a0 0 0 0 h) fun t4 v3 h2 =>
  if t4 = 0 then (
    (ckT h2 a0 6).bind fun _ =>
    (fX7_refuse a0 h2).bind fun h6 =>
    some (v3, h6)
  ) else
  if t4 = 1 then (
    some (v3, h2)
  ) else
  if t4 = 2 then (
    some (v3, h2)
  ) else none
set_option maxHeartbeats 4000000 in
set_option maxRecDepth 100000 in
theorem sX7_readFilters_l6 (E : gE) (D : Nat) (hD : 7 ≤ D) {rz : Option Value} {h0 hz : hp} : ∀ (n : Nat) (x0 : Nat) (x1 : Nat) (x2 : Nat) (x3 : Int32) (h : hp) (tq : Nat) (m1 : Nat) (hq : hp), fX7_readFilters_l6 n x0 x1 x2 x3 h = some (tq, m1, hq) → (tq = 0 → AW E yX7_readFilters cX7_readFilters (Option.some (Jvm.ClassFile.FieldType.object "TemplatePress$FilterUse")) 7 D rz h0 hz 46 [(0, .ref x0), (1, .ref m1)] [] hq) → (tq = 1 → AW E yX7_readFilters cX7_readFilters (Option.some (Jvm.ClassFile.FieldType.object "TemplatePress$FilterUse")) 7 D rz h0 hz 125 [(1, .ref m1)] [] hq) → (tq = 2 → AW E yX7_readFilters cX7_readFilters (Option.some (Jvm.ClassFile.FieldType.object "TemplatePress$FilterUse")) 7 D rz h0 hz 143 [(1, .ref m1)] [] hq) → AW E yX7_readFilters cX7_readFilters (Option.some (Jvm.ClassFile.FieldType.object "TemplatePress$FilterUse")) 7 D rz h0 hz 6 [(0, .ref x0), (1, .ref x1), (2, .ref x2), (3, .int x3)] [] h := by
  intro n
  induction n with
  | zero =>
    intro x0 x1 x2 x3 h tq m1 hq hf _ _ _
    rw [fX7_readFilters_l6] at hf
    cases hf
  | succ n ih =>
    intro x0 x1 x2 x3 h tq m1 hq hf hk0 hk1 hk2
    rw [fX7_readFilters_l6] at hf
    refine a_iload_n (q := 3) dX7_readFilters_6 rfl rfl ?_
    refine a_sipush (v := 160) dX7_readFilters_7 (by decide) ?_
    refine a_icmp_gt (tgt := 143) dX7_readFilters_10 (by decide) (fun c => ?_) (fun c => ?_)
    · have hf := ifp c hf
      obtain ⟨rfl, rfl, rfl⟩ := oc3 hf
      exact AW.sub [1] rfl (hk2 rfl)
    · have hf := ifn c hf
      refine a_aload_n (q := 0) dX7_readFilters_13 rfl rfl ?_
      obtain ⟨v1, e2, hf⟩ := obd hf
      refine o_gfI dX7_readFilters_14 lk_X7_15 rfl e2 ?_
      refine a_if_ge (tgt := 143) dX7_readFilters_17 (by decide) (fun c => ?_) (fun c => ?_)
      · have hf := ifp c hf
        obtain ⟨rfl, rfl, rfl⟩ := oc3 hf
        exact AW.sub [1] rfl (hk2 rfl)
      · have hf := ifn c hf
        refine a_aload_n (q := 0) dX7_readFilters_20 rfl rfl ?_
        obtain ⟨_, e6, hf⟩ := obd hf
        obtain ⟨v4, h5, e3, hf⟩ := ob2 hf
        refine a_callV (as := []) (np := 0) (ci := 6) (st := []) (sX7_countSmall E (D - 1) (by omega) e3) dX7_readFilters_21 rfl (by omega) (by decide) cw_X7_222 ⟨wd_623, ws_19⟩ rfl (ckT_s e6) rfl (Nat.le_of_ble_eq_true rfl) ?_
        refine a_istore (lv1 := [(4, .int v4), (0, .ref x0), (1, .ref x1), (2, .ref x2), (3, .int x3)]) dX7_readFilters_24 (by decide) rfl ?_
        refine a_aload_n (q := 1) dX7_readFilters_26 rfl rfl ?_
        obtain ⟨v7, e8, hf⟩ := obd hf
        refine o_gfR dX7_readFilters_27 lk_X7_18 rfl e8 ?_
        refine a_aload_n (q := 1) dX7_readFilters_30 rfl rfl ?_
        obtain ⟨v9, e10, hf⟩ := obd hf
        refine o_gfI dX7_readFilters_31 lk_X7_40 rfl e10 ?_
        refine a_iload (q := 0) dX7_readFilters_34 rfl ?_
        obtain ⟨v12, h13, e11, hf⟩ := ob2 hf
        refine a_callS (as := [.ref v7, .int v9, .int v4]) (np := 3) (st := []) (sX3_called E (D - 1) (by omega) e11) dX7_readFilters_36 rfl (by omega) (by decide) cw_X7_225 wd_629 rfl (Nat.le_of_ble_eq_true rfl) ?_
        refine a_astore (lv1 := [(5, .ref v12), (4, .int v4), (0, .ref x0), (1, .ref x1), (2, .ref x2), (3, .int x3)]) dX7_readFilters_39 (by decide) rfl ?_
        refine a_aload (q := 0) dX7_readFilters_41 rfl ?_
        refine a_ifnonnull (tgt := 52) dX7_readFilters_43 (by decide) (fun c => ?_) (fun c => ?_)
        · have hf := ifn c hf
          refine a_aload_n (q := 2) dX7_readFilters_52 rfl rfl ?_
          refine a_aload_n (q := 2) dX7_readFilters_53 rfl rfl ?_
          obtain ⟨v14, e15, hf⟩ := obd hf
          refine o_gfI dX7_readFilters_54 lk_X7_40 rfl e15 ?_
          refine a_iload (q := 1) dX7_readFilters_57 rfl ?_
          refine a_iadd dX7_readFilters_59 ?_
          obtain ⟨h16, e17, hf⟩ := obd hf
          refine o_pfI dX7_readFilters_60 lk_X7_40 (⟨_, rfl, Or.inl rfl⟩) rfl e17 ?_
          obtain ⟨v18, h19, e20, hf⟩ := ob2 hf
          refine o_nwO (ci := 3) dX7_readFilters_63 rfl rfl gu_3 tyX4_ok (by decide) wd_686 wd_687 wd_21 e20 ?_
          refine a_dup dX7_readFilters_66 rfl ?_
          refine a_aload (q := 0) dX7_readFilters_67 rfl ?_
          obtain ⟨_, e23, hf⟩ := obd hf
          obtain ⟨h22, e21, hf⟩ := obd hf
          refine a_callI (as := [.ref v12]) (np := 1) (ci := 3) (st := [.ref v18]) (sX4_init E (D - 1) (by omega) e21) dX7_readFilters_69 rfl (by omega) (by decide) cw_X7_233 ⟨wd_689, rfl⟩ rfl (ckT_s e23) rfl (Nat.le_of_ble_eq_true rfl) ?_
          refine a_astore (lv1 := [(6, .ref v18), (5, .ref v12), (4, .int v4), (0, .ref x0), (1, .ref x1), (2, .ref x2), (3, .int x3)]) dX7_readFilters_72 (by decide) rfl ?_
          refine a_aload_n (q := 5) dX7_readFilters_74 rfl rfl ?_
          obtain ⟨k90, ek90, hf⟩ := jn_s hf
          have hj90 : ∀ (p90_1 : Nat) (h90j : hp), k90 p90_1 h90j = some (tq, m1, hq) → AW E yX7_readFilters cX7_readFilters (Option.some (Jvm.ClassFile.FieldType.object "TemplatePress$FilterUse")) 7 D rz h0 hz 90 [(0, .ref x0), (1, .ref p90_1), (3, .int x3), (5, .ref v12), (6, .ref v18)] [] h90j := by
            intro p90_1 h90j hf
            rw [ek90] at hf
            clear ek90
            refine a_aload (q := 4) dX7_readFilters_90 rfl ?_
            refine a_astore_n (lv1 := [(2, .ref v18), (0, .ref x0), (1, .ref p90_1), (3, .int x3), (5, .ref v12), (6, .ref v18)]) dX7_readFilters_92 rfl (by decide) rfl ?_
            refine a_aload (q := 4) dX7_readFilters_93 rfl ?_
            obtain ⟨v24, e25, hf⟩ := obd hf
            refine o_gsC dX7_readFilters_95 (Or.inr ⟨_, wn_1846⟩) e25 ?_
            obtain ⟨k116, ek116, hf⟩ := jn_s hf
            have hj116 : ∀ (h116j : hp), k116 h116j = some (tq, m1, hq) → AW E yX7_readFilters cX7_readFilters (Option.some (Jvm.ClassFile.FieldType.object "TemplatePress$FilterUse")) 7 D rz h0 hz 116 [(0, .ref x0), (1, .ref p90_1), (2, .ref v18), (3, .int x3)] [] h116j := by
              intro h116j hf
              rw [ek116] at hf
              clear ek116
              refine a_aload_n (q := 0) dX7_readFilters_116 rfl rfl ?_
              obtain ⟨_, e29, hf⟩ := obd hf
              obtain ⟨v27, h28, e26, hf⟩ := ob2 hf
              refine a_callV (as := []) (np := 0) (ci := 6) (st := []) (sX7_peek E (D - 1) (by omega) e26) dX7_readFilters_117 rfl (by omega) (by decide) cw_X7_77 ⟨wd_483, ws_4⟩ rfl (ckT_s e29) rfl (Nat.le_of_ble_eq_true rfl) ?_
              refine a_bipush (v := 124) dX7_readFilters_120 (by decide) ?_
              refine a_icmp_eq (tgt := 127) dX7_readFilters_122 (by decide) (fun c => ?_) (fun c => ?_)
              · have hf := ifp c hf
                refine a_aload_n (q := 0) dX7_readFilters_127 rfl rfl ?_
                refine a_aload_n (q := 0) dX7_readFilters_128 rfl rfl ?_
                obtain ⟨v30, e31, hf⟩ := obd hf
                refine o_gfI dX7_readFilters_129 lk_X7_40 rfl e31 ?_
                refine a_iconst (v := 1) dX7_readFilters_132 (by decide) ?_
                refine a_iadd dX7_readFilters_133 ?_
                obtain ⟨h32, e33, hf⟩ := obd hf
                refine o_pfI dX7_readFilters_134 lk_X7_40 (⟨_, rfl, Or.inl rfl⟩) rfl e33 ?_
                refine a_iinc (q := 3) (v := (x3 + 1)) (lv1 := [(3, .int (x3 + 1)), (0, .ref x0), (1, .ref p90_1), (2, .ref v18)]) dX7_readFilters_137 rfl (by rfl) (by decide) rfl ?_
                refine a_goto (tgt := 6) dX7_readFilters_140 (by decide) ?_
                exact AW.sub [1, 2, 3, 0] rfl (ih _ _ _ _ _ _ _ _ hf hk0 hk1 hk2)
              · have hf := ifn c hf
                obtain ⟨rfl, rfl, rfl⟩ := oc3 hf
                exact AW.sub [1] rfl (hk1 rfl)
            clear ek116
            refine a_if_eq (tgt := 116) dX7_readFilters_98 (by decide) (fun c => ?_) (fun c => ?_)
            · have hf := ifp c hf
              exact AW.sub [1, 2, 0, 3] rfl (hj116 _ hf)
            · have hf := ifn c hf
              refine a_aload_n (q := 1) dX7_readFilters_101 rfl rfl ?_
              refine a_bipush (v := 58) dX7_readFilters_102 (by decide) ?_
              obtain ⟨_, e36, hf⟩ := obd hf
              obtain ⟨h35, e34, hf⟩ := obd hf
              refine a_callV (as := [.int 58]) (np := 1) (ci := 6) (st := []) (sX7_expect E (D - 1) (by omega) e34) dX7_readFilters_104 rfl (by omega) (by decide) cw_X7_52 ⟨wd_492, ws_6⟩ rfl (ckT_s e36) rfl (Nat.le_of_ble_eq_true rfl) ?_
              refine a_aload (q := 5) dX7_readFilters_107 rfl ?_
              refine a_aload_n (q := 1) dX7_readFilters_109 rfl rfl ?_
              obtain ⟨_, e40, hf⟩ := obd hf
              obtain ⟨v38, h39, e37, hf⟩ := ob2 hf
              refine a_callV (as := []) (np := 0) (ci := 6) (st := [.ref v18]) (sX7_readFigures E (D - 1) (by omega) e37) dX7_readFilters_110 rfl (by omega) (by decide) cw_X7_205 ⟨wd_611, ws_17⟩ rfl (ckT_s e40) rfl (Nat.le_of_ble_eq_true rfl) ?_
              obtain ⟨h41, e42, hf⟩ := obd hf
              refine o_pfI dX7_readFilters_113 lk_X7_241 (⟨_, rfl, Or.inl rfl⟩) rfl e42 ?_
              exact AW.sub [1, 2, 0, 3] rfl (hj116 _ hf)
          clear ek90
          refine a_ifnonnull (tgt := 84) dX7_readFilters_75 (by decide) (fun c => ?_) (fun c => ?_)
          · have hf := ifn c hf
            refine a_aload_n (q := 5) dX7_readFilters_84 rfl rfl ?_
            refine a_aload (q := 0) dX7_readFilters_85 rfl ?_
            obtain ⟨h43, e44, hf⟩ := obd hf
            refine o_pfR dX7_readFilters_87 lk_X7_236 (⟨_, rfl, Or.inl rfl⟩) rfl e44 ?_
            exact AW.sub [3, 4, 6, 1, 0] rfl (hj90 _ _ hf)
          · have hf := ifp c hf
            refine a_aload (q := 0) dX7_readFilters_78 rfl ?_
            refine a_astore_n (lv1 := [(1, .ref v18), (6, .ref v18), (5, .ref v12), (4, .int v4), (0, .ref x0), (2, .ref x2), (3, .int x3)]) dX7_readFilters_80 rfl (by decide) rfl ?_
            refine a_goto (tgt := 90) dX7_readFilters_81 (by decide) ?_
            exact AW.sub [4, 0, 6, 2, 1] rfl (hj90 _ _ hf)
        · have hf := ifp c hf
          obtain ⟨rfl, rfl, rfl⟩ := oc3 hf
          exact AW.sub [2, 3] rfl (hk0 rfl)
set_option maxHeartbeats 4000000 in
set_option maxRecDepth 100000 in
theorem sX7_readFilters (E : gE) (D : Nat) (hD : 7 ≤ D) {a0 : Nat} {h hz : hp} {v0 : Nat} (hf : fX7_readFilters a0 h = some (v0, hz)) : MC E yX7_readFilters cX7_readFilters (Option.some (Jvm.ClassFile.FieldType.object "TemplatePress$FilterUse")) 7 D [.ref a0] h (some (.ref v0)) hz := by
  refine MC.of (by decide +kernel) (Nat.le_of_ble_eq_true rfl) rfl ?_
  unfold fX7_readFilters at hf
  show AW E yX7_readFilters cX7_readFilters (Option.some (Jvm.ClassFile.FieldType.object "TemplatePress$FilterUse")) 7 D (some (.ref v0)) h hz 0 [(0, .ref a0)] [] h
  refine a_null dX7_readFilters_0 ?_
  refine a_astore_n (lv1 := [(1, .ref 0), (0, .ref a0)]) dX7_readFilters_1 rfl (by decide) rfl ?_
  refine a_null dX7_readFilters_2 ?_
  refine a_astore_n (lv1 := [(2, .ref 0), (1, .ref 0), (0, .ref a0)]) dX7_readFilters_3 rfl (by decide) rfl ?_
  refine a_iconst (v := 0) dX7_readFilters_4 (by decide) ?_
  refine a_istore_n (lv1 := [(3, .int 0), (2, .ref 0), (1, .ref 0), (0, .ref a0)]) dX7_readFilters_5 rfl (by decide) rfl ?_
  obtain ⟨t4, v3, h2, e1, hf⟩ := ob3 hf
  refine AW.sub [3, 2, 1, 0] rfl (sX7_readFilters_l6 E D hD _ _ _ _ _ _ _ _ _ e1 (fun c => ?_) (fun c => ?_) (fun c => ?_))
  · have hf := ifp c hf
    refine a_aload_n (q := 0) dX7_readFilters_46 rfl rfl ?_
    obtain ⟨_, e7, hf⟩ := obd hf
    obtain ⟨h6, e5, hf⟩ := obd hf
    refine a_callV (as := []) (np := 0) (ci := 6) (st := []) (sX7_refuse E (D - 1) (by omega) e5) dX7_readFilters_47 rfl (by omega) (by decide) cw_X7_70 ⟨wd_488, ws_5⟩ rfl (ckT_s e7) rfl (Nat.le_of_ble_eq_true rfl) ?_
    refine a_aload_n (q := 1) dX7_readFilters_50 rfl rfl ?_
    obtain ⟨rfl, rfl⟩ := oc2 hf
    exact a_areturn dX7_readFilters_51 rfl (Or.inl ⟨_, rfl⟩)
  · have hf := ifn (by rw [c]; decide) hf
    have hf := ifp c hf
    refine a_aload_n (q := 0) dX7_readFilters_125 rfl rfl ?_
    obtain ⟨rfl, rfl⟩ := oc2 hf
    exact a_areturn dX7_readFilters_126 rfl (Or.inl ⟨_, rfl⟩)
  · have hf := ifn (by rw [c]; decide) hf
    have hf := ifn (by rw [c]; decide) hf
    have hf := ifp c hf
    refine a_aload_n (q := 0) dX7_readFilters_143 rfl rfl ?_
    obtain ⟨rfl, rfl⟩ := oc2 hf
    exact a_areturn dX7_readFilters_144 rfl (Or.inl ⟨_, rfl⟩)
def fX11_becomeInt (a0 : Nat) (a1 : Int32) (h : hp) : Option hp :=
  (pfI h a0 10 0 1).bind fun h1 =>
  (pfI h1 a0 10 1 a1).bind fun h3 =>
  (pfI h3 a0 10 3 0).bind fun h5 =>
  some h5
set_option maxHeartbeats 4000000 in
set_option maxRecDepth 100000 in
theorem sX11_becomeInt (E : gE) (D : Nat) (hD : 0 ≤ D) {a0 : Nat} {a1 : Int32} {h hz : hp} (hf : fX11_becomeInt a0 a1 h = some hz) : MC E yX11_becomeInt cX11_becomeInt (Option.none : Option Jvm.ClassFile.FieldType) 2 D [.ref a0, .int a1] h none hz := by
  refine MC.of (by decide +kernel) (Nat.le_of_ble_eq_true rfl) rfl ?_
  unfold fX11_becomeInt at hf
  show AW E yX11_becomeInt cX11_becomeInt (Option.none : Option Jvm.ClassFile.FieldType) 2 D none h hz 0 [(0, .ref a0), (1, .int a1)] [] h
  refine a_aload_n (q := 0) dX11_becomeInt_0 rfl rfl ?_
  refine a_iconst (v := 1) dX11_becomeInt_1 (by decide) ?_
  obtain ⟨h1, e2, hf⟩ := obd hf
  refine o_pfI dX11_becomeInt_2 lk_X11_23 (⟨_, rfl, Or.inl rfl⟩) rfl e2 ?_
  refine a_aload_n (q := 0) dX11_becomeInt_5 rfl rfl ?_
  refine a_iload_n (q := 1) dX11_becomeInt_6 rfl rfl ?_
  obtain ⟨h3, e4, hf⟩ := obd hf
  refine o_pfI dX11_becomeInt_7 lk_X11_26 (⟨_, rfl, Or.inl rfl⟩) rfl e4 ?_
  refine a_aload_n (q := 0) dX11_becomeInt_10 rfl rfl ?_
  refine a_iconst (v := 0) dX11_becomeInt_11 (by decide) ?_
  obtain ⟨h5, e6, hf⟩ := obd hf
  refine o_pfI dX11_becomeInt_12 lk_X11_19 (⟨_, rfl, Or.inl rfl⟩) rfl e6 ?_
  obtain rfl := Option.some.inj hf
  exact a_return dX11_becomeInt_15 rfl
def fX11_init (a0 : Nat) (h : hp) : Option hp :=
  (ckT h a0 10).bind fun _ =>
  bd2 (nwA h 0 16) fun v2 h3 =>
  (pfR h3 a0 10 4 v2).bind fun h5 =>
  some h5
set_option maxHeartbeats 4000000 in
set_option maxRecDepth 100000 in
theorem sX11_init (E : gE) (D : Nat) (hD : 1 ≤ D) {a0 : Nat} {h hz : hp} (hf : fX11_init a0 h = some hz) : MC E yX11_init cX11_init (Option.none : Option Jvm.ClassFile.FieldType) 1 D [.ref a0] h none hz := by
  refine MC.of (by decide +kernel) (Nat.le_of_ble_eq_true rfl) rfl ?_
  unfold fX11_init at hf
  show AW E yX11_init cX11_init (Option.none : Option Jvm.ClassFile.FieldType) 1 D none h hz 0 [(0, .ref a0)] [] h
  refine a_aload_n (q := 0) dX11_init_0 rfl rfl ?_
  obtain ⟨_, e1, hf⟩ := obd hf
  refine o_objI dX11_init_1 (by omega) wd_68 wd_32 wd_33 (by decide) (ckT_s e1) (Nat.le_of_ble_eq_true rfl) ?_
  refine a_aload_n (q := 0) dX11_init_4 rfl rfl ?_
  refine a_bipush (v := 16) dX11_init_5 (by decide) ?_
  obtain ⟨v2, h3, e4, hf⟩ := ob2 hf
  refine o_nwI dX11_init_7 wd_63 e4 ?_
  obtain ⟨h5, e6, hf⟩ := obd hf
  refine o_pfR dX11_init_9 lk_X11_9 (⟨_, rfl, Or.inr ⟨rfl, rfl, rfl, wd_77⟩⟩) rfl e6 ?_
  obtain rfl := Option.some.inj hf
  exact a_return dX11_init_12 rfl
def fX7_readNumber (a0 : Nat) (h : hp) : Option (Nat × hp) :=
  bd2 (nwO h 10 5) fun v1 h2 =>
  (ckT h2 v1 10).bind fun _ =>
  (fX11_init v1 h2).bind fun h5 =>
  (ckT h5 a0 6).bind fun _ =>
  bd2 (fX7_peek a0 h5) fun v8 h9 =>
  jn (fun (s22_0 : Int32) (h22j : hp) => (
    jn (fun (h37j : hp) => (
      (ckT h37j a0 6).bind fun _ =>
      bd2 (fX7_readFigures a0 h37j) fun v12 h13 =>
      jn (fun (s53_0 : Int32) (h53j : hp) => (
        (ckT h53j v1 10).bind fun _ =>
        (fX11_becomeInt v1 s53_0 h53j).bind fun h16 =>
        some (v1, h16)
        : Option (Nat × hp))) fun k53 =>
      if s22_0 = 0 then (
        k53 v12 h13
      ) else (
        k53 (-v12) h13
      )
      : Option (Nat × hp))) fun k37 =>
    if s22_0 = 0 then (
      k37 h22j
    ) else (
      (gfI h22j a0 6 2).bind fun v18 =>
      (pfI h22j a0 6 2 (v18 + 1)).bind fun h20 =>
      k37 h20
    )
    : Option (Nat × hp))) fun k22 =>
  if v8 = 45 then (
    k22 1 h9
  ) else (
    k22 0 h9
  )
set_option maxHeartbeats 4000000 in
set_option maxRecDepth 100000 in
theorem sX7_readNumber (E : gE) (D : Nat) (hD : 2 ≤ D) {a0 : Nat} {h hz : hp} {v0 : Nat} (hf : fX7_readNumber a0 h = some (v0, hz)) : MC E yX7_readNumber cX7_readNumber (Option.some (Jvm.ClassFile.FieldType.object "TemplatePress$Value")) 4 D [.ref a0] h (some (.ref v0)) hz := by
  refine MC.of (by decide +kernel) (Nat.le_of_ble_eq_true rfl) rfl ?_
  unfold fX7_readNumber at hf
  show AW E yX7_readNumber cX7_readNumber (Option.some (Jvm.ClassFile.FieldType.object "TemplatePress$Value")) 4 D (some (.ref v0)) h hz 0 [(0, .ref a0)] [] h
  obtain ⟨v1, h2, e3, hf⟩ := ob2 hf
  refine o_nwO (ci := 10) dX7_readNumber_0 rfl rfl gu_10 tyX11_ok (by decide) wd_596 wd_64 wd_4 e3 ?_
  refine a_dup dX7_readNumber_3 rfl ?_
  obtain ⟨_, e6, hf⟩ := obd hf
  obtain ⟨h5, e4, hf⟩ := obd hf
  refine a_callI (as := []) (np := 0) (ci := 10) (st := [.ref v1]) (sX11_init E (D - 1) (by omega) e4) dX7_readNumber_4 rfl (by omega) (by decide) cw_X7_204 ⟨wd_66, rfl⟩ rfl (ckT_s e6) rfl (Nat.le_of_ble_eq_true rfl) ?_
  refine a_astore_n (lv1 := [(1, .ref v1), (0, .ref a0)]) dX7_readNumber_7 rfl (by decide) rfl ?_
  refine a_aload_n (q := 1) dX7_readNumber_8 rfl rfl ?_
  obtain ⟨_, e10, hf⟩ := obd hf
  obtain ⟨v8, h9, e7, hf⟩ := ob2 hf
  refine a_callV (as := []) (np := 0) (ci := 6) (st := []) (sX7_peek E (D - 1) (by omega) e7) dX7_readNumber_9 rfl (by omega) (by decide) cw_X7_77 ⟨wd_483, ws_4⟩ rfl (ckT_s e10) rfl (Nat.le_of_ble_eq_true rfl) ?_
  refine a_bipush (v := 45) dX7_readNumber_12 (by decide) ?_
  obtain ⟨k22, ek22, hf⟩ := jn_s hf
  have hj22 : ∀ (s22_0 : Int32) (h22j : hp), k22 s22_0 h22j = some (v0, hz) → AW E yX7_readNumber cX7_readNumber (Option.some (Jvm.ClassFile.FieldType.object "TemplatePress$Value")) 4 D (some (.ref v0)) h hz 22 [(0, .ref a0), (1, .ref v1)] [.int s22_0] h22j := by
    intro s22_0 h22j hf
    rw [ek22] at hf
    clear ek22
    refine a_istore_n (lv1 := [(2, .int s22_0), (0, .ref a0), (1, .ref v1)]) dX7_readNumber_22 rfl (by decide) rfl ?_
    refine a_iload_n (q := 0) dX7_readNumber_23 rfl rfl ?_
    obtain ⟨k37, ek37, hf⟩ := jn_s hf
    have hj37 : ∀ (h37j : hp), k37 h37j = some (v0, hz) → AW E yX7_readNumber cX7_readNumber (Option.some (Jvm.ClassFile.FieldType.object "TemplatePress$Value")) 4 D (some (.ref v0)) h hz 37 [(0, .ref a0), (1, .ref v1), (2, .int s22_0)] [] h37j := by
      intro h37j hf
      rw [ek37] at hf
      clear ek37
      refine a_aload_n (q := 0) dX7_readNumber_37 rfl rfl ?_
      obtain ⟨_, e14, hf⟩ := obd hf
      obtain ⟨v12, h13, e11, hf⟩ := ob2 hf
      refine a_callV (as := []) (np := 0) (ci := 6) (st := []) (sX7_readFigures E (D - 1) (by omega) e11) dX7_readNumber_38 rfl (by omega) (by decide) cw_X7_205 ⟨wd_611, ws_17⟩ rfl (ckT_s e14) rfl (Nat.le_of_ble_eq_true rfl) ?_
      refine a_istore_n (lv1 := [(3, .int v12), (0, .ref a0), (1, .ref v1), (2, .int s22_0)]) dX7_readNumber_41 rfl (by decide) rfl ?_
      refine a_aload_n (q := 2) dX7_readNumber_42 rfl rfl ?_
      refine a_iload_n (q := 3) dX7_readNumber_43 rfl rfl ?_
      obtain ⟨k53, ek53, hf⟩ := jn_s hf
      have hj53 : ∀ (s53_0 : Int32) (h53j : hp), k53 s53_0 h53j = some (v0, hz) → AW E yX7_readNumber cX7_readNumber (Option.some (Jvm.ClassFile.FieldType.object "TemplatePress$Value")) 4 D (some (.ref v0)) h hz 53 [(1, .ref v1)] [.int s53_0, .ref v1] h53j := by
        intro s53_0 h53j hf
        rw [ek53] at hf
        clear ek53
        obtain ⟨_, e17, hf⟩ := obd hf
        obtain ⟨h16, e15, hf⟩ := obd hf
        refine a_callV (as := [.int s53_0]) (np := 1) (ci := 10) (st := []) (sX11_becomeInt E (D - 1) (by omega) e15) dX7_readNumber_53 rfl (by omega) (by decide) cw_X7_208 ⟨wd_284, wd_285⟩ rfl (ckT_s e17) rfl (Nat.le_of_ble_eq_true rfl) ?_
        refine a_aload_n (q := 0) dX7_readNumber_56 rfl rfl ?_
        obtain ⟨rfl, rfl⟩ := oc2 hf
        exact a_areturn dX7_readNumber_57 rfl (Or.inl ⟨_, rfl⟩)
      clear ek53
      refine a_if_eq (tgt := 52) dX7_readNumber_44 (by decide) (fun c => ?_) (fun c => ?_)
      · have hf := ifp c hf
        refine a_iload_n (q := 0) dX7_readNumber_52 rfl rfl ?_
        exact AW.sub [2] rfl (hj53 _ _ hf)
      · have hf := ifn c hf
        refine a_iload_n (q := 0) dX7_readNumber_47 rfl rfl ?_
        refine a_ineg dX7_readNumber_48 ?_
        refine a_goto (tgt := 53) dX7_readNumber_49 (by decide) ?_
        exact AW.sub [2] rfl (hj53 _ _ hf)
    clear ek37
    refine a_if_eq (tgt := 37) dX7_readNumber_24 (by decide) (fun c => ?_) (fun c => ?_)
    · have hf := ifp c hf
      exact AW.sub [1, 2, 0] rfl (hj37 _ hf)
    · have hf := ifn c hf
      refine a_aload_n (q := 1) dX7_readNumber_27 rfl rfl ?_
      refine a_aload_n (q := 1) dX7_readNumber_28 rfl rfl ?_
      obtain ⟨v18, e19, hf⟩ := obd hf
      refine o_gfI dX7_readNumber_29 lk_X7_40 rfl e19 ?_
      refine a_iconst (v := 1) dX7_readNumber_32 (by decide) ?_
      refine a_iadd dX7_readNumber_33 ?_
      obtain ⟨h20, e21, hf⟩ := obd hf
      refine o_pfI dX7_readNumber_34 lk_X7_40 (⟨_, rfl, Or.inl rfl⟩) rfl e21 ?_
      exact AW.sub [1, 2, 0] rfl (hj37 _ hf)
  clear ek22
  refine a_icmp_ne (tgt := 21) dX7_readNumber_14 (by decide) (fun c => ?_) (fun c => ?_)
  · have hf := ifn c hf
    refine a_iconst (v := 0) dX7_readNumber_21 (by decide) ?_
    exact AW.sub [1, 0] rfl (hj22 _ _ hf)
  · have hf := ifp c hf
    refine a_iconst (v := 1) dX7_readNumber_17 (by decide) ?_
    refine a_goto (tgt := 22) dX7_readNumber_18 (by decide) ?_
    exact AW.sub [1, 0] rfl (hj22 _ _ hf)
def fX11_put (a0 : Nat) (a1 : Int32) (a2 : Int32) (h : hp) : Option hp :=
  if a1 < 0 then (
    some h
  ) else (
    (gfI h a0 10 3).bind fun v1 =>
    if v1 ≤ a1 then (
      some h
    ) else (
      (gfR h a0 10 4).bind fun v3 =>
      (aln 0 h v3).bind fun v5 =>
      if v5 ≤ a1 then (
        some h
      ) else (
        (gfR h a0 10 4).bind fun v7 =>
        (asI h v7 a1 a2).bind fun h9 =>
        some h9
      )
    )
  )
set_option maxHeartbeats 4000000 in
set_option maxRecDepth 100000 in
theorem sX11_put (E : gE) (D : Nat) (hD : 0 ≤ D) {a0 : Nat} {a1 : Int32} {a2 : Int32} {h hz : hp} (hf : fX11_put a0 a1 a2 h = some hz) : MC E yX11_put cX11_put (Option.none : Option Jvm.ClassFile.FieldType) 3 D [.ref a0, .int a1, .int a2] h none hz := by
  refine MC.of (by decide +kernel) (Nat.le_of_ble_eq_true rfl) rfl ?_
  unfold fX11_put at hf
  show AW E yX11_put cX11_put (Option.none : Option Jvm.ClassFile.FieldType) 3 D none h hz 0 [(0, .ref a0), (1, .int a1), (2, .int a2)] [] h
  refine a_iload_n (q := 1) dX11_put_0 rfl rfl ?_
  refine a_if_lt (tgt := 28) dX11_put_1 (by decide) (fun c => ?_) (fun c => ?_)
  · have hf := ifp c hf
    obtain rfl := Option.some.inj hf
    exact a_return dX11_put_28 rfl
  · have hf := ifn c hf
    refine a_iload_n (q := 1) dX11_put_4 rfl rfl ?_
    refine a_aload_n (q := 0) dX11_put_5 rfl rfl ?_
    obtain ⟨v1, e2, hf⟩ := obd hf
    refine o_gfI dX11_put_6 lk_X11_19 rfl e2 ?_
    refine a_icmp_ge (tgt := 28) dX11_put_9 (by decide) (fun c => ?_) (fun c => ?_)
    · have hf := ifp c hf
      obtain rfl := Option.some.inj hf
      exact a_return dX11_put_28 rfl
    · have hf := ifn c hf
      refine a_iload_n (q := 1) dX11_put_12 rfl rfl ?_
      refine a_aload_n (q := 0) dX11_put_13 rfl rfl ?_
      obtain ⟨v3, e4, hf⟩ := obd hf
      refine o_gfR dX11_put_14 lk_X11_9 rfl e4 ?_
      obtain ⟨v5, e6, hf⟩ := obd hf
      refine o_aln dX11_put_17 (by decide) e6 ?_
      refine a_icmp_ge (tgt := 28) dX11_put_18 (by decide) (fun c => ?_) (fun c => ?_)
      · have hf := ifp c hf
        obtain rfl := Option.some.inj hf
        exact a_return dX11_put_28 rfl
      · have hf := ifn c hf
        refine a_aload_n (q := 0) dX11_put_21 rfl rfl ?_
        obtain ⟨v7, e8, hf⟩ := obd hf
        refine o_gfR dX11_put_22 lk_X11_9 rfl e8 ?_
        refine a_iload_n (q := 1) dX11_put_25 rfl rfl ?_
        refine a_iload_n (q := 2) dX11_put_26 rfl rfl ?_
        obtain ⟨h9, e10, hf⟩ := obd hf
        refine o_asI dX11_put_27 e10 ?_
        obtain rfl := Option.some.inj hf
        exact a_return dX11_put_28 rfl
def fX11_resize (a0 : Nat) (a1 : Int32) (h : hp) : Option hp :=
  jn (fun (s18_0 : Int32) (h18j : hp) => (
    (pfI h18j a0 10 3 s18_0).bind fun h1 =>
    some h1
    : Option hp)) fun k18 =>
  if 0 ≤ a1 then (
    (gfR h a0 10 4).bind fun v3 =>
    (aln 0 h v3).bind fun v5 =>
    bd2 (fJ9_min_7cf53 a1 v5 h) fun v8 h9 =>
    k18 v8 h9
  ) else (
    k18 0 h
  )
set_option maxHeartbeats 4000000 in
set_option maxRecDepth 100000 in
theorem sX11_resize (E : gE) (D : Nat) (hD : 1 ≤ D) {a0 : Nat} {a1 : Int32} {h hz : hp} (hf : fX11_resize a0 a1 h = some hz) : MC E yX11_resize cX11_resize (Option.none : Option Jvm.ClassFile.FieldType) 2 D [.ref a0, .int a1] h none hz := by
  refine MC.of (by decide +kernel) (Nat.le_of_ble_eq_true rfl) rfl ?_
  unfold fX11_resize at hf
  show AW E yX11_resize cX11_resize (Option.none : Option Jvm.ClassFile.FieldType) 2 D none h hz 0 [(0, .ref a0), (1, .int a1)] [] h
  refine a_aload_n (q := 0) dX11_resize_0 rfl rfl ?_
  refine a_iload_n (q := 1) dX11_resize_1 rfl rfl ?_
  obtain ⟨k18, ek18, hf⟩ := jn_s hf
  have hj18 : ∀ (s18_0 : Int32) (h18j : hp), k18 s18_0 h18j = some hz → AW E yX11_resize cX11_resize (Option.none : Option Jvm.ClassFile.FieldType) 2 D none h hz 18 [] [.int s18_0, .ref a0] h18j := by
    intro s18_0 h18j hf
    rw [ek18] at hf
    clear ek18
    obtain ⟨h1, e2, hf⟩ := obd hf
    refine o_pfI dX11_resize_18 lk_X11_19 (⟨_, rfl, Or.inl rfl⟩) rfl e2 ?_
    obtain rfl := Option.some.inj hf
    exact a_return dX11_resize_21 rfl
  clear ek18
  refine a_if_ge (tgt := 9) dX11_resize_2 (by decide) (fun c => ?_) (fun c => ?_)
  · have hf := ifp c hf
    refine a_iload_n (q := 1) dX11_resize_9 rfl rfl ?_
    refine a_aload_n (q := 0) dX11_resize_10 rfl rfl ?_
    obtain ⟨v3, e4, hf⟩ := obd hf
    refine o_gfR dX11_resize_11 lk_X11_9 rfl e4 ?_
    obtain ⟨v5, e6, hf⟩ := obd hf
    refine o_aln dX11_resize_14 (by decide) e6 ?_
    obtain ⟨v8, h9, e7, hf⟩ := ob2 hf
    refine a_callS (as := [.int a1, .int v5]) (np := 2) (st := [.ref a0]) (sJ9_min_7cf53 E (D - 1) (by omega) e7) dX11_resize_15 rfl (by omega) (by decide) cw_X11_56 wd_310 rfl (Nat.le_of_ble_eq_true rfl) ?_
    exact AW.sub [] rfl (hj18 _ _ hf)
  · have hf := ifn c hf
    refine a_iconst (v := 0) dX11_resize_5 (by decide) ?_
    refine a_goto (tgt := 18) dX11_resize_6 (by decide) ?_
    exact AW.sub [] rfl (hj18 _ _ hf)
def fX11_becomeText_l26 : Nat → Nat → Nat → Int32 → hp → Option hp
  | 0, _, _, _, _ => none
  | n + 1, x0, x1, x2, h =>
    (gfI h x0 10 3).bind fun v1 =>
    if v1 ≤ x2 then (
      some (h)
    ) else (
      (ckT h x1 4).bind fun _ =>
      bd2 (fX5_at x1 x2 h) fun v4 h5 =>
      (ckT h5 x0 10).bind fun _ =>
      (fX11_put x0 x2 v4 h5).bind fun h8 =>
      fX11_becomeText_l26 n x0 x1 (x2 + 1) h8
    )
def fX11_becomeText (a0 : Nat) (a1 : Nat) (h : hp) : Option (Int32 × hp) :=
  (gfI h a1 4 1).bind fun v1 =>
  if v1 ≤ 16 then (
    (pfI h a0 10 0 3).bind fun h3 =>
    (gfI h3 a1 4 1).bind fun v5 =>
    (ckT h3 a0 10).bind fun _ =>
    (fX11_resize a0 v5 h3).bind fun h8 =>
    (fX11_becomeText_l26 FU a0 a1 0 h8).bind fun h11 =>
    some (1, h11)
  ) else (
    some (0, h)
  )
set_option maxHeartbeats 4000000 in
set_option maxRecDepth 100000 in
theorem sX11_becomeText_l26 (E : gE) (D : Nat) (hD : 2 ≤ D) {rz : Option Value} {h0 hz : hp} : ∀ (n : Nat) (x0 : Nat) (x1 : Nat) (x2 : Int32) (h : hp) (hq : hp), fX11_becomeText_l26 n x0 x1 x2 h = some hq → (AW E yX11_becomeText cX11_becomeText (Option.some Jvm.ClassFile.FieldType.boolean) 3 D rz h0 hz 50 [] [] hq) → AW E yX11_becomeText cX11_becomeText (Option.some Jvm.ClassFile.FieldType.boolean) 3 D rz h0 hz 26 [(0, .ref x0), (1, .ref x1), (2, .int x2)] [] h := by
  intro n
  induction n with
  | zero =>
    intro x0 x1 x2 h hq hf _
    rw [fX11_becomeText_l26] at hf
    cases hf
  | succ n ih =>
    intro x0 x1 x2 h hq hf hk0
    rw [fX11_becomeText_l26] at hf
    refine a_iload_n (q := 2) dX11_becomeText_26 rfl rfl ?_
    refine a_aload_n (q := 0) dX11_becomeText_27 rfl rfl ?_
    obtain ⟨v1, e2, hf⟩ := obd hf
    refine o_gfI dX11_becomeText_28 lk_X11_19 rfl e2 ?_
    refine a_icmp_ge (tgt := 50) dX11_becomeText_31 (by decide) (fun c => ?_) (fun c => ?_)
    · have hf := ifp c hf
      obtain rfl := Option.some.inj hf
      exact AW.sub [] rfl (hk0)
    · have hf := ifn c hf
      refine a_aload_n (q := 0) dX11_becomeText_34 rfl rfl ?_
      refine a_iload_n (q := 2) dX11_becomeText_35 rfl rfl ?_
      refine a_aload_n (q := 1) dX11_becomeText_36 rfl rfl ?_
      refine a_iload_n (q := 2) dX11_becomeText_37 rfl rfl ?_
      obtain ⟨_, e6, hf⟩ := obd hf
      obtain ⟨v4, h5, e3, hf⟩ := ob2 hf
      refine a_callV (as := [.int x2]) (np := 1) (ci := 4) (st := [.int x2, .ref x0]) (sX5_at E (D - 1) (by omega) e3) dX11_becomeText_38 rfl (by omega) (by decide) cw_X11_52 ⟨wd_313, wd_314⟩ rfl (ckT_s e6) rfl (Nat.le_of_ble_eq_true rfl) ?_
      obtain ⟨_, e9, hf⟩ := obd hf
      obtain ⟨h8, e7, hf⟩ := obd hf
      refine a_callV (as := [.int x2, .int v4]) (np := 2) (ci := 10) (st := []) (sX11_put E (D - 1) (by omega) e7) dX11_becomeText_41 rfl (by omega) (by decide) cw_X11_45 ⟨wd_317, wd_318⟩ rfl (ckT_s e9) rfl (Nat.le_of_ble_eq_true rfl) ?_
      refine a_iinc (q := 2) (v := (x2 + 1)) (lv1 := [(2, .int (x2 + 1)), (0, .ref x0), (1, .ref x1)]) dX11_becomeText_44 rfl (by rfl) (by decide) rfl ?_
      refine a_goto (tgt := 26) dX11_becomeText_47 (by decide) ?_
      exact AW.sub [1, 2, 0] rfl (ih _ _ _ _ _ hf hk0)
set_option maxHeartbeats 4000000 in
set_option maxRecDepth 100000 in
theorem sX11_becomeText (E : gE) (D : Nat) (hD : 2 ≤ D) {a0 : Nat} {a1 : Nat} {h hz : hp} {v0 : Int32} (hf : fX11_becomeText a0 a1 h = some (v0, hz)) : MC E yX11_becomeText cX11_becomeText (Option.some Jvm.ClassFile.FieldType.boolean) 3 D [.ref a0, .ref a1] h (some (.int v0)) hz := by
  refine MC.of (by decide +kernel) (Nat.le_of_ble_eq_true rfl) rfl ?_
  unfold fX11_becomeText at hf
  show AW E yX11_becomeText cX11_becomeText (Option.some Jvm.ClassFile.FieldType.boolean) 3 D (some (.int v0)) h hz 0 [(0, .ref a0), (1, .ref a1)] [] h
  refine a_aload_n (q := 1) dX11_becomeText_0 rfl rfl ?_
  obtain ⟨v1, e2, hf⟩ := obd hf
  refine o_gfI dX11_becomeText_1 lk_X11_49 rfl e2 ?_
  refine a_bipush (v := 16) dX11_becomeText_4 (by decide) ?_
  refine a_icmp_le (tgt := 11) dX11_becomeText_6 (by decide) (fun c => ?_) (fun c => ?_)
  · have hf := ifp c hf
    refine a_aload_n (q := 0) dX11_becomeText_11 rfl rfl ?_
    refine a_iconst (v := 3) dX11_becomeText_12 (by decide) ?_
    obtain ⟨h3, e4, hf⟩ := obd hf
    refine o_pfI dX11_becomeText_13 lk_X11_23 (⟨_, rfl, Or.inl rfl⟩) rfl e4 ?_
    refine a_aload_n (q := 0) dX11_becomeText_16 rfl rfl ?_
    refine a_aload_n (q := 1) dX11_becomeText_17 rfl rfl ?_
    obtain ⟨v5, e6, hf⟩ := obd hf
    refine o_gfI dX11_becomeText_18 lk_X11_49 rfl e6 ?_
    obtain ⟨_, e9, hf⟩ := obd hf
    obtain ⟨h8, e7, hf⟩ := obd hf
    refine a_callV (as := [.int v5]) (np := 1) (ci := 10) (st := []) (sX11_resize E (D - 1) (by omega) e7) dX11_becomeText_21 rfl (by omega) (by decide) cw_X11_41 ⟨wd_307, ws_0⟩ rfl (ckT_s e9) rfl (Nat.le_of_ble_eq_true rfl) ?_
    refine a_iconst (v := 0) dX11_becomeText_24 (by decide) ?_
    refine a_istore_n (lv1 := [(2, .int 0), (0, .ref a0), (1, .ref a1)]) dX11_becomeText_25 rfl (by decide) rfl ?_
    obtain ⟨h11, e10, hf⟩ := obd hf
    refine AW.sub [1, 2, 0] rfl (sX11_becomeText_l26 E D hD _ _ _ _ _ _ e10 ?_)
    refine a_iconst (v := 1) dX11_becomeText_50 (by decide) ?_
    obtain ⟨rfl, rfl⟩ := oc2 hf
    exact a_zreturn dX11_becomeText_51 rfl (by decide)
  · have hf := ifn c hf
    refine a_iconst (v := 0) dX11_becomeText_9 (by decide) ?_
    obtain ⟨rfl, rfl⟩ := oc2 hf
    exact a_zreturn dX11_becomeText_10 rfl (by decide)
def fX7_isTextByte (a0 : Int32) (h : hp) : Option (Int32 × hp) :=
  if a0 ≤ 0 then (
    some (0, h)
  ) else (
    if a0 = 39 then (
      some (0, h)
    ) else (
      if a0 = 123 then (
        some (0, h)
      ) else (
        if a0 = 125 then (
          some (0, h)
        ) else (
          some (1, h)
        )
      )
    )
  )
set_option maxHeartbeats 4000000 in
set_option maxRecDepth 100000 in
theorem sX7_isTextByte (E : gE) (D : Nat) (hD : 0 ≤ D) {a0 : Int32} {h hz : hp} {v0 : Int32} (hf : fX7_isTextByte a0 h = some (v0, hz)) : MC E yX7_isTextByte cX7_isTextByte (Option.some Jvm.ClassFile.FieldType.boolean) 1 D [.int a0] h (some (.int v0)) hz := by
  refine MC.of (by decide +kernel) (Nat.le_of_ble_eq_true rfl) rfl ?_
  unfold fX7_isTextByte at hf
  show AW E yX7_isTextByte cX7_isTextByte (Option.some Jvm.ClassFile.FieldType.boolean) 1 D (some (.int v0)) h hz 0 [(0, .int a0)] [] h
  refine a_iload_n (q := 0) dX7_isTextByte_0 rfl rfl ?_
  refine a_if_le (tgt := 26) dX7_isTextByte_1 (by decide) (fun c => ?_) (fun c => ?_)
  · have hf := ifp c hf
    refine a_iconst (v := 0) dX7_isTextByte_26 (by decide) ?_
    obtain ⟨rfl, rfl⟩ := oc2 hf
    exact a_zreturn dX7_isTextByte_27 rfl (by decide)
  · have hf := ifn c hf
    refine a_iload_n (q := 0) dX7_isTextByte_4 rfl rfl ?_
    refine a_bipush (v := 39) dX7_isTextByte_5 (by decide) ?_
    refine a_icmp_eq (tgt := 26) dX7_isTextByte_7 (by decide) (fun c => ?_) (fun c => ?_)
    · have hf := ifp c hf
      refine a_iconst (v := 0) dX7_isTextByte_26 (by decide) ?_
      obtain ⟨rfl, rfl⟩ := oc2 hf
      exact a_zreturn dX7_isTextByte_27 rfl (by decide)
    · have hf := ifn c hf
      refine a_iload_n (q := 0) dX7_isTextByte_10 rfl rfl ?_
      refine a_bipush (v := 123) dX7_isTextByte_11 (by decide) ?_
      refine a_icmp_eq (tgt := 26) dX7_isTextByte_13 (by decide) (fun c => ?_) (fun c => ?_)
      · have hf := ifp c hf
        refine a_iconst (v := 0) dX7_isTextByte_26 (by decide) ?_
        obtain ⟨rfl, rfl⟩ := oc2 hf
        exact a_zreturn dX7_isTextByte_27 rfl (by decide)
      · have hf := ifn c hf
        refine a_iload_n (q := 0) dX7_isTextByte_16 rfl rfl ?_
        refine a_bipush (v := 125) dX7_isTextByte_17 (by decide) ?_
        refine a_icmp_eq (tgt := 26) dX7_isTextByte_19 (by decide) (fun c => ?_) (fun c => ?_)
        · have hf := ifp c hf
          refine a_iconst (v := 0) dX7_isTextByte_26 (by decide) ?_
          obtain ⟨rfl, rfl⟩ := oc2 hf
          exact a_zreturn dX7_isTextByte_27 rfl (by decide)
        · have hf := ifn c hf
          refine a_iconst (v := 1) dX7_isTextByte_22 (by decide) ?_
          refine a_goto (tgt := 27) dX7_isTextByte_23 (by decide) ?_
          obtain ⟨rfl, rfl⟩ := oc2 hf
          exact a_zreturn dX7_isTextByte_27 rfl (by decide)
def fX7_readText_l30 : Nat → Nat → Nat → Nat → Int32 → hp → Option hp
  | 0, _, _, _, _, _ => none
  | n + 1, x0, x1, x2, x3, h =>
    if 16 ≤ x3 then (
      some (h)
    ) else (
      (ckT h x0 6).bind fun _ =>
      bd2 (fX7_peek x0 h) fun v2 h3 =>
      bd2 (fX7_isTextByte v2 h3) fun v6 h7 =>
      if v6 = 0 then (
        some (h7)
      ) else (
        (ckT h7 x0 6).bind fun _ =>
        bd2 (fX7_peek x0 h7) fun v9 h10 =>
        jn (fun (h65j : hp) => (
          (ckT h65j x0 6).bind fun _ =>
          bd2 (fX7_peek x0 h65j) fun v13 h14 =>
          (ckT h14 x2 4).bind fun _ =>
          bd2 (fX5_add x2 v13 h14) fun v17 h18 =>
          (gfI h18 x0 6 2).bind fun v20 =>
          (pfI h18 x0 6 2 (v20 + 1)).bind fun h22 =>
          fX7_readText_l30 n x0 x1 x2 (x3 + 1) h22
          : Option hp)) fun k65 =>
        if v9 = 10 then (
          (gfI h10 x0 6 3).bind fun v24 =>
          (pfI h10 x0 6 3 (v24 + 1)).bind fun h26 =>
          k65 h26
        ) else (
          k65 h10
        )
      )
    )
def fX7_readText (a0 : Nat) (h : hp) : Option (Nat × hp) :=
  bd2 (nwO h 10 5) fun v1 h2 =>
  (ckT h2 v1 10).bind fun _ =>
  (fX11_init v1 h2).bind fun h5 =>
  bd2 (nwO h5 4 2) fun v7 h8 =>
  (ckT h8 v7 4).bind fun _ =>
  (fX5_init v7 16 h8).bind fun h11 =>
  (gfI h11 a0 6 2).bind fun v13 =>
  (pfI h11 a0 6 2 (v13 + 1)).bind fun h15 =>
  (fX7_readText_l30 FU a0 v1 v7 0 h15).bind fun h18 =>
  (ckT h18 a0 6).bind fun _ =>
  (fX7_expect a0 39 h18).bind fun h20 =>
  (ckT h20 v1 10).bind fun _ =>
  bd2 (fX11_becomeText v1 v7 h20) fun v23 h24 =>
  some (v1, h24)
set_option maxHeartbeats 4000000 in
set_option maxRecDepth 100000 in
theorem sX7_readText_l30 (E : gE) (D : Nat) (hD : 3 ≤ D) {rz : Option Value} {h0 hz : hp} : ∀ (n : Nat) (x0 : Nat) (x1 : Nat) (x2 : Nat) (x3 : Int32) (h : hp) (hq : hp), fX7_readText_l30 n x0 x1 x2 x3 h = some hq → (AW E yX7_readText cX7_readText (Option.some (Jvm.ClassFile.FieldType.object "TemplatePress$Value")) 4 D rz h0 hz 90 [(0, .ref x0), (1, .ref x1), (2, .ref x2)] [] hq) → AW E yX7_readText cX7_readText (Option.some (Jvm.ClassFile.FieldType.object "TemplatePress$Value")) 4 D rz h0 hz 30 [(0, .ref x0), (1, .ref x1), (2, .ref x2), (3, .int x3)] [] h := by
  intro n
  induction n with
  | zero =>
    intro x0 x1 x2 x3 h hq hf _
    rw [fX7_readText_l30] at hf
    cases hf
  | succ n ih =>
    intro x0 x1 x2 x3 h hq hf hk0
    rw [fX7_readText_l30] at hf
    refine a_iload_n (q := 3) dX7_readText_30 rfl rfl ?_
    refine a_bipush (v := 16) dX7_readText_31 (by decide) ?_
    refine a_icmp_ge (tgt := 90) dX7_readText_33 (by decide) (fun c => ?_) (fun c => ?_)
    · have hf := ifp c hf
      obtain rfl := Option.some.inj hf
      exact AW.sub [0, 1, 2] rfl (hk0)
    · have hf := ifn c hf
      refine a_aload_n (q := 0) dX7_readText_36 rfl rfl ?_
      obtain ⟨_, e4, hf⟩ := obd hf
      obtain ⟨v2, h3, e1, hf⟩ := ob2 hf
      refine a_callV (as := []) (np := 0) (ci := 6) (st := []) (sX7_peek E (D - 1) (by omega) e1) dX7_readText_37 rfl (by omega) (by decide) cw_X7_77 ⟨wd_483, ws_4⟩ rfl (ckT_s e4) rfl (Nat.le_of_ble_eq_true rfl) ?_
      obtain ⟨v6, h7, e5, hf⟩ := ob2 hf
      refine a_callS (as := [.int v2]) (np := 1) (st := []) (sX7_isTextByte E (D - 1) (by omega) e5) dX7_readText_40 rfl (by omega) (by decide) cw_X7_212 wd_601 rfl (Nat.le_of_ble_eq_true rfl) ?_
      refine a_if_eq (tgt := 90) dX7_readText_43 (by decide) (fun c => ?_) (fun c => ?_)
      · have hf := ifp c hf
        obtain rfl := Option.some.inj hf
        exact AW.sub [0, 1, 2] rfl (hk0)
      · have hf := ifn c hf
        refine a_aload_n (q := 0) dX7_readText_46 rfl rfl ?_
        obtain ⟨_, e11, hf⟩ := obd hf
        obtain ⟨v9, h10, e8, hf⟩ := ob2 hf
        refine a_callV (as := []) (np := 0) (ci := 6) (st := []) (sX7_peek E (D - 1) (by omega) e8) dX7_readText_47 rfl (by omega) (by decide) cw_X7_77 ⟨wd_483, ws_4⟩ rfl (ckT_s e11) rfl (Nat.le_of_ble_eq_true rfl) ?_
        refine a_bipush (v := 10) dX7_readText_50 (by decide) ?_
        obtain ⟨k65, ek65, hf⟩ := jn_s hf
        have hj65 : ∀ (h65j : hp), k65 h65j = some hq → AW E yX7_readText cX7_readText (Option.some (Jvm.ClassFile.FieldType.object "TemplatePress$Value")) 4 D rz h0 hz 65 [(0, .ref x0), (1, .ref x1), (2, .ref x2), (3, .int x3)] [] h65j := by
          intro h65j hf
          rw [ek65] at hf
          clear ek65
          refine a_aload_n (q := 2) dX7_readText_65 rfl rfl ?_
          refine a_aload_n (q := 0) dX7_readText_66 rfl rfl ?_
          obtain ⟨_, e15, hf⟩ := obd hf
          obtain ⟨v13, h14, e12, hf⟩ := ob2 hf
          refine a_callV (as := []) (np := 0) (ci := 6) (st := [.ref x2]) (sX7_peek E (D - 1) (by omega) e12) dX7_readText_67 rfl (by omega) (by decide) cw_X7_77 ⟨wd_483, ws_4⟩ rfl (ckT_s e15) rfl (Nat.le_of_ble_eq_true rfl) ?_
          obtain ⟨_, e19, hf⟩ := obd hf
          obtain ⟨v17, h18, e16, hf⟩ := ob2 hf
          refine a_callV (as := [.int v13]) (np := 1) (ci := 4) (st := []) (sX5_add E (D - 1) (by omega) e16) dX7_readText_70 rfl (by omega) (by decide) cw_X7_215 ⟨wd_358, wd_359⟩ rfl (ckT_s e19) rfl (Nat.le_of_ble_eq_true rfl) ?_
          refine a_pop dX7_readText_73 rfl ?_
          refine a_aload_n (q := 0) dX7_readText_74 rfl rfl ?_
          refine a_aload_n (q := 0) dX7_readText_75 rfl rfl ?_
          obtain ⟨v20, e21, hf⟩ := obd hf
          refine o_gfI dX7_readText_76 lk_X7_40 rfl e21 ?_
          refine a_iconst (v := 1) dX7_readText_79 (by decide) ?_
          refine a_iadd dX7_readText_80 ?_
          obtain ⟨h22, e23, hf⟩ := obd hf
          refine o_pfI dX7_readText_81 lk_X7_40 (⟨_, rfl, Or.inl rfl⟩) rfl e23 ?_
          refine a_iinc (q := 3) (v := (x3 + 1)) (lv1 := [(3, .int (x3 + 1)), (0, .ref x0), (1, .ref x1), (2, .ref x2)]) dX7_readText_84 rfl (by rfl) (by decide) rfl ?_
          refine a_goto (tgt := 30) dX7_readText_87 (by decide) ?_
          exact AW.sub [1, 2, 3, 0] rfl (ih _ _ _ _ _ _ hf hk0)
        clear ek65
        refine a_icmp_ne (tgt := 65) dX7_readText_52 (by decide) (fun c => ?_) (fun c => ?_)
        · have hf := ifn c hf
          exact hj65 _ hf
        · have hf := ifp c hf
          refine a_aload_n (q := 0) dX7_readText_55 rfl rfl ?_
          refine a_aload_n (q := 0) dX7_readText_56 rfl rfl ?_
          obtain ⟨v24, e25, hf⟩ := obd hf
          refine o_gfI dX7_readText_57 lk_X7_9 rfl e25 ?_
          refine a_iconst (v := 1) dX7_readText_60 (by decide) ?_
          refine a_iadd dX7_readText_61 ?_
          obtain ⟨h26, e27, hf⟩ := obd hf
          refine o_pfI dX7_readText_62 lk_X7_9 (⟨_, rfl, Or.inl rfl⟩) rfl e27 ?_
          exact hj65 _ hf
set_option maxHeartbeats 4000000 in
set_option maxRecDepth 100000 in
theorem sX7_readText (E : gE) (D : Nat) (hD : 3 ≤ D) {a0 : Nat} {h hz : hp} {v0 : Nat} (hf : fX7_readText a0 h = some (v0, hz)) : MC E yX7_readText cX7_readText (Option.some (Jvm.ClassFile.FieldType.object "TemplatePress$Value")) 4 D [.ref a0] h (some (.ref v0)) hz := by
  refine MC.of (by decide +kernel) (Nat.le_of_ble_eq_true rfl) rfl ?_
  unfold fX7_readText at hf
  show AW E yX7_readText cX7_readText (Option.some (Jvm.ClassFile.FieldType.object "TemplatePress$Value")) 4 D (some (.ref v0)) h hz 0 [(0, .ref a0)] [] h
  obtain ⟨v1, h2, e3, hf⟩ := ob2 hf
  refine o_nwO (ci := 10) dX7_readText_0 rfl rfl gu_10 tyX11_ok (by decide) wd_596 wd_64 wd_4 e3 ?_
  refine a_dup dX7_readText_3 rfl ?_
  obtain ⟨_, e6, hf⟩ := obd hf
  obtain ⟨h5, e4, hf⟩ := obd hf
  refine a_callI (as := []) (np := 0) (ci := 10) (st := [.ref v1]) (sX11_init E (D - 1) (by omega) e4) dX7_readText_4 rfl (by omega) (by decide) cw_X7_204 ⟨wd_66, rfl⟩ rfl (ckT_s e6) rfl (Nat.le_of_ble_eq_true rfl) ?_
  refine a_astore_n (lv1 := [(1, .ref v1), (0, .ref a0)]) dX7_readText_7 rfl (by decide) rfl ?_
  obtain ⟨v7, h8, e9, hf⟩ := ob2 hf
  refine o_nwO (ci := 4) dX7_readText_8 rfl rfl gu_4 tyX5_ok (by decide) wd_598 wd_45 wd_3 e9 ?_
  refine a_dup dX7_readText_11 rfl ?_
  refine a_bipush (v := 16) dX7_readText_12 (by decide) ?_
  obtain ⟨_, e12, hf⟩ := obd hf
  obtain ⟨h11, e10, hf⟩ := obd hf
  refine a_callI (as := [.int 16]) (np := 1) (ci := 4) (st := [.ref v7]) (sX5_init E (D - 1) (by omega) e10) dX7_readText_14 rfl (by omega) (by decide) cw_X7_211 ⟨wd_47, rfl⟩ rfl (ckT_s e12) rfl (Nat.le_of_ble_eq_true rfl) ?_
  refine a_astore_n (lv1 := [(2, .ref v7), (1, .ref v1), (0, .ref a0)]) dX7_readText_17 rfl (by decide) rfl ?_
  refine a_aload_n (q := 2) dX7_readText_18 rfl rfl ?_
  refine a_aload_n (q := 2) dX7_readText_19 rfl rfl ?_
  obtain ⟨v13, e14, hf⟩ := obd hf
  refine o_gfI dX7_readText_20 lk_X7_40 rfl e14 ?_
  refine a_iconst (v := 1) dX7_readText_23 (by decide) ?_
  refine a_iadd dX7_readText_24 ?_
  obtain ⟨h15, e16, hf⟩ := obd hf
  refine o_pfI dX7_readText_25 lk_X7_40 (⟨_, rfl, Or.inl rfl⟩) rfl e16 ?_
  refine a_iconst (v := 0) dX7_readText_28 (by decide) ?_
  refine a_istore_n (lv1 := [(3, .int 0), (2, .ref v7), (1, .ref v1), (0, .ref a0)]) dX7_readText_29 rfl (by decide) rfl ?_
  obtain ⟨h18, e17, hf⟩ := obd hf
  refine AW.sub [3, 2, 1, 0] rfl (sX7_readText_l30 E D hD _ _ _ _ _ _ _ e17 ?_)
  refine a_aload_n (q := 0) dX7_readText_90 rfl rfl ?_
  refine a_bipush (v := 39) dX7_readText_91 (by decide) ?_
  obtain ⟨_, e21, hf⟩ := obd hf
  obtain ⟨h20, e19, hf⟩ := obd hf
  refine a_callV (as := [.int 39]) (np := 1) (ci := 6) (st := []) (sX7_expect E (D - 1) (by omega) e19) dX7_readText_93 rfl (by omega) (by decide) cw_X7_52 ⟨wd_492, ws_6⟩ rfl (ckT_s e21) rfl (Nat.le_of_ble_eq_true rfl) ?_
  refine a_aload_n (q := 1) dX7_readText_96 rfl rfl ?_
  refine a_aload_n (q := 2) dX7_readText_97 rfl rfl ?_
  obtain ⟨_, e25, hf⟩ := obd hf
  obtain ⟨v23, h24, e22, hf⟩ := ob2 hf
  refine a_callV (as := [.ref v7]) (np := 1) (ci := 10) (st := []) (sX11_becomeText E (D - 1) (by omega) e22) dX7_readText_98 rfl (by omega) (by decide) cw_X7_218 ⟨wd_302, wd_303⟩ rfl (ckT_s e25) rfl (Nat.le_of_ble_eq_true rfl) ?_
  refine a_pop dX7_readText_101 rfl ?_
  refine a_aload_n (q := 1) dX7_readText_102 rfl rfl ?_
  obtain ⟨rfl, rfl⟩ := oc2 hf
  exact a_areturn dX7_readText_103 rfl (Or.inl ⟨_, rfl⟩)
def fX7_readVariable (a0 : Nat) (h : hp) : Option (Int32 × hp) :=
  (ckT h a0 6).bind fun _ =>
  bd2 (fX7_readOneOf a0 97 8 h) fun v2 h3 =>
  (gfR h3 a0 6 1).bind fun v5 =>
  (gfR h3 a0 6 1).bind fun v7 =>
  (gfI h3 v7 9 7).bind fun v9 =>
  (pfI h3 v5 9 7 (v9 ||| ((1 : Int32) <<< (v2 &&& 31)))).bind fun h11 =>
  some (v2, h11)
set_option maxHeartbeats 4000000 in
set_option maxRecDepth 100000 in
theorem sX7_readVariable (E : gE) (D : Nat) (hD : 2 ≤ D) {a0 : Nat} {h hz : hp} {v0 : Int32} (hf : fX7_readVariable a0 h = some (v0, hz)) : MC E yX7_readVariable cX7_readVariable (Option.some Jvm.ClassFile.FieldType.int) 2 D [.ref a0] h (some (.int v0)) hz := by
  refine MC.of (by decide +kernel) (Nat.le_of_ble_eq_true rfl) rfl ?_
  unfold fX7_readVariable at hf
  show AW E yX7_readVariable cX7_readVariable (Option.some Jvm.ClassFile.FieldType.int) 2 D (some (.int v0)) h hz 0 [(0, .ref a0)] [] h
  refine a_aload_n (q := 0) dX7_readVariable_0 rfl rfl ?_
  refine a_bipush (v := 97) dX7_readVariable_1 (by decide) ?_
  refine a_bipush (v := 8) dX7_readVariable_3 (by decide) ?_
  obtain ⟨_, e4, hf⟩ := obd hf
  obtain ⟨v2, h3, e1, hf⟩ := ob2 hf
  refine a_callV (as := [.int 97, .int 8]) (np := 2) (ci := 6) (st := []) (sX7_readOneOf E (D - 1) (by omega) e1) dX7_readVariable_5 rfl (by omega) (by decide) cw_X7_45 ⟨wd_479, ws_3⟩ rfl (ckT_s e4) rfl (Nat.le_of_ble_eq_true rfl) ?_
  refine a_istore_n (lv1 := [(1, .int v2), (0, .ref a0)]) dX7_readVariable_8 rfl (by decide) rfl ?_
  refine a_aload_n (q := 1) dX7_readVariable_9 rfl rfl ?_
  obtain ⟨v5, e6, hf⟩ := obd hf
  refine o_gfR dX7_readVariable_10 lk_X7_32 rfl e6 ?_
  refine a_aload_n (q := 1) dX7_readVariable_13 rfl rfl ?_
  obtain ⟨v7, e8, hf⟩ := obd hf
  refine o_gfR dX7_readVariable_14 lk_X7_32 rfl e8 ?_
  obtain ⟨v9, e10, hf⟩ := obd hf
  refine o_gfI dX7_readVariable_17 lk_X7_85 rfl e10 ?_
  refine a_iconst (v := 1) dX7_readVariable_20 (by decide) ?_
  refine a_iload_n (q := 0) dX7_readVariable_21 rfl rfl ?_
  refine a_ishl dX7_readVariable_22 ?_
  refine a_ior dX7_readVariable_23 ?_
  obtain ⟨h11, e12, hf⟩ := obd hf
  refine o_pfI dX7_readVariable_24 lk_X7_85 (⟨_, rfl, Or.inl rfl⟩) rfl e12 ?_
  refine a_iload_n (q := 0) dX7_readVariable_27 rfl rfl ?_
  obtain ⟨rfl, rfl⟩ := oc2 hf
  exact a_ireturn dX7_readVariable_28 rfl
def fX7_readExpression (a0 : Nat) (h : hp) : Option (Nat × hp) :=
  bd2 (nwO h 1 4) fun v1 h2 =>
  (ckT h2 v1 1).bind fun _ =>
  (fX2_init v1 h2).bind fun h5 =>
  (ckT h5 a0 6).bind fun _ =>
  bd2 (fX7_peek a0 h5) fun v8 h9 =>
  bd2 (fX13_among (v8 - 97) 8 h9) fun v12 h13 =>
  jn (fun (h94j : hp) => (
    (gfI h94j a0 6 4).bind fun v14 =>
    if 0 ≤ v14 then (
      some (v1, h94j)
    ) else (
      (ckT h94j a0 6).bind fun _ =>
      bd2 (fX7_peek a0 h94j) fun v17 h18 =>
      if v17 = 124 then (
        (gfI h18 a0 6 2).bind fun v20 =>
        (pfI h18 a0 6 2 (v20 + 1)).bind fun h22 =>
        (ckT h22 a0 6).bind fun _ =>
        bd2 (fX7_readFilters a0 h22) fun v25 h26 =>
        (pfR h26 v1 1 3 v25).bind fun h28 =>
        some (v1, h28)
      ) else (
        some (v1, h18)
      )
    )
    : Option (Nat × hp))) fun k94 =>
  if v12 = 0 then (
    (ckT h13 a0 6).bind fun _ =>
    bd2 (fX7_peek a0 h13) fun v31 h32 =>
    if v31 = 35 then (
      (pfI h32 v1 1 0 2).bind fun h50 =>
      (gfI h50 a0 6 2).bind fun v52 =>
      (pfI h50 a0 6 2 (v52 + 1)).bind fun h54 =>
      k94 h54
    ) else (
      (ckT h32 a0 6).bind fun _ =>
      bd2 (fX7_peek a0 h32) fun v35 h36 =>
      if v35 = 39 then (
        (ckT h36 a0 6).bind fun _ =>
        bd2 (fX7_readText a0 h36) fun v45 h46 =>
        (pfR h46 v1 1 2 v45).bind fun h48 =>
        k94 h48
      ) else (
        (ckT h36 a0 6).bind fun _ =>
        bd2 (fX7_readNumber a0 h36) fun v39 h40 =>
        (pfR h40 v1 1 2 v39).bind fun h42 =>
        k94 h42
      )
    )
  ) else (
    (pfI h13 v1 1 0 1).bind fun h56 =>
    (ckT h56 a0 6).bind fun _ =>
    bd2 (fX7_readVariable a0 h56) fun v59 h60 =>
    (pfI h60 v1 1 1 v59).bind fun h62 =>
    k94 h62
  )
set_option maxHeartbeats 4000000 in
set_option maxRecDepth 100000 in
theorem sX7_readExpression (E : gE) (D : Nat) (hD : 8 ≤ D) {a0 : Nat} {h hz : hp} {v0 : Nat} (hf : fX7_readExpression a0 h = some (v0, hz)) : MC E yX7_readExpression cX7_readExpression (Option.some (Jvm.ClassFile.FieldType.object "TemplatePress$Expression")) 2 D [.ref a0] h (some (.ref v0)) hz := by
  refine MC.of (by decide +kernel) (Nat.le_of_ble_eq_true rfl) rfl ?_
  unfold fX7_readExpression at hf
  show AW E yX7_readExpression cX7_readExpression (Option.some (Jvm.ClassFile.FieldType.object "TemplatePress$Expression")) 2 D (some (.ref v0)) h hz 0 [(0, .ref a0)] [] h
  obtain ⟨v1, h2, e3, hf⟩ := ob2 hf
  refine o_nwO (ci := 1) dX7_readExpression_0 rfl rfl gu_1 tyX2_ok (by decide) wd_565 wd_566 wd_14 e3 ?_
  refine a_dup dX7_readExpression_3 rfl ?_
  obtain ⟨_, e6, hf⟩ := obd hf
  obtain ⟨h5, e4, hf⟩ := obd hf
  refine a_callI (as := []) (np := 0) (ci := 1) (st := [.ref v1]) (sX2_init E (D - 1) (by omega) e4) dX7_readExpression_4 rfl (by omega) (by decide) cw_X7_181 ⟨wd_568, rfl⟩ rfl (ckT_s e6) rfl (Nat.le_of_ble_eq_true rfl) ?_
  refine a_astore_n (lv1 := [(1, .ref v1), (0, .ref a0)]) dX7_readExpression_7 rfl (by decide) rfl ?_
  refine a_aload_n (q := 1) dX7_readExpression_8 rfl rfl ?_
  obtain ⟨_, e10, hf⟩ := obd hf
  obtain ⟨v8, h9, e7, hf⟩ := ob2 hf
  refine a_callV (as := []) (np := 0) (ci := 6) (st := []) (sX7_peek E (D - 1) (by omega) e7) dX7_readExpression_9 rfl (by omega) (by decide) cw_X7_77 ⟨wd_483, ws_4⟩ rfl (ckT_s e10) rfl (Nat.le_of_ble_eq_true rfl) ?_
  refine a_bipush (v := 97) dX7_readExpression_12 (by decide) ?_
  refine a_isub dX7_readExpression_14 ?_
  refine a_bipush (v := 8) dX7_readExpression_15 (by decide) ?_
  obtain ⟨v12, h13, e11, hf⟩ := ob2 hf
  refine a_callS (as := [.int (v8 - 97), .int 8]) (np := 2) (st := []) (sX13_among E (D - 1) (by omega) e11) dX7_readExpression_17 rfl (by omega) (by decide) cw_X7_81 wd_268 rfl (Nat.le_of_ble_eq_true rfl) ?_
  obtain ⟨k94, ek94, hf⟩ := jn_s hf
  have hj94 : ∀ (h94j : hp), k94 h94j = some (v0, hz) → AW E yX7_readExpression cX7_readExpression (Option.some (Jvm.ClassFile.FieldType.object "TemplatePress$Expression")) 2 D (some (.ref v0)) h hz 94 [(0, .ref a0), (1, .ref v1)] [] h94j := by
    intro h94j hf
    rw [ek94] at hf
    clear ek94
    refine a_aload_n (q := 0) dX7_readExpression_94 rfl rfl ?_
    obtain ⟨v14, e15, hf⟩ := obd hf
    refine o_gfI dX7_readExpression_95 lk_X7_15 rfl e15 ?_
    refine a_if_ge (tgt := 128) dX7_readExpression_98 (by decide) (fun c => ?_) (fun c => ?_)
    · have hf := ifp c hf
      refine a_aload_n (q := 1) dX7_readExpression_128 rfl rfl ?_
      obtain ⟨rfl, rfl⟩ := oc2 hf
      exact a_areturn dX7_readExpression_129 rfl (Or.inl ⟨_, rfl⟩)
    · have hf := ifn c hf
      refine a_aload_n (q := 0) dX7_readExpression_101 rfl rfl ?_
      obtain ⟨_, e19, hf⟩ := obd hf
      obtain ⟨v17, h18, e16, hf⟩ := ob2 hf
      refine a_callV (as := []) (np := 0) (ci := 6) (st := []) (sX7_peek E (D - 1) (by omega) e16) dX7_readExpression_102 rfl (by omega) (by decide) cw_X7_77 ⟨wd_483, ws_4⟩ rfl (ckT_s e19) rfl (Nat.le_of_ble_eq_true rfl) ?_
      refine a_bipush (v := 124) dX7_readExpression_105 (by decide) ?_
      refine a_icmp_ne (tgt := 128) dX7_readExpression_107 (by decide) (fun c => ?_) (fun c => ?_)
      · have hf := ifn c hf
        refine a_aload_n (q := 1) dX7_readExpression_128 rfl rfl ?_
        obtain ⟨rfl, rfl⟩ := oc2 hf
        exact a_areturn dX7_readExpression_129 rfl (Or.inl ⟨_, rfl⟩)
      · have hf := ifp c hf
        refine a_aload_n (q := 0) dX7_readExpression_110 rfl rfl ?_
        refine a_aload_n (q := 0) dX7_readExpression_111 rfl rfl ?_
        obtain ⟨v20, e21, hf⟩ := obd hf
        refine o_gfI dX7_readExpression_112 lk_X7_40 rfl e21 ?_
        refine a_iconst (v := 1) dX7_readExpression_115 (by decide) ?_
        refine a_iadd dX7_readExpression_116 ?_
        obtain ⟨h22, e23, hf⟩ := obd hf
        refine o_pfI dX7_readExpression_117 lk_X7_40 (⟨_, rfl, Or.inl rfl⟩) rfl e23 ?_
        refine a_aload_n (q := 1) dX7_readExpression_120 rfl rfl ?_
        refine a_aload_n (q := 0) dX7_readExpression_121 rfl rfl ?_
        obtain ⟨_, e27, hf⟩ := obd hf
        obtain ⟨v25, h26, e24, hf⟩ := ob2 hf
        refine a_callV (as := []) (np := 0) (ci := 6) (st := [.ref v1]) (sX7_readFilters E (D - 1) (by omega) e24) dX7_readExpression_122 rfl (by omega) (by decide) cw_X7_66 ⟨wd_619, ws_18⟩ rfl (ckT_s e27) rfl (Nat.le_of_ble_eq_true rfl) ?_
        obtain ⟨h28, e29, hf⟩ := obd hf
        refine o_pfR dX7_readExpression_125 lk_X7_199 (⟨_, rfl, Or.inl rfl⟩) rfl e29 ?_
        refine a_aload_n (q := 1) dX7_readExpression_128 rfl rfl ?_
        obtain ⟨rfl, rfl⟩ := oc2 hf
        exact a_areturn dX7_readExpression_129 rfl (Or.inl ⟨_, rfl⟩)
  clear ek94
  refine a_if_eq (tgt := 39) dX7_readExpression_20 (by decide) (fun c => ?_) (fun c => ?_)
  · have hf := ifp c hf
    refine a_aload_n (q := 1) dX7_readExpression_39 rfl rfl ?_
    obtain ⟨_, e33, hf⟩ := obd hf
    obtain ⟨v31, h32, e30, hf⟩ := ob2 hf
    refine a_callV (as := []) (np := 0) (ci := 6) (st := []) (sX7_peek E (D - 1) (by omega) e30) dX7_readExpression_40 rfl (by omega) (by decide) cw_X7_77 ⟨wd_483, ws_4⟩ rfl (ckT_s e33) rfl (Nat.le_of_ble_eq_true rfl) ?_
    refine a_bipush (v := 35) dX7_readExpression_43 (by decide) ?_
    refine a_icmp_ne (tgt := 66) dX7_readExpression_45 (by decide) (fun c => ?_) (fun c => ?_)
    · have hf := ifn c hf
      refine a_aload_n (q := 1) dX7_readExpression_66 rfl rfl ?_
      obtain ⟨_, e37, hf⟩ := obd hf
      obtain ⟨v35, h36, e34, hf⟩ := ob2 hf
      refine a_callV (as := []) (np := 0) (ci := 6) (st := []) (sX7_peek E (D - 1) (by omega) e34) dX7_readExpression_67 rfl (by omega) (by decide) cw_X7_77 ⟨wd_483, ws_4⟩ rfl (ckT_s e37) rfl (Nat.le_of_ble_eq_true rfl) ?_
      refine a_bipush (v := 39) dX7_readExpression_70 (by decide) ?_
      refine a_icmp_ne (tgt := 86) dX7_readExpression_72 (by decide) (fun c => ?_) (fun c => ?_)
      · have hf := ifn c hf
        refine a_aload_n (q := 0) dX7_readExpression_86 rfl rfl ?_
        refine a_aload_n (q := 1) dX7_readExpression_87 rfl rfl ?_
        obtain ⟨_, e41, hf⟩ := obd hf
        obtain ⟨v39, h40, e38, hf⟩ := ob2 hf
        refine a_callV (as := []) (np := 0) (ci := 6) (st := [.ref v1]) (sX7_readNumber E (D - 1) (by omega) e38) dX7_readExpression_88 rfl (by omega) (by decide) cw_X7_196 ⟨wd_607, ws_16⟩ rfl (ckT_s e41) rfl (Nat.le_of_ble_eq_true rfl) ?_
        obtain ⟨h42, e43, hf⟩ := obd hf
        refine o_pfR dX7_readExpression_91 lk_X7_192 (⟨_, rfl, Or.inl rfl⟩) rfl e43 ?_
        exact AW.sub [1, 0] rfl (hj94 _ hf)
      · have hf := ifp c hf
        refine a_aload_n (q := 0) dX7_readExpression_75 rfl rfl ?_
        refine a_aload_n (q := 1) dX7_readExpression_76 rfl rfl ?_
        obtain ⟨_, e47, hf⟩ := obd hf
        obtain ⟨v45, h46, e44, hf⟩ := ob2 hf
        refine a_callV (as := []) (np := 0) (ci := 6) (st := [.ref v1]) (sX7_readText E (D - 1) (by omega) e44) dX7_readExpression_77 rfl (by omega) (by decide) cw_X7_188 ⟨wd_594, ws_15⟩ rfl (ckT_s e47) rfl (Nat.le_of_ble_eq_true rfl) ?_
        obtain ⟨h48, e49, hf⟩ := obd hf
        refine o_pfR dX7_readExpression_80 lk_X7_192 (⟨_, rfl, Or.inl rfl⟩) rfl e49 ?_
        refine a_goto (tgt := 94) dX7_readExpression_83 (by decide) ?_
        exact AW.sub [1, 0] rfl (hj94 _ hf)
    · have hf := ifp c hf
      refine a_aload_n (q := 0) dX7_readExpression_48 rfl rfl ?_
      refine a_iconst (v := 2) dX7_readExpression_49 (by decide) ?_
      obtain ⟨h50, e51, hf⟩ := obd hf
      refine o_pfI dX7_readExpression_50 lk_X7_182 (⟨_, rfl, Or.inl rfl⟩) rfl e51 ?_
      refine a_aload_n (q := 1) dX7_readExpression_53 rfl rfl ?_
      refine a_aload_n (q := 1) dX7_readExpression_54 rfl rfl ?_
      obtain ⟨v52, e53, hf⟩ := obd hf
      refine o_gfI dX7_readExpression_55 lk_X7_40 rfl e53 ?_
      refine a_iconst (v := 1) dX7_readExpression_58 (by decide) ?_
      refine a_iadd dX7_readExpression_59 ?_
      obtain ⟨h54, e55, hf⟩ := obd hf
      refine o_pfI dX7_readExpression_60 lk_X7_40 (⟨_, rfl, Or.inl rfl⟩) rfl e55 ?_
      refine a_goto (tgt := 94) dX7_readExpression_63 (by decide) ?_
      exact AW.sub [1, 0] rfl (hj94 _ hf)
  · have hf := ifn c hf
    refine a_aload_n (q := 0) dX7_readExpression_23 rfl rfl ?_
    refine a_iconst (v := 1) dX7_readExpression_24 (by decide) ?_
    obtain ⟨h56, e57, hf⟩ := obd hf
    refine o_pfI dX7_readExpression_25 lk_X7_182 (⟨_, rfl, Or.inl rfl⟩) rfl e57 ?_
    refine a_aload_n (q := 0) dX7_readExpression_28 rfl rfl ?_
    refine a_aload_n (q := 1) dX7_readExpression_29 rfl rfl ?_
    obtain ⟨_, e61, hf⟩ := obd hf
    obtain ⟨v59, h60, e58, hf⟩ := ob2 hf
    refine a_callV (as := []) (np := 0) (ci := 6) (st := [.ref v1]) (sX7_readVariable E (D - 1) (by omega) e58) dX7_readExpression_30 rfl (by omega) (by decide) cw_X7_163 ⟨wd_590, ws_14⟩ rfl (ckT_s e61) rfl (Nat.le_of_ble_eq_true rfl) ?_
    obtain ⟨h62, e63, hf⟩ := obd hf
    refine o_pfI dX7_readExpression_33 lk_X7_185 (⟨_, rfl, Or.inl rfl⟩) rfl e63 ?_
    refine a_goto (tgt := 94) dX7_readExpression_36 (by decide) ?_
    exact AW.sub [1, 0] rfl (hj94 _ hf)

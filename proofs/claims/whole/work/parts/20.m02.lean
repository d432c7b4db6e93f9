def fX7_readByte (a0 : Nat) (h : hp) : Option (Nat × hp) :=
  bd2 (nwO h 5 9) fun v1 h2 =>
  (gfI h2 a0 6 3).bind fun v4 =>
  (ckT h2 v1 5).bind fun _ =>
  (fX6_init v1 0 v4 h2).bind fun h7 =>
  (ckT h7 a0 6).bind fun _ =>
  bd2 (fX7_peek a0 h7) fun v10 h11 =>
  (pfI h11 v1 5 2 v10).bind fun h13 =>
  (ckT h13 a0 6).bind fun _ =>
  bd2 (fX7_peek a0 h13) fun v16 h17 =>
  jn (fun (h34j : hp) => (
    (ckT h34j a0 6).bind fun _ =>
    bd2 (fX7_peek a0 h34j) fun v20 h21 =>
    jn (fun (h53j : hp) => (
      (gfI h53j a0 6 2).bind fun v23 =>
      (pfI h53j a0 6 2 (v23 + 1)).bind fun h25 =>
      some (v1, h25)
      : Option (Nat × hp))) fun k53 =>
    if v20 = 10 then (
      (gfI h21 a0 6 3).bind fun v27 =>
      (pfI h21 a0 6 3 (v27 + 1)).bind fun h29 =>
      k53 h29
    ) else (
      k53 h21
    )
    : Option (Nat × hp))) fun k34 =>
  if v16 = 125 then (
    (ckT h17 a0 6).bind fun _ =>
    (fX7_refuse a0 h17).bind fun h32 =>
    k34 h32
  ) else (
    k34 h17
  )
set_option maxHeartbeats 4000000 in
set_option maxRecDepth 100000 in
theorem sX7_readByte (E : gE) (D : Nat) (hD : 2 ≤ D) {a0 : Nat} {h hz : hp} {v0 : Nat} (hf : fX7_readByte a0 h = some (v0, hz)) : MC E yX7_readByte cX7_readByte (Option.some (Jvm.ClassFile.FieldType.object "TemplatePress$Piece")) 2 D [.ref a0] h (some (.ref v0)) hz := by
  refine MC.of (by decide +kernel) (Nat.le_of_ble_eq_true rfl) rfl ?_
  unfold fX7_readByte at hf
  show AW E yX7_readByte cX7_readByte (Option.some (Jvm.ClassFile.FieldType.object "TemplatePress$Piece")) 2 D (some (.ref v0)) h hz 0 [(0, .ref a0)] [] h
  obtain ⟨v1, h2, e3, hf⟩ := ob2 hf
  refine o_nwO (ci := 5) dX7_readByte_0 rfl rfl gu_5 tyX6_ok (by decide) wd_510 wd_511 wd_13 e3 ?_
  refine a_dup dX7_readByte_3 rfl ?_
  refine a_iconst (v := 0) dX7_readByte_4 (by decide) ?_
  refine a_aload_n (q := 0) dX7_readByte_5 rfl rfl ?_
  obtain ⟨v4, e5, hf⟩ := obd hf
  refine o_gfI dX7_readByte_6 lk_X7_9 rfl e5 ?_
  obtain ⟨_, e8, hf⟩ := obd hf
  obtain ⟨h7, e6, hf⟩ := obd hf
  refine a_callI (as := [.int 0, .int v4]) (np := 2) (ci := 5) (st := [.ref v1]) (sX6_init E (D - 1) (by omega) e6) dX7_readByte_9 rfl (by omega) (by decide) cw_X7_136 ⟨wd_513, rfl⟩ rfl (ckT_s e8) rfl (Nat.le_of_ble_eq_true rfl) ?_
  refine a_astore_n (lv1 := [(1, .ref v1), (0, .ref a0)]) dX7_readByte_12 rfl (by decide) rfl ?_
  refine a_aload_n (q := 0) dX7_readByte_13 rfl rfl ?_
  refine a_aload_n (q := 1) dX7_readByte_14 rfl rfl ?_
  obtain ⟨_, e12, hf⟩ := obd hf
  obtain ⟨v10, h11, e9, hf⟩ := ob2 hf
  refine a_callV (as := []) (np := 0) (ci := 6) (st := [.ref v1]) (sX7_peek E (D - 1) (by omega) e9) dX7_readByte_15 rfl (by omega) (by decide) cw_X7_77 ⟨wd_483, ws_4⟩ rfl (ckT_s e12) rfl (Nat.le_of_ble_eq_true rfl) ?_
  obtain ⟨h13, e14, hf⟩ := obd hf
  refine o_pfI dX7_readByte_18 lk_X7_147 (⟨_, rfl, Or.inl rfl⟩) rfl e14 ?_
  refine a_aload_n (q := 1) dX7_readByte_21 rfl rfl ?_
  obtain ⟨_, e18, hf⟩ := obd hf
  obtain ⟨v16, h17, e15, hf⟩ := ob2 hf
  refine a_callV (as := []) (np := 0) (ci := 6) (st := []) (sX7_peek E (D - 1) (by omega) e15) dX7_readByte_22 rfl (by omega) (by decide) cw_X7_77 ⟨wd_483, ws_4⟩ rfl (ckT_s e18) rfl (Nat.le_of_ble_eq_true rfl) ?_
  refine a_bipush (v := 125) dX7_readByte_25 (by decide) ?_
  obtain ⟨k34, ek34, hf⟩ := jn_s hf
  have hj34 : ∀ (h34j : hp), k34 h34j = some (v0, hz) → AW E yX7_readByte cX7_readByte (Option.some (Jvm.ClassFile.FieldType.object "TemplatePress$Piece")) 2 D (some (.ref v0)) h hz 34 [(0, .ref a0), (1, .ref v1)] [] h34j := by
    intro h34j hf
    rw [ek34] at hf
    clear ek34
    refine a_aload_n (q := 0) dX7_readByte_34 rfl rfl ?_
    obtain ⟨_, e22, hf⟩ := obd hf
    obtain ⟨v20, h21, e19, hf⟩ := ob2 hf
    refine a_callV (as := []) (np := 0) (ci := 6) (st := []) (sX7_peek E (D - 1) (by omega) e19) dX7_readByte_35 rfl (by omega) (by decide) cw_X7_77 ⟨wd_483, ws_4⟩ rfl (ckT_s e22) rfl (Nat.le_of_ble_eq_true rfl) ?_
    refine a_bipush (v := 10) dX7_readByte_38 (by decide) ?_
    obtain ⟨k53, ek53, hf⟩ := jn_s hf
    have hj53 : ∀ (h53j : hp), k53 h53j = some (v0, hz) → AW E yX7_readByte cX7_readByte (Option.some (Jvm.ClassFile.FieldType.object "TemplatePress$Piece")) 2 D (some (.ref v0)) h hz 53 [(0, .ref a0), (1, .ref v1)] [] h53j := by
      intro h53j hf
      rw [ek53] at hf
      clear ek53
      refine a_aload_n (q := 0) dX7_readByte_53 rfl rfl ?_
      refine a_aload_n (q := 0) dX7_readByte_54 rfl rfl ?_
      obtain ⟨v23, e24, hf⟩ := obd hf
      refine o_gfI dX7_readByte_55 lk_X7_40 rfl e24 ?_
      refine a_iconst (v := 1) dX7_readByte_58 (by decide) ?_
      refine a_iadd dX7_readByte_59 ?_
      obtain ⟨h25, e26, hf⟩ := obd hf
      refine o_pfI dX7_readByte_60 lk_X7_40 (⟨_, rfl, Or.inl rfl⟩) rfl e26 ?_
      refine a_aload_n (q := 1) dX7_readByte_63 rfl rfl ?_
      obtain ⟨rfl, rfl⟩ := oc2 hf
      exact a_areturn dX7_readByte_64 rfl (Or.inl ⟨_, rfl⟩)
    clear ek53
    refine a_icmp_ne (tgt := 53) dX7_readByte_40 (by decide) (fun c => ?_) (fun c => ?_)
    · have hf := ifn c hf
      exact hj53 _ hf
    · have hf := ifp c hf
      refine a_aload_n (q := 0) dX7_readByte_43 rfl rfl ?_
      refine a_aload_n (q := 0) dX7_readByte_44 rfl rfl ?_
      obtain ⟨v27, e28, hf⟩ := obd hf
      refine o_gfI dX7_readByte_45 lk_X7_9 rfl e28 ?_
      refine a_iconst (v := 1) dX7_readByte_48 (by decide) ?_
      refine a_iadd dX7_readByte_49 ?_
      obtain ⟨h29, e30, hf⟩ := obd hf
      refine o_pfI dX7_readByte_50 lk_X7_9 (⟨_, rfl, Or.inl rfl⟩) rfl e30 ?_
      exact hj53 _ hf
  clear ek34
  refine a_icmp_ne (tgt := 34) dX7_readByte_27 (by decide) (fun c => ?_) (fun c => ?_)
  · have hf := ifn c hf
    exact AW.sub [1, 0] rfl (hj34 _ hf)
  · have hf := ifp c hf
    refine a_aload_n (q := 1) dX7_readByte_30 rfl rfl ?_
    obtain ⟨_, e33, hf⟩ := obd hf
    obtain ⟨h32, e31, hf⟩ := obd hf
    refine a_callV (as := []) (np := 0) (ci := 6) (st := []) (sX7_refuse E (D - 1) (by omega) e31) dX7_readByte_31 rfl (by omega) (by decide) cw_X7_70 ⟨wd_488, ws_5⟩ rfl (ckT_s e33) rfl (Nat.le_of_ble_eq_true rfl) ?_
    exact AW.sub [1, 0] rfl (hj34 _ hf)
def fX7_readName (a0 : Nat) (h : hp) : Option (Nat × hp) :=
  bd2 (nwO h 5 9) fun v1 h2 =>
  (gfI h2 a0 6 3).bind fun v4 =>
  (ckT h2 v1 5).bind fun _ =>
  (fX6_init v1 7 v4 h2).bind fun h7 =>
  (gfI h7 a0 6 2).bind fun v9 =>
  (pfI h7 a0 6 2 (v9 + 1)).bind fun h11 =>
  (ckT h11 a0 6).bind fun _ =>
  bd2 (fX7_readVariable a0 h11) fun v14 h15 =>
  (pfI h15 v1 5 2 v14).bind fun h17 =>
  (ckT h17 a0 6).bind fun _ =>
  (fX7_expect a0 61 h17).bind fun h20 =>
  (ckT h20 a0 6).bind fun _ =>
  bd2 (fX7_readExpression a0 h20) fun v23 h24 =>
  (pfR h24 v1 5 4 v23).bind fun h26 =>
  (ckT h26 a0 6).bind fun _ =>
  (fX7_expect a0 125 h26).bind fun h29 =>
  some (v1, h29)
set_option maxHeartbeats 4000000 in
set_option maxRecDepth 100000 in
theorem sX7_readName (E : gE) (D : Nat) (hD : 9 ≤ D) {a0 : Nat} {h hz : hp} {v0 : Nat} (hf : fX7_readName a0 h = some (v0, hz)) : MC E yX7_readName cX7_readName (Option.some (Jvm.ClassFile.FieldType.object "TemplatePress$Piece")) 2 D [.ref a0] h (some (.ref v0)) hz := by
  refine MC.of (by decide +kernel) (Nat.le_of_ble_eq_true rfl) rfl ?_
  unfold fX7_readName at hf
  show AW E yX7_readName cX7_readName (Option.some (Jvm.ClassFile.FieldType.object "TemplatePress$Piece")) 2 D (some (.ref v0)) h hz 0 [(0, .ref a0)] [] h
  obtain ⟨v1, h2, e3, hf⟩ := ob2 hf
  refine o_nwO (ci := 5) dX7_readName_0 rfl rfl gu_5 tyX6_ok (by decide) wd_510 wd_511 wd_13 e3 ?_
  refine a_dup dX7_readName_3 rfl ?_
  refine a_bipush (v := 7) dX7_readName_4 (by decide) ?_
  refine a_aload_n (q := 0) dX7_readName_6 rfl rfl ?_
  obtain ⟨v4, e5, hf⟩ := obd hf
  refine o_gfI dX7_readName_7 lk_X7_9 rfl e5 ?_
  obtain ⟨_, e8, hf⟩ := obd hf
  obtain ⟨h7, e6, hf⟩ := obd hf
  refine a_callI (as := [.int 7, .int v4]) (np := 2) (ci := 5) (st := [.ref v1]) (sX6_init E (D - 1) (by omega) e6) dX7_readName_10 rfl (by omega) (by decide) cw_X7_136 ⟨wd_513, rfl⟩ rfl (ckT_s e8) rfl (Nat.le_of_ble_eq_true rfl) ?_
  refine a_astore_n (lv1 := [(1, .ref v1), (0, .ref a0)]) dX7_readName_13 rfl (by decide) rfl ?_
  refine a_aload_n (q := 1) dX7_readName_14 rfl rfl ?_
  refine a_aload_n (q := 1) dX7_readName_15 rfl rfl ?_
  obtain ⟨v9, e10, hf⟩ := obd hf
  refine o_gfI dX7_readName_16 lk_X7_40 rfl e10 ?_
  refine a_iconst (v := 1) dX7_readName_19 (by decide) ?_
  refine a_iadd dX7_readName_20 ?_
  obtain ⟨h11, e12, hf⟩ := obd hf
  refine o_pfI dX7_readName_21 lk_X7_40 (⟨_, rfl, Or.inl rfl⟩) rfl e12 ?_
  refine a_aload_n (q := 0) dX7_readName_24 rfl rfl ?_
  refine a_aload_n (q := 1) dX7_readName_25 rfl rfl ?_
  obtain ⟨_, e16, hf⟩ := obd hf
  obtain ⟨v14, h15, e13, hf⟩ := ob2 hf
  refine a_callV (as := []) (np := 0) (ci := 6) (st := [.ref v1]) (sX7_readVariable E (D - 1) (by omega) e13) dX7_readName_26 rfl (by omega) (by decide) cw_X7_163 ⟨wd_590, ws_14⟩ rfl (ckT_s e16) rfl (Nat.le_of_ble_eq_true rfl) ?_
  obtain ⟨h17, e18, hf⟩ := obd hf
  refine o_pfI dX7_readName_29 lk_X7_147 (⟨_, rfl, Or.inl rfl⟩) rfl e18 ?_
  refine a_aload_n (q := 1) dX7_readName_32 rfl rfl ?_
  refine a_bipush (v := 61) dX7_readName_33 (by decide) ?_
  obtain ⟨_, e21, hf⟩ := obd hf
  obtain ⟨h20, e19, hf⟩ := obd hf
  refine a_callV (as := [.int 61]) (np := 1) (ci := 6) (st := []) (sX7_expect E (D - 1) (by omega) e19) dX7_readName_35 rfl (by omega) (by decide) cw_X7_52 ⟨wd_492, ws_6⟩ rfl (ckT_s e21) rfl (Nat.le_of_ble_eq_true rfl) ?_
  refine a_aload_n (q := 0) dX7_readName_38 rfl rfl ?_
  refine a_aload_n (q := 1) dX7_readName_39 rfl rfl ?_
  obtain ⟨_, e25, hf⟩ := obd hf
  obtain ⟨v23, h24, e22, hf⟩ := ob2 hf
  refine a_callV (as := []) (np := 0) (ci := 6) (st := [.ref v1]) (sX7_readExpression E (D - 1) (by omega) e22) dX7_readName_40 rfl (by omega) (by decide) cw_X7_139 ⟨wd_563, ws_13⟩ rfl (ckT_s e25) rfl (Nat.le_of_ble_eq_true rfl) ?_
  obtain ⟨h26, e27, hf⟩ := obd hf
  refine o_pfR dX7_readName_43 lk_X7_143 (⟨_, rfl, Or.inl rfl⟩) rfl e27 ?_
  refine a_aload_n (q := 1) dX7_readName_46 rfl rfl ?_
  refine a_bipush (v := 125) dX7_readName_47 (by decide) ?_
  obtain ⟨_, e30, hf⟩ := obd hf
  obtain ⟨h29, e28, hf⟩ := obd hf
  refine a_callV (as := [.int 125]) (np := 1) (ci := 6) (st := []) (sX7_expect E (D - 1) (by omega) e28) dX7_readName_49 rfl (by omega) (by decide) cw_X7_52 ⟨wd_492, ws_6⟩ rfl (ckT_s e30) rfl (Nat.le_of_ble_eq_true rfl) ?_
  refine a_aload_n (q := 0) dX7_readName_52 rfl rfl ?_
  obtain ⟨rfl, rfl⟩ := oc2 hf
  exact a_areturn dX7_readName_53 rfl (Or.inl ⟨_, rfl⟩)
def fX7_readPart (a0 : Nat) (h : hp) : Option (Nat × hp) :=
  bd2 (nwO h 5 9) fun v1 h2 =>
  (gfI h2 a0 6 3).bind fun v4 =>
  (ckT h2 v1 5).bind fun _ =>
  (fX6_init v1 6 v4 h2).bind fun h7 =>
  (gfI h7 a0 6 2).bind fun v9 =>
  (pfI h7 a0 6 2 (v9 + 1)).bind fun h11 =>
  (ckT h11 a0 6).bind fun _ =>
  bd2 (fX7_readOneOf a0 48 6 h11) fun v14 h15 =>
  (pfI h15 v1 5 2 v14).bind fun h17 =>
  (gfR h17 a0 6 1).bind fun v19 =>
  (gfR h17 a0 6 1).bind fun v21 =>
  (gfI h17 v21 9 6).bind fun v23 =>
  (gfI h17 v1 5 2).bind fun v25 =>
  (pfI h17 v19 9 6 (v23 ||| ((1 : Int32) <<< (v25 &&& 31)))).bind fun h27 =>
  (ckT h27 a0 6).bind fun _ =>
  (fX7_expect a0 125 h27).bind fun h30 =>
  some (v1, h30)
set_option maxHeartbeats 4000000 in
set_option maxRecDepth 100000 in
theorem sX7_readPart (E : gE) (D : Nat) (hD : 2 ≤ D) {a0 : Nat} {h hz : hp} {v0 : Nat} (hf : fX7_readPart a0 h = some (v0, hz)) : MC E yX7_readPart cX7_readPart (Option.some (Jvm.ClassFile.FieldType.object "TemplatePress$Piece")) 2 D [.ref a0] h (some (.ref v0)) hz := by
  refine MC.of (by decide +kernel) (Nat.le_of_ble_eq_true rfl) rfl ?_
  unfold fX7_readPart at hf
  show AW E yX7_readPart cX7_readPart (Option.some (Jvm.ClassFile.FieldType.object "TemplatePress$Piece")) 2 D (some (.ref v0)) h hz 0 [(0, .ref a0)] [] h
  obtain ⟨v1, h2, e3, hf⟩ := ob2 hf
  refine o_nwO (ci := 5) dX7_readPart_0 rfl rfl gu_5 tyX6_ok (by decide) wd_510 wd_511 wd_13 e3 ?_
  refine a_dup dX7_readPart_3 rfl ?_
  refine a_bipush (v := 6) dX7_readPart_4 (by decide) ?_
  refine a_aload_n (q := 0) dX7_readPart_6 rfl rfl ?_
  obtain ⟨v4, e5, hf⟩ := obd hf
  refine o_gfI dX7_readPart_7 lk_X7_9 rfl e5 ?_
  obtain ⟨_, e8, hf⟩ := obd hf
  obtain ⟨h7, e6, hf⟩ := obd hf
  refine a_callI (as := [.int 6, .int v4]) (np := 2) (ci := 5) (st := [.ref v1]) (sX6_init E (D - 1) (by omega) e6) dX7_readPart_10 rfl (by omega) (by decide) cw_X7_136 ⟨wd_513, rfl⟩ rfl (ckT_s e8) rfl (Nat.le_of_ble_eq_true rfl) ?_
  refine a_astore_n (lv1 := [(1, .ref v1), (0, .ref a0)]) dX7_readPart_13 rfl (by decide) rfl ?_
  refine a_aload_n (q := 1) dX7_readPart_14 rfl rfl ?_
  refine a_aload_n (q := 1) dX7_readPart_15 rfl rfl ?_
  obtain ⟨v9, e10, hf⟩ := obd hf
  refine o_gfI dX7_readPart_16 lk_X7_40 rfl e10 ?_
  refine a_iconst (v := 1) dX7_readPart_19 (by decide) ?_
  refine a_iadd dX7_readPart_20 ?_
  obtain ⟨h11, e12, hf⟩ := obd hf
  refine o_pfI dX7_readPart_21 lk_X7_40 (⟨_, rfl, Or.inl rfl⟩) rfl e12 ?_
  refine a_aload_n (q := 0) dX7_readPart_24 rfl rfl ?_
  refine a_aload_n (q := 1) dX7_readPart_25 rfl rfl ?_
  refine a_bipush (v := 48) dX7_readPart_26 (by decide) ?_
  refine a_bipush (v := 6) dX7_readPart_28 (by decide) ?_
  obtain ⟨_, e16, hf⟩ := obd hf
  obtain ⟨v14, h15, e13, hf⟩ := ob2 hf
  refine a_callV (as := [.int 48, .int 6]) (np := 2) (ci := 6) (st := [.ref v1]) (sX7_readOneOf E (D - 1) (by omega) e13) dX7_readPart_30 rfl (by omega) (by decide) cw_X7_45 ⟨wd_479, ws_3⟩ rfl (ckT_s e16) rfl (Nat.le_of_ble_eq_true rfl) ?_
  obtain ⟨h17, e18, hf⟩ := obd hf
  refine o_pfI dX7_readPart_33 lk_X7_147 (⟨_, rfl, Or.inl rfl⟩) rfl e18 ?_
  refine a_aload_n (q := 1) dX7_readPart_36 rfl rfl ?_
  obtain ⟨v19, e20, hf⟩ := obd hf
  refine o_gfR dX7_readPart_37 lk_X7_32 rfl e20 ?_
  refine a_aload_n (q := 1) dX7_readPart_40 rfl rfl ?_
  obtain ⟨v21, e22, hf⟩ := obd hf
  refine o_gfR dX7_readPart_41 lk_X7_32 rfl e22 ?_
  obtain ⟨v23, e24, hf⟩ := obd hf
  refine o_gfI dX7_readPart_44 lk_X7_176 rfl e24 ?_
  refine a_iconst (v := 1) dX7_readPart_47 (by decide) ?_
  refine a_aload_n (q := 0) dX7_readPart_48 rfl rfl ?_
  obtain ⟨v25, e26, hf⟩ := obd hf
  refine o_gfI dX7_readPart_49 lk_X7_147 rfl e26 ?_
  refine a_ishl dX7_readPart_52 ?_
  refine a_ior dX7_readPart_53 ?_
  obtain ⟨h27, e28, hf⟩ := obd hf
  refine o_pfI dX7_readPart_54 lk_X7_176 (⟨_, rfl, Or.inl rfl⟩) rfl e28 ?_
  refine a_aload_n (q := 1) dX7_readPart_57 rfl rfl ?_
  refine a_bipush (v := 125) dX7_readPart_58 (by decide) ?_
  obtain ⟨_, e31, hf⟩ := obd hf
  obtain ⟨h30, e29, hf⟩ := obd hf
  refine a_callV (as := [.int 125]) (np := 1) (ci := 6) (st := []) (sX7_expect E (D - 1) (by omega) e29) dX7_readPart_60 rfl (by omega) (by decide) cw_X7_52 ⟨wd_492, ws_6⟩ rfl (ckT_s e31) rfl (Nat.le_of_ble_eq_true rfl) ?_
  refine a_aload_n (q := 0) dX7_readPart_63 rfl rfl ?_
  obtain ⟨rfl, rfl⟩ := oc2 hf
  exact a_areturn dX7_readPart_64 rfl (Or.inl ⟨_, rfl⟩)
def fX7_readShow (a0 : Nat) (h : hp) : Option (Nat × hp) :=
  bd2 (nwO h 5 9) fun v1 h2 =>
  (gfI h2 a0 6 3).bind fun v4 =>
  (ckT h2 v1 5).bind fun _ =>
  (fX6_init v1 1 v4 h2).bind fun h7 =>
  (ckT h7 a0 6).bind fun _ =>
  bd2 (fX7_readExpression a0 h7) fun v10 h11 =>
  (pfR h11 v1 5 4 v10).bind fun h13 =>
  (ckT h13 a0 6).bind fun _ =>
  (fX7_expect a0 125 h13).bind fun h16 =>
  some (v1, h16)
set_option maxHeartbeats 4000000 in
set_option maxRecDepth 100000 in
theorem sX7_readShow (E : gE) (D : Nat) (hD : 9 ≤ D) {a0 : Nat} {h hz : hp} {v0 : Nat} (hf : fX7_readShow a0 h = some (v0, hz)) : MC E yX7_readShow cX7_readShow (Option.some (Jvm.ClassFile.FieldType.object "TemplatePress$Piece")) 2 D [.ref a0] h (some (.ref v0)) hz := by
  refine MC.of (by decide +kernel) (Nat.le_of_ble_eq_true rfl) rfl ?_
  unfold fX7_readShow at hf
  show AW E yX7_readShow cX7_readShow (Option.some (Jvm.ClassFile.FieldType.object "TemplatePress$Piece")) 2 D (some (.ref v0)) h hz 0 [(0, .ref a0)] [] h
  obtain ⟨v1, h2, e3, hf⟩ := ob2 hf
  refine o_nwO (ci := 5) dX7_readShow_0 rfl rfl gu_5 tyX6_ok (by decide) wd_510 wd_511 wd_13 e3 ?_
  refine a_dup dX7_readShow_3 rfl ?_
  refine a_iconst (v := 1) dX7_readShow_4 (by decide) ?_
  refine a_aload_n (q := 0) dX7_readShow_5 rfl rfl ?_
  obtain ⟨v4, e5, hf⟩ := obd hf
  refine o_gfI dX7_readShow_6 lk_X7_9 rfl e5 ?_
  obtain ⟨_, e8, hf⟩ := obd hf
  obtain ⟨h7, e6, hf⟩ := obd hf
  refine a_callI (as := [.int 1, .int v4]) (np := 2) (ci := 5) (st := [.ref v1]) (sX6_init E (D - 1) (by omega) e6) dX7_readShow_9 rfl (by omega) (by decide) cw_X7_136 ⟨wd_513, rfl⟩ rfl (ckT_s e8) rfl (Nat.le_of_ble_eq_true rfl) ?_
  refine a_astore_n (lv1 := [(1, .ref v1), (0, .ref a0)]) dX7_readShow_12 rfl (by decide) rfl ?_
  refine a_aload_n (q := 0) dX7_readShow_13 rfl rfl ?_
  refine a_aload_n (q := 1) dX7_readShow_14 rfl rfl ?_
  obtain ⟨_, e12, hf⟩ := obd hf
  obtain ⟨v10, h11, e9, hf⟩ := ob2 hf
  refine a_callV (as := []) (np := 0) (ci := 6) (st := [.ref v1]) (sX7_readExpression E (D - 1) (by omega) e9) dX7_readShow_15 rfl (by omega) (by decide) cw_X7_139 ⟨wd_563, ws_13⟩ rfl (ckT_s e12) rfl (Nat.le_of_ble_eq_true rfl) ?_
  obtain ⟨h13, e14, hf⟩ := obd hf
  refine o_pfR dX7_readShow_18 lk_X7_143 (⟨_, rfl, Or.inl rfl⟩) rfl e14 ?_
  refine a_aload_n (q := 1) dX7_readShow_21 rfl rfl ?_
  refine a_bipush (v := 125) dX7_readShow_22 (by decide) ?_
  obtain ⟨_, e17, hf⟩ := obd hf
  obtain ⟨h16, e15, hf⟩ := obd hf
  refine a_callV (as := [.int 125]) (np := 1) (ci := 6) (st := []) (sX7_expect E (D - 1) (by omega) e15) dX7_readShow_24 rfl (by omega) (by decide) cw_X7_52 ⟨wd_492, ws_6⟩ rfl (ckT_s e17) rfl (Nat.le_of_ble_eq_true rfl) ?_
  refine a_aload_n (q := 0) dX7_readShow_27 rfl rfl ?_
  obtain ⟨rfl, rfl⟩ := oc2 hf
  exact a_areturn dX7_readShow_28 rfl (Or.inl ⟨_, rfl⟩)
abbrev gG0 : Type := (Nat → Int32 → Int32 → Int32 → hp → Option (Nat × hp)) × (Nat → Int32 → Int32 → hp → Option (Nat × hp)) × (Nat → Int32 → Int32 → hp → Option (Nat × hp)) × (Nat → Int32 → Int32 → hp → Option (Nat × hp)) × (Nat → Nat → Int32 → Int32 → hp → Option hp) × (Nat → Int32 → hp → Option (Nat × hp))
def gG0_ok (E : gE) (D : Nat) (g : gG0) : Prop :=
  (∀ (a0 : Nat) (a1 : Int32) (a2 : Int32) (a3 : Int32) (h : hp) (v0 : Nat) (hz : hp), g.1 a0 a1 a2 a3 h = some (v0, hz) → MC E yX7_readAll cX7_readAll (Option.some (Jvm.ClassFile.FieldType.object "TemplatePress$Piece")) 8 D [.ref a0, .int a1, .int a2, .int a3] h (some (.ref v0)) hz) ∧
  (∀ (a0 : Nat) (a1 : Int32) (a2 : Int32) (h : hp) (v0 : Nat) (hz : hp), g.2.1 a0 a1 a2 h = some (v0, hz) → MC E yX7_readPiece cX7_readPiece (Option.some (Jvm.ClassFile.FieldType.object "TemplatePress$Piece")) 3 D [.ref a0, .int a1, .int a2] h (some (.ref v0)) hz) ∧
  (∀ (a0 : Nat) (a1 : Int32) (a2 : Int32) (h : hp) (v0 : Nat) (hz : hp), g.2.2.1 a0 a1 a2 h = some (v0, hz) → MC E yX7_readBranch cX7_readBranch (Option.some (Jvm.ClassFile.FieldType.object "TemplatePress$Piece")) 4 D [.ref a0, .int a1, .int a2] h (some (.ref v0)) hz) ∧
  (∀ (a0 : Nat) (a1 : Int32) (a2 : Int32) (h : hp) (v0 : Nat) (hz : hp), g.2.2.2.1 a0 a1 a2 h = some (v0, hz) → MC E yX7_readLoop cX7_readLoop (Option.some (Jvm.ClassFile.FieldType.object "TemplatePress$Piece")) 4 D [.ref a0, .int a1, .int a2] h (some (.ref v0)) hz) ∧
  (∀ (a0 : Nat) (a1 : Nat) (a2 : Int32) (a3 : Int32) (h : hp) (hz : hp), g.2.2.2.2.1 a0 a1 a2 a3 h = some hz → MC E yX7_readBoth cX7_readBoth (Option.none : Option Jvm.ClassFile.FieldType) 4 D [.ref a0, .ref a1, .int a2, .int a3] h none hz) ∧
  (∀ (a0 : Nat) (a1 : Int32) (h : hp) (v0 : Nat) (hz : hp), g.2.2.2.2.2 a0 a1 h = some (v0, hz) → MC E yX7_readBlock cX7_readBlock (Option.some (Jvm.ClassFile.FieldType.object "TemplatePress$Piece")) 3 D [.ref a0, .int a1] h (some (.ref v0)) hz)
def fX7_readAll_l14 (g : gG0) : Nat → Nat → Int32 → Int32 → Int32 → Nat → Nat → Int32 → hp → Option (Nat × Nat × hp)
  | 0, _, _, _, _, _, _, _, _ => none
  | n + 1, x0, x1, x2, x3, x4, x5, x6, h =>
    if 160 < x6 then (
      some (2, x4, h)
    ) else (
      (gfI h x0 6 4).bind fun v1 =>
      if 0 ≤ v1 then (
        some (2, x4, h)
      ) else (
        (gfI h x0 6 2).bind fun v3 =>
        (gfR h x0 6 0).bind fun v5 =>
        (gfI h v5 4 1).bind fun v7 =>
        if v3 < v7 then (
          (ckT h x0 6).bind fun _ =>
          bd2 (fX7_peek x0 h) fun v10 h11 =>
          jn (fun (h88j : hp) => (
            (ckT h88j x0 6).bind fun _ =>
            bd2 (g.2.1 x0 x1 x2 h88j) fun v14 h15 =>
            jn (fun (p115_4 : Nat) (h115j : hp) => (
              fX7_readAll_l14 g n x0 x1 x2 x3 p115_4 v14 (x6 + 1) h115j
              : Option (Nat × Nat × hp))) fun k115 =>
            if x5 = 0 then (
              k115 v14 h15
            ) else (
              (pfR h15 x5 5 8 v14).bind fun h17 =>
              k115 x4 h17
            )
            : Option (Nat × Nat × hp))) fun k88 =>
          if v10 = 123 then (
            (gfR h11 x0 6 0).bind fun v19 =>
            (gfI h11 x0 6 2).bind fun v21 =>
            (ckT h11 v19 4).bind fun _ =>
            bd2 (fX5_at v19 (v21 + 1) h11) fun v24 h25 =>
            (ckT h25 x0 6).bind fun _ =>
            bd2 (fX7_endsHere x0 v24 x1 x3 h25) fun v28 h29 =>
            if v28 = 0 then (
              k88 h29
            ) else (
              some (1, x4, h29)
            )
          ) else (
            k88 h11
          )
        ) else (
          some (0, x4, h)
        )
      )
    )
def fX7_readAll_b (g : gG0) (a0 : Nat) (a1 : Int32) (a2 : Int32) (a3 : Int32) (h : hp) : Option (Nat × hp) :=
  (pfZ h a0 6 5 0).bind fun h1 =>
  bd3 (fX7_readAll_l14 g FU a0 a1 a2 a3 0 0 0 h1) fun t6 v5 h4 =>
  if t6 = 0 then (
    if a1 ≤ 0 then (
      some (v5, h4)
    ) else (
      (ckT h4 a0 6).bind fun _ =>
      (fX7_refuse a0 h4).bind fun h8 =>
      some (v5, h8)
    )
  ) else
  if t6 = 1 then (
    some (v5, h4)
  ) else
  if t6 = 2 then (
    some (v5, h4)
  ) else none
def fX7_readPiece_b (g : gG0) (a0 : Nat) (a1 : Int32) (a2 : Int32) (h : hp) : Option (Nat × hp) :=
  (ckT h a0 6).bind fun _ =>
  bd2 (fX7_peek a0 h) fun v2 h3 =>
  if v2 = 123 then (
    (gfI h3 a0 6 2).bind fun v5 =>
    (pfI h3 a0 6 2 (v5 + 1)).bind fun h7 =>
    (gfR h7 a0 6 1).bind fun v9 =>
    (gfR h7 a0 6 1).bind fun v11 =>
    (gfI h7 v11 9 4).bind fun v13 =>
    (pfI h7 v9 9 4 (v13 + 1)).bind fun h15 =>
    (ckT h15 a0 6).bind fun _ =>
    bd2 (fX7_peek a0 h15) fun v18 h19 =>
    if v18 = 42 then (
      (ckT h19 a0 6).bind fun _ =>
      bd2 (g.2.2.2.1 a0 a1 a2 h19) fun v22 h23 =>
      some (v22, h23)
    ) else (
    if v18 = 61 then (
      (ckT h19 a0 6).bind fun _ =>
      bd2 (g.2.2.2.2.2 a0 a1 h19) fun v26 h27 =>
      some (v26, h27)
    ) else (
    if v18 = 62 then (
      (ckT h19 a0 6).bind fun _ =>
      bd2 (fX7_readPart a0 h19) fun v30 h31 =>
      some (v30, h31)
    ) else (
    if v18 = 63 then (
      (ckT h19 a0 6).bind fun _ =>
      bd2 (g.2.2.1 a0 a1 a2 h19) fun v34 h35 =>
      some (v34, h35)
    ) else (
    if v18 = 64 then (
      (ckT h19 a0 6).bind fun _ =>
      bd2 (fX7_readName a0 h19) fun v38 h39 =>
      some (v38, h39)
    ) else (
    if v18 = 94 then (
      (ckT h19 a0 6).bind fun _ =>
      bd2 (fX7_readAbove a0 a2 h19) fun v42 h43 =>
      some (v42, h43)
    ) else (
      (ckT h19 a0 6).bind fun _ =>
      bd2 (fX7_readShow a0 h19) fun v46 h47 =>
      some (v46, h47)
    ))))))
  ) else (
    (ckT h3 a0 6).bind fun _ =>
    bd2 (fX7_readByte a0 h3) fun v50 h51 =>
    some (v50, h51)
  )
def fX7_readBranch_b (g : gG0) (a0 : Nat) (a1 : Int32) (a2 : Int32) (h : hp) : Option (Nat × hp) :=
  bd2 (nwO h 5 9) fun v1 h2 =>
  (gfI h2 a0 6 3).bind fun v4 =>
  (ckT h2 v1 5).bind fun _ =>
  (fX6_init v1 2 v4 h2).bind fun h7 =>
  (ckT h7 a0 6).bind fun _ =>
  (fX7_readNested a0 a1 h7).bind fun h10 =>
  (ckT h10 a0 6).bind fun _ =>
  bd2 (fX7_peek a0 h10) fun v13 h14 =>
  jn (fun (h42j : hp) => (
    (ckT h42j a0 6).bind fun _ =>
    bd2 (fX7_readExpression a0 h42j) fun v17 h18 =>
    (pfR h18 v1 5 4 v17).bind fun h20 =>
    (gfI h20 v1 5 3).bind fun v22 =>
    jn (fun (h111j : hp) => (
      (ckT h111j a0 6).bind fun _ =>
      (fX7_expect a0 125 h111j).bind fun h25 =>
      (ckT h25 a0 6).bind fun _ =>
      (g.2.2.2.2.1 a0 v1 a1 a2 h25).bind fun h28 =>
      some (v1, h28)
      : Option (Nat × hp))) fun k111 =>
    if v22 = 0 then (
      (ckT h20 a0 6).bind fun _ =>
      bd2 (fX7_peek a0 h20) fun v31 h32 =>
      jn (fun (h75j : hp) => (
        (ckT h75j a0 6).bind fun _ =>
        bd2 (fX7_peek a0 h75j) fun v35 h36 =>
        jn (fun (s90_0 : Int32) (h90j : hp) => (
          (pfI h90j v1 5 3 s90_0).bind fun h38 =>
          (gfI h38 a0 6 2).bind fun v40 =>
          (pfI h38 a0 6 2 (v40 + 1)).bind fun h42 =>
          (ckT h42 a0 6).bind fun _ =>
          bd2 (fX7_readExpression a0 h42) fun v45 h46 =>
          (pfR h46 v1 5 5 v45).bind fun h48 =>
          k111 h48
          : Option (Nat × hp))) fun k90 =>
        if v35 = 60 then (
          k90 2 h36
        ) else (
          k90 3 h36
        )
        : Option (Nat × hp))) fun k75 =>
      if v31 = 60 then (
        k75 h32
      ) else (
        (ckT h32 a0 6).bind fun _ =>
        bd2 (fX7_peek a0 h32) fun v51 h52 =>
        if v51 = 61 then (
          k75 h52
        ) else (
          k111 h52
        )
      )
    ) else (
      k111 h20
    )
    : Option (Nat × hp))) fun k42 =>
  if v13 = 33 then (
    (pfI h14 v1 5 3 1).bind fun h54 =>
    (gfI h54 a0 6 2).bind fun v56 =>
    (pfI h54 a0 6 2 (v56 + 1)).bind fun h58 =>
    k42 h58
  ) else (
    k42 h14
  )
def fX7_readLoop_b (g : gG0) (a0 : Nat) (a1 : Int32) (a2 : Int32) (h : hp) : Option (Nat × hp) :=
  bd2 (nwO h 5 9) fun v1 h2 =>
  (gfI h2 a0 6 3).bind fun v4 =>
  (ckT h2 v1 5).bind fun _ =>
  (fX6_init v1 3 v4 h2).bind fun h7 =>
  (ckT h7 a0 6).bind fun _ =>
  (fX7_readNested a0 a1 h7).bind fun h10 =>
  (ckT h10 a0 6).bind fun _ =>
  bd2 (fX7_readVariable a0 h10) fun v13 h14 =>
  (pfI h14 v1 5 2 v13).bind fun h16 =>
  (ckT h16 a0 6).bind fun _ =>
  (fX7_expect a0 32 h16).bind fun h19 =>
  (ckT h19 a0 6).bind fun _ =>
  bd2 (fX7_readExpression a0 h19) fun v22 h23 =>
  (pfR h23 v1 5 4 v22).bind fun h25 =>
  (ckT h25 a0 6).bind fun _ =>
  (fX7_expect a0 125 h25).bind fun h28 =>
  (ckT h28 a0 6).bind fun _ =>
  (g.2.2.2.2.1 a0 v1 a1 a2 h28).bind fun h31 =>
  some (v1, h31)
def fX7_readBoth_b (g : gG0) (a0 : Nat) (a1 : Nat) (a2 : Int32) (a3 : Int32) (h : hp) : Option hp :=
  (gfI h a0 6 4).bind fun v1 =>
  if v1 < 0 then (
    (ckT h a0 6).bind fun _ =>
    bd2 (g.1 a0 (a2 + 1) a3 1 h) fun v4 h5 =>
    (pfR h5 a1 5 6 v4).bind fun h7 =>
    (gfI h7 a0 6 4).bind fun v9 =>
    if 0 ≤ v9 then (
      some h7
    ) else (
      (gfI h7 a0 6 5).bind fun v11 =>
      if v11 = 0 then (
        some h7
      ) else (
        (ckT h7 a0 6).bind fun _ =>
        bd2 (g.1 a0 (a2 + 1) a3 0 h7) fun v14 h15 =>
        (pfR h15 a1 5 7 v14).bind fun h17 =>
        some h17
      )
    )
  ) else (
    some h
  )
def fX7_readBlock_b (g : gG0) (a0 : Nat) (a1 : Int32) (h : hp) : Option (Nat × hp) :=
  bd2 (nwO h 5 9) fun v1 h2 =>
  (gfI h2 a0 6 3).bind fun v4 =>
  (ckT h2 v1 5).bind fun _ =>
  (fX6_init v1 4 v4 h2).bind fun h7 =>
  (ckT h7 a0 6).bind fun _ =>
  (fX7_readNested a0 a1 h7).bind fun h10 =>
  (ckT h10 a0 6).bind fun _ =>
  bd2 (fX7_readOneOf a0 65 4 h10) fun v13 h14 =>
  (pfI h14 v1 5 2 v13).bind fun h16 =>
  (ckT h16 a0 6).bind fun _ =>
  (fX7_expect a0 125 h16).bind fun h19 =>
  (gfI h19 a0 6 4).bind fun v21 =>
  if v21 < 0 then (
    (gfR h19 a0 6 1).bind fun v23 =>
    (gfI h19 v1 5 2).bind fun v25 =>
    (ckT h19 v23 9).bind fun _ =>
    (fX10_addBlock v23 v25 v1 h19).bind fun h28 =>
    (ckT h28 a0 6).bind fun _ =>
    bd2 (g.1 a0 (a1 + 1) 1 0 h28) fun v31 h32 =>
    (pfR h32 v1 5 6 v31).bind fun h34 =>
    some (v1, h34)
  ) else (
    some (v1, h19)
  )
set_option maxHeartbeats 4000000 in
set_option maxRecDepth 100000 in
theorem sX7_readAll_l14 (E : gE) (D : Nat) (hD : 10 ≤ D) {g : gG0} (hg : gG0_ok E (D - 1) g) {rz : Option Value} {h0 hz : hp} : ∀ (n : Nat) (x0 : Nat) (x1 : Int32) (x2 : Int32) (x3 : Int32) (x4 : Nat) (x5 : Nat) (x6 : Int32) (h : hp) (tq : Nat) (m4 : Nat) (hq : hp), fX7_readAll_l14 g n x0 x1 x2 x3 x4 x5 x6 h = some (tq, m4, hq) → (tq = 0 → AW E yX7_readAll cX7_readAll (Option.some (Jvm.ClassFile.FieldType.object "TemplatePress$Piece")) 8 D rz h0 hz 43 [(0, .ref x0), (1, .int x1), (4, .ref m4)] [] hq) → (tq = 1 → AW E yX7_readAll cX7_readAll (Option.some (Jvm.ClassFile.FieldType.object "TemplatePress$Piece")) 8 D rz h0 hz 85 [(4, .ref m4)] [] hq) → (tq = 2 → AW E yX7_readAll cX7_readAll (Option.some (Jvm.ClassFile.FieldType.object "TemplatePress$Piece")) 8 D rz h0 hz 125 [(4, .ref m4)] [] hq) → AW E yX7_readAll cX7_readAll (Option.some (Jvm.ClassFile.FieldType.object "TemplatePress$Piece")) 8 D rz h0 hz 14 [(0, .ref x0), (1, .int x1), (2, .int x2), (3, .int x3), (4, .ref x4), (5, .ref x5), (6, .int x6)] [] h := by
  intro n
  induction n with
  | zero =>
    intro x0 x1 x2 x3 x4 x5 x6 h tq m4 hq hf _ _ _
    rw [fX7_readAll_l14] at hf
    cases hf
  | succ n ih =>
    intro x0 x1 x2 x3 x4 x5 x6 h tq m4 hq hf hk0 hk1 hk2
    rw [fX7_readAll_l14] at hf
    refine a_iload (q := 6) dX7_readAll_14 rfl ?_
    refine a_sipush (v := 160) dX7_readAll_16 (by decide) ?_
    refine a_icmp_gt (tgt := 125) dX7_readAll_19 (by decide) (fun c => ?_) (fun c => ?_)
    · have hf := ifp c hf
      obtain ⟨rfl, rfl, rfl⟩ := oc3 hf
      exact AW.sub [4] rfl (hk2 rfl)
    · have hf := ifn c hf
      refine a_aload_n (q := 0) dX7_readAll_22 rfl rfl ?_
      obtain ⟨v1, e2, hf⟩ := obd hf
      refine o_gfI dX7_readAll_23 lk_X7_15 rfl e2 ?_
      refine a_if_ge (tgt := 125) dX7_readAll_26 (by decide) (fun c => ?_) (fun c => ?_)
      · have hf := ifp c hf
        obtain ⟨rfl, rfl, rfl⟩ := oc3 hf
        exact AW.sub [4] rfl (hk2 rfl)
      · have hf := ifn c hf
        refine a_aload_n (q := 0) dX7_readAll_29 rfl rfl ?_
        obtain ⟨v3, e4, hf⟩ := obd hf
        refine o_gfI dX7_readAll_30 lk_X7_40 rfl e4 ?_
        refine a_aload_n (q := 0) dX7_readAll_33 rfl rfl ?_
        obtain ⟨v5, e6, hf⟩ := obd hf
        refine o_gfR dX7_readAll_34 lk_X7_18 rfl e6 ?_
        obtain ⟨v7, e8, hf⟩ := obd hf
        refine o_gfI dX7_readAll_37 lk_X7_24 rfl e8 ?_
        refine a_icmp_lt (tgt := 54) dX7_readAll_40 (by decide) (fun c => ?_) (fun c => ?_)
        · have hf := ifp c hf
          refine a_aload_n (q := 0) dX7_readAll_54 rfl rfl ?_
          obtain ⟨_, e12, hf⟩ := obd hf
          obtain ⟨v10, h11, e9, hf⟩ := ob2 hf
          refine a_callV (as := []) (np := 0) (ci := 6) (st := []) (sX7_peek E (D - 1) (by omega) e9) dX7_readAll_55 rfl (by omega) (by decide) cw_X7_77 ⟨wd_483, ws_4⟩ rfl (ckT_s e12) rfl (Nat.le_of_ble_eq_true rfl) ?_
          refine a_bipush (v := 123) dX7_readAll_58 (by decide) ?_
          obtain ⟨k88, ek88, hf⟩ := jn_s hf
          have hj88 : ∀ (h88j : hp), k88 h88j = some (tq, m4, hq) → AW E yX7_readAll cX7_readAll (Option.some (Jvm.ClassFile.FieldType.object "TemplatePress$Piece")) 8 D rz h0 hz 88 [(0, .ref x0), (1, .int x1), (2, .int x2), (3, .int x3), (4, .ref x4), (5, .ref x5), (6, .int x6)] [] h88j := by
            intro h88j hf
            rw [ek88] at hf
            clear ek88
            refine a_aload_n (q := 0) dX7_readAll_88 rfl rfl ?_
            refine a_iload_n (q := 1) dX7_readAll_89 rfl rfl ?_
            refine a_iload_n (q := 2) dX7_readAll_90 rfl rfl ?_
            obtain ⟨_, e16, hf⟩ := obd hf
            obtain ⟨v14, h15, e13, hf⟩ := ob2 hf
            refine a_callV (as := [.int x1, .int x2]) (np := 2) (ci := 6) (st := []) ((hg.2.1) _ _ _ _ _ _ e13) dX7_readAll_91 rfl (by omega) (by decide) cw_X7_100 ⟨wd_504, ws_9⟩ rfl (ckT_s e16) rfl (Nat.le_of_ble_eq_true rfl) ?_
            refine a_astore (lv1 := [(7, .ref v14), (0, .ref x0), (1, .int x1), (2, .int x2), (3, .int x3), (4, .ref x4), (5, .ref x5), (6, .int x6)]) dX7_readAll_94 (by decide) rfl ?_
            refine a_aload (q := 6) dX7_readAll_96 rfl ?_
            obtain ⟨k115, ek115, hf⟩ := jn_s hf
            have hj115 : ∀ (p115_4 : Nat) (h115j : hp), k115 p115_4 h115j = some (tq, m4, hq) → AW E yX7_readAll cX7_readAll (Option.some (Jvm.ClassFile.FieldType.object "TemplatePress$Piece")) 8 D rz h0 hz 115 [(0, .ref x0), (1, .int x1), (2, .int x2), (3, .int x3), (4, .ref p115_4), (6, .int x6), (7, .ref v14)] [] h115j := by
              intro p115_4 h115j hf
              rw [ek115] at hf
              clear ek115
              refine a_aload (q := 6) dX7_readAll_115 rfl ?_
              refine a_astore (lv1 := [(5, .ref v14), (0, .ref x0), (1, .int x1), (2, .int x2), (3, .int x3), (4, .ref p115_4), (6, .int x6), (7, .ref v14)]) dX7_readAll_117 (by decide) rfl ?_
              refine a_iinc (q := 6) (v := (x6 + 1)) (lv1 := [(6, .int (x6 + 1)), (5, .ref v14), (0, .ref x0), (1, .int x1), (2, .int x2), (3, .int x3), (4, .ref p115_4), (7, .ref v14)]) dX7_readAll_119 rfl (by rfl) (by decide) rfl ?_
              refine a_goto (tgt := 14) dX7_readAll_122 (by decide) ?_
              exact AW.sub [2, 3, 4, 5, 6, 1, 0] rfl (ih _ _ _ _ _ _ _ _ _ _ _ hf hk0 hk1 hk2)
            clear ek115
            refine a_ifnonnull (tgt := 108) dX7_readAll_98 (by decide) (fun c => ?_) (fun c => ?_)
            · have hf := ifn c hf
              refine a_aload (q := 6) dX7_readAll_108 rfl ?_
              refine a_aload (q := 0) dX7_readAll_110 rfl ?_
              obtain ⟨h17, e18, hf⟩ := obd hf
              refine o_pfR dX7_readAll_112 lk_X7_104 (⟨_, rfl, Or.inl rfl⟩) rfl e18 ?_
              exact AW.sub [1, 2, 3, 4, 5, 7, 0] rfl (hj115 _ _ hf)
            · have hf := ifp c hf
              refine a_aload (q := 0) dX7_readAll_101 rfl ?_
              refine a_astore (lv1 := [(4, .ref v14), (7, .ref v14), (0, .ref x0), (1, .int x1), (2, .int x2), (3, .int x3), (5, .ref x5), (6, .int x6)]) dX7_readAll_103 (by decide) rfl ?_
              refine a_goto (tgt := 115) dX7_readAll_105 (by decide) ?_
              exact AW.sub [2, 3, 4, 5, 0, 7, 1] rfl (hj115 _ _ hf)
          clear ek88
          refine a_icmp_ne (tgt := 88) dX7_readAll_60 (by decide) (fun c => ?_) (fun c => ?_)
          · have hf := ifn c hf
            exact hj88 _ hf
          · have hf := ifp c hf
            refine a_aload_n (q := 0) dX7_readAll_63 rfl rfl ?_
            refine a_aload_n (q := 0) dX7_readAll_64 rfl rfl ?_
            obtain ⟨v19, e20, hf⟩ := obd hf
            refine o_gfR dX7_readAll_65 lk_X7_18 rfl e20 ?_
            refine a_aload_n (q := 0) dX7_readAll_68 rfl rfl ?_
            obtain ⟨v21, e22, hf⟩ := obd hf
            refine o_gfI dX7_readAll_69 lk_X7_40 rfl e22 ?_
            refine a_iconst (v := 1) dX7_readAll_72 (by decide) ?_
            refine a_iadd dX7_readAll_73 ?_
            obtain ⟨_, e26, hf⟩ := obd hf
            obtain ⟨v24, h25, e23, hf⟩ := ob2 hf
            refine a_callV (as := [.int (v21 + 1)]) (np := 1) (ci := 4) (st := [.ref x0]) (sX5_at E (D - 1) (by omega) e23) dX7_readAll_74 rfl (by omega) (by decide) cw_X7_36 ⟨wd_313, wd_314⟩ rfl (ckT_s e26) rfl (Nat.le_of_ble_eq_true rfl) ?_
            refine a_iload_n (q := 1) dX7_readAll_77 rfl rfl ?_
            refine a_iload_n (q := 3) dX7_readAll_78 rfl rfl ?_
            obtain ⟨_, e30, hf⟩ := obd hf
            obtain ⟨v28, h29, e27, hf⟩ := ob2 hf
            refine a_callV (as := [.int v24, .int x1, .int x3]) (np := 3) (ci := 6) (st := []) (sX7_endsHere E (D - 1) (by omega) e27) dX7_readAll_79 rfl (by omega) (by decide) cw_X7_96 ⟨wd_500, ws_8⟩ rfl (ckT_s e30) rfl (Nat.le_of_ble_eq_true rfl) ?_
            refine a_if_eq (tgt := 88) dX7_readAll_82 (by decide) (fun c => ?_) (fun c => ?_)
            · have hf := ifp c hf
              exact hj88 _ hf
            · have hf := ifn c hf
              obtain ⟨rfl, rfl, rfl⟩ := oc3 hf
              exact AW.sub [4] rfl (hk1 rfl)
        · have hf := ifn c hf
          obtain ⟨rfl, rfl, rfl⟩ := oc3 hf
          exact AW.sub [0, 1, 4] rfl (hk0 rfl)
set_option maxHeartbeats 4000000 in
set_option maxRecDepth 100000 in
theorem sX7_readAll_b (E : gE) (D : Nat) (hD : 10 ≤ D) {g : gG0} (hg : gG0_ok E (D - 1) g) {a0 : Nat} {a1 : Int32} {a2 : Int32} {a3 : Int32} {h hz : hp} {v0 : Nat} (hf : fX7_readAll_b g a0 a1 a2 a3 h = some (v0, hz)) : MC E yX7_readAll cX7_readAll (Option.some (Jvm.ClassFile.FieldType.object "TemplatePress$Piece")) 8 D [.ref a0, .int a1, .int a2, .int a3] h (some (.ref v0)) hz := by
  refine MC.of (by decide +kernel) (Nat.le_of_ble_eq_true rfl) rfl ?_
  unfold fX7_readAll_b at hf
  show AW E yX7_readAll cX7_readAll (Option.some (Jvm.ClassFile.FieldType.object "TemplatePress$Piece")) 8 D (some (.ref v0)) h hz 0 [(0, .ref a0), (1, .int a1), (2, .int a2), (3, .int a3)] [] h
  refine a_null dX7_readAll_0 ?_
  refine a_astore (lv1 := [(4, .ref 0), (0, .ref a0), (1, .int a1), (2, .int a2), (3, .int a3)]) dX7_readAll_1 (by decide) rfl ?_
  refine a_null dX7_readAll_3 ?_
  refine a_astore (lv1 := [(5, .ref 0), (4, .ref 0), (0, .ref a0), (1, .int a1), (2, .int a2), (3, .int a3)]) dX7_readAll_4 (by decide) rfl ?_
  refine a_aload_n (q := 2) dX7_readAll_6 rfl rfl ?_
  refine a_iconst (v := 0) dX7_readAll_7 (by decide) ?_
  obtain ⟨h1, e2, hf⟩ := obd hf
  refine o_pfZ dX7_readAll_8 lk_X7_92 (⟨_, rfl, Or.inl rfl⟩) rfl e2 ?_
  refine a_iconst (v := 0) dX7_readAll_11 (by decide) ?_
  refine a_istore (lv1 := [(6, .int 0), (5, .ref 0), (4, .ref 0), (0, .ref a0), (1, .int a1), (2, .int a2), (3, .int a3)]) dX7_readAll_12 (by decide) rfl ?_
  obtain ⟨t6, v5, h4, e3, hf⟩ := ob3 hf
  refine AW.sub [3, 4, 5, 6, 2, 1, 0] rfl (sX7_readAll_l14 E D hD hg _ _ _ _ _ _ _ _ _ _ _ _ e3 (fun c => ?_) (fun c => ?_) (fun c => ?_))
  · have hf := ifp c hf
    refine a_iload_n (q := 1) dX7_readAll_43 rfl rfl ?_
    refine a_if_le (tgt := 51) dX7_readAll_44 (by decide) (fun c => ?_) (fun c => ?_)
    · have hf := ifp c hf
      refine a_aload (q := 2) dX7_readAll_51 rfl ?_
      obtain ⟨rfl, rfl⟩ := oc2 hf
      exact a_areturn dX7_readAll_53 rfl (Or.inl ⟨_, rfl⟩)
    · have hf := ifn c hf
      refine a_aload_n (q := 0) dX7_readAll_47 rfl rfl ?_
      obtain ⟨_, e9, hf⟩ := obd hf
      obtain ⟨h8, e7, hf⟩ := obd hf
      refine a_callV (as := []) (np := 0) (ci := 6) (st := []) (sX7_refuse E (D - 1) (by omega) e7) dX7_readAll_48 rfl (by omega) (by decide) cw_X7_70 ⟨wd_488, ws_5⟩ rfl (ckT_s e9) rfl (Nat.le_of_ble_eq_true rfl) ?_
      refine a_aload (q := 2) dX7_readAll_51 rfl ?_
      obtain ⟨rfl, rfl⟩ := oc2 hf
      exact a_areturn dX7_readAll_53 rfl (Or.inl ⟨_, rfl⟩)
  · have hf := ifn (by rw [c]; decide) hf
    have hf := ifp c hf
    refine a_aload (q := 0) dX7_readAll_85 rfl ?_
    obtain ⟨rfl, rfl⟩ := oc2 hf
    exact a_areturn dX7_readAll_87 rfl (Or.inl ⟨_, rfl⟩)
  · have hf := ifn (by rw [c]; decide) hf
    have hf := ifn (by rw [c]; decide) hf
    have hf := ifp c hf
    refine a_aload (q := 0) dX7_readAll_125 rfl ?_
    obtain ⟨rfl, rfl⟩ := oc2 hf
    exact a_areturn dX7_readAll_127 rfl (Or.inl ⟨_, rfl⟩)
set_option maxHeartbeats 4000000 in
set_option maxRecDepth 100000 in
theorem sX7_readPiece_b (E : gE) (D : Nat) (hD : 10 ≤ D) {g : gG0} (hg : gG0_ok E (D - 1) g) {a0 : Nat} {a1 : Int32} {a2 : Int32} {h hz : hp} {v0 : Nat} (hf : fX7_readPiece_b g a0 a1 a2 h = some (v0, hz)) : MC E yX7_readPiece cX7_readPiece (Option.some (Jvm.ClassFile.FieldType.object "TemplatePress$Piece")) 3 D [.ref a0, .int a1, .int a2] h (some (.ref v0)) hz := by
  refine MC.of (by decide +kernel) (Nat.le_of_ble_eq_true rfl) rfl ?_
  unfold fX7_readPiece_b at hf
  show AW E yX7_readPiece cX7_readPiece (Option.some (Jvm.ClassFile.FieldType.object "TemplatePress$Piece")) 3 D (some (.ref v0)) h hz 0 [(0, .ref a0), (1, .int a1), (2, .int a2)] [] h
  refine a_aload_n (q := 0) dX7_readPiece_0 rfl rfl ?_
  obtain ⟨_, e4, hf⟩ := obd hf
  obtain ⟨v2, h3, e1, hf⟩ := ob2 hf
  refine a_callV (as := []) (np := 0) (ci := 6) (st := []) (sX7_peek E (D - 1) (by omega) e1) dX7_readPiece_1 rfl (by omega) (by decide) cw_X7_77 ⟨wd_483, ws_4⟩ rfl (ckT_s e4) rfl (Nat.le_of_ble_eq_true rfl) ?_
  refine a_bipush (v := 123) dX7_readPiece_4 (by decide) ?_
  refine a_icmp_eq (tgt := 14) dX7_readPiece_6 (by decide) (fun c => ?_) (fun c => ?_)
  · have hf := ifp c hf
    refine a_aload_n (q := 0) dX7_readPiece_14 rfl rfl ?_
    refine a_aload_n (q := 0) dX7_readPiece_15 rfl rfl ?_
    obtain ⟨v5, e6, hf⟩ := obd hf
    refine o_gfI dX7_readPiece_16 lk_X7_40 rfl e6 ?_
    refine a_iconst (v := 1) dX7_readPiece_19 (by decide) ?_
    refine a_iadd dX7_readPiece_20 ?_
    obtain ⟨h7, e8, hf⟩ := obd hf
    refine o_pfI dX7_readPiece_21 lk_X7_40 (⟨_, rfl, Or.inl rfl⟩) rfl e8 ?_
    refine a_aload_n (q := 0) dX7_readPiece_24 rfl rfl ?_
    obtain ⟨v9, e10, hf⟩ := obd hf
    refine o_gfR dX7_readPiece_25 lk_X7_32 rfl e10 ?_
    refine a_aload_n (q := 0) dX7_readPiece_28 rfl rfl ?_
    obtain ⟨v11, e12, hf⟩ := obd hf
    refine o_gfR dX7_readPiece_29 lk_X7_32 rfl e12 ?_
    obtain ⟨v13, e14, hf⟩ := obd hf
    refine o_gfI dX7_readPiece_32 lk_X7_42 rfl e14 ?_
    refine a_iconst (v := 1) dX7_readPiece_35 (by decide) ?_
    refine a_iadd dX7_readPiece_36 ?_
    obtain ⟨h15, e16, hf⟩ := obd hf
    refine o_pfI dX7_readPiece_37 lk_X7_42 (⟨_, rfl, Or.inl rfl⟩) rfl e16 ?_
    refine a_aload_n (q := 0) dX7_readPiece_40 rfl rfl ?_
    obtain ⟨_, e20, hf⟩ := obd hf
    obtain ⟨v18, h19, e17, hf⟩ := ob2 hf
    refine a_callV (as := []) (np := 0) (ci := 6) (st := []) (sX7_peek E (D - 1) (by omega) e17) dX7_readPiece_41 rfl (by omega) (by decide) cw_X7_77 ⟨wd_483, ws_4⟩ rfl (ckT_s e20) rfl (Nat.le_of_ble_eq_true rfl) ?_
    by_cases c44_0 : v18 = 42
    · have hf := ifp c44_0 hf
      refine a_lookIn (k := 42) (off := 67) (tgt := 111) dX7_readPiece_44 c44_0 (by decide) rfl (by decide) ?_
      refine a_aload_n (q := 0) dX7_readPiece_111 rfl rfl ?_
      refine a_iload_n (q := 1) dX7_readPiece_112 rfl rfl ?_
      refine a_iload_n (q := 2) dX7_readPiece_113 rfl rfl ?_
      obtain ⟨_, e24, hf⟩ := obd hf
      obtain ⟨v22, h23, e21, hf⟩ := ob2 hf
      refine a_callV (as := [.int a1, .int a2]) (np := 2) (ci := 6) (st := []) ((hg.2.2.2.1) _ _ _ _ _ _ e21) dX7_readPiece_114 rfl (by omega) (by decide) cw_X7_116 ⟨wd_711, ws_22⟩ rfl (ckT_s e24) rfl (Nat.le_of_ble_eq_true rfl) ?_
      obtain ⟨rfl, rfl⟩ := oc2 hf
      exact a_areturn dX7_readPiece_117 rfl (Or.inl ⟨_, rfl⟩)
    have hf := ifn c44_0 hf
    by_cases c44_1 : v18 = 61
    · have hf := ifp c44_1 hf
      refine a_lookIn (k := 61) (off := 74) (tgt := 118) dX7_readPiece_44 c44_1 (by decide) rfl (by decide) ?_
      refine a_aload_n (q := 0) dX7_readPiece_118 rfl rfl ?_
      refine a_iload_n (q := 1) dX7_readPiece_119 rfl rfl ?_
      obtain ⟨_, e28, hf⟩ := obd hf
      obtain ⟨v26, h27, e25, hf⟩ := ob2 hf
      refine a_callV (as := [.int a1]) (np := 1) (ci := 6) (st := []) ((hg.2.2.2.2.2) _ _ _ _ _ e25) dX7_readPiece_120 rfl (by omega) (by decide) cw_X7_119 ⟨wd_715, ws_23⟩ rfl (ckT_s e28) rfl (Nat.le_of_ble_eq_true rfl) ?_
      obtain ⟨rfl, rfl⟩ := oc2 hf
      exact a_areturn dX7_readPiece_123 rfl (Or.inl ⟨_, rfl⟩)
    have hf := ifn c44_1 hf
    by_cases c44_2 : v18 = 62
    · have hf := ifp c44_2 hf
      refine a_lookIn (k := 62) (off := 86) (tgt := 130) dX7_readPiece_44 c44_2 (by decide) rfl (by decide) ?_
      refine a_aload_n (q := 0) dX7_readPiece_130 rfl rfl ?_
      obtain ⟨_, e32, hf⟩ := obd hf
      obtain ⟨v30, h31, e29, hf⟩ := ob2 hf
      refine a_callV (as := []) (np := 0) (ci := 6) (st := []) (sX7_readPart E (D - 1) (by omega) e29) dX7_readPiece_131 rfl (by omega) (by decide) cw_X7_127 ⟨wd_728, ws_25⟩ rfl (ckT_s e32) rfl (Nat.le_of_ble_eq_true rfl) ?_
      obtain ⟨rfl, rfl⟩ := oc2 hf
      exact a_areturn dX7_readPiece_134 rfl (Or.inl ⟨_, rfl⟩)
    have hf := ifn c44_2 hf
    by_cases c44_3 : v18 = 63
    · have hf := ifp c44_3 hf
      refine a_lookIn (k := 63) (off := 60) (tgt := 104) dX7_readPiece_44 c44_3 (by decide) rfl (by decide) ?_
      refine a_aload_n (q := 0) dX7_readPiece_104 rfl rfl ?_
      refine a_iload_n (q := 1) dX7_readPiece_105 rfl rfl ?_
      refine a_iload_n (q := 2) dX7_readPiece_106 rfl rfl ?_
      obtain ⟨_, e36, hf⟩ := obd hf
      obtain ⟨v34, h35, e33, hf⟩ := ob2 hf
      refine a_callV (as := [.int a1, .int a2]) (np := 2) (ci := 6) (st := []) ((hg.2.2.1) _ _ _ _ _ _ e33) dX7_readPiece_107 rfl (by omega) (by decide) cw_X7_113 ⟨wd_555, ws_11⟩ rfl (ckT_s e36) rfl (Nat.le_of_ble_eq_true rfl) ?_
      obtain ⟨rfl, rfl⟩ := oc2 hf
      exact a_areturn dX7_readPiece_110 rfl (Or.inl ⟨_, rfl⟩)
    have hf := ifn c44_3 hf
    by_cases c44_4 : v18 = 64
    · have hf := ifp c44_4 hf
      refine a_lookIn (k := 64) (off := 91) (tgt := 135) dX7_readPiece_44 c44_4 (by decide) rfl (by decide) ?_
      refine a_aload_n (q := 0) dX7_readPiece_135 rfl rfl ?_
      obtain ⟨_, e40, hf⟩ := obd hf
      obtain ⟨v38, h39, e37, hf⟩ := ob2 hf
      refine a_callV (as := []) (np := 0) (ci := 6) (st := []) (sX7_readName E (D - 1) (by omega) e37) dX7_readPiece_136 rfl (by omega) (by decide) cw_X7_130 ⟨wd_732, ws_26⟩ rfl (ckT_s e40) rfl (Nat.le_of_ble_eq_true rfl) ?_
      obtain ⟨rfl, rfl⟩ := oc2 hf
      exact a_areturn dX7_readPiece_139 rfl (Or.inl ⟨_, rfl⟩)
    have hf := ifn c44_4 hf
    by_cases c44_5 : v18 = 94
    · have hf := ifp c44_5 hf
      refine a_lookIn (k := 94) (off := 80) (tgt := 124) dX7_readPiece_44 c44_5 (by decide) rfl (by decide) ?_
      refine a_aload_n (q := 0) dX7_readPiece_124 rfl rfl ?_
      refine a_iload_n (q := 2) dX7_readPiece_125 rfl rfl ?_
      obtain ⟨_, e44, hf⟩ := obd hf
      obtain ⟨v42, h43, e41, hf⟩ := ob2 hf
      refine a_callV (as := [.int a2]) (np := 1) (ci := 6) (st := []) (sX7_readAbove E (D - 1) (by omega) e41) dX7_readPiece_126 rfl (by omega) (by decide) cw_X7_123 ⟨wd_724, ws_24⟩ rfl (ckT_s e44) rfl (Nat.le_of_ble_eq_true rfl) ?_
      obtain ⟨rfl, rfl⟩ := oc2 hf
      exact a_areturn dX7_readPiece_129 rfl (Or.inl ⟨_, rfl⟩)
    have hf := ifn c44_5 hf
    refine a_look (off := 96) (tgt := 140) dX7_readPiece_44 (by decide) ((lv_osw c44_0 rfl).trans ((lv_osw c44_1 rfl).trans ((lv_osw c44_2 rfl).trans ((lv_osw c44_3 rfl).trans ((lv_osw c44_4 rfl).trans ((lv_osw c44_5 rfl).trans rfl)))))) (by decide) ?_
    refine a_aload_n (q := 0) dX7_readPiece_140 rfl rfl ?_
    obtain ⟨_, e48, hf⟩ := obd hf
    obtain ⟨v46, h47, e45, hf⟩ := ob2 hf
    refine a_callV (as := []) (np := 0) (ci := 6) (st := []) (sX7_readShow E (D - 1) (by omega) e45) dX7_readPiece_141 rfl (by omega) (by decide) cw_X7_133 ⟨wd_736, ws_27⟩ rfl (ckT_s e48) rfl (Nat.le_of_ble_eq_true rfl) ?_
    obtain ⟨rfl, rfl⟩ := oc2 hf
    exact a_areturn dX7_readPiece_144 rfl (Or.inl ⟨_, rfl⟩)
  · have hf := ifn c hf
    refine a_aload_n (q := 0) dX7_readPiece_9 rfl rfl ?_
    obtain ⟨_, e52, hf⟩ := obd hf
    obtain ⟨v50, h51, e49, hf⟩ := ob2 hf
    refine a_callV (as := []) (np := 0) (ci := 6) (st := []) (sX7_readByte E (D - 1) (by omega) e49) dX7_readPiece_10 rfl (by omega) (by decide) cw_X7_109 ⟨wd_508, ws_10⟩ rfl (ckT_s e52) rfl (Nat.le_of_ble_eq_true rfl) ?_
    obtain ⟨rfl, rfl⟩ := oc2 hf
    exact a_areturn dX7_readPiece_13 rfl (Or.inl ⟨_, rfl⟩)
set_option maxHeartbeats 4000000 in
set_option maxRecDepth 100000 in
theorem sX7_readBranch_b (E : gE) (D : Nat) (hD : 10 ≤ D) {g : gG0} (hg : gG0_ok E (D - 1) g) {a0 : Nat} {a1 : Int32} {a2 : Int32} {h hz : hp} {v0 : Nat} (hf : fX7_readBranch_b g a0 a1 a2 h = some (v0, hz)) : MC E yX7_readBranch cX7_readBranch (Option.some (Jvm.ClassFile.FieldType.object "TemplatePress$Piece")) 4 D [.ref a0, .int a1, .int a2] h (some (.ref v0)) hz := by
  refine MC.of (by decide +kernel) (Nat.le_of_ble_eq_true rfl) rfl ?_
  unfold fX7_readBranch_b at hf
  show AW E yX7_readBranch cX7_readBranch (Option.some (Jvm.ClassFile.FieldType.object "TemplatePress$Piece")) 4 D (some (.ref v0)) h hz 0 [(0, .ref a0), (1, .int a1), (2, .int a2)] [] h
  obtain ⟨v1, h2, e3, hf⟩ := ob2 hf
  refine o_nwO (ci := 5) dX7_readBranch_0 rfl rfl gu_5 tyX6_ok (by decide) wd_510 wd_511 wd_13 e3 ?_
  refine a_dup dX7_readBranch_3 rfl ?_
  refine a_iconst (v := 2) dX7_readBranch_4 (by decide) ?_
  refine a_aload_n (q := 0) dX7_readBranch_5 rfl rfl ?_
  obtain ⟨v4, e5, hf⟩ := obd hf
  refine o_gfI dX7_readBranch_6 lk_X7_9 rfl e5 ?_
  obtain ⟨_, e8, hf⟩ := obd hf
  obtain ⟨h7, e6, hf⟩ := obd hf
  refine a_callI (as := [.int 2, .int v4]) (np := 2) (ci := 5) (st := [.ref v1]) (sX6_init E (D - 1) (by omega) e6) dX7_readBranch_9 rfl (by omega) (by decide) cw_X7_136 ⟨wd_513, rfl⟩ rfl (ckT_s e8) rfl (Nat.le_of_ble_eq_true rfl) ?_
  refine a_astore_n (lv1 := [(3, .ref v1), (0, .ref a0), (1, .int a1), (2, .int a2)]) dX7_readBranch_12 rfl (by decide) rfl ?_
  refine a_aload_n (q := 1) dX7_readBranch_13 rfl rfl ?_
  refine a_iload_n (q := 2) dX7_readBranch_14 rfl rfl ?_
  obtain ⟨_, e11, hf⟩ := obd hf
  obtain ⟨h10, e9, hf⟩ := obd hf
  refine a_callV (as := [.int a1]) (np := 1) (ci := 6) (st := []) (sX7_readNested E (D - 1) (by omega) e9) dX7_readBranch_15 rfl (by omega) (by decide) cw_X7_150 ⟨wd_559, ws_12⟩ rfl (ckT_s e11) rfl (Nat.le_of_ble_eq_true rfl) ?_
  refine a_aload_n (q := 1) dX7_readBranch_18 rfl rfl ?_
  obtain ⟨_, e15, hf⟩ := obd hf
  obtain ⟨v13, h14, e12, hf⟩ := ob2 hf
  refine a_callV (as := []) (np := 0) (ci := 6) (st := []) (sX7_peek E (D - 1) (by omega) e12) dX7_readBranch_19 rfl (by omega) (by decide) cw_X7_77 ⟨wd_483, ws_4⟩ rfl (ckT_s e15) rfl (Nat.le_of_ble_eq_true rfl) ?_
  refine a_bipush (v := 33) dX7_readBranch_22 (by decide) ?_
  obtain ⟨k42, ek42, hf⟩ := jn_s hf
  have hj42 : ∀ (h42j : hp), k42 h42j = some (v0, hz) → AW E yX7_readBranch cX7_readBranch (Option.some (Jvm.ClassFile.FieldType.object "TemplatePress$Piece")) 4 D (some (.ref v0)) h hz 42 [(0, .ref a0), (1, .int a1), (2, .int a2), (3, .ref v1)] [] h42j := by
    intro h42j hf
    rw [ek42] at hf
    clear ek42
    refine a_aload_n (q := 3) dX7_readBranch_42 rfl rfl ?_
    refine a_aload_n (q := 0) dX7_readBranch_43 rfl rfl ?_
    obtain ⟨_, e19, hf⟩ := obd hf
    obtain ⟨v17, h18, e16, hf⟩ := ob2 hf
    refine a_callV (as := []) (np := 0) (ci := 6) (st := [.ref v1]) (sX7_readExpression E (D - 1) (by omega) e16) dX7_readBranch_44 rfl (by omega) (by decide) cw_X7_139 ⟨wd_563, ws_13⟩ rfl (ckT_s e19) rfl (Nat.le_of_ble_eq_true rfl) ?_
    obtain ⟨h20, e21, hf⟩ := obd hf
    refine o_pfR dX7_readBranch_47 lk_X7_143 (⟨_, rfl, Or.inl rfl⟩) rfl e21 ?_
    refine a_aload_n (q := 3) dX7_readBranch_50 rfl rfl ?_
    obtain ⟨v22, e23, hf⟩ := obd hf
    refine o_gfI dX7_readBranch_51 lk_X7_153 rfl e23 ?_
    obtain ⟨k111, ek111, hf⟩ := jn_s hf
    have hj111 : ∀ (h111j : hp), k111 h111j = some (v0, hz) → AW E yX7_readBranch cX7_readBranch (Option.some (Jvm.ClassFile.FieldType.object "TemplatePress$Piece")) 4 D (some (.ref v0)) h hz 111 [(0, .ref a0), (1, .int a1), (2, .int a2), (3, .ref v1)] [] h111j := by
      intro h111j hf
      rw [ek111] at hf
      clear ek111
      refine a_aload_n (q := 0) dX7_readBranch_111 rfl rfl ?_
      refine a_bipush (v := 125) dX7_readBranch_112 (by decide) ?_
      obtain ⟨_, e26, hf⟩ := obd hf
      obtain ⟨h25, e24, hf⟩ := obd hf
      refine a_callV (as := [.int 125]) (np := 1) (ci := 6) (st := []) (sX7_expect E (D - 1) (by omega) e24) dX7_readBranch_114 rfl (by omega) (by decide) cw_X7_52 ⟨wd_492, ws_6⟩ rfl (ckT_s e26) rfl (Nat.le_of_ble_eq_true rfl) ?_
      refine a_aload_n (q := 0) dX7_readBranch_117 rfl rfl ?_
      refine a_aload_n (q := 3) dX7_readBranch_118 rfl rfl ?_
      refine a_iload_n (q := 1) dX7_readBranch_119 rfl rfl ?_
      refine a_iload_n (q := 2) dX7_readBranch_120 rfl rfl ?_
      obtain ⟨_, e29, hf⟩ := obd hf
      obtain ⟨h28, e27, hf⟩ := obd hf
      refine a_callV (as := [.ref v1, .int a1, .int a2]) (np := 3) (ci := 6) (st := []) ((hg.2.2.2.2.1) _ _ _ _ _ _ e27) dX7_readBranch_121 rfl (by omega) (by decide) cw_X7_159 ⟨wd_707, ws_21⟩ rfl (ckT_s e29) rfl (Nat.le_of_ble_eq_true rfl) ?_
      refine a_aload_n (q := 3) dX7_readBranch_124 rfl rfl ?_
      obtain ⟨rfl, rfl⟩ := oc2 hf
      exact a_areturn dX7_readBranch_125 rfl (Or.inl ⟨_, rfl⟩)
    clear ek111
    refine a_if_ne (tgt := 111) dX7_readBranch_54 (by decide) (fun c => ?_) (fun c => ?_)
    · have hf := ifn c hf
      exact hj111 _ hf
    · have hf := ifp c hf
      refine a_aload_n (q := 0) dX7_readBranch_57 rfl rfl ?_
      obtain ⟨_, e33, hf⟩ := obd hf
      obtain ⟨v31, h32, e30, hf⟩ := ob2 hf
      refine a_callV (as := []) (np := 0) (ci := 6) (st := []) (sX7_peek E (D - 1) (by omega) e30) dX7_readBranch_58 rfl (by omega) (by decide) cw_X7_77 ⟨wd_483, ws_4⟩ rfl (ckT_s e33) rfl (Nat.le_of_ble_eq_true rfl) ?_
      refine a_bipush (v := 60) dX7_readBranch_61 (by decide) ?_
      obtain ⟨k75, ek75, hf⟩ := jn_s hf
      have hj75 : ∀ (h75j : hp), k75 h75j = some (v0, hz) → AW E yX7_readBranch cX7_readBranch (Option.some (Jvm.ClassFile.FieldType.object "TemplatePress$Piece")) 4 D (some (.ref v0)) h hz 75 [(0, .ref a0), (1, .int a1), (2, .int a2), (3, .ref v1)] [] h75j := by
        intro h75j hf
        rw [ek75] at hf
        clear ek75
        refine a_aload_n (q := 3) dX7_readBranch_75 rfl rfl ?_
        refine a_aload_n (q := 0) dX7_readBranch_76 rfl rfl ?_
        obtain ⟨_, e37, hf⟩ := obd hf
        obtain ⟨v35, h36, e34, hf⟩ := ob2 hf
        refine a_callV (as := []) (np := 0) (ci := 6) (st := [.ref v1]) (sX7_peek E (D - 1) (by omega) e34) dX7_readBranch_77 rfl (by omega) (by decide) cw_X7_77 ⟨wd_483, ws_4⟩ rfl (ckT_s e37) rfl (Nat.le_of_ble_eq_true rfl) ?_
        refine a_bipush (v := 60) dX7_readBranch_80 (by decide) ?_
        obtain ⟨k90, ek90, hf⟩ := jn_s hf
        have hj90 : ∀ (s90_0 : Int32) (h90j : hp), k90 s90_0 h90j = some (v0, hz) → AW E yX7_readBranch cX7_readBranch (Option.some (Jvm.ClassFile.FieldType.object "TemplatePress$Piece")) 4 D (some (.ref v0)) h hz 90 [(0, .ref a0), (1, .int a1), (2, .int a2), (3, .ref v1)] [.int s90_0, .ref v1] h90j := by
          intro s90_0 h90j hf
          rw [ek90] at hf
          clear ek90
          obtain ⟨h38, e39, hf⟩ := obd hf
          refine o_pfI dX7_readBranch_90 lk_X7_153 (⟨_, rfl, Or.inl rfl⟩) rfl e39 ?_
          refine a_aload_n (q := 0) dX7_readBranch_93 rfl rfl ?_
          refine a_aload_n (q := 0) dX7_readBranch_94 rfl rfl ?_
          obtain ⟨v40, e41, hf⟩ := obd hf
          refine o_gfI dX7_readBranch_95 lk_X7_40 rfl e41 ?_
          refine a_iconst (v := 1) dX7_readBranch_98 (by decide) ?_
          refine a_iadd dX7_readBranch_99 ?_
          obtain ⟨h42, e43, hf⟩ := obd hf
          refine o_pfI dX7_readBranch_100 lk_X7_40 (⟨_, rfl, Or.inl rfl⟩) rfl e43 ?_
          refine a_aload_n (q := 3) dX7_readBranch_103 rfl rfl ?_
          refine a_aload_n (q := 0) dX7_readBranch_104 rfl rfl ?_
          obtain ⟨_, e47, hf⟩ := obd hf
          obtain ⟨v45, h46, e44, hf⟩ := ob2 hf
          refine a_callV (as := []) (np := 0) (ci := 6) (st := [.ref v1]) (sX7_readExpression E (D - 1) (by omega) e44) dX7_readBranch_105 rfl (by omega) (by decide) cw_X7_139 ⟨wd_563, ws_13⟩ rfl (ckT_s e47) rfl (Nat.le_of_ble_eq_true rfl) ?_
          obtain ⟨h48, e49, hf⟩ := obd hf
          refine o_pfR dX7_readBranch_108 lk_X7_156 (⟨_, rfl, Or.inl rfl⟩) rfl e49 ?_
          exact hj111 _ hf
        clear ek90
        refine a_icmp_ne (tgt := 89) dX7_readBranch_82 (by decide) (fun c => ?_) (fun c => ?_)
        · have hf := ifn c hf
          refine a_iconst (v := 3) dX7_readBranch_89 (by decide) ?_
          exact hj90 _ _ hf
        · have hf := ifp c hf
          refine a_iconst (v := 2) dX7_readBranch_85 (by decide) ?_
          refine a_goto (tgt := 90) dX7_readBranch_86 (by decide) ?_
          exact hj90 _ _ hf
      clear ek75
      refine a_icmp_eq (tgt := 75) dX7_readBranch_63 (by decide) (fun c => ?_) (fun c => ?_)
      · have hf := ifp c hf
        exact hj75 _ hf
      · have hf := ifn c hf
        refine a_aload_n (q := 0) dX7_readBranch_66 rfl rfl ?_
        obtain ⟨_, e53, hf⟩ := obd hf
        obtain ⟨v51, h52, e50, hf⟩ := ob2 hf
        refine a_callV (as := []) (np := 0) (ci := 6) (st := []) (sX7_peek E (D - 1) (by omega) e50) dX7_readBranch_67 rfl (by omega) (by decide) cw_X7_77 ⟨wd_483, ws_4⟩ rfl (ckT_s e53) rfl (Nat.le_of_ble_eq_true rfl) ?_
        refine a_bipush (v := 61) dX7_readBranch_70 (by decide) ?_
        refine a_icmp_ne (tgt := 111) dX7_readBranch_72 (by decide) (fun c => ?_) (fun c => ?_)
        · have hf := ifn c hf
          exact hj111 _ hf
        · have hf := ifp c hf
          exact hj75 _ hf
  clear ek42
  refine a_icmp_ne (tgt := 42) dX7_readBranch_24 (by decide) (fun c => ?_) (fun c => ?_)
  · have hf := ifn c hf
    exact AW.sub [1, 2, 3, 0] rfl (hj42 _ hf)
  · have hf := ifp c hf
    refine a_aload_n (q := 0) dX7_readBranch_27 rfl rfl ?_
    refine a_iconst (v := 1) dX7_readBranch_28 (by decide) ?_
    obtain ⟨h54, e55, hf⟩ := obd hf
    refine o_pfI dX7_readBranch_29 lk_X7_153 (⟨_, rfl, Or.inl rfl⟩) rfl e55 ?_
    refine a_aload_n (q := 1) dX7_readBranch_32 rfl rfl ?_
    refine a_aload_n (q := 1) dX7_readBranch_33 rfl rfl ?_
    obtain ⟨v56, e57, hf⟩ := obd hf
    refine o_gfI dX7_readBranch_34 lk_X7_40 rfl e57 ?_
    refine a_iconst (v := 1) dX7_readBranch_37 (by decide) ?_
    refine a_iadd dX7_readBranch_38 ?_
    obtain ⟨h58, e59, hf⟩ := obd hf
    refine o_pfI dX7_readBranch_39 lk_X7_40 (⟨_, rfl, Or.inl rfl⟩) rfl e59 ?_
    exact AW.sub [1, 2, 3, 0] rfl (hj42 _ hf)
set_option maxHeartbeats 4000000 in
set_option maxRecDepth 100000 in
theorem sX7_readLoop_b (E : gE) (D : Nat) (hD : 10 ≤ D) {g : gG0} (hg : gG0_ok E (D - 1) g) {a0 : Nat} {a1 : Int32} {a2 : Int32} {h hz : hp} {v0 : Nat} (hf : fX7_readLoop_b g a0 a1 a2 h = some (v0, hz)) : MC E yX7_readLoop cX7_readLoop (Option.some (Jvm.ClassFile.FieldType.object "TemplatePress$Piece")) 4 D [.ref a0, .int a1, .int a2] h (some (.ref v0)) hz := by
  refine MC.of (by decide +kernel) (Nat.le_of_ble_eq_true rfl) rfl ?_
  unfold fX7_readLoop_b at hf
  show AW E yX7_readLoop cX7_readLoop (Option.some (Jvm.ClassFile.FieldType.object "TemplatePress$Piece")) 4 D (some (.ref v0)) h hz 0 [(0, .ref a0), (1, .int a1), (2, .int a2)] [] h
  obtain ⟨v1, h2, e3, hf⟩ := ob2 hf
  refine o_nwO (ci := 5) dX7_readLoop_0 rfl rfl gu_5 tyX6_ok (by decide) wd_510 wd_511 wd_13 e3 ?_
  refine a_dup dX7_readLoop_3 rfl ?_
  refine a_iconst (v := 3) dX7_readLoop_4 (by decide) ?_
  refine a_aload_n (q := 0) dX7_readLoop_5 rfl rfl ?_
  obtain ⟨v4, e5, hf⟩ := obd hf
  refine o_gfI dX7_readLoop_6 lk_X7_9 rfl e5 ?_
  obtain ⟨_, e8, hf⟩ := obd hf
  obtain ⟨h7, e6, hf⟩ := obd hf
  refine a_callI (as := [.int 3, .int v4]) (np := 2) (ci := 5) (st := [.ref v1]) (sX6_init E (D - 1) (by omega) e6) dX7_readLoop_9 rfl (by omega) (by decide) cw_X7_136 ⟨wd_513, rfl⟩ rfl (ckT_s e8) rfl (Nat.le_of_ble_eq_true rfl) ?_
  refine a_astore_n (lv1 := [(3, .ref v1), (0, .ref a0), (1, .int a1), (2, .int a2)]) dX7_readLoop_12 rfl (by decide) rfl ?_
  refine a_aload_n (q := 1) dX7_readLoop_13 rfl rfl ?_
  refine a_iload_n (q := 2) dX7_readLoop_14 rfl rfl ?_
  obtain ⟨_, e11, hf⟩ := obd hf
  obtain ⟨h10, e9, hf⟩ := obd hf
  refine a_callV (as := [.int a1]) (np := 1) (ci := 6) (st := []) (sX7_readNested E (D - 1) (by omega) e9) dX7_readLoop_15 rfl (by omega) (by decide) cw_X7_150 ⟨wd_559, ws_12⟩ rfl (ckT_s e11) rfl (Nat.le_of_ble_eq_true rfl) ?_
  refine a_aload_n (q := 0) dX7_readLoop_18 rfl rfl ?_
  refine a_aload_n (q := 1) dX7_readLoop_19 rfl rfl ?_
  obtain ⟨_, e15, hf⟩ := obd hf
  obtain ⟨v13, h14, e12, hf⟩ := ob2 hf
  refine a_callV (as := []) (np := 0) (ci := 6) (st := [.ref v1]) (sX7_readVariable E (D - 1) (by omega) e12) dX7_readLoop_20 rfl (by omega) (by decide) cw_X7_163 ⟨wd_590, ws_14⟩ rfl (ckT_s e15) rfl (Nat.le_of_ble_eq_true rfl) ?_
  obtain ⟨h16, e17, hf⟩ := obd hf
  refine o_pfI dX7_readLoop_23 lk_X7_147 (⟨_, rfl, Or.inl rfl⟩) rfl e17 ?_
  refine a_aload_n (q := 1) dX7_readLoop_26 rfl rfl ?_
  refine a_bipush (v := 32) dX7_readLoop_27 (by decide) ?_
  obtain ⟨_, e20, hf⟩ := obd hf
  obtain ⟨h19, e18, hf⟩ := obd hf
  refine a_callV (as := [.int 32]) (np := 1) (ci := 6) (st := []) (sX7_expect E (D - 1) (by omega) e18) dX7_readLoop_29 rfl (by omega) (by decide) cw_X7_52 ⟨wd_492, ws_6⟩ rfl (ckT_s e20) rfl (Nat.le_of_ble_eq_true rfl) ?_
  refine a_aload_n (q := 0) dX7_readLoop_32 rfl rfl ?_
  refine a_aload_n (q := 1) dX7_readLoop_33 rfl rfl ?_
  obtain ⟨_, e24, hf⟩ := obd hf
  obtain ⟨v22, h23, e21, hf⟩ := ob2 hf
  refine a_callV (as := []) (np := 0) (ci := 6) (st := [.ref v1]) (sX7_readExpression E (D - 1) (by omega) e21) dX7_readLoop_34 rfl (by omega) (by decide) cw_X7_139 ⟨wd_563, ws_13⟩ rfl (ckT_s e24) rfl (Nat.le_of_ble_eq_true rfl) ?_
  obtain ⟨h25, e26, hf⟩ := obd hf
  refine o_pfR dX7_readLoop_37 lk_X7_143 (⟨_, rfl, Or.inl rfl⟩) rfl e26 ?_
  refine a_aload_n (q := 1) dX7_readLoop_40 rfl rfl ?_
  refine a_bipush (v := 125) dX7_readLoop_41 (by decide) ?_
  obtain ⟨_, e29, hf⟩ := obd hf
  obtain ⟨h28, e27, hf⟩ := obd hf
  refine a_callV (as := [.int 125]) (np := 1) (ci := 6) (st := []) (sX7_expect E (D - 1) (by omega) e27) dX7_readLoop_43 rfl (by omega) (by decide) cw_X7_52 ⟨wd_492, ws_6⟩ rfl (ckT_s e29) rfl (Nat.le_of_ble_eq_true rfl) ?_
  refine a_aload_n (q := 1) dX7_readLoop_46 rfl rfl ?_
  refine a_aload_n (q := 0) dX7_readLoop_47 rfl rfl ?_
  refine a_iload_n (q := 2) dX7_readLoop_48 rfl rfl ?_
  refine a_iload_n (q := 3) dX7_readLoop_49 rfl rfl ?_
  obtain ⟨_, e32, hf⟩ := obd hf
  obtain ⟨h31, e30, hf⟩ := obd hf
  refine a_callV (as := [.ref v1, .int a1, .int a2]) (np := 3) (ci := 6) (st := []) ((hg.2.2.2.2.1) _ _ _ _ _ _ e30) dX7_readLoop_50 rfl (by omega) (by decide) cw_X7_159 ⟨wd_707, ws_21⟩ rfl (ckT_s e32) rfl (Nat.le_of_ble_eq_true rfl) ?_
  refine a_aload_n (q := 0) dX7_readLoop_53 rfl rfl ?_
  obtain ⟨rfl, rfl⟩ := oc2 hf
  exact a_areturn dX7_readLoop_54 rfl (Or.inl ⟨_, rfl⟩)
set_option maxHeartbeats 4000000 in
set_option maxRecDepth 100000 in
theorem sX7_readBoth_b (E : gE) (D : Nat) (hD : 10 ≤ D) {g : gG0} (hg : gG0_ok E (D - 1) g) {a0 : Nat} {a1 : Nat} {a2 : Int32} {a3 : Int32} {h hz : hp} (hf : fX7_readBoth_b g a0 a1 a2 a3 h = some hz) : MC E yX7_readBoth cX7_readBoth (Option.none : Option Jvm.ClassFile.FieldType) 4 D [.ref a0, .ref a1, .int a2, .int a3] h none hz := by
  refine MC.of (by decide +kernel) (Nat.le_of_ble_eq_true rfl) rfl ?_
  unfold fX7_readBoth_b at hf
  show AW E yX7_readBoth cX7_readBoth (Option.none : Option Jvm.ClassFile.FieldType) 4 D none h hz 0 [(0, .ref a0), (1, .ref a1), (2, .int a2), (3, .int a3)] [] h
  refine a_aload_n (q := 0) dX7_readBoth_0 rfl rfl ?_
  obtain ⟨v1, e2, hf⟩ := obd hf
  refine o_gfI dX7_readBoth_1 lk_X7_15 rfl e2 ?_
  refine a_if_lt (tgt := 8) dX7_readBoth_4 (by decide) (fun c => ?_) (fun c => ?_)
  · have hf := ifp c hf
    refine a_aload_n (q := 1) dX7_readBoth_8 rfl rfl ?_
    refine a_aload_n (q := 0) dX7_readBoth_9 rfl rfl ?_
    refine a_iload_n (q := 2) dX7_readBoth_10 rfl rfl ?_
    refine a_iconst (v := 1) dX7_readBoth_11 (by decide) ?_
    refine a_iadd dX7_readBoth_12 ?_
    refine a_iload_n (q := 3) dX7_readBoth_13 rfl rfl ?_
    refine a_iconst (v := 1) dX7_readBoth_14 (by decide) ?_
    obtain ⟨_, e6, hf⟩ := obd hf
    obtain ⟨v4, h5, e3, hf⟩ := ob2 hf
    refine a_callV (as := [.int (a2 + 1), .int a3, .int 1]) (np := 3) (ci := 6) (st := [.ref a1]) ((hg.1) _ _ _ _ _ _ _ e3) dX7_readBoth_15 rfl (by omega) (by decide) cw_X7_55 ⟨wd_496, ws_7⟩ rfl (ckT_s e6) rfl (Nat.le_of_ble_eq_true rfl) ?_
    obtain ⟨h7, e8, hf⟩ := obd hf
    refine o_pfR dX7_readBoth_18 lk_X7_166 (⟨_, rfl, Or.inl rfl⟩) rfl e8 ?_
    refine a_aload_n (q := 0) dX7_readBoth_21 rfl rfl ?_
    obtain ⟨v9, e10, hf⟩ := obd hf
    refine o_gfI dX7_readBoth_22 lk_X7_15 rfl e10 ?_
    refine a_if_ge (tgt := 48) dX7_readBoth_25 (by decide) (fun c => ?_) (fun c => ?_)
    · have hf := ifp c hf
      obtain rfl := Option.some.inj hf
      exact a_return dX7_readBoth_48 rfl
    · have hf := ifn c hf
      refine a_aload_n (q := 0) dX7_readBoth_28 rfl rfl ?_
      obtain ⟨v11, e12, hf⟩ := obd hf
      refine o_gfI dX7_readBoth_29 lk_X7_92 rfl e12 ?_
      refine a_if_eq (tgt := 48) dX7_readBoth_32 (by decide) (fun c => ?_) (fun c => ?_)
      · have hf := ifp c hf
        obtain rfl := Option.some.inj hf
        exact a_return dX7_readBoth_48 rfl
      · have hf := ifn c hf
        refine a_aload_n (q := 1) dX7_readBoth_35 rfl rfl ?_
        refine a_aload_n (q := 0) dX7_readBoth_36 rfl rfl ?_
        refine a_iload_n (q := 2) dX7_readBoth_37 rfl rfl ?_
        refine a_iconst (v := 1) dX7_readBoth_38 (by decide) ?_
        refine a_iadd dX7_readBoth_39 ?_
        refine a_iload_n (q := 3) dX7_readBoth_40 rfl rfl ?_
        refine a_iconst (v := 0) dX7_readBoth_41 (by decide) ?_
        obtain ⟨_, e16, hf⟩ := obd hf
        obtain ⟨v14, h15, e13, hf⟩ := ob2 hf
        refine a_callV (as := [.int (a2 + 1), .int a3, .int 0]) (np := 3) (ci := 6) (st := [.ref a1]) ((hg.1) _ _ _ _ _ _ _ e13) dX7_readBoth_42 rfl (by omega) (by decide) cw_X7_55 ⟨wd_496, ws_7⟩ rfl (ckT_s e16) rfl (Nat.le_of_ble_eq_true rfl) ?_
        obtain ⟨h17, e18, hf⟩ := obd hf
        refine o_pfR dX7_readBoth_45 lk_X7_169 (⟨_, rfl, Or.inl rfl⟩) rfl e18 ?_
        obtain rfl := Option.some.inj hf
        exact a_return dX7_readBoth_48 rfl
  · have hf := ifn c hf
    obtain rfl := Option.some.inj hf
    exact a_return dX7_readBoth_7 rfl
set_option maxHeartbeats 4000000 in
set_option maxRecDepth 100000 in
theorem sX7_readBlock_b (E : gE) (D : Nat) (hD : 10 ≤ D) {g : gG0} (hg : gG0_ok E (D - 1) g) {a0 : Nat} {a1 : Int32} {h hz : hp} {v0 : Nat} (hf : fX7_readBlock_b g a0 a1 h = some (v0, hz)) : MC E yX7_readBlock cX7_readBlock (Option.some (Jvm.ClassFile.FieldType.object "TemplatePress$Piece")) 3 D [.ref a0, .int a1] h (some (.ref v0)) hz := by
  refine MC.of (by decide +kernel) (Nat.le_of_ble_eq_true rfl) rfl ?_
  unfold fX7_readBlock_b at hf
  show AW E yX7_readBlock cX7_readBlock (Option.some (Jvm.ClassFile.FieldType.object "TemplatePress$Piece")) 3 D (some (.ref v0)) h hz 0 [(0, .ref a0), (1, .int a1)] [] h
  obtain ⟨v1, h2, e3, hf⟩ := ob2 hf
  refine o_nwO (ci := 5) dX7_readBlock_0 rfl rfl gu_5 tyX6_ok (by decide) wd_510 wd_511 wd_13 e3 ?_
  refine a_dup dX7_readBlock_3 rfl ?_
  refine a_iconst (v := 4) dX7_readBlock_4 (by decide) ?_
  refine a_aload_n (q := 0) dX7_readBlock_5 rfl rfl ?_
  obtain ⟨v4, e5, hf⟩ := obd hf
  refine o_gfI dX7_readBlock_6 lk_X7_9 rfl e5 ?_
  obtain ⟨_, e8, hf⟩ := obd hf
  obtain ⟨h7, e6, hf⟩ := obd hf
  refine a_callI (as := [.int 4, .int v4]) (np := 2) (ci := 5) (st := [.ref v1]) (sX6_init E (D - 1) (by omega) e6) dX7_readBlock_9 rfl (by omega) (by decide) cw_X7_136 ⟨wd_513, rfl⟩ rfl (ckT_s e8) rfl (Nat.le_of_ble_eq_true rfl) ?_
  refine a_astore_n (lv1 := [(2, .ref v1), (0, .ref a0), (1, .int a1)]) dX7_readBlock_12 rfl (by decide) rfl ?_
  refine a_aload_n (q := 1) dX7_readBlock_13 rfl rfl ?_
  refine a_iload_n (q := 2) dX7_readBlock_14 rfl rfl ?_
  obtain ⟨_, e11, hf⟩ := obd hf
  obtain ⟨h10, e9, hf⟩ := obd hf
  refine a_callV (as := [.int a1]) (np := 1) (ci := 6) (st := []) (sX7_readNested E (D - 1) (by omega) e9) dX7_readBlock_15 rfl (by omega) (by decide) cw_X7_150 ⟨wd_559, ws_12⟩ rfl (ckT_s e11) rfl (Nat.le_of_ble_eq_true rfl) ?_
  refine a_aload_n (q := 0) dX7_readBlock_18 rfl rfl ?_
  refine a_aload_n (q := 1) dX7_readBlock_19 rfl rfl ?_
  refine a_bipush (v := 65) dX7_readBlock_20 (by decide) ?_
  refine a_iconst (v := 4) dX7_readBlock_22 (by decide) ?_
  obtain ⟨_, e15, hf⟩ := obd hf
  obtain ⟨v13, h14, e12, hf⟩ := ob2 hf
  refine a_callV (as := [.int 65, .int 4]) (np := 2) (ci := 6) (st := [.ref v1]) (sX7_readOneOf E (D - 1) (by omega) e12) dX7_readBlock_23 rfl (by omega) (by decide) cw_X7_45 ⟨wd_479, ws_3⟩ rfl (ckT_s e15) rfl (Nat.le_of_ble_eq_true rfl) ?_
  obtain ⟨h16, e17, hf⟩ := obd hf
  refine o_pfI dX7_readBlock_26 lk_X7_147 (⟨_, rfl, Or.inl rfl⟩) rfl e17 ?_
  refine a_aload_n (q := 1) dX7_readBlock_29 rfl rfl ?_
  refine a_bipush (v := 125) dX7_readBlock_30 (by decide) ?_
  obtain ⟨_, e20, hf⟩ := obd hf
  obtain ⟨h19, e18, hf⟩ := obd hf
  refine a_callV (as := [.int 125]) (np := 1) (ci := 6) (st := []) (sX7_expect E (D - 1) (by omega) e18) dX7_readBlock_32 rfl (by omega) (by decide) cw_X7_52 ⟨wd_492, ws_6⟩ rfl (ckT_s e20) rfl (Nat.le_of_ble_eq_true rfl) ?_
  refine a_aload_n (q := 1) dX7_readBlock_35 rfl rfl ?_
  obtain ⟨v21, e22, hf⟩ := obd hf
  refine o_gfI dX7_readBlock_36 lk_X7_15 rfl e22 ?_
  refine a_if_lt (tgt := 44) dX7_readBlock_39 (by decide) (fun c => ?_) (fun c => ?_)
  · have hf := ifp c hf
    refine a_aload_n (q := 1) dX7_readBlock_44 rfl rfl ?_
    obtain ⟨v23, e24, hf⟩ := obd hf
    refine o_gfR dX7_readBlock_45 lk_X7_32 rfl e24 ?_
    refine a_aload_n (q := 0) dX7_readBlock_48 rfl rfl ?_
    obtain ⟨v25, e26, hf⟩ := obd hf
    refine o_gfI dX7_readBlock_49 lk_X7_147 rfl e26 ?_
    refine a_aload_n (q := 0) dX7_readBlock_52 rfl rfl ?_
    obtain ⟨_, e29, hf⟩ := obd hf
    obtain ⟨h28, e27, hf⟩ := obd hf
    refine a_callV (as := [.int v25, .ref v1]) (np := 2) (ci := 9) (st := []) (sX10_addBlock E (D - 1) (by omega) e27) dX7_readBlock_53 rfl (by omega) (by decide) cw_X7_172 ⟨wd_718, wd_719⟩ rfl (ckT_s e29) rfl (Nat.le_of_ble_eq_true rfl) ?_
    refine a_aload_n (q := 0) dX7_readBlock_56 rfl rfl ?_
    refine a_aload_n (q := 1) dX7_readBlock_57 rfl rfl ?_
    refine a_iload_n (q := 2) dX7_readBlock_58 rfl rfl ?_
    refine a_iconst (v := 1) dX7_readBlock_59 (by decide) ?_
    refine a_iadd dX7_readBlock_60 ?_
    refine a_iconst (v := 1) dX7_readBlock_61 (by decide) ?_
    refine a_iconst (v := 0) dX7_readBlock_62 (by decide) ?_
    obtain ⟨_, e33, hf⟩ := obd hf
    obtain ⟨v31, h32, e30, hf⟩ := ob2 hf
    refine a_callV (as := [.int (a1 + 1), .int 1, .int 0]) (np := 3) (ci := 6) (st := [.ref v1]) ((hg.1) _ _ _ _ _ _ _ e30) dX7_readBlock_63 rfl (by omega) (by decide) cw_X7_55 ⟨wd_496, ws_7⟩ rfl (ckT_s e33) rfl (Nat.le_of_ble_eq_true rfl) ?_
    obtain ⟨h34, e35, hf⟩ := obd hf
    refine o_pfR dX7_readBlock_66 lk_X7_166 (⟨_, rfl, Or.inl rfl⟩) rfl e35 ?_
    refine a_aload_n (q := 0) dX7_readBlock_69 rfl rfl ?_
    obtain ⟨rfl, rfl⟩ := oc2 hf
    exact a_areturn dX7_readBlock_70 rfl (Or.inl ⟨_, rfl⟩)
  · have hf := ifn c hf
    refine a_aload_n (q := 0) dX7_readBlock_42 rfl rfl ?_
    obtain ⟨rfl, rfl⟩ := oc2 hf
    exact a_areturn dX7_readBlock_43 rfl (Or.inl ⟨_, rfl⟩)
def G0 : Nat → gG0
  | 0 => ((fun _ _ _ _ _ => none), (fun _ _ _ _ => none), (fun _ _ _ _ => none), (fun _ _ _ _ => none), (fun _ _ _ _ _ => none), (fun _ _ _ => none))
  | n + 1 => (fX7_readAll_b (G0 n), fX7_readPiece_b (G0 n), fX7_readBranch_b (G0 n), fX7_readLoop_b (G0 n), fX7_readBoth_b (G0 n), fX7_readBlock_b (G0 n))
theorem G0_ok (E : gE) : ∀ (n D : Nat), n + 10 ≤ D → gG0_ok E D (G0 n) := by
  intro n
  induction n with
  | zero =>
    intro D hD
    exact ⟨(fun _ _ _ _ _ _ _ hf => by cases hf), (fun _ _ _ _ _ _ hf => by cases hf), (fun _ _ _ _ _ _ hf => by cases hf), (fun _ _ _ _ _ _ hf => by cases hf), (fun _ _ _ _ _ _ hf => by cases hf), (fun _ _ _ _ _ hf => by cases hf)⟩
  | succ n ih =>
    intro D hD
    have hg := ih (D - 1) (by omega)
    exact ⟨(fun _ _ _ _ _ _ _ hf => sX7_readAll_b E D (by omega) hg hf), (fun _ _ _ _ _ _ hf => sX7_readPiece_b E D (by omega) hg hf), (fun _ _ _ _ _ _ hf => sX7_readBranch_b E D (by omega) hg hf), (fun _ _ _ _ _ _ hf => sX7_readLoop_b E D (by omega) hg hf), (fun _ _ _ _ _ _ hf => sX7_readBoth_b E D (by omega) hg hf), (fun _ _ _ _ _ hf => sX7_readBlock_b E D (by omega) hg hf)⟩
def fX7_readAll (a0 : Nat) (a1 : Int32) (a2 : Int32) (a3 : Int32) (h : hp) : Option (Nat × hp) := (G0 120).1 a0 a1 a2 a3 h
theorem sX7_readAll (E : gE) (D : Nat) (hD : 130 ≤ D) {a0 : Nat} {a1 : Int32} {a2 : Int32} {a3 : Int32} {h hz : hp} {v0 : Nat} (hf : fX7_readAll a0 a1 a2 a3 h = some (v0, hz)) : MC E yX7_readAll cX7_readAll (Option.some (Jvm.ClassFile.FieldType.object "TemplatePress$Piece")) 8 D [.ref a0, .int a1, .int a2, .int a3] h (some (.ref v0)) hz :=
  (G0_ok E 120 D (by omega)).1 _ _ _ _ _ _ _ hf
def fX7_readPiece (a0 : Nat) (a1 : Int32) (a2 : Int32) (h : hp) : Option (Nat × hp) := (G0 120).2.1 a0 a1 a2 h
theorem sX7_readPiece (E : gE) (D : Nat) (hD : 130 ≤ D) {a0 : Nat} {a1 : Int32} {a2 : Int32} {h hz : hp} {v0 : Nat} (hf : fX7_readPiece a0 a1 a2 h = some (v0, hz)) : MC E yX7_readPiece cX7_readPiece (Option.some (Jvm.ClassFile.FieldType.object "TemplatePress$Piece")) 3 D [.ref a0, .int a1, .int a2] h (some (.ref v0)) hz :=
  (G0_ok E 120 D (by omega)).2.1 _ _ _ _ _ _ hf
def fX7_readBranch (a0 : Nat) (a1 : Int32) (a2 : Int32) (h : hp) : Option (Nat × hp) := (G0 120).2.2.1 a0 a1 a2 h
theorem sX7_readBranch (E : gE) (D : Nat) (hD : 130 ≤ D) {a0 : Nat} {a1 : Int32} {a2 : Int32} {h hz : hp} {v0 : Nat} (hf : fX7_readBranch a0 a1 a2 h = some (v0, hz)) : MC E yX7_readBranch cX7_readBranch (Option.some (Jvm.ClassFile.FieldType.object "TemplatePress$Piece")) 4 D [.ref a0, .int a1, .int a2] h (some (.ref v0)) hz :=
  (G0_ok E 120 D (by omega)).2.2.1 _ _ _ _ _ _ hf
def fX7_readLoop (a0 : Nat) (a1 : Int32) (a2 : Int32) (h : hp) : Option (Nat × hp) := (G0 120).2.2.2.1 a0 a1 a2 h
theorem sX7_readLoop (E : gE) (D : Nat) (hD : 130 ≤ D) {a0 : Nat} {a1 : Int32} {a2 : Int32} {h hz : hp} {v0 : Nat} (hf : fX7_readLoop a0 a1 a2 h = some (v0, hz)) : MC E yX7_readLoop cX7_readLoop (Option.some (Jvm.ClassFile.FieldType.object "TemplatePress$Piece")) 4 D [.ref a0, .int a1, .int a2] h (some (.ref v0)) hz :=
  (G0_ok E 120 D (by omega)).2.2.2.1 _ _ _ _ _ _ hf
def fX7_readBoth (a0 : Nat) (a1 : Nat) (a2 : Int32) (a3 : Int32) (h : hp) : Option hp := (G0 120).2.2.2.2.1 a0 a1 a2 a3 h
theorem sX7_readBoth (E : gE) (D : Nat) (hD : 130 ≤ D) {a0 : Nat} {a1 : Nat} {a2 : Int32} {a3 : Int32} {h hz : hp} (hf : fX7_readBoth a0 a1 a2 a3 h = some hz) : MC E yX7_readBoth cX7_readBoth (Option.none : Option Jvm.ClassFile.FieldType) 4 D [.ref a0, .ref a1, .int a2, .int a3] h none hz :=
  (G0_ok E 120 D (by omega)).2.2.2.2.1 _ _ _ _ _ _ hf
def fX7_readBlock (a0 : Nat) (a1 : Int32) (h : hp) : Option (Nat × hp) := (G0 120).2.2.2.2.2 a0 a1 h
theorem sX7_readBlock (E : gE) (D : Nat) (hD : 130 ≤ D) {a0 : Nat} {a1 : Int32} {h hz : hp} {v0 : Nat} (hf : fX7_readBlock a0 a1 h = some (v0, hz)) : MC E yX7_readBlock cX7_readBlock (Option.some (Jvm.ClassFile.FieldType.object "TemplatePress$Piece")) 3 D [.ref a0, .int a1] h (some (.ref v0)) hz :=
  (G0_ok E 120 D (by omega)).2.2.2.2.2 _ _ _ _ _ hf
def fX7_readTemplate (a0 : Nat) (h : hp) : Option (Nat × hp) :=
  (gfR h a0 6 0).bind fun v1 =>
  (ckT h v1 4).bind fun _ =>
  bd2 (fX5_at v1 0 h) fun v4 h5 =>
  jn (fun (h60j : hp) => (
    (gfR h60j a0 6 1).bind fun v7 =>
    (ckT h60j a0 6).bind fun _ =>
    bd2 (fX7_readAll a0 0 0 0 h60j) fun v10 h11 =>
    (pfR h11 v7 9 2 v10).bind fun h13 =>
    (gfR h13 a0 6 1).bind fun v15 =>
    (gfI h13 a0 6 3).bind fun v17 =>
    (pfI h13 v15 9 5 v17).bind fun h19 =>
    (gfI h19 a0 6 4).bind fun v21 =>
    if 0 ≤ v21 then (
      some (0, h19)
    ) else (
      (gfR h19 a0 6 1).bind fun v23 =>
      some (v23, h19)
    )
    : Option (Nat × hp))) fun k60 =>
  if v4 = 123 then (
    (gfR h5 a0 6 0).bind fun v25 =>
    (ckT h5 v25 4).bind fun _ =>
    bd2 (fX5_at v25 1 h5) fun v28 h29 =>
    if v28 = 60 then (
      (pfI h29 a0 6 2 2).bind fun h31 =>
      (gfR h31 a0 6 1).bind fun v33 =>
      (pfI h31 v33 9 4 1).bind fun h35 =>
      (gfR h35 a0 6 1).bind fun v37 =>
      (ckT h35 a0 6).bind fun _ =>
      bd2 (fX7_readOneOf a0 48 6 h35) fun v40 h41 =>
      (pfI h41 v37 9 3 v40).bind fun h43 =>
      (ckT h43 a0 6).bind fun _ =>
      (fX7_expect a0 125 h43).bind fun h46 =>
      k60 h46
    ) else (
      k60 h29
    )
  ) else (
    k60 h5
  )
set_option maxHeartbeats 4000000 in
set_option maxRecDepth 100000 in
theorem sX7_readTemplate (E : gE) (D : Nat) (hD : 131 ≤ D) {a0 : Nat} {h hz : hp} {v0 : Nat} (hf : fX7_readTemplate a0 h = some (v0, hz)) : MC E yX7_readTemplate cX7_readTemplate (Option.some (Jvm.ClassFile.FieldType.object "TemplatePress$Template")) 1 D [.ref a0] h (some (.ref v0)) hz := by
  refine MC.of (by decide +kernel) (Nat.le_of_ble_eq_true rfl) rfl ?_
  unfold fX7_readTemplate at hf
  show AW E yX7_readTemplate cX7_readTemplate (Option.some (Jvm.ClassFile.FieldType.object "TemplatePress$Template")) 1 D (some (.ref v0)) h hz 0 [(0, .ref a0)] [] h
  refine a_aload_n (q := 0) dX7_readTemplate_0 rfl rfl ?_
  obtain ⟨v1, e2, hf⟩ := obd hf
  refine o_gfR dX7_readTemplate_1 lk_X7_18 rfl e2 ?_
  refine a_iconst (v := 0) dX7_readTemplate_4 (by decide) ?_
  obtain ⟨_, e6, hf⟩ := obd hf
  obtain ⟨v4, h5, e3, hf⟩ := ob2 hf
  refine a_callV (as := [.int 0]) (np := 1) (ci := 4) (st := []) (sX5_at E (D - 1) (by omega) e3) dX7_readTemplate_5 rfl (by omega) (by decide) cw_X7_36 ⟨wd_313, wd_314⟩ rfl (ckT_s e6) rfl (Nat.le_of_ble_eq_true rfl) ?_
  refine a_bipush (v := 123) dX7_readTemplate_8 (by decide) ?_
  obtain ⟨k60, ek60, hf⟩ := jn_s hf
  have hj60 : ∀ (h60j : hp), k60 h60j = some (v0, hz) → AW E yX7_readTemplate cX7_readTemplate (Option.some (Jvm.ClassFile.FieldType.object "TemplatePress$Template")) 1 D (some (.ref v0)) h hz 60 [(0, .ref a0)] [] h60j := by
    intro h60j hf
    rw [ek60] at hf
    clear ek60
    refine a_aload_n (q := 0) dX7_readTemplate_60 rfl rfl ?_
    obtain ⟨v7, e8, hf⟩ := obd hf
    refine o_gfR dX7_readTemplate_61 lk_X7_32 rfl e8 ?_
    refine a_aload_n (q := 0) dX7_readTemplate_64 rfl rfl ?_
    refine a_iconst (v := 0) dX7_readTemplate_65 (by decide) ?_
    refine a_iconst (v := 0) dX7_readTemplate_66 (by decide) ?_
    refine a_iconst (v := 0) dX7_readTemplate_67 (by decide) ?_
    obtain ⟨_, e12, hf⟩ := obd hf
    obtain ⟨v10, h11, e9, hf⟩ := ob2 hf
    refine a_callV (as := [.int 0, .int 0, .int 0]) (np := 3) (ci := 6) (st := [.ref v7]) (sX7_readAll E (D - 1) (by omega) e9) dX7_readTemplate_68 rfl (by omega) (by decide) cw_X7_55 ⟨wd_496, ws_7⟩ rfl (ckT_s e12) rfl (Nat.le_of_ble_eq_true rfl) ?_
    obtain ⟨h13, e14, hf⟩ := obd hf
    refine o_pfR dX7_readTemplate_71 lk_X7_59 (⟨_, rfl, Or.inl rfl⟩) rfl e14 ?_
    refine a_aload_n (q := 0) dX7_readTemplate_74 rfl rfl ?_
    obtain ⟨v15, e16, hf⟩ := obd hf
    refine o_gfR dX7_readTemplate_75 lk_X7_32 rfl e16 ?_
    refine a_aload_n (q := 0) dX7_readTemplate_78 rfl rfl ?_
    obtain ⟨v17, e18, hf⟩ := obd hf
    refine o_gfI dX7_readTemplate_79 lk_X7_9 rfl e18 ?_
    obtain ⟨h19, e20, hf⟩ := obd hf
    refine o_pfI dX7_readTemplate_82 lk_X7_63 (⟨_, rfl, Or.inl rfl⟩) rfl e20 ?_
    refine a_aload_n (q := 0) dX7_readTemplate_85 rfl rfl ?_
    obtain ⟨v21, e22, hf⟩ := obd hf
    refine o_gfI dX7_readTemplate_86 lk_X7_15 rfl e22 ?_
    refine a_if_ge (tgt := 99) dX7_readTemplate_89 (by decide) (fun c => ?_) (fun c => ?_)
    · have hf := ifp c hf
      refine a_null dX7_readTemplate_99 ?_
      obtain ⟨rfl, rfl⟩ := oc2 hf
      exact a_areturn dX7_readTemplate_100 rfl (Or.inl ⟨_, rfl⟩)
    · have hf := ifn c hf
      refine a_aload_n (q := 0) dX7_readTemplate_92 rfl rfl ?_
      obtain ⟨v23, e24, hf⟩ := obd hf
      refine o_gfR dX7_readTemplate_93 lk_X7_32 rfl e24 ?_
      refine a_goto (tgt := 100) dX7_readTemplate_96 (by decide) ?_
      obtain ⟨rfl, rfl⟩ := oc2 hf
      exact a_areturn dX7_readTemplate_100 rfl (Or.inl ⟨_, rfl⟩)
  clear ek60
  refine a_icmp_ne (tgt := 60) dX7_readTemplate_10 (by decide) (fun c => ?_) (fun c => ?_)
  · have hf := ifn c hf
    exact hj60 _ hf
  · have hf := ifp c hf
    refine a_aload_n (q := 0) dX7_readTemplate_13 rfl rfl ?_
    obtain ⟨v25, e26, hf⟩ := obd hf
    refine o_gfR dX7_readTemplate_14 lk_X7_18 rfl e26 ?_
    refine a_iconst (v := 1) dX7_readTemplate_17 (by decide) ?_
    obtain ⟨_, e30, hf⟩ := obd hf
    obtain ⟨v28, h29, e27, hf⟩ := ob2 hf
    refine a_callV (as := [.int 1]) (np := 1) (ci := 4) (st := []) (sX5_at E (D - 1) (by omega) e27) dX7_readTemplate_18 rfl (by omega) (by decide) cw_X7_36 ⟨wd_313, wd_314⟩ rfl (ckT_s e30) rfl (Nat.le_of_ble_eq_true rfl) ?_
    refine a_bipush (v := 60) dX7_readTemplate_21 (by decide) ?_
    refine a_icmp_ne (tgt := 60) dX7_readTemplate_23 (by decide) (fun c => ?_) (fun c => ?_)
    · have hf := ifn c hf
      exact hj60 _ hf
    · have hf := ifp c hf
      refine a_aload_n (q := 0) dX7_readTemplate_26 rfl rfl ?_
      refine a_iconst (v := 2) dX7_readTemplate_27 (by decide) ?_
      obtain ⟨h31, e32, hf⟩ := obd hf
      refine o_pfI dX7_readTemplate_28 lk_X7_40 (⟨_, rfl, Or.inl rfl⟩) rfl e32 ?_
      refine a_aload_n (q := 0) dX7_readTemplate_31 rfl rfl ?_
      obtain ⟨v33, e34, hf⟩ := obd hf
      refine o_gfR dX7_readTemplate_32 lk_X7_32 rfl e34 ?_
      refine a_iconst (v := 1) dX7_readTemplate_35 (by decide) ?_
      obtain ⟨h35, e36, hf⟩ := obd hf
      refine o_pfI dX7_readTemplate_36 lk_X7_42 (⟨_, rfl, Or.inl rfl⟩) rfl e36 ?_
      refine a_aload_n (q := 0) dX7_readTemplate_39 rfl rfl ?_
      obtain ⟨v37, e38, hf⟩ := obd hf
      refine o_gfR dX7_readTemplate_40 lk_X7_32 rfl e38 ?_
      refine a_aload_n (q := 0) dX7_readTemplate_43 rfl rfl ?_
      refine a_bipush (v := 48) dX7_readTemplate_44 (by decide) ?_
      refine a_bipush (v := 6) dX7_readTemplate_46 (by decide) ?_
      obtain ⟨_, e42, hf⟩ := obd hf
      obtain ⟨v40, h41, e39, hf⟩ := ob2 hf
      refine a_callV (as := [.int 48, .int 6]) (np := 2) (ci := 6) (st := [.ref v37]) (sX7_readOneOf E (D - 1) (by omega) e39) dX7_readTemplate_48 rfl (by omega) (by decide) cw_X7_45 ⟨wd_479, ws_3⟩ rfl (ckT_s e42) rfl (Nat.le_of_ble_eq_true rfl) ?_
      obtain ⟨h43, e44, hf⟩ := obd hf
      refine o_pfI dX7_readTemplate_51 lk_X7_49 (⟨_, rfl, Or.inl rfl⟩) rfl e44 ?_
      refine a_aload_n (q := 0) dX7_readTemplate_54 rfl rfl ?_
      refine a_bipush (v := 125) dX7_readTemplate_55 (by decide) ?_
      obtain ⟨_, e47, hf⟩ := obd hf
      obtain ⟨h46, e45, hf⟩ := obd hf
      refine a_callV (as := [.int 125]) (np := 1) (ci := 6) (st := []) (sX7_expect E (D - 1) (by omega) e45) dX7_readTemplate_57 rfl (by omega) (by decide) cw_X7_52 ⟨wd_492, ws_6⟩ rfl (ckT_s e47) rfl (Nat.le_of_ble_eq_true rfl) ?_
      exact hj60 _ hf
def fX7_readWholeFilters (a0 : Nat) (h : hp) : Option (Nat × hp) :=
  (ckT h a0 6).bind fun _ =>
  bd2 (fX7_readFilters a0 h) fun v2 h3 =>
  (gfI h3 a0 6 2).bind fun v5 =>
  (gfR h3 a0 6 0).bind fun v7 =>
  (gfI h3 v7 4 1).bind fun v9 =>
  jn (fun (h23j : hp) => (
    (gfI h23j a0 6 4).bind fun v11 =>
    if 0 ≤ v11 then (
      some (0, h23j)
    ) else (
      some (v2, h23j)
    )
    : Option (Nat × hp))) fun k23 =>
  if v9 ≤ v5 then (
    k23 h3
  ) else (
    (ckT h3 a0 6).bind fun _ =>
    (fX7_refuse a0 h3).bind fun h14 =>
    k23 h14
  )
set_option maxHeartbeats 4000000 in
set_option maxRecDepth 100000 in
theorem sX7_readWholeFilters (E : gE) (D : Nat) (hD : 8 ≤ D) {a0 : Nat} {h hz : hp} {v0 : Nat} (hf : fX7_readWholeFilters a0 h = some (v0, hz)) : MC E yX7_readWholeFilters cX7_readWholeFilters (Option.some (Jvm.ClassFile.FieldType.object "TemplatePress$FilterUse")) 2 D [.ref a0] h (some (.ref v0)) hz := by
  refine MC.of (by decide +kernel) (Nat.le_of_ble_eq_true rfl) rfl ?_
  unfold fX7_readWholeFilters at hf
  show AW E yX7_readWholeFilters cX7_readWholeFilters (Option.some (Jvm.ClassFile.FieldType.object "TemplatePress$FilterUse")) 2 D (some (.ref v0)) h hz 0 [(0, .ref a0)] [] h
  refine a_aload_n (q := 0) dX7_readWholeFilters_0 rfl rfl ?_
  obtain ⟨_, e4, hf⟩ := obd hf
  obtain ⟨v2, h3, e1, hf⟩ := ob2 hf
  refine a_callV (as := []) (np := 0) (ci := 6) (st := []) (sX7_readFilters E (D - 1) (by omega) e1) dX7_readWholeFilters_1 rfl (by omega) (by decide) cw_X7_66 ⟨wd_619, ws_18⟩ rfl (ckT_s e4) rfl (Nat.le_of_ble_eq_true rfl) ?_
  refine a_astore_n (lv1 := [(1, .ref v2), (0, .ref a0)]) dX7_readWholeFilters_4 rfl (by decide) rfl ?_
  refine a_aload_n (q := 1) dX7_readWholeFilters_5 rfl rfl ?_
  obtain ⟨v5, e6, hf⟩ := obd hf
  refine o_gfI dX7_readWholeFilters_6 lk_X7_40 rfl e6 ?_
  refine a_aload_n (q := 1) dX7_readWholeFilters_9 rfl rfl ?_
  obtain ⟨v7, e8, hf⟩ := obd hf
  refine o_gfR dX7_readWholeFilters_10 lk_X7_18 rfl e8 ?_
  obtain ⟨v9, e10, hf⟩ := obd hf
  refine o_gfI dX7_readWholeFilters_13 lk_X7_24 rfl e10 ?_
  obtain ⟨k23, ek23, hf⟩ := jn_s hf
  have hj23 : ∀ (h23j : hp), k23 h23j = some (v0, hz) → AW E yX7_readWholeFilters cX7_readWholeFilters (Option.some (Jvm.ClassFile.FieldType.object "TemplatePress$FilterUse")) 2 D (some (.ref v0)) h hz 23 [(0, .ref a0), (1, .ref v2)] [] h23j := by
    intro h23j hf
    rw [ek23] at hf
    clear ek23
    refine a_aload_n (q := 0) dX7_readWholeFilters_23 rfl rfl ?_
    obtain ⟨v11, e12, hf⟩ := obd hf
    refine o_gfI dX7_readWholeFilters_24 lk_X7_15 rfl e12 ?_
    refine a_if_ge (tgt := 34) dX7_readWholeFilters_27 (by decide) (fun c => ?_) (fun c => ?_)
    · have hf := ifp c hf
      refine a_null dX7_readWholeFilters_34 ?_
      obtain ⟨rfl, rfl⟩ := oc2 hf
      exact a_areturn dX7_readWholeFilters_35 rfl (Or.inl ⟨_, rfl⟩)
    · have hf := ifn c hf
      refine a_aload_n (q := 1) dX7_readWholeFilters_30 rfl rfl ?_
      refine a_goto (tgt := 35) dX7_readWholeFilters_31 (by decide) ?_
      obtain ⟨rfl, rfl⟩ := oc2 hf
      exact a_areturn dX7_readWholeFilters_35 rfl (Or.inl ⟨_, rfl⟩)
  clear ek23
  refine a_icmp_ge (tgt := 23) dX7_readWholeFilters_16 (by decide) (fun c => ?_) (fun c => ?_)
  · have hf := ifp c hf
    exact AW.sub [1, 0] rfl (hj23 _ hf)
  · have hf := ifn c hf
    refine a_aload_n (q := 1) dX7_readWholeFilters_19 rfl rfl ?_
    obtain ⟨_, e15, hf⟩ := obd hf
    obtain ⟨h14, e13, hf⟩ := obd hf
    refine a_callV (as := []) (np := 0) (ci := 6) (st := []) (sX7_refuse E (D - 1) (by omega) e13) dX7_readWholeFilters_20 rfl (by omega) (by decide) cw_X7_70 ⟨wd_488, ws_5⟩ rfl (ckT_s e15) rfl (Nat.le_of_ble_eq_true rfl) ?_
    exact AW.sub [1, 0] rfl (hj23 _ hf)
def fX8_init (a0 : Nat) (h : hp) : Option hp :=
  (ckT h a0 7).bind fun _ =>
  (pfI h a0 7 0 (-1)).bind fun h2 =>
  bd2 (nwA h2 0 60) fun v4 h5 =>
  (pfR h5 a0 7 2 v4).bind fun h7 =>
  bd2 (nwA h7 1 60) fun v9 h10 =>
  (pfR h10 a0 7 3 v9).bind fun h12 =>
  some h12
set_option maxHeartbeats 4000000 in
set_option maxRecDepth 100000 in
theorem sX8_init (E : gE) (D : Nat) (hD : 1 ≤ D) {a0 : Nat} {h hz : hp} (hf : fX8_init a0 h = some hz) : MC E yX8_init cX8_init (Option.none : Option Jvm.ClassFile.FieldType) 1 D [.ref a0] h none hz := by
  refine MC.of (by decide +kernel) (Nat.le_of_ble_eq_true rfl) rfl ?_
  unfold fX8_init at hf
  show AW E yX8_init cX8_init (Option.none : Option Jvm.ClassFile.FieldType) 1 D none h hz 0 [(0, .ref a0)] [] h
  refine a_aload_n (q := 0) dX8_init_0 rfl rfl ?_
  obtain ⟨_, e1, hf⟩ := obd hf
  refine o_objI dX8_init_1 (by omega) wd_114 wd_32 wd_33 (by decide) (ckT_s e1) (Nat.le_of_ble_eq_true rfl) ?_
  refine a_aload_n (q := 0) dX8_init_4 rfl rfl ?_
  refine a_iconst (v := (-1)) dX8_init_5 (by decide) ?_
  obtain ⟨h2, e3, hf⟩ := obd hf
  refine o_pfI dX8_init_6 lk_X8_9 (⟨_, rfl, Or.inl rfl⟩) rfl e3 ?_
  refine a_aload_n (q := 0) dX8_init_9 rfl rfl ?_
  refine a_bipush (v := 60) dX8_init_10 (by decide) ?_
  obtain ⟨v4, h5, e6, hf⟩ := ob2 hf
  refine o_nwI dX8_init_12 wd_63 e6 ?_
  obtain ⟨h7, e8, hf⟩ := obd hf
  refine o_pfR dX8_init_14 lk_X8_15 (⟨_, rfl, Or.inr ⟨rfl, rfl, rfl, wd_119⟩⟩) rfl e8 ?_
  refine a_aload_n (q := 0) dX8_init_17 rfl rfl ?_
  refine a_bipush (v := 60) dX8_init_18 (by decide) ?_
  obtain ⟨v9, h10, e11, hf⟩ := ob2 hf
  refine o_nwF dX8_init_20 wd_130 e11 ?_
  obtain ⟨h12, e13, hf⟩ := obd hf
  refine o_pfR dX8_init_22 lk_X8_19 (⟨_, rfl, Or.inr ⟨rfl, rfl, rfl, wd_120⟩⟩) rfl e13 ?_
  obtain rfl := Option.some.inj hf
  exact a_return dX8_init_25 rfl
def fJ9_max_7cf53 (a0 : Int32) (a1 : Int32) (h : hp) : Option (Int32 × hp) :=
  if a0 < a1 then (
    some (a1, h)
  ) else (
    some (a0, h)
  )
set_option maxHeartbeats 4000000 in
set_option maxRecDepth 100000 in
theorem sJ9_max_7cf53 (E : gE) (D : Nat) (hD : 0 ≤ D) {a0 : Int32} {a1 : Int32} {h hz : hp} {v0 : Int32} (hf : fJ9_max_7cf53 a0 a1 h = some (v0, hz)) : MC E yJ9_max_7cf53 cJ9_max_7cf53 (Option.some Jvm.ClassFile.FieldType.int) 2 D [.int a0, .int a1] h (some (.int v0)) hz := by
  refine MC.of (by decide +kernel) (Nat.le_of_ble_eq_true rfl) rfl ?_
  unfold fJ9_max_7cf53 at hf
  show AW E yJ9_max_7cf53 cJ9_max_7cf53 (Option.some Jvm.ClassFile.FieldType.int) 2 D (some (.int v0)) h hz 0 [(0, .int a0), (1, .int a1)] [] h
  refine a_iload_n (q := 0) dJ9_max_7cf53_0 rfl rfl ?_
  refine a_iload_n (q := 1) dJ9_max_7cf53_1 rfl rfl ?_
  refine a_icmp_lt (tgt := 9) dJ9_max_7cf53_2 (by decide) (fun c => ?_) (fun c => ?_)
  · have hf := ifp c hf
    refine a_iload_n (q := 1) dJ9_max_7cf53_9 rfl rfl ?_
    obtain ⟨rfl, rfl⟩ := oc2 hf
    exact a_ireturn dJ9_max_7cf53_10 rfl
  · have hf := ifn c hf
    refine a_iload_n (q := 0) dJ9_max_7cf53_5 rfl rfl ?_
    refine a_goto (tgt := 10) dJ9_max_7cf53_6 (by decide) ?_
    obtain ⟨rfl, rfl⟩ := oc2 hf
    exact a_ireturn dJ9_max_7cf53_10 rfl

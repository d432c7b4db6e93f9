def fJxe99ae_doubleToLongBits_ccdee (a0 : UInt64) (h : hp) : Option (Int64 × hp) :=
  bd2 (fJxe99ae_isNaN_b9ae7 a0 h) fun v2 h3 =>
  if v2 = 0 then (
    some ((a0.toInt64), h3)
  ) else (
    some (9221120237041090560, h3)
  )
set_option maxHeartbeats 4000000 in
set_option maxRecDepth 100000 in
theorem sJxe99ae_doubleToLongBits_ccdee (E : gE) (D : Nat) (hD : 1 ≤ D) {a0 : UInt64} {h hz : hp} {v0 : Int64} (hf : fJxe99ae_doubleToLongBits_ccdee a0 h = some (v0, hz)) : MC E yJxe99ae_doubleToLongBits_ccdee cJxe99ae_doubleToLongBits_ccdee (Option.some Jvm.ClassFile.FieldType.long) 2 D [.double a0] h (some (.long v0)) hz := by
  refine MC.of (by decide +kernel) (Nat.le_of_ble_eq_true rfl) rfl ?_
  unfold fJxe99ae_doubleToLongBits_ccdee at hf
  show AW E yJxe99ae_doubleToLongBits_ccdee cJxe99ae_doubleToLongBits_ccdee (Option.some Jvm.ClassFile.FieldType.long) 2 D (some (.long v0)) h hz 0 [(0, .double a0)] [] h
  refine a_dload_n (q := 0) dJxe99ae_doubleToLongBits_ccdee_0 rfl rfl ?_
  obtain ⟨v2, h3, e1, hf⟩ := ob2 hf
  refine a_callS (as := [.double a0]) (np := 1) (st := []) (sJxe99ae_isNaN_b9ae7 E (D - 1) (by omega) e1) dJxe99ae_doubleToLongBits_ccdee_1 rfl (by omega) (by decide) cw_Jxe99ae_122 wd_1572 rfl (Nat.le_of_ble_eq_true rfl) ?_
  refine a_if_ne (tgt := 12) dJxe99ae_doubleToLongBits_ccdee_4 (by decide) (fun c => ?_) (fun c => ?_)
  · have hf := ifn c hf
    refine a_ldc2 (v := 9221120237041090560) dJxe99ae_doubleToLongBits_ccdee_12 wd_1577 ?_
    obtain ⟨rfl, rfl⟩ := oc2 hf
    exact a_lreturn dJxe99ae_doubleToLongBits_ccdee_15 rfl
  · have hf := ifp c hf
    refine a_dload_n (q := 0) dJxe99ae_doubleToLongBits_ccdee_7 rfl rfl ?_
    refine o_d2r dJxe99ae_doubleToLongBits_ccdee_8 (by omega) wd_1574 wd_1576 wd_1575 wd_25 (Nat.le_of_ble_eq_true rfl) ?_
    obtain ⟨rfl, rfl⟩ := oc2 hf
    exact a_lreturn dJxe99ae_doubleToLongBits_ccdee_11 rfl
def fX14_bitsOf (a0 : Int32) (h : hp) : Option (Int32 × hp) :=
  bd2 (fJxe99ae_doubleToLongBits_ccdee (FP.i2d a0) h) fun v2 h3 =>
  (dvI ((v2 >>> ((32 : Int32).toInt64 &&& 63)).toInt32) 4096).bind fun v4 =>
  some (v4, h3)
set_option maxHeartbeats 4000000 in
set_option maxRecDepth 100000 in
theorem sX14_bitsOf (E : gE) (D : Nat) (hD : 2 ≤ D) {a0 : Int32} {h hz : hp} {v0 : Int32} (hf : fX14_bitsOf a0 h = some (v0, hz)) : MC E yX14_bitsOf cX14_bitsOf (Option.some Jvm.ClassFile.FieldType.int) 1 D [.int a0] h (some (.int v0)) hz := by
  refine MC.of (by decide +kernel) (Nat.le_of_ble_eq_true rfl) rfl ?_
  unfold fX14_bitsOf at hf
  show AW E yX14_bitsOf cX14_bitsOf (Option.some Jvm.ClassFile.FieldType.int) 1 D (some (.int v0)) h hz 0 [(0, .int a0)] [] h
  refine a_iload_n (q := 0) dX14_bitsOf_0 rfl rfl ?_
  refine a_i2d dX14_bitsOf_1 ?_
  obtain ⟨v2, h3, e1, hf⟩ := ob2 hf
  refine a_callS (as := [.double (FP.i2d a0)]) (np := 1) (st := []) (sJxe99ae_doubleToLongBits_ccdee E (D - 1) (by omega) e1) dX14_bitsOf_2 rfl (by omega) (by decide) cw_X14_179 wd_1569 rfl (Nat.le_of_ble_eq_true rfl) ?_
  refine a_bipush (v := 32) dX14_bitsOf_5 (by decide) ?_
  refine a_lshr dX14_bitsOf_7 rfl ?_
  refine a_l2i dX14_bitsOf_8 rfl ?_
  refine a_sipush (v := 4096) dX14_bitsOf_9 (by decide) ?_
  obtain ⟨v4, e5, hf⟩ := obd hf
  refine o_dvI dX14_bitsOf_12 e5 ?_
  obtain ⟨rfl, rfl⟩ := oc2 hf
  exact a_ireturn dX14_bitsOf_13 rfl
def fJxf58ca_isNaN_12338 (a0 : UInt32) (h : hp) : Option (Int32 × hp) :=
  if (Op.cmpValue (FP.fcmp a0 a0) .l) = 0 then (
    some (0, h)
  ) else (
    some (1, h)
  )
set_option maxHeartbeats 4000000 in
set_option maxRecDepth 100000 in
theorem sJxf58ca_isNaN_12338 (E : gE) (D : Nat) (hD : 0 ≤ D) {a0 : UInt32} {h hz : hp} {v0 : Int32} (hf : fJxf58ca_isNaN_12338 a0 h = some (v0, hz)) : MC E yJxf58ca_isNaN_12338 cJxf58ca_isNaN_12338 (Option.some Jvm.ClassFile.FieldType.boolean) 1 D [.float a0] h (some (.int v0)) hz := by
  refine MC.of (by decide +kernel) (Nat.le_of_ble_eq_true rfl) rfl ?_
  unfold fJxf58ca_isNaN_12338 at hf
  show AW E yJxf58ca_isNaN_12338 cJxf58ca_isNaN_12338 (Option.some Jvm.ClassFile.FieldType.boolean) 1 D (some (.int v0)) h hz 0 [(0, .float a0)] [] h
  refine a_fload_n (q := 0) dJxf58ca_isNaN_12338_0 rfl rfl ?_
  refine a_fload_n (q := 0) dJxf58ca_isNaN_12338_1 rfl rfl ?_
  refine a_fcmp dJxf58ca_isNaN_12338_2 ?_
  refine a_if_eq (tgt := 10) dJxf58ca_isNaN_12338_3 (by decide) (fun c => ?_) (fun c => ?_)
  · have hf := ifp c hf
    refine a_iconst (v := 0) dJxf58ca_isNaN_12338_10 (by decide) ?_
    obtain ⟨rfl, rfl⟩ := oc2 hf
    exact a_zreturn dJxf58ca_isNaN_12338_11 rfl (by decide)
  · have hf := ifn c hf
    refine a_iconst (v := 1) dJxf58ca_isNaN_12338_6 (by decide) ?_
    refine a_goto (tgt := 11) dJxf58ca_isNaN_12338_7 (by decide) ?_
    obtain ⟨rfl, rfl⟩ := oc2 hf
    exact a_zreturn dJxf58ca_isNaN_12338_11 rfl (by decide)
def fJxf58ca_floatToIntBits_5c35a (a0 : UInt32) (h : hp) : Option (Int32 × hp) :=
  bd2 (fJxf58ca_isNaN_12338 a0 h) fun v2 h3 =>
  if v2 = 0 then (
    some ((a0.toInt32), h3)
  ) else (
    some (2143289344, h3)
  )
set_option maxHeartbeats 4000000 in
set_option maxRecDepth 100000 in
theorem sJxf58ca_floatToIntBits_5c35a (E : gE) (D : Nat) (hD : 1 ≤ D) {a0 : UInt32} {h hz : hp} {v0 : Int32} (hf : fJxf58ca_floatToIntBits_5c35a a0 h = some (v0, hz)) : MC E yJxf58ca_floatToIntBits_5c35a cJxf58ca_floatToIntBits_5c35a (Option.some Jvm.ClassFile.FieldType.int) 1 D [.float a0] h (some (.int v0)) hz := by
  refine MC.of (by decide +kernel) (Nat.le_of_ble_eq_true rfl) rfl ?_
  unfold fJxf58ca_floatToIntBits_5c35a at hf
  show AW E yJxf58ca_floatToIntBits_5c35a cJxf58ca_floatToIntBits_5c35a (Option.some Jvm.ClassFile.FieldType.int) 1 D (some (.int v0)) h hz 0 [(0, .float a0)] [] h
  refine a_fload_n (q := 0) dJxf58ca_floatToIntBits_5c35a_0 rfl rfl ?_
  obtain ⟨v2, h3, e1, hf⟩ := ob2 hf
  refine a_callS (as := [.float a0]) (np := 1) (st := []) (sJxf58ca_isNaN_12338 E (D - 1) (by omega) e1) dJxf58ca_floatToIntBits_5c35a_1 rfl (by omega) (by decide) cw_Jxf58ca_59 wd_1559 rfl (Nat.le_of_ble_eq_true rfl) ?_
  refine a_if_ne (tgt := 12) dJxf58ca_floatToIntBits_5c35a_4 (by decide) (fun c => ?_) (fun c => ?_)
  · have hf := ifn c hf
    refine a_ldc (v := 2143289344) dJxf58ca_floatToIntBits_5c35a_12 wd_1564 ?_
    obtain ⟨rfl, rfl⟩ := oc2 hf
    exact a_ireturn dJxf58ca_floatToIntBits_5c35a_14 rfl
  · have hf := ifp c hf
    refine a_fload_n (q := 0) dJxf58ca_floatToIntBits_5c35a_7 rfl rfl ?_
    refine o_f2r dJxf58ca_floatToIntBits_5c35a_8 (by omega) wd_1561 wd_1563 wd_1562 wd_10 (Nat.le_of_ble_eq_true rfl) ?_
    obtain ⟨rfl, rfl⟩ := oc2 hf
    exact a_ireturn dJxf58ca_floatToIntBits_5c35a_11 rfl
def fX14_plain (a0 : Nat) (a1 : Int32) (a2 : Int32) (h : hp) : Option (Int32 × hp) :=
  (gfR h a0 13 0).bind fun v1 =>
  (alI h v1 a1).bind fun v3 =>
  jn (fun (s22_0 : Int32) (h22j : hp) => (
    jn (fun (s39_0 : Int32) (h39j : hp) => (
      if a2 = 0 then (
        jn (fun (h118j : hp) => (
          if v3 = 3 then (
            some (0, h118j)
          ) else (
            some (2, h118j)
          )
          : Option (Int32 × hp))) fun k118 =>
        if v3 = 3 then (
          (ckT h39j a0 13).bind fun _ =>
          (fX14_cases a0 a1 97 (-32) h39j).bind fun h6 =>
          k118 h6
        ) else (
          k118 h39j
        )
      ) else (
      if a2 = 1 then (
        jn (fun (h143j : hp) => (
          if v3 = 3 then (
            some (0, h143j)
          ) else (
            some (2, h143j)
          )
          : Option (Int32 × hp))) fun k143 =>
        if v3 = 3 then (
          (ckT h39j a0 13).bind fun _ =>
          (fX14_cases a0 a1 65 32 h39j).bind fun h9 =>
          k143 h9
        ) else (
          k143 h39j
        )
      ) else (
      if a2 = 2 then (
        jn (fun (h164j : hp) => (
          if s22_0 = 0 then (
            some (2, h164j)
          ) else (
            some (0, h164j)
          )
          : Option (Int32 × hp))) fun k164 =>
        if s22_0 = 0 then (
          k164 h39j
        ) else (
          (ckT h39j a0 13).bind fun _ =>
          (fX14_turnsAbout a0 a1 h39j).bind fun h12 =>
          k164 h12
        )
      ) else (
      if a2 = 3 then (
        jn (fun (h191j : hp) => (
          if s22_0 = 0 then (
            some (2, h191j)
          ) else (
            some (0, h191j)
          )
          : Option (Int32 × hp))) fun k191 =>
        if s22_0 = 0 then (
          k191 h39j
        ) else (
          (gfR h39j a0 13 2).bind fun v14 =>
          (alI h39j v14 a1).bind fun v16 =>
          (ckT h39j a0 13).bind fun _ =>
          (fX14_isInt a0 a1 v16 h39j).bind fun h19 =>
          k191 h19
        )
      ) else (
      if a2 = 4 then (
        jn (fun (h217j : hp) => (
          jn (fun (h236j : hp) => (
            if s39_0 = 0 then (
              some (2, h236j)
            ) else (
              some (0, h236j)
            )
            : Option (Int32 × hp))) fun k236 =>
          if v3 = 2 then (
            (gfR h217j a0 13 4).bind fun v21 =>
            (alF h217j v21 a1).bind fun v23 =>
            (fnn (FP.fmul v23 1056964608)).bind fun v25 =>
            (ckT h217j a0 13).bind fun _ =>
            (fX14_isReal a0 a1 v25 h217j).bind fun h28 =>
            k236 h28
          ) else (
            k236 h217j
          )
          : Option (Int32 × hp))) fun k217 =>
        if v3 = 1 then (
          (gfR h39j a0 13 1).bind fun v30 =>
          (alI h39j v30 a1).bind fun v32 =>
          (dvI v32 2).bind fun v34 =>
          (asI h39j v30 a1 v34).bind fun h36 =>
          k217 h36
        ) else (
          k217 h39j
        )
      ) else (
      if a2 = 5 then (
        jn (fun (h281j : hp) => (
          if s39_0 = 0 then (
            some (2, h281j)
          ) else (
            some (0, h281j)
          )
          : Option (Int32 × hp))) fun k281 =>
        if s39_0 = 0 then (
          k281 h39j
        ) else (
          jn (fun (s275_0 : UInt32) (h275j : hp) => (
            (fnn (FP.fdiv s275_0 1077936128)).bind fun v38 =>
            (ckT h275j a0 13).bind fun _ =>
            (fX14_isReal a0 a1 v38 h275j).bind fun h41 =>
            k281 h41
            : Option (Int32 × hp))) fun k275 =>
          if v3 = 1 then (
            (gfR h39j a0 13 1).bind fun v47 =>
            (alI h39j v47 a1).bind fun v49 =>
            k275 (FP.i2f v49) h39j
          ) else (
            (gfR h39j a0 13 4).bind fun v43 =>
            (alF h39j v43 a1).bind fun v45 =>
            k275 v45 h39j
          )
        )
      ) else (
      if a2 = 6 then (
        jn (fun (h309j : hp) => (
          jn (fun (h324j : hp) => (
            if s39_0 = 0 then (
              if v3 = 3 then (
                some (0, h324j)
              ) else (
                some (2, h324j)
              )
            ) else (
              some (0, h324j)
            )
            : Option (Int32 × hp))) fun k324 =>
          if v3 = 3 then (
            (ckT h309j a0 13).bind fun _ =>
            bd2 (fX14_figures a0 a1 h309j) fun v52 h53 =>
            (ckT h53 a0 13).bind fun _ =>
            (fX14_isInt a0 a1 v52 h53).bind fun h56 =>
            k324 h56
          ) else (
            k324 h309j
          )
          : Option (Int32 × hp))) fun k309 =>
        if v3 = 2 then (
          (gfR h39j a0 13 4).bind fun v58 =>
          (alF h39j v58 a1).bind fun v60 =>
          (ckT h39j a0 13).bind fun _ =>
          (fX14_isInt a0 a1 (FP.f2i v60) h39j).bind fun h63 =>
          k309 h63
        ) else (
          k309 h39j
        )
      ) else (
      if a2 = 7 then (
        jn (fun (h357j : hp) => (
          if s39_0 = 0 then (
            some (2, h357j)
          ) else (
            some (0, h357j)
          )
          : Option (Int32 × hp))) fun k357 =>
        if v3 = 1 then (
          (gfR h39j a0 13 1).bind fun v65 =>
          (alI h39j v65 a1).bind fun v67 =>
          (ckT h39j a0 13).bind fun _ =>
          (fX14_isReal a0 a1 (FP.i2f v67) h39j).bind fun h70 =>
          k357 h70
        ) else (
          k357 h39j
        )
      ) else (
      if a2 = 8 then (
        jn (fun (h408j : hp) => (
          if s39_0 = 0 then (
            some (2, h408j)
          ) else (
            some (0, h408j)
          )
          : Option (Int32 × hp))) fun k408 =>
        if s39_0 = 0 then (
          k408 h39j
        ) else (
          jn (fun (s405_0 : Int32) (h405j : hp) => (
            (ckT h405j a0 13).bind fun _ =>
            (fX14_isInt a0 a1 s405_0 h405j).bind fun h73 =>
            k408 h73
            : Option (Int32 × hp))) fun k405 =>
          if v3 = 2 then (
            (gfR h39j a0 13 4).bind fun v82 =>
            (alF h39j v82 a1).bind fun v84 =>
            bd2 (fJxf58ca_floatToIntBits_5c35a v84 h39j) fun v87 h88 =>
            (dvI v87 4096).bind fun v89 =>
            k405 v89 h88
          ) else (
            (gfR h39j a0 13 1).bind fun v75 =>
            (alI h39j v75 a1).bind fun v77 =>
            bd2 (fX14_bitsOf v77 h39j) fun v80 h81 =>
            k405 v80 h81
          )
        )
      ) else (
      if a2 = 9 then (
        jn (fun (h430j : hp) => (
          if s22_0 = 0 then (
            some (2, h430j)
          ) else (
            some (0, h430j)
          )
          : Option (Int32 × hp))) fun k430 =>
        if s22_0 = 0 then (
          k430 h39j
        ) else (
          (ckT h39j a0 13).bind fun _ =>
          (fX14_ends a0 a1 0 h39j).bind fun h92 =>
          k430 h92
        )
      ) else (
      if a2 = 10 then (
        jn (fun (h459j : hp) => (
          if s22_0 = 0 then (
            some (2, h459j)
          ) else (
            some (0, h459j)
          )
          : Option (Int32 × hp))) fun k459 =>
        if s22_0 = 0 then (
          k459 h39j
        ) else (
          (gfR h39j a0 13 2).bind fun v94 =>
          (alI h39j v94 a1).bind fun v96 =>
          (ckT h39j a0 13).bind fun _ =>
          (fX14_ends a0 a1 (v96 - 1) h39j).bind fun h99 =>
          k459 h99
        )
      ) else (
      if a2 = 11 then (
        if v3 = 4 then (
          (ckT h39j a0 13).bind fun _ =>
          bd2 (fX14_sums a0 a1 h39j) fun v102 h103 =>
          some (v102, h103)
        ) else (
          some (2, h39j)
        )
      ) else (
        jn (fun (h495j : hp) => (
          if v3 = 4 then (
            some (0, h495j)
          ) else (
            some (2, h495j)
          )
          : Option (Int32 × hp))) fun k495 =>
        if v3 = 4 then (
          (ckT h39j a0 13).bind fun _ =>
          (fX14_sorts a0 a1 h39j).bind fun h106 =>
          k495 h106
        ) else (
          k495 h39j
        )
      ))))))))))))
      : Option (Int32 × hp))) fun k39 =>
    jn (fun (h34j : hp) => (
      k39 1 h34j
      : Option (Int32 × hp))) fun k34 =>
    if v3 = 1 then (
      k34 h22j
    ) else (
      if v3 = 2 then (
        k34 h22j
      ) else (
        k39 0 h22j
      )
    )
    : Option (Int32 × hp))) fun k22 =>
  jn (fun (h17j : hp) => (
    k22 1 h17j
    : Option (Int32 × hp))) fun k17 =>
  if v3 = 3 then (
    k17 h
  ) else (
    if v3 = 4 then (
      k17 h
    ) else (
      k22 0 h
    )
  )
set_option maxHeartbeats 4000000 in
set_option maxRecDepth 100000 in
theorem sX14_plain (E : gE) (D : Nat) (hD : 3 ≤ D) {a0 : Nat} {a1 : Int32} {a2 : Int32} {h hz : hp} {v0 : Int32} (hf : fX14_plain a0 a1 a2 h = some (v0, hz)) : MC E yX14_plain cX14_plain (Option.some Jvm.ClassFile.FieldType.int) 6 D [.ref a0, .int a1, .int a2] h (some (.int v0)) hz := by
  refine MC.of (by decide +kernel) (Nat.le_of_ble_eq_true rfl) rfl ?_
  unfold fX14_plain at hf
  show AW E yX14_plain cX14_plain (Option.some Jvm.ClassFile.FieldType.int) 6 D (some (.int v0)) h hz 0 [(0, .ref a0), (1, .int a1), (2, .int a2)] [] h
  refine a_aload_n (q := 0) dX14_plain_0 rfl rfl ?_
  obtain ⟨v1, e2, hf⟩ := obd hf
  refine o_gfR dX14_plain_1 lk_X14_11 rfl e2 ?_
  refine a_iload_n (q := 1) dX14_plain_4 rfl rfl ?_
  obtain ⟨v3, e4, hf⟩ := obd hf
  refine o_alI dX14_plain_5 e4 ?_
  refine a_istore_n (lv1 := [(3, .int v3), (0, .ref a0), (1, .int a1), (2, .int a2)]) dX14_plain_6 rfl (by decide) rfl ?_
  refine a_iload_n (q := 0) dX14_plain_7 rfl rfl ?_
  refine a_iconst (v := 3) dX14_plain_8 (by decide) ?_
  obtain ⟨k22, ek22, hf⟩ := jn_s hf
  have hj22 : ∀ (s22_0 : Int32) (h22j : hp), k22 s22_0 h22j = some (v0, hz) → AW E yX14_plain cX14_plain (Option.some Jvm.ClassFile.FieldType.int) 6 D (some (.int v0)) h hz 22 [(0, .ref a0), (1, .int a1), (2, .int a2), (3, .int v3)] [.int s22_0] h22j := by
    intro s22_0 h22j hf
    rw [ek22] at hf
    clear ek22
    refine a_istore (lv1 := [(4, .int s22_0), (0, .ref a0), (1, .int a1), (2, .int a2), (3, .int v3)]) dX14_plain_22 (by decide) rfl ?_
    refine a_iload_n (q := 4) dX14_plain_24 rfl rfl ?_
    refine a_iconst (v := 1) dX14_plain_25 (by decide) ?_
    obtain ⟨k39, ek39, hf⟩ := jn_s hf
    have hj39 : ∀ (s39_0 : Int32) (h39j : hp), k39 s39_0 h39j = some (v0, hz) → AW E yX14_plain cX14_plain (Option.some Jvm.ClassFile.FieldType.int) 6 D (some (.int v0)) h hz 39 [(0, .ref a0), (1, .int a1), (2, .int a2), (3, .int v3), (4, .int s22_0)] [.int s39_0] h39j := by
      intro s39_0 h39j hf
      rw [ek39] at hf
      clear ek39
      refine a_istore (lv1 := [(5, .int s39_0), (0, .ref a0), (1, .int a1), (2, .int a2), (3, .int v3), (4, .int s22_0)]) dX14_plain_39 (by decide) rfl ?_
      refine a_iload_n (q := 3) dX14_plain_41 rfl rfl ?_
      by_cases c42_0 : a2 = 0
      · have hf := ifp c42_0 hf
        refine a_tblIn (k := 0) (off := 62) (tgt := 104) dX14_plain_42 c42_0 (by decide) (by decide) rfl (by decide) ?_
        refine a_iload_n (q := 4) dX14_plain_104 rfl rfl ?_
        refine a_iconst (v := 3) dX14_plain_105 (by decide) ?_
        obtain ⟨k118, ek118, hf⟩ := jn_s hf
        have hj118 : ∀ (h118j : hp), k118 h118j = some (v0, hz) → AW E yX14_plain cX14_plain (Option.some Jvm.ClassFile.FieldType.int) 6 D (some (.int v0)) h hz 118 [(3, .int v3)] [] h118j := by
          intro h118j hf
          rw [ek118] at hf
          clear ek118
          refine a_iload_n (q := 0) dX14_plain_118 rfl rfl ?_
          refine a_iconst (v := 3) dX14_plain_119 (by decide) ?_
          refine a_icmp_ne (tgt := 127) dX14_plain_120 (by decide) (fun c => ?_) (fun c => ?_)
          · have hf := ifn c hf
            refine a_iconst (v := 2) dX14_plain_127 (by decide) ?_
            obtain ⟨rfl, rfl⟩ := oc2 hf
            exact a_ireturn dX14_plain_128 rfl
          · have hf := ifp c hf
            refine a_iconst (v := 0) dX14_plain_123 (by decide) ?_
            refine a_goto (tgt := 128) dX14_plain_124 (by decide) ?_
            obtain ⟨rfl, rfl⟩ := oc2 hf
            exact a_ireturn dX14_plain_128 rfl
        clear ek118
        refine a_icmp_ne (tgt := 118) dX14_plain_106 (by decide) (fun c => ?_) (fun c => ?_)
        · have hf := ifn c hf
          exact AW.sub [4] rfl (hj118 _ hf)
        · have hf := ifp c hf
          refine a_aload_n (q := 1) dX14_plain_109 rfl rfl ?_
          refine a_iload_n (q := 2) dX14_plain_110 rfl rfl ?_
          refine a_bipush (v := 97) dX14_plain_111 (by decide) ?_
          refine a_bipush (v := (-32)) dX14_plain_113 (by decide) ?_
          obtain ⟨_, e7, hf⟩ := obd hf
          obtain ⟨h6, e5, hf⟩ := obd hf
          refine a_callV (as := [.int a1, .int 97, .int (-32)]) (np := 3) (ci := 13) (st := []) (sX14_cases E (D - 1) (by omega) e5) dX14_plain_115 rfl (by omega) (by decide) cw_X14_185 ⟨wd_1531, ws_104⟩ rfl (ckT_s e7) rfl (Nat.le_of_ble_eq_true rfl) ?_
          exact AW.sub [4] rfl (hj118 _ hf)
      have hf := ifn c42_0 hf
      by_cases c42_1 : a2 = 1
      · have hf := ifp c42_1 hf
        refine a_tblIn (k := 1) (off := 87) (tgt := 129) dX14_plain_42 c42_1 (by decide) (by decide) rfl (by decide) ?_
        refine a_iload_n (q := 4) dX14_plain_129 rfl rfl ?_
        refine a_iconst (v := 3) dX14_plain_130 (by decide) ?_
        obtain ⟨k143, ek143, hf⟩ := jn_s hf
        have hj143 : ∀ (h143j : hp), k143 h143j = some (v0, hz) → AW E yX14_plain cX14_plain (Option.some Jvm.ClassFile.FieldType.int) 6 D (some (.int v0)) h hz 143 [(3, .int v3)] [] h143j := by
          intro h143j hf
          rw [ek143] at hf
          clear ek143
          refine a_iload_n (q := 0) dX14_plain_143 rfl rfl ?_
          refine a_iconst (v := 3) dX14_plain_144 (by decide) ?_
          refine a_icmp_ne (tgt := 152) dX14_plain_145 (by decide) (fun c => ?_) (fun c => ?_)
          · have hf := ifn c hf
            refine a_iconst (v := 2) dX14_plain_152 (by decide) ?_
            obtain ⟨rfl, rfl⟩ := oc2 hf
            exact a_ireturn dX14_plain_153 rfl
          · have hf := ifp c hf
            refine a_iconst (v := 0) dX14_plain_148 (by decide) ?_
            refine a_goto (tgt := 153) dX14_plain_149 (by decide) ?_
            obtain ⟨rfl, rfl⟩ := oc2 hf
            exact a_ireturn dX14_plain_153 rfl
        clear ek143
        refine a_icmp_ne (tgt := 143) dX14_plain_131 (by decide) (fun c => ?_) (fun c => ?_)
        · have hf := ifn c hf
          exact AW.sub [4] rfl (hj143 _ hf)
        · have hf := ifp c hf
          refine a_aload_n (q := 1) dX14_plain_134 rfl rfl ?_
          refine a_iload_n (q := 2) dX14_plain_135 rfl rfl ?_
          refine a_bipush (v := 65) dX14_plain_136 (by decide) ?_
          refine a_bipush (v := 32) dX14_plain_138 (by decide) ?_
          obtain ⟨_, e10, hf⟩ := obd hf
          obtain ⟨h9, e8, hf⟩ := obd hf
          refine a_callV (as := [.int a1, .int 65, .int 32]) (np := 3) (ci := 13) (st := []) (sX14_cases E (D - 1) (by omega) e8) dX14_plain_140 rfl (by omega) (by decide) cw_X14_185 ⟨wd_1531, ws_104⟩ rfl (ckT_s e10) rfl (Nat.le_of_ble_eq_true rfl) ?_
          exact AW.sub [4] rfl (hj143 _ hf)
      have hf := ifn c42_1 hf
      by_cases c42_2 : a2 = 2
      · have hf := ifp c42_2 hf
        refine a_tblIn (k := 2) (off := 112) (tgt := 154) dX14_plain_42 c42_2 (by decide) (by decide) rfl (by decide) ?_
        refine a_iload (q := 5) dX14_plain_154 rfl ?_
        obtain ⟨k164, ek164, hf⟩ := jn_s hf
        have hj164 : ∀ (h164j : hp), k164 h164j = some (v0, hz) → AW E yX14_plain cX14_plain (Option.some Jvm.ClassFile.FieldType.int) 6 D (some (.int v0)) h hz 164 [(4, .int s22_0)] [] h164j := by
          intro h164j hf
          rw [ek164] at hf
          clear ek164
          refine a_iload (q := 0) dX14_plain_164 rfl ?_
          refine a_if_eq (tgt := 173) dX14_plain_166 (by decide) (fun c => ?_) (fun c => ?_)
          · have hf := ifp c hf
            refine a_iconst (v := 2) dX14_plain_173 (by decide) ?_
            obtain ⟨rfl, rfl⟩ := oc2 hf
            exact a_ireturn dX14_plain_174 rfl
          · have hf := ifn c hf
            refine a_iconst (v := 0) dX14_plain_169 (by decide) ?_
            refine a_goto (tgt := 174) dX14_plain_170 (by decide) ?_
            obtain ⟨rfl, rfl⟩ := oc2 hf
            exact a_ireturn dX14_plain_174 rfl
        clear ek164
        refine a_if_eq (tgt := 164) dX14_plain_156 (by decide) (fun c => ?_) (fun c => ?_)
        · have hf := ifp c hf
          exact AW.sub [5] rfl (hj164 _ hf)
        · have hf := ifn c hf
          refine a_aload_n (q := 1) dX14_plain_159 rfl rfl ?_
          refine a_iload_n (q := 2) dX14_plain_160 rfl rfl ?_
          obtain ⟨_, e13, hf⟩ := obd hf
          obtain ⟨h12, e11, hf⟩ := obd hf
          refine a_callV (as := [.int a1]) (np := 1) (ci := 13) (st := []) (sX14_turnsAbout E (D - 1) (by omega) e11) dX14_plain_161 rfl (by omega) (by decide) cw_X14_189 ⟨wd_1538, ws_105⟩ rfl (ckT_s e13) rfl (Nat.le_of_ble_eq_true rfl) ?_
          exact AW.sub [5] rfl (hj164 _ hf)
      have hf := ifn c42_2 hf
      by_cases c42_3 : a2 = 3
      · have hf := ifp c42_3 hf
        refine a_tblIn (k := 3) (off := 133) (tgt := 175) dX14_plain_42 c42_3 (by decide) (by decide) rfl (by decide) ?_
        refine a_iload (q := 5) dX14_plain_175 rfl ?_
        obtain ⟨k191, ek191, hf⟩ := jn_s hf
        have hj191 : ∀ (h191j : hp), k191 h191j = some (v0, hz) → AW E yX14_plain cX14_plain (Option.some Jvm.ClassFile.FieldType.int) 6 D (some (.int v0)) h hz 191 [(4, .int s22_0)] [] h191j := by
          intro h191j hf
          rw [ek191] at hf
          clear ek191
          refine a_iload (q := 0) dX14_plain_191 rfl ?_
          refine a_if_eq (tgt := 200) dX14_plain_193 (by decide) (fun c => ?_) (fun c => ?_)
          · have hf := ifp c hf
            refine a_iconst (v := 2) dX14_plain_200 (by decide) ?_
            obtain ⟨rfl, rfl⟩ := oc2 hf
            exact a_ireturn dX14_plain_201 rfl
          · have hf := ifn c hf
            refine a_iconst (v := 0) dX14_plain_196 (by decide) ?_
            refine a_goto (tgt := 201) dX14_plain_197 (by decide) ?_
            obtain ⟨rfl, rfl⟩ := oc2 hf
            exact a_ireturn dX14_plain_201 rfl
        clear ek191
        refine a_if_eq (tgt := 191) dX14_plain_177 (by decide) (fun c => ?_) (fun c => ?_)
        · have hf := ifp c hf
          exact AW.sub [5] rfl (hj191 _ hf)
        · have hf := ifn c hf
          refine a_aload_n (q := 1) dX14_plain_180 rfl rfl ?_
          refine a_iload_n (q := 2) dX14_plain_181 rfl rfl ?_
          refine a_aload_n (q := 1) dX14_plain_182 rfl rfl ?_
          obtain ⟨v14, e15, hf⟩ := obd hf
          refine o_gfR dX14_plain_183 lk_X14_18 rfl e15 ?_
          refine a_iload_n (q := 2) dX14_plain_186 rfl rfl ?_
          obtain ⟨v16, e17, hf⟩ := obd hf
          refine o_alI dX14_plain_187 e17 ?_
          obtain ⟨_, e20, hf⟩ := obd hf
          obtain ⟨h19, e18, hf⟩ := obd hf
          refine a_callV (as := [.int a1, .int v16]) (np := 2) (ci := 13) (st := []) (sX14_isInt E (D - 1) (by omega) e18) dX14_plain_188 rfl (by omega) (by decide) cw_X14_171 ⟨wd_1515, ws_100⟩ rfl (ckT_s e20) rfl (Nat.le_of_ble_eq_true rfl) ?_
          exact AW.sub [5] rfl (hj191 _ hf)
      have hf := ifn c42_3 hf
      by_cases c42_4 : a2 = 4
      · have hf := ifp c42_4 hf
        refine a_tblIn (k := 4) (off := 160) (tgt := 202) dX14_plain_42 c42_4 (by decide) (by decide) rfl (by decide) ?_
        refine a_iload_n (q := 4) dX14_plain_202 rfl rfl ?_
        refine a_iconst (v := 1) dX14_plain_203 (by decide) ?_
        obtain ⟨k217, ek217, hf⟩ := jn_s hf
        have hj217 : ∀ (h217j : hp), k217 h217j = some (v0, hz) → AW E yX14_plain cX14_plain (Option.some Jvm.ClassFile.FieldType.int) 6 D (some (.int v0)) h hz 217 [(0, .ref a0), (1, .int a1), (3, .int v3), (5, .int s39_0)] [] h217j := by
          intro h217j hf
          rw [ek217] at hf
          clear ek217
          refine a_iload_n (q := 2) dX14_plain_217 rfl rfl ?_
          refine a_iconst (v := 2) dX14_plain_218 (by decide) ?_
          obtain ⟨k236, ek236, hf⟩ := jn_s hf
          have hj236 : ∀ (h236j : hp), k236 h236j = some (v0, hz) → AW E yX14_plain cX14_plain (Option.some Jvm.ClassFile.FieldType.int) 6 D (some (.int v0)) h hz 236 [(5, .int s39_0)] [] h236j := by
            intro h236j hf
            rw [ek236] at hf
            clear ek236
            refine a_iload (q := 0) dX14_plain_236 rfl ?_
            refine a_if_eq (tgt := 245) dX14_plain_238 (by decide) (fun c => ?_) (fun c => ?_)
            · have hf := ifp c hf
              refine a_iconst (v := 2) dX14_plain_245 (by decide) ?_
              obtain ⟨rfl, rfl⟩ := oc2 hf
              exact a_ireturn dX14_plain_246 rfl
            · have hf := ifn c hf
              refine a_iconst (v := 0) dX14_plain_241 (by decide) ?_
              refine a_goto (tgt := 246) dX14_plain_242 (by decide) ?_
              obtain ⟨rfl, rfl⟩ := oc2 hf
              exact a_ireturn dX14_plain_246 rfl
          clear ek236
          refine a_icmp_ne (tgt := 236) dX14_plain_219 (by decide) (fun c => ?_) (fun c => ?_)
          · have hf := ifn c hf
            exact AW.sub [3] rfl (hj236 _ hf)
          · have hf := ifp c hf
            refine a_aload_n (q := 0) dX14_plain_222 rfl rfl ?_
            refine a_iload_n (q := 1) dX14_plain_223 rfl rfl ?_
            refine a_aload_n (q := 0) dX14_plain_224 rfl rfl ?_
            obtain ⟨v21, e22, hf⟩ := obd hf
            refine o_gfR dX14_plain_225 lk_X14_24 rfl e22 ?_
            refine a_iload_n (q := 1) dX14_plain_228 rfl rfl ?_
            obtain ⟨v23, e24, hf⟩ := obd hf
            refine o_alF dX14_plain_229 e24 ?_
            refine a_ldcf (v := 1056964608) dX14_plain_230 wd_1540 ?_
            obtain ⟨v25, e26, hf⟩ := obd hf
            refine o_fmul dX14_plain_232 e26 ?_
            obtain ⟨_, e29, hf⟩ := obd hf
            obtain ⟨h28, e27, hf⟩ := obd hf
            refine a_callV (as := [.int a1, .float v25]) (np := 2) (ci := 13) (st := []) (sX14_isReal E (D - 1) (by omega) e27) dX14_plain_233 rfl (by omega) (by decide) cw_X14_193 ⟨wd_1543, ws_106⟩ rfl (ckT_s e29) rfl (Nat.le_of_ble_eq_true rfl) ?_
            exact AW.sub [3] rfl (hj236 _ hf)
        clear ek217
        refine a_icmp_ne (tgt := 217) dX14_plain_204 (by decide) (fun c => ?_) (fun c => ?_)
        · have hf := ifn c hf
          exact AW.sub [1, 2, 4, 0] rfl (hj217 _ hf)
        · have hf := ifp c hf
          refine a_aload_n (q := 1) dX14_plain_207 rfl rfl ?_
          obtain ⟨v30, e31, hf⟩ := obd hf
          refine o_gfR dX14_plain_208 lk_X14_15 rfl e31 ?_
          refine a_iload_n (q := 2) dX14_plain_211 rfl rfl ?_
          refine a_dup2 dX14_plain_212 rfl rfl ?_
          obtain ⟨v32, e33, hf⟩ := obd hf
          refine o_alI dX14_plain_213 e33 ?_
          refine a_iconst (v := 2) dX14_plain_214 (by decide) ?_
          obtain ⟨v34, e35, hf⟩ := obd hf
          refine o_dvI dX14_plain_215 e35 ?_
          obtain ⟨h36, e37, hf⟩ := obd hf
          refine o_asI dX14_plain_216 e37 ?_
          exact AW.sub [1, 2, 4, 0] rfl (hj217 _ hf)
      have hf := ifn c42_4 hf
      by_cases c42_5 : a2 = 5
      · have hf := ifp c42_5 hf
        refine a_tblIn (k := 5) (off := 205) (tgt := 247) dX14_plain_42 c42_5 (by decide) (by decide) rfl (by decide) ?_
        refine a_iload (q := 0) dX14_plain_247 rfl ?_
        obtain ⟨k281, ek281, hf⟩ := jn_s hf
        have hj281 : ∀ (h281j : hp), k281 h281j = some (v0, hz) → AW E yX14_plain cX14_plain (Option.some Jvm.ClassFile.FieldType.int) 6 D (some (.int v0)) h hz 281 [(5, .int s39_0)] [] h281j := by
          intro h281j hf
          rw [ek281] at hf
          clear ek281
          refine a_iload (q := 0) dX14_plain_281 rfl ?_
          refine a_if_eq (tgt := 290) dX14_plain_283 (by decide) (fun c => ?_) (fun c => ?_)
          · have hf := ifp c hf
            refine a_iconst (v := 2) dX14_plain_290 (by decide) ?_
            obtain ⟨rfl, rfl⟩ := oc2 hf
            exact a_ireturn dX14_plain_291 rfl
          · have hf := ifn c hf
            refine a_iconst (v := 0) dX14_plain_286 (by decide) ?_
            refine a_goto (tgt := 291) dX14_plain_287 (by decide) ?_
            obtain ⟨rfl, rfl⟩ := oc2 hf
            exact a_ireturn dX14_plain_291 rfl
        clear ek281
        refine a_if_eq (tgt := 281) dX14_plain_249 (by decide) (fun c => ?_) (fun c => ?_)
        · have hf := ifp c hf
          exact AW.sub [0] rfl (hj281 _ hf)
        · have hf := ifn c hf
          refine a_aload_n (q := 1) dX14_plain_252 rfl rfl ?_
          refine a_iload_n (q := 2) dX14_plain_253 rfl rfl ?_
          refine a_iload_n (q := 4) dX14_plain_254 rfl rfl ?_
          refine a_iconst (v := 1) dX14_plain_255 (by decide) ?_
          obtain ⟨k275, ek275, hf⟩ := jn_s hf
          have hj275 : ∀ (s275_0 : UInt32) (h275j : hp), k275 s275_0 h275j = some (v0, hz) → AW E yX14_plain cX14_plain (Option.some Jvm.ClassFile.FieldType.int) 6 D (some (.int v0)) h hz 275 [(5, .int s39_0)] [.float s275_0, .int a1, .ref a0] h275j := by
            intro s275_0 h275j hf
            rw [ek275] at hf
            clear ek275
            refine a_ldcf (v := 1077936128) dX14_plain_275 wd_1550 ?_
            obtain ⟨v38, e39, hf⟩ := obd hf
            refine o_fdiv dX14_plain_277 e39 ?_
            obtain ⟨_, e42, hf⟩ := obd hf
            obtain ⟨h41, e40, hf⟩ := obd hf
            refine a_callV (as := [.int a1, .float v38]) (np := 2) (ci := 13) (st := []) (sX14_isReal E (D - 1) (by omega) e40) dX14_plain_278 rfl (by omega) (by decide) cw_X14_193 ⟨wd_1543, ws_106⟩ rfl (ckT_s e42) rfl (Nat.le_of_ble_eq_true rfl) ?_
            exact hj281 _ hf
          clear ek275
          refine a_icmp_ne (tgt := 269) dX14_plain_256 (by decide) (fun c => ?_) (fun c => ?_)
          · have hf := ifn c hf
            refine a_aload_n (q := 1) dX14_plain_269 rfl rfl ?_
            obtain ⟨v43, e44, hf⟩ := obd hf
            refine o_gfR dX14_plain_270 lk_X14_24 rfl e44 ?_
            refine a_iload_n (q := 2) dX14_plain_273 rfl rfl ?_
            obtain ⟨v45, e46, hf⟩ := obd hf
            refine o_alF dX14_plain_274 e46 ?_
            exact AW.sub [0] rfl (hj275 _ _ hf)
          · have hf := ifp c hf
            refine a_aload_n (q := 1) dX14_plain_259 rfl rfl ?_
            obtain ⟨v47, e48, hf⟩ := obd hf
            refine o_gfR dX14_plain_260 lk_X14_15 rfl e48 ?_
            refine a_iload_n (q := 2) dX14_plain_263 rfl rfl ?_
            obtain ⟨v49, e50, hf⟩ := obd hf
            refine o_alI dX14_plain_264 e50 ?_
            refine a_i2f dX14_plain_265 ?_
            refine a_goto (tgt := 275) dX14_plain_266 (by decide) ?_
            exact AW.sub [0] rfl (hj275 _ _ hf)
      have hf := ifn c42_5 hf
      by_cases c42_6 : a2 = 6
      · have hf := ifp c42_6 hf
        refine a_tblIn (k := 6) (off := 250) (tgt := 292) dX14_plain_42 c42_6 (by decide) (by decide) rfl (by decide) ?_
        refine a_iload_n (q := 4) dX14_plain_292 rfl rfl ?_
        refine a_iconst (v := 2) dX14_plain_293 (by decide) ?_
        obtain ⟨k309, ek309, hf⟩ := jn_s hf
        have hj309 : ∀ (h309j : hp), k309 h309j = some (v0, hz) → AW E yX14_plain cX14_plain (Option.some Jvm.ClassFile.FieldType.int) 6 D (some (.int v0)) h hz 309 [(0, .ref a0), (1, .int a1), (3, .int v3), (5, .int s39_0)] [] h309j := by
          intro h309j hf
          rw [ek309] at hf
          clear ek309
          refine a_iload_n (q := 2) dX14_plain_309 rfl rfl ?_
          refine a_iconst (v := 3) dX14_plain_310 (by decide) ?_
          obtain ⟨k324, ek324, hf⟩ := jn_s hf
          have hj324 : ∀ (h324j : hp), k324 h324j = some (v0, hz) → AW E yX14_plain cX14_plain (Option.some Jvm.ClassFile.FieldType.int) 6 D (some (.int v0)) h hz 324 [(3, .int v3), (5, .int s39_0)] [] h324j := by
            intro h324j hf
            rw [ek324] at hf
            clear ek324
            refine a_iload (q := 1) dX14_plain_324 rfl ?_
            refine a_if_ne (tgt := 334) dX14_plain_326 (by decide) (fun c => ?_) (fun c => ?_)
            · have hf := ifn c hf
              refine a_iconst (v := 0) dX14_plain_334 (by decide) ?_
              refine a_goto (tgt := 339) dX14_plain_335 (by decide) ?_
              obtain ⟨rfl, rfl⟩ := oc2 hf
              exact a_ireturn dX14_plain_339 rfl
            · have hf := ifp c hf
              refine a_iload_n (q := 0) dX14_plain_329 rfl rfl ?_
              refine a_iconst (v := 3) dX14_plain_330 (by decide) ?_
              refine a_icmp_ne (tgt := 338) dX14_plain_331 (by decide) (fun c => ?_) (fun c => ?_)
              · have hf := ifn c hf
                refine a_iconst (v := 2) dX14_plain_338 (by decide) ?_
                obtain ⟨rfl, rfl⟩ := oc2 hf
                exact a_ireturn dX14_plain_339 rfl
              · have hf := ifp c hf
                refine a_iconst (v := 0) dX14_plain_334 (by decide) ?_
                refine a_goto (tgt := 339) dX14_plain_335 (by decide) ?_
                obtain ⟨rfl, rfl⟩ := oc2 hf
                exact a_ireturn dX14_plain_339 rfl
          clear ek324
          refine a_icmp_ne (tgt := 324) dX14_plain_311 (by decide) (fun c => ?_) (fun c => ?_)
          · have hf := ifn c hf
            exact AW.sub [2, 3] rfl (hj324 _ hf)
          · have hf := ifp c hf
            refine a_aload_n (q := 0) dX14_plain_314 rfl rfl ?_
            refine a_iload_n (q := 1) dX14_plain_315 rfl rfl ?_
            refine a_aload_n (q := 0) dX14_plain_316 rfl rfl ?_
            refine a_iload_n (q := 1) dX14_plain_317 rfl rfl ?_
            obtain ⟨_, e54, hf⟩ := obd hf
            obtain ⟨v52, h53, e51, hf⟩ := ob2 hf
            refine a_callV (as := [.int a1]) (np := 1) (ci := 13) (st := [.int a1, .ref a0]) (sX14_figures E (D - 1) (by omega) e51) dX14_plain_318 rfl (by omega) (by decide) cw_X14_198 ⟨wd_1553, ws_107⟩ rfl (ckT_s e54) rfl (Nat.le_of_ble_eq_true rfl) ?_
            obtain ⟨_, e57, hf⟩ := obd hf
            obtain ⟨h56, e55, hf⟩ := obd hf
            refine a_callV (as := [.int a1, .int v52]) (np := 2) (ci := 13) (st := []) (sX14_isInt E (D - 1) (by omega) e55) dX14_plain_321 rfl (by omega) (by decide) cw_X14_171 ⟨wd_1515, ws_100⟩ rfl (ckT_s e57) rfl (Nat.le_of_ble_eq_true rfl) ?_
            exact AW.sub [2, 3] rfl (hj324 _ hf)
        clear ek309
        refine a_icmp_ne (tgt := 309) dX14_plain_294 (by decide) (fun c => ?_) (fun c => ?_)
        · have hf := ifn c hf
          exact AW.sub [1, 2, 4, 0] rfl (hj309 _ hf)
        · have hf := ifp c hf
          refine a_aload_n (q := 1) dX14_plain_297 rfl rfl ?_
          refine a_iload_n (q := 2) dX14_plain_298 rfl rfl ?_
          refine a_aload_n (q := 1) dX14_plain_299 rfl rfl ?_
          obtain ⟨v58, e59, hf⟩ := obd hf
          refine o_gfR dX14_plain_300 lk_X14_24 rfl e59 ?_
          refine a_iload_n (q := 2) dX14_plain_303 rfl rfl ?_
          obtain ⟨v60, e61, hf⟩ := obd hf
          refine o_alF dX14_plain_304 e61 ?_
          refine a_f2i dX14_plain_305 ?_
          obtain ⟨_, e64, hf⟩ := obd hf
          obtain ⟨h63, e62, hf⟩ := obd hf
          refine a_callV (as := [.int a1, .int (FP.f2i v60)]) (np := 2) (ci := 13) (st := []) (sX14_isInt E (D - 1) (by omega) e62) dX14_plain_306 rfl (by omega) (by decide) cw_X14_171 ⟨wd_1515, ws_100⟩ rfl (ckT_s e64) rfl (Nat.le_of_ble_eq_true rfl) ?_
          exact AW.sub [1, 2, 4, 0] rfl (hj309 _ hf)
      have hf := ifn c42_6 hf
      by_cases c42_7 : a2 = 7
      · have hf := ifp c42_7 hf
        refine a_tblIn (k := 7) (off := 298) (tgt := 340) dX14_plain_42 c42_7 (by decide) (by decide) rfl (by decide) ?_
        refine a_iload_n (q := 4) dX14_plain_340 rfl rfl ?_
        refine a_iconst (v := 1) dX14_plain_341 (by decide) ?_
        obtain ⟨k357, ek357, hf⟩ := jn_s hf
        have hj357 : ∀ (h357j : hp), k357 h357j = some (v0, hz) → AW E yX14_plain cX14_plain (Option.some Jvm.ClassFile.FieldType.int) 6 D (some (.int v0)) h hz 357 [(5, .int s39_0)] [] h357j := by
          intro h357j hf
          rw [ek357] at hf
          clear ek357
          refine a_iload (q := 0) dX14_plain_357 rfl ?_
          refine a_if_eq (tgt := 366) dX14_plain_359 (by decide) (fun c => ?_) (fun c => ?_)
          · have hf := ifp c hf
            refine a_iconst (v := 2) dX14_plain_366 (by decide) ?_
            obtain ⟨rfl, rfl⟩ := oc2 hf
            exact a_ireturn dX14_plain_367 rfl
          · have hf := ifn c hf
            refine a_iconst (v := 0) dX14_plain_362 (by decide) ?_
            refine a_goto (tgt := 367) dX14_plain_363 (by decide) ?_
            obtain ⟨rfl, rfl⟩ := oc2 hf
            exact a_ireturn dX14_plain_367 rfl
        clear ek357
        refine a_icmp_ne (tgt := 357) dX14_plain_342 (by decide) (fun c => ?_) (fun c => ?_)
        · have hf := ifn c hf
          exact AW.sub [0] rfl (hj357 _ hf)
        · have hf := ifp c hf
          refine a_aload_n (q := 1) dX14_plain_345 rfl rfl ?_
          refine a_iload_n (q := 2) dX14_plain_346 rfl rfl ?_
          refine a_aload_n (q := 1) dX14_plain_347 rfl rfl ?_
          obtain ⟨v65, e66, hf⟩ := obd hf
          refine o_gfR dX14_plain_348 lk_X14_15 rfl e66 ?_
          refine a_iload_n (q := 2) dX14_plain_351 rfl rfl ?_
          obtain ⟨v67, e68, hf⟩ := obd hf
          refine o_alI dX14_plain_352 e68 ?_
          refine a_i2f dX14_plain_353 ?_
          obtain ⟨_, e71, hf⟩ := obd hf
          obtain ⟨h70, e69, hf⟩ := obd hf
          refine a_callV (as := [.int a1, .float (FP.i2f v67)]) (np := 2) (ci := 13) (st := []) (sX14_isReal E (D - 1) (by omega) e69) dX14_plain_354 rfl (by omega) (by decide) cw_X14_193 ⟨wd_1543, ws_106⟩ rfl (ckT_s e71) rfl (Nat.le_of_ble_eq_true rfl) ?_
          exact AW.sub [0] rfl (hj357 _ hf)
      have hf := ifn c42_7 hf
      by_cases c42_8 : a2 = 8
      · have hf := ifp c42_8 hf
        refine a_tblIn (k := 8) (off := 326) (tgt := 368) dX14_plain_42 c42_8 (by decide) (by decide) rfl (by decide) ?_
        refine a_iload (q := 0) dX14_plain_368 rfl ?_
        obtain ⟨k408, ek408, hf⟩ := jn_s hf
        have hj408 : ∀ (h408j : hp), k408 h408j = some (v0, hz) → AW E yX14_plain cX14_plain (Option.some Jvm.ClassFile.FieldType.int) 6 D (some (.int v0)) h hz 408 [(5, .int s39_0)] [] h408j := by
          intro h408j hf
          rw [ek408] at hf
          clear ek408
          refine a_iload (q := 0) dX14_plain_408 rfl ?_
          refine a_if_eq (tgt := 417) dX14_plain_410 (by decide) (fun c => ?_) (fun c => ?_)
          · have hf := ifp c hf
            refine a_iconst (v := 2) dX14_plain_417 (by decide) ?_
            obtain ⟨rfl, rfl⟩ := oc2 hf
            exact a_ireturn dX14_plain_418 rfl
          · have hf := ifn c hf
            refine a_iconst (v := 0) dX14_plain_413 (by decide) ?_
            refine a_goto (tgt := 418) dX14_plain_414 (by decide) ?_
            obtain ⟨rfl, rfl⟩ := oc2 hf
            exact a_ireturn dX14_plain_418 rfl
        clear ek408
        refine a_if_eq (tgt := 408) dX14_plain_370 (by decide) (fun c => ?_) (fun c => ?_)
        · have hf := ifp c hf
          exact AW.sub [0] rfl (hj408 _ hf)
        · have hf := ifn c hf
          refine a_aload_n (q := 1) dX14_plain_373 rfl rfl ?_
          refine a_iload_n (q := 2) dX14_plain_374 rfl rfl ?_
          refine a_iload_n (q := 4) dX14_plain_375 rfl rfl ?_
          refine a_iconst (v := 2) dX14_plain_376 (by decide) ?_
          obtain ⟨k405, ek405, hf⟩ := jn_s hf
          have hj405 : ∀ (s405_0 : Int32) (h405j : hp), k405 s405_0 h405j = some (v0, hz) → AW E yX14_plain cX14_plain (Option.some Jvm.ClassFile.FieldType.int) 6 D (some (.int v0)) h hz 405 [(5, .int s39_0)] [.int s405_0, .int a1, .ref a0] h405j := by
            intro s405_0 h405j hf
            rw [ek405] at hf
            clear ek405
            obtain ⟨_, e74, hf⟩ := obd hf
            obtain ⟨h73, e72, hf⟩ := obd hf
            refine a_callV (as := [.int a1, .int s405_0]) (np := 2) (ci := 13) (st := []) (sX14_isInt E (D - 1) (by omega) e72) dX14_plain_405 rfl (by omega) (by decide) cw_X14_171 ⟨wd_1515, ws_100⟩ rfl (ckT_s e74) rfl (Nat.le_of_ble_eq_true rfl) ?_
            exact hj408 _ hf
          clear ek405
          refine a_icmp_ne (tgt := 396) dX14_plain_377 (by decide) (fun c => ?_) (fun c => ?_)
          · have hf := ifn c hf
            refine a_aload_n (q := 1) dX14_plain_396 rfl rfl ?_
            obtain ⟨v75, e76, hf⟩ := obd hf
            refine o_gfR dX14_plain_397 lk_X14_15 rfl e76 ?_
            refine a_iload_n (q := 2) dX14_plain_400 rfl rfl ?_
            obtain ⟨v77, e78, hf⟩ := obd hf
            refine o_alI dX14_plain_401 e78 ?_
            obtain ⟨v80, h81, e79, hf⟩ := ob2 hf
            refine a_callS (as := [.int v77]) (np := 1) (st := [.int a1, .ref a0]) (sX14_bitsOf E (D - 1) (by omega) e79) dX14_plain_402 rfl (by omega) (by decide) cw_X14_208 wd_1566 rfl (Nat.le_of_ble_eq_true rfl) ?_
            exact AW.sub [0] rfl (hj405 _ _ hf)
          · have hf := ifp c hf
            refine a_aload_n (q := 1) dX14_plain_380 rfl rfl ?_
            obtain ⟨v82, e83, hf⟩ := obd hf
            refine o_gfR dX14_plain_381 lk_X14_24 rfl e83 ?_
            refine a_iload_n (q := 2) dX14_plain_384 rfl rfl ?_
            obtain ⟨v84, e85, hf⟩ := obd hf
            refine o_alF dX14_plain_385 e85 ?_
            obtain ⟨v87, h88, e86, hf⟩ := ob2 hf
            refine a_callS (as := [.float v84]) (np := 1) (st := [.int a1, .ref a0]) (sJxf58ca_floatToIntBits_5c35a E (D - 1) (by omega) e86) dX14_plain_386 rfl (by omega) (by decide) cw_X14_202 wd_1556 rfl (Nat.le_of_ble_eq_true rfl) ?_
            refine a_sipush (v := 4096) dX14_plain_389 (by decide) ?_
            obtain ⟨v89, e90, hf⟩ := obd hf
            refine o_dvI dX14_plain_392 e90 ?_
            refine a_goto (tgt := 405) dX14_plain_393 (by decide) ?_
            exact AW.sub [0] rfl (hj405 _ _ hf)
      have hf := ifn c42_8 hf
      by_cases c42_9 : a2 = 9
      · have hf := ifp c42_9 hf
        refine a_tblIn (k := 9) (off := 377) (tgt := 419) dX14_plain_42 c42_9 (by decide) (by decide) rfl (by decide) ?_
        refine a_iload (q := 5) dX14_plain_419 rfl ?_
        obtain ⟨k430, ek430, hf⟩ := jn_s hf
        have hj430 : ∀ (h430j : hp), k430 h430j = some (v0, hz) → AW E yX14_plain cX14_plain (Option.some Jvm.ClassFile.FieldType.int) 6 D (some (.int v0)) h hz 430 [(4, .int s22_0)] [] h430j := by
          intro h430j hf
          rw [ek430] at hf
          clear ek430
          refine a_iload (q := 0) dX14_plain_430 rfl ?_
          refine a_if_eq (tgt := 439) dX14_plain_432 (by decide) (fun c => ?_) (fun c => ?_)
          · have hf := ifp c hf
            refine a_iconst (v := 2) dX14_plain_439 (by decide) ?_
            obtain ⟨rfl, rfl⟩ := oc2 hf
            exact a_ireturn dX14_plain_440 rfl
          · have hf := ifn c hf
            refine a_iconst (v := 0) dX14_plain_435 (by decide) ?_
            refine a_goto (tgt := 440) dX14_plain_436 (by decide) ?_
            obtain ⟨rfl, rfl⟩ := oc2 hf
            exact a_ireturn dX14_plain_440 rfl
        clear ek430
        refine a_if_eq (tgt := 430) dX14_plain_421 (by decide) (fun c => ?_) (fun c => ?_)
        · have hf := ifp c hf
          exact AW.sub [5] rfl (hj430 _ hf)
        · have hf := ifn c hf
          refine a_aload_n (q := 1) dX14_plain_424 rfl rfl ?_
          refine a_iload_n (q := 2) dX14_plain_425 rfl rfl ?_
          refine a_iconst (v := 0) dX14_plain_426 (by decide) ?_
          obtain ⟨_, e93, hf⟩ := obd hf
          obtain ⟨h92, e91, hf⟩ := obd hf
          refine a_callV (as := [.int a1, .int 0]) (np := 2) (ci := 13) (st := []) (sX14_ends E (D - 1) (by omega) e91) dX14_plain_427 rfl (by omega) (by decide) cw_X14_211 ⟨wd_1580, ws_108⟩ rfl (ckT_s e93) rfl (Nat.le_of_ble_eq_true rfl) ?_
          exact AW.sub [5] rfl (hj430 _ hf)
      have hf := ifn c42_9 hf
      by_cases c42_10 : a2 = 10
      · have hf := ifp c42_10 hf
        refine a_tblIn (k := 10) (off := 399) (tgt := 441) dX14_plain_42 c42_10 (by decide) (by decide) rfl (by decide) ?_
        refine a_iload (q := 5) dX14_plain_441 rfl ?_
        obtain ⟨k459, ek459, hf⟩ := jn_s hf
        have hj459 : ∀ (h459j : hp), k459 h459j = some (v0, hz) → AW E yX14_plain cX14_plain (Option.some Jvm.ClassFile.FieldType.int) 6 D (some (.int v0)) h hz 459 [(4, .int s22_0)] [] h459j := by
          intro h459j hf
          rw [ek459] at hf
          clear ek459
          refine a_iload (q := 0) dX14_plain_459 rfl ?_
          refine a_if_eq (tgt := 468) dX14_plain_461 (by decide) (fun c => ?_) (fun c => ?_)
          · have hf := ifp c hf
            refine a_iconst (v := 2) dX14_plain_468 (by decide) ?_
            obtain ⟨rfl, rfl⟩ := oc2 hf
            exact a_ireturn dX14_plain_469 rfl
          · have hf := ifn c hf
            refine a_iconst (v := 0) dX14_plain_464 (by decide) ?_
            refine a_goto (tgt := 469) dX14_plain_465 (by decide) ?_
            obtain ⟨rfl, rfl⟩ := oc2 hf
            exact a_ireturn dX14_plain_469 rfl
        clear ek459
        refine a_if_eq (tgt := 459) dX14_plain_443 (by decide) (fun c => ?_) (fun c => ?_)
        · have hf := ifp c hf
          exact AW.sub [5] rfl (hj459 _ hf)
        · have hf := ifn c hf
          refine a_aload_n (q := 1) dX14_plain_446 rfl rfl ?_
          refine a_iload_n (q := 2) dX14_plain_447 rfl rfl ?_
          refine a_aload_n (q := 1) dX14_plain_448 rfl rfl ?_
          obtain ⟨v94, e95, hf⟩ := obd hf
          refine o_gfR dX14_plain_449 lk_X14_18 rfl e95 ?_
          refine a_iload_n (q := 2) dX14_plain_452 rfl rfl ?_
          obtain ⟨v96, e97, hf⟩ := obd hf
          refine o_alI dX14_plain_453 e97 ?_
          refine a_iconst (v := 1) dX14_plain_454 (by decide) ?_
          refine a_isub dX14_plain_455 ?_
          obtain ⟨_, e100, hf⟩ := obd hf
          obtain ⟨h99, e98, hf⟩ := obd hf
          refine a_callV (as := [.int a1, .int (v96 - 1)]) (np := 2) (ci := 13) (st := []) (sX14_ends E (D - 1) (by omega) e98) dX14_plain_456 rfl (by omega) (by decide) cw_X14_211 ⟨wd_1580, ws_108⟩ rfl (ckT_s e100) rfl (Nat.le_of_ble_eq_true rfl) ?_
          exact AW.sub [5] rfl (hj459 _ hf)
      have hf := ifn c42_10 hf
      by_cases c42_11 : a2 = 11
      · have hf := ifp c42_11 hf
        refine a_tblIn (k := 11) (off := 428) (tgt := 470) dX14_plain_42 c42_11 (by decide) (by decide) rfl (by decide) ?_
        refine a_iload_n (q := 4) dX14_plain_470 rfl rfl ?_
        refine a_iconst (v := 4) dX14_plain_471 (by decide) ?_
        refine a_icmp_ne (tgt := 483) dX14_plain_472 (by decide) (fun c => ?_) (fun c => ?_)
        · have hf := ifn c hf
          refine a_iconst (v := 2) dX14_plain_483 (by decide) ?_
          obtain ⟨rfl, rfl⟩ := oc2 hf
          exact a_ireturn dX14_plain_484 rfl
        · have hf := ifp c hf
          refine a_aload_n (q := 1) dX14_plain_475 rfl rfl ?_
          refine a_iload_n (q := 2) dX14_plain_476 rfl rfl ?_
          obtain ⟨_, e104, hf⟩ := obd hf
          obtain ⟨v102, h103, e101, hf⟩ := ob2 hf
          refine a_callV (as := [.int a1]) (np := 1) (ci := 13) (st := []) (sX14_sums E (D - 1) (by omega) e101) dX14_plain_477 rfl (by omega) (by decide) cw_X14_214 ⟨wd_1584, ws_109⟩ rfl (ckT_s e104) rfl (Nat.le_of_ble_eq_true rfl) ?_
          refine a_goto (tgt := 484) dX14_plain_480 (by decide) ?_
          obtain ⟨rfl, rfl⟩ := oc2 hf
          exact a_ireturn dX14_plain_484 rfl
      have hf := ifn c42_11 hf
      have t42_0 := lv_neT (a := 0) c42_0 rfl
      have t42_1 := lv_neT (a := 1) c42_1 rfl
      have t42_2 := lv_neT (a := 2) c42_2 rfl
      have t42_3 := lv_neT (a := 3) c42_3 rfl
      have t42_4 := lv_neT (a := 4) c42_4 rfl
      have t42_5 := lv_neT (a := 5) c42_5 rfl
      have t42_6 := lv_neT (a := 6) c42_6 rfl
      have t42_7 := lv_neT (a := 7) c42_7 rfl
      have t42_8 := lv_neT (a := 8) c42_8 rfl
      have t42_9 := lv_neT (a := 9) c42_9 rfl
      have t42_10 := lv_neT (a := 10) c42_10 rfl
      have t42_11 := lv_neT (a := 11) c42_11 rfl
      refine a_tblOut (tgt := 485) dX14_plain_42 (by omega) (by decide) ?_
      refine a_iload_n (q := 4) dX14_plain_485 rfl rfl ?_
      refine a_iconst (v := 4) dX14_plain_486 (by decide) ?_
      obtain ⟨k495, ek495, hf⟩ := jn_s hf
      have hj495 : ∀ (h495j : hp), k495 h495j = some (v0, hz) → AW E yX14_plain cX14_plain (Option.some Jvm.ClassFile.FieldType.int) 6 D (some (.int v0)) h hz 495 [(3, .int v3)] [] h495j := by
        intro h495j hf
        rw [ek495] at hf
        clear ek495
        refine a_iload_n (q := 0) dX14_plain_495 rfl rfl ?_
        refine a_iconst (v := 4) dX14_plain_496 (by decide) ?_
        refine a_icmp_ne (tgt := 504) dX14_plain_497 (by decide) (fun c => ?_) (fun c => ?_)
        · have hf := ifn c hf
          refine a_iconst (v := 2) dX14_plain_504 (by decide) ?_
          obtain ⟨rfl, rfl⟩ := oc2 hf
          exact a_ireturn dX14_plain_505 rfl
        · have hf := ifp c hf
          refine a_iconst (v := 0) dX14_plain_500 (by decide) ?_
          refine a_goto (tgt := 505) dX14_plain_501 (by decide) ?_
          obtain ⟨rfl, rfl⟩ := oc2 hf
          exact a_ireturn dX14_plain_505 rfl
      clear ek495
      refine a_icmp_ne (tgt := 495) dX14_plain_487 (by decide) (fun c => ?_) (fun c => ?_)
      · have hf := ifn c hf
        exact AW.sub [4] rfl (hj495 _ hf)
      · have hf := ifp c hf
        refine a_aload_n (q := 1) dX14_plain_490 rfl rfl ?_
        refine a_iload_n (q := 2) dX14_plain_491 rfl rfl ?_
        obtain ⟨_, e107, hf⟩ := obd hf
        obtain ⟨h106, e105, hf⟩ := obd hf
        refine a_callV (as := [.int a1]) (np := 1) (ci := 13) (st := []) (sX14_sorts E (D - 1) (by omega) e105) dX14_plain_492 rfl (by omega) (by decide) cw_X14_217 ⟨wd_1594, ws_111⟩ rfl (ckT_s e107) rfl (Nat.le_of_ble_eq_true rfl) ?_
        exact AW.sub [4] rfl (hj495 _ hf)
    clear ek39
    obtain ⟨k34, ek34, hf⟩ := jn_s hf
    have hj34 : ∀ (h34j : hp), k34 h34j = some (v0, hz) → AW E yX14_plain cX14_plain (Option.some Jvm.ClassFile.FieldType.int) 6 D (some (.int v0)) h hz 34 [(0, .ref a0), (1, .int a1), (2, .int a2), (3, .int v3), (4, .int s22_0)] [] h34j := by
      intro h34j hf
      rw [ek34] at hf
      clear ek34
      refine a_iconst (v := 1) dX14_plain_34 (by decide) ?_
      refine a_goto (tgt := 39) dX14_plain_35 (by decide) ?_
      exact hj39 _ _ hf
    clear ek34
    refine a_icmp_eq (tgt := 34) dX14_plain_26 (by decide) (fun c => ?_) (fun c => ?_)
    · have hf := ifp c hf
      exact AW.sub [1, 2, 3, 4, 0] rfl (hj34 _ hf)
    · have hf := ifn c hf
      refine a_iload_n (q := 4) dX14_plain_29 rfl rfl ?_
      refine a_iconst (v := 2) dX14_plain_30 (by decide) ?_
      refine a_icmp_ne (tgt := 38) dX14_plain_31 (by decide) (fun c => ?_) (fun c => ?_)
      · have hf := ifn c hf
        refine a_iconst (v := 0) dX14_plain_38 (by decide) ?_
        exact AW.sub [1, 2, 3, 4, 0] rfl (hj39 _ _ hf)
      · have hf := ifp c hf
        exact AW.sub [1, 2, 3, 4, 0] rfl (hj34 _ hf)
  clear ek22
  obtain ⟨k17, ek17, hf⟩ := jn_s hf
  have hj17 : ∀ (h17j : hp), k17 h17j = some (v0, hz) → AW E yX14_plain cX14_plain (Option.some Jvm.ClassFile.FieldType.int) 6 D (some (.int v0)) h hz 17 [(0, .ref a0), (1, .int a1), (2, .int a2), (3, .int v3)] [] h17j := by
    intro h17j hf
    rw [ek17] at hf
    clear ek17
    refine a_iconst (v := 1) dX14_plain_17 (by decide) ?_
    refine a_goto (tgt := 22) dX14_plain_18 (by decide) ?_
    exact hj22 _ _ hf
  clear ek17
  refine a_icmp_eq (tgt := 17) dX14_plain_9 (by decide) (fun c => ?_) (fun c => ?_)
  · have hf := ifp c hf
    exact AW.sub [1, 2, 3, 0] rfl (hj17 _ hf)
  · have hf := ifn c hf
    refine a_iload_n (q := 0) dX14_plain_12 rfl rfl ?_
    refine a_iconst (v := 4) dX14_plain_13 (by decide) ?_
    refine a_icmp_ne (tgt := 21) dX14_plain_14 (by decide) (fun c => ?_) (fun c => ?_)
    · have hf := ifn c hf
      refine a_iconst (v := 0) dX14_plain_21 (by decide) ?_
      exact AW.sub [1, 2, 3, 0] rfl (hj22 _ _ hf)
    · have hf := ifp c hf
      exact AW.sub [1, 2, 3, 0] rfl (hj17 _ hf)
def fX14_numbered_l76 : Nat → Nat → Int32 → Int32 → Int32 → hp → Option hp
  | 0, _, _, _, _, _ => none
  | n + 1, x0, x1, x3, x4, h =>
    if x4 = 3 then (
      (gfR h x0 13 2).bind fun v1 =>
      (alI h v1 x1).bind fun v3 =>
      if x3 ≤ v3 then (
        some (h)
      ) else (
        (gfR h x0 13 2).bind fun v5 =>
        (alI h v5 x1).bind fun v7 =>
        if 16 ≤ v7 then (
          some (h)
        ) else (
          (gfR h x0 13 3).bind fun v9 =>
          (gfR h x0 13 2).bind fun v11 =>
          (alI h v11 x1).bind fun v13 =>
          (asI h v9 ((16 * x1) + v13) 32).bind fun h15 =>
          (gfR h15 x0 13 2).bind fun v17 =>
          (alI h15 v17 x1).bind fun v19 =>
          (asI h15 v17 x1 (v19 + 1)).bind fun h21 =>
          fX14_numbered_l76 n x0 x1 x3 x4 h21
        )
      )
    ) else (
      some (h)
    )
def fX14_numbered (a0 : Nat) (a1 : Int32) (a2 : Int32) (a3 : Int32) (h : hp) : Option (Int32 × hp) :=
  (gfR h a0 13 0).bind fun v1 =>
  (alI h v1 a1).bind fun v3 =>
  if a2 = 13 then (
    jn (fun (h52j : hp) => (
      if v3 = 3 then (
        some (0, h52j)
      ) else (
        if v3 = 4 then (
          some (0, h52j)
        ) else (
          some (2, h52j)
        )
      )
      : Option (Int32 × hp))) fun k52 =>
    jn (fun (h26j : hp) => (
      (gfR h26j a0 13 2).bind fun v37 =>
      (gfR h26j a0 13 2).bind fun v39 =>
      (alI h26j v39 a1).bind fun v41 =>
      jn (fun (s51_0 : Int32) (h51j : hp) => (
        (asI h51j v37 a1 s51_0).bind fun h43 =>
        k52 h43
        : Option (Int32 × hp))) fun k51 =>
      if a3 ≤ v41 then (
        k51 a3 h26j
      ) else (
        (gfR h26j a0 13 2).bind fun v45 =>
        (alI h26j v45 a1).bind fun v47 =>
        k51 v47 h26j
      )
      : Option (Int32 × hp))) fun k26 =>
    if v3 = 3 then (
      k26 h
    ) else (
      if v3 = 4 then (
        k26 h
      ) else (
        k52 h
      )
    )
  ) else (
    if a2 = 14 then (
      (fX14_numbered_l76 FU a0 a1 a3 v3 h).bind fun h36 =>
      if v3 = 3 then (
        some (0, h36)
      ) else (
        some (2, h36)
      )
    ) else (
      if a2 = 17 then (
        if v3 = 0 then (
          (ckT h a0 13).bind fun _ =>
          (fX14_isInt a0 a1 a3 h).bind fun h33 =>
          some (0, h33)
        ) else (
          some (0, h)
        )
      ) else (
        jn (fun (h203j : hp) => (
          if v3 = 2 then (
            some (0, h203j)
          ) else (
            if v3 = 1 then (
              jn (fun (s254_0 : Int64) (h254j : hp) => (
                (ckT h254j a0 13).bind fun _ =>
                bd2 (fX14_becomes a0 a1 s254_0 h254j) fun v6 h7 =>
                some (v6, h7)
                : Option (Int32 × hp))) fun k254 =>
              if a2 = 15 then (
                (gfR h203j a0 13 1).bind fun v13 =>
                (alI h203j v13 a1).bind fun v15 =>
                k254 ((v15.toInt64) + (a3.toInt64)) h203j
              ) else (
                (gfR h203j a0 13 1).bind fun v9 =>
                (alI h203j v9 a1).bind fun v11 =>
                k254 ((v11.toInt64) * (a3.toInt64)) h203j
              )
            ) else (
              some (2, h203j)
            )
          )
          : Option (Int32 × hp))) fun k203 =>
        if v3 = 2 then (
          jn (fun (s200_0 : UInt32) (h200j : hp) => (
            (ckT h200j a0 13).bind fun _ =>
            (fX14_isReal a0 a1 s200_0 h200j).bind fun h18 =>
            k203 h18
            : Option (Int32 × hp))) fun k200 =>
          if a2 = 15 then (
            (gfR h a0 13 4).bind fun v26 =>
            (alF h v26 a1).bind fun v28 =>
            (fnn (FP.fadd v28 (FP.i2f a3))).bind fun v30 =>
            k200 v30 h
          ) else (
            (gfR h a0 13 4).bind fun v20 =>
            (alF h v20 a1).bind fun v22 =>
            (fnn (FP.fmul v22 (FP.i2f a3))).bind fun v24 =>
            k200 v24 h
          )
        ) else (
          k203 h
        )
      )
    )
  )
set_option maxHeartbeats 4000000 in
set_option maxRecDepth 100000 in
theorem sX14_numbered_l76 (E : gE) (D : Nat) (hD : 2 ≤ D) {rz : Option Value} {h0 hz : hp} : ∀ (n : Nat) (x0 : Nat) (x1 : Int32) (x3 : Int32) (x4 : Int32) (h : hp) (hq : hp), fX14_numbered_l76 n x0 x1 x3 x4 h = some hq → (AW E yX14_numbered cX14_numbered (Option.some Jvm.ClassFile.FieldType.int) 5 D rz h0 hz 134 [(4, .int x4)] [] hq) → AW E yX14_numbered cX14_numbered (Option.some Jvm.ClassFile.FieldType.int) 5 D rz h0 hz 76 [(0, .ref x0), (1, .int x1), (3, .int x3), (4, .int x4)] [] h := by
  intro n
  induction n with
  | zero =>
    intro x0 x1 x3 x4 h hq hf _
    rw [fX14_numbered_l76] at hf
    cases hf
  | succ n ih =>
    intro x0 x1 x3 x4 h hq hf hk0
    rw [fX14_numbered_l76] at hf
    refine a_iload (q := 3) dX14_numbered_76 rfl ?_
    refine a_iconst (v := 3) dX14_numbered_78 (by decide) ?_
    refine a_icmp_ne (tgt := 134) dX14_numbered_79 (by decide) (fun c => ?_) (fun c => ?_)
    · have hf := ifn c hf
      obtain rfl := Option.some.inj hf
      exact AW.sub [3] rfl (hk0)
    · have hf := ifp c hf
      refine a_aload_n (q := 0) dX14_numbered_82 rfl rfl ?_
      obtain ⟨v1, e2, hf⟩ := obd hf
      refine o_gfR dX14_numbered_83 lk_X14_18 rfl e2 ?_
      refine a_iload_n (q := 1) dX14_numbered_86 rfl rfl ?_
      obtain ⟨v3, e4, hf⟩ := obd hf
      refine o_alI dX14_numbered_87 e4 ?_
      refine a_iload_n (q := 2) dX14_numbered_88 rfl rfl ?_
      refine a_icmp_ge (tgt := 134) dX14_numbered_89 (by decide) (fun c => ?_) (fun c => ?_)
      · have hf := ifp c hf
        obtain rfl := Option.some.inj hf
        exact AW.sub [3] rfl (hk0)
      · have hf := ifn c hf
        refine a_aload_n (q := 0) dX14_numbered_92 rfl rfl ?_
        obtain ⟨v5, e6, hf⟩ := obd hf
        refine o_gfR dX14_numbered_93 lk_X14_18 rfl e6 ?_
        refine a_iload_n (q := 1) dX14_numbered_96 rfl rfl ?_
        obtain ⟨v7, e8, hf⟩ := obd hf
        refine o_alI dX14_numbered_97 e8 ?_
        refine a_bipush (v := 16) dX14_numbered_98 (by decide) ?_
        refine a_icmp_ge (tgt := 134) dX14_numbered_100 (by decide) (fun c => ?_) (fun c => ?_)
        · have hf := ifp c hf
          obtain rfl := Option.some.inj hf
          exact AW.sub [3] rfl (hk0)
        · have hf := ifn c hf
          refine a_aload_n (q := 0) dX14_numbered_103 rfl rfl ?_
          obtain ⟨v9, e10, hf⟩ := obd hf
          refine o_gfR dX14_numbered_104 lk_X14_21 rfl e10 ?_
          refine a_bipush (v := 16) dX14_numbered_107 (by decide) ?_
          refine a_iload_n (q := 1) dX14_numbered_109 rfl rfl ?_
          refine a_imul dX14_numbered_110 ?_
          refine a_aload_n (q := 0) dX14_numbered_111 rfl rfl ?_
          obtain ⟨v11, e12, hf⟩ := obd hf
          refine o_gfR dX14_numbered_112 lk_X14_18 rfl e12 ?_
          refine a_iload_n (q := 1) dX14_numbered_115 rfl rfl ?_
          obtain ⟨v13, e14, hf⟩ := obd hf
          refine o_alI dX14_numbered_116 e14 ?_
          refine a_iadd dX14_numbered_117 ?_
          refine a_bipush (v := 32) dX14_numbered_118 (by decide) ?_
          obtain ⟨h15, e16, hf⟩ := obd hf
          refine o_asI dX14_numbered_120 e16 ?_
          refine a_aload_n (q := 0) dX14_numbered_121 rfl rfl ?_
          obtain ⟨v17, e18, hf⟩ := obd hf
          refine o_gfR dX14_numbered_122 lk_X14_18 rfl e18 ?_
          refine a_iload_n (q := 1) dX14_numbered_125 rfl rfl ?_
          refine a_dup2 dX14_numbered_126 rfl rfl ?_
          obtain ⟨v19, e20, hf⟩ := obd hf
          refine o_alI dX14_numbered_127 e20 ?_
          refine a_iconst (v := 1) dX14_numbered_128 (by decide) ?_
          refine a_iadd dX14_numbered_129 ?_
          obtain ⟨h21, e22, hf⟩ := obd hf
          refine o_asI dX14_numbered_130 e22 ?_
          refine a_goto (tgt := 76) dX14_numbered_131 (by decide) ?_
          exact (ih _ _ _ _ _ _ hf hk0)
set_option maxHeartbeats 4000000 in
set_option maxRecDepth 100000 in
theorem sX14_numbered (E : gE) (D : Nat) (hD : 2 ≤ D) {a0 : Nat} {a1 : Int32} {a2 : Int32} {a3 : Int32} {h hz : hp} {v0 : Int32} (hf : fX14_numbered a0 a1 a2 a3 h = some (v0, hz)) : MC E yX14_numbered cX14_numbered (Option.some Jvm.ClassFile.FieldType.int) 5 D [.ref a0, .int a1, .int a2, .int a3] h (some (.int v0)) hz := by
  refine MC.of (by decide +kernel) (Nat.le_of_ble_eq_true rfl) rfl ?_
  unfold fX14_numbered at hf
  show AW E yX14_numbered cX14_numbered (Option.some Jvm.ClassFile.FieldType.int) 5 D (some (.int v0)) h hz 0 [(0, .ref a0), (1, .int a1), (2, .int a2), (3, .int a3)] [] h
  refine a_aload_n (q := 0) dX14_numbered_0 rfl rfl ?_
  obtain ⟨v1, e2, hf⟩ := obd hf
  refine o_gfR dX14_numbered_1 lk_X14_11 rfl e2 ?_
  refine a_iload_n (q := 1) dX14_numbered_4 rfl rfl ?_
  obtain ⟨v3, e4, hf⟩ := obd hf
  refine o_alI dX14_numbered_5 e4 ?_
  refine a_istore (lv1 := [(4, .int v3), (0, .ref a0), (1, .int a1), (2, .int a2), (3, .int a3)]) dX14_numbered_6 (by decide) rfl ?_
  refine a_iload_n (q := 3) dX14_numbered_8 rfl rfl ?_
  refine a_bipush (v := 13) dX14_numbered_9 (by decide) ?_
  refine a_icmp_ne (tgt := 70) dX14_numbered_11 (by decide) (fun c => ?_) (fun c => ?_)
  · have hf := ifn c hf
    refine a_iload_n (q := 3) dX14_numbered_70 rfl rfl ?_
    refine a_bipush (v := 14) dX14_numbered_71 (by decide) ?_
    refine a_icmp_ne (tgt := 146) dX14_numbered_73 (by decide) (fun c => ?_) (fun c => ?_)
    · have hf := ifn c hf
      refine a_iload_n (q := 3) dX14_numbered_146 rfl rfl ?_
      refine a_bipush (v := 17) dX14_numbered_147 (by decide) ?_
      refine a_icmp_ne (tgt := 165) dX14_numbered_149 (by decide) (fun c => ?_) (fun c => ?_)
      · have hf := ifn c hf
        refine a_iload (q := 0) dX14_numbered_165 rfl ?_
        refine a_iconst (v := 2) dX14_numbered_167 (by decide) ?_
        obtain ⟨k203, ek203, hf⟩ := jn_s hf
        have hj203 : ∀ (h203j : hp), k203 h203j = some (v0, hz) → AW E yX14_numbered cX14_numbered (Option.some Jvm.ClassFile.FieldType.int) 5 D (some (.int v0)) h hz 203 [(0, .ref a0), (1, .int a1), (2, .int a2), (3, .int a3), (4, .int v3)] [] h203j := by
          intro h203j hf
          rw [ek203] at hf
          clear ek203
          refine a_iload (q := 4) dX14_numbered_203 rfl ?_
          refine a_iconst (v := 2) dX14_numbered_205 (by decide) ?_
          refine a_icmp_ne (tgt := 213) dX14_numbered_206 (by decide) (fun c => ?_) (fun c => ?_)
          · have hf := ifn c hf
            refine a_iload (q := 4) dX14_numbered_213 rfl ?_
            refine a_iconst (v := 1) dX14_numbered_215 (by decide) ?_
            refine a_icmp_eq (tgt := 223) dX14_numbered_216 (by decide) (fun c => ?_) (fun c => ?_)
            · have hf := ifp c hf
              refine a_aload_n (q := 0) dX14_numbered_223 rfl rfl ?_
              refine a_iload_n (q := 1) dX14_numbered_224 rfl rfl ?_
              refine a_iload_n (q := 2) dX14_numbered_225 rfl rfl ?_
              refine a_bipush (v := 15) dX14_numbered_226 (by decide) ?_
              obtain ⟨k254, ek254, hf⟩ := jn_s hf
              have hj254 : ∀ (s254_0 : Int64) (h254j : hp), k254 s254_0 h254j = some (v0, hz) → AW E yX14_numbered cX14_numbered (Option.some Jvm.ClassFile.FieldType.int) 5 D (some (.int v0)) h hz 254 [] [.long s254_0, .int a1, .ref a0] h254j := by
                intro s254_0 h254j hf
                rw [ek254] at hf
                clear ek254
                obtain ⟨_, e8, hf⟩ := obd hf
                obtain ⟨v6, h7, e5, hf⟩ := ob2 hf
                refine a_callV (as := [.int a1, .long s254_0]) (np := 2) (ci := 13) (st := []) (sX14_becomes E (D - 1) (by omega) e5) dX14_numbered_254 rfl (by omega) (by decide) cw_X14_175 ⟨wd_1588, ws_110⟩ rfl (ckT_s e8) rfl (Nat.le_of_ble_eq_true rfl) ?_
                obtain ⟨rfl, rfl⟩ := oc2 hf
                exact a_ireturn dX14_numbered_257 rfl
              clear ek254
              refine a_icmp_ne (tgt := 244) dX14_numbered_228 (by decide) (fun c => ?_) (fun c => ?_)
              · have hf := ifn c hf
                refine a_aload_n (q := 0) dX14_numbered_244 rfl rfl ?_
                obtain ⟨v9, e10, hf⟩ := obd hf
                refine o_gfR dX14_numbered_245 lk_X14_15 rfl e10 ?_
                refine a_iload_n (q := 1) dX14_numbered_248 rfl rfl ?_
                obtain ⟨v11, e12, hf⟩ := obd hf
                refine o_alI dX14_numbered_249 e12 ?_
                refine a_i2l dX14_numbered_250 rfl ?_
                refine a_iload_n (q := 3) dX14_numbered_251 rfl rfl ?_
                refine a_i2l dX14_numbered_252 rfl ?_
                refine a_lmul dX14_numbered_253 ?_
                exact AW.sub [] rfl (hj254 _ _ hf)
              · have hf := ifp c hf
                refine a_aload_n (q := 0) dX14_numbered_231 rfl rfl ?_
                obtain ⟨v13, e14, hf⟩ := obd hf
                refine o_gfR dX14_numbered_232 lk_X14_15 rfl e14 ?_
                refine a_iload_n (q := 1) dX14_numbered_235 rfl rfl ?_
                obtain ⟨v15, e16, hf⟩ := obd hf
                refine o_alI dX14_numbered_236 e16 ?_
                refine a_i2l dX14_numbered_237 rfl ?_
                refine a_iload_n (q := 3) dX14_numbered_238 rfl rfl ?_
                refine a_i2l dX14_numbered_239 rfl ?_
                refine a_ladd dX14_numbered_240 ?_
                refine a_goto (tgt := 254) dX14_numbered_241 (by decide) ?_
                exact AW.sub [] rfl (hj254 _ _ hf)
            · have hf := ifn c hf
              refine a_iconst (v := 2) dX14_numbered_219 (by decide) ?_
              refine a_goto (tgt := 257) dX14_numbered_220 (by decide) ?_
              obtain ⟨rfl, rfl⟩ := oc2 hf
              exact a_ireturn dX14_numbered_257 rfl
          · have hf := ifp c hf
            refine a_iconst (v := 0) dX14_numbered_209 (by decide) ?_
            refine a_goto (tgt := 257) dX14_numbered_210 (by decide) ?_
            obtain ⟨rfl, rfl⟩ := oc2 hf
            exact a_ireturn dX14_numbered_257 rfl
        clear ek203
        refine a_icmp_ne (tgt := 203) dX14_numbered_168 (by decide) (fun c => ?_) (fun c => ?_)
        · have hf := ifn c hf
          exact AW.sub [1, 2, 3, 4, 0] rfl (hj203 _ hf)
        · have hf := ifp c hf
          refine a_aload_n (q := 1) dX14_numbered_171 rfl rfl ?_
          refine a_iload_n (q := 2) dX14_numbered_172 rfl rfl ?_
          refine a_iload_n (q := 3) dX14_numbered_173 rfl rfl ?_
          refine a_bipush (v := 15) dX14_numbered_174 (by decide) ?_
          obtain ⟨k200, ek200, hf⟩ := jn_s hf
          have hj200 : ∀ (s200_0 : UInt32) (h200j : hp), k200 s200_0 h200j = some (v0, hz) → AW E yX14_numbered cX14_numbered (Option.some Jvm.ClassFile.FieldType.int) 5 D (some (.int v0)) h hz 200 [(0, .ref a0), (1, .int a1), (2, .int a2), (3, .int a3), (4, .int v3)] [.float s200_0, .int a1, .ref a0] h200j := by
            intro s200_0 h200j hf
            rw [ek200] at hf
            clear ek200
            obtain ⟨_, e19, hf⟩ := obd hf
            obtain ⟨h18, e17, hf⟩ := obd hf
            refine a_callV (as := [.int a1, .float s200_0]) (np := 2) (ci := 13) (st := []) (sX14_isReal E (D - 1) (by omega) e17) dX14_numbered_200 rfl (by omega) (by decide) cw_X14_193 ⟨wd_1543, ws_106⟩ rfl (ckT_s e19) rfl (Nat.le_of_ble_eq_true rfl) ?_
            exact hj203 _ hf
          clear ek200
          refine a_icmp_ne (tgt := 191) dX14_numbered_176 (by decide) (fun c => ?_) (fun c => ?_)
          · have hf := ifn c hf
            refine a_aload_n (q := 1) dX14_numbered_191 rfl rfl ?_
            obtain ⟨v20, e21, hf⟩ := obd hf
            refine o_gfR dX14_numbered_192 lk_X14_24 rfl e21 ?_
            refine a_iload_n (q := 2) dX14_numbered_195 rfl rfl ?_
            obtain ⟨v22, e23, hf⟩ := obd hf
            refine o_alF dX14_numbered_196 e23 ?_
            refine a_iload_n (q := 4) dX14_numbered_197 rfl rfl ?_
            refine a_i2f dX14_numbered_198 ?_
            obtain ⟨v24, e25, hf⟩ := obd hf
            refine o_fmul dX14_numbered_199 e25 ?_
            exact AW.sub [1, 2, 3, 4, 0] rfl (hj200 _ _ hf)
          · have hf := ifp c hf
            refine a_aload_n (q := 1) dX14_numbered_179 rfl rfl ?_
            obtain ⟨v26, e27, hf⟩ := obd hf
            refine o_gfR dX14_numbered_180 lk_X14_24 rfl e27 ?_
            refine a_iload_n (q := 2) dX14_numbered_183 rfl rfl ?_
            obtain ⟨v28, e29, hf⟩ := obd hf
            refine o_alF dX14_numbered_184 e29 ?_
            refine a_iload_n (q := 4) dX14_numbered_185 rfl rfl ?_
            refine a_i2f dX14_numbered_186 ?_
            obtain ⟨v30, e31, hf⟩ := obd hf
            refine o_fadd dX14_numbered_187 e31 ?_
            refine a_goto (tgt := 200) dX14_numbered_188 (by decide) ?_
            exact AW.sub [1, 2, 3, 4, 0] rfl (hj200 _ _ hf)
      · have hf := ifp c hf
        refine a_iload (q := 0) dX14_numbered_152 rfl ?_
        refine a_if_ne (tgt := 163) dX14_numbered_154 (by decide) (fun c => ?_) (fun c => ?_)
        · have hf := ifn c hf
          refine a_iconst (v := 0) dX14_numbered_163 (by decide) ?_
          obtain ⟨rfl, rfl⟩ := oc2 hf
          exact a_ireturn dX14_numbered_164 rfl
        · have hf := ifp c hf
          refine a_aload_n (q := 1) dX14_numbered_157 rfl rfl ?_
          refine a_iload_n (q := 2) dX14_numbered_158 rfl rfl ?_
          refine a_iload_n (q := 4) dX14_numbered_159 rfl rfl ?_
          obtain ⟨_, e34, hf⟩ := obd hf
          obtain ⟨h33, e32, hf⟩ := obd hf
          refine a_callV (as := [.int a1, .int a3]) (np := 2) (ci := 13) (st := []) (sX14_isInt E (D - 1) (by omega) e32) dX14_numbered_160 rfl (by omega) (by decide) cw_X14_171 ⟨wd_1515, ws_100⟩ rfl (ckT_s e34) rfl (Nat.le_of_ble_eq_true rfl) ?_
          refine a_iconst (v := 0) dX14_numbered_163 (by decide) ?_
          obtain ⟨rfl, rfl⟩ := oc2 hf
          exact a_ireturn dX14_numbered_164 rfl
    · have hf := ifp c hf
      obtain ⟨h36, e35, hf⟩ := obd hf
      refine AW.sub [1, 2, 4, 0] rfl (sX14_numbered_l76 E D hD _ _ _ _ _ _ _ e35 ?_)
      refine a_iload (q := 0) dX14_numbered_134 rfl ?_
      refine a_iconst (v := 3) dX14_numbered_136 (by decide) ?_
      refine a_icmp_ne (tgt := 144) dX14_numbered_137 (by decide) (fun c => ?_) (fun c => ?_)
      · have hf := ifn c hf
        refine a_iconst (v := 2) dX14_numbered_144 (by decide) ?_
        obtain ⟨rfl, rfl⟩ := oc2 hf
        exact a_ireturn dX14_numbered_145 rfl
      · have hf := ifp c hf
        refine a_iconst (v := 0) dX14_numbered_140 (by decide) ?_
        refine a_goto (tgt := 145) dX14_numbered_141 (by decide) ?_
        obtain ⟨rfl, rfl⟩ := oc2 hf
        exact a_ireturn dX14_numbered_145 rfl
  · have hf := ifp c hf
    refine a_iload (q := 0) dX14_numbered_14 rfl ?_
    refine a_iconst (v := 3) dX14_numbered_16 (by decide) ?_
    obtain ⟨k52, ek52, hf⟩ := jn_s hf
    have hj52 : ∀ (h52j : hp), k52 h52j = some (v0, hz) → AW E yX14_numbered cX14_numbered (Option.some Jvm.ClassFile.FieldType.int) 5 D (some (.int v0)) h hz 52 [(4, .int v3)] [] h52j := by
      intro h52j hf
      rw [ek52] at hf
      clear ek52
      refine a_iload (q := 0) dX14_numbered_52 rfl ?_
      refine a_iconst (v := 3) dX14_numbered_54 (by decide) ?_
      refine a_icmp_eq (tgt := 64) dX14_numbered_55 (by decide) (fun c => ?_) (fun c => ?_)
      · have hf := ifp c hf
        refine a_iconst (v := 0) dX14_numbered_64 (by decide) ?_
        refine a_goto (tgt := 69) dX14_numbered_65 (by decide) ?_
        obtain ⟨rfl, rfl⟩ := oc2 hf
        exact a_ireturn dX14_numbered_69 rfl
      · have hf := ifn c hf
        refine a_iload (q := 0) dX14_numbered_58 rfl ?_
        refine a_iconst (v := 4) dX14_numbered_60 (by decide) ?_
        refine a_icmp_ne (tgt := 68) dX14_numbered_61 (by decide) (fun c => ?_) (fun c => ?_)
        · have hf := ifn c hf
          refine a_iconst (v := 2) dX14_numbered_68 (by decide) ?_
          obtain ⟨rfl, rfl⟩ := oc2 hf
          exact a_ireturn dX14_numbered_69 rfl
        · have hf := ifp c hf
          refine a_iconst (v := 0) dX14_numbered_64 (by decide) ?_
          refine a_goto (tgt := 69) dX14_numbered_65 (by decide) ?_
          obtain ⟨rfl, rfl⟩ := oc2 hf
          exact a_ireturn dX14_numbered_69 rfl
    clear ek52
    obtain ⟨k26, ek26, hf⟩ := jn_s hf
    have hj26 : ∀ (h26j : hp), k26 h26j = some (v0, hz) → AW E yX14_numbered cX14_numbered (Option.some Jvm.ClassFile.FieldType.int) 5 D (some (.int v0)) h hz 26 [(0, .ref a0), (1, .int a1), (3, .int a3), (4, .int v3)] [] h26j := by
      intro h26j hf
      rw [ek26] at hf
      clear ek26
      refine a_aload_n (q := 0) dX14_numbered_26 rfl rfl ?_
      obtain ⟨v37, e38, hf⟩ := obd hf
      refine o_gfR dX14_numbered_27 lk_X14_18 rfl e38 ?_
      refine a_iload_n (q := 1) dX14_numbered_30 rfl rfl ?_
      refine a_aload_n (q := 0) dX14_numbered_31 rfl rfl ?_
      obtain ⟨v39, e40, hf⟩ := obd hf
      refine o_gfR dX14_numbered_32 lk_X14_18 rfl e40 ?_
      refine a_iload_n (q := 1) dX14_numbered_35 rfl rfl ?_
      obtain ⟨v41, e42, hf⟩ := obd hf
      refine o_alI dX14_numbered_36 e42 ?_
      refine a_iload_n (q := 2) dX14_numbered_37 rfl rfl ?_
      obtain ⟨k51, ek51, hf⟩ := jn_s hf
      have hj51 : ∀ (s51_0 : Int32) (h51j : hp), k51 s51_0 h51j = some (v0, hz) → AW E yX14_numbered cX14_numbered (Option.some Jvm.ClassFile.FieldType.int) 5 D (some (.int v0)) h hz 51 [(4, .int v3)] [.int s51_0, .int a1, .ref v37] h51j := by
        intro s51_0 h51j hf
        rw [ek51] at hf
        clear ek51
        obtain ⟨h43, e44, hf⟩ := obd hf
        refine o_asI dX14_numbered_51 e44 ?_
        exact hj52 _ hf
      clear ek51
      refine a_icmp_ge (tgt := 50) dX14_numbered_38 (by decide) (fun c => ?_) (fun c => ?_)
      · have hf := ifp c hf
        refine a_iload_n (q := 2) dX14_numbered_50 rfl rfl ?_
        exact AW.sub [3] rfl (hj51 _ _ hf)
      · have hf := ifn c hf
        refine a_aload_n (q := 0) dX14_numbered_41 rfl rfl ?_
        obtain ⟨v45, e46, hf⟩ := obd hf
        refine o_gfR dX14_numbered_42 lk_X14_18 rfl e46 ?_
        refine a_iload_n (q := 1) dX14_numbered_45 rfl rfl ?_
        obtain ⟨v47, e48, hf⟩ := obd hf
        refine o_alI dX14_numbered_46 e48 ?_
        refine a_goto (tgt := 51) dX14_numbered_47 (by decide) ?_
        exact AW.sub [3] rfl (hj51 _ _ hf)
    clear ek26
    refine a_icmp_eq (tgt := 26) dX14_numbered_17 (by decide) (fun c => ?_) (fun c => ?_)
    · have hf := ifp c hf
      exact AW.sub [1, 2, 4, 0] rfl (hj26 _ hf)
    · have hf := ifn c hf
      refine a_iload (q := 0) dX14_numbered_20 rfl ?_
      refine a_iconst (v := 4) dX14_numbered_22 (by decide) ?_
      refine a_icmp_ne (tgt := 52) dX14_numbered_23 (by decide) (fun c => ?_) (fun c => ?_)
      · have hf := ifn c hf
        exact AW.sub [0] rfl (hj52 _ hf)
      · have hf := ifp c hf
        exact AW.sub [1, 2, 4, 0] rfl (hj26 _ hf)
def fX14_filtered (a0 : Nat) (a1 : Int32) (a2 : Int32) (a3 : Int32) (h : hp) : Option (Int32 × hp) :=
  if 13 ≤ a2 then (
    (ckT h a0 13).bind fun _ =>
    bd2 (fX14_numbered a0 a1 a2 a3 h) fun v2 h3 =>
    some (v2, h3)
  ) else (
    (ckT h a0 13).bind fun _ =>
    bd2 (fX14_plain a0 a1 a2 h) fun v6 h7 =>
    some (v6, h7)
  )
set_option maxHeartbeats 4000000 in
set_option maxRecDepth 100000 in
theorem sX14_filtered (E : gE) (D : Nat) (hD : 4 ≤ D) {a0 : Nat} {a1 : Int32} {a2 : Int32} {a3 : Int32} {h hz : hp} {v0 : Int32} (hf : fX14_filtered a0 a1 a2 a3 h = some (v0, hz)) : MC E yX14_filtered cX14_filtered (Option.some Jvm.ClassFile.FieldType.int) 4 D [.ref a0, .int a1, .int a2, .int a3] h (some (.int v0)) hz := by
  refine MC.of (by decide +kernel) (Nat.le_of_ble_eq_true rfl) rfl ?_
  unfold fX14_filtered at hf
  show AW E yX14_filtered cX14_filtered (Option.some Jvm.ClassFile.FieldType.int) 4 D (some (.int v0)) h hz 0 [(0, .ref a0), (1, .int a1), (2, .int a2), (3, .int a3)] [] h
  refine a_iload_n (q := 2) dX14_filtered_0 rfl rfl ?_
  refine a_bipush (v := 13) dX14_filtered_1 (by decide) ?_
  refine a_icmp_ge (tgt := 15) dX14_filtered_3 (by decide) (fun c => ?_) (fun c => ?_)
  · have hf := ifp c hf
    refine a_aload_n (q := 0) dX14_filtered_15 rfl rfl ?_
    refine a_iload_n (q := 1) dX14_filtered_16 rfl rfl ?_
    refine a_iload_n (q := 2) dX14_filtered_17 rfl rfl ?_
    refine a_iload_n (q := 3) dX14_filtered_18 rfl rfl ?_
    obtain ⟨_, e4, hf⟩ := obd hf
    obtain ⟨v2, h3, e1, hf⟩ := ob2 hf
    refine a_callV (as := [.int a1, .int a2, .int a3]) (np := 3) (ci := 13) (st := []) (sX14_numbered E (D - 1) (by omega) e1) dX14_filtered_19 rfl (by omega) (by decide) cw_X14_224 ⟨wd_1598, ws_112⟩ rfl (ckT_s e4) rfl (Nat.le_of_ble_eq_true rfl) ?_
    obtain ⟨rfl, rfl⟩ := oc2 hf
    exact a_ireturn dX14_filtered_22 rfl
  · have hf := ifn c hf
    refine a_aload_n (q := 0) dX14_filtered_6 rfl rfl ?_
    refine a_iload_n (q := 1) dX14_filtered_7 rfl rfl ?_
    refine a_iload_n (q := 2) dX14_filtered_8 rfl rfl ?_
    obtain ⟨_, e8, hf⟩ := obd hf
    obtain ⟨v6, h7, e5, hf⟩ := ob2 hf
    refine a_callV (as := [.int a1, .int a2]) (np := 2) (ci := 13) (st := []) (sX14_plain E (D - 1) (by omega) e5) dX14_filtered_9 rfl (by omega) (by decide) cw_X14_220 ⟨wd_1527, ws_103⟩ rfl (ckT_s e8) rfl (Nat.le_of_ble_eq_true rfl) ?_
    refine a_goto (tgt := 22) dX14_filtered_12 (by decide) ?_
    obtain ⟨rfl, rfl⟩ := oc2 hf
    exact a_ireturn dX14_filtered_22 rfl
def fX14_feed (a0 : Nat) (a1 : Int32) (h : hp) : Option (Int32 × hp) :=
  bd2 (fX14_isIn (a1.toInt64) 1 127 h) fun v2 h3 =>
  if v2 = 0 then (
    some ((-2), h3)
  ) else (
    (gfI h3 a0 13 10).bind fun v4 =>
    if v4 = 160 then (
      some ((-4), h3)
    ) else (
      (gfR h3 a0 13 7).bind fun v6 =>
      (gfI h3 a0 13 10).bind fun v8 =>
      (asI h3 v6 v8 a1).bind fun h10 =>
      (gfI h10 a0 13 10).bind fun v12 =>
      (pfI h10 a0 13 10 (v12 + 1)).bind fun h14 =>
      (gfI h14 a0 13 10).bind fun v16 =>
      some (v16, h14)
    )
  )
set_option maxHeartbeats 4000000 in
set_option maxRecDepth 100000 in
theorem sX14_feed (E : gE) (D : Nat) (hD : 1 ≤ D) {a0 : Nat} {a1 : Int32} {h hz : hp} {v0 : Int32} (hf : fX14_feed a0 a1 h = some (v0, hz)) : MC E yX14_feed cX14_feed (Option.some Jvm.ClassFile.FieldType.int) 2 D [.ref a0, .int a1] h (some (.int v0)) hz := by
  refine MC.of (by decide +kernel) (Nat.le_of_ble_eq_true rfl) rfl ?_
  unfold fX14_feed at hf
  show AW E yX14_feed cX14_feed (Option.some Jvm.ClassFile.FieldType.int) 2 D (some (.int v0)) h hz 0 [(0, .ref a0), (1, .int a1)] [] h
  refine a_iload_n (q := 1) dX14_feed_0 rfl rfl ?_
  refine a_i2l dX14_feed_1 rfl ?_
  refine a_lconst (v := 1) dX14_feed_2 (by decide) ?_
  refine a_ldc2 (v := 127) dX14_feed_3 wd_1322 ?_
  obtain ⟨v2, h3, e1, hf⟩ := ob2 hf
  refine a_callS (as := [.long (a1.toInt64), .long 1, .long 127]) (np := 3) (st := []) (sX14_isIn E (D - 1) (by omega) e1) dX14_feed_6 rfl (by omega) (by decide) cw_X14_155 wd_1324 rfl (Nat.le_of_ble_eq_true rfl) ?_
  refine a_if_ne (tgt := 15) dX14_feed_9 (by decide) (fun c => ?_) (fun c => ?_)
  · have hf := ifn c hf
    refine a_aload_n (q := 0) dX14_feed_15 rfl rfl ?_
    obtain ⟨v4, e5, hf⟩ := obd hf
    refine o_gfI dX14_feed_16 lk_X14_229 rfl e5 ?_
    refine a_sipush (v := 160) dX14_feed_19 (by decide) ?_
    refine a_icmp_ne (tgt := 28) dX14_feed_22 (by decide) (fun c => ?_) (fun c => ?_)
    · have hf := ifn c hf
      refine a_aload_n (q := 0) dX14_feed_28 rfl rfl ?_
      obtain ⟨v6, e7, hf⟩ := obd hf
      refine o_gfR dX14_feed_29 lk_X14_31 rfl e7 ?_
      refine a_aload_n (q := 0) dX14_feed_32 rfl rfl ?_
      obtain ⟨v8, e9, hf⟩ := obd hf
      refine o_gfI dX14_feed_33 lk_X14_229 rfl e9 ?_
      refine a_iload_n (q := 1) dX14_feed_36 rfl rfl ?_
      obtain ⟨h10, e11, hf⟩ := obd hf
      refine o_asI dX14_feed_37 e11 ?_
      refine a_aload_n (q := 0) dX14_feed_38 rfl rfl ?_
      refine a_dup dX14_feed_39 rfl ?_
      obtain ⟨v12, e13, hf⟩ := obd hf
      refine o_gfI dX14_feed_40 lk_X14_229 rfl e13 ?_
      refine a_iconst (v := 1) dX14_feed_43 (by decide) ?_
      refine a_iadd dX14_feed_44 ?_
      obtain ⟨h14, e15, hf⟩ := obd hf
      refine o_pfI dX14_feed_45 lk_X14_229 (⟨_, rfl, Or.inl rfl⟩) rfl e15 ?_
      refine a_aload_n (q := 0) dX14_feed_48 rfl rfl ?_
      obtain ⟨v16, e17, hf⟩ := obd hf
      refine o_gfI dX14_feed_49 lk_X14_229 rfl e17 ?_
      obtain ⟨rfl, rfl⟩ := oc2 hf
      exact a_ireturn dX14_feed_52 rfl
    · have hf := ifp c hf
      refine a_bipush (v := (-4)) dX14_feed_25 (by decide) ?_
      obtain ⟨rfl, rfl⟩ := oc2 hf
      exact a_ireturn dX14_feed_27 rfl
  · have hf := ifp c hf
    refine a_bipush (v := (-2)) dX14_feed_12 (by decide) ?_
    obtain ⟨rfl, rfl⟩ := oc2 hf
    exact a_ireturn dX14_feed_14 rfl
def fX14_clear (a0 : Nat) (h : hp) : Option (Int32 × hp) :=
  (gfI h a0 13 10).bind fun v1 =>
  (pfI h a0 13 10 0).bind fun h3 =>
  some (v1, h3)
set_option maxHeartbeats 4000000 in
set_option maxRecDepth 100000 in
theorem sX14_clear (E : gE) (D : Nat) (hD : 0 ≤ D) {a0 : Nat} {h hz : hp} {v0 : Int32} (hf : fX14_clear a0 h = some (v0, hz)) : MC E yX14_clear cX14_clear (Option.some Jvm.ClassFile.FieldType.int) 2 D [.ref a0] h (some (.int v0)) hz := by
  refine MC.of (by decide +kernel) (Nat.le_of_ble_eq_true rfl) rfl ?_
  unfold fX14_clear at hf
  show AW E yX14_clear cX14_clear (Option.some Jvm.ClassFile.FieldType.int) 2 D (some (.int v0)) h hz 0 [(0, .ref a0)] [] h
  refine a_aload_n (q := 0) dX14_clear_0 rfl rfl ?_
  obtain ⟨v1, e2, hf⟩ := obd hf
  refine o_gfI dX14_clear_1 lk_X14_229 rfl e2 ?_
  refine a_istore_n (lv1 := [(1, .int v1), (0, .ref a0)]) dX14_clear_4 rfl (by decide) rfl ?_
  refine a_aload_n (q := 1) dX14_clear_5 rfl rfl ?_
  refine a_iconst (v := 0) dX14_clear_6 (by decide) ?_
  obtain ⟨h3, e4, hf⟩ := obd hf
  refine o_pfI dX14_clear_7 lk_X14_229 (⟨_, rfl, Or.inl rfl⟩) rfl e4 ?_
  refine a_iload_n (q := 0) dX14_clear_10 rfl rfl ?_
  obtain ⟨rfl, rfl⟩ := oc2 hf
  exact a_ireturn dX14_clear_11 rfl
def fX14_reads (a0 : Nat) (a1 : Nat) (a2 : Int32) (a3 : Int32) (h : hp) : Option hp :=
  (pfR h a0 13 11 a1).bind fun h1 =>
  (pfI h1 a0 13 12 a2).bind fun h3 =>
  (pfI h3 a0 13 13 a3).bind fun h5 =>
  (pfI h5 a0 13 14 0).bind fun h7 =>
  (pfI h7 a0 13 15 (-1)).bind fun h9 =>
  (pfI h9 a0 13 16 0).bind fun h11 =>
  some h11
set_option maxHeartbeats 4000000 in
set_option maxRecDepth 100000 in
theorem sX14_reads (E : gE) (D : Nat) (hD : 0 ≤ D) {a0 : Nat} {a1 : Nat} {a2 : Int32} {a3 : Int32} {h hz : hp} (hf : fX14_reads a0 a1 a2 a3 h = some hz) : MC E yX14_reads cX14_reads (Option.none : Option Jvm.ClassFile.FieldType) 4 D [.ref a0, .ref a1, .int a2, .int a3] h none hz := by
  refine MC.of (by decide +kernel) (Nat.le_of_ble_eq_true rfl) rfl ?_
  unfold fX14_reads at hf
  show AW E yX14_reads cX14_reads (Option.none : Option Jvm.ClassFile.FieldType) 4 D none h hz 0 [(0, .ref a0), (1, .ref a1), (2, .int a2), (3, .int a3)] [] h
  refine a_aload_n (q := 0) dX14_reads_0 rfl rfl ?_
  refine a_aload_n (q := 1) dX14_reads_1 rfl rfl ?_
  obtain ⟨h1, e2, hf⟩ := obd hf
  refine o_pfR dX14_reads_2 lk_X14_40 (⟨_, rfl, Or.inl rfl⟩) rfl e2 ?_
  refine a_aload_n (q := 0) dX14_reads_5 rfl rfl ?_
  refine a_iload_n (q := 2) dX14_reads_6 rfl rfl ?_
  obtain ⟨h3, e4, hf⟩ := obd hf
  refine o_pfI dX14_reads_7 lk_X14_232 (⟨_, rfl, Or.inl rfl⟩) rfl e4 ?_
  refine a_aload_n (q := 0) dX14_reads_10 rfl rfl ?_
  refine a_iload_n (q := 3) dX14_reads_11 rfl rfl ?_
  obtain ⟨h5, e6, hf⟩ := obd hf
  refine o_pfI dX14_reads_12 lk_X14_235 (⟨_, rfl, Or.inl rfl⟩) rfl e6 ?_
  refine a_aload_n (q := 0) dX14_reads_15 rfl rfl ?_
  refine a_iconst (v := 0) dX14_reads_16 (by decide) ?_
  obtain ⟨h7, e8, hf⟩ := obd hf
  refine o_pfI dX14_reads_17 lk_X14_238 (⟨_, rfl, Or.inl rfl⟩) rfl e8 ?_
  refine a_aload_n (q := 0) dX14_reads_20 rfl rfl ?_
  refine a_iconst (v := (-1)) dX14_reads_21 (by decide) ?_
  obtain ⟨h9, e10, hf⟩ := obd hf
  refine o_pfI dX14_reads_22 lk_X14_241 (⟨_, rfl, Or.inl rfl⟩) rfl e10 ?_
  refine a_aload_n (q := 0) dX14_reads_25 rfl rfl ?_
  refine a_iconst (v := 0) dX14_reads_26 (by decide) ?_
  obtain ⟨h11, e12, hf⟩ := obd hf
  refine o_pfI dX14_reads_27 lk_X14_244 (⟨_, rfl, Or.inl rfl⟩) rfl e12 ?_
  obtain rfl := Option.some.inj hf
  exact a_return dX14_reads_30 rfl
def fX14_here (a0 : Nat) (h : hp) : Option (Int32 × hp) :=
  (gfI h a0 13 14).bind fun v1 =>
  (gfI h a0 13 13).bind fun v3 =>
  if v3 ≤ v1 then (
    some ((-1), h)
  ) else (
    (gfR h a0 13 11).bind fun v5 =>
    (gfI h a0 13 12).bind fun v7 =>
    (gfI h a0 13 14).bind fun v9 =>
    (alI h v5 (v7 + v9)).bind fun v11 =>
    some (v11, h)
  )
set_option maxHeartbeats 4000000 in
set_option maxRecDepth 100000 in
theorem sX14_here (E : gE) (D : Nat) (hD : 0 ≤ D) {a0 : Nat} {h hz : hp} {v0 : Int32} (hf : fX14_here a0 h = some (v0, hz)) : MC E yX14_here cX14_here (Option.some Jvm.ClassFile.FieldType.int) 1 D [.ref a0] h (some (.int v0)) hz := by
  refine MC.of (by decide +kernel) (Nat.le_of_ble_eq_true rfl) rfl ?_
  unfold fX14_here at hf
  show AW E yX14_here cX14_here (Option.some Jvm.ClassFile.FieldType.int) 1 D (some (.int v0)) h hz 0 [(0, .ref a0)] [] h
  refine a_aload_n (q := 0) dX14_here_0 rfl rfl ?_
  obtain ⟨v1, e2, hf⟩ := obd hf
  refine o_gfI dX14_here_1 lk_X14_238 rfl e2 ?_
  refine a_aload_n (q := 0) dX14_here_4 rfl rfl ?_
  obtain ⟨v3, e4, hf⟩ := obd hf
  refine o_gfI dX14_here_5 lk_X14_235 rfl e4 ?_
  refine a_icmp_ge (tgt := 28) dX14_here_8 (by decide) (fun c => ?_) (fun c => ?_)
  · have hf := ifp c hf
    refine a_iconst (v := (-1)) dX14_here_28 (by decide) ?_
    obtain ⟨rfl, rfl⟩ := oc2 hf
    exact a_ireturn dX14_here_29 rfl
  · have hf := ifn c hf
    refine a_aload_n (q := 0) dX14_here_11 rfl rfl ?_
    obtain ⟨v5, e6, hf⟩ := obd hf
    refine o_gfR dX14_here_12 lk_X14_40 rfl e6 ?_
    refine a_aload_n (q := 0) dX14_here_15 rfl rfl ?_
    obtain ⟨v7, e8, hf⟩ := obd hf
    refine o_gfI dX14_here_16 lk_X14_232 rfl e8 ?_
    refine a_aload_n (q := 0) dX14_here_19 rfl rfl ?_
    obtain ⟨v9, e10, hf⟩ := obd hf
    refine o_gfI dX14_here_20 lk_X14_238 rfl e10 ?_
    refine a_iadd dX14_here_23 ?_
    obtain ⟨v11, e12, hf⟩ := obd hf
    refine o_alI dX14_here_24 e12 ?_
    refine a_goto (tgt := 29) dX14_here_25 (by decide) ?_
    obtain ⟨rfl, rfl⟩ := oc2 hf
    exact a_ireturn dX14_here_29 rfl

def fX13_why (a0 : Nat) (a1 : Int32) (a2 : Int32) (h : hp) : Option (Int32 × hp) :=
  (gfR h a0 12 4).bind fun v1 =>
  (gfI h v1 4 1).bind fun v3 =>
  (dvI v3 3).bind fun v5 =>
  bd2 (fX13_among a1 v5 h) fun v8 h9 =>
  if v8 = 0 then (
    some ((-1), h9)
  ) else (
    bd2 (fX13_among a2 3 h9) fun v11 h12 =>
    if v11 = 0 then (
      some ((-1), h12)
    ) else (
      (gfR h12 a0 12 4).bind fun v13 =>
      (ckT h12 v13 4).bind fun _ =>
      bd2 (fX5_at v13 ((a1 * 3) + a2) h12) fun v16 h17 =>
      some (v16, h17)
    )
  )
set_option maxHeartbeats 4000000 in
set_option maxRecDepth 100000 in
theorem sX13_why (E : gE) (D : Nat) (hD : 1 ≤ D) {a0 : Nat} {a1 : Int32} {a2 : Int32} {h hz : hp} {v0 : Int32} (hf : fX13_why a0 a1 a2 h = some (v0, hz)) : MC E yX13_why cX13_why (Option.some Jvm.ClassFile.FieldType.int) 3 D [.ref a0, .int a1, .int a2] h (some (.int v0)) hz := by
  refine MC.of (by decide +kernel) (Nat.le_of_ble_eq_true rfl) rfl ?_
  unfold fX13_why at hf
  show AW E yX13_why cX13_why (Option.some Jvm.ClassFile.FieldType.int) 3 D (some (.int v0)) h hz 0 [(0, .ref a0), (1, .int a1), (2, .int a2)] [] h
  refine a_iload_n (q := 1) dX13_why_0 rfl rfl ?_
  refine a_aload_n (q := 0) dX13_why_1 rfl rfl ?_
  obtain ⟨v1, e2, hf⟩ := obd hf
  refine o_gfR dX13_why_2 lk_X13_33 rfl e2 ?_
  obtain ⟨v3, e4, hf⟩ := obd hf
  refine o_gfI dX13_why_5 lk_X13_123 rfl e4 ?_
  refine a_iconst (v := 3) dX13_why_8 (by decide) ?_
  obtain ⟨v5, e6, hf⟩ := obd hf
  refine o_dvI dX13_why_9 e6 ?_
  obtain ⟨v8, h9, e7, hf⟩ := ob2 hf
  refine a_callS (as := [.int a1, .int v5]) (np := 2) (st := []) (sX13_among E (D - 1) (by omega) e7) dX13_why_10 rfl (by omega) (by decide) cw_X13_94 wd_268 rfl (Nat.le_of_ble_eq_true rfl) ?_
  refine a_if_eq (tgt := 24) dX13_why_13 (by decide) (fun c => ?_) (fun c => ?_)
  · have hf := ifp c hf
    refine a_iconst (v := (-1)) dX13_why_24 (by decide) ?_
    obtain ⟨rfl, rfl⟩ := oc2 hf
    exact a_ireturn dX13_why_25 rfl
  · have hf := ifn c hf
    refine a_iload_n (q := 2) dX13_why_16 rfl rfl ?_
    refine a_iconst (v := 3) dX13_why_17 (by decide) ?_
    obtain ⟨v11, h12, e10, hf⟩ := ob2 hf
    refine a_callS (as := [.int a2, .int 3]) (np := 2) (st := []) (sX13_among E (D - 1) (by omega) e10) dX13_why_18 rfl (by omega) (by decide) cw_X13_94 wd_268 rfl (Nat.le_of_ble_eq_true rfl) ?_
    refine a_if_ne (tgt := 26) dX13_why_21 (by decide) (fun c => ?_) (fun c => ?_)
    · have hf := ifn c hf
      refine a_aload_n (q := 0) dX13_why_26 rfl rfl ?_
      obtain ⟨v13, e14, hf⟩ := obd hf
      refine o_gfR dX13_why_27 lk_X13_33 rfl e14 ?_
      refine a_iload_n (q := 1) dX13_why_30 rfl rfl ?_
      refine a_iconst (v := 3) dX13_why_31 (by decide) ?_
      refine a_imul dX13_why_32 ?_
      refine a_iload_n (q := 2) dX13_why_33 rfl rfl ?_
      refine a_iadd dX13_why_34 ?_
      obtain ⟨_, e18, hf⟩ := obd hf
      obtain ⟨v16, h17, e15, hf⟩ := ob2 hf
      refine a_callV (as := [.int ((a1 * 3) + a2)]) (np := 1) (ci := 4) (st := []) (sX5_at E (D - 1) (by omega) e15) dX13_why_35 rfl (by omega) (by decide) cw_X13_118 ⟨wd_313, wd_314⟩ rfl (ckT_s e18) rfl (Nat.le_of_ble_eq_true rfl) ?_
      obtain ⟨rfl, rfl⟩ := oc2 hf
      exact a_ireturn dX13_why_38 rfl
    · have hf := ifp c hf
      refine a_iconst (v := (-1)) dX13_why_24 (by decide) ?_
      obtain ⟨rfl, rfl⟩ := oc2 hf
      exact a_ireturn dX13_why_25 rfl
def fX13_budget (a0 : Nat) (a1 : Int32) (h : hp) : Option (Int32 × hp) :=
  if a1 < 0 then (
    some ((-2), h)
  ) else (
    if a1 ≤ 400 then (
      (gfR h a0 12 0).bind fun v1 =>
      (gfI h v1 8 3).bind fun v3 =>
      (gfR h a0 12 0).bind fun v5 =>
      (pfI h v5 8 3 a1).bind fun h7 =>
      some (v3, h7)
    ) else (
      some ((-2), h)
    )
  )
set_option maxHeartbeats 4000000 in
set_option maxRecDepth 100000 in
theorem sX13_budget (E : gE) (D : Nat) (hD : 0 ≤ D) {a0 : Nat} {a1 : Int32} {h hz : hp} {v0 : Int32} (hf : fX13_budget a0 a1 h = some (v0, hz)) : MC E yX13_budget cX13_budget (Option.some Jvm.ClassFile.FieldType.int) 3 D [.ref a0, .int a1] h (some (.int v0)) hz := by
  refine MC.of (by decide +kernel) (Nat.le_of_ble_eq_true rfl) rfl ?_
  unfold fX13_budget at hf
  show AW E yX13_budget cX13_budget (Option.some Jvm.ClassFile.FieldType.int) 3 D (some (.int v0)) h hz 0 [(0, .ref a0), (1, .int a1)] [] h
  refine a_iload_n (q := 1) dX13_budget_0 rfl rfl ?_
  refine a_if_lt (tgt := 11) dX13_budget_1 (by decide) (fun c => ?_) (fun c => ?_)
  · have hf := ifp c hf
    refine a_bipush (v := (-2)) dX13_budget_11 (by decide) ?_
    obtain ⟨rfl, rfl⟩ := oc2 hf
    exact a_ireturn dX13_budget_13 rfl
  · have hf := ifn c hf
    refine a_iload_n (q := 1) dX13_budget_4 rfl rfl ?_
    refine a_sipush (v := 400) dX13_budget_5 (by decide) ?_
    refine a_icmp_le (tgt := 14) dX13_budget_8 (by decide) (fun c => ?_) (fun c => ?_)
    · have hf := ifp c hf
      refine a_aload_n (q := 0) dX13_budget_14 rfl rfl ?_
      obtain ⟨v1, e2, hf⟩ := obd hf
      refine o_gfR dX13_budget_15 lk_X13_22 rfl e2 ?_
      obtain ⟨v3, e4, hf⟩ := obd hf
      refine o_gfI dX13_budget_18 lk_X13_209 rfl e4 ?_
      refine a_istore_n (lv1 := [(2, .int v3), (0, .ref a0), (1, .int a1)]) dX13_budget_21 rfl (by decide) rfl ?_
      refine a_aload_n (q := 1) dX13_budget_22 rfl rfl ?_
      obtain ⟨v5, e6, hf⟩ := obd hf
      refine o_gfR dX13_budget_23 lk_X13_22 rfl e6 ?_
      refine a_iload_n (q := 2) dX13_budget_26 rfl rfl ?_
      obtain ⟨h7, e8, hf⟩ := obd hf
      refine o_pfI dX13_budget_27 lk_X13_209 (⟨_, rfl, Or.inl rfl⟩) rfl e8 ?_
      refine a_iload_n (q := 0) dX13_budget_30 rfl rfl ?_
      obtain ⟨rfl, rfl⟩ := oc2 hf
      exact a_ireturn dX13_budget_31 rfl
    · have hf := ifn c hf
      refine a_bipush (v := (-2)) dX13_budget_11 (by decide) ?_
      obtain ⟨rfl, rfl⟩ := oc2 hf
      exact a_ireturn dX13_budget_13 rfl
def fX13_told (a0 : Nat) (a1 : Int32) (h : hp) : Option (Int32 × hp) :=
  if a1 = 0 then (
    (gfR h a0 12 0).bind fun v1 =>
    (gfR h v1 8 2).bind fun v3 =>
    (gfI h v3 4 1).bind fun v5 =>
    some (v5, h)
  ) else (
  if a1 = 1 then (
    (gfR h a0 12 4).bind fun v7 =>
    (gfI h v7 4 1).bind fun v9 =>
    (dvI v9 3).bind fun v11 =>
    some (v11, h)
  ) else (
  if a1 = 2 then (
    (gfR h a0 12 0).bind fun v13 =>
    (gfI h v13 8 3).bind fun v15 =>
    some (v15, h)
  ) else (
  if a1 = 3 then (
    (gfR h a0 12 0).bind fun v17 =>
    (ckT h v17 8).bind fun _ =>
    bd2 (fX9_holding v17 h) fun v20 h21 =>
    some (v20, h21)
  ) else (
  if a1 = 4 then (
    (gfR h a0 12 3).bind fun v23 =>
    (gfI h v23 4 1).bind fun v25 =>
    some (v25, h)
  ) else (
  if a1 = 5 then (
    (gfI h a0 12 8).bind fun v27 =>
    some (v27, h)
  ) else (
  if a1 = 6 then (
    (gfR h a0 12 0).bind fun v29 =>
    (gfR h v29 8 2).bind fun v31 =>
    (ckT h v31 4).bind fun _ =>
    bd2 (fX5_sum v31 h) fun v34 h35 =>
    some (v34, h35)
  ) else (
  if a1 = 7 then (
    (gfR h a0 12 0).bind fun v37 =>
    (gfR h v37 8 2).bind fun v39 =>
    (ckT h v39 4).bind fun _ =>
    bd2 (fX5_count v39 10 h) fun v42 h43 =>
    some (v42, h43)
  ) else (
    some ((-1), h)
  ))))))))
set_option maxHeartbeats 4000000 in
set_option maxRecDepth 100000 in
theorem sX13_told (E : gE) (D : Nat) (hD : 1 ≤ D) {a0 : Nat} {a1 : Int32} {h hz : hp} {v0 : Int32} (hf : fX13_told a0 a1 h = some (v0, hz)) : MC E yX13_told cX13_told (Option.some Jvm.ClassFile.FieldType.int) 2 D [.ref a0, .int a1] h (some (.int v0)) hz := by
  refine MC.of (by decide +kernel) (Nat.le_of_ble_eq_true rfl) rfl ?_
  unfold fX13_told at hf
  show AW E yX13_told cX13_told (Option.some Jvm.ClassFile.FieldType.int) 2 D (some (.int v0)) h hz 0 [(0, .ref a0), (1, .int a1)] [] h
  refine a_iload_n (q := 1) dX13_told_0 rfl rfl ?_
  by_cases c1_0 : a1 = 0
  · have hf := ifp c1_0 hf
    refine a_tblIn (k := 0) (off := 47) (tgt := 48) dX13_told_1 c1_0 (by decide) (by decide) rfl (by decide) ?_
    refine a_aload_n (q := 0) dX13_told_48 rfl rfl ?_
    obtain ⟨v1, e2, hf⟩ := obd hf
    refine o_gfR dX13_told_49 lk_X13_22 rfl e2 ?_
    obtain ⟨v3, e4, hf⟩ := obd hf
    refine o_gfR dX13_told_52 lk_X13_185 rfl e4 ?_
    obtain ⟨v5, e6, hf⟩ := obd hf
    refine o_gfI dX13_told_55 lk_X13_123 rfl e6 ?_
    obtain ⟨rfl, rfl⟩ := oc2 hf
    exact a_ireturn dX13_told_58 rfl
  have hf := ifn c1_0 hf
  by_cases c1_1 : a1 = 1
  · have hf := ifp c1_1 hf
    refine a_tblIn (k := 1) (off := 58) (tgt := 59) dX13_told_1 c1_1 (by decide) (by decide) rfl (by decide) ?_
    refine a_aload_n (q := 0) dX13_told_59 rfl rfl ?_
    obtain ⟨v7, e8, hf⟩ := obd hf
    refine o_gfR dX13_told_60 lk_X13_33 rfl e8 ?_
    obtain ⟨v9, e10, hf⟩ := obd hf
    refine o_gfI dX13_told_63 lk_X13_123 rfl e10 ?_
    refine a_iconst (v := 3) dX13_told_66 (by decide) ?_
    obtain ⟨v11, e12, hf⟩ := obd hf
    refine o_dvI dX13_told_67 e12 ?_
    obtain ⟨rfl, rfl⟩ := oc2 hf
    exact a_ireturn dX13_told_68 rfl
  have hf := ifn c1_1 hf
  by_cases c1_2 : a1 = 2
  · have hf := ifp c1_2 hf
    refine a_tblIn (k := 2) (off := 68) (tgt := 69) dX13_told_1 c1_2 (by decide) (by decide) rfl (by decide) ?_
    refine a_aload_n (q := 0) dX13_told_69 rfl rfl ?_
    obtain ⟨v13, e14, hf⟩ := obd hf
    refine o_gfR dX13_told_70 lk_X13_22 rfl e14 ?_
    obtain ⟨v15, e16, hf⟩ := obd hf
    refine o_gfI dX13_told_73 lk_X13_209 rfl e16 ?_
    obtain ⟨rfl, rfl⟩ := oc2 hf
    exact a_ireturn dX13_told_76 rfl
  have hf := ifn c1_2 hf
  by_cases c1_3 : a1 = 3
  · have hf := ifp c1_3 hf
    refine a_tblIn (k := 3) (off := 76) (tgt := 77) dX13_told_1 c1_3 (by decide) (by decide) rfl (by decide) ?_
    refine a_aload_n (q := 0) dX13_told_77 rfl rfl ?_
    obtain ⟨v17, e18, hf⟩ := obd hf
    refine o_gfR dX13_told_78 lk_X13_22 rfl e18 ?_
    obtain ⟨_, e22, hf⟩ := obd hf
    obtain ⟨v20, h21, e19, hf⟩ := ob2 hf
    refine a_callV (as := []) (np := 0) (ci := 8) (st := []) (sX9_holding E (D - 1) (by omega) e19) dX13_told_81 rfl (by omega) (by decide) cw_X13_212 ⟨wd_1033, wd_1034⟩ rfl (ckT_s e22) rfl (Nat.le_of_ble_eq_true rfl) ?_
    obtain ⟨rfl, rfl⟩ := oc2 hf
    exact a_ireturn dX13_told_84 rfl
  have hf := ifn c1_3 hf
  by_cases c1_4 : a1 = 4
  · have hf := ifp c1_4 hf
    refine a_tblIn (k := 4) (off := 84) (tgt := 85) dX13_told_1 c1_4 (by decide) (by decide) rfl (by decide) ?_
    refine a_aload_n (q := 0) dX13_told_85 rfl rfl ?_
    obtain ⟨v23, e24, hf⟩ := obd hf
    refine o_gfR dX13_told_86 lk_X13_29 rfl e24 ?_
    obtain ⟨v25, e26, hf⟩ := obd hf
    refine o_gfI dX13_told_89 lk_X13_123 rfl e26 ?_
    obtain ⟨rfl, rfl⟩ := oc2 hf
    exact a_ireturn dX13_told_92 rfl
  have hf := ifn c1_4 hf
  by_cases c1_5 : a1 = 5
  · have hf := ifp c1_5 hf
    refine a_tblIn (k := 5) (off := 92) (tgt := 93) dX13_told_1 c1_5 (by decide) (by decide) rfl (by decide) ?_
    refine a_aload_n (q := 0) dX13_told_93 rfl rfl ?_
    obtain ⟨v27, e28, hf⟩ := obd hf
    refine o_gfI dX13_told_94 lk_X13_182 rfl e28 ?_
    obtain ⟨rfl, rfl⟩ := oc2 hf
    exact a_ireturn dX13_told_97 rfl
  have hf := ifn c1_5 hf
  by_cases c1_6 : a1 = 6
  · have hf := ifp c1_6 hf
    refine a_tblIn (k := 6) (off := 97) (tgt := 98) dX13_told_1 c1_6 (by decide) (by decide) rfl (by decide) ?_
    refine a_aload_n (q := 0) dX13_told_98 rfl rfl ?_
    obtain ⟨v29, e30, hf⟩ := obd hf
    refine o_gfR dX13_told_99 lk_X13_22 rfl e30 ?_
    obtain ⟨v31, e32, hf⟩ := obd hf
    refine o_gfR dX13_told_102 lk_X13_185 rfl e32 ?_
    obtain ⟨_, e36, hf⟩ := obd hf
    obtain ⟨v34, h35, e33, hf⟩ := ob2 hf
    refine a_callV (as := []) (np := 0) (ci := 4) (st := []) (sX5_sum E (D - 1) (by omega) e33) dX13_told_105 rfl (by omega) (by decide) cw_X13_215 ⟨wd_1037, wd_1038⟩ rfl (ckT_s e36) rfl (Nat.le_of_ble_eq_true rfl) ?_
    obtain ⟨rfl, rfl⟩ := oc2 hf
    exact a_ireturn dX13_told_108 rfl
  have hf := ifn c1_6 hf
  by_cases c1_7 : a1 = 7
  · have hf := ifp c1_7 hf
    refine a_tblIn (k := 7) (off := 108) (tgt := 109) dX13_told_1 c1_7 (by decide) (by decide) rfl (by decide) ?_
    refine a_aload_n (q := 0) dX13_told_109 rfl rfl ?_
    obtain ⟨v37, e38, hf⟩ := obd hf
    refine o_gfR dX13_told_110 lk_X13_22 rfl e38 ?_
    obtain ⟨v39, e40, hf⟩ := obd hf
    refine o_gfR dX13_told_113 lk_X13_185 rfl e40 ?_
    refine a_bipush (v := 10) dX13_told_116 (by decide) ?_
    obtain ⟨_, e44, hf⟩ := obd hf
    obtain ⟨v42, h43, e41, hf⟩ := ob2 hf
    refine a_callV (as := [.int 10]) (np := 1) (ci := 4) (st := []) (sX5_count E (D - 1) (by omega) e41) dX13_told_118 rfl (by omega) (by decide) cw_X13_218 ⟨wd_1041, wd_1042⟩ rfl (ckT_s e44) rfl (Nat.le_of_ble_eq_true rfl) ?_
    obtain ⟨rfl, rfl⟩ := oc2 hf
    exact a_ireturn dX13_told_121 rfl
  have hf := ifn c1_7 hf
  have t1_0 := lv_neT (a := 0) c1_0 rfl
  have t1_1 := lv_neT (a := 1) c1_1 rfl
  have t1_2 := lv_neT (a := 2) c1_2 rfl
  have t1_3 := lv_neT (a := 3) c1_3 rfl
  have t1_4 := lv_neT (a := 4) c1_4 rfl
  have t1_5 := lv_neT (a := 5) c1_5 rfl
  have t1_6 := lv_neT (a := 6) c1_6 rfl
  have t1_7 := lv_neT (a := 7) c1_7 rfl
  refine a_tblOut (tgt := 122) dX13_told_1 (by omega) (by decide) ?_
  refine a_iconst (v := (-1)) dX13_told_122 (by decide) ?_
  obtain ⟨rfl, rfl⟩ := oc2 hf
  exact a_ireturn dX13_told_123 rfl
def fX13_row (a0 : Nat) (a1 : Int32) (a2 : Int32) (a3 : Int32) (h : hp) : Option (Int32 × hp) :=
  bd2 (fX13_among a1 6 h) fun v2 h3 =>
  if v2 = 0 then (
    some ((-1), h3)
  ) else (
    bd2 (fX13_among a2 3 h3) fun v5 h6 =>
    if v5 = 0 then (
      some ((-1), h6)
    ) else (
      if a3 ≤ 60 then (
        if 0 ≤ a3 then (
          (gfR h6 a0 12 9).bind fun v7 =>
          (alR 4 h6 v7 a1).bind fun v9 =>
          (ckT h6 v9 7).bind fun _ =>
          (fX8_begin v9 a2 a3 h6).bind fun h12 =>
          some (1, h12)
        ) else (
          some ((-14), h6)
        )
      ) else (
        some ((-2), h6)
      )
    )
  )
set_option maxHeartbeats 4000000 in
set_option maxRecDepth 100000 in
theorem sX13_row (E : gE) (D : Nat) (hD : 2 ≤ D) {a0 : Nat} {a1 : Int32} {a2 : Int32} {a3 : Int32} {h hz : hp} {v0 : Int32} (hf : fX13_row a0 a1 a2 a3 h = some (v0, hz)) : MC E yX13_row cX13_row (Option.some Jvm.ClassFile.FieldType.int) 4 D [.ref a0, .int a1, .int a2, .int a3] h (some (.int v0)) hz := by
  refine MC.of (by decide +kernel) (Nat.le_of_ble_eq_true rfl) rfl ?_
  unfold fX13_row at hf
  show AW E yX13_row cX13_row (Option.some Jvm.ClassFile.FieldType.int) 4 D (some (.int v0)) h hz 0 [(0, .ref a0), (1, .int a1), (2, .int a2), (3, .int a3)] [] h
  refine a_iload_n (q := 1) dX13_row_0 rfl rfl ?_
  refine a_bipush (v := 6) dX13_row_1 (by decide) ?_
  obtain ⟨v2, h3, e1, hf⟩ := ob2 hf
  refine a_callS (as := [.int a1, .int 6]) (np := 2) (st := []) (sX13_among E (D - 1) (by omega) e1) dX13_row_3 rfl (by omega) (by decide) cw_X13_94 wd_268 rfl (Nat.le_of_ble_eq_true rfl) ?_
  refine a_if_eq (tgt := 17) dX13_row_6 (by decide) (fun c => ?_) (fun c => ?_)
  · have hf := ifp c hf
    refine a_iconst (v := (-1)) dX13_row_17 (by decide) ?_
    obtain ⟨rfl, rfl⟩ := oc2 hf
    exact a_ireturn dX13_row_18 rfl
  · have hf := ifn c hf
    refine a_iload_n (q := 2) dX13_row_9 rfl rfl ?_
    refine a_iconst (v := 3) dX13_row_10 (by decide) ?_
    obtain ⟨v5, h6, e4, hf⟩ := ob2 hf
    refine a_callS (as := [.int a2, .int 3]) (np := 2) (st := []) (sX13_among E (D - 1) (by omega) e4) dX13_row_11 rfl (by omega) (by decide) cw_X13_94 wd_268 rfl (Nat.le_of_ble_eq_true rfl) ?_
    refine a_if_ne (tgt := 19) dX13_row_14 (by decide) (fun c => ?_) (fun c => ?_)
    · have hf := ifn c hf
      refine a_iload_n (q := 3) dX13_row_19 rfl rfl ?_
      refine a_bipush (v := 60) dX13_row_20 (by decide) ?_
      refine a_icmp_le (tgt := 28) dX13_row_22 (by decide) (fun c => ?_) (fun c => ?_)
      · have hf := ifp c hf
        refine a_iload_n (q := 3) dX13_row_28 rfl rfl ?_
        refine a_if_ge (tgt := 35) dX13_row_29 (by decide) (fun c => ?_) (fun c => ?_)
        · have hf := ifp c hf
          refine a_aload_n (q := 0) dX13_row_35 rfl rfl ?_
          obtain ⟨v7, e8, hf⟩ := obd hf
          refine o_gfR dX13_row_36 lk_X13_55 rfl e8 ?_
          refine a_iload_n (q := 1) dX13_row_39 rfl rfl ?_
          obtain ⟨v9, e10, hf⟩ := obd hf
          refine o_alR dX13_row_40 (by decide) e10 ?_
          refine a_iload_n (q := 2) dX13_row_41 rfl rfl ?_
          refine a_iload_n (q := 3) dX13_row_42 rfl rfl ?_
          obtain ⟨_, e13, hf⟩ := obd hf
          obtain ⟨h12, e11, hf⟩ := obd hf
          refine a_callV (as := [.int a2, .int a3]) (np := 2) (ci := 7) (st := []) (sX8_begin E (D - 1) (by omega) e11) dX13_row_43 rfl (by omega) (by decide) cw_X13_221 ⟨wd_1049, wd_1050⟩ rfl (ckT_s e13) rfl (Nat.le_of_ble_eq_true rfl) ?_
          refine a_iconst (v := 1) dX13_row_46 (by decide) ?_
          obtain ⟨rfl, rfl⟩ := oc2 hf
          exact a_ireturn dX13_row_47 rfl
        · have hf := ifn c hf
          refine a_bipush (v := (-14)) dX13_row_32 (by decide) ?_
          obtain ⟨rfl, rfl⟩ := oc2 hf
          exact a_ireturn dX13_row_34 rfl
      · have hf := ifn c hf
        refine a_bipush (v := (-2)) dX13_row_25 (by decide) ?_
        obtain ⟨rfl, rfl⟩ := oc2 hf
        exact a_ireturn dX13_row_27 rfl
    · have hf := ifp c hf
      refine a_iconst (v := (-1)) dX13_row_17 (by decide) ?_
      obtain ⟨rfl, rfl⟩ := oc2 hf
      exact a_ireturn dX13_row_18 rfl
def fX13_set (a0 : Nat) (a1 : Int32) (a2 : Int32) (a3 : Int64) (h : hp) : Option (Int32 × hp) :=
  bd2 (fX13_among a1 6 h) fun v2 h3 =>
  if v2 = 0 then (
    some ((-1), h3)
  ) else (
    (gfR h3 a0 12 9).bind fun v4 =>
    (alR 4 h3 v4 a1).bind fun v6 =>
    (ckT h3 v6 7).bind fun _ =>
    bd2 (fX8_isNothing v6 h3) fun v9 h10 =>
    if v9 = 0 then (
      (gfI h10 v6 7 1).bind fun v12 =>
      bd2 (fX13_among a2 v12 h10) fun v15 h16 =>
      if v15 = 0 then (
        some ((-13), h16)
      ) else (
        (ckT h16 v6 7).bind fun _ =>
        (fX8_put v6 a2 a3 h16).bind fun h18 =>
        some (1, h18)
      )
    ) else (
      some ((-11), h10)
    )
  )
set_option maxHeartbeats 4000000 in
set_option maxRecDepth 100000 in
theorem sX13_set (E : gE) (D : Nat) (hD : 2 ≤ D) {a0 : Nat} {a1 : Int32} {a2 : Int32} {a3 : Int64} {h hz : hp} {v0 : Int32} (hf : fX13_set a0 a1 a2 a3 h = some (v0, hz)) : MC E yX13_set cX13_set (Option.some Jvm.ClassFile.FieldType.int) 6 D [.ref a0, .int a1, .int a2, .long a3] h (some (.int v0)) hz := by
  refine MC.of (by decide +kernel) (Nat.le_of_ble_eq_true rfl) rfl ?_
  unfold fX13_set at hf
  show AW E yX13_set cX13_set (Option.some Jvm.ClassFile.FieldType.int) 6 D (some (.int v0)) h hz 0 [(0, .ref a0), (1, .int a1), (2, .int a2), (3, .long a3)] [] h
  refine a_iload_n (q := 1) dX13_set_0 rfl rfl ?_
  refine a_bipush (v := 6) dX13_set_1 (by decide) ?_
  obtain ⟨v2, h3, e1, hf⟩ := ob2 hf
  refine a_callS (as := [.int a1, .int 6]) (np := 2) (st := []) (sX13_among E (D - 1) (by omega) e1) dX13_set_3 rfl (by omega) (by decide) cw_X13_94 wd_268 rfl (Nat.le_of_ble_eq_true rfl) ?_
  refine a_if_ne (tgt := 11) dX13_set_6 (by decide) (fun c => ?_) (fun c => ?_)
  · have hf := ifn c hf
    refine a_aload_n (q := 0) dX13_set_11 rfl rfl ?_
    obtain ⟨v4, e5, hf⟩ := obd hf
    refine o_gfR dX13_set_12 lk_X13_55 rfl e5 ?_
    refine a_iload_n (q := 1) dX13_set_15 rfl rfl ?_
    obtain ⟨v6, e7, hf⟩ := obd hf
    refine o_alR dX13_set_16 (by decide) e7 ?_
    refine a_astore (lv1 := [(5, .ref v6), (0, .ref a0), (1, .int a1), (2, .int a2), (3, .long a3)]) dX13_set_17 (by decide) rfl ?_
    refine a_aload (q := 0) dX13_set_19 rfl ?_
    obtain ⟨_, e11, hf⟩ := obd hf
    obtain ⟨v9, h10, e8, hf⟩ := ob2 hf
    refine a_callV (as := []) (np := 0) (ci := 7) (st := []) (sX8_isNothing E (D - 1) (by omega) e8) dX13_set_21 rfl (by omega) (by decide) cw_X13_223 ⟨wd_1059, wd_1060⟩ rfl (ckT_s e11) rfl (Nat.le_of_ble_eq_true rfl) ?_
    refine a_if_eq (tgt := 30) dX13_set_24 (by decide) (fun c => ?_) (fun c => ?_)
    · have hf := ifp c hf
      refine a_iload_n (q := 3) dX13_set_30 rfl rfl ?_
      refine a_aload (q := 0) dX13_set_31 rfl ?_
      obtain ⟨v12, e13, hf⟩ := obd hf
      refine o_gfI dX13_set_33 lk_X13_226 rfl e13 ?_
      obtain ⟨v15, h16, e14, hf⟩ := ob2 hf
      refine a_callS (as := [.int a2, .int v12]) (np := 2) (st := []) (sX13_among E (D - 1) (by omega) e14) dX13_set_36 rfl (by omega) (by decide) cw_X13_94 wd_268 rfl (Nat.le_of_ble_eq_true rfl) ?_
      refine a_if_ne (tgt := 45) dX13_set_39 (by decide) (fun c => ?_) (fun c => ?_)
      · have hf := ifn c hf
        refine a_aload (q := 0) dX13_set_45 rfl ?_
        refine a_iload_n (q := 3) dX13_set_47 rfl rfl ?_
        refine a_lload_n (q := 4) dX13_set_48 rfl rfl ?_
        obtain ⟨_, e19, hf⟩ := obd hf
        obtain ⟨h18, e17, hf⟩ := obd hf
        refine a_callV (as := [.int a2, .long a3]) (np := 2) (ci := 7) (st := []) (sX8_put E (D - 1) (by omega) e17) dX13_set_49 rfl (by omega) (by decide) cw_X13_227 ⟨wd_1063, wd_1064⟩ rfl (ckT_s e19) rfl (Nat.le_of_ble_eq_true rfl) ?_
        refine a_iconst (v := 1) dX13_set_52 (by decide) ?_
        obtain ⟨rfl, rfl⟩ := oc2 hf
        exact a_ireturn dX13_set_53 rfl
      · have hf := ifp c hf
        refine a_bipush (v := (-13)) dX13_set_42 (by decide) ?_
        obtain ⟨rfl, rfl⟩ := oc2 hf
        exact a_ireturn dX13_set_44 rfl
    · have hf := ifn c hf
      refine a_bipush (v := (-11)) dX13_set_27 (by decide) ?_
      obtain ⟨rfl, rfl⟩ := oc2 hf
      exact a_ireturn dX13_set_29 rfl
  · have hf := ifp c hf
    refine a_iconst (v := (-1)) dX13_set_9 (by decide) ?_
    obtain ⟨rfl, rfl⟩ := oc2 hf
    exact a_ireturn dX13_set_10 rfl
def fX13_get (a0 : Nat) (a1 : Int32) (a2 : Int32) (h : hp) : Option (Int64 × hp) :=
  bd2 (fX13_among a1 6 h) fun v2 h3 =>
  if v2 = 0 then (
    some ((-9223372036854775808), h3)
  ) else (
    (gfR h3 a0 12 9).bind fun v4 =>
    (alR 4 h3 v4 a1).bind fun v6 =>
    (gfI h3 v6 7 1).bind fun v8 =>
    bd2 (fX13_among a2 v8 h3) fun v11 h12 =>
    if v11 = 0 then (
      some ((-9223372036854775808), h12)
    ) else (
      (ckT h12 v6 7).bind fun _ =>
      bd2 (fX8_bits v6 a2 h12) fun v14 h15 =>
      some (v14, h15)
    )
  )
set_option maxHeartbeats 4000000 in
set_option maxRecDepth 100000 in
theorem sX13_get (E : gE) (D : Nat) (hD : 2 ≤ D) {a0 : Nat} {a1 : Int32} {a2 : Int32} {h hz : hp} {v0 : Int64} (hf : fX13_get a0 a1 a2 h = some (v0, hz)) : MC E yX13_get cX13_get (Option.some Jvm.ClassFile.FieldType.long) 4 D [.ref a0, .int a1, .int a2] h (some (.long v0)) hz := by
  refine MC.of (by decide +kernel) (Nat.le_of_ble_eq_true rfl) rfl ?_
  unfold fX13_get at hf
  show AW E yX13_get cX13_get (Option.some Jvm.ClassFile.FieldType.long) 4 D (some (.long v0)) h hz 0 [(0, .ref a0), (1, .int a1), (2, .int a2)] [] h
  refine a_iload_n (q := 1) dX13_get_0 rfl rfl ?_
  refine a_bipush (v := 6) dX13_get_1 (by decide) ?_
  obtain ⟨v2, h3, e1, hf⟩ := ob2 hf
  refine a_callS (as := [.int a1, .int 6]) (np := 2) (st := []) (sX13_among E (D - 1) (by omega) e1) dX13_get_3 rfl (by omega) (by decide) cw_X13_94 wd_268 rfl (Nat.le_of_ble_eq_true rfl) ?_
  refine a_if_ne (tgt := 13) dX13_get_6 (by decide) (fun c => ?_) (fun c => ?_)
  · have hf := ifn c hf
    refine a_aload_n (q := 0) dX13_get_13 rfl rfl ?_
    obtain ⟨v4, e5, hf⟩ := obd hf
    refine o_gfR dX13_get_14 lk_X13_55 rfl e5 ?_
    refine a_iload_n (q := 1) dX13_get_17 rfl rfl ?_
    obtain ⟨v6, e7, hf⟩ := obd hf
    refine o_alR dX13_get_18 (by decide) e7 ?_
    refine a_astore_n (lv1 := [(3, .ref v6), (0, .ref a0), (1, .int a1), (2, .int a2)]) dX13_get_19 rfl (by decide) rfl ?_
    refine a_iload_n (q := 3) dX13_get_20 rfl rfl ?_
    refine a_aload_n (q := 0) dX13_get_21 rfl rfl ?_
    obtain ⟨v8, e9, hf⟩ := obd hf
    refine o_gfI dX13_get_22 lk_X13_226 rfl e9 ?_
    obtain ⟨v11, h12, e10, hf⟩ := ob2 hf
    refine a_callS (as := [.int a2, .int v8]) (np := 2) (st := []) (sX13_among E (D - 1) (by omega) e10) dX13_get_25 rfl (by omega) (by decide) cw_X13_94 wd_268 rfl (Nat.le_of_ble_eq_true rfl) ?_
    refine a_if_eq (tgt := 39) dX13_get_28 (by decide) (fun c => ?_) (fun c => ?_)
    · have hf := ifp c hf
      refine a_ldc2 (v := (-9223372036854775808)) dX13_get_39 wd_1071 ?_
      obtain ⟨rfl, rfl⟩ := oc2 hf
      exact a_lreturn dX13_get_42 rfl
    · have hf := ifn c hf
      refine a_aload_n (q := 0) dX13_get_31 rfl rfl ?_
      refine a_iload_n (q := 3) dX13_get_32 rfl rfl ?_
      obtain ⟨_, e16, hf⟩ := obd hf
      obtain ⟨v14, h15, e13, hf⟩ := ob2 hf
      refine a_callV (as := [.int a2]) (np := 1) (ci := 7) (st := []) (sX8_bits E (D - 1) (by omega) e13) dX13_get_33 rfl (by omega) (by decide) cw_X13_232 ⟨wd_1073, wd_1074⟩ rfl (ckT_s e16) rfl (Nat.le_of_ble_eq_true rfl) ?_
      refine a_goto (tgt := 42) dX13_get_36 (by decide) ?_
      obtain ⟨rfl, rfl⟩ := oc2 hf
      exact a_lreturn dX13_get_42 rfl
  · have hf := ifp c hf
    refine a_ldc2 (v := (-9223372036854775808)) dX13_get_9 wd_1071 ?_
    obtain ⟨rfl, rfl⟩ := oc2 hf
    exact a_lreturn dX13_get_12 rfl
def fX13_move (a0 : Nat) (a1 : Int32) (a2 : Int32) (a3 : Int32) (a4 : Int32) (a5 : Int32) (h : hp) : Option (Int32 × hp) :=
  bd2 (fX13_among a1 6 h) fun v2 h3 =>
  if v2 = 0 then (
    some ((-1), h3)
  ) else (
    bd2 (fX13_among a3 6 h3) fun v5 h6 =>
    if v5 = 0 then (
      some ((-1), h6)
    ) else (
      (gfR h6 a0 12 9).bind fun v7 =>
      (alR 4 h6 v7 a1).bind fun v9 =>
      (gfR h6 a0 12 9).bind fun v11 =>
      (alR 4 h6 v11 a3).bind fun v13 =>
      (ckT h6 v9 7).bind fun _ =>
      bd2 (fX8_isNothing v9 h6) fun v16 h17 =>
      if v16 = 0 then (
        (ckT h17 v13 7).bind fun _ =>
        bd2 (fX8_isNothing v13 h17) fun v20 h21 =>
        if v20 = 0 then (
          (gfI h21 v9 7 0).bind fun v23 =>
          (gfI h21 v13 7 0).bind fun v25 =>
          if v23 = v25 then (
            (ckT h21 v9 7).bind fun _ =>
            bd2 (fX8_spans v9 a2 a5 h21) fun v28 h29 =>
            if v28 = 0 then (
              some ((-13), h29)
            ) else (
              (ckT h29 v13 7).bind fun _ =>
              bd2 (fX8_spans v13 a4 a5 h29) fun v32 h33 =>
              if v32 = 0 then (
                some ((-13), h33)
              ) else (
                (ckT h33 v13 7).bind fun _ =>
                (fX8_take v13 v9 a2 a4 a5 h33).bind fun h36 =>
                some (a5, h36)
              )
            )
          ) else (
            some ((-12), h21)
          )
        ) else (
          some ((-11), h21)
        )
      ) else (
        some ((-11), h17)
      )
    )
  )
set_option maxHeartbeats 4000000 in
set_option maxRecDepth 100000 in
theorem sX13_move (E : gE) (D : Nat) (hD : 2 ≤ D) {a0 : Nat} {a1 : Int32} {a2 : Int32} {a3 : Int32} {a4 : Int32} {a5 : Int32} {h hz : hp} {v0 : Int32} (hf : fX13_move a0 a1 a2 a3 a4 a5 h = some (v0, hz)) : MC E yX13_move cX13_move (Option.some Jvm.ClassFile.FieldType.int) 8 D [.ref a0, .int a1, .int a2, .int a3, .int a4, .int a5] h (some (.int v0)) hz := by
  refine MC.of (by decide +kernel) (Nat.le_of_ble_eq_true rfl) rfl ?_
  unfold fX13_move at hf
  show AW E yX13_move cX13_move (Option.some Jvm.ClassFile.FieldType.int) 8 D (some (.int v0)) h hz 0 [(0, .ref a0), (1, .int a1), (2, .int a2), (3, .int a3), (4, .int a4), (5, .int a5)] [] h
  refine a_iload_n (q := 1) dX13_move_0 rfl rfl ?_
  refine a_bipush (v := 6) dX13_move_1 (by decide) ?_
  obtain ⟨v2, h3, e1, hf⟩ := ob2 hf
  refine a_callS (as := [.int a1, .int 6]) (np := 2) (st := []) (sX13_among E (D - 1) (by omega) e1) dX13_move_3 rfl (by omega) (by decide) cw_X13_94 wd_268 rfl (Nat.le_of_ble_eq_true rfl) ?_
  refine a_if_eq (tgt := 18) dX13_move_6 (by decide) (fun c => ?_) (fun c => ?_)
  · have hf := ifp c hf
    refine a_iconst (v := (-1)) dX13_move_18 (by decide) ?_
    obtain ⟨rfl, rfl⟩ := oc2 hf
    exact a_ireturn dX13_move_19 rfl
  · have hf := ifn c hf
    refine a_iload_n (q := 3) dX13_move_9 rfl rfl ?_
    refine a_bipush (v := 6) dX13_move_10 (by decide) ?_
    obtain ⟨v5, h6, e4, hf⟩ := ob2 hf
    refine a_callS (as := [.int a3, .int 6]) (np := 2) (st := []) (sX13_among E (D - 1) (by omega) e4) dX13_move_12 rfl (by omega) (by decide) cw_X13_94 wd_268 rfl (Nat.le_of_ble_eq_true rfl) ?_
    refine a_if_ne (tgt := 20) dX13_move_15 (by decide) (fun c => ?_) (fun c => ?_)
    · have hf := ifn c hf
      refine a_aload_n (q := 0) dX13_move_20 rfl rfl ?_
      obtain ⟨v7, e8, hf⟩ := obd hf
      refine o_gfR dX13_move_21 lk_X13_55 rfl e8 ?_
      refine a_iload_n (q := 1) dX13_move_24 rfl rfl ?_
      obtain ⟨v9, e10, hf⟩ := obd hf
      refine o_alR dX13_move_25 (by decide) e10 ?_
      refine a_astore (lv1 := [(6, .ref v9), (0, .ref a0), (1, .int a1), (2, .int a2), (3, .int a3), (4, .int a4), (5, .int a5)]) dX13_move_26 (by decide) rfl ?_
      refine a_aload_n (q := 1) dX13_move_28 rfl rfl ?_
      obtain ⟨v11, e12, hf⟩ := obd hf
      refine o_gfR dX13_move_29 lk_X13_55 rfl e12 ?_
      refine a_iload_n (q := 4) dX13_move_32 rfl rfl ?_
      obtain ⟨v13, e14, hf⟩ := obd hf
      refine o_alR dX13_move_33 (by decide) e14 ?_
      refine a_astore (lv1 := [(7, .ref v13), (6, .ref v9), (0, .ref a0), (1, .int a1), (2, .int a2), (3, .int a3), (4, .int a4), (5, .int a5)]) dX13_move_34 (by decide) rfl ?_
      refine a_aload (q := 1) dX13_move_36 rfl ?_
      obtain ⟨_, e18, hf⟩ := obd hf
      obtain ⟨v16, h17, e15, hf⟩ := ob2 hf
      refine a_callV (as := []) (np := 0) (ci := 7) (st := []) (sX8_isNothing E (D - 1) (by omega) e15) dX13_move_38 rfl (by omega) (by decide) cw_X13_223 ⟨wd_1059, wd_1060⟩ rfl (ckT_s e18) rfl (Nat.le_of_ble_eq_true rfl) ?_
      refine a_if_ne (tgt := 52) dX13_move_41 (by decide) (fun c => ?_) (fun c => ?_)
      · have hf := ifn c hf
        refine a_bipush (v := (-11)) dX13_move_52 (by decide) ?_
        obtain ⟨rfl, rfl⟩ := oc2 hf
        exact a_ireturn dX13_move_54 rfl
      · have hf := ifp c hf
        refine a_aload (q := 0) dX13_move_44 rfl ?_
        obtain ⟨_, e22, hf⟩ := obd hf
        obtain ⟨v20, h21, e19, hf⟩ := ob2 hf
        refine a_callV (as := []) (np := 0) (ci := 7) (st := []) (sX8_isNothing E (D - 1) (by omega) e19) dX13_move_46 rfl (by omega) (by decide) cw_X13_223 ⟨wd_1059, wd_1060⟩ rfl (ckT_s e22) rfl (Nat.le_of_ble_eq_true rfl) ?_
        refine a_if_eq (tgt := 55) dX13_move_49 (by decide) (fun c => ?_) (fun c => ?_)
        · have hf := ifp c hf
          refine a_aload (q := 1) dX13_move_55 rfl ?_
          obtain ⟨v23, e24, hf⟩ := obd hf
          refine o_gfI dX13_move_57 lk_X13_236 rfl e24 ?_
          refine a_aload (q := 0) dX13_move_60 rfl ?_
          obtain ⟨v25, e26, hf⟩ := obd hf
          refine o_gfI dX13_move_62 lk_X13_236 rfl e26 ?_
          refine a_icmp_eq (tgt := 71) dX13_move_65 (by decide) (fun c => ?_) (fun c => ?_)
          · have hf := ifp c hf
            refine a_aload (q := 1) dX13_move_71 rfl ?_
            refine a_iload_n (q := 4) dX13_move_73 rfl rfl ?_
            refine a_iload (q := 7) dX13_move_74 rfl ?_
            obtain ⟨_, e30, hf⟩ := obd hf
            obtain ⟨v28, h29, e27, hf⟩ := ob2 hf
            refine a_callV (as := [.int a2, .int a5]) (np := 2) (ci := 7) (st := []) (sX8_spans E (D - 1) (by omega) e27) dX13_move_76 rfl (by omega) (by decide) cw_X13_237 ⟨wd_1083, wd_1084⟩ rfl (ckT_s e30) rfl (Nat.le_of_ble_eq_true rfl) ?_
            refine a_if_eq (tgt := 94) dX13_move_79 (by decide) (fun c => ?_) (fun c => ?_)
            · have hf := ifp c hf
              refine a_bipush (v := (-13)) dX13_move_94 (by decide) ?_
              obtain ⟨rfl, rfl⟩ := oc2 hf
              exact a_ireturn dX13_move_96 rfl
            · have hf := ifn c hf
              refine a_aload (q := 0) dX13_move_82 rfl ?_
              refine a_iload (q := 6) dX13_move_84 rfl ?_
              refine a_iload (q := 7) dX13_move_86 rfl ?_
              obtain ⟨_, e34, hf⟩ := obd hf
              obtain ⟨v32, h33, e31, hf⟩ := ob2 hf
              refine a_callV (as := [.int a4, .int a5]) (np := 2) (ci := 7) (st := []) (sX8_spans E (D - 1) (by omega) e31) dX13_move_88 rfl (by omega) (by decide) cw_X13_237 ⟨wd_1083, wd_1084⟩ rfl (ckT_s e34) rfl (Nat.le_of_ble_eq_true rfl) ?_
              refine a_if_ne (tgt := 97) dX13_move_91 (by decide) (fun c => ?_) (fun c => ?_)
              · have hf := ifn c hf
                refine a_aload (q := 0) dX13_move_97 rfl ?_
                refine a_aload (q := 1) dX13_move_99 rfl ?_
                refine a_iload_n (q := 4) dX13_move_101 rfl rfl ?_
                refine a_iload (q := 6) dX13_move_102 rfl ?_
                refine a_iload (q := 7) dX13_move_104 rfl ?_
                obtain ⟨_, e37, hf⟩ := obd hf
                obtain ⟨h36, e35, hf⟩ := obd hf
                refine a_callV (as := [.ref v9, .int a2, .int a4, .int a5]) (np := 4) (ci := 7) (st := []) (sX8_take E (D - 1) (by omega) e35) dX13_move_106 rfl (by omega) (by decide) cw_X13_240 ⟨wd_1087, wd_1088⟩ rfl (ckT_s e37) rfl (Nat.le_of_ble_eq_true rfl) ?_
                refine a_iload (q := 7) dX13_move_109 rfl ?_
                obtain ⟨rfl, rfl⟩ := oc2 hf
                exact a_ireturn dX13_move_111 rfl
              · have hf := ifp c hf
                refine a_bipush (v := (-13)) dX13_move_94 (by decide) ?_
                obtain ⟨rfl, rfl⟩ := oc2 hf
                exact a_ireturn dX13_move_96 rfl
          · have hf := ifn c hf
            refine a_bipush (v := (-12)) dX13_move_68 (by decide) ?_
            obtain ⟨rfl, rfl⟩ := oc2 hf
            exact a_ireturn dX13_move_70 rfl
        · have hf := ifn c hf
          refine a_bipush (v := (-11)) dX13_move_52 (by decide) ?_
          obtain ⟨rfl, rfl⟩ := oc2 hf
          exact a_ireturn dX13_move_54 rfl
    · have hf := ifp c hf
      refine a_iconst (v := (-1)) dX13_move_18 (by decide) ?_
      obtain ⟨rfl, rfl⟩ := oc2 hf
      exact a_ireturn dX13_move_19 rfl
def fX13_twin (a0 : Nat) (a1 : Int32) (a2 : Int32) (h : hp) : Option (Int32 × hp) :=
  bd2 (fX13_among a1 6 h) fun v2 h3 =>
  if v2 = 0 then (
    some ((-1), h3)
  ) else (
    bd2 (fX13_among a2 6 h3) fun v5 h6 =>
    if v5 = 0 then (
      some ((-1), h6)
    ) else (
      (gfR h6 a0 12 9).bind fun v7 =>
      (alR 4 h6 v7 a1).bind fun v9 =>
      (ckT h6 v9 7).bind fun _ =>
      bd2 (fX8_isNothing v9 h6) fun v12 h13 =>
      if v12 = 0 then (
        jn (fun (h75j : hp) => (
          (gfI h75j v9 7 1).bind fun v15 =>
          some (v15, h75j)
          : Option (Int32 × hp))) fun k75 =>
        if a1 = a2 then (
          k75 h13
        ) else (
          (gfR h13 a0 12 9).bind fun v17 =>
          (alR 4 h13 v17 a2).bind fun v19 =>
          (gfI h13 v9 7 0).bind fun v21 =>
          (gfI h13 v9 7 1).bind fun v23 =>
          (ckT h13 v19 7).bind fun _ =>
          (fX8_begin v19 v21 v23 h13).bind fun h26 =>
          (gfR h26 a0 12 9).bind fun v28 =>
          (alR 4 h26 v28 a2).bind fun v30 =>
          (gfI h26 v9 7 1).bind fun v32 =>
          (ckT h26 v30 7).bind fun _ =>
          (fX8_take v30 v9 0 0 v32 h26).bind fun h35 =>
          k75 h35
        )
      ) else (
        some ((-11), h13)
      )
    )
  )
set_option maxHeartbeats 4000000 in
set_option maxRecDepth 100000 in
theorem sX13_twin (E : gE) (D : Nat) (hD : 2 ≤ D) {a0 : Nat} {a1 : Int32} {a2 : Int32} {h hz : hp} {v0 : Int32} (hf : fX13_twin a0 a1 a2 h = some (v0, hz)) : MC E yX13_twin cX13_twin (Option.some Jvm.ClassFile.FieldType.int) 4 D [.ref a0, .int a1, .int a2] h (some (.int v0)) hz := by
  refine MC.of (by decide +kernel) (Nat.le_of_ble_eq_true rfl) rfl ?_
  unfold fX13_twin at hf
  show AW E yX13_twin cX13_twin (Option.some Jvm.ClassFile.FieldType.int) 4 D (some (.int v0)) h hz 0 [(0, .ref a0), (1, .int a1), (2, .int a2)] [] h
  refine a_iload_n (q := 1) dX13_twin_0 rfl rfl ?_
  refine a_bipush (v := 6) dX13_twin_1 (by decide) ?_
  obtain ⟨v2, h3, e1, hf⟩ := ob2 hf
  refine a_callS (as := [.int a1, .int 6]) (np := 2) (st := []) (sX13_among E (D - 1) (by omega) e1) dX13_twin_3 rfl (by omega) (by decide) cw_X13_94 wd_268 rfl (Nat.le_of_ble_eq_true rfl) ?_
  refine a_if_eq (tgt := 18) dX13_twin_6 (by decide) (fun c => ?_) (fun c => ?_)
  · have hf := ifp c hf
    refine a_iconst (v := (-1)) dX13_twin_18 (by decide) ?_
    obtain ⟨rfl, rfl⟩ := oc2 hf
    exact a_ireturn dX13_twin_19 rfl
  · have hf := ifn c hf
    refine a_iload_n (q := 2) dX13_twin_9 rfl rfl ?_
    refine a_bipush (v := 6) dX13_twin_10 (by decide) ?_
    obtain ⟨v5, h6, e4, hf⟩ := ob2 hf
    refine a_callS (as := [.int a2, .int 6]) (np := 2) (st := []) (sX13_among E (D - 1) (by omega) e4) dX13_twin_12 rfl (by omega) (by decide) cw_X13_94 wd_268 rfl (Nat.le_of_ble_eq_true rfl) ?_
    refine a_if_ne (tgt := 20) dX13_twin_15 (by decide) (fun c => ?_) (fun c => ?_)
    · have hf := ifn c hf
      refine a_aload_n (q := 0) dX13_twin_20 rfl rfl ?_
      obtain ⟨v7, e8, hf⟩ := obd hf
      refine o_gfR dX13_twin_21 lk_X13_55 rfl e8 ?_
      refine a_iload_n (q := 1) dX13_twin_24 rfl rfl ?_
      obtain ⟨v9, e10, hf⟩ := obd hf
      refine o_alR dX13_twin_25 (by decide) e10 ?_
      refine a_astore_n (lv1 := [(3, .ref v9), (0, .ref a0), (1, .int a1), (2, .int a2)]) dX13_twin_26 rfl (by decide) rfl ?_
      refine a_aload_n (q := 0) dX13_twin_27 rfl rfl ?_
      obtain ⟨_, e14, hf⟩ := obd hf
      obtain ⟨v12, h13, e11, hf⟩ := ob2 hf
      refine a_callV (as := []) (np := 0) (ci := 7) (st := []) (sX8_isNothing E (D - 1) (by omega) e11) dX13_twin_28 rfl (by omega) (by decide) cw_X13_223 ⟨wd_1059, wd_1060⟩ rfl (ckT_s e14) rfl (Nat.le_of_ble_eq_true rfl) ?_
      refine a_if_eq (tgt := 37) dX13_twin_31 (by decide) (fun c => ?_) (fun c => ?_)
      · have hf := ifp c hf
        refine a_iload_n (q := 2) dX13_twin_37 rfl rfl ?_
        refine a_iload_n (q := 3) dX13_twin_38 rfl rfl ?_
        obtain ⟨k75, ek75, hf⟩ := jn_s hf
        have hj75 : ∀ (h75j : hp), k75 h75j = some (v0, hz) → AW E yX13_twin cX13_twin (Option.some Jvm.ClassFile.FieldType.int) 4 D (some (.int v0)) h hz 75 [(3, .ref v9)] [] h75j := by
          intro h75j hf
          rw [ek75] at hf
          clear ek75
          refine a_aload_n (q := 0) dX13_twin_75 rfl rfl ?_
          obtain ⟨v15, e16, hf⟩ := obd hf
          refine o_gfI dX13_twin_76 lk_X13_226 rfl e16 ?_
          obtain ⟨rfl, rfl⟩ := oc2 hf
          exact a_ireturn dX13_twin_79 rfl
        clear ek75
        refine a_icmp_eq (tgt := 75) dX13_twin_39 (by decide) (fun c => ?_) (fun c => ?_)
        · have hf := ifp c hf
          exact AW.sub [0] rfl (hj75 _ hf)
        · have hf := ifn c hf
          refine a_aload_n (q := 1) dX13_twin_42 rfl rfl ?_
          obtain ⟨v17, e18, hf⟩ := obd hf
          refine o_gfR dX13_twin_43 lk_X13_55 rfl e18 ?_
          refine a_iload_n (q := 3) dX13_twin_46 rfl rfl ?_
          obtain ⟨v19, e20, hf⟩ := obd hf
          refine o_alR dX13_twin_47 (by decide) e20 ?_
          refine a_aload_n (q := 0) dX13_twin_48 rfl rfl ?_
          obtain ⟨v21, e22, hf⟩ := obd hf
          refine o_gfI dX13_twin_49 lk_X13_236 rfl e22 ?_
          refine a_aload_n (q := 0) dX13_twin_52 rfl rfl ?_
          obtain ⟨v23, e24, hf⟩ := obd hf
          refine o_gfI dX13_twin_53 lk_X13_226 rfl e24 ?_
          obtain ⟨_, e27, hf⟩ := obd hf
          obtain ⟨h26, e25, hf⟩ := obd hf
          refine a_callV (as := [.int v21, .int v23]) (np := 2) (ci := 7) (st := []) (sX8_begin E (D - 1) (by omega) e25) dX13_twin_56 rfl (by omega) (by decide) cw_X13_221 ⟨wd_1049, wd_1050⟩ rfl (ckT_s e27) rfl (Nat.le_of_ble_eq_true rfl) ?_
          refine a_aload_n (q := 1) dX13_twin_59 rfl rfl ?_
          obtain ⟨v28, e29, hf⟩ := obd hf
          refine o_gfR dX13_twin_60 lk_X13_55 rfl e29 ?_
          refine a_iload_n (q := 3) dX13_twin_63 rfl rfl ?_
          obtain ⟨v30, e31, hf⟩ := obd hf
          refine o_alR dX13_twin_64 (by decide) e31 ?_
          refine a_aload_n (q := 0) dX13_twin_65 rfl rfl ?_
          refine a_iconst (v := 0) dX13_twin_66 (by decide) ?_
          refine a_iconst (v := 0) dX13_twin_67 (by decide) ?_
          refine a_aload_n (q := 0) dX13_twin_68 rfl rfl ?_
          obtain ⟨v32, e33, hf⟩ := obd hf
          refine o_gfI dX13_twin_69 lk_X13_226 rfl e33 ?_
          obtain ⟨_, e36, hf⟩ := obd hf
          obtain ⟨h35, e34, hf⟩ := obd hf
          refine a_callV (as := [.ref v9, .int 0, .int 0, .int v32]) (np := 4) (ci := 7) (st := []) (sX8_take E (D - 1) (by omega) e34) dX13_twin_72 rfl (by omega) (by decide) cw_X13_240 ⟨wd_1087, wd_1088⟩ rfl (ckT_s e36) rfl (Nat.le_of_ble_eq_true rfl) ?_
          exact AW.sub [0] rfl (hj75 _ hf)
      · have hf := ifn c hf
        refine a_bipush (v := (-11)) dX13_twin_34 (by decide) ?_
        obtain ⟨rfl, rfl⟩ := oc2 hf
        exact a_ireturn dX13_twin_36 rfl
    · have hf := ifp c hf
      refine a_iconst (v := (-1)) dX13_twin_18 (by decide) ?_
      obtain ⟨rfl, rfl⟩ := oc2 hf
      exact a_ireturn dX13_twin_19 rfl
def fX13_lay_l31 : Nat → Nat → Int32 → Nat → Int32 → hp → Option (Nat × hp)
  | 0, _, _, _, _, _ => none
  | n + 1, x0, x2, x3, x4, h =>
    (gfR h x0 12 0).bind fun v1 =>
    (gfR h v1 8 2).bind fun v3 =>
    (gfI h v3 4 1).bind fun v5 =>
    if v5 ≤ x4 then (
      some (1, h)
    ) else (
      if x2 < 0 then (
        some (0, h)
      ) else (
        (gfI h x3 7 1).bind fun v7 =>
        if x2 < (v7 - x4) then (
          (gfR h x0 12 0).bind fun v9 =>
          (gfR h v9 8 2).bind fun v11 =>
          (ckT h v11 4).bind fun _ =>
          bd2 (fX5_at v11 x4 h) fun v14 h15 =>
          (ckT h15 x3 7).bind fun _ =>
          (fX8_put x3 (x2 + x4) (v14.toInt64) h15).bind fun h18 =>
          fX13_lay_l31 n x0 x2 x3 (x4 + 1) h18
        ) else (
          some (0, h)
        )
      )
    )
def fX13_lay (a0 : Nat) (a1 : Int32) (a2 : Int32) (h : hp) : Option (Int32 × hp) :=
  bd2 (fX13_among a1 6 h) fun v2 h3 =>
  if v2 = 0 then (
    some ((-1), h3)
  ) else (
    (gfR h3 a0 12 9).bind fun v4 =>
    (alR 4 h3 v4 a1).bind fun v6 =>
    (ckT h3 v6 7).bind fun _ =>
    bd2 (fX8_isNothing v6 h3) fun v9 h10 =>
    if v9 = 0 then (
      bd2 (fX13_lay_l31 FU a0 a2 v6 0 h10) fun t14 h13 =>
      if t14 = 0 then (
        some ((-13), h13)
      ) else
      if t14 = 1 then (
        (gfR h13 a0 12 0).bind fun v15 =>
        (gfR h13 v15 8 2).bind fun v17 =>
        (gfI h13 v17 4 1).bind fun v19 =>
        some (v19, h13)
      ) else none
    ) else (
      some ((-11), h10)
    )
  )
set_option maxHeartbeats 4000000 in
set_option maxRecDepth 100000 in
theorem sX13_lay_l31 (E : gE) (D : Nat) (hD : 2 ≤ D) {rz : Option Value} {h0 hz : hp} : ∀ (n : Nat) (x0 : Nat) (x2 : Int32) (x3 : Nat) (x4 : Int32) (h : hp) (tq : Nat) (hq : hp), fX13_lay_l31 n x0 x2 x3 x4 h = some (tq, hq) → (tq = 0 → AW E yX13_lay cX13_lay (Option.some Jvm.ClassFile.FieldType.int) 5 D rz h0 hz 61 [] [] hq) → (tq = 1 → AW E yX13_lay cX13_lay (Option.some Jvm.ClassFile.FieldType.int) 5 D rz h0 hz 91 [(0, .ref x0)] [] hq) → AW E yX13_lay cX13_lay (Option.some Jvm.ClassFile.FieldType.int) 5 D rz h0 hz 31 [(0, .ref x0), (2, .int x2), (3, .ref x3), (4, .int x4)] [] h := by
  intro n
  induction n with
  | zero =>
    intro x0 x2 x3 x4 h tq hq hf _ _
    rw [fX13_lay_l31] at hf
    cases hf
  | succ n ih =>
    intro x0 x2 x3 x4 h tq hq hf hk0 hk1
    rw [fX13_lay_l31] at hf
    refine a_iload (q := 3) dX13_lay_31 rfl ?_
    refine a_aload_n (q := 0) dX13_lay_33 rfl rfl ?_
    obtain ⟨v1, e2, hf⟩ := obd hf
    refine o_gfR dX13_lay_34 lk_X13_22 rfl e2 ?_
    obtain ⟨v3, e4, hf⟩ := obd hf
    refine o_gfR dX13_lay_37 lk_X13_185 rfl e4 ?_
    obtain ⟨v5, e6, hf⟩ := obd hf
    refine o_gfI dX13_lay_40 lk_X13_123 rfl e6 ?_
    refine a_icmp_ge (tgt := 91) dX13_lay_43 (by decide) (fun c => ?_) (fun c => ?_)
    · have hf := ifp c hf
      obtain ⟨rfl, rfl⟩ := oc2 hf
      exact AW.sub [0] rfl (hk1 rfl)
    · have hf := ifn c hf
      refine a_iload_n (q := 1) dX13_lay_46 rfl rfl ?_
      refine a_if_lt (tgt := 61) dX13_lay_47 (by decide) (fun c => ?_) (fun c => ?_)
      · have hf := ifp c hf
        obtain ⟨rfl, rfl⟩ := oc2 hf
        exact AW.sub [] rfl (hk0 rfl)
      · have hf := ifn c hf
        refine a_iload_n (q := 1) dX13_lay_50 rfl rfl ?_
        refine a_aload_n (q := 2) dX13_lay_51 rfl rfl ?_
        obtain ⟨v7, e8, hf⟩ := obd hf
        refine o_gfI dX13_lay_52 lk_X13_226 rfl e8 ?_
        refine a_iload (q := 3) dX13_lay_55 rfl ?_
        refine a_isub dX13_lay_57 ?_
        refine a_icmp_lt (tgt := 64) dX13_lay_58 (by decide) (fun c => ?_) (fun c => ?_)
        · have hf := ifp c hf
          refine a_aload_n (q := 2) dX13_lay_64 rfl rfl ?_
          refine a_iload_n (q := 1) dX13_lay_65 rfl rfl ?_
          refine a_iload (q := 3) dX13_lay_66 rfl ?_
          refine a_iadd dX13_lay_68 ?_
          refine a_aload_n (q := 0) dX13_lay_69 rfl rfl ?_
          obtain ⟨v9, e10, hf⟩ := obd hf
          refine o_gfR dX13_lay_70 lk_X13_22 rfl e10 ?_
          obtain ⟨v11, e12, hf⟩ := obd hf
          refine o_gfR dX13_lay_73 lk_X13_185 rfl e12 ?_
          refine a_iload (q := 3) dX13_lay_76 rfl ?_
          obtain ⟨_, e16, hf⟩ := obd hf
          obtain ⟨v14, h15, e13, hf⟩ := ob2 hf
          refine a_callV (as := [.int x4]) (np := 1) (ci := 4) (st := [.int (x2 + x4), .ref x3]) (sX5_at E (D - 1) (by omega) e13) dX13_lay_78 rfl (by omega) (by decide) cw_X13_118 ⟨wd_313, wd_314⟩ rfl (ckT_s e16) rfl (Nat.le_of_ble_eq_true rfl) ?_
          refine a_i2l dX13_lay_81 rfl ?_
          obtain ⟨_, e19, hf⟩ := obd hf
          obtain ⟨h18, e17, hf⟩ := obd hf
          refine a_callV (as := [.int (x2 + x4), .long (v14.toInt64)]) (np := 2) (ci := 7) (st := []) (sX8_put E (D - 1) (by omega) e17) dX13_lay_82 rfl (by omega) (by decide) cw_X13_227 ⟨wd_1063, wd_1064⟩ rfl (ckT_s e19) rfl (Nat.le_of_ble_eq_true rfl) ?_
          refine a_iinc (q := 3) (v := (x4 + 1)) (lv1 := [(4, .int (x4 + 1)), (0, .ref x0), (2, .int x2), (3, .ref x3)]) dX13_lay_85 rfl (by rfl) (by decide) rfl ?_
          refine a_goto (tgt := 31) dX13_lay_88 (by decide) ?_
          exact AW.sub [1, 2, 3, 0] rfl (ih _ _ _ _ _ _ _ hf hk0 hk1)
        · have hf := ifn c hf
          obtain ⟨rfl, rfl⟩ := oc2 hf
          exact AW.sub [] rfl (hk0 rfl)
set_option maxHeartbeats 4000000 in
set_option maxRecDepth 100000 in
theorem sX13_lay (E : gE) (D : Nat) (hD : 2 ≤ D) {a0 : Nat} {a1 : Int32} {a2 : Int32} {h hz : hp} {v0 : Int32} (hf : fX13_lay a0 a1 a2 h = some (v0, hz)) : MC E yX13_lay cX13_lay (Option.some Jvm.ClassFile.FieldType.int) 5 D [.ref a0, .int a1, .int a2] h (some (.int v0)) hz := by
  refine MC.of (by decide +kernel) (Nat.le_of_ble_eq_true rfl) rfl ?_
  unfold fX13_lay at hf
  show AW E yX13_lay cX13_lay (Option.some Jvm.ClassFile.FieldType.int) 5 D (some (.int v0)) h hz 0 [(0, .ref a0), (1, .int a1), (2, .int a2)] [] h
  refine a_iload_n (q := 1) dX13_lay_0 rfl rfl ?_
  refine a_bipush (v := 6) dX13_lay_1 (by decide) ?_
  obtain ⟨v2, h3, e1, hf⟩ := ob2 hf
  refine a_callS (as := [.int a1, .int 6]) (np := 2) (st := []) (sX13_among E (D - 1) (by omega) e1) dX13_lay_3 rfl (by omega) (by decide) cw_X13_94 wd_268 rfl (Nat.le_of_ble_eq_true rfl) ?_
  refine a_if_ne (tgt := 11) dX13_lay_6 (by decide) (fun c => ?_) (fun c => ?_)
  · have hf := ifn c hf
    refine a_aload_n (q := 0) dX13_lay_11 rfl rfl ?_
    obtain ⟨v4, e5, hf⟩ := obd hf
    refine o_gfR dX13_lay_12 lk_X13_55 rfl e5 ?_
    refine a_iload_n (q := 1) dX13_lay_15 rfl rfl ?_
    obtain ⟨v6, e7, hf⟩ := obd hf
    refine o_alR dX13_lay_16 (by decide) e7 ?_
    refine a_astore_n (lv1 := [(3, .ref v6), (0, .ref a0), (1, .int a1), (2, .int a2)]) dX13_lay_17 rfl (by decide) rfl ?_
    refine a_aload_n (q := 0) dX13_lay_18 rfl rfl ?_
    obtain ⟨_, e11, hf⟩ := obd hf
    obtain ⟨v9, h10, e8, hf⟩ := ob2 hf
    refine a_callV (as := []) (np := 0) (ci := 7) (st := []) (sX8_isNothing E (D - 1) (by omega) e8) dX13_lay_19 rfl (by omega) (by decide) cw_X13_223 ⟨wd_1059, wd_1060⟩ rfl (ckT_s e11) rfl (Nat.le_of_ble_eq_true rfl) ?_
    refine a_if_eq (tgt := 28) dX13_lay_22 (by decide) (fun c => ?_) (fun c => ?_)
    · have hf := ifp c hf
      refine a_iconst (v := 0) dX13_lay_28 (by decide) ?_
      refine a_istore (lv1 := [(4, .int 0), (3, .ref v6), (0, .ref a0), (1, .int a1), (2, .int a2)]) dX13_lay_29 (by decide) rfl ?_
      obtain ⟨t14, h13, e12, hf⟩ := ob2 hf
      refine AW.sub [2, 4, 1, 0] rfl (sX13_lay_l31 E D hD _ _ _ _ _ _ _ _ e12 (fun c => ?_) (fun c => ?_))
      · have hf := ifp c hf
        refine a_bipush (v := (-13)) dX13_lay_61 (by decide) ?_
        obtain ⟨rfl, rfl⟩ := oc2 hf
        exact a_ireturn dX13_lay_63 rfl
      · have hf := ifn (by rw [c]; decide) hf
        have hf := ifp c hf
        refine a_aload_n (q := 0) dX13_lay_91 rfl rfl ?_
        obtain ⟨v15, e16, hf⟩ := obd hf
        refine o_gfR dX13_lay_92 lk_X13_22 rfl e16 ?_
        obtain ⟨v17, e18, hf⟩ := obd hf
        refine o_gfR dX13_lay_95 lk_X13_185 rfl e18 ?_
        obtain ⟨v19, e20, hf⟩ := obd hf
        refine o_gfI dX13_lay_98 lk_X13_123 rfl e20 ?_
        obtain ⟨rfl, rfl⟩ := oc2 hf
        exact a_ireturn dX13_lay_101 rfl
    · have hf := ifn c hf
      refine a_bipush (v := (-11)) dX13_lay_25 (by decide) ?_
      obtain ⟨rfl, rfl⟩ := oc2 hf
      exact a_ireturn dX13_lay_27 rfl
  · have hf := ifp c hf
    refine a_iconst (v := (-1)) dX13_lay_9 (by decide) ?_
    obtain ⟨rfl, rfl⟩ := oc2 hf
    exact a_ireturn dX13_lay_10 rfl
def fX13_judge_l31 : Nat → Nat → Int32 → Nat → Int32 → hp → Option (Nat × Int32 × hp)
  | 0, _, _, _, _, _ => none
  | n + 1, x0, x2, x3, x4, h =>
    (gfR h x0 12 0).bind fun v1 =>
    (gfR h v1 8 2).bind fun v3 =>
    (gfI h v3 4 1).bind fun v5 =>
    if v5 ≤ x4 then (
      some (2, x4, h)
    ) else (
      if x2 < 0 then (
        some (0, x4, h)
      ) else (
        (gfI h x3 7 1).bind fun v7 =>
        if x2 < (v7 - x4) then (
          (ckT h x3 7).bind fun _ =>
          bd2 (fX8_whole x3 (x2 + x4) h) fun v10 h11 =>
          (gfR h11 x0 12 0).bind fun v13 =>
          (gfR h11 v13 8 2).bind fun v15 =>
          (ckT h11 v15 4).bind fun _ =>
          bd2 (fX5_at v15 x4 h11) fun v18 h19 =>
          if v10 = v18 then (
            fX13_judge_l31 n x0 x2 x3 (x4 + 1) h19
          ) else (
            some (1, x4, h19)
          )
        ) else (
          some (0, x4, h)
        )
      )
    )
def fX13_judge (a0 : Nat) (a1 : Int32) (a2 : Int32) (h : hp) : Option (Int32 × hp) :=
  bd2 (fX13_among a1 6 h) fun v2 h3 =>
  if v2 = 0 then (
    some ((-1), h3)
  ) else (
    (gfR h3 a0 12 9).bind fun v4 =>
    (alR 4 h3 v4 a1).bind fun v6 =>
    (ckT h3 v6 7).bind fun _ =>
    bd2 (fX8_isNothing v6 h3) fun v9 h10 =>
    if v9 = 0 then (
      bd3 (fX13_judge_l31 FU a0 a2 v6 0 h10) fun t15 v14 h13 =>
      if t15 = 0 then (
        some ((100 + v14), h13)
      ) else
      if t15 = 1 then (
        some (v14, h13)
      ) else
      if t15 = 2 then (
        some ((-5), h13)
      ) else none
    ) else (
      some ((-11), h10)
    )
  )
set_option maxHeartbeats 4000000 in
set_option maxRecDepth 100000 in
theorem sX13_judge_l31 (E : gE) (D : Nat) (hD : 2 ≤ D) {rz : Option Value} {h0 hz : hp} : ∀ (n : Nat) (x0 : Nat) (x2 : Int32) (x3 : Nat) (x4 : Int32) (h : hp) (tq : Nat) (m4 : Int32) (hq : hp), fX13_judge_l31 n x0 x2 x3 x4 h = some (tq, m4, hq) → (tq = 0 → AW E yX13_judge cX13_judge (Option.some Jvm.ClassFile.FieldType.int) 5 D rz h0 hz 61 [(4, .int m4)] [] hq) → (tq = 1 → AW E yX13_judge cX13_judge (Option.some Jvm.ClassFile.FieldType.int) 5 D rz h0 hz 90 [(4, .int m4)] [] hq) → (tq = 2 → AW E yX13_judge cX13_judge (Option.some Jvm.ClassFile.FieldType.int) 5 D rz h0 hz 99 [] [] hq) → AW E yX13_judge cX13_judge (Option.some Jvm.ClassFile.FieldType.int) 5 D rz h0 hz 31 [(0, .ref x0), (2, .int x2), (3, .ref x3), (4, .int x4)] [] h := by
  intro n
  induction n with
  | zero =>
    intro x0 x2 x3 x4 h tq m4 hq hf _ _ _
    rw [fX13_judge_l31] at hf
    cases hf
  | succ n ih =>
    intro x0 x2 x3 x4 h tq m4 hq hf hk0 hk1 hk2
    rw [fX13_judge_l31] at hf
    refine a_iload (q := 3) dX13_judge_31 rfl ?_
    refine a_aload_n (q := 0) dX13_judge_33 rfl rfl ?_
    obtain ⟨v1, e2, hf⟩ := obd hf
    refine o_gfR dX13_judge_34 lk_X13_22 rfl e2 ?_
    obtain ⟨v3, e4, hf⟩ := obd hf
    refine o_gfR dX13_judge_37 lk_X13_185 rfl e4 ?_
    obtain ⟨v5, e6, hf⟩ := obd hf
    refine o_gfI dX13_judge_40 lk_X13_123 rfl e6 ?_
    refine a_icmp_ge (tgt := 99) dX13_judge_43 (by decide) (fun c => ?_) (fun c => ?_)
    · have hf := ifp c hf
      obtain ⟨rfl, rfl, rfl⟩ := oc3 hf
      exact AW.sub [] rfl (hk2 rfl)
    · have hf := ifn c hf
      refine a_iload_n (q := 1) dX13_judge_46 rfl rfl ?_
      refine a_if_lt (tgt := 61) dX13_judge_47 (by decide) (fun c => ?_) (fun c => ?_)
      · have hf := ifp c hf
        obtain ⟨rfl, rfl, rfl⟩ := oc3 hf
        exact AW.sub [3] rfl (hk0 rfl)
      · have hf := ifn c hf
        refine a_iload_n (q := 1) dX13_judge_50 rfl rfl ?_
        refine a_aload_n (q := 2) dX13_judge_51 rfl rfl ?_
        obtain ⟨v7, e8, hf⟩ := obd hf
        refine o_gfI dX13_judge_52 lk_X13_226 rfl e8 ?_
        refine a_iload (q := 3) dX13_judge_55 rfl ?_
        refine a_isub dX13_judge_57 ?_
        refine a_icmp_lt (tgt := 67) dX13_judge_58 (by decide) (fun c => ?_) (fun c => ?_)
        · have hf := ifp c hf
          refine a_aload_n (q := 2) dX13_judge_67 rfl rfl ?_
          refine a_iload_n (q := 1) dX13_judge_68 rfl rfl ?_
          refine a_iload (q := 3) dX13_judge_69 rfl ?_
          refine a_iadd dX13_judge_71 ?_
          obtain ⟨_, e12, hf⟩ := obd hf
          obtain ⟨v10, h11, e9, hf⟩ := ob2 hf
          refine a_callV (as := [.int (x2 + x4)]) (np := 1) (ci := 7) (st := []) (sX8_whole E (D - 1) (by omega) e9) dX13_judge_72 rfl (by omega) (by decide) cw_X13_244 ⟨wd_1105, wd_1106⟩ rfl (ckT_s e12) rfl (Nat.le_of_ble_eq_true rfl) ?_
          refine a_aload_n (q := 0) dX13_judge_75 rfl rfl ?_
          obtain ⟨v13, e14, hf⟩ := obd hf
          refine o_gfR dX13_judge_76 lk_X13_22 rfl e14 ?_
          obtain ⟨v15, e16, hf⟩ := obd hf
          refine o_gfR dX13_judge_79 lk_X13_185 rfl e16 ?_
          refine a_iload (q := 3) dX13_judge_82 rfl ?_
          obtain ⟨_, e20, hf⟩ := obd hf
          obtain ⟨v18, h19, e17, hf⟩ := ob2 hf
          refine a_callV (as := [.int x4]) (np := 1) (ci := 4) (st := [.int v10]) (sX5_at E (D - 1) (by omega) e17) dX13_judge_84 rfl (by omega) (by decide) cw_X13_118 ⟨wd_313, wd_314⟩ rfl (ckT_s e20) rfl (Nat.le_of_ble_eq_true rfl) ?_
          refine a_icmp_eq (tgt := 93) dX13_judge_87 (by decide) (fun c => ?_) (fun c => ?_)
          · have hf := ifp c hf
            refine a_iinc (q := 3) (v := (x4 + 1)) (lv1 := [(4, .int (x4 + 1)), (0, .ref x0), (2, .int x2), (3, .ref x3)]) dX13_judge_93 rfl (by rfl) (by decide) rfl ?_
            refine a_goto (tgt := 31) dX13_judge_96 (by decide) ?_
            exact AW.sub [1, 2, 3, 0] rfl (ih _ _ _ _ _ _ _ _ hf hk0 hk1 hk2)
          · have hf := ifn c hf
            obtain ⟨rfl, rfl, rfl⟩ := oc3 hf
            exact AW.sub [3] rfl (hk1 rfl)
        · have hf := ifn c hf
          obtain ⟨rfl, rfl, rfl⟩ := oc3 hf
          exact AW.sub [3] rfl (hk0 rfl)
set_option maxHeartbeats 4000000 in
set_option maxRecDepth 100000 in
theorem sX13_judge (E : gE) (D : Nat) (hD : 2 ≤ D) {a0 : Nat} {a1 : Int32} {a2 : Int32} {h hz : hp} {v0 : Int32} (hf : fX13_judge a0 a1 a2 h = some (v0, hz)) : MC E yX13_judge cX13_judge (Option.some Jvm.ClassFile.FieldType.int) 5 D [.ref a0, .int a1, .int a2] h (some (.int v0)) hz := by
  refine MC.of (by decide +kernel) (Nat.le_of_ble_eq_true rfl) rfl ?_
  unfold fX13_judge at hf
  show AW E yX13_judge cX13_judge (Option.some Jvm.ClassFile.FieldType.int) 5 D (some (.int v0)) h hz 0 [(0, .ref a0), (1, .int a1), (2, .int a2)] [] h
  refine a_iload_n (q := 1) dX13_judge_0 rfl rfl ?_
  refine a_bipush (v := 6) dX13_judge_1 (by decide) ?_
  obtain ⟨v2, h3, e1, hf⟩ := ob2 hf
  refine a_callS (as := [.int a1, .int 6]) (np := 2) (st := []) (sX13_among E (D - 1) (by omega) e1) dX13_judge_3 rfl (by omega) (by decide) cw_X13_94 wd_268 rfl (Nat.le_of_ble_eq_true rfl) ?_
  refine a_if_ne (tgt := 11) dX13_judge_6 (by decide) (fun c => ?_) (fun c => ?_)
  · have hf := ifn c hf
    refine a_aload_n (q := 0) dX13_judge_11 rfl rfl ?_
    obtain ⟨v4, e5, hf⟩ := obd hf
    refine o_gfR dX13_judge_12 lk_X13_55 rfl e5 ?_
    refine a_iload_n (q := 1) dX13_judge_15 rfl rfl ?_
    obtain ⟨v6, e7, hf⟩ := obd hf
    refine o_alR dX13_judge_16 (by decide) e7 ?_
    refine a_astore_n (lv1 := [(3, .ref v6), (0, .ref a0), (1, .int a1), (2, .int a2)]) dX13_judge_17 rfl (by decide) rfl ?_
    refine a_aload_n (q := 0) dX13_judge_18 rfl rfl ?_
    obtain ⟨_, e11, hf⟩ := obd hf
    obtain ⟨v9, h10, e8, hf⟩ := ob2 hf
    refine a_callV (as := []) (np := 0) (ci := 7) (st := []) (sX8_isNothing E (D - 1) (by omega) e8) dX13_judge_19 rfl (by omega) (by decide) cw_X13_223 ⟨wd_1059, wd_1060⟩ rfl (ckT_s e11) rfl (Nat.le_of_ble_eq_true rfl) ?_
    refine a_if_eq (tgt := 28) dX13_judge_22 (by decide) (fun c => ?_) (fun c => ?_)
    · have hf := ifp c hf
      refine a_iconst (v := 0) dX13_judge_28 (by decide) ?_
      refine a_istore (lv1 := [(4, .int 0), (3, .ref v6), (0, .ref a0), (1, .int a1), (2, .int a2)]) dX13_judge_29 (by decide) rfl ?_
      obtain ⟨t15, v14, h13, e12, hf⟩ := ob3 hf
      refine AW.sub [2, 4, 1, 0] rfl (sX13_judge_l31 E D hD _ _ _ _ _ _ _ _ _ e12 (fun c => ?_) (fun c => ?_) (fun c => ?_))
      · have hf := ifp c hf
        refine a_bipush (v := 100) dX13_judge_61 (by decide) ?_
        refine a_iload (q := 0) dX13_judge_63 rfl ?_
        refine a_iadd dX13_judge_65 ?_
        obtain ⟨rfl, rfl⟩ := oc2 hf
        exact a_ireturn dX13_judge_66 rfl
      · have hf := ifn (by rw [c]; decide) hf
        have hf := ifp c hf
        refine a_iload (q := 0) dX13_judge_90 rfl ?_
        obtain ⟨rfl, rfl⟩ := oc2 hf
        exact a_ireturn dX13_judge_92 rfl
      · have hf := ifn (by rw [c]; decide) hf
        have hf := ifn (by rw [c]; decide) hf
        have hf := ifp c hf
        refine a_bipush (v := (-5)) dX13_judge_99 (by decide) ?_
        obtain ⟨rfl, rfl⟩ := oc2 hf
        exact a_ireturn dX13_judge_101 rfl
    · have hf := ifn c hf
      refine a_bipush (v := (-11)) dX13_judge_25 (by decide) ?_
      obtain ⟨rfl, rfl⟩ := oc2 hf
      exact a_ireturn dX13_judge_27 rfl
  · have hf := ifp c hf
    refine a_iconst (v := (-1)) dX13_judge_9 (by decide) ?_
    obtain ⟨rfl, rfl⟩ := oc2 hf
    exact a_ireturn dX13_judge_10 rfl
def fX13_image (a0 : Nat) (h : hp) : Option (Int32 × hp) :=
  (gfR h a0 12 1).bind fun v1 =>
  (gfR h a0 12 0).bind fun v3 =>
  (ckT h v1 8).bind fun _ =>
  (fX9_copy v1 v3 h).bind fun h6 =>
  (pfZ h6 a0 12 2 1).bind fun h8 =>
  (gfR h8 a0 12 0).bind fun v10 =>
  (ckT h8 v10 8).bind fun _ =>
  bd2 (fX9_holding v10 h8) fun v13 h14 =>
  some (v13, h14)
set_option maxHeartbeats 4000000 in
set_option maxRecDepth 100000 in
theorem sX13_image (E : gE) (D : Nat) (hD : 3 ≤ D) {a0 : Nat} {h hz : hp} {v0 : Int32} (hf : fX13_image a0 h = some (v0, hz)) : MC E yX13_image cX13_image (Option.some Jvm.ClassFile.FieldType.int) 1 D [.ref a0] h (some (.int v0)) hz := by
  refine MC.of (by decide +kernel) (Nat.le_of_ble_eq_true rfl) rfl ?_
  unfold fX13_image at hf
  show AW E yX13_image cX13_image (Option.some Jvm.ClassFile.FieldType.int) 1 D (some (.int v0)) h hz 0 [(0, .ref a0)] [] h
  refine a_aload_n (q := 0) dX13_image_0 rfl rfl ?_
  obtain ⟨v1, e2, hf⟩ := obd hf
  refine o_gfR dX13_image_1 lk_X13_26 rfl e2 ?_
  refine a_aload_n (q := 0) dX13_image_4 rfl rfl ?_
  obtain ⟨v3, e4, hf⟩ := obd hf
  refine o_gfR dX13_image_5 lk_X13_22 rfl e4 ?_
  obtain ⟨_, e7, hf⟩ := obd hf
  obtain ⟨h6, e5, hf⟩ := obd hf
  refine a_callV (as := [.ref v3]) (np := 1) (ci := 8) (st := []) (sX9_copy E (D - 1) (by omega) e5) dX13_image_8 rfl (by omega) (by decide) cw_X13_247 ⟨wd_1113, wd_1114⟩ rfl (ckT_s e7) rfl (Nat.le_of_ble_eq_true rfl) ?_
  refine a_aload_n (q := 0) dX13_image_11 rfl rfl ?_
  refine a_iconst (v := 1) dX13_image_12 (by decide) ?_
  obtain ⟨h8, e9, hf⟩ := obd hf
  refine o_pfZ dX13_image_13 lk_X13_250 (⟨_, rfl, Or.inl rfl⟩) rfl e9 ?_
  refine a_aload_n (q := 0) dX13_image_16 rfl rfl ?_
  obtain ⟨v10, e11, hf⟩ := obd hf
  refine o_gfR dX13_image_17 lk_X13_22 rfl e11 ?_
  obtain ⟨_, e15, hf⟩ := obd hf
  obtain ⟨v13, h14, e12, hf⟩ := ob2 hf
  refine a_callV (as := []) (np := 0) (ci := 8) (st := []) (sX9_holding E (D - 1) (by omega) e12) dX13_image_20 rfl (by omega) (by decide) cw_X13_212 ⟨wd_1033, wd_1034⟩ rfl (ckT_s e15) rfl (Nat.le_of_ble_eq_true rfl) ?_
  obtain ⟨rfl, rfl⟩ := oc2 hf
  exact a_ireturn dX13_image_23 rfl
def fX13_undo (a0 : Nat) (h : hp) : Option (Int32 × hp) :=
  (gfI h a0 12 2).bind fun v1 =>
  if v1 = 0 then (
    some ((-3), h)
  ) else (
    (gfR h a0 12 0).bind fun v3 =>
    (gfR h a0 12 1).bind fun v5 =>
    (ckT h v3 8).bind fun _ =>
    (fX9_copy v3 v5 h).bind fun h8 =>
    (gfR h8 a0 12 0).bind fun v10 =>
    (ckT h8 v10 8).bind fun _ =>
    bd2 (fX9_holding v10 h8) fun v13 h14 =>
    some (v13, h14)
  )
set_option maxHeartbeats 4000000 in
set_option maxRecDepth 100000 in
theorem sX13_undo (E : gE) (D : Nat) (hD : 3 ≤ D) {a0 : Nat} {h hz : hp} {v0 : Int32} (hf : fX13_undo a0 h = some (v0, hz)) : MC E yX13_undo cX13_undo (Option.some Jvm.ClassFile.FieldType.int) 1 D [.ref a0] h (some (.int v0)) hz := by
  refine MC.of (by decide +kernel) (Nat.le_of_ble_eq_true rfl) rfl ?_
  unfold fX13_undo at hf
  show AW E yX13_undo cX13_undo (Option.some Jvm.ClassFile.FieldType.int) 1 D (some (.int v0)) h hz 0 [(0, .ref a0)] [] h
  refine a_aload_n (q := 0) dX13_undo_0 rfl rfl ?_
  obtain ⟨v1, e2, hf⟩ := obd hf
  refine o_gfI dX13_undo_1 lk_X13_250 rfl e2 ?_
  refine a_if_ne (tgt := 10) dX13_undo_4 (by decide) (fun c => ?_) (fun c => ?_)
  · have hf := ifn c hf
    refine a_aload_n (q := 0) dX13_undo_10 rfl rfl ?_
    obtain ⟨v3, e4, hf⟩ := obd hf
    refine o_gfR dX13_undo_11 lk_X13_22 rfl e4 ?_
    refine a_aload_n (q := 0) dX13_undo_14 rfl rfl ?_
    obtain ⟨v5, e6, hf⟩ := obd hf
    refine o_gfR dX13_undo_15 lk_X13_26 rfl e6 ?_
    obtain ⟨_, e9, hf⟩ := obd hf
    obtain ⟨h8, e7, hf⟩ := obd hf
    refine a_callV (as := [.ref v5]) (np := 1) (ci := 8) (st := []) (sX9_copy E (D - 1) (by omega) e7) dX13_undo_18 rfl (by omega) (by decide) cw_X13_247 ⟨wd_1113, wd_1114⟩ rfl (ckT_s e9) rfl (Nat.le_of_ble_eq_true rfl) ?_
    refine a_aload_n (q := 0) dX13_undo_21 rfl rfl ?_
    obtain ⟨v10, e11, hf⟩ := obd hf
    refine o_gfR dX13_undo_22 lk_X13_22 rfl e11 ?_
    obtain ⟨_, e15, hf⟩ := obd hf
    obtain ⟨v13, h14, e12, hf⟩ := ob2 hf
    refine a_callV (as := []) (np := 0) (ci := 8) (st := []) (sX9_holding E (D - 1) (by omega) e12) dX13_undo_25 rfl (by omega) (by decide) cw_X13_212 ⟨wd_1033, wd_1034⟩ rfl (ckT_s e15) rfl (Nat.le_of_ble_eq_true rfl) ?_
    obtain ⟨rfl, rfl⟩ := oc2 hf
    exact a_ireturn dX13_undo_28 rfl
  · have hf := ifp c hf
    refine a_bipush (v := (-3)) dX13_undo_7 (by decide) ?_
    obtain ⟨rfl, rfl⟩ := oc2 hf
    exact a_ireturn dX13_undo_9 rfl
def fX14_init_l344 : Nat → Nat → Int32 → hp → Option hp
  | 0, _, _, _ => none
  | n + 1, x0, x1, h =>
    if 6 ≤ x1 then (
      some (h)
    ) else (
      (gfR h x0 13 9).bind fun v1 =>
      (asI h v1 x1 (-1)).bind fun h3 =>
      (gfR h3 x0 13 52).bind fun v5 =>
      (asI h3 v5 x1 (-1)).bind fun h7 =>
      (gfR h7 x0 13 48).bind fun v9 =>
      (asI h7 v9 x1 (-1)).bind fun h11 =>
      fX14_init_l344 n x0 (x1 + 1) h11
    )
def fX14_init (a0 : Nat) (h : hp) : Option hp :=
  (ckT h a0 13).bind fun _ =>
  bd2 (nwA h 0 10) fun v2 h3 =>
  (pfR h3 a0 13 0 v2).bind fun h5 =>
  bd2 (nwA h5 0 10) fun v7 h8 =>
  (pfR h8 a0 13 1 v7).bind fun h10 =>
  bd2 (nwA h10 0 10) fun v12 h13 =>
  (pfR h13 a0 13 2 v12).bind fun h15 =>
  bd2 (nwA h15 0 160) fun v17 h18 =>
  (pfR h18 a0 13 3 v17).bind fun h20 =>
  bd2 (nwA h20 1 10) fun v22 h23 =>
  (pfR h23 a0 13 4 v22).bind fun h25 =>
  bd2 (nwA h25 0 64) fun v27 h28 =>
  (pfR h28 a0 13 5 v27).bind fun h30 =>
  bd2 (nwA h30 0 160) fun v32 h33 =>
  (pfR h33 a0 13 7 v32).bind fun h35 =>
  bd2 (nwA h35 0 960) fun v37 h38 =>
  (pfR h38 a0 13 8 v37).bind fun h40 =>
  bd2 (nwA h40 0 6) fun v42 h43 =>
  (pfR h43 a0 13 9 v42).bind fun h45 =>
  (gfR h45 a0 13 7).bind fun v47 =>
  (pfR h45 a0 13 11 v47).bind fun h49 =>
  bd2 (nwA h49 0 400) fun v51 h52 =>
  (pfR h52 a0 13 19 v51).bind fun h54 =>
  bd2 (nwA h54 0 400) fun v56 h57 =>
  (pfR h57 a0 13 20 v56).bind fun h59 =>
  (pfI h59 a0 13 24 200).bind fun h61 =>
  bd2 (nwA h61 0 640) fun v63 h64 =>
  (pfR h64 a0 13 25 v63).bind fun h66 =>
  bd2 (nwA h66 0 640) fun v68 h69 =>
  (pfR h69 a0 13 26 v68).bind fun h71 =>
  bd2 (nwA h71 0 640) fun v73 h74 =>
  (pfR h74 a0 13 27 v73).bind fun h76 =>
  bd2 (nwA h76 0 10240) fun v78 h79 =>
  (pfR h79 a0 13 28 v78).bind fun h81 =>
  bd2 (nwA h81 1 640) fun v83 h84 =>
  (pfR h84 a0 13 29 v83).bind fun h86 =>
  bd2 (nwA h86 0 72) fun v88 h89 =>
  (pfR h89 a0 13 31 v88).bind fun h91 =>
  bd2 (nwA h91 0 12) fun v93 h94 =>
  (pfR h94 a0 13 32 v93).bind fun h96 =>
  bd2 (nwA h96 0 12) fun v98 h99 =>
  (pfR h99 a0 13 33 v98).bind fun h101 =>
  bd2 (nwA h101 0 12) fun v103 h104 =>
  (pfR h104 a0 13 34 v103).bind fun h106 =>
  bd2 (nwA h106 0 80) fun v108 h109 =>
  (pfR h109 a0 13 39 v108).bind fun h111 =>
  bd2 (nwA h111 0 480) fun v113 h114 =>
  (pfR h114 a0 13 40 v113).bind fun h116 =>
  bd2 (nwA h116 0 80) fun v118 h119 =>
  (pfR h119 a0 13 41 v118).bind fun h121 =>
  bd2 (nwA h121 0 128) fun v123 h124 =>
  (pfR h124 a0 13 44 v123).bind fun h126 =>
  bd2 (nwA h126 0 128) fun v128 h129 =>
  (pfR h129 a0 13 45 v128).bind fun h131 =>
  bd2 (nwA h131 0 128) fun v133 h134 =>
  (pfR h134 a0 13 46 v133).bind fun h136 =>
  bd2 (nwA h136 0 6) fun v138 h139 =>
  (pfR h139 a0 13 48 v138).bind fun h141 =>
  bd2 (nwA h141 0 6) fun v143 h144 =>
  (pfR h144 a0 13 49 v143).bind fun h146 =>
  bd2 (nwA h146 0 360) fun v148 h149 =>
  (pfR h149 a0 13 50 v148).bind fun h151 =>
  bd2 (nwA h151 1 360) fun v153 h154 =>
  (pfR h154 a0 13 51 v153).bind fun h156 =>
  bd2 (nwA h156 0 6) fun v158 h159 =>
  (pfR h159 a0 13 52 v158).bind fun h161 =>
  bd2 (nwA h161 0 960) fun v163 h164 =>
  (pfR h164 a0 13 53 v163).bind fun h166 =>
  bd2 (nwA h166 0 400) fun v168 h169 =>
  (pfR h169 a0 13 54 v168).bind fun h171 =>
  bd2 (nwA h171 0 8) fun v173 h174 =>
  (pfR h174 a0 13 55 v173).bind fun h176 =>
  bd2 (nwA h176 0 8) fun v178 h179 =>
  (pfR h179 a0 13 56 v178).bind fun h181 =>
  bd2 (nwA h181 0 8) fun v183 h184 =>
  (pfR h184 a0 13 57 v183).bind fun h186 =>
  bd2 (nwA h186 0 128) fun v188 h189 =>
  (pfR h189 a0 13 58 v188).bind fun h191 =>
  bd2 (nwA h191 1 8) fun v193 h194 =>
  (pfR h194 a0 13 59 v193).bind fun h196 =>
  (fX14_init_l344 FU a0 0 h196).bind fun h199 =>
  some h199
set_option maxHeartbeats 4000000 in
set_option maxRecDepth 100000 in
theorem sX14_init_l344 (E : gE) (D : Nat) (hD : 1 ≤ D) {rz : Option Value} {h0 hz : hp} : ∀ (n : Nat) (x0 : Nat) (x1 : Int32) (h : hp) (hq : hp), fX14_init_l344 n x0 x1 h = some hq → (AW E yX14_init cX14_init (Option.none : Option Jvm.ClassFile.FieldType) 2 D rz h0 hz 377 [] [] hq) → AW E yX14_init cX14_init (Option.none : Option Jvm.ClassFile.FieldType) 2 D rz h0 hz 344 [(0, .ref x0), (1, .int x1)] [] h := by
  intro n
  induction n with
  | zero =>
    intro x0 x1 h hq hf _
    rw [fX14_init_l344] at hf
    cases hf
  | succ n ih =>
    intro x0 x1 h hq hf hk0
    rw [fX14_init_l344] at hf
    refine a_iload_n (q := 1) dX14_init_344 rfl rfl ?_
    refine a_bipush (v := 6) dX14_init_345 (by decide) ?_
    refine a_icmp_ge (tgt := 377) dX14_init_347 (by decide) (fun c => ?_) (fun c => ?_)
    · have hf := ifp c hf
      obtain rfl := Option.some.inj hf
      exact AW.sub [] rfl (hk0)
    · have hf := ifn c hf
      refine a_aload_n (q := 0) dX14_init_350 rfl rfl ?_
      obtain ⟨v1, e2, hf⟩ := obd hf
      refine o_gfR dX14_init_351 lk_X14_37 rfl e2 ?_
      refine a_iload_n (q := 1) dX14_init_354 rfl rfl ?_
      refine a_iconst (v := (-1)) dX14_init_355 (by decide) ?_
      obtain ⟨h3, e4, hf⟩ := obd hf
      refine o_asI dX14_init_356 e4 ?_
      refine a_aload_n (q := 0) dX14_init_357 rfl rfl ?_
      obtain ⟨v5, e6, hf⟩ := obd hf
      refine o_gfR dX14_init_358 lk_X14_110 rfl e6 ?_
      refine a_iload_n (q := 1) dX14_init_361 rfl rfl ?_
      refine a_iconst (v := (-1)) dX14_init_362 (by decide) ?_
      obtain ⟨h7, e8, hf⟩ := obd hf
      refine o_asI dX14_init_363 e8 ?_
      refine a_aload_n (q := 0) dX14_init_364 rfl rfl ?_
      obtain ⟨v9, e10, hf⟩ := obd hf
      refine o_gfR dX14_init_365 lk_X14_98 rfl e10 ?_
      refine a_iload_n (q := 1) dX14_init_368 rfl rfl ?_
      refine a_iconst (v := (-1)) dX14_init_369 (by decide) ?_
      obtain ⟨h11, e12, hf⟩ := obd hf
      refine o_asI dX14_init_370 e12 ?_
      refine a_iinc (q := 1) (v := (x1 + 1)) (lv1 := [(1, .int (x1 + 1)), (0, .ref x0)]) dX14_init_371 rfl (by rfl) (by decide) rfl ?_
      refine a_goto (tgt := 344) dX14_init_374 (by decide) ?_
      exact AW.sub [1, 0] rfl (ih _ _ _ _ hf hk0)
set_option maxHeartbeats 4000000 in
set_option maxRecDepth 100000 in
theorem sX14_init (E : gE) (D : Nat) (hD : 1 ≤ D) {a0 : Nat} {h hz : hp} (hf : fX14_init a0 h = some hz) : MC E yX14_init cX14_init (Option.none : Option Jvm.ClassFile.FieldType) 2 D [.ref a0] h none hz := by
  refine MC.of (by decide +kernel) (Nat.le_of_ble_eq_true rfl) rfl ?_
  unfold fX14_init at hf
  show AW E yX14_init cX14_init (Option.none : Option Jvm.ClassFile.FieldType) 2 D none h hz 0 [(0, .ref a0)] [] h
  refine a_aload_n (q := 0) dX14_init_0 rfl rfl ?_
  obtain ⟨_, e1, hf⟩ := obd hf
  refine o_objI dX14_init_1 (by omega) wd_1127 wd_32 wd_33 (by decide) (ckT_s e1) (Nat.le_of_ble_eq_true rfl) ?_
  refine a_aload_n (q := 0) dX14_init_4 rfl rfl ?_
  refine a_bipush (v := 10) dX14_init_5 (by decide) ?_
  obtain ⟨v2, h3, e4, hf⟩ := ob2 hf
  refine o_nwI dX14_init_7 wd_63 e4 ?_
  obtain ⟨h5, e6, hf⟩ := obd hf
  refine o_pfR dX14_init_9 lk_X14_11 (⟨_, rfl, Or.inr ⟨rfl, rfl, rfl, wd_1128⟩⟩) rfl e6 ?_
  refine a_aload_n (q := 0) dX14_init_12 rfl rfl ?_
  refine a_bipush (v := 10) dX14_init_13 (by decide) ?_
  obtain ⟨v7, h8, e9, hf⟩ := ob2 hf
  refine o_nwI dX14_init_15 wd_63 e9 ?_
  obtain ⟨h10, e11, hf⟩ := obd hf
  refine o_pfR dX14_init_17 lk_X14_15 (⟨_, rfl, Or.inr ⟨rfl, rfl, rfl, wd_1129⟩⟩) rfl e11 ?_
  refine a_aload_n (q := 0) dX14_init_20 rfl rfl ?_
  refine a_bipush (v := 10) dX14_init_21 (by decide) ?_
  obtain ⟨v12, h13, e14, hf⟩ := ob2 hf
  refine o_nwI dX14_init_23 wd_63 e14 ?_
  obtain ⟨h15, e16, hf⟩ := obd hf
  refine o_pfR dX14_init_25 lk_X14_18 (⟨_, rfl, Or.inr ⟨rfl, rfl, rfl, wd_1130⟩⟩) rfl e16 ?_
  refine a_aload_n (q := 0) dX14_init_28 rfl rfl ?_
  refine a_sipush (v := 160) dX14_init_29 (by decide) ?_
  obtain ⟨v17, h18, e19, hf⟩ := ob2 hf
  refine o_nwI dX14_init_32 wd_63 e19 ?_
  obtain ⟨h20, e21, hf⟩ := obd hf
  refine o_pfR dX14_init_34 lk_X14_21 (⟨_, rfl, Or.inr ⟨rfl, rfl, rfl, wd_1131⟩⟩) rfl e21 ?_
  refine a_aload_n (q := 0) dX14_init_37 rfl rfl ?_
  refine a_bipush (v := 10) dX14_init_38 (by decide) ?_
  obtain ⟨v22, h23, e24, hf⟩ := ob2 hf
  refine o_nwF dX14_init_40 wd_130 e24 ?_
  obtain ⟨h25, e26, hf⟩ := obd hf
  refine o_pfR dX14_init_42 lk_X14_24 (⟨_, rfl, Or.inr ⟨rfl, rfl, rfl, wd_1132⟩⟩) rfl e26 ?_
  refine a_aload_n (q := 0) dX14_init_45 rfl rfl ?_
  refine a_bipush (v := 64) dX14_init_46 (by decide) ?_
  obtain ⟨v27, h28, e29, hf⟩ := ob2 hf
  refine o_nwI dX14_init_48 wd_63 e29 ?_
  obtain ⟨h30, e31, hf⟩ := obd hf
  refine o_pfR dX14_init_50 lk_X14_28 (⟨_, rfl, Or.inr ⟨rfl, rfl, rfl, wd_1133⟩⟩) rfl e31 ?_
  refine a_aload_n (q := 0) dX14_init_53 rfl rfl ?_
  refine a_sipush (v := 160) dX14_init_54 (by decide) ?_
  obtain ⟨v32, h33, e34, hf⟩ := ob2 hf
  refine o_nwI dX14_init_57 wd_63 e34 ?_
  obtain ⟨h35, e36, hf⟩ := obd hf
  refine o_pfR dX14_init_59 lk_X14_31 (⟨_, rfl, Or.inr ⟨rfl, rfl, rfl, wd_1135⟩⟩) rfl e36 ?_
  refine a_aload_n (q := 0) dX14_init_62 rfl rfl ?_
  refine a_sipush (v := 960) dX14_init_63 (by decide) ?_
  obtain ⟨v37, h38, e39, hf⟩ := ob2 hf
  refine o_nwI dX14_init_66 wd_63 e39 ?_
  obtain ⟨h40, e41, hf⟩ := obd hf
  refine o_pfR dX14_init_68 lk_X14_34 (⟨_, rfl, Or.inr ⟨rfl, rfl, rfl, wd_1136⟩⟩) rfl e41 ?_
  refine a_aload_n (q := 0) dX14_init_71 rfl rfl ?_
  refine a_bipush (v := 6) dX14_init_72 (by decide) ?_
  obtain ⟨v42, h43, e44, hf⟩ := ob2 hf
  refine o_nwI dX14_init_74 wd_63 e44 ?_
  obtain ⟨h45, e46, hf⟩ := obd hf
  refine o_pfR dX14_init_76 lk_X14_37 (⟨_, rfl, Or.inr ⟨rfl, rfl, rfl, wd_1137⟩⟩) rfl e46 ?_
  refine a_aload_n (q := 0) dX14_init_79 rfl rfl ?_
  refine a_aload_n (q := 0) dX14_init_80 rfl rfl ?_
  obtain ⟨v47, e48, hf⟩ := obd hf
  refine o_gfR dX14_init_81 lk_X14_31 rfl e48 ?_
  obtain ⟨h49, e50, hf⟩ := obd hf
  refine o_pfR dX14_init_84 lk_X14_40 (⟨_, rfl, Or.inl rfl⟩) rfl e50 ?_
  refine a_aload_n (q := 0) dX14_init_87 rfl rfl ?_
  refine a_sipush (v := 400) dX14_init_88 (by decide) ?_
  obtain ⟨v51, h52, e53, hf⟩ := ob2 hf
  refine o_nwI dX14_init_91 wd_63 e53 ?_
  obtain ⟨h54, e55, hf⟩ := obd hf
  refine o_pfR dX14_init_93 lk_X14_43 (⟨_, rfl, Or.inr ⟨rfl, rfl, rfl, wd_1147⟩⟩) rfl e55 ?_
  refine a_aload_n (q := 0) dX14_init_96 rfl rfl ?_
  refine a_sipush (v := 400) dX14_init_97 (by decide) ?_
  obtain ⟨v56, h57, e58, hf⟩ := ob2 hf
  refine o_nwI dX14_init_100 wd_63 e58 ?_
  obtain ⟨h59, e60, hf⟩ := obd hf
  refine o_pfR dX14_init_102 lk_X14_46 (⟨_, rfl, Or.inr ⟨rfl, rfl, rfl, wd_1148⟩⟩) rfl e60 ?_
  refine a_aload_n (q := 0) dX14_init_105 rfl rfl ?_
  refine a_sipush (v := 200) dX14_init_106 (by decide) ?_
  obtain ⟨h61, e62, hf⟩ := obd hf
  refine o_pfI dX14_init_109 lk_X14_49 (⟨_, rfl, Or.inl rfl⟩) rfl e62 ?_
  refine a_aload_n (q := 0) dX14_init_112 rfl rfl ?_
  refine a_sipush (v := 640) dX14_init_113 (by decide) ?_
  obtain ⟨v63, h64, e65, hf⟩ := ob2 hf
  refine o_nwI dX14_init_116 wd_63 e65 ?_
  obtain ⟨h66, e67, hf⟩ := obd hf
  refine o_pfR dX14_init_118 lk_X14_53 (⟨_, rfl, Or.inr ⟨rfl, rfl, rfl, wd_1153⟩⟩) rfl e67 ?_
  refine a_aload_n (q := 0) dX14_init_121 rfl rfl ?_
  refine a_sipush (v := 640) dX14_init_122 (by decide) ?_
  obtain ⟨v68, h69, e70, hf⟩ := ob2 hf
  refine o_nwI dX14_init_125 wd_63 e70 ?_
  obtain ⟨h71, e72, hf⟩ := obd hf
  refine o_pfR dX14_init_127 lk_X14_56 (⟨_, rfl, Or.inr ⟨rfl, rfl, rfl, wd_1154⟩⟩) rfl e72 ?_
  refine a_aload_n (q := 0) dX14_init_130 rfl rfl ?_
  refine a_sipush (v := 640) dX14_init_131 (by decide) ?_
  obtain ⟨v73, h74, e75, hf⟩ := ob2 hf
  refine o_nwI dX14_init_134 wd_63 e75 ?_
  obtain ⟨h76, e77, hf⟩ := obd hf
  refine o_pfR dX14_init_136 lk_X14_59 (⟨_, rfl, Or.inr ⟨rfl, rfl, rfl, wd_1155⟩⟩) rfl e77 ?_
  refine a_aload_n (q := 0) dX14_init_139 rfl rfl ?_
  refine a_sipush (v := 10240) dX14_init_140 (by decide) ?_
  obtain ⟨v78, h79, e80, hf⟩ := ob2 hf
  refine o_nwI dX14_init_143 wd_63 e80 ?_
  obtain ⟨h81, e82, hf⟩ := obd hf
  refine o_pfR dX14_init_145 lk_X14_62 (⟨_, rfl, Or.inr ⟨rfl, rfl, rfl, wd_1156⟩⟩) rfl e82 ?_
  refine a_aload_n (q := 0) dX14_init_148 rfl rfl ?_
  refine a_sipush (v := 640) dX14_init_149 (by decide) ?_
  obtain ⟨v83, h84, e85, hf⟩ := ob2 hf
  refine o_nwF dX14_init_152 wd_130 e85 ?_
  obtain ⟨h86, e87, hf⟩ := obd hf
  refine o_pfR dX14_init_154 lk_X14_65 (⟨_, rfl, Or.inr ⟨rfl, rfl, rfl, wd_1157⟩⟩) rfl e87 ?_
  refine a_aload_n (q := 0) dX14_init_157 rfl rfl ?_
  refine a_bipush (v := 72) dX14_init_158 (by decide) ?_
  obtain ⟨v88, h89, e90, hf⟩ := ob2 hf
  refine o_nwI dX14_init_160 wd_63 e90 ?_
  obtain ⟨h91, e92, hf⟩ := obd hf
  refine o_pfR dX14_init_162 lk_X14_68 (⟨_, rfl, Or.inr ⟨rfl, rfl, rfl, wd_1159⟩⟩) rfl e92 ?_
  refine a_aload_n (q := 0) dX14_init_165 rfl rfl ?_
  refine a_bipush (v := 12) dX14_init_166 (by decide) ?_
  obtain ⟨v93, h94, e95, hf⟩ := ob2 hf
  refine o_nwI dX14_init_168 wd_63 e95 ?_
  obtain ⟨h96, e97, hf⟩ := obd hf
  refine o_pfR dX14_init_170 lk_X14_71 (⟨_, rfl, Or.inr ⟨rfl, rfl, rfl, wd_1160⟩⟩) rfl e97 ?_
  refine a_aload_n (q := 0) dX14_init_173 rfl rfl ?_
  refine a_bipush (v := 12) dX14_init_174 (by decide) ?_
  obtain ⟨v98, h99, e100, hf⟩ := ob2 hf
  refine o_nwI dX14_init_176 wd_63 e100 ?_
  obtain ⟨h101, e102, hf⟩ := obd hf
  refine o_pfR dX14_init_178 lk_X14_74 (⟨_, rfl, Or.inr ⟨rfl, rfl, rfl, wd_1161⟩⟩) rfl e102 ?_
  refine a_aload_n (q := 0) dX14_init_181 rfl rfl ?_
  refine a_bipush (v := 12) dX14_init_182 (by decide) ?_
  obtain ⟨v103, h104, e105, hf⟩ := ob2 hf
  refine o_nwI dX14_init_184 wd_63 e105 ?_
  obtain ⟨h106, e107, hf⟩ := obd hf
  refine o_pfR dX14_init_186 lk_X14_77 (⟨_, rfl, Or.inr ⟨rfl, rfl, rfl, wd_1162⟩⟩) rfl e107 ?_
  refine a_aload_n (q := 0) dX14_init_189 rfl rfl ?_
  refine a_bipush (v := 80) dX14_init_190 (by decide) ?_
  obtain ⟨v108, h109, e110, hf⟩ := ob2 hf
  refine o_nwI dX14_init_192 wd_63 e110 ?_
  obtain ⟨h111, e112, hf⟩ := obd hf
  refine o_pfR dX14_init_194 lk_X14_80 (⟨_, rfl, Or.inr ⟨rfl, rfl, rfl, wd_1167⟩⟩) rfl e112 ?_
  refine a_aload_n (q := 0) dX14_init_197 rfl rfl ?_
  refine a_sipush (v := 480) dX14_init_198 (by decide) ?_
  obtain ⟨v113, h114, e115, hf⟩ := ob2 hf
  refine o_nwI dX14_init_201 wd_63 e115 ?_
  obtain ⟨h116, e117, hf⟩ := obd hf
  refine o_pfR dX14_init_203 lk_X14_83 (⟨_, rfl, Or.inr ⟨rfl, rfl, rfl, wd_1168⟩⟩) rfl e117 ?_
  refine a_aload_n (q := 0) dX14_init_206 rfl rfl ?_
  refine a_bipush (v := 80) dX14_init_207 (by decide) ?_
  obtain ⟨v118, h119, e120, hf⟩ := ob2 hf
  refine o_nwI dX14_init_209 wd_63 e120 ?_
  obtain ⟨h121, e122, hf⟩ := obd hf
  refine o_pfR dX14_init_211 lk_X14_86 (⟨_, rfl, Or.inr ⟨rfl, rfl, rfl, wd_1169⟩⟩) rfl e122 ?_
  refine a_aload_n (q := 0) dX14_init_214 rfl rfl ?_
  refine a_sipush (v := 128) dX14_init_215 (by decide) ?_
  obtain ⟨v123, h124, e125, hf⟩ := ob2 hf
  refine o_nwI dX14_init_218 wd_63 e125 ?_
  obtain ⟨h126, e127, hf⟩ := obd hf
  refine o_pfR dX14_init_220 lk_X14_89 (⟨_, rfl, Or.inr ⟨rfl, rfl, rfl, wd_1172⟩⟩) rfl e127 ?_
  refine a_aload_n (q := 0) dX14_init_223 rfl rfl ?_
  refine a_sipush (v := 128) dX14_init_224 (by decide) ?_
  obtain ⟨v128, h129, e130, hf⟩ := ob2 hf
  refine o_nwI dX14_init_227 wd_63 e130 ?_
  obtain ⟨h131, e132, hf⟩ := obd hf
  refine o_pfR dX14_init_229 lk_X14_92 (⟨_, rfl, Or.inr ⟨rfl, rfl, rfl, wd_1173⟩⟩) rfl e132 ?_
  refine a_aload_n (q := 0) dX14_init_232 rfl rfl ?_
  refine a_sipush (v := 128) dX14_init_233 (by decide) ?_
  obtain ⟨v133, h134, e135, hf⟩ := ob2 hf
  refine o_nwI dX14_init_236 wd_63 e135 ?_
  obtain ⟨h136, e137, hf⟩ := obd hf
  refine o_pfR dX14_init_238 lk_X14_95 (⟨_, rfl, Or.inr ⟨rfl, rfl, rfl, wd_1174⟩⟩) rfl e137 ?_
  refine a_aload_n (q := 0) dX14_init_241 rfl rfl ?_
  refine a_bipush (v := 6) dX14_init_242 (by decide) ?_
  obtain ⟨v138, h139, e140, hf⟩ := ob2 hf
  refine o_nwI dX14_init_244 wd_63 e140 ?_
  obtain ⟨h141, e142, hf⟩ := obd hf
  refine o_pfR dX14_init_246 lk_X14_98 (⟨_, rfl, Or.inr ⟨rfl, rfl, rfl, wd_1176⟩⟩) rfl e142 ?_
  refine a_aload_n (q := 0) dX14_init_249 rfl rfl ?_
  refine a_bipush (v := 6) dX14_init_250 (by decide) ?_
  obtain ⟨v143, h144, e145, hf⟩ := ob2 hf
  refine o_nwI dX14_init_252 wd_63 e145 ?_
  obtain ⟨h146, e147, hf⟩ := obd hf
  refine o_pfR dX14_init_254 lk_X14_101 (⟨_, rfl, Or.inr ⟨rfl, rfl, rfl, wd_1177⟩⟩) rfl e147 ?_
  refine a_aload_n (q := 0) dX14_init_257 rfl rfl ?_
  refine a_sipush (v := 360) dX14_init_258 (by decide) ?_
  obtain ⟨v148, h149, e150, hf⟩ := ob2 hf
  refine o_nwI dX14_init_261 wd_63 e150 ?_
  obtain ⟨h151, e152, hf⟩ := obd hf
  refine o_pfR dX14_init_263 lk_X14_104 (⟨_, rfl, Or.inr ⟨rfl, rfl, rfl, wd_1178⟩⟩) rfl e152 ?_
  refine a_aload_n (q := 0) dX14_init_266 rfl rfl ?_
  refine a_sipush (v := 360) dX14_init_267 (by decide) ?_
  obtain ⟨v153, h154, e155, hf⟩ := ob2 hf
  refine o_nwF dX14_init_270 wd_130 e155 ?_
  obtain ⟨h156, e157, hf⟩ := obd hf
  refine o_pfR dX14_init_272 lk_X14_107 (⟨_, rfl, Or.inr ⟨rfl, rfl, rfl, wd_1179⟩⟩) rfl e157 ?_
  refine a_aload_n (q := 0) dX14_init_275 rfl rfl ?_
  refine a_bipush (v := 6) dX14_init_276 (by decide) ?_
  obtain ⟨v158, h159, e160, hf⟩ := ob2 hf
  refine o_nwI dX14_init_278 wd_63 e160 ?_
  obtain ⟨h161, e162, hf⟩ := obd hf
  refine o_pfR dX14_init_280 lk_X14_110 (⟨_, rfl, Or.inr ⟨rfl, rfl, rfl, wd_1180⟩⟩) rfl e162 ?_
  refine a_aload_n (q := 0) dX14_init_283 rfl rfl ?_
  refine a_sipush (v := 960) dX14_init_284 (by decide) ?_
  obtain ⟨v163, h164, e165, hf⟩ := ob2 hf
  refine o_nwI dX14_init_287 wd_63 e165 ?_
  obtain ⟨h166, e167, hf⟩ := obd hf
  refine o_pfR dX14_init_289 lk_X14_113 (⟨_, rfl, Or.inr ⟨rfl, rfl, rfl, wd_1181⟩⟩) rfl e167 ?_
  refine a_aload_n (q := 0) dX14_init_292 rfl rfl ?_
  refine a_sipush (v := 400) dX14_init_293 (by decide) ?_
  obtain ⟨v168, h169, e170, hf⟩ := ob2 hf
  refine o_nwI dX14_init_296 wd_63 e170 ?_
  obtain ⟨h171, e172, hf⟩ := obd hf
  refine o_pfR dX14_init_298 lk_X14_116 (⟨_, rfl, Or.inr ⟨rfl, rfl, rfl, wd_1182⟩⟩) rfl e172 ?_
  refine a_aload_n (q := 0) dX14_init_301 rfl rfl ?_
  refine a_bipush (v := 8) dX14_init_302 (by decide) ?_
  obtain ⟨v173, h174, e175, hf⟩ := ob2 hf
  refine o_nwI dX14_init_304 wd_63 e175 ?_
  obtain ⟨h176, e177, hf⟩ := obd hf
  refine o_pfR dX14_init_306 lk_X14_119 (⟨_, rfl, Or.inr ⟨rfl, rfl, rfl, wd_1183⟩⟩) rfl e177 ?_
  refine a_aload_n (q := 0) dX14_init_309 rfl rfl ?_
  refine a_bipush (v := 8) dX14_init_310 (by decide) ?_
  obtain ⟨v178, h179, e180, hf⟩ := ob2 hf
  refine o_nwI dX14_init_312 wd_63 e180 ?_
  obtain ⟨h181, e182, hf⟩ := obd hf
  refine o_pfR dX14_init_314 lk_X14_122 (⟨_, rfl, Or.inr ⟨rfl, rfl, rfl, wd_1184⟩⟩) rfl e182 ?_
  refine a_aload_n (q := 0) dX14_init_317 rfl rfl ?_
  refine a_bipush (v := 8) dX14_init_318 (by decide) ?_
  obtain ⟨v183, h184, e185, hf⟩ := ob2 hf
  refine o_nwI dX14_init_320 wd_63 e185 ?_
  obtain ⟨h186, e187, hf⟩ := obd hf
  refine o_pfR dX14_init_322 lk_X14_125 (⟨_, rfl, Or.inr ⟨rfl, rfl, rfl, wd_1185⟩⟩) rfl e187 ?_
  refine a_aload_n (q := 0) dX14_init_325 rfl rfl ?_
  refine a_sipush (v := 128) dX14_init_326 (by decide) ?_
  obtain ⟨v188, h189, e190, hf⟩ := ob2 hf
  refine o_nwI dX14_init_329 wd_63 e190 ?_
  obtain ⟨h191, e192, hf⟩ := obd hf
  refine o_pfR dX14_init_331 lk_X14_128 (⟨_, rfl, Or.inr ⟨rfl, rfl, rfl, wd_1186⟩⟩) rfl e192 ?_
  refine a_aload_n (q := 0) dX14_init_334 rfl rfl ?_
  refine a_bipush (v := 8) dX14_init_335 (by decide) ?_
  obtain ⟨v193, h194, e195, hf⟩ := ob2 hf
  refine o_nwF dX14_init_337 wd_130 e195 ?_
  obtain ⟨h196, e197, hf⟩ := obd hf
  refine o_pfR dX14_init_339 lk_X14_131 (⟨_, rfl, Or.inr ⟨rfl, rfl, rfl, wd_1187⟩⟩) rfl e197 ?_
  refine a_iconst (v := 0) dX14_init_342 (by decide) ?_
  refine a_istore_n (lv1 := [(1, .int 0), (0, .ref a0)]) dX14_init_343 rfl (by decide) rfl ?_
  obtain ⟨h199, e198, hf⟩ := obd hf
  refine AW.sub [1, 0] rfl (sX14_init_l344 E D hD _ _ _ _ _ e198 ?_)
  obtain rfl := Option.some.inj hf
  exact a_return dX14_init_377 rfl
def fX14_isIn (a0 : Int64) (a1 : Int64) (a2 : Int64) (h : hp) : Option (Int32 × hp) :=
  if (lg_cmp a0 a1) < 0 then (
    some (0, h)
  ) else (
    if 0 < (lg_cmp a0 a2) then (
      some (0, h)
    ) else (
      some (1, h)
    )
  )
set_option maxHeartbeats 4000000 in
set_option maxRecDepth 100000 in
theorem sX14_isIn (E : gE) (D : Nat) (hD : 0 ≤ D) {a0 : Int64} {a1 : Int64} {a2 : Int64} {h hz : hp} {v0 : Int32} (hf : fX14_isIn a0 a1 a2 h = some (v0, hz)) : MC E yX14_isIn cX14_isIn (Option.some Jvm.ClassFile.FieldType.boolean) 6 D [.long a0, .long a1, .long a2] h (some (.int v0)) hz := by
  refine MC.of (by decide +kernel) (Nat.le_of_ble_eq_true rfl) rfl ?_
  unfold fX14_isIn at hf
  show AW E yX14_isIn cX14_isIn (Option.some Jvm.ClassFile.FieldType.boolean) 6 D (some (.int v0)) h hz 0 [(0, .long a0), (2, .long a1), (4, .long a2)] [] h
  refine a_lload_n (q := 0) dX14_isIn_0 rfl rfl ?_
  refine a_lload_n (q := 1) dX14_isIn_1 rfl rfl ?_
  refine a_lcmp dX14_isIn_2 ?_
  refine a_if_lt (tgt := 17) dX14_isIn_3 (by decide) (fun c => ?_) (fun c => ?_)
  · have hf := ifp c hf
    refine a_iconst (v := 0) dX14_isIn_17 (by decide) ?_
    obtain ⟨rfl, rfl⟩ := oc2 hf
    exact a_zreturn dX14_isIn_18 rfl (by decide)
  · have hf := ifn c hf
    refine a_lload_n (q := 0) dX14_isIn_6 rfl rfl ?_
    refine a_lload (q := 2) dX14_isIn_7 rfl ?_
    refine a_lcmp dX14_isIn_9 ?_
    refine a_if_gt (tgt := 17) dX14_isIn_10 (by decide) (fun c => ?_) (fun c => ?_)
    · have hf := ifp c hf
      refine a_iconst (v := 0) dX14_isIn_17 (by decide) ?_
      obtain ⟨rfl, rfl⟩ := oc2 hf
      exact a_zreturn dX14_isIn_18 rfl (by decide)
    · have hf := ifn c hf
      refine a_iconst (v := 1) dX14_isIn_13 (by decide) ?_
      refine a_goto (tgt := 18) dX14_isIn_14 (by decide) ?_
      obtain ⟨rfl, rfl⟩ := oc2 hf
      exact a_zreturn dX14_isIn_18 rfl (by decide)
def fX14_limited (a0 : UInt32) (h : hp) : Option (UInt32 × hp) :=
  jn (fun (s35_0 : UInt32) (h35j : hp) => (
    some (s35_0, h35j)
    : Option (UInt32 × hp))) fun k35 =>
  if (Op.cmpValue (FP.fcmp a0 1232348160) .l) ≤ 0 then (
    if 0 ≤ (Op.cmpValue (FP.fcmp a0 3379831808) .g) then (
      if (Op.cmpValue (FP.fcmp a0 FP.fconst0) .l) = 0 then (
        k35 FP.fconst0 h
      ) else (
        k35 a0 h
      )
    ) else (
      k35 3379831808 h
    )
  ) else (
    k35 1232348160 h
  )
set_option maxHeartbeats 4000000 in
set_option maxRecDepth 100000 in
theorem sX14_limited (E : gE) (D : Nat) (hD : 0 ≤ D) {a0 : UInt32} {h hz : hp} {v0 : UInt32} (hf : fX14_limited a0 h = some (v0, hz)) : MC E yX14_limited cX14_limited (Option.some Jvm.ClassFile.FieldType.float) 1 D [.float a0] h (some (.float v0)) hz := by
  refine MC.of (by decide +kernel) (Nat.le_of_ble_eq_true rfl) rfl ?_
  unfold fX14_limited at hf
  show AW E yX14_limited cX14_limited (Option.some Jvm.ClassFile.FieldType.float) 1 D (some (.float v0)) h hz 0 [(0, .float a0)] [] h
  refine a_fload_n (q := 0) dX14_limited_0 rfl rfl ?_
  refine a_ldcf (v := 1232348160) dX14_limited_1 wd_1548 ?_
  refine a_fcmp dX14_limited_3 ?_
  obtain ⟨k35, ek35, hf⟩ := jn_s hf
  have hj35 : ∀ (s35_0 : UInt32) (h35j : hp), k35 s35_0 h35j = some (v0, hz) → AW E yX14_limited cX14_limited (Option.some Jvm.ClassFile.FieldType.float) 1 D (some (.float v0)) h hz 35 [] [.float s35_0] h35j := by
    intro s35_0 h35j hf
    rw [ek35] at hf
    clear ek35
    obtain ⟨rfl, rfl⟩ := oc2 hf
    exact a_freturn dX14_limited_35 rfl
  clear ek35
  refine a_if_le (tgt := 12) dX14_limited_4 (by decide) (fun c => ?_) (fun c => ?_)
  · have hf := ifp c hf
    refine a_fload_n (q := 0) dX14_limited_12 rfl rfl ?_
    refine a_ldcf (v := 3379831808) dX14_limited_13 wd_1549 ?_
    refine a_fcmp dX14_limited_15 ?_
    refine a_if_ge (tgt := 24) dX14_limited_16 (by decide) (fun c => ?_) (fun c => ?_)
    · have hf := ifp c hf
      refine a_fload_n (q := 0) dX14_limited_24 rfl rfl ?_
      refine a_fconst0 dX14_limited_25 ?_
      refine a_fcmp dX14_limited_26 ?_
      refine a_if_ne (tgt := 34) dX14_limited_27 (by decide) (fun c => ?_) (fun c => ?_)
      · have hf := ifn c hf
        refine a_fload_n (q := 0) dX14_limited_34 rfl rfl ?_
        exact AW.sub [] rfl (hj35 _ _ hf)
      · have hf := ifp c hf
        refine a_fconst0 dX14_limited_30 ?_
        refine a_goto (tgt := 35) dX14_limited_31 (by decide) ?_
        exact AW.sub [] rfl (hj35 _ _ hf)
    · have hf := ifn c hf
      refine a_ldcf (v := 3379831808) dX14_limited_19 wd_1549 ?_
      refine a_goto (tgt := 35) dX14_limited_21 (by decide) ?_
      exact AW.sub [] rfl (hj35 _ _ hf)
  · have hf := ifn c hf
    refine a_ldcf (v := 1232348160) dX14_limited_7 wd_1548 ?_
    refine a_goto (tgt := 35) dX14_limited_9 (by decide) ?_
    exact AW.sub [] rfl (hj35 _ _ hf)

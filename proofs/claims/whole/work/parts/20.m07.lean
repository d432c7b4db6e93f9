def fX12_listAt (a0 : Nat) (a1 : Int32) (h : hp) : Option (Nat × hp) :=
  bd2 (fX13_among a1 48 h) fun v2 h3 =>
  if v2 = 0 then (
    some (0, h3)
  ) else (
    (gfR h3 a0 11 3).bind fun v4 =>
    (alR 6 h3 v4 a1).bind fun v6 =>
    jn (fun (h33j : hp) => (
      (gfR h33j a0 11 3).bind fun v8 =>
      (alR 6 h33j v8 a1).bind fun v10 =>
      some (v10, h33j)
      : Option (Nat × hp))) fun k33 =>
    if v6 = 0 then (
      (gfR h3 a0 11 3).bind fun v12 =>
      bd2 (nwO h3 10 5) fun v14 h15 =>
      (ckT h15 v14 10).bind fun _ =>
      (fX11_init v14 h15).bind fun h18 =>
      (asR 6 h18 v12 a1 v14).bind fun h20 =>
      k33 h20
    ) else (
      k33 h3
    )
  )
set_option maxHeartbeats 4000000 in
set_option maxRecDepth 100000 in
theorem sX12_listAt (E : gE) (D : Nat) (hD : 2 ≤ D) {a0 : Nat} {a1 : Int32} {h hz : hp} {v0 : Nat} (hf : fX12_listAt a0 a1 h = some (v0, hz)) : MC E yX12_listAt cX12_listAt (Option.some (Jvm.ClassFile.FieldType.object "TemplatePress$Value")) 2 D [.ref a0, .int a1] h (some (.ref v0)) hz := by
  refine MC.of (by decide +kernel) (Nat.le_of_ble_eq_true rfl) rfl ?_
  unfold fX12_listAt at hf
  show AW E yX12_listAt cX12_listAt (Option.some (Jvm.ClassFile.FieldType.object "TemplatePress$Value")) 2 D (some (.ref v0)) h hz 0 [(0, .ref a0), (1, .int a1)] [] h
  refine a_iload_n (q := 1) dX12_listAt_0 rfl rfl ?_
  refine a_bipush (v := 48) dX12_listAt_1 (by decide) ?_
  obtain ⟨v2, h3, e1, hf⟩ := ob2 hf
  refine a_callS (as := [.int a1, .int 48]) (np := 2) (st := []) (sX13_among E (D - 1) (by omega) e1) dX12_listAt_3 rfl (by omega) (by decide) cw_X12_91 wd_268 rfl (Nat.le_of_ble_eq_true rfl) ?_
  refine a_if_ne (tgt := 11) dX12_listAt_6 (by decide) (fun c => ?_) (fun c => ?_)
  · have hf := ifn c hf
    refine a_aload_n (q := 0) dX12_listAt_11 rfl rfl ?_
    obtain ⟨v4, e5, hf⟩ := obd hf
    refine o_gfR dX12_listAt_12 lk_X12_19 rfl e5 ?_
    refine a_iload_n (q := 1) dX12_listAt_15 rfl rfl ?_
    obtain ⟨v6, e7, hf⟩ := obd hf
    refine o_alR dX12_listAt_16 (by decide) e7 ?_
    obtain ⟨k33, ek33, hf⟩ := jn_s hf
    have hj33 : ∀ (h33j : hp), k33 h33j = some (v0, hz) → AW E yX12_listAt cX12_listAt (Option.some (Jvm.ClassFile.FieldType.object "TemplatePress$Value")) 2 D (some (.ref v0)) h hz 33 [(0, .ref a0), (1, .int a1)] [] h33j := by
      intro h33j hf
      rw [ek33] at hf
      clear ek33
      refine a_aload_n (q := 0) dX12_listAt_33 rfl rfl ?_
      obtain ⟨v8, e9, hf⟩ := obd hf
      refine o_gfR dX12_listAt_34 lk_X12_19 rfl e9 ?_
      refine a_iload_n (q := 1) dX12_listAt_37 rfl rfl ?_
      obtain ⟨v10, e11, hf⟩ := obd hf
      refine o_alR dX12_listAt_38 (by decide) e11 ?_
      obtain ⟨rfl, rfl⟩ := oc2 hf
      exact a_areturn dX12_listAt_39 rfl (Or.inl ⟨_, rfl⟩)
    clear ek33
    refine a_ifnonnull (tgt := 33) dX12_listAt_17 (by decide) (fun c => ?_) (fun c => ?_)
    · have hf := ifn c hf
      exact hj33 _ hf
    · have hf := ifp c hf
      refine a_aload_n (q := 0) dX12_listAt_20 rfl rfl ?_
      obtain ⟨v12, e13, hf⟩ := obd hf
      refine o_gfR dX12_listAt_21 lk_X12_19 rfl e13 ?_
      refine a_iload_n (q := 1) dX12_listAt_24 rfl rfl ?_
      obtain ⟨v14, h15, e16, hf⟩ := ob2 hf
      refine o_nwO (ci := 10) dX12_listAt_25 rfl rfl gu_10 tyX11_ok (by decide) wd_141 wd_64 wd_4 e16 ?_
      refine a_dup dX12_listAt_28 rfl ?_
      obtain ⟨_, e19, hf⟩ := obd hf
      obtain ⟨h18, e17, hf⟩ := obd hf
      refine a_callI (as := []) (np := 0) (ci := 10) (st := [.ref v14, .int a1, .ref v12]) (sX11_init E (D - 1) (by omega) e17) dX12_listAt_29 rfl (by omega) (by decide) cw_X12_23 ⟨wd_66, rfl⟩ rfl (ckT_s e19) rfl (Nat.le_of_ble_eq_true rfl) ?_
      obtain ⟨h20, e21, hf⟩ := obd hf
      refine o_asR dX12_listAt_32 (by decide) e21 ?_
      exact hj33 _ hf
  · have hf := ifp c hf
    refine a_null dX12_listAt_9 ?_
    obtain ⟨rfl, rfl⟩ := oc2 hf
    exact a_areturn dX12_listAt_10 rfl (Or.inl ⟨_, rfl⟩)

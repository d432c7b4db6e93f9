def fX13_init_l32 : Nat → Nat → Nat → Nat → Nat → Int32 → hp → Option hp
  | 0, _, _, _, _, _, _ => none
  | n + 1, x0, x1, x2, x3, x4, h =>
    if 6 ≤ x4 then (
      some (h)
    ) else (
      bd2 (nwO h 7 4) fun v1 h2 =>
      (ckT h2 v1 7).bind fun _ =>
      (fX8_init v1 h2).bind fun h5 =>
      (asR 4 h5 x3 x4 v1).bind fun h7 =>
      fX13_init_l32 n x0 x1 x2 x3 (x4 + 1) h7
    )
def fX13_init (a0 : Nat) (h : hp) : Option hp :=
  (ckT h a0 12).bind fun _ =>
  bd2 (nwO h 8 4) fun v2 h3 =>
  (ckT h3 v2 8).bind fun _ =>
  (fX9_init v2 h3).bind fun h6 =>
  bd2 (nwO h6 4 2) fun v8 h9 =>
  (ckT h9 v8 4).bind fun _ =>
  (fX5_init v8 162 h9).bind fun h12 =>
  bd2 (nwA h12 4 6) fun v14 h15 =>
  (fX13_init_l32 FU a0 v2 v8 v14 0 h15).bind fun h18 =>
  (pfR h18 a0 12 0 v2).bind fun h19 =>
  bd2 (nwO h19 8 4) fun v21 h22 =>
  (ckT h22 v21 8).bind fun _ =>
  (fX9_init v21 h22).bind fun h25 =>
  (pfR h25 a0 12 1 v21).bind fun h27 =>
  bd2 (nwO h27 4 2) fun v29 h30 =>
  (ckT h30 v29 4).bind fun _ =>
  (fX5_init v29 160 h30).bind fun h33 =>
  (pfR h33 a0 12 3 v29).bind fun h35 =>
  (pfR h35 a0 12 4 v8).bind fun h37 =>
  bd2 (nwO h37 4 2) fun v39 h40 =>
  (ckT h40 v39 4).bind fun _ =>
  (fX5_init v39 53 h40).bind fun h43 =>
  (pfR h43 a0 12 5 v39).bind fun h45 =>
  bd2 (nwO h45 10 5) fun v47 h48 =>
  (ckT h48 v47 10).bind fun _ =>
  (fX11_init v47 h48).bind fun h51 =>
  (pfR h51 a0 12 6 v47).bind fun h53 =>
  bd2 (nwO h53 11 18) fun v55 h56 =>
  (ckT h56 v55 11).bind fun _ =>
  (fX12_init v55 v2 v8 h56).bind fun h59 =>
  (pfR h59 a0 12 7 v55).bind fun h61 =>
  (pfR h61 a0 12 9 v14).bind fun h63 =>
  some h63
set_option maxHeartbeats 4000000 in
set_option maxRecDepth 100000 in
theorem sX13_init_l32 (E : gE) (D : Nat) (hD : 3 ≤ D) {rz : Option Value} {h0 hz : hp} : ∀ (n : Nat) (x0 : Nat) (x1 : Nat) (x2 : Nat) (x3 : Nat) (x4 : Int32) (h : hp) (hq : hp), fX13_init_l32 n x0 x1 x2 x3 x4 h = some hq → (AW E yX13_init cX13_init (Option.none : Option Jvm.ClassFile.FieldType) 5 D rz h0 hz 56 [(0, .ref x0), (1, .ref x1), (2, .ref x2), (3, .ref x3)] [] hq) → AW E yX13_init cX13_init (Option.none : Option Jvm.ClassFile.FieldType) 5 D rz h0 hz 32 [(0, .ref x0), (1, .ref x1), (2, .ref x2), (3, .ref x3), (4, .int x4)] [] h := by
  intro n
  induction n with
  | zero =>
    intro x0 x1 x2 x3 x4 h hq hf _
    rw [fX13_init_l32] at hf
    cases hf
  | succ n ih =>
    intro x0 x1 x2 x3 x4 h hq hf hk0
    rw [fX13_init_l32] at hf
    refine a_iload (q := 4) dX13_init_32 rfl ?_
    refine a_bipush (v := 6) dX13_init_34 (by decide) ?_
    refine a_icmp_ge (tgt := 56) dX13_init_36 (by decide) (fun c => ?_) (fun c => ?_)
    · have hf := ifp c hf
      obtain rfl := Option.some.inj hf
      exact AW.sub [0, 1, 2, 3] rfl (hk0)
    · have hf := ifn c hf
      refine a_aload_n (q := 3) dX13_init_39 rfl rfl ?_
      refine a_iload (q := 4) dX13_init_40 rfl ?_
      obtain ⟨v1, h2, e3, hf⟩ := ob2 hf
      refine o_nwO (ci := 7) dX13_init_42 rfl rfl gu_7 tyX8_ok (by decide) wd_108 wd_110 wd_5 e3 ?_
      refine a_dup dX13_init_45 rfl ?_
      obtain ⟨_, e6, hf⟩ := obd hf
      obtain ⟨h5, e4, hf⟩ := obd hf
      refine a_callI (as := []) (np := 0) (ci := 7) (st := [.ref v1, .int x4, .ref x3]) (sX8_init E (D - 1) (by omega) e4) dX13_init_46 rfl (by omega) (by decide) cw_X13_21 ⟨wd_112, rfl⟩ rfl (ckT_s e6) rfl (Nat.le_of_ble_eq_true rfl) ?_
      obtain ⟨h7, e8, hf⟩ := obd hf
      refine o_asR dX13_init_49 (by decide) e8 ?_
      refine a_iinc (q := 4) (v := (x4 + 1)) (lv1 := [(4, .int (x4 + 1)), (0, .ref x0), (1, .ref x1), (2, .ref x2), (3, .ref x3)]) dX13_init_50 rfl (by rfl) (by decide) rfl ?_
      refine a_goto (tgt := 32) dX13_init_53 (by decide) ?_
      exact AW.sub [1, 2, 3, 4, 0] rfl (ih _ _ _ _ _ _ _ hf hk0)
set_option maxHeartbeats 4000000 in
set_option maxRecDepth 100000 in
theorem sX13_init (E : gE) (D : Nat) (hD : 3 ≤ D) {a0 : Nat} {h hz : hp} (hf : fX13_init a0 h = some hz) : MC E yX13_init cX13_init (Option.none : Option Jvm.ClassFile.FieldType) 5 D [.ref a0] h none hz := by
  refine MC.of (by decide +kernel) (Nat.le_of_ble_eq_true rfl) rfl ?_
  unfold fX13_init at hf
  show AW E yX13_init cX13_init (Option.none : Option Jvm.ClassFile.FieldType) 5 D none h hz 0 [(0, .ref a0)] [] h
  refine a_aload_n (q := 0) dX13_init_0 rfl rfl ?_
  obtain ⟨_, e1, hf⟩ := obd hf
  refine o_objI dX13_init_1 (by omega) wd_31 wd_32 wd_33 (by decide) (ckT_s e1) (Nat.le_of_ble_eq_true rfl) ?_
  obtain ⟨v2, h3, e4, hf⟩ := ob2 hf
  refine o_nwO (ci := 8) dX13_init_4 rfl rfl gu_8 tyX9_ok (by decide) wd_34 wd_35 wd_2 e4 ?_
  refine a_dup dX13_init_7 rfl ?_
  obtain ⟨_, e7, hf⟩ := obd hf
  obtain ⟨h6, e5, hf⟩ := obd hf
  refine a_callI (as := []) (np := 0) (ci := 8) (st := [.ref v2]) (sX9_init E (D - 1) (by omega) e5) dX13_init_8 rfl (by omega) (by decide) cw_X13_11 ⟨wd_37, rfl⟩ rfl (ckT_s e7) rfl (Nat.le_of_ble_eq_true rfl) ?_
  refine a_astore_n (lv1 := [(1, .ref v2), (0, .ref a0)]) dX13_init_11 rfl (by decide) rfl ?_
  obtain ⟨v8, h9, e10, hf⟩ := ob2 hf
  refine o_nwO (ci := 4) dX13_init_12 rfl rfl gu_4 tyX5_ok (by decide) wd_106 wd_45 wd_3 e10 ?_
  refine a_dup dX13_init_15 rfl ?_
  refine a_sipush (v := 162) dX13_init_16 (by decide) ?_
  obtain ⟨_, e13, hf⟩ := obd hf
  obtain ⟨h12, e11, hf⟩ := obd hf
  refine a_callI (as := [.int 162]) (np := 1) (ci := 4) (st := [.ref v8]) (sX5_init E (D - 1) (by omega) e11) dX13_init_19 rfl (by omega) (by decide) cw_X13_16 ⟨wd_47, rfl⟩ rfl (ckT_s e13) rfl (Nat.le_of_ble_eq_true rfl) ?_
  refine a_astore_n (lv1 := [(2, .ref v8), (1, .ref v2), (0, .ref a0)]) dX13_init_22 rfl (by decide) rfl ?_
  refine a_bipush (v := 6) dX13_init_23 (by decide) ?_
  obtain ⟨v14, h15, e16, hf⟩ := ob2 hf
  refine o_nwR (j := 4) dX13_init_25 (by decide) rfl wd_108 (by decide +kernel) e16 ?_
  refine a_astore_n (lv1 := [(3, .ref v14), (2, .ref v8), (1, .ref v2), (0, .ref a0)]) dX13_init_28 rfl (by decide) rfl ?_
  refine a_iconst (v := 0) dX13_init_29 (by decide) ?_
  refine a_istore (lv1 := [(4, .int 0), (3, .ref v14), (2, .ref v8), (1, .ref v2), (0, .ref a0)]) dX13_init_30 (by decide) rfl ?_
  obtain ⟨h18, e17, hf⟩ := obd hf
  refine AW.sub [4, 3, 2, 1, 0] rfl (sX13_init_l32 E D hD _ _ _ _ _ _ _ _ e17 ?_)
  refine a_aload_n (q := 0) dX13_init_56 rfl rfl ?_
  refine a_aload_n (q := 1) dX13_init_57 rfl rfl ?_
  obtain ⟨h19, e20, hf⟩ := obd hf
  refine o_pfR dX13_init_58 lk_X13_22 (⟨_, rfl, Or.inr ⟨rfl, rfl, rfl, wd_228⟩⟩) rfl e20 ?_
  refine a_aload_n (q := 0) dX13_init_61 rfl rfl ?_
  obtain ⟨v21, h22, e23, hf⟩ := ob2 hf
  refine o_nwO (ci := 8) dX13_init_62 rfl rfl gu_8 tyX9_ok (by decide) wd_34 wd_35 wd_2 e23 ?_
  refine a_dup dX13_init_65 rfl ?_
  obtain ⟨_, e26, hf⟩ := obd hf
  obtain ⟨h25, e24, hf⟩ := obd hf
  refine a_callI (as := []) (np := 0) (ci := 8) (st := [.ref v21, .ref a0]) (sX9_init E (D - 1) (by omega) e24) dX13_init_66 rfl (by omega) (by decide) cw_X13_11 ⟨wd_37, rfl⟩ rfl (ckT_s e26) rfl (Nat.le_of_ble_eq_true rfl) ?_
  obtain ⟨h27, e28, hf⟩ := obd hf
  refine o_pfR dX13_init_69 lk_X13_26 (⟨_, rfl, Or.inr ⟨rfl, rfl, rfl, wd_229⟩⟩) rfl e28 ?_
  refine a_aload_n (q := 0) dX13_init_72 rfl rfl ?_
  obtain ⟨v29, h30, e31, hf⟩ := ob2 hf
  refine o_nwO (ci := 4) dX13_init_73 rfl rfl gu_4 tyX5_ok (by decide) wd_106 wd_45 wd_3 e31 ?_
  refine a_dup dX13_init_76 rfl ?_
  refine a_sipush (v := 160) dX13_init_77 (by decide) ?_
  obtain ⟨_, e34, hf⟩ := obd hf
  obtain ⟨h33, e32, hf⟩ := obd hf
  refine a_callI (as := [.int 160]) (np := 1) (ci := 4) (st := [.ref v29, .ref a0]) (sX5_init E (D - 1) (by omega) e32) dX13_init_80 rfl (by omega) (by decide) cw_X13_16 ⟨wd_47, rfl⟩ rfl (ckT_s e34) rfl (Nat.le_of_ble_eq_true rfl) ?_
  obtain ⟨h35, e36, hf⟩ := obd hf
  refine o_pfR dX13_init_83 lk_X13_29 (⟨_, rfl, Or.inr ⟨rfl, rfl, rfl, wd_231⟩⟩) rfl e36 ?_
  refine a_aload_n (q := 0) dX13_init_86 rfl rfl ?_
  refine a_aload_n (q := 2) dX13_init_87 rfl rfl ?_
  obtain ⟨h37, e38, hf⟩ := obd hf
  refine o_pfR dX13_init_88 lk_X13_33 (⟨_, rfl, Or.inr ⟨rfl, rfl, rfl, wd_232⟩⟩) rfl e38 ?_
  refine a_aload_n (q := 0) dX13_init_91 rfl rfl ?_
  obtain ⟨v39, h40, e41, hf⟩ := ob2 hf
  refine o_nwO (ci := 4) dX13_init_92 rfl rfl gu_4 tyX5_ok (by decide) wd_106 wd_45 wd_3 e41 ?_
  refine a_dup dX13_init_95 rfl ?_
  refine a_bipush (v := 53) dX13_init_96 (by decide) ?_
  obtain ⟨_, e44, hf⟩ := obd hf
  obtain ⟨h43, e42, hf⟩ := obd hf
  refine a_callI (as := [.int 53]) (np := 1) (ci := 4) (st := [.ref v39, .ref a0]) (sX5_init E (D - 1) (by omega) e42) dX13_init_98 rfl (by omega) (by decide) cw_X13_16 ⟨wd_47, rfl⟩ rfl (ckT_s e44) rfl (Nat.le_of_ble_eq_true rfl) ?_
  obtain ⟨h45, e46, hf⟩ := obd hf
  refine o_pfR dX13_init_101 lk_X13_36 (⟨_, rfl, Or.inr ⟨rfl, rfl, rfl, wd_233⟩⟩) rfl e46 ?_
  refine a_aload_n (q := 0) dX13_init_104 rfl rfl ?_
  obtain ⟨v47, h48, e49, hf⟩ := ob2 hf
  refine o_nwO (ci := 10) dX13_init_105 rfl rfl gu_10 tyX11_ok (by decide) wd_131 wd_64 wd_4 e49 ?_
  refine a_dup dX13_init_108 rfl ?_
  obtain ⟨_, e52, hf⟩ := obd hf
  obtain ⟨h51, e50, hf⟩ := obd hf
  refine a_callI (as := []) (np := 0) (ci := 10) (st := [.ref v47, .ref a0]) (sX11_init E (D - 1) (by omega) e50) dX13_init_109 rfl (by omega) (by decide) cw_X13_41 ⟨wd_66, rfl⟩ rfl (ckT_s e52) rfl (Nat.le_of_ble_eq_true rfl) ?_
  obtain ⟨h53, e54, hf⟩ := obd hf
  refine o_pfR dX13_init_112 lk_X13_42 (⟨_, rfl, Or.inr ⟨rfl, rfl, rfl, wd_234⟩⟩) rfl e54 ?_
  refine a_aload_n (q := 0) dX13_init_115 rfl rfl ?_
  obtain ⟨v55, h56, e57, hf⟩ := ob2 hf
  refine o_nwO (ci := 11) dX13_init_116 rfl rfl gu_11 tyX12_ok (by decide) wd_133 wd_134 wd_6 e57 ?_
  refine a_dup dX13_init_119 rfl ?_
  refine a_aload_n (q := 1) dX13_init_120 rfl rfl ?_
  refine a_aload_n (q := 2) dX13_init_121 rfl rfl ?_
  obtain ⟨_, e60, hf⟩ := obd hf
  obtain ⟨h59, e58, hf⟩ := obd hf
  refine a_callI (as := [.ref v2, .ref v8]) (np := 2) (ci := 11) (st := [.ref v55, .ref a0]) (sX12_init E (D - 1) (by omega) e58) dX13_init_122 rfl (by omega) (by decide) cw_X13_48 ⟨wd_136, rfl⟩ rfl (ckT_s e60) rfl (Nat.le_of_ble_eq_true rfl) ?_
  obtain ⟨h61, e62, hf⟩ := obd hf
  refine o_pfR dX13_init_125 lk_X13_51 (⟨_, rfl, Or.inr ⟨rfl, rfl, rfl, wd_235⟩⟩) rfl e62 ?_
  refine a_aload_n (q := 0) dX13_init_128 rfl rfl ?_
  refine a_aload_n (q := 3) dX13_init_129 rfl rfl ?_
  obtain ⟨h63, e64, hf⟩ := obd hf
  refine o_pfR dX13_init_130 lk_X13_55 (⟨_, rfl, Or.inr ⟨rfl, rfl, rfl, wd_237⟩⟩) rfl e64 ?_
  obtain rfl := Option.some.inj hf
  exact a_return dX13_init_133 rfl
def fX13_none (a0 : Nat) (a1 : Int32) (h : hp) : Option (Int32 × hp) :=
  (gfR h a0 12 0).bind fun v1 =>
  (ckT h v1 8).bind fun _ =>
  bd2 (fX9_variable v1 a1 h) fun v4 h5 =>
  if v4 = 0 then (
    some ((-1), h5)
  ) else (
    (gfI h5 v4 10 0).bind fun v7 =>
    (ckT h5 v4 10).bind fun _ =>
    (fX11_becomeNothing v4 h5).bind fun h10 =>
    some (v7, h10)
  )
set_option maxHeartbeats 4000000 in
set_option maxRecDepth 100000 in
theorem sX13_none (E : gE) (D : Nat) (hD : 2 ≤ D) {a0 : Nat} {a1 : Int32} {h hz : hp} {v0 : Int32} (hf : fX13_none a0 a1 h = some (v0, hz)) : MC E yX13_none cX13_none (Option.some Jvm.ClassFile.FieldType.int) 4 D [.ref a0, .int a1] h (some (.int v0)) hz := by
  refine MC.of (by decide +kernel) (Nat.le_of_ble_eq_true rfl) rfl ?_
  unfold fX13_none at hf
  show AW E yX13_none cX13_none (Option.some Jvm.ClassFile.FieldType.int) 4 D (some (.int v0)) h hz 0 [(0, .ref a0), (1, .int a1)] [] h
  refine a_aload_n (q := 0) dX13_none_0 rfl rfl ?_
  obtain ⟨v1, e2, hf⟩ := obd hf
  refine o_gfR dX13_none_1 lk_X13_22 rfl e2 ?_
  refine a_iload_n (q := 1) dX13_none_4 rfl rfl ?_
  obtain ⟨_, e6, hf⟩ := obd hf
  obtain ⟨v4, h5, e3, hf⟩ := ob2 hf
  refine a_callV (as := [.int a1]) (np := 1) (ci := 8) (st := []) (sX9_variable E (D - 1) (by omega) e3) dX13_none_5 rfl (by omega) (by decide) cw_X13_59 ⟨wd_264, wd_265⟩ rfl (ckT_s e6) rfl (Nat.le_of_ble_eq_true rfl) ?_
  refine a_astore_n (lv1 := [(2, .ref v4), (0, .ref a0), (1, .int a1)]) dX13_none_8 rfl (by decide) rfl ?_
  refine a_aload_n (q := 0) dX13_none_9 rfl rfl ?_
  refine a_ifnonnull (tgt := 15) dX13_none_10 (by decide) (fun c => ?_) (fun c => ?_)
  · have hf := ifn c hf
    refine a_aload_n (q := 0) dX13_none_15 rfl rfl ?_
    obtain ⟨v7, e8, hf⟩ := obd hf
    refine o_gfI dX13_none_16 lk_X13_63 rfl e8 ?_
    refine a_istore_n (lv1 := [(3, .int v7), (2, .ref v4), (0, .ref a0), (1, .int a1)]) dX13_none_19 rfl (by decide) rfl ?_
    refine a_aload_n (q := 1) dX13_none_20 rfl rfl ?_
    obtain ⟨_, e11, hf⟩ := obd hf
    obtain ⟨h10, e9, hf⟩ := obd hf
    refine a_callV (as := []) (np := 0) (ci := 10) (st := []) (sX11_becomeNothing E (D - 1) (by omega) e9) dX13_none_21 rfl (by omega) (by decide) cw_X13_67 ⟨wd_271, wd_272⟩ rfl (ckT_s e11) rfl (Nat.le_of_ble_eq_true rfl) ?_
    refine a_iload_n (q := 0) dX13_none_24 rfl rfl ?_
    obtain ⟨rfl, rfl⟩ := oc2 hf
    exact a_ireturn dX13_none_25 rfl
  · have hf := ifp c hf
    refine a_iconst (v := (-1)) dX13_none_13 (by decide) ?_
    obtain ⟨rfl, rfl⟩ := oc2 hf
    exact a_ireturn dX13_none_14 rfl
def fX13_number (a0 : Nat) (a1 : Int32) (a2 : Int32) (h : hp) : Option (Int32 × hp) :=
  (gfR h a0 12 0).bind fun v1 =>
  (ckT h v1 8).bind fun _ =>
  bd2 (fX9_variable v1 a1 h) fun v4 h5 =>
  if v4 = 0 then (
    some ((-1), h5)
  ) else (
    bd2 (fX11_isInt (a2.toInt64) h5) fun v8 h9 =>
    if v8 = 0 then (
      some ((-2), h9)
    ) else (
      (gfI h9 v4 10 0).bind fun v10 =>
      (ckT h9 v4 10).bind fun _ =>
      (fX11_becomeInt v4 a2 h9).bind fun h13 =>
      some (v10, h13)
    )
  )
set_option maxHeartbeats 4000000 in
set_option maxRecDepth 100000 in
theorem sX13_number (E : gE) (D : Nat) (hD : 2 ≤ D) {a0 : Nat} {a1 : Int32} {a2 : Int32} {h hz : hp} {v0 : Int32} (hf : fX13_number a0 a1 a2 h = some (v0, hz)) : MC E yX13_number cX13_number (Option.some Jvm.ClassFile.FieldType.int) 5 D [.ref a0, .int a1, .int a2] h (some (.int v0)) hz := by
  refine MC.of (by decide +kernel) (Nat.le_of_ble_eq_true rfl) rfl ?_
  unfold fX13_number at hf
  show AW E yX13_number cX13_number (Option.some Jvm.ClassFile.FieldType.int) 5 D (some (.int v0)) h hz 0 [(0, .ref a0), (1, .int a1), (2, .int a2)] [] h
  refine a_aload_n (q := 0) dX13_number_0 rfl rfl ?_
  obtain ⟨v1, e2, hf⟩ := obd hf
  refine o_gfR dX13_number_1 lk_X13_22 rfl e2 ?_
  refine a_iload_n (q := 1) dX13_number_4 rfl rfl ?_
  obtain ⟨_, e6, hf⟩ := obd hf
  obtain ⟨v4, h5, e3, hf⟩ := ob2 hf
  refine a_callV (as := [.int a1]) (np := 1) (ci := 8) (st := []) (sX9_variable E (D - 1) (by omega) e3) dX13_number_5 rfl (by omega) (by decide) cw_X13_59 ⟨wd_264, wd_265⟩ rfl (ckT_s e6) rfl (Nat.le_of_ble_eq_true rfl) ?_
  refine a_astore_n (lv1 := [(3, .ref v4), (0, .ref a0), (1, .int a1), (2, .int a2)]) dX13_number_8 rfl (by decide) rfl ?_
  refine a_aload_n (q := 0) dX13_number_9 rfl rfl ?_
  refine a_ifnonnull (tgt := 15) dX13_number_10 (by decide) (fun c => ?_) (fun c => ?_)
  · have hf := ifn c hf
    refine a_iload_n (q := 3) dX13_number_15 rfl rfl ?_
    refine a_i2l dX13_number_16 rfl ?_
    obtain ⟨v8, h9, e7, hf⟩ := ob2 hf
    refine a_callS (as := [.long (a2.toInt64)]) (np := 1) (st := []) (sX11_isInt E (D - 1) (by omega) e7) dX13_number_17 rfl (by omega) (by decide) cw_X13_70 wd_279 rfl (Nat.le_of_ble_eq_true rfl) ?_
    refine a_if_ne (tgt := 26) dX13_number_20 (by decide) (fun c => ?_) (fun c => ?_)
    · have hf := ifn c hf
      refine a_aload_n (q := 0) dX13_number_26 rfl rfl ?_
      obtain ⟨v10, e11, hf⟩ := obd hf
      refine o_gfI dX13_number_27 lk_X13_63 rfl e11 ?_
      refine a_istore (lv1 := [(4, .int v10), (3, .ref v4), (0, .ref a0), (1, .int a1), (2, .int a2)]) dX13_number_30 (by decide) rfl ?_
      refine a_aload_n (q := 1) dX13_number_32 rfl rfl ?_
      refine a_iload_n (q := 4) dX13_number_33 rfl rfl ?_
      obtain ⟨_, e14, hf⟩ := obd hf
      obtain ⟨h13, e12, hf⟩ := obd hf
      refine a_callV (as := [.int a2]) (np := 1) (ci := 10) (st := []) (sX11_becomeInt E (D - 1) (by omega) e12) dX13_number_34 rfl (by omega) (by decide) cw_X13_74 ⟨wd_284, wd_285⟩ rfl (ckT_s e14) rfl (Nat.le_of_ble_eq_true rfl) ?_
      refine a_iload (q := 0) dX13_number_37 rfl ?_
      obtain ⟨rfl, rfl⟩ := oc2 hf
      exact a_ireturn dX13_number_39 rfl
    · have hf := ifp c hf
      refine a_bipush (v := (-2)) dX13_number_23 (by decide) ?_
      obtain ⟨rfl, rfl⟩ := oc2 hf
      exact a_ireturn dX13_number_25 rfl
  · have hf := ifp c hf
    refine a_iconst (v := (-1)) dX13_number_13 (by decide) ?_
    obtain ⟨rfl, rfl⟩ := oc2 hf
    exact a_ireturn dX13_number_14 rfl
def fX13_real (a0 : Nat) (a1 : Int32) (a2 : Int32) (a3 : Int32) (h : hp) : Option (Int32 × hp) :=
  (gfR h a0 12 0).bind fun v1 =>
  (ckT h v1 8).bind fun _ =>
  bd2 (fX9_variable v1 a1 h) fun v4 h5 =>
  if v4 = 0 then (
    some ((-1), h5)
  ) else (
    if a3 = 0 then (
      some ((-2), h5)
    ) else (
      (gfI h5 v4 10 0).bind fun v7 =>
      (fnn (FP.fdiv (FP.i2f a2) (FP.i2f a3))).bind fun v9 =>
      (ckT h5 v4 10).bind fun _ =>
      (fX11_becomeReal v4 v9 h5).bind fun h12 =>
      some (v7, h12)
    )
  )
set_option maxHeartbeats 4000000 in
set_option maxRecDepth 100000 in
theorem sX13_real (E : gE) (D : Nat) (hD : 2 ≤ D) {a0 : Nat} {a1 : Int32} {a2 : Int32} {a3 : Int32} {h hz : hp} {v0 : Int32} (hf : fX13_real a0 a1 a2 a3 h = some (v0, hz)) : MC E yX13_real cX13_real (Option.some Jvm.ClassFile.FieldType.int) 6 D [.ref a0, .int a1, .int a2, .int a3] h (some (.int v0)) hz := by
  refine MC.of (by decide +kernel) (Nat.le_of_ble_eq_true rfl) rfl ?_
  unfold fX13_real at hf
  show AW E yX13_real cX13_real (Option.some Jvm.ClassFile.FieldType.int) 6 D (some (.int v0)) h hz 0 [(0, .ref a0), (1, .int a1), (2, .int a2), (3, .int a3)] [] h
  refine a_aload_n (q := 0) dX13_real_0 rfl rfl ?_
  obtain ⟨v1, e2, hf⟩ := obd hf
  refine o_gfR dX13_real_1 lk_X13_22 rfl e2 ?_
  refine a_iload_n (q := 1) dX13_real_4 rfl rfl ?_
  obtain ⟨_, e6, hf⟩ := obd hf
  obtain ⟨v4, h5, e3, hf⟩ := ob2 hf
  refine a_callV (as := [.int a1]) (np := 1) (ci := 8) (st := []) (sX9_variable E (D - 1) (by omega) e3) dX13_real_5 rfl (by omega) (by decide) cw_X13_59 ⟨wd_264, wd_265⟩ rfl (ckT_s e6) rfl (Nat.le_of_ble_eq_true rfl) ?_
  refine a_astore (lv1 := [(4, .ref v4), (0, .ref a0), (1, .int a1), (2, .int a2), (3, .int a3)]) dX13_real_8 (by decide) rfl ?_
  refine a_aload (q := 0) dX13_real_10 rfl ?_
  refine a_ifnonnull (tgt := 17) dX13_real_12 (by decide) (fun c => ?_) (fun c => ?_)
  · have hf := ifn c hf
    refine a_iload_n (q := 4) dX13_real_17 rfl rfl ?_
    refine a_if_ne (tgt := 24) dX13_real_18 (by decide) (fun c => ?_) (fun c => ?_)
    · have hf := ifn c hf
      refine a_aload (q := 0) dX13_real_24 rfl ?_
      obtain ⟨v7, e8, hf⟩ := obd hf
      refine o_gfI dX13_real_26 lk_X13_63 rfl e8 ?_
      refine a_istore (lv1 := [(5, .int v7), (4, .ref v4), (0, .ref a0), (1, .int a1), (2, .int a2), (3, .int a3)]) dX13_real_29 (by decide) rfl ?_
      refine a_aload (q := 1) dX13_real_31 rfl ?_
      refine a_iload_n (q := 4) dX13_real_33 rfl rfl ?_
      refine a_i2f dX13_real_34 ?_
      refine a_iload_n (q := 5) dX13_real_35 rfl rfl ?_
      refine a_i2f dX13_real_36 ?_
      obtain ⟨v9, e10, hf⟩ := obd hf
      refine o_fdiv dX13_real_37 e10 ?_
      obtain ⟨_, e13, hf⟩ := obd hf
      obtain ⟨h12, e11, hf⟩ := obd hf
      refine a_callV (as := [.float v9]) (np := 1) (ci := 10) (st := []) (sX11_becomeReal E (D - 1) (by omega) e11) dX13_real_38 rfl (by omega) (by decide) cw_X13_77 ⟨wd_292, wd_293⟩ rfl (ckT_s e13) rfl (Nat.le_of_ble_eq_true rfl) ?_
      refine a_iload (q := 0) dX13_real_41 rfl ?_
      obtain ⟨rfl, rfl⟩ := oc2 hf
      exact a_ireturn dX13_real_43 rfl
    · have hf := ifp c hf
      refine a_bipush (v := (-2)) dX13_real_21 (by decide) ?_
      obtain ⟨rfl, rfl⟩ := oc2 hf
      exact a_ireturn dX13_real_23 rfl
  · have hf := ifp c hf
    refine a_iconst (v := (-1)) dX13_real_15 (by decide) ?_
    obtain ⟨rfl, rfl⟩ := oc2 hf
    exact a_ireturn dX13_real_16 rfl
def fX13_text (a0 : Nat) (a1 : Int32) (h : hp) : Option (Int32 × hp) :=
  (gfR h a0 12 0).bind fun v1 =>
  (ckT h v1 8).bind fun _ =>
  bd2 (fX9_variable v1 a1 h) fun v4 h5 =>
  if v4 = 0 then (
    some ((-1), h5)
  ) else (
    (gfI h5 v4 10 0).bind fun v7 =>
    (gfR h5 a0 12 3).bind fun v9 =>
    (ckT h5 v4 10).bind fun _ =>
    bd2 (fX11_becomeText v4 v9 h5) fun v12 h13 =>
    (gfR h13 a0 12 3).bind fun v15 =>
    (ckT h13 v15 4).bind fun _ =>
    (fX5_empty v15 h13).bind fun h18 =>
    if v12 = 0 then (
      some ((-2), h18)
    ) else (
      some (v7, h18)
    )
  )
set_option maxHeartbeats 4000000 in
set_option maxRecDepth 100000 in
theorem sX13_text (E : gE) (D : Nat) (hD : 3 ≤ D) {a0 : Nat} {a1 : Int32} {h hz : hp} {v0 : Int32} (hf : fX13_text a0 a1 h = some (v0, hz)) : MC E yX13_text cX13_text (Option.some Jvm.ClassFile.FieldType.int) 5 D [.ref a0, .int a1] h (some (.int v0)) hz := by
  refine MC.of (by decide +kernel) (Nat.le_of_ble_eq_true rfl) rfl ?_
  unfold fX13_text at hf
  show AW E yX13_text cX13_text (Option.some Jvm.ClassFile.FieldType.int) 5 D (some (.int v0)) h hz 0 [(0, .ref a0), (1, .int a1)] [] h
  refine a_aload_n (q := 0) dX13_text_0 rfl rfl ?_
  obtain ⟨v1, e2, hf⟩ := obd hf
  refine o_gfR dX13_text_1 lk_X13_22 rfl e2 ?_
  refine a_iload_n (q := 1) dX13_text_4 rfl rfl ?_
  obtain ⟨_, e6, hf⟩ := obd hf
  obtain ⟨v4, h5, e3, hf⟩ := ob2 hf
  refine a_callV (as := [.int a1]) (np := 1) (ci := 8) (st := []) (sX9_variable E (D - 1) (by omega) e3) dX13_text_5 rfl (by omega) (by decide) cw_X13_59 ⟨wd_264, wd_265⟩ rfl (ckT_s e6) rfl (Nat.le_of_ble_eq_true rfl) ?_
  refine a_astore_n (lv1 := [(2, .ref v4), (0, .ref a0), (1, .int a1)]) dX13_text_8 rfl (by decide) rfl ?_
  refine a_aload_n (q := 0) dX13_text_9 rfl rfl ?_
  refine a_ifnonnull (tgt := 15) dX13_text_10 (by decide) (fun c => ?_) (fun c => ?_)
  · have hf := ifn c hf
    refine a_aload_n (q := 0) dX13_text_15 rfl rfl ?_
    obtain ⟨v7, e8, hf⟩ := obd hf
    refine o_gfI dX13_text_16 lk_X13_63 rfl e8 ?_
    refine a_istore_n (lv1 := [(3, .int v7), (2, .ref v4), (0, .ref a0), (1, .int a1)]) dX13_text_19 rfl (by decide) rfl ?_
    refine a_aload_n (q := 1) dX13_text_20 rfl rfl ?_
    refine a_aload_n (q := 2) dX13_text_21 rfl rfl ?_
    obtain ⟨v9, e10, hf⟩ := obd hf
    refine o_gfR dX13_text_22 lk_X13_29 rfl e10 ?_
    obtain ⟨_, e14, hf⟩ := obd hf
    obtain ⟨v12, h13, e11, hf⟩ := ob2 hf
    refine a_callV (as := [.ref v9]) (np := 1) (ci := 10) (st := []) (sX11_becomeText E (D - 1) (by omega) e11) dX13_text_25 rfl (by omega) (by decide) cw_X13_81 ⟨wd_302, wd_303⟩ rfl (ckT_s e14) rfl (Nat.le_of_ble_eq_true rfl) ?_
    refine a_istore (lv1 := [(4, .int v12), (3, .int v7), (2, .ref v4), (0, .ref a0), (1, .int a1)]) dX13_text_28 (by decide) rfl ?_
    refine a_aload_n (q := 3) dX13_text_30 rfl rfl ?_
    obtain ⟨v15, e16, hf⟩ := obd hf
    refine o_gfR dX13_text_31 lk_X13_29 rfl e16 ?_
    obtain ⟨_, e19, hf⟩ := obd hf
    obtain ⟨h18, e17, hf⟩ := obd hf
    refine a_callV (as := []) (np := 0) (ci := 4) (st := []) (sX5_empty E (D - 1) (by omega) e17) dX13_text_34 rfl (by omega) (by decide) cw_X13_85 ⟨wd_321, wd_322⟩ rfl (ckT_s e19) rfl (Nat.le_of_ble_eq_true rfl) ?_
    refine a_iload (q := 0) dX13_text_37 rfl ?_
    refine a_if_eq (tgt := 46) dX13_text_39 (by decide) (fun c => ?_) (fun c => ?_)
    · have hf := ifp c hf
      refine a_bipush (v := (-2)) dX13_text_46 (by decide) ?_
      obtain ⟨rfl, rfl⟩ := oc2 hf
      exact a_ireturn dX13_text_48 rfl
    · have hf := ifn c hf
      refine a_iload_n (q := 1) dX13_text_42 rfl rfl ?_
      refine a_goto (tgt := 48) dX13_text_43 (by decide) ?_
      obtain ⟨rfl, rfl⟩ := oc2 hf
      exact a_ireturn dX13_text_48 rfl
  · have hf := ifp c hf
    refine a_iconst (v := (-1)) dX13_text_13 (by decide) ?_
    obtain ⟨rfl, rfl⟩ := oc2 hf
    exact a_ireturn dX13_text_14 rfl
def fX13_list (a0 : Nat) (a1 : Int32) (a2 : Int32) (h : hp) : Option (Int32 × hp) :=
  (gfR h a0 12 0).bind fun v1 =>
  (ckT h v1 8).bind fun _ =>
  bd2 (fX9_variable v1 a1 h) fun v4 h5 =>
  if v4 = 0 then (
    some ((-1), h5)
  ) else (
    if a2 < 0 then (
      some ((-2), h5)
    ) else (
      if a2 ≤ 6 then (
        (gfI h5 v4 10 0).bind fun v7 =>
        (ckT h5 v4 10).bind fun _ =>
        (fX11_becomeList v4 a2 h5).bind fun h10 =>
        some (v7, h10)
      ) else (
        some ((-2), h5)
      )
    )
  )
set_option maxHeartbeats 4000000 in
set_option maxRecDepth 100000 in
theorem sX13_list (E : gE) (D : Nat) (hD : 3 ≤ D) {a0 : Nat} {a1 : Int32} {a2 : Int32} {h hz : hp} {v0 : Int32} (hf : fX13_list a0 a1 a2 h = some (v0, hz)) : MC E yX13_list cX13_list (Option.some Jvm.ClassFile.FieldType.int) 5 D [.ref a0, .int a1, .int a2] h (some (.int v0)) hz := by
  refine MC.of (by decide +kernel) (Nat.le_of_ble_eq_true rfl) rfl ?_
  unfold fX13_list at hf
  show AW E yX13_list cX13_list (Option.some Jvm.ClassFile.FieldType.int) 5 D (some (.int v0)) h hz 0 [(0, .ref a0), (1, .int a1), (2, .int a2)] [] h
  refine a_aload_n (q := 0) dX13_list_0 rfl rfl ?_
  obtain ⟨v1, e2, hf⟩ := obd hf
  refine o_gfR dX13_list_1 lk_X13_22 rfl e2 ?_
  refine a_iload_n (q := 1) dX13_list_4 rfl rfl ?_
  obtain ⟨_, e6, hf⟩ := obd hf
  obtain ⟨v4, h5, e3, hf⟩ := ob2 hf
  refine a_callV (as := [.int a1]) (np := 1) (ci := 8) (st := []) (sX9_variable E (D - 1) (by omega) e3) dX13_list_5 rfl (by omega) (by decide) cw_X13_59 ⟨wd_264, wd_265⟩ rfl (ckT_s e6) rfl (Nat.le_of_ble_eq_true rfl) ?_
  refine a_astore_n (lv1 := [(3, .ref v4), (0, .ref a0), (1, .int a1), (2, .int a2)]) dX13_list_8 rfl (by decide) rfl ?_
  refine a_aload_n (q := 0) dX13_list_9 rfl rfl ?_
  refine a_ifnonnull (tgt := 15) dX13_list_10 (by decide) (fun c => ?_) (fun c => ?_)
  · have hf := ifn c hf
    refine a_iload_n (q := 3) dX13_list_15 rfl rfl ?_
    refine a_if_lt (tgt := 25) dX13_list_16 (by decide) (fun c => ?_) (fun c => ?_)
    · have hf := ifp c hf
      refine a_bipush (v := (-2)) dX13_list_25 (by decide) ?_
      obtain ⟨rfl, rfl⟩ := oc2 hf
      exact a_ireturn dX13_list_27 rfl
    · have hf := ifn c hf
      refine a_iload_n (q := 3) dX13_list_19 rfl rfl ?_
      refine a_bipush (v := 6) dX13_list_20 (by decide) ?_
      refine a_icmp_le (tgt := 28) dX13_list_22 (by decide) (fun c => ?_) (fun c => ?_)
      · have hf := ifp c hf
        refine a_aload_n (q := 0) dX13_list_28 rfl rfl ?_
        obtain ⟨v7, e8, hf⟩ := obd hf
        refine o_gfI dX13_list_29 lk_X13_63 rfl e8 ?_
        refine a_istore (lv1 := [(4, .int v7), (3, .ref v4), (0, .ref a0), (1, .int a1), (2, .int a2)]) dX13_list_32 (by decide) rfl ?_
        refine a_aload_n (q := 1) dX13_list_34 rfl rfl ?_
        refine a_iload_n (q := 4) dX13_list_35 rfl rfl ?_
        obtain ⟨_, e11, hf⟩ := obd hf
        obtain ⟨h10, e9, hf⟩ := obd hf
        refine a_callV (as := [.int a2]) (np := 1) (ci := 10) (st := []) (sX11_becomeList E (D - 1) (by omega) e9) dX13_list_36 rfl (by omega) (by decide) cw_X13_88 ⟨wd_329, wd_330⟩ rfl (ckT_s e11) rfl (Nat.le_of_ble_eq_true rfl) ?_
        refine a_iload (q := 0) dX13_list_39 rfl ?_
        obtain ⟨rfl, rfl⟩ := oc2 hf
        exact a_ireturn dX13_list_41 rfl
      · have hf := ifn c hf
        refine a_bipush (v := (-2)) dX13_list_25 (by decide) ?_
        obtain ⟨rfl, rfl⟩ := oc2 hf
        exact a_ireturn dX13_list_27 rfl
  · have hf := ifp c hf
    refine a_iconst (v := (-1)) dX13_list_13 (by decide) ?_
    obtain ⟨rfl, rfl⟩ := oc2 hf
    exact a_ireturn dX13_list_14 rfl
def fX13_item (a0 : Nat) (a1 : Int32) (a2 : Int32) (a3 : Int32) (h : hp) : Option (Int32 × hp) :=
  (gfR h a0 12 0).bind fun v1 =>
  (ckT h v1 8).bind fun _ =>
  bd2 (fX9_variable v1 a1 h) fun v4 h5 =>
  if v4 = 0 then (
    some ((-1), h5)
  ) else (
    (gfI h5 v4 10 0).bind fun v7 =>
    if v7 = 4 then (
      (gfI h5 v4 10 3).bind fun v9 =>
      bd2 (fX13_among a2 v9 h5) fun v12 h13 =>
      if v12 = 0 then (
        some ((-1), h13)
      ) else (
        bd2 (fX11_isInt (a3.toInt64) h13) fun v15 h16 =>
        if v15 = 0 then (
          some ((-2), h16)
        ) else (
          (ckT h16 v4 10).bind fun _ =>
          bd2 (fX11_at v4 a2 h16) fun v18 h19 =>
          (ckT h19 v4 10).bind fun _ =>
          (fX11_put v4 a2 a3 h19).bind fun h22 =>
          some (v18, h22)
        )
      )
    ) else (
      some ((-3), h5)
    )
  )
set_option maxHeartbeats 4000000 in
set_option maxRecDepth 100000 in
theorem sX13_item (E : gE) (D : Nat) (hD : 2 ≤ D) {a0 : Nat} {a1 : Int32} {a2 : Int32} {a3 : Int32} {h hz : hp} {v0 : Int32} (hf : fX13_item a0 a1 a2 a3 h = some (v0, hz)) : MC E yX13_item cX13_item (Option.some Jvm.ClassFile.FieldType.int) 6 D [.ref a0, .int a1, .int a2, .int a3] h (some (.int v0)) hz := by
  refine MC.of (by decide +kernel) (Nat.le_of_ble_eq_true rfl) rfl ?_
  unfold fX13_item at hf
  show AW E yX13_item cX13_item (Option.some Jvm.ClassFile.FieldType.int) 6 D (some (.int v0)) h hz 0 [(0, .ref a0), (1, .int a1), (2, .int a2), (3, .int a3)] [] h
  refine a_aload_n (q := 0) dX13_item_0 rfl rfl ?_
  obtain ⟨v1, e2, hf⟩ := obd hf
  refine o_gfR dX13_item_1 lk_X13_22 rfl e2 ?_
  refine a_iload_n (q := 1) dX13_item_4 rfl rfl ?_
  obtain ⟨_, e6, hf⟩ := obd hf
  obtain ⟨v4, h5, e3, hf⟩ := ob2 hf
  refine a_callV (as := [.int a1]) (np := 1) (ci := 8) (st := []) (sX9_variable E (D - 1) (by omega) e3) dX13_item_5 rfl (by omega) (by decide) cw_X13_59 ⟨wd_264, wd_265⟩ rfl (ckT_s e6) rfl (Nat.le_of_ble_eq_true rfl) ?_
  refine a_astore (lv1 := [(4, .ref v4), (0, .ref a0), (1, .int a1), (2, .int a2), (3, .int a3)]) dX13_item_8 (by decide) rfl ?_
  refine a_aload (q := 0) dX13_item_10 rfl ?_
  refine a_ifnonnull (tgt := 17) dX13_item_12 (by decide) (fun c => ?_) (fun c => ?_)
  · have hf := ifn c hf
    refine a_aload (q := 0) dX13_item_17 rfl ?_
    obtain ⟨v7, e8, hf⟩ := obd hf
    refine o_gfI dX13_item_19 lk_X13_63 rfl e8 ?_
    refine a_iconst (v := 4) dX13_item_22 (by decide) ?_
    refine a_icmp_eq (tgt := 29) dX13_item_23 (by decide) (fun c => ?_) (fun c => ?_)
    · have hf := ifp c hf
      refine a_iload_n (q := 3) dX13_item_29 rfl rfl ?_
      refine a_aload (q := 0) dX13_item_30 rfl ?_
      obtain ⟨v9, e10, hf⟩ := obd hf
      refine o_gfI dX13_item_32 lk_X13_91 rfl e10 ?_
      obtain ⟨v12, h13, e11, hf⟩ := ob2 hf
      refine a_callS (as := [.int a2, .int v9]) (np := 2) (st := []) (sX13_among E (D - 1) (by omega) e11) dX13_item_35 rfl (by omega) (by decide) cw_X13_94 wd_268 rfl (Nat.le_of_ble_eq_true rfl) ?_
      refine a_if_ne (tgt := 43) dX13_item_38 (by decide) (fun c => ?_) (fun c => ?_)
      · have hf := ifn c hf
        refine a_iload_n (q := 4) dX13_item_43 rfl rfl ?_
        refine a_i2l dX13_item_44 rfl ?_
        obtain ⟨v15, h16, e14, hf⟩ := ob2 hf
        refine a_callS (as := [.long (a3.toInt64)]) (np := 1) (st := []) (sX11_isInt E (D - 1) (by omega) e14) dX13_item_45 rfl (by omega) (by decide) cw_X13_70 wd_279 rfl (Nat.le_of_ble_eq_true rfl) ?_
        refine a_if_ne (tgt := 54) dX13_item_48 (by decide) (fun c => ?_) (fun c => ?_)
        · have hf := ifn c hf
          refine a_aload (q := 0) dX13_item_54 rfl ?_
          refine a_iload_n (q := 3) dX13_item_56 rfl rfl ?_
          obtain ⟨_, e20, hf⟩ := obd hf
          obtain ⟨v18, h19, e17, hf⟩ := ob2 hf
          refine a_callV (as := [.int a2]) (np := 1) (ci := 10) (st := []) (sX11_at E (D - 1) (by omega) e17) dX13_item_57 rfl (by omega) (by decide) cw_X13_98 ⟨wd_338, wd_339⟩ rfl (ckT_s e20) rfl (Nat.le_of_ble_eq_true rfl) ?_
          refine a_istore (lv1 := [(5, .int v18), (4, .ref v4), (0, .ref a0), (1, .int a1), (2, .int a2), (3, .int a3)]) dX13_item_60 (by decide) rfl ?_
          refine a_aload (q := 1) dX13_item_62 rfl ?_
          refine a_iload_n (q := 4) dX13_item_64 rfl rfl ?_
          refine a_iload_n (q := 5) dX13_item_65 rfl rfl ?_
          obtain ⟨_, e23, hf⟩ := obd hf
          obtain ⟨h22, e21, hf⟩ := obd hf
          refine a_callV (as := [.int a2, .int a3]) (np := 2) (ci := 10) (st := []) (sX11_put E (D - 1) (by omega) e21) dX13_item_66 rfl (by omega) (by decide) cw_X13_102 ⟨wd_317, wd_318⟩ rfl (ckT_s e23) rfl (Nat.le_of_ble_eq_true rfl) ?_
          refine a_iload (q := 0) dX13_item_69 rfl ?_
          obtain ⟨rfl, rfl⟩ := oc2 hf
          exact a_ireturn dX13_item_71 rfl
        · have hf := ifp c hf
          refine a_bipush (v := (-2)) dX13_item_51 (by decide) ?_
          obtain ⟨rfl, rfl⟩ := oc2 hf
          exact a_ireturn dX13_item_53 rfl
      · have hf := ifp c hf
        refine a_iconst (v := (-1)) dX13_item_41 (by decide) ?_
        obtain ⟨rfl, rfl⟩ := oc2 hf
        exact a_ireturn dX13_item_42 rfl
    · have hf := ifn c hf
      refine a_bipush (v := (-3)) dX13_item_26 (by decide) ?_
      obtain ⟨rfl, rfl⟩ := oc2 hf
      exact a_ireturn dX13_item_28 rfl
  · have hf := ifp c hf
    refine a_iconst (v := (-1)) dX13_item_15 (by decide) ?_
    obtain ⟨rfl, rfl⟩ := oc2 hf
    exact a_ireturn dX13_item_16 rfl
def fX13_showFigures (a0 : Nat) (a1 : Nat) (h : hp) : Option (Int32 × hp) :=
  (gfR h a0 12 5).bind fun v1 =>
  (ckT h v1 4).bind fun _ =>
  (fX5_empty v1 h).bind fun h4 =>
  (gfR h4 a0 12 5).bind fun v6 =>
  (ckT h4 a1 10).bind fun _ =>
  (fX11_showInto a1 v6 h4).bind fun h9 =>
  (gfR h9 a0 12 5).bind fun v11 =>
  (gfI h9 v11 4 1).bind fun v13 =>
  some (v13, h9)
set_option maxHeartbeats 4000000 in
set_option maxRecDepth 100000 in
theorem sX13_showFigures (E : gE) (D : Nat) (hD : 4 ≤ D) {a0 : Nat} {a1 : Nat} {h hz : hp} {v0 : Int32} (hf : fX13_showFigures a0 a1 h = some (v0, hz)) : MC E yX13_showFigures cX13_showFigures (Option.some Jvm.ClassFile.FieldType.int) 2 D [.ref a0, .ref a1] h (some (.int v0)) hz := by
  refine MC.of (by decide +kernel) (Nat.le_of_ble_eq_true rfl) rfl ?_
  unfold fX13_showFigures at hf
  show AW E yX13_showFigures cX13_showFigures (Option.some Jvm.ClassFile.FieldType.int) 2 D (some (.int v0)) h hz 0 [(0, .ref a0), (1, .ref a1)] [] h
  refine a_aload_n (q := 0) dX13_showFigures_0 rfl rfl ?_
  obtain ⟨v1, e2, hf⟩ := obd hf
  refine o_gfR dX13_showFigures_1 lk_X13_36 rfl e2 ?_
  obtain ⟨_, e5, hf⟩ := obd hf
  obtain ⟨h4, e3, hf⟩ := obd hf
  refine a_callV (as := []) (np := 0) (ci := 4) (st := []) (sX5_empty E (D - 1) (by omega) e3) dX13_showFigures_4 rfl (by omega) (by decide) cw_X13_85 ⟨wd_321, wd_322⟩ rfl (ckT_s e5) rfl (Nat.le_of_ble_eq_true rfl) ?_
  refine a_aload_n (q := 1) dX13_showFigures_7 rfl rfl ?_
  refine a_aload_n (q := 0) dX13_showFigures_8 rfl rfl ?_
  obtain ⟨v6, e7, hf⟩ := obd hf
  refine o_gfR dX13_showFigures_9 lk_X13_36 rfl e7 ?_
  obtain ⟨_, e10, hf⟩ := obd hf
  obtain ⟨h9, e8, hf⟩ := obd hf
  refine a_callV (as := [.ref v6]) (np := 1) (ci := 10) (st := []) (sX11_showInto E (D - 1) (by omega) e8) dX13_showFigures_12 rfl (by omega) (by decide) cw_X13_253 ⟨wd_351, wd_352⟩ rfl (ckT_s e10) rfl (Nat.le_of_ble_eq_true rfl) ?_
  refine a_aload_n (q := 0) dX13_showFigures_15 rfl rfl ?_
  obtain ⟨v11, e12, hf⟩ := obd hf
  refine o_gfR dX13_showFigures_16 lk_X13_36 rfl e12 ?_
  obtain ⟨v13, e14, hf⟩ := obd hf
  refine o_gfI dX13_showFigures_19 lk_X13_123 rfl e14 ?_
  obtain ⟨rfl, rfl⟩ := oc2 hf
  exact a_ireturn dX13_showFigures_22 rfl
def fX13_of (a0 : Nat) (a1 : Int32) (a2 : Int32) (h : hp) : Option (Int32 × hp) :=
  (gfR h a0 12 0).bind fun v1 =>
  (ckT h v1 8).bind fun _ =>
  bd2 (fX9_variable v1 a1 h) fun v4 h5 =>
  if v4 = 0 then (
    some ((-1), h5)
  ) else (
    if a2 = 0 then (
      (gfI h5 v4 10 0).bind fun v7 =>
      some (v7, h5)
    ) else (
    if a2 = 1 then (
      (ckT h5 a0 12).bind fun _ =>
      bd2 (fX13_showFigures a0 v4 h5) fun v10 h11 =>
      some (v10, h11)
    ) else (
    if a2 = 2 then (
      (ckT h5 v4 10).bind fun _ =>
      bd2 (fX11_measure v4 h5) fun v14 h15 =>
      some (v14, h15)
    ) else (
    if a2 = 3 then (
      (ckT h5 v4 10).bind fun _ =>
      bd2 (fX11_isTrue v4 h5) fun v18 h19 =>
      if v18 = 0 then (
        some (0, h19)
      ) else (
        some (1, h19)
      )
    ) else (
      some ((-1), h5)
    ))))
  )
set_option maxHeartbeats 4000000 in
set_option maxRecDepth 100000 in
theorem sX13_of (E : gE) (D : Nat) (hD : 5 ≤ D) {a0 : Nat} {a1 : Int32} {a2 : Int32} {h hz : hp} {v0 : Int32} (hf : fX13_of a0 a1 a2 h = some (v0, hz)) : MC E yX13_of cX13_of (Option.some Jvm.ClassFile.FieldType.int) 4 D [.ref a0, .int a1, .int a2] h (some (.int v0)) hz := by
  refine MC.of (by decide +kernel) (Nat.le_of_ble_eq_true rfl) rfl ?_
  unfold fX13_of at hf
  show AW E yX13_of cX13_of (Option.some Jvm.ClassFile.FieldType.int) 4 D (some (.int v0)) h hz 0 [(0, .ref a0), (1, .int a1), (2, .int a2)] [] h
  refine a_aload_n (q := 0) dX13_of_0 rfl rfl ?_
  obtain ⟨v1, e2, hf⟩ := obd hf
  refine o_gfR dX13_of_1 lk_X13_22 rfl e2 ?_
  refine a_iload_n (q := 1) dX13_of_4 rfl rfl ?_
  obtain ⟨_, e6, hf⟩ := obd hf
  obtain ⟨v4, h5, e3, hf⟩ := ob2 hf
  refine a_callV (as := [.int a1]) (np := 1) (ci := 8) (st := []) (sX9_variable E (D - 1) (by omega) e3) dX13_of_5 rfl (by omega) (by decide) cw_X13_59 ⟨wd_264, wd_265⟩ rfl (ckT_s e6) rfl (Nat.le_of_ble_eq_true rfl) ?_
  refine a_astore_n (lv1 := [(3, .ref v4), (0, .ref a0), (1, .int a1), (2, .int a2)]) dX13_of_8 rfl (by decide) rfl ?_
  refine a_aload_n (q := 0) dX13_of_9 rfl rfl ?_
  refine a_ifnonnull (tgt := 15) dX13_of_10 (by decide) (fun c => ?_) (fun c => ?_)
  · have hf := ifn c hf
    refine a_iload_n (q := 3) dX13_of_15 rfl rfl ?_
    by_cases c16_0 : a2 = 0
    · have hf := ifp c16_0 hf
      refine a_tblIn (k := 0) (off := 32) (tgt := 48) dX13_of_16 c16_0 (by decide) (by decide) rfl (by decide) ?_
      refine a_aload_n (q := 0) dX13_of_48 rfl rfl ?_
      obtain ⟨v7, e8, hf⟩ := obd hf
      refine o_gfI dX13_of_49 lk_X13_63 rfl e8 ?_
      obtain ⟨rfl, rfl⟩ := oc2 hf
      exact a_ireturn dX13_of_52 rfl
    have hf := ifn c16_0 hf
    by_cases c16_1 : a2 = 1
    · have hf := ifp c16_1 hf
      refine a_tblIn (k := 1) (off := 37) (tgt := 53) dX13_of_16 c16_1 (by decide) (by decide) rfl (by decide) ?_
      refine a_aload_n (q := 1) dX13_of_53 rfl rfl ?_
      refine a_aload_n (q := 0) dX13_of_54 rfl rfl ?_
      obtain ⟨_, e12, hf⟩ := obd hf
      obtain ⟨v10, h11, e9, hf⟩ := ob2 hf
      refine a_callV (as := [.ref v4]) (np := 1) (ci := 12) (st := []) (sX13_showFigures E (D - 1) (by omega) e9) dX13_of_55 rfl (by omega) (by decide) cw_X13_106 ⟨wd_348, ws_1⟩ rfl (ckT_s e12) rfl (Nat.le_of_ble_eq_true rfl) ?_
      obtain ⟨rfl, rfl⟩ := oc2 hf
      exact a_ireturn dX13_of_58 rfl
    have hf := ifn c16_1 hf
    by_cases c16_2 : a2 = 2
    · have hf := ifp c16_2 hf
      refine a_tblIn (k := 2) (off := 43) (tgt := 59) dX13_of_16 c16_2 (by decide) (by decide) rfl (by decide) ?_
      refine a_aload_n (q := 0) dX13_of_59 rfl rfl ?_
      obtain ⟨_, e16, hf⟩ := obd hf
      obtain ⟨v14, h15, e13, hf⟩ := ob2 hf
      refine a_callV (as := []) (np := 0) (ci := 10) (st := []) (sX11_measure E (D - 1) (by omega) e13) dX13_of_60 rfl (by omega) (by decide) cw_X13_110 ⟨wd_371, wd_372⟩ rfl (ckT_s e16) rfl (Nat.le_of_ble_eq_true rfl) ?_
      obtain ⟨rfl, rfl⟩ := oc2 hf
      exact a_ireturn dX13_of_63 rfl
    have hf := ifn c16_2 hf
    by_cases c16_3 : a2 = 3
    · have hf := ifp c16_3 hf
      refine a_tblIn (k := 3) (off := 48) (tgt := 64) dX13_of_16 c16_3 (by decide) (by decide) rfl (by decide) ?_
      refine a_aload_n (q := 0) dX13_of_64 rfl rfl ?_
      obtain ⟨_, e20, hf⟩ := obd hf
      obtain ⟨v18, h19, e17, hf⟩ := ob2 hf
      refine a_callV (as := []) (np := 0) (ci := 10) (st := []) (sX11_isTrue E (D - 1) (by omega) e17) dX13_of_65 rfl (by omega) (by decide) cw_X13_114 ⟨wd_383, wd_384⟩ rfl (ckT_s e20) rfl (Nat.le_of_ble_eq_true rfl) ?_
      refine a_if_eq (tgt := 75) dX13_of_68 (by decide) (fun c => ?_) (fun c => ?_)
      · have hf := ifp c hf
        refine a_iconst (v := 0) dX13_of_75 (by decide) ?_
        obtain ⟨rfl, rfl⟩ := oc2 hf
        exact a_ireturn dX13_of_76 rfl
      · have hf := ifn c hf
        refine a_iconst (v := 1) dX13_of_71 (by decide) ?_
        refine a_goto (tgt := 76) dX13_of_72 (by decide) ?_
        obtain ⟨rfl, rfl⟩ := oc2 hf
        exact a_ireturn dX13_of_76 rfl
    have hf := ifn c16_3 hf
    have t16_0 := lv_neT (a := 0) c16_0 rfl
    have t16_1 := lv_neT (a := 1) c16_1 rfl
    have t16_2 := lv_neT (a := 2) c16_2 rfl
    have t16_3 := lv_neT (a := 3) c16_3 rfl
    refine a_tblOut (tgt := 77) dX13_of_16 (by omega) (by decide) ?_
    refine a_iconst (v := (-1)) dX13_of_77 (by decide) ?_
    obtain ⟨rfl, rfl⟩ := oc2 hf
    exact a_ireturn dX13_of_78 rfl
  · have hf := ifp c hf
    refine a_iconst (v := (-1)) dX13_of_13 (by decide) ?_
    obtain ⟨rfl, rfl⟩ := oc2 hf
    exact a_ireturn dX13_of_14 rfl
def fX13_shown (a0 : Nat) (a1 : Int32) (a2 : Int32) (h : hp) : Option (Int32 × hp) :=
  (gfR h a0 12 0).bind fun v1 =>
  (ckT h v1 8).bind fun _ =>
  bd2 (fX9_variable v1 a1 h) fun v4 h5 =>
  if v4 = 0 then (
    some ((-1), h5)
  ) else (
    (ckT h5 a0 12).bind fun _ =>
    bd2 (fX13_showFigures a0 v4 h5) fun v8 h9 =>
    (gfR h9 a0 12 5).bind fun v11 =>
    (ckT h9 v11 4).bind fun _ =>
    bd2 (fX5_at v11 a2 h9) fun v14 h15 =>
    some (v14, h15)
  )
set_option maxHeartbeats 4000000 in
set_option maxRecDepth 100000 in
theorem sX13_shown (E : gE) (D : Nat) (hD : 5 ≤ D) {a0 : Nat} {a1 : Int32} {a2 : Int32} {h hz : hp} {v0 : Int32} (hf : fX13_shown a0 a1 a2 h = some (v0, hz)) : MC E yX13_shown cX13_shown (Option.some Jvm.ClassFile.FieldType.int) 4 D [.ref a0, .int a1, .int a2] h (some (.int v0)) hz := by
  refine MC.of (by decide +kernel) (Nat.le_of_ble_eq_true rfl) rfl ?_
  unfold fX13_shown at hf
  show AW E yX13_shown cX13_shown (Option.some Jvm.ClassFile.FieldType.int) 4 D (some (.int v0)) h hz 0 [(0, .ref a0), (1, .int a1), (2, .int a2)] [] h
  refine a_aload_n (q := 0) dX13_shown_0 rfl rfl ?_
  obtain ⟨v1, e2, hf⟩ := obd hf
  refine o_gfR dX13_shown_1 lk_X13_22 rfl e2 ?_
  refine a_iload_n (q := 1) dX13_shown_4 rfl rfl ?_
  obtain ⟨_, e6, hf⟩ := obd hf
  obtain ⟨v4, h5, e3, hf⟩ := ob2 hf
  refine a_callV (as := [.int a1]) (np := 1) (ci := 8) (st := []) (sX9_variable E (D - 1) (by omega) e3) dX13_shown_5 rfl (by omega) (by decide) cw_X13_59 ⟨wd_264, wd_265⟩ rfl (ckT_s e6) rfl (Nat.le_of_ble_eq_true rfl) ?_
  refine a_astore_n (lv1 := [(3, .ref v4), (0, .ref a0), (1, .int a1), (2, .int a2)]) dX13_shown_8 rfl (by decide) rfl ?_
  refine a_aload_n (q := 0) dX13_shown_9 rfl rfl ?_
  refine a_ifnonnull (tgt := 15) dX13_shown_10 (by decide) (fun c => ?_) (fun c => ?_)
  · have hf := ifn c hf
    refine a_aload_n (q := 1) dX13_shown_15 rfl rfl ?_
    refine a_aload_n (q := 0) dX13_shown_16 rfl rfl ?_
    obtain ⟨_, e10, hf⟩ := obd hf
    obtain ⟨v8, h9, e7, hf⟩ := ob2 hf
    refine a_callV (as := [.ref v4]) (np := 1) (ci := 12) (st := []) (sX13_showFigures E (D - 1) (by omega) e7) dX13_shown_17 rfl (by omega) (by decide) cw_X13_106 ⟨wd_348, ws_1⟩ rfl (ckT_s e10) rfl (Nat.le_of_ble_eq_true rfl) ?_
    refine a_pop dX13_shown_20 rfl ?_
    refine a_aload_n (q := 1) dX13_shown_21 rfl rfl ?_
    obtain ⟨v11, e12, hf⟩ := obd hf
    refine o_gfR dX13_shown_22 lk_X13_36 rfl e12 ?_
    refine a_iload_n (q := 3) dX13_shown_25 rfl rfl ?_
    obtain ⟨_, e16, hf⟩ := obd hf
    obtain ⟨v14, h15, e13, hf⟩ := ob2 hf
    refine a_callV (as := [.int a2]) (np := 1) (ci := 4) (st := []) (sX5_at E (D - 1) (by omega) e13) dX13_shown_26 rfl (by omega) (by decide) cw_X13_118 ⟨wd_313, wd_314⟩ rfl (ckT_s e16) rfl (Nat.le_of_ble_eq_true rfl) ?_
    obtain ⟨rfl, rfl⟩ := oc2 hf
    exact a_ireturn dX13_shown_29 rfl
  · have hf := ifp c hf
    refine a_iconst (v := (-1)) dX13_shown_13 (by decide) ?_
    obtain ⟨rfl, rfl⟩ := oc2 hf
    exact a_ireturn dX13_shown_14 rfl
def fX13_feed (a0 : Nat) (a1 : Int32) (h : hp) : Option (Int32 × hp) :=
  if a1 < 1 then (
    some ((-2), h)
  ) else (
    if a1 ≤ 127 then (
      (gfR h a0 12 3).bind fun v1 =>
      (ckT h v1 4).bind fun _ =>
      bd2 (fX5_add v1 a1 h) fun v4 h5 =>
      if v4 = 0 then (
        some ((-4), h5)
      ) else (
        (gfR h5 a0 12 3).bind fun v7 =>
        (gfI h5 v7 4 1).bind fun v9 =>
        some (v9, h5)
      )
    ) else (
      some ((-2), h)
    )
  )
set_option maxHeartbeats 4000000 in
set_option maxRecDepth 100000 in
theorem sX13_feed (E : gE) (D : Nat) (hD : 1 ≤ D) {a0 : Nat} {a1 : Int32} {h hz : hp} {v0 : Int32} (hf : fX13_feed a0 a1 h = some (v0, hz)) : MC E yX13_feed cX13_feed (Option.some Jvm.ClassFile.FieldType.int) 2 D [.ref a0, .int a1] h (some (.int v0)) hz := by
  refine MC.of (by decide +kernel) (Nat.le_of_ble_eq_true rfl) rfl ?_
  unfold fX13_feed at hf
  show AW E yX13_feed cX13_feed (Option.some Jvm.ClassFile.FieldType.int) 2 D (some (.int v0)) h hz 0 [(0, .ref a0), (1, .int a1)] [] h
  refine a_iload_n (q := 1) dX13_feed_0 rfl rfl ?_
  refine a_iconst (v := 1) dX13_feed_1 (by decide) ?_
  refine a_icmp_lt (tgt := 11) dX13_feed_2 (by decide) (fun c => ?_) (fun c => ?_)
  · have hf := ifp c hf
    refine a_bipush (v := (-2)) dX13_feed_11 (by decide) ?_
    obtain ⟨rfl, rfl⟩ := oc2 hf
    exact a_ireturn dX13_feed_13 rfl
  · have hf := ifn c hf
    refine a_iload_n (q := 1) dX13_feed_5 rfl rfl ?_
    refine a_bipush (v := 127) dX13_feed_6 (by decide) ?_
    refine a_icmp_le (tgt := 14) dX13_feed_8 (by decide) (fun c => ?_) (fun c => ?_)
    · have hf := ifp c hf
      refine a_aload_n (q := 0) dX13_feed_14 rfl rfl ?_
      obtain ⟨v1, e2, hf⟩ := obd hf
      refine o_gfR dX13_feed_15 lk_X13_29 rfl e2 ?_
      refine a_iload_n (q := 1) dX13_feed_18 rfl rfl ?_
      obtain ⟨_, e6, hf⟩ := obd hf
      obtain ⟨v4, h5, e3, hf⟩ := ob2 hf
      refine a_callV (as := [.int a1]) (np := 1) (ci := 4) (st := []) (sX5_add E (D - 1) (by omega) e3) dX13_feed_19 rfl (by omega) (by decide) cw_X13_119 ⟨wd_358, wd_359⟩ rfl (ckT_s e6) rfl (Nat.le_of_ble_eq_true rfl) ?_
      refine a_if_eq (tgt := 35) dX13_feed_22 (by decide) (fun c => ?_) (fun c => ?_)
      · have hf := ifp c hf
        refine a_bipush (v := (-4)) dX13_feed_35 (by decide) ?_
        obtain ⟨rfl, rfl⟩ := oc2 hf
        exact a_ireturn dX13_feed_37 rfl
      · have hf := ifn c hf
        refine a_aload_n (q := 0) dX13_feed_25 rfl rfl ?_
        obtain ⟨v7, e8, hf⟩ := obd hf
        refine o_gfR dX13_feed_26 lk_X13_29 rfl e8 ?_
        obtain ⟨v9, e10, hf⟩ := obd hf
        refine o_gfI dX13_feed_29 lk_X13_123 rfl e10 ?_
        refine a_goto (tgt := 37) dX13_feed_32 (by decide) ?_
        obtain ⟨rfl, rfl⟩ := oc2 hf
        exact a_ireturn dX13_feed_37 rfl
    · have hf := ifn c hf
      refine a_bipush (v := (-2)) dX13_feed_11 (by decide) ?_
      obtain ⟨rfl, rfl⟩ := oc2 hf
      exact a_ireturn dX13_feed_13 rfl
def fX13_clear (a0 : Nat) (h : hp) : Option (Int32 × hp) :=
  (gfR h a0 12 3).bind fun v1 =>
  (gfI h v1 4 1).bind fun v3 =>
  (gfR h a0 12 3).bind fun v5 =>
  (ckT h v5 4).bind fun _ =>
  (fX5_empty v5 h).bind fun h8 =>
  some (v3, h8)
set_option maxHeartbeats 4000000 in
set_option maxRecDepth 100000 in
theorem sX13_clear (E : gE) (D : Nat) (hD : 1 ≤ D) {a0 : Nat} {h hz : hp} {v0 : Int32} (hf : fX13_clear a0 h = some (v0, hz)) : MC E yX13_clear cX13_clear (Option.some Jvm.ClassFile.FieldType.int) 2 D [.ref a0] h (some (.int v0)) hz := by
  refine MC.of (by decide +kernel) (Nat.le_of_ble_eq_true rfl) rfl ?_
  unfold fX13_clear at hf
  show AW E yX13_clear cX13_clear (Option.some Jvm.ClassFile.FieldType.int) 2 D (some (.int v0)) h hz 0 [(0, .ref a0)] [] h
  refine a_aload_n (q := 0) dX13_clear_0 rfl rfl ?_
  obtain ⟨v1, e2, hf⟩ := obd hf
  refine o_gfR dX13_clear_1 lk_X13_29 rfl e2 ?_
  obtain ⟨v3, e4, hf⟩ := obd hf
  refine o_gfI dX13_clear_4 lk_X13_123 rfl e4 ?_
  refine a_istore_n (lv1 := [(1, .int v3), (0, .ref a0)]) dX13_clear_7 rfl (by decide) rfl ?_
  refine a_aload_n (q := 1) dX13_clear_8 rfl rfl ?_
  obtain ⟨v5, e6, hf⟩ := obd hf
  refine o_gfR dX13_clear_9 lk_X13_29 rfl e6 ?_
  obtain ⟨_, e9, hf⟩ := obd hf
  obtain ⟨h8, e7, hf⟩ := obd hf
  refine a_callV (as := []) (np := 0) (ci := 4) (st := []) (sX5_empty E (D - 1) (by omega) e7) dX13_clear_12 rfl (by omega) (by decide) cw_X13_85 ⟨wd_321, wd_322⟩ rfl (ckT_s e9) rfl (Nat.le_of_ble_eq_true rfl) ?_
  refine a_iload_n (q := 0) dX13_clear_15 rfl rfl ?_
  obtain ⟨rfl, rfl⟩ := oc2 hf
  exact a_ireturn dX13_clear_16 rfl
def fX13_template (a0 : Nat) (a1 : Int32) (h : hp) : Option (Int32 × hp) :=
  bd2 (fX13_among a1 6 h) fun v2 h3 =>
  if v2 = 0 then (
    some ((-1), h3)
  ) else (
    bd2 (nwO h3 6 6) fun v4 h5 =>
    (gfR h5 a0 12 3).bind fun v7 =>
    (ckT h5 v4 6).bind fun _ =>
    (fX7_init v4 v7 h5).bind fun h10 =>
    (ckT h10 v4 6).bind fun _ =>
    bd2 (fX7_readTemplate v4 h10) fun v13 h14 =>
    (gfR h14 a0 12 3).bind fun v16 =>
    (ckT h14 v16 4).bind fun _ =>
    (fX5_empty v16 h14).bind fun h19 =>
    if v13 = 0 then (
      (gfI h19 v4 6 4).bind fun v29 =>
      some (((-100) - v29), h19)
    ) else (
      (gfR h19 a0 12 0).bind fun v21 =>
      (gfR h19 v21 8 1).bind fun v23 =>
      (asR 5 h19 v23 a1 v13).bind fun h25 =>
      (gfI h25 v13 9 4).bind fun v27 =>
      some (v27, h25)
    )
  )
set_option maxHeartbeats 4000000 in
set_option maxRecDepth 100000 in
theorem sX13_template (E : gE) (D : Nat) (hD : 132 ≤ D) {a0 : Nat} {a1 : Int32} {h hz : hp} {v0 : Int32} (hf : fX13_template a0 a1 h = some (v0, hz)) : MC E yX13_template cX13_template (Option.some Jvm.ClassFile.FieldType.int) 4 D [.ref a0, .int a1] h (some (.int v0)) hz := by
  refine MC.of (by decide +kernel) (Nat.le_of_ble_eq_true rfl) rfl ?_
  unfold fX13_template at hf
  show AW E yX13_template cX13_template (Option.some Jvm.ClassFile.FieldType.int) 4 D (some (.int v0)) h hz 0 [(0, .ref a0), (1, .int a1)] [] h
  refine a_iload_n (q := 1) dX13_template_0 rfl rfl ?_
  refine a_bipush (v := 6) dX13_template_1 (by decide) ?_
  obtain ⟨v2, h3, e1, hf⟩ := ob2 hf
  refine a_callS (as := [.int a1, .int 6]) (np := 2) (st := []) (sX13_among E (D - 1) (by omega) e1) dX13_template_3 rfl (by omega) (by decide) cw_X13_94 wd_268 rfl (Nat.le_of_ble_eq_true rfl) ?_
  refine a_if_ne (tgt := 11) dX13_template_6 (by decide) (fun c => ?_) (fun c => ?_)
  · have hf := ifn c hf
    obtain ⟨v4, h5, e6, hf⟩ := ob2 hf
    refine o_nwO (ci := 6) dX13_template_11 rfl rfl gu_6 tyX7_ok (by decide) wd_404 wd_405 wd_11 e6 ?_
    refine a_dup dX13_template_14 rfl ?_
    refine a_aload_n (q := 0) dX13_template_15 rfl rfl ?_
    obtain ⟨v7, e8, hf⟩ := obd hf
    refine o_gfR dX13_template_16 lk_X13_29 rfl e8 ?_
    obtain ⟨_, e11, hf⟩ := obd hf
    obtain ⟨h10, e9, hf⟩ := obd hf
    refine a_callI (as := [.ref v7]) (np := 1) (ci := 6) (st := [.ref v4]) (sX7_init E (D - 1) (by omega) e9) dX13_template_19 rfl (by omega) (by decide) cw_X13_126 ⟨wd_407, rfl⟩ rfl (ckT_s e11) rfl (Nat.le_of_ble_eq_true rfl) ?_
    refine a_astore_n (lv1 := [(2, .ref v4), (0, .ref a0), (1, .int a1)]) dX13_template_22 rfl (by decide) rfl ?_
    refine a_aload_n (q := 0) dX13_template_23 rfl rfl ?_
    obtain ⟨_, e15, hf⟩ := obd hf
    obtain ⟨v13, h14, e12, hf⟩ := ob2 hf
    refine a_callV (as := []) (np := 0) (ci := 6) (st := []) (sX7_readTemplate E (D - 1) (by omega) e12) dX13_template_24 rfl (by omega) (by decide) cw_X13_129 ⟨wd_473, wd_474⟩ rfl (ckT_s e15) rfl (Nat.le_of_ble_eq_true rfl) ?_
    refine a_astore_n (lv1 := [(3, .ref v13), (2, .ref v4), (0, .ref a0), (1, .int a1)]) dX13_template_27 rfl (by decide) rfl ?_
    refine a_aload_n (q := 2) dX13_template_28 rfl rfl ?_
    obtain ⟨v16, e17, hf⟩ := obd hf
    refine o_gfR dX13_template_29 lk_X13_29 rfl e17 ?_
    obtain ⟨_, e20, hf⟩ := obd hf
    obtain ⟨h19, e18, hf⟩ := obd hf
    refine a_callV (as := []) (np := 0) (ci := 4) (st := []) (sX5_empty E (D - 1) (by omega) e18) dX13_template_32 rfl (by omega) (by decide) cw_X13_85 ⟨wd_321, wd_322⟩ rfl (ckT_s e20) rfl (Nat.le_of_ble_eq_true rfl) ?_
    refine a_aload_n (q := 0) dX13_template_35 rfl rfl ?_
    refine a_ifnonnull (tgt := 47) dX13_template_36 (by decide) (fun c => ?_) (fun c => ?_)
    · have hf := ifn c hf
      refine a_aload_n (q := 2) dX13_template_47 rfl rfl ?_
      obtain ⟨v21, e22, hf⟩ := obd hf
      refine o_gfR dX13_template_48 lk_X13_22 rfl e22 ?_
      obtain ⟨v23, e24, hf⟩ := obd hf
      refine o_gfR dX13_template_51 lk_X13_136 rfl e24 ?_
      refine a_iload_n (q := 3) dX13_template_54 rfl rfl ?_
      refine a_aload_n (q := 0) dX13_template_55 rfl rfl ?_
      obtain ⟨h25, e26, hf⟩ := obd hf
      refine o_asR dX13_template_56 (by decide) e26 ?_
      refine a_aload_n (q := 0) dX13_template_57 rfl rfl ?_
      obtain ⟨v27, e28, hf⟩ := obd hf
      refine o_gfI dX13_template_58 lk_X13_140 rfl e28 ?_
      obtain ⟨rfl, rfl⟩ := oc2 hf
      exact a_ireturn dX13_template_61 rfl
    · have hf := ifp c hf
      refine a_bipush (v := (-100)) dX13_template_39 (by decide) ?_
      refine a_aload_n (q := 1) dX13_template_41 rfl rfl ?_
      obtain ⟨v29, e30, hf⟩ := obd hf
      refine o_gfI dX13_template_42 lk_X13_133 rfl e30 ?_
      refine a_isub dX13_template_45 ?_
      obtain ⟨rfl, rfl⟩ := oc2 hf
      exact a_ireturn dX13_template_46 rfl
  · have hf := ifp c hf
    refine a_iconst (v := (-1)) dX13_template_9 (by decide) ?_
    obtain ⟨rfl, rfl⟩ := oc2 hf
    exact a_ireturn dX13_template_10 rfl
def fX13_drop (a0 : Nat) (a1 : Int32) (h : hp) : Option (Int32 × hp) :=
  bd2 (fX13_among a1 6 h) fun v2 h3 =>
  if v2 = 0 then (
    some ((-1), h3)
  ) else (
    (gfR h3 a0 12 0).bind fun v4 =>
    (ckT h3 v4 8).bind fun _ =>
    bd2 (fX9_held v4 a1 h3) fun v7 h8 =>
    if v7 = 0 then (
      some ((-3), h8)
    ) else (
      (gfR h8 a0 12 0).bind fun v10 =>
      (gfR h8 v10 8 1).bind fun v12 =>
      (asR 5 h8 v12 a1 0).bind fun h14 =>
      (gfI h14 v7 9 4).bind fun v16 =>
      some (v16, h14)
    )
  )
set_option maxHeartbeats 4000000 in
set_option maxRecDepth 100000 in
theorem sX13_drop (E : gE) (D : Nat) (hD : 2 ≤ D) {a0 : Nat} {a1 : Int32} {h hz : hp} {v0 : Int32} (hf : fX13_drop a0 a1 h = some (v0, hz)) : MC E yX13_drop cX13_drop (Option.some Jvm.ClassFile.FieldType.int) 3 D [.ref a0, .int a1] h (some (.int v0)) hz := by
  refine MC.of (by decide +kernel) (Nat.le_of_ble_eq_true rfl) rfl ?_
  unfold fX13_drop at hf
  show AW E yX13_drop cX13_drop (Option.some Jvm.ClassFile.FieldType.int) 3 D (some (.int v0)) h hz 0 [(0, .ref a0), (1, .int a1)] [] h
  refine a_iload_n (q := 1) dX13_drop_0 rfl rfl ?_
  refine a_bipush (v := 6) dX13_drop_1 (by decide) ?_
  obtain ⟨v2, h3, e1, hf⟩ := ob2 hf
  refine a_callS (as := [.int a1, .int 6]) (np := 2) (st := []) (sX13_among E (D - 1) (by omega) e1) dX13_drop_3 rfl (by omega) (by decide) cw_X13_94 wd_268 rfl (Nat.le_of_ble_eq_true rfl) ?_
  refine a_if_ne (tgt := 11) dX13_drop_6 (by decide) (fun c => ?_) (fun c => ?_)
  · have hf := ifn c hf
    refine a_aload_n (q := 0) dX13_drop_11 rfl rfl ?_
    obtain ⟨v4, e5, hf⟩ := obd hf
    refine o_gfR dX13_drop_12 lk_X13_22 rfl e5 ?_
    refine a_iload_n (q := 1) dX13_drop_15 rfl rfl ?_
    obtain ⟨_, e9, hf⟩ := obd hf
    obtain ⟨v7, h8, e6, hf⟩ := ob2 hf
    refine a_callV (as := [.int a1]) (np := 1) (ci := 8) (st := []) (sX9_held E (D - 1) (by omega) e6) dX13_drop_16 rfl (by omega) (by decide) cw_X13_145 ⟨wd_743, wd_744⟩ rfl (ckT_s e9) rfl (Nat.le_of_ble_eq_true rfl) ?_
    refine a_astore_n (lv1 := [(2, .ref v7), (0, .ref a0), (1, .int a1)]) dX13_drop_19 rfl (by decide) rfl ?_
    refine a_aload_n (q := 0) dX13_drop_20 rfl rfl ?_
    refine a_ifnonnull (tgt := 27) dX13_drop_21 (by decide) (fun c => ?_) (fun c => ?_)
    · have hf := ifn c hf
      refine a_aload_n (q := 1) dX13_drop_27 rfl rfl ?_
      obtain ⟨v10, e11, hf⟩ := obd hf
      refine o_gfR dX13_drop_28 lk_X13_22 rfl e11 ?_
      obtain ⟨v12, e13, hf⟩ := obd hf
      refine o_gfR dX13_drop_31 lk_X13_136 rfl e13 ?_
      refine a_iload_n (q := 2) dX13_drop_34 rfl rfl ?_
      refine a_null dX13_drop_35 ?_
      obtain ⟨h14, e15, hf⟩ := obd hf
      refine o_asR dX13_drop_36 (by decide) e15 ?_
      refine a_aload_n (q := 0) dX13_drop_37 rfl rfl ?_
      obtain ⟨v16, e17, hf⟩ := obd hf
      refine o_gfI dX13_drop_38 lk_X13_140 rfl e17 ?_
      obtain ⟨rfl, rfl⟩ := oc2 hf
      exact a_ireturn dX13_drop_41 rfl
    · have hf := ifp c hf
      refine a_bipush (v := (-3)) dX13_drop_24 (by decide) ?_
      obtain ⟨rfl, rfl⟩ := oc2 hf
      exact a_ireturn dX13_drop_26 rfl
  · have hf := ifp c hf
    refine a_iconst (v := (-1)) dX13_drop_9 (by decide) ?_
    obtain ⟨rfl, rfl⟩ := oc2 hf
    exact a_ireturn dX13_drop_10 rfl
def fX13_has (a0 : Nat) (a1 : Int32) (a2 : Int32) (h : hp) : Option (Int32 × hp) :=
  bd2 (fX13_among a1 6 h) fun v2 h3 =>
  if v2 = 0 then (
    some ((-1), h3)
  ) else (
    bd2 (fX13_among a2 7 h3) fun v5 h6 =>
    if v5 = 0 then (
      some ((-1), h6)
    ) else (
      (gfR h6 a0 12 0).bind fun v7 =>
      (ckT h6 v7 8).bind fun _ =>
      bd2 (fX9_held v7 a1 h6) fun v10 h11 =>
      if v10 = 0 then (
        some ((-3), h11)
      ) else (
        if a2 = 0 then (
          (gfI h11 v10 9 4).bind fun v13 =>
          some (v13, h11)
        ) else (
        if a2 = 1 then (
          (gfI h11 v10 9 5).bind fun v15 =>
          some (v15, h11)
        ) else (
        if a2 = 2 then (
          (gfI h11 v10 9 3).bind fun v17 =>
          if 0 ≤ v17 then (
            (gfI h11 v10 9 3).bind fun v19 =>
            some (v19, h11)
          ) else (
            some ((-5), h11)
          )
        ) else (
        if a2 = 3 then (
          (ckT h11 v10 9).bind fun _ =>
          bd2 (fX10_letters v10 h11) fun v22 h23 =>
          some (v22, h23)
        ) else (
        if a2 = 4 then (
          (gfI h11 v10 9 6).bind fun v25 =>
          some (v25, h11)
        ) else (
        if a2 = 5 then (
          (gfI h11 v10 9 7).bind fun v27 =>
          some (v27, h11)
        ) else (
          (gfI h11 v10 9 0).bind fun v29 =>
          some (v29, h11)
        ))))))
      )
    )
  )
set_option maxHeartbeats 4000000 in
set_option maxRecDepth 100000 in
theorem sX13_has (E : gE) (D : Nat) (hD : 2 ≤ D) {a0 : Nat} {a1 : Int32} {a2 : Int32} {h hz : hp} {v0 : Int32} (hf : fX13_has a0 a1 a2 h = some (v0, hz)) : MC E yX13_has cX13_has (Option.some Jvm.ClassFile.FieldType.int) 4 D [.ref a0, .int a1, .int a2] h (some (.int v0)) hz := by
  refine MC.of (by decide +kernel) (Nat.le_of_ble_eq_true rfl) rfl ?_
  unfold fX13_has at hf
  show AW E yX13_has cX13_has (Option.some Jvm.ClassFile.FieldType.int) 4 D (some (.int v0)) h hz 0 [(0, .ref a0), (1, .int a1), (2, .int a2)] [] h
  refine a_iload_n (q := 1) dX13_has_0 rfl rfl ?_
  refine a_bipush (v := 6) dX13_has_1 (by decide) ?_
  obtain ⟨v2, h3, e1, hf⟩ := ob2 hf
  refine a_callS (as := [.int a1, .int 6]) (np := 2) (st := []) (sX13_among E (D - 1) (by omega) e1) dX13_has_3 rfl (by omega) (by decide) cw_X13_94 wd_268 rfl (Nat.le_of_ble_eq_true rfl) ?_
  refine a_if_eq (tgt := 18) dX13_has_6 (by decide) (fun c => ?_) (fun c => ?_)
  · have hf := ifp c hf
    refine a_iconst (v := (-1)) dX13_has_18 (by decide) ?_
    obtain ⟨rfl, rfl⟩ := oc2 hf
    exact a_ireturn dX13_has_19 rfl
  · have hf := ifn c hf
    refine a_iload_n (q := 2) dX13_has_9 rfl rfl ?_
    refine a_bipush (v := 7) dX13_has_10 (by decide) ?_
    obtain ⟨v5, h6, e4, hf⟩ := ob2 hf
    refine a_callS (as := [.int a2, .int 7]) (np := 2) (st := []) (sX13_among E (D - 1) (by omega) e4) dX13_has_12 rfl (by omega) (by decide) cw_X13_94 wd_268 rfl (Nat.le_of_ble_eq_true rfl) ?_
    refine a_if_ne (tgt := 20) dX13_has_15 (by decide) (fun c => ?_) (fun c => ?_)
    · have hf := ifn c hf
      refine a_aload_n (q := 0) dX13_has_20 rfl rfl ?_
      obtain ⟨v7, e8, hf⟩ := obd hf
      refine o_gfR dX13_has_21 lk_X13_22 rfl e8 ?_
      refine a_iload_n (q := 1) dX13_has_24 rfl rfl ?_
      obtain ⟨_, e12, hf⟩ := obd hf
      obtain ⟨v10, h11, e9, hf⟩ := ob2 hf
      refine a_callV (as := [.int a1]) (np := 1) (ci := 8) (st := []) (sX9_held E (D - 1) (by omega) e9) dX13_has_25 rfl (by omega) (by decide) cw_X13_145 ⟨wd_743, wd_744⟩ rfl (ckT_s e12) rfl (Nat.le_of_ble_eq_true rfl) ?_
      refine a_astore_n (lv1 := [(3, .ref v10), (0, .ref a0), (1, .int a1), (2, .int a2)]) dX13_has_28 rfl (by decide) rfl ?_
      refine a_aload_n (q := 0) dX13_has_29 rfl rfl ?_
      refine a_ifnonnull (tgt := 36) dX13_has_30 (by decide) (fun c => ?_) (fun c => ?_)
      · have hf := ifn c hf
        refine a_iload_n (q := 3) dX13_has_36 rfl rfl ?_
        by_cases c37_0 : a2 = 0
        · have hf := ifp c37_0 hf
          refine a_tblIn (k := 0) (off := 39) (tgt := 76) dX13_has_37 c37_0 (by decide) (by decide) rfl (by decide) ?_
          refine a_aload_n (q := 0) dX13_has_76 rfl rfl ?_
          obtain ⟨v13, e14, hf⟩ := obd hf
          refine o_gfI dX13_has_77 lk_X13_140 rfl e14 ?_
          obtain ⟨rfl, rfl⟩ := oc2 hf
          exact a_ireturn dX13_has_80 rfl
        have hf := ifn c37_0 hf
        by_cases c37_1 : a2 = 1
        · have hf := ifp c37_1 hf
          refine a_tblIn (k := 1) (off := 44) (tgt := 81) dX13_has_37 c37_1 (by decide) (by decide) rfl (by decide) ?_
          refine a_aload_n (q := 0) dX13_has_81 rfl rfl ?_
          obtain ⟨v15, e16, hf⟩ := obd hf
          refine o_gfI dX13_has_82 lk_X13_149 rfl e16 ?_
          obtain ⟨rfl, rfl⟩ := oc2 hf
          exact a_ireturn dX13_has_85 rfl
        have hf := ifn c37_1 hf
        by_cases c37_2 : a2 = 2
        · have hf := ifp c37_2 hf
          refine a_tblIn (k := 2) (off := 49) (tgt := 86) dX13_has_37 c37_2 (by decide) (by decide) rfl (by decide) ?_
          refine a_aload_n (q := 0) dX13_has_86 rfl rfl ?_
          obtain ⟨v17, e18, hf⟩ := obd hf
          refine o_gfI dX13_has_87 lk_X13_152 rfl e18 ?_
          refine a_if_ge (tgt := 98) dX13_has_90 (by decide) (fun c => ?_) (fun c => ?_)
          · have hf := ifp c hf
            refine a_aload_n (q := 0) dX13_has_98 rfl rfl ?_
            obtain ⟨v19, e20, hf⟩ := obd hf
            refine o_gfI dX13_has_99 lk_X13_152 rfl e20 ?_
            obtain ⟨rfl, rfl⟩ := oc2 hf
            exact a_ireturn dX13_has_102 rfl
          · have hf := ifn c hf
            refine a_bipush (v := (-5)) dX13_has_93 (by decide) ?_
            refine a_goto (tgt := 102) dX13_has_95 (by decide) ?_
            obtain ⟨rfl, rfl⟩ := oc2 hf
            exact a_ireturn dX13_has_102 rfl
        have hf := ifn c37_2 hf
        by_cases c37_3 : a2 = 3
        · have hf := ifp c37_3 hf
          refine a_tblIn (k := 3) (off := 66) (tgt := 103) dX13_has_37 c37_3 (by decide) (by decide) rfl (by decide) ?_
          refine a_aload_n (q := 0) dX13_has_103 rfl rfl ?_
          obtain ⟨_, e24, hf⟩ := obd hf
          obtain ⟨v22, h23, e21, hf⟩ := ob2 hf
          refine a_callV (as := []) (np := 0) (ci := 9) (st := []) (sX10_letters E (D - 1) (by omega) e21) dX13_has_104 rfl (by omega) (by decide) cw_X13_155 ⟨wd_751, wd_752⟩ rfl (ckT_s e24) rfl (Nat.le_of_ble_eq_true rfl) ?_
          obtain ⟨rfl, rfl⟩ := oc2 hf
          exact a_ireturn dX13_has_107 rfl
        have hf := ifn c37_3 hf
        by_cases c37_4 : a2 = 4
        · have hf := ifp c37_4 hf
          refine a_tblIn (k := 4) (off := 71) (tgt := 108) dX13_has_37 c37_4 (by decide) (by decide) rfl (by decide) ?_
          refine a_aload_n (q := 0) dX13_has_108 rfl rfl ?_
          obtain ⟨v25, e26, hf⟩ := obd hf
          refine o_gfI dX13_has_109 lk_X13_158 rfl e26 ?_
          obtain ⟨rfl, rfl⟩ := oc2 hf
          exact a_ireturn dX13_has_112 rfl
        have hf := ifn c37_4 hf
        by_cases c37_5 : a2 = 5
        · have hf := ifp c37_5 hf
          refine a_tblIn (k := 5) (off := 76) (tgt := 113) dX13_has_37 c37_5 (by decide) (by decide) rfl (by decide) ?_
          refine a_aload_n (q := 0) dX13_has_113 rfl rfl ?_
          obtain ⟨v27, e28, hf⟩ := obd hf
          refine o_gfI dX13_has_114 lk_X13_161 rfl e28 ?_
          obtain ⟨rfl, rfl⟩ := oc2 hf
          exact a_ireturn dX13_has_117 rfl
        have hf := ifn c37_5 hf
        have t37_0 := lv_neT (a := 0) c37_0 rfl
        have t37_1 := lv_neT (a := 1) c37_1 rfl
        have t37_2 := lv_neT (a := 2) c37_2 rfl
        have t37_3 := lv_neT (a := 3) c37_3 rfl
        have t37_4 := lv_neT (a := 4) c37_4 rfl
        have t37_5 := lv_neT (a := 5) c37_5 rfl
        refine a_tblOut (tgt := 118) dX13_has_37 (by omega) (by decide) ?_
        refine a_aload_n (q := 0) dX13_has_118 rfl rfl ?_
        obtain ⟨v29, e30, hf⟩ := obd hf
        refine o_gfI dX13_has_119 lk_X13_164 rfl e30 ?_
        obtain ⟨rfl, rfl⟩ := oc2 hf
        exact a_ireturn dX13_has_122 rfl
      · have hf := ifp c hf
        refine a_bipush (v := (-3)) dX13_has_33 (by decide) ?_
        obtain ⟨rfl, rfl⟩ := oc2 hf
        exact a_ireturn dX13_has_35 rfl
    · have hf := ifp c hf
      refine a_iconst (v := (-1)) dX13_has_18 (by decide) ?_
      obtain ⟨rfl, rfl⟩ := oc2 hf
      exact a_ireturn dX13_has_19 rfl
def fX13_look (a0 : Nat) (a1 : Int32) (a2 : Int32) (h : hp) : Option (Int32 × hp) :=
  bd2 (fX13_among a1 6 h) fun v2 h3 =>
  if v2 = 0 then (
    some ((-1), h3)
  ) else (
    bd2 (fX13_among a2 4 h3) fun v5 h6 =>
    if v5 = 0 then (
      some ((-2), h6)
    ) else (
      (gfR h6 a0 12 7).bind fun v7 =>
      (ckT h6 v7 11).bind fun _ =>
      (fX12_begin v7 a2 1 h6).bind fun h10 =>
      (gfR h10 a0 12 7).bind fun v12 =>
      (ckT h10 v12 11).bind fun _ =>
      (fX12_walkTemplate v12 a1 0 h10).bind fun h15 =>
      (gfR h15 a0 12 7).bind fun v17 =>
      (gfI h15 v17 11 17).bind fun v19 =>
      if v19 = 0 then (
        (gfR h15 a0 12 7).bind fun v21 =>
        (gfI h15 v21 11 13).bind fun v23 =>
        some (v23, h15)
      ) else (
        some ((-20), h15)
      )
    )
  )
set_option maxHeartbeats 4000000 in
set_option maxRecDepth 100000 in
theorem sX13_look (E : gE) (D : Nat) (hD : 408 ≤ D) {a0 : Nat} {a1 : Int32} {a2 : Int32} {h hz : hp} {v0 : Int32} (hf : fX13_look a0 a1 a2 h = some (v0, hz)) : MC E yX13_look cX13_look (Option.some Jvm.ClassFile.FieldType.int) 3 D [.ref a0, .int a1, .int a2] h (some (.int v0)) hz := by
  refine MC.of (by decide +kernel) (Nat.le_of_ble_eq_true rfl) rfl ?_
  unfold fX13_look at hf
  show AW E yX13_look cX13_look (Option.some Jvm.ClassFile.FieldType.int) 3 D (some (.int v0)) h hz 0 [(0, .ref a0), (1, .int a1), (2, .int a2)] [] h
  refine a_iload_n (q := 1) dX13_look_0 rfl rfl ?_
  refine a_bipush (v := 6) dX13_look_1 (by decide) ?_
  obtain ⟨v2, h3, e1, hf⟩ := ob2 hf
  refine a_callS (as := [.int a1, .int 6]) (np := 2) (st := []) (sX13_among E (D - 1) (by omega) e1) dX13_look_3 rfl (by omega) (by decide) cw_X13_94 wd_268 rfl (Nat.le_of_ble_eq_true rfl) ?_
  refine a_if_ne (tgt := 11) dX13_look_6 (by decide) (fun c => ?_) (fun c => ?_)
  · have hf := ifn c hf
    refine a_iload_n (q := 2) dX13_look_11 rfl rfl ?_
    refine a_iconst (v := 4) dX13_look_12 (by decide) ?_
    obtain ⟨v5, h6, e4, hf⟩ := ob2 hf
    refine a_callS (as := [.int a2, .int 4]) (np := 2) (st := []) (sX13_among E (D - 1) (by omega) e4) dX13_look_13 rfl (by omega) (by decide) cw_X13_94 wd_268 rfl (Nat.le_of_ble_eq_true rfl) ?_
    refine a_if_ne (tgt := 22) dX13_look_16 (by decide) (fun c => ?_) (fun c => ?_)
    · have hf := ifn c hf
      refine a_aload_n (q := 0) dX13_look_22 rfl rfl ?_
      obtain ⟨v7, e8, hf⟩ := obd hf
      refine o_gfR dX13_look_23 lk_X13_51 rfl e8 ?_
      refine a_iload_n (q := 2) dX13_look_26 rfl rfl ?_
      refine a_iconst (v := 1) dX13_look_27 (by decide) ?_
      obtain ⟨_, e11, hf⟩ := obd hf
      obtain ⟨h10, e9, hf⟩ := obd hf
      refine a_callV (as := [.int a2, .int 1]) (np := 2) (ci := 11) (st := []) (sX12_begin E (D - 1) (by omega) e9) dX13_look_28 rfl (by omega) (by decide) cw_X13_165 ⟨wd_759, wd_760⟩ rfl (ckT_s e11) rfl (Nat.le_of_ble_eq_true rfl) ?_
      refine a_aload_n (q := 0) dX13_look_31 rfl rfl ?_
      obtain ⟨v12, e13, hf⟩ := obd hf
      refine o_gfR dX13_look_32 lk_X13_51 rfl e13 ?_
      refine a_iload_n (q := 1) dX13_look_35 rfl rfl ?_
      refine a_iconst (v := 0) dX13_look_36 (by decide) ?_
      obtain ⟨_, e16, hf⟩ := obd hf
      obtain ⟨h15, e14, hf⟩ := obd hf
      refine a_callV (as := [.int a1, .int 0]) (np := 2) (ci := 11) (st := []) (sX12_walkTemplate E (D - 1) (by omega) e14) dX13_look_37 rfl (by omega) (by decide) cw_X13_169 ⟨wd_765, ws_28⟩ rfl (ckT_s e16) rfl (Nat.le_of_ble_eq_true rfl) ?_
      refine a_aload_n (q := 0) dX13_look_40 rfl rfl ?_
      obtain ⟨v17, e18, hf⟩ := obd hf
      refine o_gfR dX13_look_41 lk_X13_51 rfl e18 ?_
      obtain ⟨v19, e20, hf⟩ := obd hf
      refine o_gfI dX13_look_44 lk_X13_172 rfl e20 ?_
      refine a_if_eq (tgt := 55) dX13_look_47 (by decide) (fun c => ?_) (fun c => ?_)
      · have hf := ifp c hf
        refine a_aload_n (q := 0) dX13_look_55 rfl rfl ?_
        obtain ⟨v21, e22, hf⟩ := obd hf
        refine o_gfR dX13_look_56 lk_X13_51 rfl e22 ?_
        obtain ⟨v23, e24, hf⟩ := obd hf
        refine o_gfI dX13_look_59 lk_X13_176 rfl e24 ?_
        obtain ⟨rfl, rfl⟩ := oc2 hf
        exact a_ireturn dX13_look_62 rfl
      · have hf := ifn c hf
        refine a_bipush (v := (-20)) dX13_look_50 (by decide) ?_
        refine a_goto (tgt := 62) dX13_look_52 (by decide) ?_
        obtain ⟨rfl, rfl⟩ := oc2 hf
        exact a_ireturn dX13_look_62 rfl
    · have hf := ifp c hf
      refine a_bipush (v := (-2)) dX13_look_19 (by decide) ?_
      obtain ⟨rfl, rfl⟩ := oc2 hf
      exact a_ireturn dX13_look_21 rfl
  · have hf := ifp c hf
    refine a_iconst (v := (-1)) dX13_look_9 (by decide) ?_
    obtain ⟨rfl, rfl⟩ := oc2 hf
    exact a_ireturn dX13_look_10 rfl
def fX13_press (a0 : Nat) (a1 : Int32) (h : hp) : Option (Int32 × hp) :=
  bd2 (fX13_among a1 6 h) fun v2 h3 =>
  if v2 = 0 then (
    some ((-1), h3)
  ) else (
    (gfR h3 a0 12 7).bind fun v4 =>
    (ckT h3 v4 11).bind fun _ =>
    (fX12_begin v4 0 1 h3).bind fun h7 =>
    (gfR h7 a0 12 7).bind fun v9 =>
    (ckT h7 v9 11).bind fun _ =>
    (fX12_walkTemplate v9 a1 0 h7).bind fun h12 =>
    (gfR h12 a0 12 7).bind fun v14 =>
    (gfI h12 v14 11 17).bind fun v16 =>
    if v16 = 0 then (
      (gfR h12 a0 12 7).bind fun v18 =>
      (ckT h12 v18 11).bind fun _ =>
      (fX12_begin v18 0 0 h12).bind fun h21 =>
      (gfR h21 a0 12 7).bind fun v23 =>
      (ckT h21 v23 11).bind fun _ =>
      (fX12_walkTemplate v23 a1 0 h21).bind fun h26 =>
      (gfR h26 a0 12 7).bind fun v28 =>
      (gfI h26 v28 11 14).bind fun v30 =>
      (pfI h26 a0 12 8 v30).bind fun h32 =>
      (gfR h32 a0 12 7).bind fun v34 =>
      (gfI h32 v34 11 17).bind fun v36 =>
      if v36 = 0 then (
        (gfR h32 a0 12 0).bind fun v38 =>
        (gfR h32 v38 8 2).bind fun v40 =>
        (gfR h32 a0 12 7).bind fun v42 =>
        (gfR h32 v42 11 7).bind fun v44 =>
        (ckT h32 v40 4).bind fun _ =>
        (fX5_copy v40 v44 h32).bind fun h47 =>
        (gfR h47 a0 12 0).bind fun v49 =>
        (gfR h47 v49 8 2).bind fun v51 =>
        (gfI h47 v51 4 1).bind fun v53 =>
        some (v53, h47)
      ) else (
        some ((-20), h32)
      )
    ) else (
      some ((-20), h12)
    )
  )
set_option maxHeartbeats 4000000 in
set_option maxRecDepth 100000 in
theorem sX13_press (E : gE) (D : Nat) (hD : 408 ≤ D) {a0 : Nat} {a1 : Int32} {h hz : hp} {v0 : Int32} (hf : fX13_press a0 a1 h = some (v0, hz)) : MC E yX13_press cX13_press (Option.some Jvm.ClassFile.FieldType.int) 2 D [.ref a0, .int a1] h (some (.int v0)) hz := by
  refine MC.of (by decide +kernel) (Nat.le_of_ble_eq_true rfl) rfl ?_
  unfold fX13_press at hf
  show AW E yX13_press cX13_press (Option.some Jvm.ClassFile.FieldType.int) 2 D (some (.int v0)) h hz 0 [(0, .ref a0), (1, .int a1)] [] h
  refine a_iload_n (q := 1) dX13_press_0 rfl rfl ?_
  refine a_bipush (v := 6) dX13_press_1 (by decide) ?_
  obtain ⟨v2, h3, e1, hf⟩ := ob2 hf
  refine a_callS (as := [.int a1, .int 6]) (np := 2) (st := []) (sX13_among E (D - 1) (by omega) e1) dX13_press_3 rfl (by omega) (by decide) cw_X13_94 wd_268 rfl (Nat.le_of_ble_eq_true rfl) ?_
  refine a_if_ne (tgt := 11) dX13_press_6 (by decide) (fun c => ?_) (fun c => ?_)
  · have hf := ifn c hf
    refine a_aload_n (q := 0) dX13_press_11 rfl rfl ?_
    obtain ⟨v4, e5, hf⟩ := obd hf
    refine o_gfR dX13_press_12 lk_X13_51 rfl e5 ?_
    refine a_iconst (v := 0) dX13_press_15 (by decide) ?_
    refine a_iconst (v := 1) dX13_press_16 (by decide) ?_
    obtain ⟨_, e8, hf⟩ := obd hf
    obtain ⟨h7, e6, hf⟩ := obd hf
    refine a_callV (as := [.int 0, .int 1]) (np := 2) (ci := 11) (st := []) (sX12_begin E (D - 1) (by omega) e6) dX13_press_17 rfl (by omega) (by decide) cw_X13_165 ⟨wd_759, wd_760⟩ rfl (ckT_s e8) rfl (Nat.le_of_ble_eq_true rfl) ?_
    refine a_aload_n (q := 0) dX13_press_20 rfl rfl ?_
    obtain ⟨v9, e10, hf⟩ := obd hf
    refine o_gfR dX13_press_21 lk_X13_51 rfl e10 ?_
    refine a_iload_n (q := 1) dX13_press_24 rfl rfl ?_
    refine a_iconst (v := 0) dX13_press_25 (by decide) ?_
    obtain ⟨_, e13, hf⟩ := obd hf
    obtain ⟨h12, e11, hf⟩ := obd hf
    refine a_callV (as := [.int a1, .int 0]) (np := 2) (ci := 11) (st := []) (sX12_walkTemplate E (D - 1) (by omega) e11) dX13_press_26 rfl (by omega) (by decide) cw_X13_169 ⟨wd_765, ws_28⟩ rfl (ckT_s e13) rfl (Nat.le_of_ble_eq_true rfl) ?_
    refine a_aload_n (q := 0) dX13_press_29 rfl rfl ?_
    obtain ⟨v14, e15, hf⟩ := obd hf
    refine o_gfR dX13_press_30 lk_X13_51 rfl e15 ?_
    obtain ⟨v16, e17, hf⟩ := obd hf
    refine o_gfI dX13_press_33 lk_X13_172 rfl e17 ?_
    refine a_if_eq (tgt := 42) dX13_press_36 (by decide) (fun c => ?_) (fun c => ?_)
    · have hf := ifp c hf
      refine a_aload_n (q := 0) dX13_press_42 rfl rfl ?_
      obtain ⟨v18, e19, hf⟩ := obd hf
      refine o_gfR dX13_press_43 lk_X13_51 rfl e19 ?_
      refine a_iconst (v := 0) dX13_press_46 (by decide) ?_
      refine a_iconst (v := 0) dX13_press_47 (by decide) ?_
      obtain ⟨_, e22, hf⟩ := obd hf
      obtain ⟨h21, e20, hf⟩ := obd hf
      refine a_callV (as := [.int 0, .int 0]) (np := 2) (ci := 11) (st := []) (sX12_begin E (D - 1) (by omega) e20) dX13_press_48 rfl (by omega) (by decide) cw_X13_165 ⟨wd_759, wd_760⟩ rfl (ckT_s e22) rfl (Nat.le_of_ble_eq_true rfl) ?_
      refine a_aload_n (q := 0) dX13_press_51 rfl rfl ?_
      obtain ⟨v23, e24, hf⟩ := obd hf
      refine o_gfR dX13_press_52 lk_X13_51 rfl e24 ?_
      refine a_iload_n (q := 1) dX13_press_55 rfl rfl ?_
      refine a_iconst (v := 0) dX13_press_56 (by decide) ?_
      obtain ⟨_, e27, hf⟩ := obd hf
      obtain ⟨h26, e25, hf⟩ := obd hf
      refine a_callV (as := [.int a1, .int 0]) (np := 2) (ci := 11) (st := []) (sX12_walkTemplate E (D - 1) (by omega) e25) dX13_press_57 rfl (by omega) (by decide) cw_X13_169 ⟨wd_765, ws_28⟩ rfl (ckT_s e27) rfl (Nat.le_of_ble_eq_true rfl) ?_
      refine a_aload_n (q := 0) dX13_press_60 rfl rfl ?_
      refine a_aload_n (q := 0) dX13_press_61 rfl rfl ?_
      obtain ⟨v28, e29, hf⟩ := obd hf
      refine o_gfR dX13_press_62 lk_X13_51 rfl e29 ?_
      obtain ⟨v30, e31, hf⟩ := obd hf
      refine o_gfI dX13_press_65 lk_X13_179 rfl e31 ?_
      obtain ⟨h32, e33, hf⟩ := obd hf
      refine o_pfI dX13_press_68 lk_X13_182 (⟨_, rfl, Or.inl rfl⟩) rfl e33 ?_
      refine a_aload_n (q := 0) dX13_press_71 rfl rfl ?_
      obtain ⟨v34, e35, hf⟩ := obd hf
      refine o_gfR dX13_press_72 lk_X13_51 rfl e35 ?_
      obtain ⟨v36, e37, hf⟩ := obd hf
      refine o_gfI dX13_press_75 lk_X13_172 rfl e37 ?_
      refine a_if_eq (tgt := 84) dX13_press_78 (by decide) (fun c => ?_) (fun c => ?_)
      · have hf := ifp c hf
        refine a_aload_n (q := 0) dX13_press_84 rfl rfl ?_
        obtain ⟨v38, e39, hf⟩ := obd hf
        refine o_gfR dX13_press_85 lk_X13_22 rfl e39 ?_
        obtain ⟨v40, e41, hf⟩ := obd hf
        refine o_gfR dX13_press_88 lk_X13_185 rfl e41 ?_
        refine a_aload_n (q := 0) dX13_press_91 rfl rfl ?_
        obtain ⟨v42, e43, hf⟩ := obd hf
        refine o_gfR dX13_press_92 lk_X13_51 rfl e43 ?_
        obtain ⟨v44, e45, hf⟩ := obd hf
        refine o_gfR dX13_press_95 lk_X13_188 rfl e45 ?_
        obtain ⟨_, e48, hf⟩ := obd hf
        obtain ⟨h47, e46, hf⟩ := obd hf
        refine a_callV (as := [.ref v44]) (np := 1) (ci := 4) (st := []) (sX5_copy E (D - 1) (by omega) e46) dX13_press_98 rfl (by omega) (by decide) cw_X13_191 ⟨wd_1000, wd_1001⟩ rfl (ckT_s e48) rfl (Nat.le_of_ble_eq_true rfl) ?_
        refine a_aload_n (q := 0) dX13_press_101 rfl rfl ?_
        obtain ⟨v49, e50, hf⟩ := obd hf
        refine o_gfR dX13_press_102 lk_X13_22 rfl e50 ?_
        obtain ⟨v51, e52, hf⟩ := obd hf
        refine o_gfR dX13_press_105 lk_X13_185 rfl e52 ?_
        obtain ⟨v53, e54, hf⟩ := obd hf
        refine o_gfI dX13_press_108 lk_X13_123 rfl e54 ?_
        obtain ⟨rfl, rfl⟩ := oc2 hf
        exact a_ireturn dX13_press_111 rfl
      · have hf := ifn c hf
        refine a_bipush (v := (-20)) dX13_press_81 (by decide) ?_
        obtain ⟨rfl, rfl⟩ := oc2 hf
        exact a_ireturn dX13_press_83 rfl
    · have hf := ifn c hf
      refine a_bipush (v := (-20)) dX13_press_39 (by decide) ?_
      obtain ⟨rfl, rfl⟩ := oc2 hf
      exact a_ireturn dX13_press_41 rfl
  · have hf := ifp c hf
    refine a_iconst (v := (-1)) dX13_press_9 (by decide) ?_
    obtain ⟨rfl, rfl⟩ := oc2 hf
    exact a_ireturn dX13_press_10 rfl
def fX13_filter (a0 : Nat) (a1 : Int32) (h : hp) : Option (Int32 × hp) :=
  (gfR h a0 12 0).bind fun v1 =>
  (ckT h v1 8).bind fun _ =>
  bd2 (fX9_variable v1 a1 h) fun v4 h5 =>
  if v4 = 0 then (
    some ((-1), h5)
  ) else (
    bd2 (nwO h5 6 6) fun v7 h8 =>
    (gfR h8 a0 12 3).bind fun v10 =>
    (ckT h8 v7 6).bind fun _ =>
    (fX7_init v7 v10 h8).bind fun h13 =>
    (ckT h13 v7 6).bind fun _ =>
    bd2 (fX7_readWholeFilters v7 h13) fun v16 h17 =>
    (gfR h17 a0 12 3).bind fun v19 =>
    (ckT h17 v19 4).bind fun _ =>
    (fX5_empty v19 h17).bind fun h22 =>
    if v16 = 0 then (
      (gfI h22 v7 6 4).bind fun v52 =>
      some (((-100) - v52), h22)
    ) else (
      (gfR h22 a0 12 6).bind fun v24 =>
      (ckT h22 v24 10).bind fun _ =>
      (fX11_copy v24 v4 h22).bind fun h27 =>
      (gfR h27 a0 12 6).bind fun v29 =>
      (ckT h27 v29 10).bind fun _ =>
      bd2 (fX11_applyAll v29 v16 h27) fun v32 h33 =>
      if v32 = 0 then (
        (gfR h33 a0 12 6).bind fun v35 =>
        (ckT h33 v4 10).bind fun _ =>
        (fX11_copy v4 v35 h33).bind fun h38 =>
        (gfI h38 v4 10 0).bind fun v40 =>
        some (v40, h38)
      ) else (
        (gfR h33 a0 12 4).bind fun v42 =>
        (ckT h33 v42 4).bind fun _ =>
        (fX5_empty v42 h33).bind fun h45 =>
        (gfR h45 a0 12 4).bind fun v47 =>
        (ckT h45 v47 4).bind fun _ =>
        (fX5_addLink v47 (-1) 0 v32 h45).bind fun h50 =>
        some ((-20), h50)
      )
    )
  )
set_option maxHeartbeats 4000000 in
set_option maxRecDepth 100000 in
theorem sX13_filter (E : gE) (D : Nat) (hD : 9 ≤ D) {a0 : Nat} {a1 : Int32} {h hz : hp} {v0 : Int32} (hf : fX13_filter a0 a1 h = some (v0, hz)) : MC E yX13_filter cX13_filter (Option.some Jvm.ClassFile.FieldType.int) 6 D [.ref a0, .int a1] h (some (.int v0)) hz := by
  refine MC.of (by decide +kernel) (Nat.le_of_ble_eq_true rfl) rfl ?_
  unfold fX13_filter at hf
  show AW E yX13_filter cX13_filter (Option.some Jvm.ClassFile.FieldType.int) 6 D (some (.int v0)) h hz 0 [(0, .ref a0), (1, .int a1)] [] h
  refine a_aload_n (q := 0) dX13_filter_0 rfl rfl ?_
  obtain ⟨v1, e2, hf⟩ := obd hf
  refine o_gfR dX13_filter_1 lk_X13_22 rfl e2 ?_
  refine a_iload_n (q := 1) dX13_filter_4 rfl rfl ?_
  obtain ⟨_, e6, hf⟩ := obd hf
  obtain ⟨v4, h5, e3, hf⟩ := ob2 hf
  refine a_callV (as := [.int a1]) (np := 1) (ci := 8) (st := []) (sX9_variable E (D - 1) (by omega) e3) dX13_filter_5 rfl (by omega) (by decide) cw_X13_59 ⟨wd_264, wd_265⟩ rfl (ckT_s e6) rfl (Nat.le_of_ble_eq_true rfl) ?_
  refine a_astore_n (lv1 := [(2, .ref v4), (0, .ref a0), (1, .int a1)]) dX13_filter_8 rfl (by decide) rfl ?_
  refine a_aload_n (q := 0) dX13_filter_9 rfl rfl ?_
  refine a_ifnonnull (tgt := 15) dX13_filter_10 (by decide) (fun c => ?_) (fun c => ?_)
  · have hf := ifn c hf
    obtain ⟨v7, h8, e9, hf⟩ := ob2 hf
    refine o_nwO (ci := 6) dX13_filter_15 rfl rfl gu_6 tyX7_ok (by decide) wd_404 wd_405 wd_11 e9 ?_
    refine a_dup dX13_filter_18 rfl ?_
    refine a_aload_n (q := 1) dX13_filter_19 rfl rfl ?_
    obtain ⟨v10, e11, hf⟩ := obd hf
    refine o_gfR dX13_filter_20 lk_X13_29 rfl e11 ?_
    obtain ⟨_, e14, hf⟩ := obd hf
    obtain ⟨h13, e12, hf⟩ := obd hf
    refine a_callI (as := [.ref v10]) (np := 1) (ci := 6) (st := [.ref v7]) (sX7_init E (D - 1) (by omega) e12) dX13_filter_23 rfl (by omega) (by decide) cw_X13_126 ⟨wd_407, rfl⟩ rfl (ckT_s e14) rfl (Nat.le_of_ble_eq_true rfl) ?_
    refine a_astore_n (lv1 := [(3, .ref v7), (2, .ref v4), (0, .ref a0), (1, .int a1)]) dX13_filter_26 rfl (by decide) rfl ?_
    refine a_aload_n (q := 0) dX13_filter_27 rfl rfl ?_
    obtain ⟨_, e18, hf⟩ := obd hf
    obtain ⟨v16, h17, e15, hf⟩ := ob2 hf
    refine a_callV (as := []) (np := 0) (ci := 6) (st := []) (sX7_readWholeFilters E (D - 1) (by omega) e15) dX13_filter_28 rfl (by omega) (by decide) cw_X13_194 ⟨wd_1010, wd_1011⟩ rfl (ckT_s e18) rfl (Nat.le_of_ble_eq_true rfl) ?_
    refine a_astore (lv1 := [(4, .ref v16), (3, .ref v7), (2, .ref v4), (0, .ref a0), (1, .int a1)]) dX13_filter_31 (by decide) rfl ?_
    refine a_aload_n (q := 3) dX13_filter_33 rfl rfl ?_
    obtain ⟨v19, e20, hf⟩ := obd hf
    refine o_gfR dX13_filter_34 lk_X13_29 rfl e20 ?_
    obtain ⟨_, e23, hf⟩ := obd hf
    obtain ⟨h22, e21, hf⟩ := obd hf
    refine a_callV (as := []) (np := 0) (ci := 4) (st := []) (sX5_empty E (D - 1) (by omega) e21) dX13_filter_37 rfl (by omega) (by decide) cw_X13_85 ⟨wd_321, wd_322⟩ rfl (ckT_s e23) rfl (Nat.le_of_ble_eq_true rfl) ?_
    refine a_aload (q := 0) dX13_filter_40 rfl ?_
    refine a_ifnonnull (tgt := 53) dX13_filter_42 (by decide) (fun c => ?_) (fun c => ?_)
    · have hf := ifn c hf
      refine a_aload_n (q := 3) dX13_filter_53 rfl rfl ?_
      obtain ⟨v24, e25, hf⟩ := obd hf
      refine o_gfR dX13_filter_54 lk_X13_42 rfl e25 ?_
      refine a_aload_n (q := 2) dX13_filter_57 rfl rfl ?_
      obtain ⟨_, e28, hf⟩ := obd hf
      obtain ⟨h27, e26, hf⟩ := obd hf
      refine a_callV (as := [.ref v4]) (np := 1) (ci := 10) (st := []) (sX11_copy E (D - 1) (by omega) e26) dX13_filter_58 rfl (by omega) (by decide) cw_X13_198 ⟨wd_825, wd_826⟩ rfl (ckT_s e28) rfl (Nat.le_of_ble_eq_true rfl) ?_
      refine a_aload_n (q := 3) dX13_filter_61 rfl rfl ?_
      obtain ⟨v29, e30, hf⟩ := obd hf
      refine o_gfR dX13_filter_62 lk_X13_42 rfl e30 ?_
      refine a_aload (q := 0) dX13_filter_65 rfl ?_
      obtain ⟨_, e34, hf⟩ := obd hf
      obtain ⟨v32, h33, e31, hf⟩ := ob2 hf
      refine a_callV (as := [.ref v16]) (np := 1) (ci := 10) (st := []) (sX11_applyAll E (D - 1) (by omega) e31) dX13_filter_67 rfl (by omega) (by decide) cw_X13_201 ⟨wd_832, wd_833⟩ rfl (ckT_s e34) rfl (Nat.le_of_ble_eq_true rfl) ?_
      refine a_istore (lv1 := [(5, .int v32), (4, .ref v16), (3, .ref v7), (2, .ref v4), (0, .ref a0), (1, .int a1)]) dX13_filter_70 (by decide) rfl ?_
      refine a_iload (q := 0) dX13_filter_72 rfl ?_
      refine a_if_eq (tgt := 98) dX13_filter_74 (by decide) (fun c => ?_) (fun c => ?_)
      · have hf := ifp c hf
        refine a_aload_n (q := 3) dX13_filter_98 rfl rfl ?_
        refine a_aload_n (q := 4) dX13_filter_99 rfl rfl ?_
        obtain ⟨v35, e36, hf⟩ := obd hf
        refine o_gfR dX13_filter_100 lk_X13_42 rfl e36 ?_
        obtain ⟨_, e39, hf⟩ := obd hf
        obtain ⟨h38, e37, hf⟩ := obd hf
        refine a_callV (as := [.ref v35]) (np := 1) (ci := 10) (st := []) (sX11_copy E (D - 1) (by omega) e37) dX13_filter_103 rfl (by omega) (by decide) cw_X13_198 ⟨wd_825, wd_826⟩ rfl (ckT_s e39) rfl (Nat.le_of_ble_eq_true rfl) ?_
        refine a_aload_n (q := 3) dX13_filter_106 rfl rfl ?_
        obtain ⟨v40, e41, hf⟩ := obd hf
        refine o_gfI dX13_filter_107 lk_X13_63 rfl e41 ?_
        obtain ⟨rfl, rfl⟩ := oc2 hf
        exact a_ireturn dX13_filter_110 rfl
      · have hf := ifn c hf
        refine a_aload_n (q := 4) dX13_filter_77 rfl rfl ?_
        obtain ⟨v42, e43, hf⟩ := obd hf
        refine o_gfR dX13_filter_78 lk_X13_33 rfl e43 ?_
        obtain ⟨_, e46, hf⟩ := obd hf
        obtain ⟨h45, e44, hf⟩ := obd hf
        refine a_callV (as := []) (np := 0) (ci := 4) (st := []) (sX5_empty E (D - 1) (by omega) e44) dX13_filter_81 rfl (by omega) (by decide) cw_X13_85 ⟨wd_321, wd_322⟩ rfl (ckT_s e46) rfl (Nat.le_of_ble_eq_true rfl) ?_
        refine a_aload_n (q := 4) dX13_filter_84 rfl rfl ?_
        obtain ⟨v47, e48, hf⟩ := obd hf
        refine o_gfR dX13_filter_85 lk_X13_33 rfl e48 ?_
        refine a_iconst (v := (-1)) dX13_filter_88 (by decide) ?_
        refine a_iconst (v := 0) dX13_filter_89 (by decide) ?_
        refine a_iload (q := 0) dX13_filter_90 rfl ?_
        obtain ⟨_, e51, hf⟩ := obd hf
        obtain ⟨h50, e49, hf⟩ := obd hf
        refine a_callV (as := [.int (-1), .int 0, .int v32]) (np := 3) (ci := 4) (st := []) (sX5_addLink E (D - 1) (by omega) e49) dX13_filter_92 rfl (by omega) (by decide) cw_X13_205 ⟨wd_781, wd_782⟩ rfl (ckT_s e51) rfl (Nat.le_of_ble_eq_true rfl) ?_
        refine a_bipush (v := (-20)) dX13_filter_95 (by decide) ?_
        obtain ⟨rfl, rfl⟩ := oc2 hf
        exact a_ireturn dX13_filter_97 rfl
    · have hf := ifp c hf
      refine a_bipush (v := (-100)) dX13_filter_45 (by decide) ?_
      refine a_aload_n (q := 1) dX13_filter_47 rfl rfl ?_
      obtain ⟨v52, e53, hf⟩ := obd hf
      refine o_gfI dX13_filter_48 lk_X13_133 rfl e53 ?_
      refine a_isub dX13_filter_51 ?_
      obtain ⟨rfl, rfl⟩ := oc2 hf
      exact a_ireturn dX13_filter_52 rfl
  · have hf := ifp c hf
    refine a_iconst (v := (-1)) dX13_filter_13 (by decide) ?_
    obtain ⟨rfl, rfl⟩ := oc2 hf
    exact a_ireturn dX13_filter_14 rfl
def fX13_page (a0 : Nat) (a1 : Int32) (h : hp) : Option (Int32 × hp) :=
  (gfR h a0 12 0).bind fun v1 =>
  (gfR h v1 8 2).bind fun v3 =>
  (ckT h v3 4).bind fun _ =>
  bd2 (fX5_at v3 a1 h) fun v6 h7 =>
  some (v6, h7)
set_option maxHeartbeats 4000000 in
set_option maxRecDepth 100000 in
theorem sX13_page (E : gE) (D : Nat) (hD : 1 ≤ D) {a0 : Nat} {a1 : Int32} {h hz : hp} {v0 : Int32} (hf : fX13_page a0 a1 h = some (v0, hz)) : MC E yX13_page cX13_page (Option.some Jvm.ClassFile.FieldType.int) 2 D [.ref a0, .int a1] h (some (.int v0)) hz := by
  refine MC.of (by decide +kernel) (Nat.le_of_ble_eq_true rfl) rfl ?_
  unfold fX13_page at hf
  show AW E yX13_page cX13_page (Option.some Jvm.ClassFile.FieldType.int) 2 D (some (.int v0)) h hz 0 [(0, .ref a0), (1, .int a1)] [] h
  refine a_aload_n (q := 0) dX13_page_0 rfl rfl ?_
  obtain ⟨v1, e2, hf⟩ := obd hf
  refine o_gfR dX13_page_1 lk_X13_22 rfl e2 ?_
  obtain ⟨v3, e4, hf⟩ := obd hf
  refine o_gfR dX13_page_4 lk_X13_185 rfl e4 ?_
  refine a_iload_n (q := 1) dX13_page_7 rfl rfl ?_
  obtain ⟨_, e8, hf⟩ := obd hf
  obtain ⟨v6, h7, e5, hf⟩ := ob2 hf
  refine a_callV (as := [.int a1]) (np := 1) (ci := 4) (st := []) (sX5_at E (D - 1) (by omega) e5) dX13_page_8 rfl (by omega) (by decide) cw_X13_118 ⟨wd_313, wd_314⟩ rfl (ckT_s e8) rfl (Nat.le_of_ble_eq_true rfl) ?_
  obtain ⟨rfl, rfl⟩ := oc2 hf
  exact a_ireturn dX13_page_11 rfl

def fX12_fail_l22 : Nat → Nat → Int32 → Int32 → Int32 → hp → Option hp
  | 0, _, _, _, _, _ => none
  | n + 1, x0, x1, x2, x3, h =>
    (gfI h x0 11 11).bind fun v1 =>
    if v1 ≤ x3 then (
      some (h)
    ) else (
      (gfR h x0 11 2).bind fun v3 =>
      (aln 2 h v3).bind fun v5 =>
      if v5 ≤ x3 then (
        some (h)
      ) else (
        (gfI h x0 11 11).bind fun v7 =>
        if (v7 - 1) ≤ x3 then (
          (gfR h x0 11 2).bind fun v9 =>
          (alR 2 h v9 x3).bind fun v11 =>
          (gfR h x0 11 1).bind fun v13 =>
          (ckT h v11 0).bind fun _ =>
          (fX1_tell v11 v13 x1 x2 h).bind fun h16 =>
          fX12_fail_l22 n x0 x1 x2 (x3 + 1) h16
        ) else (
          (gfR h x0 11 2).bind fun v18 =>
          (alR 2 h v18 x3).bind fun v20 =>
          (gfR h x0 11 1).bind fun v22 =>
          (gfR h x0 11 2).bind fun v24 =>
          (alR 2 h v24 x3).bind fun v26 =>
          (gfI h v26 0 4).bind fun v28 =>
          (ckT h v20 0).bind fun _ =>
          (fX1_tell v20 v22 v28 10 h).bind fun h31 =>
          fX12_fail_l22 n x0 x1 x2 (x3 + 1) h31
        )
      )
    )
def fX12_fail (a0 : Nat) (a1 : Int32) (a2 : Int32) (h : hp) : Option hp :=
  (gfI h a0 11 17).bind fun v1 =>
  if v1 = 0 then (
    (pfZ h a0 11 17 1).bind fun h3 =>
    (gfR h3 a0 11 1).bind fun v5 =>
    (ckT h3 v5 4).bind fun _ =>
    (fX5_empty v5 h3).bind fun h8 =>
    (fX12_fail_l22 FU a0 a1 a2 0 h8).bind fun h11 =>
    some h11
  ) else (
    some h
  )
set_option maxHeartbeats 4000000 in
set_option maxRecDepth 100000 in
theorem sX12_fail_l22 (E : gE) (D : Nat) (hD : 2 ≤ D) {rz : Option Value} {h0 hz : hp} : ∀ (n : Nat) (x0 : Nat) (x1 : Int32) (x2 : Int32) (x3 : Int32) (h : hp) (hq : hp), fX12_fail_l22 n x0 x1 x2 x3 h = some hq → (AW E yX12_fail cX12_fail (Option.none : Option Jvm.ClassFile.FieldType) 4 D rz h0 hz 97 [] [] hq) → AW E yX12_fail cX12_fail (Option.none : Option Jvm.ClassFile.FieldType) 4 D rz h0 hz 22 [(0, .ref x0), (1, .int x1), (2, .int x2), (3, .int x3)] [] h := by
  intro n
  induction n with
  | zero =>
    intro x0 x1 x2 x3 h hq hf _
    rw [fX12_fail_l22] at hf
    cases hf
  | succ n ih =>
    intro x0 x1 x2 x3 h hq hf hk0
    rw [fX12_fail_l22] at hf
    refine a_iload_n (q := 3) dX12_fail_22 rfl rfl ?_
    refine a_aload_n (q := 0) dX12_fail_23 rfl rfl ?_
    obtain ⟨v1, e2, hf⟩ := obd hf
    refine o_gfI dX12_fail_24 lk_X12_61 rfl e2 ?_
    refine a_icmp_ge (tgt := 97) dX12_fail_27 (by decide) (fun c => ?_) (fun c => ?_)
    · have hf := ifp c hf
      obtain rfl := Option.some.inj hf
      exact AW.sub [] rfl (hk0)
    · have hf := ifn c hf
      refine a_iload_n (q := 3) dX12_fail_30 rfl rfl ?_
      refine a_aload_n (q := 0) dX12_fail_31 rfl rfl ?_
      obtain ⟨v3, e4, hf⟩ := obd hf
      refine o_gfR dX12_fail_32 lk_X12_13 rfl e4 ?_
      obtain ⟨v5, e6, hf⟩ := obd hf
      refine o_aln dX12_fail_35 (by decide) e6 ?_
      refine a_icmp_ge (tgt := 97) dX12_fail_36 (by decide) (fun c => ?_) (fun c => ?_)
      · have hf := ifp c hf
        obtain rfl := Option.some.inj hf
        exact AW.sub [] rfl (hk0)
      · have hf := ifn c hf
        refine a_iload_n (q := 3) dX12_fail_39 rfl rfl ?_
        refine a_aload_n (q := 0) dX12_fail_40 rfl rfl ?_
        obtain ⟨v7, e8, hf⟩ := obd hf
        refine o_gfI dX12_fail_41 lk_X12_61 rfl e8 ?_
        refine a_iconst (v := 1) dX12_fail_44 (by decide) ?_
        refine a_isub dX12_fail_45 ?_
        refine a_icmp_ge (tgt := 76) dX12_fail_46 (by decide) (fun c => ?_) (fun c => ?_)
        · have hf := ifp c hf
          refine a_aload_n (q := 0) dX12_fail_76 rfl rfl ?_
          obtain ⟨v9, e10, hf⟩ := obd hf
          refine o_gfR dX12_fail_77 lk_X12_13 rfl e10 ?_
          refine a_iload_n (q := 3) dX12_fail_80 rfl rfl ?_
          obtain ⟨v11, e12, hf⟩ := obd hf
          refine o_alR dX12_fail_81 (by decide) e12 ?_
          refine a_aload_n (q := 0) dX12_fail_82 rfl rfl ?_
          obtain ⟨v13, e14, hf⟩ := obd hf
          refine o_gfR dX12_fail_83 lk_X12_54 rfl e14 ?_
          refine a_iload_n (q := 1) dX12_fail_86 rfl rfl ?_
          refine a_iload_n (q := 2) dX12_fail_87 rfl rfl ?_
          obtain ⟨_, e17, hf⟩ := obd hf
          obtain ⟨h16, e15, hf⟩ := obd hf
          refine a_callV (as := [.ref v13, .int x1, .int x2]) (np := 3) (ci := 0) (st := []) (sX1_tell E (D - 1) (by omega) e15) dX12_fail_88 rfl (by omega) (by decide) cw_X12_87 ⟨wd_773, wd_774⟩ rfl (ckT_s e17) rfl (Nat.le_of_ble_eq_true rfl) ?_
          refine a_iinc (q := 3) (v := (x3 + 1)) (lv1 := [(3, .int (x3 + 1)), (0, .ref x0), (1, .int x1), (2, .int x2)]) dX12_fail_91 rfl (by rfl) (by decide) rfl ?_
          refine a_goto (tgt := 22) dX12_fail_94 (by decide) ?_
          exact AW.sub [1, 2, 3, 0] rfl (ih _ _ _ _ _ _ hf hk0)
        · have hf := ifn c hf
          refine a_aload_n (q := 0) dX12_fail_49 rfl rfl ?_
          obtain ⟨v18, e19, hf⟩ := obd hf
          refine o_gfR dX12_fail_50 lk_X12_13 rfl e19 ?_
          refine a_iload_n (q := 3) dX12_fail_53 rfl rfl ?_
          obtain ⟨v20, e21, hf⟩ := obd hf
          refine o_alR dX12_fail_54 (by decide) e21 ?_
          refine a_aload_n (q := 0) dX12_fail_55 rfl rfl ?_
          obtain ⟨v22, e23, hf⟩ := obd hf
          refine o_gfR dX12_fail_56 lk_X12_54 rfl e23 ?_
          refine a_aload_n (q := 0) dX12_fail_59 rfl rfl ?_
          obtain ⟨v24, e25, hf⟩ := obd hf
          refine o_gfR dX12_fail_60 lk_X12_13 rfl e25 ?_
          refine a_iload_n (q := 3) dX12_fail_63 rfl rfl ?_
          obtain ⟨v26, e27, hf⟩ := obd hf
          refine o_alR dX12_fail_64 (by decide) e27 ?_
          obtain ⟨v28, e29, hf⟩ := obd hf
          refine o_gfI dX12_fail_65 lk_X12_84 rfl e29 ?_
          refine a_bipush (v := 10) dX12_fail_68 (by decide) ?_
          obtain ⟨_, e32, hf⟩ := obd hf
          obtain ⟨h31, e30, hf⟩ := obd hf
          refine a_callV (as := [.ref v22, .int v28, .int 10]) (np := 3) (ci := 0) (st := []) (sX1_tell E (D - 1) (by omega) e30) dX12_fail_70 rfl (by omega) (by decide) cw_X12_87 ⟨wd_773, wd_774⟩ rfl (ckT_s e32) rfl (Nat.le_of_ble_eq_true rfl) ?_
          refine a_goto (tgt := 91) dX12_fail_73 (by decide) ?_
          refine a_iinc (q := 3) (v := (x3 + 1)) (lv1 := [(3, .int (x3 + 1)), (0, .ref x0), (1, .int x1), (2, .int x2)]) dX12_fail_91 rfl (by rfl) (by decide) rfl ?_
          refine a_goto (tgt := 22) dX12_fail_94 (by decide) ?_
          exact AW.sub [1, 2, 3, 0] rfl (ih _ _ _ _ _ _ hf hk0)
set_option maxHeartbeats 4000000 in
set_option maxRecDepth 100000 in
theorem sX12_fail (E : gE) (D : Nat) (hD : 2 ≤ D) {a0 : Nat} {a1 : Int32} {a2 : Int32} {h hz : hp} (hf : fX12_fail a0 a1 a2 h = some hz) : MC E yX12_fail cX12_fail (Option.none : Option Jvm.ClassFile.FieldType) 4 D [.ref a0, .int a1, .int a2] h none hz := by
  refine MC.of (by decide +kernel) (Nat.le_of_ble_eq_true rfl) rfl ?_
  unfold fX12_fail at hf
  show AW E yX12_fail cX12_fail (Option.none : Option Jvm.ClassFile.FieldType) 4 D none h hz 0 [(0, .ref a0), (1, .int a1), (2, .int a2)] [] h
  refine a_aload_n (q := 0) dX12_fail_0 rfl rfl ?_
  obtain ⟨v1, e2, hf⟩ := obd hf
  refine o_gfI dX12_fail_1 lk_X12_81 rfl e2 ?_
  refine a_if_eq (tgt := 8) dX12_fail_4 (by decide) (fun c => ?_) (fun c => ?_)
  · have hf := ifp c hf
    refine a_aload_n (q := 0) dX12_fail_8 rfl rfl ?_
    refine a_iconst (v := 1) dX12_fail_9 (by decide) ?_
    obtain ⟨h3, e4, hf⟩ := obd hf
    refine o_pfZ dX12_fail_10 lk_X12_81 (⟨_, rfl, Or.inl rfl⟩) rfl e4 ?_
    refine a_aload_n (q := 0) dX12_fail_13 rfl rfl ?_
    obtain ⟨v5, e6, hf⟩ := obd hf
    refine o_gfR dX12_fail_14 lk_X12_54 rfl e6 ?_
    obtain ⟨_, e9, hf⟩ := obd hf
    obtain ⟨h8, e7, hf⟩ := obd hf
    refine a_callV (as := []) (np := 0) (ci := 4) (st := []) (sX5_empty E (D - 1) (by omega) e7) dX12_fail_17 rfl (by omega) (by decide) cw_X12_58 ⟨wd_321, wd_322⟩ rfl (ckT_s e9) rfl (Nat.le_of_ble_eq_true rfl) ?_
    refine a_iconst (v := 0) dX12_fail_20 (by decide) ?_
    refine a_istore_n (lv1 := [(3, .int 0), (0, .ref a0), (1, .int a1), (2, .int a2)]) dX12_fail_21 rfl (by decide) rfl ?_
    obtain ⟨h11, e10, hf⟩ := obd hf
    refine AW.sub [1, 2, 3, 0] rfl (sX12_fail_l22 E D hD _ _ _ _ _ _ _ e10 ?_)
    obtain rfl := Option.some.inj hf
    exact a_return dX12_fail_97 rfl
  · have hf := ifn c hf
    obtain rfl := Option.some.inj hf
    exact a_return dX12_fail_7 rfl
def fX12_lastOf_l9 : Nat → Nat → Nat → Int32 → Int32 → hp → Option (Nat × Nat × hp)
  | 0, _, _, _, _, _ => none
  | n + 1, x0, x1, x3, x4, h =>
    if 6 ≤ x4 then (
      some (2, 0, h)
    ) else (
      (ckT h x1 0).bind fun _ =>
      (fX1_add x1 x3 h).bind fun h2 =>
      (gfR h2 x0 11 0).bind fun v4 =>
      (ckT h2 v4 8).bind fun _ =>
      bd2 (fX9_held v4 x3 h2) fun v7 h8 =>
      if v7 = 0 then (
        some (0, v7, h8)
      ) else (
        (gfI h8 v7 9 3).bind fun v10 =>
        if 0 ≤ v10 then (
          (gfI h8 v7 9 3).bind fun v12 =>
          fX12_lastOf_l9 n x0 x1 v12 (x4 + 1) h8
        ) else (
          some (1, v7, h8)
        )
      )
    )
def fX12_lastOf (a0 : Nat) (a1 : Nat) (a2 : Int32) (h : hp) : Option (Nat × hp) :=
  (ckT h a1 0).bind fun _ =>
  (fX1_begin a1 h).bind fun h2 =>
  bd3 (fX12_lastOf_l9 FU a0 a1 a2 0 h2) fun t7 v6 h5 =>
  if t7 = 0 then (
    (ckT h5 a0 11).bind fun _ =>
    (fX12_fail a0 0 1 h5).bind fun h9 =>
    some (0, h9)
  ) else
  if t7 = 1 then (
    some (v6, h5)
  ) else
  if t7 = 2 then (
    (ckT h5 a0 11).bind fun _ =>
    (fX12_fail a0 1 7 h5).bind fun h12 =>
    some (0, h12)
  ) else none
set_option maxHeartbeats 4000000 in
set_option maxRecDepth 100000 in
theorem sX12_lastOf_l9 (E : gE) (D : Nat) (hD : 3 ≤ D) {rz : Option Value} {h0 hz : hp} : ∀ (n : Nat) (x0 : Nat) (x1 : Nat) (x3 : Int32) (x4 : Int32) (h : hp) (tq : Nat) (m5 : Nat) (hq : hp), fX12_lastOf_l9 n x0 x1 x3 x4 h = some (tq, m5, hq) → (tq = 0 → AW E yX12_lastOf cX12_lastOf (Option.some (Jvm.ClassFile.FieldType.object "TemplatePress$Template")) 6 D rz h0 hz 36 [(0, .ref x0)] [] hq) → (tq = 1 → AW E yX12_lastOf cX12_lastOf (Option.some (Jvm.ClassFile.FieldType.object "TemplatePress$Template")) 6 D rz h0 hz 52 [(5, .ref m5)] [] hq) → (tq = 2 → AW E yX12_lastOf cX12_lastOf (Option.some (Jvm.ClassFile.FieldType.object "TemplatePress$Template")) 6 D rz h0 hz 67 [(0, .ref x0)] [] hq) → AW E yX12_lastOf cX12_lastOf (Option.some (Jvm.ClassFile.FieldType.object "TemplatePress$Template")) 6 D rz h0 hz 9 [(0, .ref x0), (1, .ref x1), (3, .int x3), (4, .int x4)] [] h := by
  intro n
  induction n with
  | zero =>
    intro x0 x1 x3 x4 h tq m5 hq hf _ _ _
    rw [fX12_lastOf_l9] at hf
    cases hf
  | succ n ih =>
    intro x0 x1 x3 x4 h tq m5 hq hf hk0 hk1 hk2
    rw [fX12_lastOf_l9] at hf
    refine a_iload (q := 3) dX12_lastOf_9 rfl ?_
    refine a_bipush (v := 6) dX12_lastOf_11 (by decide) ?_
    refine a_icmp_ge (tgt := 67) dX12_lastOf_13 (by decide) (fun c => ?_) (fun c => ?_)
    · have hf := ifp c hf
      obtain ⟨rfl, rfl, rfl⟩ := oc3 hf
      exact AW.sub [0] rfl (hk2 rfl)
    · have hf := ifn c hf
      refine a_aload_n (q := 1) dX12_lastOf_16 rfl rfl ?_
      refine a_iload_n (q := 2) dX12_lastOf_17 rfl rfl ?_
      obtain ⟨_, e3, hf⟩ := obd hf
      obtain ⟨h2, e1, hf⟩ := obd hf
      refine a_callV (as := [.int x3]) (np := 1) (ci := 0) (st := []) (sX1_add E (D - 1) (by omega) e1) dX12_lastOf_18 rfl (by omega) (by decide) cw_X12_119 ⟨wd_793, wd_794⟩ rfl (ckT_s e3) rfl (Nat.le_of_ble_eq_true rfl) ?_
      refine a_aload_n (q := 0) dX12_lastOf_21 rfl rfl ?_
      obtain ⟨v4, e5, hf⟩ := obd hf
      refine o_gfR dX12_lastOf_22 lk_X12_50 rfl e5 ?_
      refine a_iload_n (q := 2) dX12_lastOf_25 rfl rfl ?_
      obtain ⟨_, e9, hf⟩ := obd hf
      obtain ⟨v7, h8, e6, hf⟩ := ob2 hf
      refine a_callV (as := [.int x3]) (np := 1) (ci := 8) (st := []) (sX9_held E (D - 1) (by omega) e6) dX12_lastOf_26 rfl (by omega) (by decide) cw_X12_122 ⟨wd_743, wd_744⟩ rfl (ckT_s e9) rfl (Nat.le_of_ble_eq_true rfl) ?_
      refine a_astore (lv1 := [(5, .ref v7), (0, .ref x0), (1, .ref x1), (3, .int x3), (4, .int x4)]) dX12_lastOf_29 (by decide) rfl ?_
      refine a_aload (q := 0) dX12_lastOf_31 rfl ?_
      refine a_ifnonnull (tgt := 44) dX12_lastOf_33 (by decide) (fun c => ?_) (fun c => ?_)
      · have hf := ifn c hf
        refine a_aload (q := 0) dX12_lastOf_44 rfl ?_
        obtain ⟨v10, e11, hf⟩ := obd hf
        refine o_gfI dX12_lastOf_46 lk_X12_128 rfl e11 ?_
        refine a_if_ge (tgt := 55) dX12_lastOf_49 (by decide) (fun c => ?_) (fun c => ?_)
        · have hf := ifp c hf
          refine a_aload (q := 0) dX12_lastOf_55 rfl ?_
          obtain ⟨v12, e13, hf⟩ := obd hf
          refine o_gfI dX12_lastOf_57 lk_X12_128 rfl e13 ?_
          refine a_istore_n (lv1 := [(3, .int v12), (5, .ref v7), (0, .ref x0), (1, .ref x1), (4, .int x4)]) dX12_lastOf_60 rfl (by decide) rfl ?_
          refine a_iinc (q := 4) (v := (x4 + 1)) (lv1 := [(4, .int (x4 + 1)), (3, .int v12), (5, .ref v7), (0, .ref x0), (1, .ref x1)]) dX12_lastOf_61 rfl (by rfl) (by decide) rfl ?_
          refine a_goto (tgt := 9) dX12_lastOf_64 (by decide) ?_
          exact AW.sub [3, 4, 1, 0] rfl (ih _ _ _ _ _ _ _ _ hf hk0 hk1 hk2)
        · have hf := ifn c hf
          obtain ⟨rfl, rfl, rfl⟩ := oc3 hf
          exact AW.sub [0] rfl (hk1 rfl)
      · have hf := ifp c hf
        obtain ⟨rfl, rfl, rfl⟩ := oc3 hf
        exact AW.sub [1] rfl (hk0 rfl)
set_option maxHeartbeats 4000000 in
set_option maxRecDepth 100000 in
theorem sX12_lastOf (E : gE) (D : Nat) (hD : 3 ≤ D) {a0 : Nat} {a1 : Nat} {a2 : Int32} {h hz : hp} {v0 : Nat} (hf : fX12_lastOf a0 a1 a2 h = some (v0, hz)) : MC E yX12_lastOf cX12_lastOf (Option.some (Jvm.ClassFile.FieldType.object "TemplatePress$Template")) 6 D [.ref a0, .ref a1, .int a2] h (some (.ref v0)) hz := by
  refine MC.of (by decide +kernel) (Nat.le_of_ble_eq_true rfl) rfl ?_
  unfold fX12_lastOf at hf
  show AW E yX12_lastOf cX12_lastOf (Option.some (Jvm.ClassFile.FieldType.object "TemplatePress$Template")) 6 D (some (.ref v0)) h hz 0 [(0, .ref a0), (1, .ref a1), (2, .int a2)] [] h
  refine a_iload_n (q := 2) dX12_lastOf_0 rfl rfl ?_
  refine a_istore_n (lv1 := [(3, .int a2), (0, .ref a0), (1, .ref a1), (2, .int a2)]) dX12_lastOf_1 rfl (by decide) rfl ?_
  refine a_aload_n (q := 2) dX12_lastOf_2 rfl rfl ?_
  obtain ⟨_, e3, hf⟩ := obd hf
  obtain ⟨h2, e1, hf⟩ := obd hf
  refine a_callV (as := []) (np := 0) (ci := 0) (st := []) (sX1_begin E (D - 1) (by omega) e1) dX12_lastOf_3 rfl (by omega) (by decide) cw_X12_116 ⟨wd_789, wd_790⟩ rfl (ckT_s e3) rfl (Nat.le_of_ble_eq_true rfl) ?_
  refine a_iconst (v := 0) dX12_lastOf_6 (by decide) ?_
  refine a_istore (lv1 := [(4, .int 0), (3, .int a2), (0, .ref a0), (1, .ref a1), (2, .int a2)]) dX12_lastOf_7 (by decide) rfl ?_
  obtain ⟨t7, v6, h5, e4, hf⟩ := ob3 hf
  refine AW.sub [2, 3, 1, 0] rfl (sX12_lastOf_l9 E D hD _ _ _ _ _ _ _ _ _ e4 (fun c => ?_) (fun c => ?_) (fun c => ?_))
  · have hf := ifp c hf
    refine a_aload_n (q := 0) dX12_lastOf_36 rfl rfl ?_
    refine a_iconst (v := 0) dX12_lastOf_37 (by decide) ?_
    refine a_iconst (v := 1) dX12_lastOf_38 (by decide) ?_
    obtain ⟨_, e10, hf⟩ := obd hf
    obtain ⟨h9, e8, hf⟩ := obd hf
    refine a_callV (as := [.int 0, .int 1]) (np := 2) (ci := 11) (st := []) (sX12_fail E (D - 1) (by omega) e8) dX12_lastOf_39 rfl (by omega) (by decide) cw_X12_95 ⟨wd_770, ws_29⟩ rfl (ckT_s e10) rfl (Nat.le_of_ble_eq_true rfl) ?_
    refine a_null dX12_lastOf_42 ?_
    obtain ⟨rfl, rfl⟩ := oc2 hf
    exact a_areturn dX12_lastOf_43 rfl (Or.inl ⟨_, rfl⟩)
  · have hf := ifn (by rw [c]; decide) hf
    have hf := ifp c hf
    refine a_aload (q := 0) dX12_lastOf_52 rfl ?_
    obtain ⟨rfl, rfl⟩ := oc2 hf
    exact a_areturn dX12_lastOf_54 rfl (Or.inl ⟨_, rfl⟩)
  · have hf := ifn (by rw [c]; decide) hf
    have hf := ifn (by rw [c]; decide) hf
    have hf := ifp c hf
    refine a_aload_n (q := 0) dX12_lastOf_67 rfl rfl ?_
    refine a_iconst (v := 1) dX12_lastOf_68 (by decide) ?_
    refine a_bipush (v := 7) dX12_lastOf_69 (by decide) ?_
    obtain ⟨_, e13, hf⟩ := obd hf
    obtain ⟨h12, e11, hf⟩ := obd hf
    refine a_callV (as := [.int 1, .int 7]) (np := 2) (ci := 11) (st := []) (sX12_fail E (D - 1) (by omega) e11) dX12_lastOf_71 rfl (by omega) (by decide) cw_X12_95 ⟨wd_770, ws_29⟩ rfl (ckT_s e13) rfl (Nat.le_of_ble_eq_true rfl) ?_
    refine a_null dX12_lastOf_74 ?_
    obtain ⟨rfl, rfl⟩ := oc2 hf
    exact a_areturn dX12_lastOf_75 rfl (Or.inl ⟨_, rfl⟩)
def fX12_giveBack_l7 : Nat → Nat → Int32 → Int32 → hp → Option hp
  | 0, _, _, _, _ => none
  | n + 1, x0, x1, x2, h =>
    if x2 < x1 then (
      some (h)
    ) else (
      bd2 (fX13_among x2 348 h) fun v2 h3 =>
      if v2 = 0 then (
        some (h3)
      ) else (
        (gfR h3 x0 11 0).bind fun v4 =>
        (gfR h3 x0 11 9).bind fun v6 =>
        (alI h3 v6 x2).bind fun v8 =>
        (ckT h3 v4 8).bind fun _ =>
        bd2 (fX9_variable v4 v8 h3) fun v11 h12 =>
        if v11 = 0 then (
          fX12_giveBack_l7 n x0 x1 (x2 + (-1)) h12
        ) else (
          (gfR h12 x0 11 8).bind fun v14 =>
          (alR 6 h12 v14 x2).bind fun v16 =>
          if v16 = 0 then (
            fX12_giveBack_l7 n x0 x1 (x2 + (-1)) h12
          ) else (
            (gfR h12 x0 11 8).bind fun v18 =>
            (alR 6 h12 v18 x2).bind fun v20 =>
            (ckT h12 v11 10).bind fun _ =>
            (fX11_copy v11 v20 h12).bind fun h23 =>
            fX12_giveBack_l7 n x0 x1 (x2 + (-1)) h23
          )
        )
      )
    )
def fX12_giveBack (a0 : Nat) (a1 : Int32) (h : hp) : Option hp :=
  (gfI h a0 11 10).bind fun v1 =>
  (fX12_giveBack_l7 FU a0 a1 (v1 - 1) h).bind fun h4 =>
  (pfI h4 a0 11 10 a1).bind fun h5 =>
  some h5
set_option maxHeartbeats 4000000 in
set_option maxRecDepth 100000 in
theorem sX12_giveBack_l7 (E : gE) (D : Nat) (hD : 2 ≤ D) {rz : Option Value} {h0 hz : hp} : ∀ (n : Nat) (x0 : Nat) (x1 : Int32) (x2 : Int32) (h : hp) (hq : hp), fX12_giveBack_l7 n x0 x1 x2 h = some hq → (AW E yX12_giveBack cX12_giveBack (Option.none : Option Jvm.ClassFile.FieldType) 4 D rz h0 hz 65 [(0, .ref x0), (1, .int x1)] [] hq) → AW E yX12_giveBack cX12_giveBack (Option.none : Option Jvm.ClassFile.FieldType) 4 D rz h0 hz 7 [(0, .ref x0), (1, .int x1), (2, .int x2)] [] h := by
  intro n
  induction n with
  | zero =>
    intro x0 x1 x2 h hq hf _
    rw [fX12_giveBack_l7] at hf
    cases hf
  | succ n ih =>
    intro x0 x1 x2 h hq hf hk0
    rw [fX12_giveBack_l7] at hf
    refine a_iload_n (q := 2) dX12_giveBack_7 rfl rfl ?_
    refine a_iload_n (q := 1) dX12_giveBack_8 rfl rfl ?_
    refine a_icmp_lt (tgt := 65) dX12_giveBack_9 (by decide) (fun c => ?_) (fun c => ?_)
    · have hf := ifp c hf
      obtain rfl := Option.some.inj hf
      exact AW.sub [0, 1] rfl (hk0)
    · have hf := ifn c hf
      refine a_iload_n (q := 2) dX12_giveBack_12 rfl rfl ?_
      refine a_sipush (v := 348) dX12_giveBack_13 (by decide) ?_
      obtain ⟨v2, h3, e1, hf⟩ := ob2 hf
      refine a_callS (as := [.int x2, .int 348]) (np := 2) (st := []) (sX13_among E (D - 1) (by omega) e1) dX12_giveBack_16 rfl (by omega) (by decide) cw_X12_91 wd_268 rfl (Nat.le_of_ble_eq_true rfl) ?_
      refine a_if_eq (tgt := 65) dX12_giveBack_19 (by decide) (fun c => ?_) (fun c => ?_)
      · have hf := ifp c hf
        obtain rfl := Option.some.inj hf
        exact AW.sub [0, 1] rfl (hk0)
      · have hf := ifn c hf
        refine a_aload_n (q := 0) dX12_giveBack_22 rfl rfl ?_
        obtain ⟨v4, e5, hf⟩ := obd hf
        refine o_gfR dX12_giveBack_23 lk_X12_50 rfl e5 ?_
        refine a_aload_n (q := 0) dX12_giveBack_26 rfl rfl ?_
        obtain ⟨v6, e7, hf⟩ := obd hf
        refine o_gfR dX12_giveBack_27 lk_X12_46 rfl e7 ?_
        refine a_iload_n (q := 2) dX12_giveBack_30 rfl rfl ?_
        obtain ⟨v8, e9, hf⟩ := obd hf
        refine o_alI dX12_giveBack_31 e9 ?_
        obtain ⟨_, e13, hf⟩ := obd hf
        obtain ⟨v11, h12, e10, hf⟩ := ob2 hf
        refine a_callV (as := [.int v8]) (np := 1) (ci := 8) (st := []) (sX9_variable E (D - 1) (by omega) e10) dX12_giveBack_32 rfl (by omega) (by decide) cw_X12_237 ⟨wd_264, wd_265⟩ rfl (ckT_s e13) rfl (Nat.le_of_ble_eq_true rfl) ?_
        refine a_astore_n (lv1 := [(3, .ref v11), (0, .ref x0), (1, .int x1), (2, .int x2)]) dX12_giveBack_35 rfl (by decide) rfl ?_
        refine a_aload_n (q := 0) dX12_giveBack_36 rfl rfl ?_
        refine a_ifnull (tgt := 59) dX12_giveBack_37 (by decide) (fun c => ?_) (fun c => ?_)
        · have hf := ifp c hf
          refine a_iinc (q := 3) (v := (x2 + (-1))) (lv1 := [(2, .int (x2 + (-1))), (3, .ref v11), (0, .ref x0), (1, .int x1)]) dX12_giveBack_59 rfl (by rfl) (by decide) rfl ?_
          refine a_goto (tgt := 7) dX12_giveBack_62 (by decide) ?_
          exact AW.sub [2, 3, 0] rfl (ih _ _ _ _ _ hf hk0)
        · have hf := ifn c hf
          refine a_aload_n (q := 1) dX12_giveBack_40 rfl rfl ?_
          obtain ⟨v14, e15, hf⟩ := obd hf
          refine o_gfR dX12_giveBack_41 lk_X12_43 rfl e15 ?_
          refine a_iload_n (q := 3) dX12_giveBack_44 rfl rfl ?_
          obtain ⟨v16, e17, hf⟩ := obd hf
          refine o_alR dX12_giveBack_45 (by decide) e17 ?_
          refine a_ifnull (tgt := 59) dX12_giveBack_46 (by decide) (fun c => ?_) (fun c => ?_)
          · have hf := ifp c hf
            refine a_iinc (q := 3) (v := (x2 + (-1))) (lv1 := [(2, .int (x2 + (-1))), (3, .ref v11), (0, .ref x0), (1, .int x1)]) dX12_giveBack_59 rfl (by rfl) (by decide) rfl ?_
            refine a_goto (tgt := 7) dX12_giveBack_62 (by decide) ?_
            exact AW.sub [2, 3, 0] rfl (ih _ _ _ _ _ hf hk0)
          · have hf := ifn c hf
            refine a_aload_n (q := 0) dX12_giveBack_49 rfl rfl ?_
            refine a_aload_n (q := 1) dX12_giveBack_50 rfl rfl ?_
            obtain ⟨v18, e19, hf⟩ := obd hf
            refine o_gfR dX12_giveBack_51 lk_X12_43 rfl e19 ?_
            refine a_iload_n (q := 3) dX12_giveBack_54 rfl rfl ?_
            obtain ⟨v20, e21, hf⟩ := obd hf
            refine o_alR dX12_giveBack_55 (by decide) e21 ?_
            obtain ⟨_, e24, hf⟩ := obd hf
            obtain ⟨h23, e22, hf⟩ := obd hf
            refine a_callV (as := [.ref v20]) (np := 1) (ci := 10) (st := []) (sX11_copy E (D - 1) (by omega) e22) dX12_giveBack_56 rfl (by omega) (by decide) cw_X12_240 ⟨wd_825, wd_826⟩ rfl (ckT_s e24) rfl (Nat.le_of_ble_eq_true rfl) ?_
            refine a_iinc (q := 3) (v := (x2 + (-1))) (lv1 := [(2, .int (x2 + (-1))), (3, .ref v11), (0, .ref x0), (1, .int x1)]) dX12_giveBack_59 rfl (by rfl) (by decide) rfl ?_
            refine a_goto (tgt := 7) dX12_giveBack_62 (by decide) ?_
            exact AW.sub [2, 3, 0] rfl (ih _ _ _ _ _ hf hk0)
set_option maxHeartbeats 4000000 in
set_option maxRecDepth 100000 in
theorem sX12_giveBack (E : gE) (D : Nat) (hD : 2 ≤ D) {a0 : Nat} {a1 : Int32} {h hz : hp} (hf : fX12_giveBack a0 a1 h = some hz) : MC E yX12_giveBack cX12_giveBack (Option.none : Option Jvm.ClassFile.FieldType) 4 D [.ref a0, .int a1] h none hz := by
  refine MC.of (by decide +kernel) (Nat.le_of_ble_eq_true rfl) rfl ?_
  unfold fX12_giveBack at hf
  show AW E yX12_giveBack cX12_giveBack (Option.none : Option Jvm.ClassFile.FieldType) 4 D none h hz 0 [(0, .ref a0), (1, .int a1)] [] h
  refine a_aload_n (q := 0) dX12_giveBack_0 rfl rfl ?_
  obtain ⟨v1, e2, hf⟩ := obd hf
  refine o_gfI dX12_giveBack_1 lk_X12_131 rfl e2 ?_
  refine a_iconst (v := 1) dX12_giveBack_4 (by decide) ?_
  refine a_isub dX12_giveBack_5 ?_
  refine a_istore_n (lv1 := [(2, .int (v1 - 1)), (0, .ref a0), (1, .int a1)]) dX12_giveBack_6 rfl (by decide) rfl ?_
  obtain ⟨h4, e3, hf⟩ := obd hf
  refine AW.sub [1, 2, 0] rfl (sX12_giveBack_l7 E D hD _ _ _ _ _ _ e3 ?_)
  refine a_aload_n (q := 0) dX12_giveBack_65 rfl rfl ?_
  refine a_iload_n (q := 1) dX12_giveBack_66 rfl rfl ?_
  obtain ⟨h5, e6, hf⟩ := obd hf
  refine o_pfI dX12_giveBack_67 lk_X12_131 (⟨_, rfl, Or.inl rfl⟩) rfl e6 ?_
  obtain rfl := Option.some.inj hf
  exact a_return dX12_giveBack_70 rfl
def fX12_behind (a0 : Int32) (a1 : Int32) (h : hp) : Option (Int32 × hp) :=
  if a0 = 0 then (
    if a1 = 60 then (
      some (1, h)
    ) else (
      if a1 = 96 then (
        some (3, h)
      ) else (
        some (0, h)
      )
    )
  ) else (
  if a0 = 1 then (
    if a1 = 62 then (
      some (0, h)
    ) else (
      if a1 = 34 then (
        some (2, h)
      ) else (
        some (1, h)
      )
    )
  ) else (
  if a0 = 2 then (
    if a1 = 34 then (
      some (1, h)
    ) else (
      some (2, h)
    )
  ) else (
    if a1 = 96 then (
      some (0, h)
    ) else (
      some (3, h)
    )
  )))
set_option maxHeartbeats 4000000 in
set_option maxRecDepth 100000 in
theorem sX12_behind (E : gE) (D : Nat) (hD : 0 ≤ D) {a0 : Int32} {a1 : Int32} {h hz : hp} {v0 : Int32} (hf : fX12_behind a0 a1 h = some (v0, hz)) : MC E yX12_behind cX12_behind (Option.some Jvm.ClassFile.FieldType.int) 2 D [.int a0, .int a1] h (some (.int v0)) hz := by
  refine MC.of (by decide +kernel) (Nat.le_of_ble_eq_true rfl) rfl ?_
  unfold fX12_behind at hf
  show AW E yX12_behind cX12_behind (Option.some Jvm.ClassFile.FieldType.int) 2 D (some (.int v0)) h hz 0 [(0, .int a0), (1, .int a1)] [] h
  refine a_iload_n (q := 0) dX12_behind_0 rfl rfl ?_
  by_cases c1_0 : a0 = 0
  · have hf := ifp c1_0 hf
    refine a_tblIn (k := 0) (off := 27) (tgt := 28) dX12_behind_1 c1_0 (by decide) (by decide) rfl (by decide) ?_
    refine a_iload_n (q := 1) dX12_behind_28 rfl rfl ?_
    refine a_bipush (v := 60) dX12_behind_29 (by decide) ?_
    refine a_icmp_ne (tgt := 38) dX12_behind_31 (by decide) (fun c => ?_) (fun c => ?_)
    · have hf := ifn c hf
      refine a_iload_n (q := 1) dX12_behind_38 rfl rfl ?_
      refine a_bipush (v := 96) dX12_behind_39 (by decide) ?_
      refine a_icmp_ne (tgt := 48) dX12_behind_41 (by decide) (fun c => ?_) (fun c => ?_)
      · have hf := ifn c hf
        refine a_iconst (v := 0) dX12_behind_48 (by decide) ?_
        obtain ⟨rfl, rfl⟩ := oc2 hf
        exact a_ireturn dX12_behind_49 rfl
      · have hf := ifp c hf
        refine a_iconst (v := 3) dX12_behind_44 (by decide) ?_
        refine a_goto (tgt := 49) dX12_behind_45 (by decide) ?_
        obtain ⟨rfl, rfl⟩ := oc2 hf
        exact a_ireturn dX12_behind_49 rfl
    · have hf := ifp c hf
      refine a_iconst (v := 1) dX12_behind_34 (by decide) ?_
      refine a_goto (tgt := 49) dX12_behind_35 (by decide) ?_
      obtain ⟨rfl, rfl⟩ := oc2 hf
      exact a_ireturn dX12_behind_49 rfl
  have hf := ifn c1_0 hf
  by_cases c1_1 : a0 = 1
  · have hf := ifp c1_1 hf
    refine a_tblIn (k := 1) (off := 49) (tgt := 50) dX12_behind_1 c1_1 (by decide) (by decide) rfl (by decide) ?_
    refine a_iload_n (q := 1) dX12_behind_50 rfl rfl ?_
    refine a_bipush (v := 62) dX12_behind_51 (by decide) ?_
    refine a_icmp_ne (tgt := 60) dX12_behind_53 (by decide) (fun c => ?_) (fun c => ?_)
    · have hf := ifn c hf
      refine a_iload_n (q := 1) dX12_behind_60 rfl rfl ?_
      refine a_bipush (v := 34) dX12_behind_61 (by decide) ?_
      refine a_icmp_ne (tgt := 70) dX12_behind_63 (by decide) (fun c => ?_) (fun c => ?_)
      · have hf := ifn c hf
        refine a_iconst (v := 1) dX12_behind_70 (by decide) ?_
        obtain ⟨rfl, rfl⟩ := oc2 hf
        exact a_ireturn dX12_behind_71 rfl
      · have hf := ifp c hf
        refine a_iconst (v := 2) dX12_behind_66 (by decide) ?_
        refine a_goto (tgt := 71) dX12_behind_67 (by decide) ?_
        obtain ⟨rfl, rfl⟩ := oc2 hf
        exact a_ireturn dX12_behind_71 rfl
    · have hf := ifp c hf
      refine a_iconst (v := 0) dX12_behind_56 (by decide) ?_
      refine a_goto (tgt := 71) dX12_behind_57 (by decide) ?_
      obtain ⟨rfl, rfl⟩ := oc2 hf
      exact a_ireturn dX12_behind_71 rfl
  have hf := ifn c1_1 hf
  by_cases c1_2 : a0 = 2
  · have hf := ifp c1_2 hf
    refine a_tblIn (k := 2) (off := 71) (tgt := 72) dX12_behind_1 c1_2 (by decide) (by decide) rfl (by decide) ?_
    refine a_iload_n (q := 1) dX12_behind_72 rfl rfl ?_
    refine a_bipush (v := 34) dX12_behind_73 (by decide) ?_
    refine a_icmp_ne (tgt := 82) dX12_behind_75 (by decide) (fun c => ?_) (fun c => ?_)
    · have hf := ifn c hf
      refine a_iconst (v := 2) dX12_behind_82 (by decide) ?_
      obtain ⟨rfl, rfl⟩ := oc2 hf
      exact a_ireturn dX12_behind_83 rfl
    · have hf := ifp c hf
      refine a_iconst (v := 1) dX12_behind_78 (by decide) ?_
      refine a_goto (tgt := 83) dX12_behind_79 (by decide) ?_
      obtain ⟨rfl, rfl⟩ := oc2 hf
      exact a_ireturn dX12_behind_83 rfl
  have hf := ifn c1_2 hf
  have t1_0 := lv_neT (a := 0) c1_0 rfl
  have t1_1 := lv_neT (a := 1) c1_1 rfl
  have t1_2 := lv_neT (a := 2) c1_2 rfl
  refine a_tblOut (tgt := 84) dX12_behind_1 (by omega) (by decide) ?_
  refine a_iload_n (q := 1) dX12_behind_84 rfl rfl ?_
  refine a_bipush (v := 96) dX12_behind_85 (by decide) ?_
  refine a_icmp_ne (tgt := 94) dX12_behind_87 (by decide) (fun c => ?_) (fun c => ?_)
  · have hf := ifn c hf
    refine a_iconst (v := 3) dX12_behind_94 (by decide) ?_
    obtain ⟨rfl, rfl⟩ := oc2 hf
    exact a_ireturn dX12_behind_95 rfl
  · have hf := ifp c hf
    refine a_iconst (v := 0) dX12_behind_90 (by decide) ?_
    refine a_goto (tgt := 95) dX12_behind_91 (by decide) ?_
    obtain ⟨rfl, rfl⟩ := oc2 hf
    exact a_ireturn dX12_behind_95 rfl
def fX12_putByte (a0 : Nat) (a1 : Int32) (a2 : Int32) (h : hp) : Option hp :=
  (gfI h a0 11 16).bind fun v1 =>
  if v1 = 0 then (
    (gfI h a0 11 17).bind fun v3 =>
    if v3 = 0 then (
      (gfR h a0 11 7).bind fun v5 =>
      (gfI h v5 4 1).bind fun v7 =>
      (gfR h a0 11 0).bind fun v9 =>
      (gfI h v9 8 3).bind fun v11 =>
      if v7 < v11 then (
        (gfR h a0 11 7).bind fun v13 =>
        (ckT h v13 4).bind fun _ =>
        bd2 (fX5_add v13 a1 h) fun v16 h17 =>
        some h17
      ) else (
        (ckT h a0 11).bind fun _ =>
        (fX12_fail a0 a2 5 h).bind fun h20 =>
        some h20
      )
    ) else (
      some h
    )
  ) else (
    some h
  )
set_option maxHeartbeats 4000000 in
set_option maxRecDepth 100000 in
theorem sX12_putByte (E : gE) (D : Nat) (hD : 3 ≤ D) {a0 : Nat} {a1 : Int32} {a2 : Int32} {h hz : hp} (hf : fX12_putByte a0 a1 a2 h = some hz) : MC E yX12_putByte cX12_putByte (Option.none : Option Jvm.ClassFile.FieldType) 3 D [.ref a0, .int a1, .int a2] h none hz := by
  refine MC.of (by decide +kernel) (Nat.le_of_ble_eq_true rfl) rfl ?_
  unfold fX12_putByte at hf
  show AW E yX12_putByte cX12_putByte (Option.none : Option Jvm.ClassFile.FieldType) 3 D none h hz 0 [(0, .ref a0), (1, .int a1), (2, .int a2)] [] h
  refine a_aload_n (q := 0) dX12_putByte_0 rfl rfl ?_
  obtain ⟨v1, e2, hf⟩ := obd hf
  refine o_gfI dX12_putByte_1 lk_X12_77 rfl e2 ?_
  refine a_if_ne (tgt := 14) dX12_putByte_4 (by decide) (fun c => ?_) (fun c => ?_)
  · have hf := ifn c hf
    obtain rfl := Option.some.inj hf
    exact a_return dX12_putByte_14 rfl
  · have hf := ifp c hf
    refine a_aload_n (q := 0) dX12_putByte_7 rfl rfl ?_
    obtain ⟨v3, e4, hf⟩ := obd hf
    refine o_gfI dX12_putByte_8 lk_X12_81 rfl e4 ?_
    refine a_if_eq (tgt := 15) dX12_putByte_11 (by decide) (fun c => ?_) (fun c => ?_)
    · have hf := ifp c hf
      refine a_aload_n (q := 0) dX12_putByte_15 rfl rfl ?_
      obtain ⟨v5, e6, hf⟩ := obd hf
      refine o_gfR dX12_putByte_16 lk_X12_40 rfl e6 ?_
      obtain ⟨v7, e8, hf⟩ := obd hf
      refine o_gfI dX12_putByte_19 lk_X12_276 rfl e8 ?_
      refine a_aload_n (q := 0) dX12_putByte_22 rfl rfl ?_
      obtain ⟨v9, e10, hf⟩ := obd hf
      refine o_gfR dX12_putByte_23 lk_X12_50 rfl e10 ?_
      obtain ⟨v11, e12, hf⟩ := obd hf
      refine o_gfI dX12_putByte_26 lk_X12_288 rfl e12 ?_
      refine a_icmp_lt (tgt := 41) dX12_putByte_29 (by decide) (fun c => ?_) (fun c => ?_)
      · have hf := ifp c hf
        refine a_aload_n (q := 0) dX12_putByte_41 rfl rfl ?_
        obtain ⟨v13, e14, hf⟩ := obd hf
        refine o_gfR dX12_putByte_42 lk_X12_40 rfl e14 ?_
        refine a_iload_n (q := 1) dX12_putByte_45 rfl rfl ?_
        obtain ⟨_, e18, hf⟩ := obd hf
        obtain ⟨v16, h17, e15, hf⟩ := ob2 hf
        refine a_callV (as := [.int a1]) (np := 1) (ci := 4) (st := []) (sX5_add E (D - 1) (by omega) e15) dX12_putByte_46 rfl (by omega) (by decide) cw_X12_291 ⟨wd_358, wd_359⟩ rfl (ckT_s e18) rfl (Nat.le_of_ble_eq_true rfl) ?_
        refine a_pop dX12_putByte_49 rfl ?_
        obtain rfl := Option.some.inj hf
        exact a_return dX12_putByte_50 rfl
      · have hf := ifn c hf
        refine a_aload_n (q := 0) dX12_putByte_32 rfl rfl ?_
        refine a_iload_n (q := 2) dX12_putByte_33 rfl rfl ?_
        refine a_iconst (v := 5) dX12_putByte_34 (by decide) ?_
        obtain ⟨_, e21, hf⟩ := obd hf
        obtain ⟨h20, e19, hf⟩ := obd hf
        refine a_callV (as := [.int a2, .int 5]) (np := 2) (ci := 11) (st := []) (sX12_fail E (D - 1) (by omega) e19) dX12_putByte_35 rfl (by omega) (by decide) cw_X12_95 ⟨wd_770, ws_29⟩ rfl (ckT_s e21) rfl (Nat.le_of_ble_eq_true rfl) ?_
        refine a_goto (tgt := 50) dX12_putByte_38 (by decide) ?_
        obtain rfl := Option.some.inj hf
        exact a_return dX12_putByte_50 rfl
    · have hf := ifn c hf
      obtain rfl := Option.some.inj hf
      exact a_return dX12_putByte_14 rfl
def fX12_isPlainInTag (a0 : Int32) (h : hp) : Option (Int32 × hp) :=
  bd2 (fX13_isFigure a0 h) fun v2 h3 =>
  if v2 = 0 then (
    bd2 (fX13_isSmall a0 h3) fun v5 h6 =>
    if v5 = 0 then (
      bd2 (fX13_isGreat a0 h6) fun v8 h9 =>
      if v8 = 0 then (
        some (0, h9)
      ) else (
        some (1, h9)
      )
    ) else (
      some (1, h6)
    )
  ) else (
    some (1, h3)
  )
set_option maxHeartbeats 4000000 in
set_option maxRecDepth 100000 in
theorem sX12_isPlainInTag (E : gE) (D : Nat) (hD : 1 ≤ D) {a0 : Int32} {h hz : hp} {v0 : Int32} (hf : fX12_isPlainInTag a0 h = some (v0, hz)) : MC E yX12_isPlainInTag cX12_isPlainInTag (Option.some Jvm.ClassFile.FieldType.boolean) 1 D [.int a0] h (some (.int v0)) hz := by
  refine MC.of (by decide +kernel) (Nat.le_of_ble_eq_true rfl) rfl ?_
  unfold fX12_isPlainInTag at hf
  show AW E yX12_isPlainInTag cX12_isPlainInTag (Option.some Jvm.ClassFile.FieldType.boolean) 1 D (some (.int v0)) h hz 0 [(0, .int a0)] [] h
  refine a_iload_n (q := 0) dX12_isPlainInTag_0 rfl rfl ?_
  obtain ⟨v2, h3, e1, hf⟩ := ob2 hf
  refine a_callS (as := [.int a0]) (np := 1) (st := []) (sX13_isFigure E (D - 1) (by omega) e1) dX12_isPlainInTag_1 rfl (by omega) (by decide) cw_X12_293 wd_614 rfl (Nat.le_of_ble_eq_true rfl) ?_
  refine a_if_ne (tgt := 21) dX12_isPlainInTag_4 (by decide) (fun c => ?_) (fun c => ?_)
  · have hf := ifn c hf
    refine a_iconst (v := 1) dX12_isPlainInTag_21 (by decide) ?_
    refine a_goto (tgt := 26) dX12_isPlainInTag_22 (by decide) ?_
    obtain ⟨rfl, rfl⟩ := oc2 hf
    exact a_zreturn dX12_isPlainInTag_26 rfl (by decide)
  · have hf := ifp c hf
    refine a_iload_n (q := 0) dX12_isPlainInTag_7 rfl rfl ?_
    obtain ⟨v5, h6, e4, hf⟩ := ob2 hf
    refine a_callS (as := [.int a0]) (np := 1) (st := []) (sX13_isSmall E (D - 1) (by omega) e4) dX12_isPlainInTag_8 rfl (by omega) (by decide) cw_X12_296 wd_626 rfl (Nat.le_of_ble_eq_true rfl) ?_
    refine a_if_ne (tgt := 21) dX12_isPlainInTag_11 (by decide) (fun c => ?_) (fun c => ?_)
    · have hf := ifn c hf
      refine a_iconst (v := 1) dX12_isPlainInTag_21 (by decide) ?_
      refine a_goto (tgt := 26) dX12_isPlainInTag_22 (by decide) ?_
      obtain ⟨rfl, rfl⟩ := oc2 hf
      exact a_zreturn dX12_isPlainInTag_26 rfl (by decide)
    · have hf := ifp c hf
      refine a_iload_n (q := 0) dX12_isPlainInTag_14 rfl rfl ?_
      obtain ⟨v8, h9, e7, hf⟩ := ob2 hf
      refine a_callS (as := [.int a0]) (np := 1) (st := []) (sX13_isGreat E (D - 1) (by omega) e7) dX12_isPlainInTag_15 rfl (by omega) (by decide) cw_X12_299 wd_873 rfl (Nat.le_of_ble_eq_true rfl) ?_
      refine a_if_eq (tgt := 25) dX12_isPlainInTag_18 (by decide) (fun c => ?_) (fun c => ?_)
      · have hf := ifp c hf
        refine a_iconst (v := 0) dX12_isPlainInTag_25 (by decide) ?_
        obtain ⟨rfl, rfl⟩ := oc2 hf
        exact a_zreturn dX12_isPlainInTag_26 rfl (by decide)
      · have hf := ifn c hf
        refine a_iconst (v := 1) dX12_isPlainInTag_21 (by decide) ?_
        refine a_goto (tgt := 26) dX12_isPlainInTag_22 (by decide) ?_
        obtain ⟨rfl, rfl⟩ := oc2 hf
        exact a_zreturn dX12_isPlainInTag_26 rfl (by decide)
def fX12_wordFor (a0 : Int32) (a1 : Int32) (h : hp) : Option (Int32 × hp) :=
  jn (fun (h11j : hp) => (
    if a1 = 60 then (
      some (108, h11j)
    ) else (
      if a1 = 38 then (
        some (97, h11j)
      ) else (
        if a1 = 34 then (
          if a0 = 2 then (
            some (113, h11j)
          ) else (
            some (0, h11j)
          )
        ) else (
          some (0, h11j)
        )
      )
    )
    : Option (Int32 × hp))) fun k11 =>
  if a0 = 0 then (
    k11 h
  ) else (
    if a0 = 2 then (
      k11 h
    ) else (
      some (0, h)
    )
  )
set_option maxHeartbeats 4000000 in
set_option maxRecDepth 100000 in
theorem sX12_wordFor (E : gE) (D : Nat) (hD : 0 ≤ D) {a0 : Int32} {a1 : Int32} {h hz : hp} {v0 : Int32} (hf : fX12_wordFor a0 a1 h = some (v0, hz)) : MC E yX12_wordFor cX12_wordFor (Option.some Jvm.ClassFile.FieldType.int) 2 D [.int a0, .int a1] h (some (.int v0)) hz := by
  refine MC.of (by decide +kernel) (Nat.le_of_ble_eq_true rfl) rfl ?_
  unfold fX12_wordFor at hf
  show AW E yX12_wordFor cX12_wordFor (Option.some Jvm.ClassFile.FieldType.int) 2 D (some (.int v0)) h hz 0 [(0, .int a0), (1, .int a1)] [] h
  refine a_iload_n (q := 0) dX12_wordFor_0 rfl rfl ?_
  obtain ⟨k11, ek11, hf⟩ := jn_s hf
  have hj11 : ∀ (h11j : hp), k11 h11j = some (v0, hz) → AW E yX12_wordFor cX12_wordFor (Option.some Jvm.ClassFile.FieldType.int) 2 D (some (.int v0)) h hz 11 [(0, .int a0), (1, .int a1)] [] h11j := by
    intro h11j hf
    rw [ek11] at hf
    clear ek11
    refine a_iload_n (q := 1) dX12_wordFor_11 rfl rfl ?_
    refine a_bipush (v := 60) dX12_wordFor_12 (by decide) ?_
    refine a_icmp_ne (tgt := 20) dX12_wordFor_14 (by decide) (fun c => ?_) (fun c => ?_)
    · have hf := ifn c hf
      refine a_iload_n (q := 1) dX12_wordFor_20 rfl rfl ?_
      refine a_bipush (v := 38) dX12_wordFor_21 (by decide) ?_
      refine a_icmp_ne (tgt := 29) dX12_wordFor_23 (by decide) (fun c => ?_) (fun c => ?_)
      · have hf := ifn c hf
        refine a_iload_n (q := 1) dX12_wordFor_29 rfl rfl ?_
        refine a_bipush (v := 34) dX12_wordFor_30 (by decide) ?_
        refine a_icmp_ne (tgt := 45) dX12_wordFor_32 (by decide) (fun c => ?_) (fun c => ?_)
        · have hf := ifn c hf
          refine a_iconst (v := 0) dX12_wordFor_45 (by decide) ?_
          obtain ⟨rfl, rfl⟩ := oc2 hf
          exact a_ireturn dX12_wordFor_46 rfl
        · have hf := ifp c hf
          refine a_iload_n (q := 0) dX12_wordFor_35 rfl rfl ?_
          refine a_iconst (v := 2) dX12_wordFor_36 (by decide) ?_
          refine a_icmp_ne (tgt := 45) dX12_wordFor_37 (by decide) (fun c => ?_) (fun c => ?_)
          · have hf := ifn c hf
            refine a_iconst (v := 0) dX12_wordFor_45 (by decide) ?_
            obtain ⟨rfl, rfl⟩ := oc2 hf
            exact a_ireturn dX12_wordFor_46 rfl
          · have hf := ifp c hf
            refine a_bipush (v := 113) dX12_wordFor_40 (by decide) ?_
            refine a_goto (tgt := 46) dX12_wordFor_42 (by decide) ?_
            obtain ⟨rfl, rfl⟩ := oc2 hf
            exact a_ireturn dX12_wordFor_46 rfl
      · have hf := ifp c hf
        refine a_bipush (v := 97) dX12_wordFor_26 (by decide) ?_
        obtain ⟨rfl, rfl⟩ := oc2 hf
        exact a_ireturn dX12_wordFor_28 rfl
    · have hf := ifp c hf
      refine a_bipush (v := 108) dX12_wordFor_17 (by decide) ?_
      obtain ⟨rfl, rfl⟩ := oc2 hf
      exact a_ireturn dX12_wordFor_19 rfl
  clear ek11
  refine a_if_eq (tgt := 11) dX12_wordFor_1 (by decide) (fun c => ?_) (fun c => ?_)
  · have hf := ifp c hf
    exact hj11 _ hf
  · have hf := ifn c hf
    refine a_iload_n (q := 0) dX12_wordFor_4 rfl rfl ?_
    refine a_iconst (v := 2) dX12_wordFor_5 (by decide) ?_
    refine a_icmp_eq (tgt := 11) dX12_wordFor_6 (by decide) (fun c => ?_) (fun c => ?_)
    · have hf := ifp c hf
      exact hj11 _ hf
    · have hf := ifn c hf
      refine a_iconst (v := 0) dX12_wordFor_9 (by decide) ?_
      obtain ⟨rfl, rfl⟩ := oc2 hf
      exact a_ireturn dX12_wordFor_10 rfl
def fX12_putEscaped (a0 : Nat) (a1 : Int32) (a2 : Int32) (h : hp) : Option hp :=
  (gfI h a0 11 13).bind fun v1 =>
  bd2 (fX12_wordFor v1 a1 h) fun v4 h5 =>
  if v4 = 0 then (
    (gfI h5 a0 11 13).bind fun v6 =>
    jn (fun (h61j : hp) => (
      (gfI h61j a0 11 13).bind fun v8 =>
      jn (fun (s83_0 : Int32) (h83j : hp) => (
        (ckT h83j a0 11).bind fun _ =>
        (fX12_putByte a0 s83_0 a2 h83j).bind fun h11 =>
        some h11
        : Option hp)) fun k83 =>
      jn (fun (h82j : hp) => (
        k83 a1 h82j
        : Option hp)) fun k82 =>
      if v8 = 1 then (
        bd2 (fX12_isPlainInTag a1 h61j) fun v14 h15 =>
        if v14 = 0 then (
          k83 95 h15
        ) else (
          k82 h15
        )
      ) else (
        k82 h61j
      )
      : Option hp)) fun k61 =>
    if v6 = 3 then (
      jn (fun (h54j : hp) => (
        (ckT h54j a0 11).bind fun _ =>
        (fX12_putByte a0 92 a2 h54j).bind fun h17 =>
        k61 h17
        : Option hp)) fun k54 =>
      if a1 = 96 then (
        k54 h5
      ) else (
        if a1 = 92 then (
          k54 h5
        ) else (
          k61 h5
        )
      )
    ) else (
      k61 h5
    )
  ) else (
    (ckT h5 a0 11).bind fun _ =>
    (fX12_putByte a0 38 a2 h5).bind fun h20 =>
    (ckT h20 a0 11).bind fun _ =>
    (fX12_putByte a0 v4 a2 h20).bind fun h23 =>
    (ckT h23 a0 11).bind fun _ =>
    (fX12_putByte a0 59 a2 h23).bind fun h26 =>
    some h26
  )
set_option maxHeartbeats 4000000 in
set_option maxRecDepth 100000 in
theorem sX12_putEscaped (E : gE) (D : Nat) (hD : 4 ≤ D) {a0 : Nat} {a1 : Int32} {a2 : Int32} {h hz : hp} (hf : fX12_putEscaped a0 a1 a2 h = some hz) : MC E yX12_putEscaped cX12_putEscaped (Option.none : Option Jvm.ClassFile.FieldType) 4 D [.ref a0, .int a1, .int a2] h none hz := by
  refine MC.of (by decide +kernel) (Nat.le_of_ble_eq_true rfl) rfl ?_
  unfold fX12_putEscaped at hf
  show AW E yX12_putEscaped cX12_putEscaped (Option.none : Option Jvm.ClassFile.FieldType) 4 D none h hz 0 [(0, .ref a0), (1, .int a1), (2, .int a2)] [] h
  refine a_aload_n (q := 0) dX12_putEscaped_0 rfl rfl ?_
  obtain ⟨v1, e2, hf⟩ := obd hf
  refine o_gfI dX12_putEscaped_1 lk_X12_68 rfl e2 ?_
  refine a_iload_n (q := 1) dX12_putEscaped_4 rfl rfl ?_
  obtain ⟨v4, h5, e3, hf⟩ := ob2 hf
  refine a_callS (as := [.int v1, .int a1]) (np := 2) (st := []) (sX12_wordFor E (D - 1) (by omega) e3) dX12_putEscaped_5 rfl (by omega) (by decide) cw_X12_281 wd_920 rfl (Nat.le_of_ble_eq_true rfl) ?_
  refine a_istore_n (lv1 := [(3, .int v4), (0, .ref a0), (1, .int a1), (2, .int a2)]) dX12_putEscaped_8 rfl (by decide) rfl ?_
  refine a_iload_n (q := 0) dX12_putEscaped_9 rfl rfl ?_
  refine a_if_eq (tgt := 34) dX12_putEscaped_10 (by decide) (fun c => ?_) (fun c => ?_)
  · have hf := ifp c hf
    refine a_aload_n (q := 1) dX12_putEscaped_34 rfl rfl ?_
    obtain ⟨v6, e7, hf⟩ := obd hf
    refine o_gfI dX12_putEscaped_35 lk_X12_68 rfl e7 ?_
    refine a_iconst (v := 3) dX12_putEscaped_38 (by decide) ?_
    obtain ⟨k61, ek61, hf⟩ := jn_s hf
    have hj61 : ∀ (h61j : hp), k61 h61j = some hz → AW E yX12_putEscaped cX12_putEscaped (Option.none : Option Jvm.ClassFile.FieldType) 4 D none h hz 61 [(0, .ref a0), (1, .int a1), (2, .int a2)] [] h61j := by
      intro h61j hf
      rw [ek61] at hf
      clear ek61
      refine a_aload_n (q := 0) dX12_putEscaped_61 rfl rfl ?_
      refine a_aload_n (q := 0) dX12_putEscaped_62 rfl rfl ?_
      obtain ⟨v8, e9, hf⟩ := obd hf
      refine o_gfI dX12_putEscaped_63 lk_X12_68 rfl e9 ?_
      refine a_iconst (v := 1) dX12_putEscaped_66 (by decide) ?_
      obtain ⟨k83, ek83, hf⟩ := jn_s hf
      have hj83 : ∀ (s83_0 : Int32) (h83j : hp), k83 s83_0 h83j = some hz → AW E yX12_putEscaped cX12_putEscaped (Option.none : Option Jvm.ClassFile.FieldType) 4 D none h hz 83 [(2, .int a2)] [.int s83_0, .ref a0] h83j := by
        intro s83_0 h83j hf
        rw [ek83] at hf
        clear ek83
        refine a_iload_n (q := 0) dX12_putEscaped_83 rfl rfl ?_
        obtain ⟨_, e12, hf⟩ := obd hf
        obtain ⟨h11, e10, hf⟩ := obd hf
        refine a_callV (as := [.int s83_0, .int a2]) (np := 2) (ci := 11) (st := []) (sX12_putByte E (D - 1) (by omega) e10) dX12_putEscaped_84 rfl (by omega) (by decide) cw_X12_154 ⟨wd_808, ws_33⟩ rfl (ckT_s e12) rfl (Nat.le_of_ble_eq_true rfl) ?_
        obtain rfl := Option.some.inj hf
        exact a_return dX12_putEscaped_87 rfl
      clear ek83
      obtain ⟨k82, ek82, hf⟩ := jn_s hf
      have hj82 : ∀ (h82j : hp), k82 h82j = some hz → AW E yX12_putEscaped cX12_putEscaped (Option.none : Option Jvm.ClassFile.FieldType) 4 D none h hz 82 [(1, .int a1), (2, .int a2)] [.ref a0] h82j := by
        intro h82j hf
        rw [ek82] at hf
        clear ek82
        refine a_iload_n (q := 0) dX12_putEscaped_82 rfl rfl ?_
        exact AW.sub [1] rfl (hj83 _ _ hf)
      clear ek82
      refine a_icmp_ne (tgt := 82) dX12_putEscaped_67 (by decide) (fun c => ?_) (fun c => ?_)
      · have hf := ifn c hf
        exact AW.sub [1, 2] rfl (hj82 _ hf)
      · have hf := ifp c hf
        refine a_iload_n (q := 1) dX12_putEscaped_70 rfl rfl ?_
        obtain ⟨v14, h15, e13, hf⟩ := ob2 hf
        refine a_callS (as := [.int a1]) (np := 1) (st := [.ref a0]) (sX12_isPlainInTag E (D - 1) (by omega) e13) dX12_putEscaped_71 rfl (by omega) (by decide) cw_X12_284 wd_923 rfl (Nat.le_of_ble_eq_true rfl) ?_
        refine a_if_ne (tgt := 82) dX12_putEscaped_74 (by decide) (fun c => ?_) (fun c => ?_)
        · have hf := ifn c hf
          exact AW.sub [1, 2] rfl (hj82 _ hf)
        · have hf := ifp c hf
          refine a_bipush (v := 95) dX12_putEscaped_77 (by decide) ?_
          refine a_goto (tgt := 83) dX12_putEscaped_79 (by decide) ?_
          exact AW.sub [2] rfl (hj83 _ _ hf)
    clear ek61
    refine a_icmp_ne (tgt := 61) dX12_putEscaped_39 (by decide) (fun c => ?_) (fun c => ?_)
    · have hf := ifn c hf
      exact AW.sub [1, 2, 3] rfl (hj61 _ hf)
    · have hf := ifp c hf
      refine a_iload_n (q := 2) dX12_putEscaped_42 rfl rfl ?_
      refine a_bipush (v := 96) dX12_putEscaped_43 (by decide) ?_
      obtain ⟨k54, ek54, hf⟩ := jn_s hf
      have hj54 : ∀ (h54j : hp), k54 h54j = some hz → AW E yX12_putEscaped cX12_putEscaped (Option.none : Option Jvm.ClassFile.FieldType) 4 D none h hz 54 [(0, .ref a0), (1, .int a1), (2, .int a2)] [] h54j := by
        intro h54j hf
        rw [ek54] at hf
        clear ek54
        refine a_aload_n (q := 0) dX12_putEscaped_54 rfl rfl ?_
        refine a_bipush (v := 92) dX12_putEscaped_55 (by decide) ?_
        refine a_iload_n (q := 2) dX12_putEscaped_57 rfl rfl ?_
        obtain ⟨_, e18, hf⟩ := obd hf
        obtain ⟨h17, e16, hf⟩ := obd hf
        refine a_callV (as := [.int 92, .int a2]) (np := 2) (ci := 11) (st := []) (sX12_putByte E (D - 1) (by omega) e16) dX12_putEscaped_58 rfl (by omega) (by decide) cw_X12_154 ⟨wd_808, ws_33⟩ rfl (ckT_s e18) rfl (Nat.le_of_ble_eq_true rfl) ?_
        exact hj61 _ hf
      clear ek54
      refine a_icmp_eq (tgt := 54) dX12_putEscaped_45 (by decide) (fun c => ?_) (fun c => ?_)
      · have hf := ifp c hf
        exact AW.sub [1, 2, 3] rfl (hj54 _ hf)
      · have hf := ifn c hf
        refine a_iload_n (q := 2) dX12_putEscaped_48 rfl rfl ?_
        refine a_bipush (v := 92) dX12_putEscaped_49 (by decide) ?_
        refine a_icmp_ne (tgt := 61) dX12_putEscaped_51 (by decide) (fun c => ?_) (fun c => ?_)
        · have hf := ifn c hf
          exact AW.sub [1, 2, 3] rfl (hj61 _ hf)
        · have hf := ifp c hf
          exact AW.sub [1, 2, 3] rfl (hj54 _ hf)
  · have hf := ifn c hf
    refine a_aload_n (q := 1) dX12_putEscaped_13 rfl rfl ?_
    refine a_bipush (v := 38) dX12_putEscaped_14 (by decide) ?_
    refine a_iload_n (q := 3) dX12_putEscaped_16 rfl rfl ?_
    obtain ⟨_, e21, hf⟩ := obd hf
    obtain ⟨h20, e19, hf⟩ := obd hf
    refine a_callV (as := [.int 38, .int a2]) (np := 2) (ci := 11) (st := []) (sX12_putByte E (D - 1) (by omega) e19) dX12_putEscaped_17 rfl (by omega) (by decide) cw_X12_154 ⟨wd_808, ws_33⟩ rfl (ckT_s e21) rfl (Nat.le_of_ble_eq_true rfl) ?_
    refine a_aload_n (q := 1) dX12_putEscaped_20 rfl rfl ?_
    refine a_iload_n (q := 0) dX12_putEscaped_21 rfl rfl ?_
    refine a_iload_n (q := 3) dX12_putEscaped_22 rfl rfl ?_
    obtain ⟨_, e24, hf⟩ := obd hf
    obtain ⟨h23, e22, hf⟩ := obd hf
    refine a_callV (as := [.int v4, .int a2]) (np := 2) (ci := 11) (st := []) (sX12_putByte E (D - 1) (by omega) e22) dX12_putEscaped_23 rfl (by omega) (by decide) cw_X12_154 ⟨wd_808, ws_33⟩ rfl (ckT_s e24) rfl (Nat.le_of_ble_eq_true rfl) ?_
    refine a_aload_n (q := 1) dX12_putEscaped_26 rfl rfl ?_
    refine a_bipush (v := 59) dX12_putEscaped_27 (by decide) ?_
    refine a_iload_n (q := 3) dX12_putEscaped_29 rfl rfl ?_
    obtain ⟨_, e27, hf⟩ := obd hf
    obtain ⟨h26, e25, hf⟩ := obd hf
    refine a_callV (as := [.int 59, .int a2]) (np := 2) (ci := 11) (st := []) (sX12_putByte E (D - 1) (by omega) e25) dX12_putEscaped_30 rfl (by omega) (by decide) cw_X12_154 ⟨wd_808, ws_33⟩ rfl (ckT_s e27) rfl (Nat.le_of_ble_eq_true rfl) ?_
    obtain rfl := Option.some.inj hf
    exact a_return dX12_putEscaped_33 rfl
def fX12_workOut (a0 : Nat) (a1 : Nat) (a2 : Nat) (a3 : Int32) (h : hp) : Option hp :=
  if a1 = 0 then (
    some h
  ) else (
    (gfI h a1 1 0).bind fun v1 =>
    jn (fun (h28j : hp) => (
      (gfI h28j a1 1 0).bind fun v3 =>
      jn (fun (s54_0 : Nat) (h54j : hp) => (
        (gfI h54j a1 1 0).bind fun v5 =>
        jn (fun (h86j : hp) => (
          (gfR h86j a1 1 3).bind fun v7 =>
          (ckT h86j a2 10).bind fun _ =>
          bd2 (fX11_applyAll a2 v7 h86j) fun v10 h11 =>
          if v10 = 0 then (
            some h11
          ) else (
            (ckT h11 a0 11).bind fun _ =>
            (fX12_fail a0 a3 v10 h11).bind fun h14 =>
            some h14
          )
          : Option hp)) fun k86 =>
        if v5 = 2 then (
          (gfI h54j a0 11 15).bind fun v19 =>
          (ckT h54j a2 10).bind fun _ =>
          (fX11_becomeInt a2 v19 h54j).bind fun h22 =>
          k86 h22
        ) else (
          if s54_0 = 0 then (
            k86 h54j
          ) else (
            (ckT h54j a2 10).bind fun _ =>
            (fX11_copy a2 s54_0 h54j).bind fun h17 =>
            k86 h17
          )
        )
        : Option hp)) fun k54 =>
      if v3 = 1 then (
        (gfR h28j a0 11 0).bind fun v26 =>
        (gfI h28j a1 1 1).bind fun v28 =>
        (ckT h28j v26 8).bind fun _ =>
        bd2 (fX9_variable v26 v28 h28j) fun v31 h32 =>
        k54 v31 h32
      ) else (
        (gfR h28j a1 1 2).bind fun v24 =>
        k54 v24 h28j
      )
      : Option hp)) fun k28 =>
    if v1 = 2 then (
      (gfI h a0 11 15).bind fun v34 =>
      if 0 ≤ v34 then (
        k28 h
      ) else (
        (ckT h a0 11).bind fun _ =>
        (fX12_fail a0 a3 9 h).bind fun h37 =>
        some h37
      )
    ) else (
      k28 h
    )
  )
set_option maxHeartbeats 4000000 in
set_option maxRecDepth 100000 in
theorem sX12_workOut (E : gE) (D : Nat) (hD : 5 ≤ D) {a0 : Nat} {a1 : Nat} {a2 : Nat} {a3 : Int32} {h hz : hp} (hf : fX12_workOut a0 a1 a2 a3 h = some hz) : MC E yX12_workOut cX12_workOut (Option.none : Option Jvm.ClassFile.FieldType) 6 D [.ref a0, .ref a1, .ref a2, .int a3] h none hz := by
  refine MC.of (by decide +kernel) (Nat.le_of_ble_eq_true rfl) rfl ?_
  unfold fX12_workOut at hf
  show AW E yX12_workOut cX12_workOut (Option.none : Option Jvm.ClassFile.FieldType) 6 D none h hz 0 [(0, .ref a0), (1, .ref a1), (2, .ref a2), (3, .int a3)] [] h
  refine a_aload_n (q := 1) dX12_workOut_0 rfl rfl ?_
  refine a_ifnonnull (tgt := 5) dX12_workOut_1 (by decide) (fun c => ?_) (fun c => ?_)
  · have hf := ifn c hf
    refine a_aload_n (q := 1) dX12_workOut_5 rfl rfl ?_
    obtain ⟨v1, e2, hf⟩ := obd hf
    refine o_gfI dX12_workOut_6 lk_X12_244 rfl e2 ?_
    refine a_iconst (v := 2) dX12_workOut_9 (by decide) ?_
    obtain ⟨k28, ek28, hf⟩ := jn_s hf
    have hj28 : ∀ (h28j : hp), k28 h28j = some hz → AW E yX12_workOut cX12_workOut (Option.none : Option Jvm.ClassFile.FieldType) 6 D none h hz 28 [(0, .ref a0), (1, .ref a1), (2, .ref a2), (3, .int a3)] [] h28j := by
      intro h28j hf
      rw [ek28] at hf
      clear ek28
      refine a_aload_n (q := 1) dX12_workOut_28 rfl rfl ?_
      obtain ⟨v3, e4, hf⟩ := obd hf
      refine o_gfI dX12_workOut_29 lk_X12_244 rfl e4 ?_
      refine a_iconst (v := 1) dX12_workOut_32 (by decide) ?_
      obtain ⟨k54, ek54, hf⟩ := jn_s hf
      have hj54 : ∀ (s54_0 : Nat) (h54j : hp), k54 s54_0 h54j = some hz → AW E yX12_workOut cX12_workOut (Option.none : Option Jvm.ClassFile.FieldType) 6 D none h hz 54 [(0, .ref a0), (1, .ref a1), (2, .ref a2), (3, .int a3)] [.ref s54_0] h54j := by
        intro s54_0 h54j hf
        rw [ek54] at hf
        clear ek54
        refine a_astore (lv1 := [(4, .ref s54_0), (0, .ref a0), (1, .ref a1), (2, .ref a2), (3, .int a3)]) dX12_workOut_54 (by decide) rfl ?_
        refine a_aload_n (q := 2) dX12_workOut_56 rfl rfl ?_
        obtain ⟨v5, e6, hf⟩ := obd hf
        refine o_gfI dX12_workOut_57 lk_X12_244 rfl e6 ?_
        refine a_iconst (v := 2) dX12_workOut_60 (by decide) ?_
        obtain ⟨k86, ek86, hf⟩ := jn_s hf
        have hj86 : ∀ (h86j : hp), k86 h86j = some hz → AW E yX12_workOut cX12_workOut (Option.none : Option Jvm.ClassFile.FieldType) 6 D none h hz 86 [(0, .ref a0), (1, .ref a1), (2, .ref a2), (3, .int a3)] [] h86j := by
          intro h86j hf
          rw [ek86] at hf
          clear ek86
          refine a_aload_n (q := 2) dX12_workOut_86 rfl rfl ?_
          refine a_aload_n (q := 1) dX12_workOut_87 rfl rfl ?_
          obtain ⟨v7, e8, hf⟩ := obd hf
          refine o_gfR dX12_workOut_88 lk_X12_252 rfl e8 ?_
          obtain ⟨_, e12, hf⟩ := obd hf
          obtain ⟨v10, h11, e9, hf⟩ := ob2 hf
          refine a_callV (as := [.ref v7]) (np := 1) (ci := 10) (st := []) (sX11_applyAll E (D - 1) (by omega) e9) dX12_workOut_91 rfl (by omega) (by decide) cw_X12_255 ⟨wd_832, wd_833⟩ rfl (ckT_s e12) rfl (Nat.le_of_ble_eq_true rfl) ?_
          refine a_istore (lv1 := [(5, .int v10), (0, .ref a0), (1, .ref a1), (2, .ref a2), (3, .int a3)]) dX12_workOut_94 (by decide) rfl ?_
          refine a_iload (q := 0) dX12_workOut_96 rfl ?_
          refine a_if_eq (tgt := 108) dX12_workOut_98 (by decide) (fun c => ?_) (fun c => ?_)
          · have hf := ifp c hf
            obtain rfl := Option.some.inj hf
            exact a_return dX12_workOut_108 rfl
          · have hf := ifn c hf
            refine a_aload_n (q := 1) dX12_workOut_101 rfl rfl ?_
            refine a_iload_n (q := 4) dX12_workOut_102 rfl rfl ?_
            refine a_iload (q := 0) dX12_workOut_103 rfl ?_
            obtain ⟨_, e15, hf⟩ := obd hf
            obtain ⟨h14, e13, hf⟩ := obd hf
            refine a_callV (as := [.int a3, .int v10]) (np := 2) (ci := 11) (st := []) (sX12_fail E (D - 1) (by omega) e13) dX12_workOut_105 rfl (by omega) (by decide) cw_X12_95 ⟨wd_770, ws_29⟩ rfl (ckT_s e15) rfl (Nat.le_of_ble_eq_true rfl) ?_
            obtain rfl := Option.some.inj hf
            exact a_return dX12_workOut_108 rfl
        clear ek86
        refine a_icmp_ne (tgt := 75) dX12_workOut_61 (by decide) (fun c => ?_) (fun c => ?_)
        · have hf := ifn c hf
          refine a_aload (q := 0) dX12_workOut_75 rfl ?_
          refine a_ifnull (tgt := 86) dX12_workOut_77 (by decide) (fun c => ?_) (fun c => ?_)
          · have hf := ifp c hf
            exact AW.sub [1, 2, 3, 4] rfl (hj86 _ hf)
          · have hf := ifn c hf
            refine a_aload_n (q := 3) dX12_workOut_80 rfl rfl ?_
            refine a_aload (q := 0) dX12_workOut_81 rfl ?_
            obtain ⟨_, e18, hf⟩ := obd hf
            obtain ⟨h17, e16, hf⟩ := obd hf
            refine a_callV (as := [.ref s54_0]) (np := 1) (ci := 10) (st := []) (sX11_copy E (D - 1) (by omega) e16) dX12_workOut_83 rfl (by omega) (by decide) cw_X12_240 ⟨wd_825, wd_826⟩ rfl (ckT_s e18) rfl (Nat.le_of_ble_eq_true rfl) ?_
            exact AW.sub [1, 2, 3, 4] rfl (hj86 _ hf)
        · have hf := ifp c hf
          refine a_aload_n (q := 3) dX12_workOut_64 rfl rfl ?_
          refine a_aload_n (q := 1) dX12_workOut_65 rfl rfl ?_
          obtain ⟨v19, e20, hf⟩ := obd hf
          refine o_gfI dX12_workOut_66 lk_X12_74 rfl e20 ?_
          obtain ⟨_, e23, hf⟩ := obd hf
          obtain ⟨h22, e21, hf⟩ := obd hf
          refine a_callV (as := [.int v19]) (np := 1) (ci := 10) (st := []) (sX11_becomeInt E (D - 1) (by omega) e21) dX12_workOut_69 rfl (by omega) (by decide) cw_X12_214 ⟨wd_284, wd_285⟩ rfl (ckT_s e23) rfl (Nat.le_of_ble_eq_true rfl) ?_
          refine a_goto (tgt := 86) dX12_workOut_72 (by decide) ?_
          exact AW.sub [1, 2, 3, 4] rfl (hj86 _ hf)
      clear ek54
      refine a_icmp_ne (tgt := 50) dX12_workOut_33 (by decide) (fun c => ?_) (fun c => ?_)
      · have hf := ifn c hf
        refine a_aload_n (q := 1) dX12_workOut_50 rfl rfl ?_
        obtain ⟨v24, e25, hf⟩ := obd hf
        refine o_gfR dX12_workOut_51 lk_X12_249 rfl e25 ?_
        exact hj54 _ _ hf
      · have hf := ifp c hf
        refine a_aload_n (q := 0) dX12_workOut_36 rfl rfl ?_
        obtain ⟨v26, e27, hf⟩ := obd hf
        refine o_gfR dX12_workOut_37 lk_X12_50 rfl e27 ?_
        refine a_aload_n (q := 1) dX12_workOut_40 rfl rfl ?_
        obtain ⟨v28, e29, hf⟩ := obd hf
        refine o_gfI dX12_workOut_41 lk_X12_247 rfl e29 ?_
        obtain ⟨_, e33, hf⟩ := obd hf
        obtain ⟨v31, h32, e30, hf⟩ := ob2 hf
        refine a_callV (as := [.int v28]) (np := 1) (ci := 8) (st := []) (sX9_variable E (D - 1) (by omega) e30) dX12_workOut_44 rfl (by omega) (by decide) cw_X12_237 ⟨wd_264, wd_265⟩ rfl (ckT_s e33) rfl (Nat.le_of_ble_eq_true rfl) ?_
        refine a_goto (tgt := 54) dX12_workOut_47 (by decide) ?_
        exact hj54 _ _ hf
    clear ek28
    refine a_icmp_ne (tgt := 28) dX12_workOut_10 (by decide) (fun c => ?_) (fun c => ?_)
    · have hf := ifn c hf
      exact hj28 _ hf
    · have hf := ifp c hf
      refine a_aload_n (q := 0) dX12_workOut_13 rfl rfl ?_
      obtain ⟨v34, e35, hf⟩ := obd hf
      refine o_gfI dX12_workOut_14 lk_X12_74 rfl e35 ?_
      refine a_if_ge (tgt := 28) dX12_workOut_17 (by decide) (fun c => ?_) (fun c => ?_)
      · have hf := ifp c hf
        exact hj28 _ hf
      · have hf := ifn c hf
        refine a_aload_n (q := 0) dX12_workOut_20 rfl rfl ?_
        refine a_iload_n (q := 3) dX12_workOut_21 rfl rfl ?_
        refine a_bipush (v := 9) dX12_workOut_22 (by decide) ?_
        obtain ⟨_, e38, hf⟩ := obd hf
        obtain ⟨h37, e36, hf⟩ := obd hf
        refine a_callV (as := [.int a3, .int 9]) (np := 2) (ci := 11) (st := []) (sX12_fail E (D - 1) (by omega) e36) dX12_workOut_24 rfl (by omega) (by decide) cw_X12_95 ⟨wd_770, ws_29⟩ rfl (ckT_s e38) rfl (Nat.le_of_ble_eq_true rfl) ?_
        obtain rfl := Option.some.inj hf
        exact a_return dX12_workOut_27 rfl
  · have hf := ifp c hf
    obtain rfl := Option.some.inj hf
    exact a_return dX12_workOut_4 rfl
def fX12_putValue_l36 : Nat → Nat → Nat → Int32 → hp → Option hp
  | 0, _, _, _, _ => none
  | n + 1, x0, x1, x2, h =>
    (gfR h x0 11 6).bind fun v1 =>
    (gfI h v1 4 1).bind fun v3 =>
    if v3 ≤ x2 then (
      some (h)
    ) else (
      (gfI h x0 11 17).bind fun v5 =>
      if v5 = 0 then (
        (gfR h x0 11 6).bind fun v7 =>
        (ckT h v7 4).bind fun _ =>
        bd2 (fX5_at v7 x2 h) fun v10 h11 =>
        (gfI h11 x1 5 1).bind fun v13 =>
        (ckT h11 x0 11).bind fun _ =>
        (fX12_putEscaped x0 v10 v13 h11).bind fun h16 =>
        fX12_putValue_l36 n x0 x1 (x2 + 1) h16
      ) else (
        some (h)
      )
    )
def fX12_putValue (a0 : Nat) (a1 : Nat) (h : hp) : Option hp :=
  (gfR h a1 5 4).bind fun v1 =>
  (gfR h a0 11 4).bind fun v3 =>
  (gfI h a1 5 1).bind fun v5 =>
  (ckT h a0 11).bind fun _ =>
  (fX12_workOut a0 v1 v3 v5 h).bind fun h8 =>
  (gfR h8 a0 11 6).bind fun v10 =>
  (ckT h8 v10 4).bind fun _ =>
  (fX5_empty v10 h8).bind fun h13 =>
  (gfR h13 a0 11 4).bind fun v15 =>
  (gfR h13 a0 11 6).bind fun v17 =>
  (ckT h13 v15 10).bind fun _ =>
  (fX11_showInto v15 v17 h13).bind fun h20 =>
  (fX12_putValue_l36 FU a0 a1 0 h20).bind fun h23 =>
  some h23
set_option maxHeartbeats 4000000 in
set_option maxRecDepth 100000 in
theorem sX12_putValue_l36 (E : gE) (D : Nat) (hD : 6 ≤ D) {rz : Option Value} {h0 hz : hp} : ∀ (n : Nat) (x0 : Nat) (x1 : Nat) (x2 : Int32) (h : hp) (hq : hp), fX12_putValue_l36 n x0 x1 x2 h = some hq → (AW E yX12_putValue cX12_putValue (Option.none : Option Jvm.ClassFile.FieldType) 3 D rz h0 hz 76 [] [] hq) → AW E yX12_putValue cX12_putValue (Option.none : Option Jvm.ClassFile.FieldType) 3 D rz h0 hz 36 [(0, .ref x0), (1, .ref x1), (2, .int x2)] [] h := by
  intro n
  induction n with
  | zero =>
    intro x0 x1 x2 h hq hf _
    rw [fX12_putValue_l36] at hf
    cases hf
  | succ n ih =>
    intro x0 x1 x2 h hq hf hk0
    rw [fX12_putValue_l36] at hf
    refine a_iload_n (q := 2) dX12_putValue_36 rfl rfl ?_
    refine a_aload_n (q := 0) dX12_putValue_37 rfl rfl ?_
    obtain ⟨v1, e2, hf⟩ := obd hf
    refine o_gfR dX12_putValue_38 lk_X12_36 rfl e2 ?_
    obtain ⟨v3, e4, hf⟩ := obd hf
    refine o_gfI dX12_putValue_41 lk_X12_276 rfl e4 ?_
    refine a_icmp_ge (tgt := 76) dX12_putValue_44 (by decide) (fun c => ?_) (fun c => ?_)
    · have hf := ifp c hf
      obtain rfl := Option.some.inj hf
      exact AW.sub [] rfl (hk0)
    · have hf := ifn c hf
      refine a_aload_n (q := 0) dX12_putValue_47 rfl rfl ?_
      obtain ⟨v5, e6, hf⟩ := obd hf
      refine o_gfI dX12_putValue_48 lk_X12_81 rfl e6 ?_
      refine a_if_ne (tgt := 76) dX12_putValue_51 (by decide) (fun c => ?_) (fun c => ?_)
      · have hf := ifn c hf
        obtain rfl := Option.some.inj hf
        exact AW.sub [] rfl (hk0)
      · have hf := ifp c hf
        refine a_aload_n (q := 0) dX12_putValue_54 rfl rfl ?_
        refine a_aload_n (q := 0) dX12_putValue_55 rfl rfl ?_
        obtain ⟨v7, e8, hf⟩ := obd hf
        refine o_gfR dX12_putValue_56 lk_X12_36 rfl e8 ?_
        refine a_iload_n (q := 2) dX12_putValue_59 rfl rfl ?_
        obtain ⟨_, e12, hf⟩ := obd hf
        obtain ⟨v10, h11, e9, hf⟩ := ob2 hf
        refine a_callV (as := [.int x2]) (np := 1) (ci := 4) (st := [.ref x0]) (sX5_at E (D - 1) (by omega) e9) dX12_putValue_60 rfl (by omega) (by decide) cw_X12_277 ⟨wd_313, wd_314⟩ rfl (ckT_s e12) rfl (Nat.le_of_ble_eq_true rfl) ?_
        refine a_aload_n (q := 1) dX12_putValue_63 rfl rfl ?_
        obtain ⟨v13, e14, hf⟩ := obd hf
        refine o_gfI dX12_putValue_64 lk_X12_151 rfl e14 ?_
        obtain ⟨_, e17, hf⟩ := obd hf
        obtain ⟨h16, e15, hf⟩ := obd hf
        refine a_callV (as := [.int v10, .int v13]) (np := 2) (ci := 11) (st := []) (sX12_putEscaped E (D - 1) (by omega) e15) dX12_putValue_67 rfl (by omega) (by decide) cw_X12_278 ⟨wd_917, ws_48⟩ rfl (ckT_s e17) rfl (Nat.le_of_ble_eq_true rfl) ?_
        refine a_iinc (q := 2) (v := (x2 + 1)) (lv1 := [(2, .int (x2 + 1)), (0, .ref x0), (1, .ref x1)]) dX12_putValue_70 rfl (by rfl) (by decide) rfl ?_
        refine a_goto (tgt := 36) dX12_putValue_73 (by decide) ?_
        exact AW.sub [1, 2, 0] rfl (ih _ _ _ _ _ hf hk0)
set_option maxHeartbeats 4000000 in
set_option maxRecDepth 100000 in
theorem sX12_putValue (E : gE) (D : Nat) (hD : 6 ≤ D) {a0 : Nat} {a1 : Nat} {h hz : hp} (hf : fX12_putValue a0 a1 h = some hz) : MC E yX12_putValue cX12_putValue (Option.none : Option Jvm.ClassFile.FieldType) 3 D [.ref a0, .ref a1] h none hz := by
  refine MC.of (by decide +kernel) (Nat.le_of_ble_eq_true rfl) rfl ?_
  unfold fX12_putValue at hf
  show AW E yX12_putValue cX12_putValue (Option.none : Option Jvm.ClassFile.FieldType) 3 D none h hz 0 [(0, .ref a0), (1, .ref a1)] [] h
  refine a_aload_n (q := 0) dX12_putValue_0 rfl rfl ?_
  refine a_aload_n (q := 1) dX12_putValue_1 rfl rfl ?_
  obtain ⟨v1, e2, hf⟩ := obd hf
  refine o_gfR dX12_putValue_2 lk_X12_197 rfl e2 ?_
  refine a_aload_n (q := 0) dX12_putValue_5 rfl rfl ?_
  obtain ⟨v3, e4, hf⟩ := obd hf
  refine o_gfR dX12_putValue_6 lk_X12_24 rfl e4 ?_
  refine a_aload_n (q := 1) dX12_putValue_9 rfl rfl ?_
  obtain ⟨v5, e6, hf⟩ := obd hf
  refine o_gfI dX12_putValue_10 lk_X12_151 rfl e6 ?_
  obtain ⟨_, e9, hf⟩ := obd hf
  obtain ⟨h8, e7, hf⟩ := obd hf
  refine a_callV (as := [.ref v1, .ref v3, .int v5]) (np := 3) (ci := 11) (st := []) (sX12_workOut E (D - 1) (by omega) e7) dX12_putValue_13 rfl (by omega) (by decide) cw_X12_200 ⟨wd_820, ws_35⟩ rfl (ckT_s e9) rfl (Nat.le_of_ble_eq_true rfl) ?_
  refine a_aload_n (q := 0) dX12_putValue_16 rfl rfl ?_
  obtain ⟨v10, e11, hf⟩ := obd hf
  refine o_gfR dX12_putValue_17 lk_X12_36 rfl e11 ?_
  obtain ⟨_, e14, hf⟩ := obd hf
  obtain ⟨h13, e12, hf⟩ := obd hf
  refine a_callV (as := []) (np := 0) (ci := 4) (st := []) (sX5_empty E (D - 1) (by omega) e12) dX12_putValue_20 rfl (by omega) (by decide) cw_X12_58 ⟨wd_321, wd_322⟩ rfl (ckT_s e14) rfl (Nat.le_of_ble_eq_true rfl) ?_
  refine a_aload_n (q := 0) dX12_putValue_23 rfl rfl ?_
  obtain ⟨v15, e16, hf⟩ := obd hf
  refine o_gfR dX12_putValue_24 lk_X12_24 rfl e16 ?_
  refine a_aload_n (q := 0) dX12_putValue_27 rfl rfl ?_
  obtain ⟨v17, e18, hf⟩ := obd hf
  refine o_gfR dX12_putValue_28 lk_X12_36 rfl e18 ?_
  obtain ⟨_, e21, hf⟩ := obd hf
  obtain ⟨h20, e19, hf⟩ := obd hf
  refine a_callV (as := [.ref v17]) (np := 1) (ci := 10) (st := []) (sX11_showInto E (D - 1) (by omega) e19) dX12_putValue_31 rfl (by omega) (by decide) cw_X12_272 ⟨wd_351, wd_352⟩ rfl (ckT_s e21) rfl (Nat.le_of_ble_eq_true rfl) ?_
  refine a_iconst (v := 0) dX12_putValue_34 (by decide) ?_
  refine a_istore_n (lv1 := [(2, .int 0), (0, .ref a0), (1, .ref a1)]) dX12_putValue_35 rfl (by decide) rfl ?_
  obtain ⟨h23, e22, hf⟩ := obd hf
  refine AW.sub [1, 2, 0] rfl (sX12_putValue_l36 E D hD _ _ _ _ _ _ e22 ?_)
  obtain rfl := Option.some.inj hf
  exact a_return dX12_putValue_76 rfl
def fX12_giveName (a0 : Nat) (a1 : Int32) (a2 : Nat) (h : hp) : Option hp :=
  (gfR h a0 11 0).bind fun v1 =>
  (ckT h v1 8).bind fun _ =>
  bd2 (fX9_variable v1 a1 h) fun v4 h5 =>
  if v4 = 0 then (
    some h5
  ) else (
    (gfI h5 a0 11 10).bind fun v7 =>
    bd2 (fX13_among v7 348 h5) fun v10 h11 =>
    if v10 = 0 then (
      some h11
    ) else (
      (gfR h11 a0 11 8).bind fun v12 =>
      (gfI h11 a0 11 10).bind fun v14 =>
      (alR 6 h11 v12 v14).bind fun v16 =>
      jn (fun (h55j : hp) => (
        (gfR h55j a0 11 8).bind fun v18 =>
        (gfI h55j a0 11 10).bind fun v20 =>
        (alR 6 h55j v18 v20).bind fun v22 =>
        (ckT h55j v22 10).bind fun _ =>
        (fX11_copy v22 v4 h55j).bind fun h25 =>
        (gfR h25 a0 11 9).bind fun v27 =>
        (gfI h25 a0 11 10).bind fun v29 =>
        (asI h25 v27 v29 a1).bind fun h31 =>
        (gfI h31 a0 11 10).bind fun v33 =>
        (pfI h31 a0 11 10 (v33 + 1)).bind fun h35 =>
        (ckT h35 v4 10).bind fun _ =>
        (fX11_copy v4 a2 h35).bind fun h38 =>
        some h38
        : Option hp)) fun k55 =>
      if v16 = 0 then (
        (gfR h11 a0 11 8).bind fun v40 =>
        (gfI h11 a0 11 10).bind fun v42 =>
        bd2 (nwO h11 10 5) fun v44 h45 =>
        (ckT h45 v44 10).bind fun _ =>
        (fX11_init v44 h45).bind fun h48 =>
        (asR 6 h48 v40 v42 v44).bind fun h50 =>
        k55 h50
      ) else (
        k55 h11
      )
    )
  )
set_option maxHeartbeats 4000000 in
set_option maxRecDepth 100000 in
theorem sX12_giveName (E : gE) (D : Nat) (hD : 2 ≤ D) {a0 : Nat} {a1 : Int32} {a2 : Nat} {h hz : hp} (hf : fX12_giveName a0 a1 a2 h = some hz) : MC E yX12_giveName cX12_giveName (Option.none : Option Jvm.ClassFile.FieldType) 4 D [.ref a0, .int a1, .ref a2] h none hz := by
  refine MC.of (by decide +kernel) (Nat.le_of_ble_eq_true rfl) rfl ?_
  unfold fX12_giveName at hf
  show AW E yX12_giveName cX12_giveName (Option.none : Option Jvm.ClassFile.FieldType) 4 D none h hz 0 [(0, .ref a0), (1, .int a1), (2, .ref a2)] [] h
  refine a_aload_n (q := 0) dX12_giveName_0 rfl rfl ?_
  obtain ⟨v1, e2, hf⟩ := obd hf
  refine o_gfR dX12_giveName_1 lk_X12_50 rfl e2 ?_
  refine a_iload_n (q := 1) dX12_giveName_4 rfl rfl ?_
  obtain ⟨_, e6, hf⟩ := obd hf
  obtain ⟨v4, h5, e3, hf⟩ := ob2 hf
  refine a_callV (as := [.int a1]) (np := 1) (ci := 8) (st := []) (sX9_variable E (D - 1) (by omega) e3) dX12_giveName_5 rfl (by omega) (by decide) cw_X12_237 ⟨wd_264, wd_265⟩ rfl (ckT_s e6) rfl (Nat.le_of_ble_eq_true rfl) ?_
  refine a_astore_n (lv1 := [(3, .ref v4), (0, .ref a0), (1, .int a1), (2, .ref a2)]) dX12_giveName_8 rfl (by decide) rfl ?_
  refine a_aload_n (q := 0) dX12_giveName_9 rfl rfl ?_
  refine a_ifnull (tgt := 26) dX12_giveName_10 (by decide) (fun c => ?_) (fun c => ?_)
  · have hf := ifp c hf
    obtain rfl := Option.some.inj hf
    exact a_return dX12_giveName_26 rfl
  · have hf := ifn c hf
    refine a_aload_n (q := 1) dX12_giveName_13 rfl rfl ?_
    obtain ⟨v7, e8, hf⟩ := obd hf
    refine o_gfI dX12_giveName_14 lk_X12_131 rfl e8 ?_
    refine a_sipush (v := 348) dX12_giveName_17 (by decide) ?_
    obtain ⟨v10, h11, e9, hf⟩ := ob2 hf
    refine a_callS (as := [.int v7, .int 348]) (np := 2) (st := []) (sX13_among E (D - 1) (by omega) e9) dX12_giveName_20 rfl (by omega) (by decide) cw_X12_91 wd_268 rfl (Nat.le_of_ble_eq_true rfl) ?_
    refine a_if_ne (tgt := 27) dX12_giveName_23 (by decide) (fun c => ?_) (fun c => ?_)
    · have hf := ifn c hf
      refine a_aload_n (q := 1) dX12_giveName_27 rfl rfl ?_
      obtain ⟨v12, e13, hf⟩ := obd hf
      refine o_gfR dX12_giveName_28 lk_X12_43 rfl e13 ?_
      refine a_aload_n (q := 1) dX12_giveName_31 rfl rfl ?_
      obtain ⟨v14, e15, hf⟩ := obd hf
      refine o_gfI dX12_giveName_32 lk_X12_131 rfl e15 ?_
      obtain ⟨v16, e17, hf⟩ := obd hf
      refine o_alR dX12_giveName_35 (by decide) e17 ?_
      obtain ⟨k55, ek55, hf⟩ := jn_s hf
      have hj55 : ∀ (h55j : hp), k55 h55j = some hz → AW E yX12_giveName cX12_giveName (Option.none : Option Jvm.ClassFile.FieldType) 4 D none h hz 55 [(0, .ref a0), (1, .int a1), (2, .ref a2), (3, .ref v4)] [] h55j := by
        intro h55j hf
        rw [ek55] at hf
        clear ek55
        refine a_aload_n (q := 0) dX12_giveName_55 rfl rfl ?_
        obtain ⟨v18, e19, hf⟩ := obd hf
        refine o_gfR dX12_giveName_56 lk_X12_43 rfl e19 ?_
        refine a_aload_n (q := 0) dX12_giveName_59 rfl rfl ?_
        obtain ⟨v20, e21, hf⟩ := obd hf
        refine o_gfI dX12_giveName_60 lk_X12_131 rfl e21 ?_
        obtain ⟨v22, e23, hf⟩ := obd hf
        refine o_alR dX12_giveName_63 (by decide) e23 ?_
        refine a_aload_n (q := 3) dX12_giveName_64 rfl rfl ?_
        obtain ⟨_, e26, hf⟩ := obd hf
        obtain ⟨h25, e24, hf⟩ := obd hf
        refine a_callV (as := [.ref v4]) (np := 1) (ci := 10) (st := []) (sX11_copy E (D - 1) (by omega) e24) dX12_giveName_65 rfl (by omega) (by decide) cw_X12_240 ⟨wd_825, wd_826⟩ rfl (ckT_s e26) rfl (Nat.le_of_ble_eq_true rfl) ?_
        refine a_aload_n (q := 0) dX12_giveName_68 rfl rfl ?_
        obtain ⟨v27, e28, hf⟩ := obd hf
        refine o_gfR dX12_giveName_69 lk_X12_46 rfl e28 ?_
        refine a_aload_n (q := 0) dX12_giveName_72 rfl rfl ?_
        obtain ⟨v29, e30, hf⟩ := obd hf
        refine o_gfI dX12_giveName_73 lk_X12_131 rfl e30 ?_
        refine a_iload_n (q := 1) dX12_giveName_76 rfl rfl ?_
        obtain ⟨h31, e32, hf⟩ := obd hf
        refine o_asI dX12_giveName_77 e32 ?_
        refine a_aload_n (q := 0) dX12_giveName_78 rfl rfl ?_
        refine a_aload_n (q := 0) dX12_giveName_79 rfl rfl ?_
        obtain ⟨v33, e34, hf⟩ := obd hf
        refine o_gfI dX12_giveName_80 lk_X12_131 rfl e34 ?_
        refine a_iconst (v := 1) dX12_giveName_83 (by decide) ?_
        refine a_iadd dX12_giveName_84 ?_
        obtain ⟨h35, e36, hf⟩ := obd hf
        refine o_pfI dX12_giveName_85 lk_X12_131 (⟨_, rfl, Or.inl rfl⟩) rfl e36 ?_
        refine a_aload_n (q := 3) dX12_giveName_88 rfl rfl ?_
        refine a_aload_n (q := 2) dX12_giveName_89 rfl rfl ?_
        obtain ⟨_, e39, hf⟩ := obd hf
        obtain ⟨h38, e37, hf⟩ := obd hf
        refine a_callV (as := [.ref a2]) (np := 1) (ci := 10) (st := []) (sX11_copy E (D - 1) (by omega) e37) dX12_giveName_90 rfl (by omega) (by decide) cw_X12_240 ⟨wd_825, wd_826⟩ rfl (ckT_s e39) rfl (Nat.le_of_ble_eq_true rfl) ?_
        obtain rfl := Option.some.inj hf
        exact a_return dX12_giveName_93 rfl
      clear ek55
      refine a_ifnonnull (tgt := 55) dX12_giveName_36 (by decide) (fun c => ?_) (fun c => ?_)
      · have hf := ifn c hf
        exact AW.sub [1, 2, 3, 0] rfl (hj55 _ hf)
      · have hf := ifp c hf
        refine a_aload_n (q := 1) dX12_giveName_39 rfl rfl ?_
        obtain ⟨v40, e41, hf⟩ := obd hf
        refine o_gfR dX12_giveName_40 lk_X12_43 rfl e41 ?_
        refine a_aload_n (q := 1) dX12_giveName_43 rfl rfl ?_
        obtain ⟨v42, e43, hf⟩ := obd hf
        refine o_gfI dX12_giveName_44 lk_X12_131 rfl e43 ?_
        obtain ⟨v44, h45, e46, hf⟩ := ob2 hf
        refine o_nwO (ci := 10) dX12_giveName_47 rfl rfl gu_10 tyX11_ok (by decide) wd_141 wd_64 wd_4 e46 ?_
        refine a_dup dX12_giveName_50 rfl ?_
        obtain ⟨_, e49, hf⟩ := obd hf
        obtain ⟨h48, e47, hf⟩ := obd hf
        refine a_callI (as := []) (np := 0) (ci := 10) (st := [.ref v44, .int v42, .ref v40]) (sX11_init E (D - 1) (by omega) e47) dX12_giveName_51 rfl (by omega) (by decide) cw_X12_23 ⟨wd_66, rfl⟩ rfl (ckT_s e49) rfl (Nat.le_of_ble_eq_true rfl) ?_
        obtain ⟨h50, e51, hf⟩ := obd hf
        refine o_asR dX12_giveName_54 (by decide) e51 ?_
        exact AW.sub [1, 2, 3, 0] rfl (hj55 _ hf)
    · have hf := ifp c hf
      obtain rfl := Option.some.inj hf
      exact a_return dX12_giveName_26 rfl
def fX12_tellName (a0 : Nat) (a1 : Nat) (h : hp) : Option hp :=
  (gfR h a1 5 4).bind fun v1 =>
  (gfR h a0 11 4).bind fun v3 =>
  (gfI h a1 5 1).bind fun v5 =>
  (ckT h a0 11).bind fun _ =>
  (fX12_workOut a0 v1 v3 v5 h).bind fun h8 =>
  (gfI h8 a0 11 17).bind fun v10 =>
  if v10 = 0 then (
    (gfI h8 a1 5 2).bind fun v12 =>
    (gfR h8 a0 11 4).bind fun v14 =>
    (ckT h8 a0 11).bind fun _ =>
    (fX12_giveName a0 v12 v14 h8).bind fun h17 =>
    some h17
  ) else (
    some h8
  )
set_option maxHeartbeats 4000000 in
set_option maxRecDepth 100000 in
theorem sX12_tellName (E : gE) (D : Nat) (hD : 6 ≤ D) {a0 : Nat} {a1 : Nat} {h hz : hp} (hf : fX12_tellName a0 a1 h = some hz) : MC E yX12_tellName cX12_tellName (Option.none : Option Jvm.ClassFile.FieldType) 2 D [.ref a0, .ref a1] h none hz := by
  refine MC.of (by decide +kernel) (Nat.le_of_ble_eq_true rfl) rfl ?_
  unfold fX12_tellName at hf
  show AW E yX12_tellName cX12_tellName (Option.none : Option Jvm.ClassFile.FieldType) 2 D none h hz 0 [(0, .ref a0), (1, .ref a1)] [] h
  refine a_aload_n (q := 0) dX12_tellName_0 rfl rfl ?_
  refine a_aload_n (q := 1) dX12_tellName_1 rfl rfl ?_
  obtain ⟨v1, e2, hf⟩ := obd hf
  refine o_gfR dX12_tellName_2 lk_X12_197 rfl e2 ?_
  refine a_aload_n (q := 0) dX12_tellName_5 rfl rfl ?_
  obtain ⟨v3, e4, hf⟩ := obd hf
  refine o_gfR dX12_tellName_6 lk_X12_24 rfl e4 ?_
  refine a_aload_n (q := 1) dX12_tellName_9 rfl rfl ?_
  obtain ⟨v5, e6, hf⟩ := obd hf
  refine o_gfI dX12_tellName_10 lk_X12_151 rfl e6 ?_
  obtain ⟨_, e9, hf⟩ := obd hf
  obtain ⟨h8, e7, hf⟩ := obd hf
  refine a_callV (as := [.ref v1, .ref v3, .int v5]) (np := 3) (ci := 11) (st := []) (sX12_workOut E (D - 1) (by omega) e7) dX12_tellName_13 rfl (by omega) (by decide) cw_X12_200 ⟨wd_820, ws_35⟩ rfl (ckT_s e9) rfl (Nat.le_of_ble_eq_true rfl) ?_
  refine a_aload_n (q := 0) dX12_tellName_16 rfl rfl ?_
  obtain ⟨v10, e11, hf⟩ := obd hf
  refine o_gfI dX12_tellName_17 lk_X12_81 rfl e11 ?_
  refine a_if_ne (tgt := 35) dX12_tellName_20 (by decide) (fun c => ?_) (fun c => ?_)
  · have hf := ifn c hf
    obtain rfl := Option.some.inj hf
    exact a_return dX12_tellName_35 rfl
  · have hf := ifp c hf
    refine a_aload_n (q := 0) dX12_tellName_23 rfl rfl ?_
    refine a_aload_n (q := 1) dX12_tellName_24 rfl rfl ?_
    obtain ⟨v12, e13, hf⟩ := obd hf
    refine o_gfI dX12_tellName_25 lk_X12_148 rfl e13 ?_
    refine a_aload_n (q := 0) dX12_tellName_28 rfl rfl ?_
    obtain ⟨v14, e15, hf⟩ := obd hf
    refine o_gfR dX12_tellName_29 lk_X12_24 rfl e15 ?_
    obtain ⟨_, e18, hf⟩ := obd hf
    obtain ⟨h17, e16, hf⟩ := obd hf
    refine a_callV (as := [.int v12, .ref v14]) (np := 2) (ci := 11) (st := []) (sX12_giveName E (D - 1) (by omega) e16) dX12_tellName_32 rfl (by omega) (by decide) cw_X12_217 ⟨wd_934, ws_50⟩ rfl (ckT_s e18) rfl (Nat.le_of_ble_eq_true rfl) ?_
    obtain rfl := Option.some.inj hf
    exact a_return dX12_tellName_35 rfl
def fX12_holds (a0 : Nat) (a1 : Nat) (h : hp) : Option (Int32 × hp) :=
  (gfR h a1 5 4).bind fun v1 =>
  (gfR h a0 11 4).bind fun v3 =>
  (gfI h a1 5 1).bind fun v5 =>
  (ckT h a0 11).bind fun _ =>
  (fX12_workOut a0 v1 v3 v5 h).bind fun h8 =>
  (gfI h8 a1 5 3).bind fun v10 =>
  if v10 = 0 then (
    (gfR h8 a0 11 4).bind fun v48 =>
    (ckT h8 v48 10).bind fun _ =>
    bd2 (fX11_isTrue v48 h8) fun v51 h52 =>
    (zck v51).bind fun _ =>
    some (v51, h52)
  ) else (
    (gfI h8 a1 5 3).bind fun v12 =>
    if v12 = 1 then (
      (gfR h8 a0 11 4).bind fun v42 =>
      (ckT h8 v42 10).bind fun _ =>
      bd2 (fX11_isTrue v42 h8) fun v45 h46 =>
      if v45 = 0 then (
        some (1, h46)
      ) else (
        some (0, h46)
      )
    ) else (
      (gfI h8 a0 11 17).bind fun v14 =>
      jn (fun (h78j : hp) => (
        (gfI h78j a0 11 17).bind fun v16 =>
        if v16 = 0 then (
          (gfR h78j a0 11 4).bind fun v18 =>
          (gfR h78j a0 11 5).bind fun v20 =>
          (ckT h78j v18 10).bind fun _ =>
          bd2 (fX11_compareWith v18 v20 h78j) fun v23 h24 =>
          jn (fun (h113j : hp) => (
            (gfI h113j a1 5 3).bind fun v26 =>
            if v26 = 2 then (
              if 0 ≤ v23 then (
                some (0, h113j)
              ) else (
                some (1, h113j)
              )
            ) else (
              if v23 = 0 then (
                some (1, h113j)
              ) else (
                some (0, h113j)
              )
            )
            : Option (Int32 × hp))) fun k113 =>
          if v23 = 2 then (
            (gfI h24 a1 5 1).bind fun v28 =>
            (ckT h24 a0 11).bind fun _ =>
            (fX12_fail a0 v28 2 h24).bind fun h31 =>
            k113 h31
          ) else (
            k113 h24
          )
        ) else (
          some (0, h78j)
        )
        : Option (Int32 × hp))) fun k78 =>
      if v14 = 0 then (
        (gfR h8 a1 5 5).bind fun v33 =>
        (gfR h8 a0 11 5).bind fun v35 =>
        (gfI h8 a1 5 1).bind fun v37 =>
        (ckT h8 a0 11).bind fun _ =>
        (fX12_workOut a0 v33 v35 v37 h8).bind fun h40 =>
        k78 h40
      ) else (
        k78 h8
      )
    )
  )
set_option maxHeartbeats 4000000 in
set_option maxRecDepth 100000 in
theorem sX12_holds (E : gE) (D : Nat) (hD : 6 ≤ D) {a0 : Nat} {a1 : Nat} {h hz : hp} {v0 : Int32} (hf : fX12_holds a0 a1 h = some (v0, hz)) : MC E yX12_holds cX12_holds (Option.some Jvm.ClassFile.FieldType.boolean) 3 D [.ref a0, .ref a1] h (some (.int v0)) hz := by
  refine MC.of (by decide +kernel) (Nat.le_of_ble_eq_true rfl) rfl ?_
  unfold fX12_holds at hf
  show AW E yX12_holds cX12_holds (Option.some Jvm.ClassFile.FieldType.boolean) 3 D (some (.int v0)) h hz 0 [(0, .ref a0), (1, .ref a1)] [] h
  refine a_aload_n (q := 0) dX12_holds_0 rfl rfl ?_
  refine a_aload_n (q := 1) dX12_holds_1 rfl rfl ?_
  obtain ⟨v1, e2, hf⟩ := obd hf
  refine o_gfR dX12_holds_2 lk_X12_197 rfl e2 ?_
  refine a_aload_n (q := 0) dX12_holds_5 rfl rfl ?_
  obtain ⟨v3, e4, hf⟩ := obd hf
  refine o_gfR dX12_holds_6 lk_X12_24 rfl e4 ?_
  refine a_aload_n (q := 1) dX12_holds_9 rfl rfl ?_
  obtain ⟨v5, e6, hf⟩ := obd hf
  refine o_gfI dX12_holds_10 lk_X12_151 rfl e6 ?_
  obtain ⟨_, e9, hf⟩ := obd hf
  obtain ⟨h8, e7, hf⟩ := obd hf
  refine a_callV (as := [.ref v1, .ref v3, .int v5]) (np := 3) (ci := 11) (st := []) (sX12_workOut E (D - 1) (by omega) e7) dX12_holds_13 rfl (by omega) (by decide) cw_X12_200 ⟨wd_820, ws_35⟩ rfl (ckT_s e9) rfl (Nat.le_of_ble_eq_true rfl) ?_
  refine a_aload_n (q := 1) dX12_holds_16 rfl rfl ?_
  obtain ⟨v10, e11, hf⟩ := obd hf
  refine o_gfI dX12_holds_17 lk_X12_259 rfl e11 ?_
  refine a_if_ne (tgt := 31) dX12_holds_20 (by decide) (fun c => ?_) (fun c => ?_)
  · have hf := ifn c hf
    refine a_aload_n (q := 1) dX12_holds_31 rfl rfl ?_
    obtain ⟨v12, e13, hf⟩ := obd hf
    refine o_gfI dX12_holds_32 lk_X12_259 rfl e13 ?_
    refine a_iconst (v := 1) dX12_holds_35 (by decide) ?_
    refine a_icmp_ne (tgt := 55) dX12_holds_36 (by decide) (fun c => ?_) (fun c => ?_)
    · have hf := ifn c hf
      refine a_aload_n (q := 0) dX12_holds_55 rfl rfl ?_
      obtain ⟨v14, e15, hf⟩ := obd hf
      refine o_gfI dX12_holds_56 lk_X12_81 rfl e15 ?_
      obtain ⟨k78, ek78, hf⟩ := jn_s hf
      have hj78 : ∀ (h78j : hp), k78 h78j = some (v0, hz) → AW E yX12_holds cX12_holds (Option.some Jvm.ClassFile.FieldType.boolean) 3 D (some (.int v0)) h hz 78 [(0, .ref a0), (1, .ref a1)] [] h78j := by
        intro h78j hf
        rw [ek78] at hf
        clear ek78
        refine a_aload_n (q := 0) dX12_holds_78 rfl rfl ?_
        obtain ⟨v16, e17, hf⟩ := obd hf
        refine o_gfI dX12_holds_79 lk_X12_81 rfl e17 ?_
        refine a_if_eq (tgt := 87) dX12_holds_82 (by decide) (fun c => ?_) (fun c => ?_)
        · have hf := ifp c hf
          refine a_aload_n (q := 0) dX12_holds_87 rfl rfl ?_
          obtain ⟨v18, e19, hf⟩ := obd hf
          refine o_gfR dX12_holds_88 lk_X12_24 rfl e19 ?_
          refine a_aload_n (q := 0) dX12_holds_91 rfl rfl ?_
          obtain ⟨v20, e21, hf⟩ := obd hf
          refine o_gfR dX12_holds_92 lk_X12_28 rfl e21 ?_
          obtain ⟨_, e25, hf⟩ := obd hf
          obtain ⟨v23, h24, e22, hf⟩ := ob2 hf
          refine a_callV (as := [.ref v20]) (np := 1) (ci := 10) (st := []) (sX11_compareWith E (D - 1) (by omega) e22) dX12_holds_95 rfl (by omega) (by decide) cw_X12_268 ⟨wd_950, wd_951⟩ rfl (ckT_s e25) rfl (Nat.le_of_ble_eq_true rfl) ?_
          refine a_istore_n (lv1 := [(2, .int v23), (0, .ref a0), (1, .ref a1)]) dX12_holds_98 rfl (by decide) rfl ?_
          refine a_iload_n (q := 0) dX12_holds_99 rfl rfl ?_
          refine a_iconst (v := 2) dX12_holds_100 (by decide) ?_
          obtain ⟨k113, ek113, hf⟩ := jn_s hf
          have hj113 : ∀ (h113j : hp), k113 h113j = some (v0, hz) → AW E yX12_holds cX12_holds (Option.some Jvm.ClassFile.FieldType.boolean) 3 D (some (.int v0)) h hz 113 [(1, .ref a1), (2, .int v23)] [] h113j := by
            intro h113j hf
            rw [ek113] at hf
            clear ek113
            refine a_aload_n (q := 0) dX12_holds_113 rfl rfl ?_
            obtain ⟨v26, e27, hf⟩ := obd hf
            refine o_gfI dX12_holds_114 lk_X12_259 rfl e27 ?_
            refine a_iconst (v := 2) dX12_holds_117 (by decide) ?_
            refine a_icmp_ne (tgt := 133) dX12_holds_118 (by decide) (fun c => ?_) (fun c => ?_)
            · have hf := ifn c hf
              refine a_iload_n (q := 1) dX12_holds_133 rfl rfl ?_
              refine a_if_ne (tgt := 141) dX12_holds_134 (by decide) (fun c => ?_) (fun c => ?_)
              · have hf := ifn c hf
                refine a_iconst (v := 0) dX12_holds_141 (by decide) ?_
                obtain ⟨rfl, rfl⟩ := oc2 hf
                exact a_zreturn dX12_holds_142 rfl (by decide)
              · have hf := ifp c hf
                refine a_iconst (v := 1) dX12_holds_137 (by decide) ?_
                refine a_goto (tgt := 142) dX12_holds_138 (by decide) ?_
                obtain ⟨rfl, rfl⟩ := oc2 hf
                exact a_zreturn dX12_holds_142 rfl (by decide)
            · have hf := ifp c hf
              refine a_iload_n (q := 1) dX12_holds_121 rfl rfl ?_
              refine a_if_ge (tgt := 129) dX12_holds_122 (by decide) (fun c => ?_) (fun c => ?_)
              · have hf := ifp c hf
                refine a_iconst (v := 0) dX12_holds_129 (by decide) ?_
                refine a_goto (tgt := 142) dX12_holds_130 (by decide) ?_
                obtain ⟨rfl, rfl⟩ := oc2 hf
                exact a_zreturn dX12_holds_142 rfl (by decide)
              · have hf := ifn c hf
                refine a_iconst (v := 1) dX12_holds_125 (by decide) ?_
                refine a_goto (tgt := 142) dX12_holds_126 (by decide) ?_
                obtain ⟨rfl, rfl⟩ := oc2 hf
                exact a_zreturn dX12_holds_142 rfl (by decide)
          clear ek113
          refine a_icmp_ne (tgt := 113) dX12_holds_101 (by decide) (fun c => ?_) (fun c => ?_)
          · have hf := ifn c hf
            exact AW.sub [2, 0] rfl (hj113 _ hf)
          · have hf := ifp c hf
            refine a_aload_n (q := 1) dX12_holds_104 rfl rfl ?_
            refine a_aload_n (q := 2) dX12_holds_105 rfl rfl ?_
            obtain ⟨v28, e29, hf⟩ := obd hf
            refine o_gfI dX12_holds_106 lk_X12_151 rfl e29 ?_
            refine a_iconst (v := 2) dX12_holds_109 (by decide) ?_
            obtain ⟨_, e32, hf⟩ := obd hf
            obtain ⟨h31, e30, hf⟩ := obd hf
            refine a_callV (as := [.int v28, .int 2]) (np := 2) (ci := 11) (st := []) (sX12_fail E (D - 1) (by omega) e30) dX12_holds_110 rfl (by omega) (by decide) cw_X12_95 ⟨wd_770, ws_29⟩ rfl (ckT_s e32) rfl (Nat.le_of_ble_eq_true rfl) ?_
            exact AW.sub [2, 0] rfl (hj113 _ hf)
        · have hf := ifn c hf
          refine a_iconst (v := 0) dX12_holds_85 (by decide) ?_
          obtain ⟨rfl, rfl⟩ := oc2 hf
          exact a_zreturn dX12_holds_86 rfl (by decide)
      clear ek78
      refine a_if_ne (tgt := 78) dX12_holds_59 (by decide) (fun c => ?_) (fun c => ?_)
      · have hf := ifn c hf
        exact hj78 _ hf
      · have hf := ifp c hf
        refine a_aload_n (q := 0) dX12_holds_62 rfl rfl ?_
        refine a_aload_n (q := 1) dX12_holds_63 rfl rfl ?_
        obtain ⟨v33, e34, hf⟩ := obd hf
        refine o_gfR dX12_holds_64 lk_X12_266 rfl e34 ?_
        refine a_aload_n (q := 0) dX12_holds_67 rfl rfl ?_
        obtain ⟨v35, e36, hf⟩ := obd hf
        refine o_gfR dX12_holds_68 lk_X12_28 rfl e36 ?_
        refine a_aload_n (q := 1) dX12_holds_71 rfl rfl ?_
        obtain ⟨v37, e38, hf⟩ := obd hf
        refine o_gfI dX12_holds_72 lk_X12_151 rfl e38 ?_
        obtain ⟨_, e41, hf⟩ := obd hf
        obtain ⟨h40, e39, hf⟩ := obd hf
        refine a_callV (as := [.ref v33, .ref v35, .int v37]) (np := 3) (ci := 11) (st := []) (sX12_workOut E (D - 1) (by omega) e39) dX12_holds_75 rfl (by omega) (by decide) cw_X12_200 ⟨wd_820, ws_35⟩ rfl (ckT_s e41) rfl (Nat.le_of_ble_eq_true rfl) ?_
        exact hj78 _ hf
    · have hf := ifp c hf
      refine a_aload_n (q := 0) dX12_holds_39 rfl rfl ?_
      obtain ⟨v42, e43, hf⟩ := obd hf
      refine o_gfR dX12_holds_40 lk_X12_24 rfl e43 ?_
      obtain ⟨_, e47, hf⟩ := obd hf
      obtain ⟨v45, h46, e44, hf⟩ := ob2 hf
      refine a_callV (as := []) (np := 0) (ci := 10) (st := []) (sX11_isTrue E (D - 1) (by omega) e44) dX12_holds_43 rfl (by omega) (by decide) cw_X12_262 ⟨wd_383, wd_384⟩ rfl (ckT_s e47) rfl (Nat.le_of_ble_eq_true rfl) ?_
      refine a_if_ne (tgt := 53) dX12_holds_46 (by decide) (fun c => ?_) (fun c => ?_)
      · have hf := ifn c hf
        refine a_iconst (v := 0) dX12_holds_53 (by decide) ?_
        obtain ⟨rfl, rfl⟩ := oc2 hf
        exact a_zreturn dX12_holds_54 rfl (by decide)
      · have hf := ifp c hf
        refine a_iconst (v := 1) dX12_holds_49 (by decide) ?_
        refine a_goto (tgt := 54) dX12_holds_50 (by decide) ?_
        obtain ⟨rfl, rfl⟩ := oc2 hf
        exact a_zreturn dX12_holds_54 rfl (by decide)
  · have hf := ifp c hf
    refine a_aload_n (q := 0) dX12_holds_23 rfl rfl ?_
    obtain ⟨v48, e49, hf⟩ := obd hf
    refine o_gfR dX12_holds_24 lk_X12_24 rfl e49 ?_
    obtain ⟨_, e53, hf⟩ := obd hf
    obtain ⟨v51, h52, e50, hf⟩ := ob2 hf
    refine a_callV (as := []) (np := 0) (ci := 10) (st := []) (sX11_isTrue E (D - 1) (by omega) e50) dX12_holds_27 rfl (by omega) (by decide) cw_X12_262 ⟨wd_383, wd_384⟩ rfl (ckT_s e53) rfl (Nat.le_of_ble_eq_true rfl) ?_
    obtain ⟨_, e54, hf⟩ := obd hf
    obtain ⟨rfl, rfl⟩ := oc2 hf
    exact a_zreturn dX12_holds_30 rfl (zck_s e54)

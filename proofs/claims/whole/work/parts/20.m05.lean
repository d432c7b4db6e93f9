def fX11_sortItems_l12 : Nat → Nat → Int32 → Int32 → hp → Option hp
  | 0, _, _, _, _ => none
  | n + 1, x0, x1, x2, h =>
    if x2 ≤ 0 then (
      some (h)
    ) else (
      (ckT h x0 10).bind fun _ =>
      bd2 (fX11_at x0 x2 h) fun v2 h3 =>
      (ckT h3 x0 10).bind fun _ =>
      bd2 (fX11_at x0 (x2 - 1) h3) fun v6 h7 =>
      if v6 ≤ v2 then (
        some (h7)
      ) else (
        (ckT h7 x0 10).bind fun _ =>
        (fX11_exchange x0 x2 (x2 - 1) h7).bind fun h10 =>
        fX11_sortItems_l12 n x0 x1 (x2 + (-1)) h10
      )
    )
def fX11_sortItems_l2 : Nat → Nat → Int32 → hp → Option hp
  | 0, _, _, _ => none
  | n + 1, x0, x1, h =>
    (gfI h x0 10 3).bind fun v1 =>
    if v1 ≤ x1 then (
      some (h)
    ) else (
      (fX11_sortItems_l12 FU x0 x1 x1 h).bind fun h4 =>
      fX11_sortItems_l2 n x0 (x1 + 1) h4
    )
def fX11_sortItems (a0 : Nat) (h : hp) : Option hp :=
  (fX11_sortItems_l2 FU a0 1 h).bind fun h2 =>
  some h2
set_option maxHeartbeats 4000000 in
set_option maxRecDepth 100000 in
theorem sX11_sortItems_l12 (E : gE) (D : Nat) (hD : 1 ≤ D) {rz : Option Value} {h0 hz : hp} : ∀ (n : Nat) (x0 : Nat) (x1 : Int32) (x2 : Int32) (h : hp) (hq : hp), fX11_sortItems_l12 n x0 x1 x2 h = some hq → (AW E yX11_sortItems cX11_sortItems (Option.none : Option Jvm.ClassFile.FieldType) 3 D rz h0 hz 45 [(0, .ref x0), (1, .int x1)] [] hq) → AW E yX11_sortItems cX11_sortItems (Option.none : Option Jvm.ClassFile.FieldType) 3 D rz h0 hz 12 [(0, .ref x0), (1, .int x1), (2, .int x2)] [] h := by
  intro n
  induction n with
  | zero =>
    intro x0 x1 x2 h hq hf _
    rw [fX11_sortItems_l12] at hf
    cases hf
  | succ n ih =>
    intro x0 x1 x2 h hq hf hk0
    rw [fX11_sortItems_l12] at hf
    refine a_iload_n (q := 2) dX11_sortItems_12 rfl rfl ?_
    refine a_if_le (tgt := 45) dX11_sortItems_13 (by decide) (fun c => ?_) (fun c => ?_)
    · have hf := ifp c hf
      obtain rfl := Option.some.inj hf
      exact AW.sub [0, 1] rfl (hk0)
    · have hf := ifn c hf
      refine a_aload_n (q := 0) dX11_sortItems_16 rfl rfl ?_
      refine a_iload_n (q := 2) dX11_sortItems_17 rfl rfl ?_
      obtain ⟨_, e4, hf⟩ := obd hf
      obtain ⟨v2, h3, e1, hf⟩ := ob2 hf
      refine a_callV (as := [.int x2]) (np := 1) (ci := 10) (st := []) (sX11_at E (D - 1) (by omega) e1) dX11_sortItems_18 rfl (by omega) (by decide) cw_X11_96 ⟨wd_338, wd_339⟩ rfl (ckT_s e4) rfl (Nat.le_of_ble_eq_true rfl) ?_
      refine a_aload_n (q := 0) dX11_sortItems_21 rfl rfl ?_
      refine a_iload_n (q := 2) dX11_sortItems_22 rfl rfl ?_
      refine a_iconst (v := 1) dX11_sortItems_23 (by decide) ?_
      refine a_isub dX11_sortItems_24 ?_
      obtain ⟨_, e8, hf⟩ := obd hf
      obtain ⟨v6, h7, e5, hf⟩ := ob2 hf
      refine a_callV (as := [.int (x2 - 1)]) (np := 1) (ci := 10) (st := [.int v2]) (sX11_at E (D - 1) (by omega) e5) dX11_sortItems_25 rfl (by omega) (by decide) cw_X11_96 ⟨wd_338, wd_339⟩ rfl (ckT_s e8) rfl (Nat.le_of_ble_eq_true rfl) ?_
      refine a_icmp_ge (tgt := 45) dX11_sortItems_28 (by decide) (fun c => ?_) (fun c => ?_)
      · have hf := ifp c hf
        obtain rfl := Option.some.inj hf
        exact AW.sub [0, 1] rfl (hk0)
      · have hf := ifn c hf
        refine a_aload_n (q := 0) dX11_sortItems_31 rfl rfl ?_
        refine a_iload_n (q := 2) dX11_sortItems_32 rfl rfl ?_
        refine a_iload_n (q := 2) dX11_sortItems_33 rfl rfl ?_
        refine a_iconst (v := 1) dX11_sortItems_34 (by decide) ?_
        refine a_isub dX11_sortItems_35 ?_
        obtain ⟨_, e11, hf⟩ := obd hf
        obtain ⟨h10, e9, hf⟩ := obd hf
        refine a_callV (as := [.int x2, .int (x2 - 1)]) (np := 2) (ci := 10) (st := []) (sX11_exchange E (D - 1) (by omega) e9) dX11_sortItems_36 rfl (by omega) (by decide) cw_X11_191 ⟨wd_893, ws_43⟩ rfl (ckT_s e11) rfl (Nat.le_of_ble_eq_true rfl) ?_
        refine a_iinc (q := 2) (v := (x2 + (-1))) (lv1 := [(2, .int (x2 + (-1))), (0, .ref x0), (1, .int x1)]) dX11_sortItems_39 rfl (by rfl) (by decide) rfl ?_
        refine a_goto (tgt := 12) dX11_sortItems_42 (by decide) ?_
        exact AW.sub [1, 2, 0] rfl (ih _ _ _ _ _ hf hk0)
set_option maxHeartbeats 4000000 in
set_option maxRecDepth 100000 in
theorem sX11_sortItems_l2 (E : gE) (D : Nat) (hD : 1 ≤ D) {rz : Option Value} {h0 hz : hp} : ∀ (n : Nat) (x0 : Nat) (x1 : Int32) (h : hp) (hq : hp), fX11_sortItems_l2 n x0 x1 h = some hq → (AW E yX11_sortItems cX11_sortItems (Option.none : Option Jvm.ClassFile.FieldType) 3 D rz h0 hz 51 [] [] hq) → AW E yX11_sortItems cX11_sortItems (Option.none : Option Jvm.ClassFile.FieldType) 3 D rz h0 hz 2 [(0, .ref x0), (1, .int x1)] [] h := by
  intro n
  induction n with
  | zero =>
    intro x0 x1 h hq hf _
    rw [fX11_sortItems_l2] at hf
    cases hf
  | succ n ih =>
    intro x0 x1 h hq hf hk0
    rw [fX11_sortItems_l2] at hf
    refine a_iload_n (q := 1) dX11_sortItems_2 rfl rfl ?_
    refine a_aload_n (q := 0) dX11_sortItems_3 rfl rfl ?_
    obtain ⟨v1, e2, hf⟩ := obd hf
    refine o_gfI dX11_sortItems_4 lk_X11_19 rfl e2 ?_
    refine a_icmp_ge (tgt := 51) dX11_sortItems_7 (by decide) (fun c => ?_) (fun c => ?_)
    · have hf := ifp c hf
      obtain rfl := Option.some.inj hf
      exact AW.sub [] rfl (hk0)
    · have hf := ifn c hf
      refine a_iload_n (q := 1) dX11_sortItems_10 rfl rfl ?_
      refine a_istore_n (lv1 := [(2, .int x1), (0, .ref x0), (1, .int x1)]) dX11_sortItems_11 rfl (by decide) rfl ?_
      obtain ⟨h4, e3, hf⟩ := obd hf
      refine AW.sub [1, 2, 0] rfl (sX11_sortItems_l12 E D hD _ _ _ _ _ _ e3 ?_)
      refine a_iinc (q := 1) (v := (x1 + 1)) (lv1 := [(1, .int (x1 + 1)), (0, .ref x0)]) dX11_sortItems_45 rfl (by rfl) (by decide) rfl ?_
      refine a_goto (tgt := 2) dX11_sortItems_48 (by decide) ?_
      exact AW.sub [1, 0] rfl (ih _ _ _ _ hf hk0)
set_option maxHeartbeats 4000000 in
set_option maxRecDepth 100000 in
theorem sX11_sortItems (E : gE) (D : Nat) (hD : 1 ≤ D) {a0 : Nat} {h hz : hp} (hf : fX11_sortItems a0 h = some hz) : MC E yX11_sortItems cX11_sortItems (Option.none : Option Jvm.ClassFile.FieldType) 3 D [.ref a0] h none hz := by
  refine MC.of (by decide +kernel) (Nat.le_of_ble_eq_true rfl) rfl ?_
  unfold fX11_sortItems at hf
  show AW E yX11_sortItems cX11_sortItems (Option.none : Option Jvm.ClassFile.FieldType) 3 D none h hz 0 [(0, .ref a0)] [] h
  refine a_iconst (v := 1) dX11_sortItems_0 (by decide) ?_
  refine a_istore_n (lv1 := [(1, .int 1), (0, .ref a0)]) dX11_sortItems_1 rfl (by decide) rfl ?_
  obtain ⟨h2, e1, hf⟩ := obd hf
  refine AW.sub [1, 0] rfl (sX11_sortItems_l2 E D hD _ _ _ _ _ e1 ?_)
  obtain rfl := Option.some.inj hf
  exact a_return dX11_sortItems_51 rfl
def fX11_sumOfItems_l4 : Nat → Nat → Int64 → Int32 → hp → Option (Int64 × hp)
  | 0, _, _, _, _ => none
  | n + 1, x0, x1, x3, h =>
    (gfI h x0 10 3).bind fun v1 =>
    if v1 ≤ x3 then (
      some (x1, h)
    ) else (
      (ckT h x0 10).bind fun _ =>
      bd2 (fX11_at x0 x3 h) fun v4 h5 =>
      fX11_sumOfItems_l4 n x0 (x1 + (v4.toInt64)) (x3 + 1) h5
    )
def fX11_sumOfItems (a0 : Nat) (h : hp) : Option (Int64 × hp) :=
  bd2 (fX11_sumOfItems_l4 FU a0 0 0 h) fun v3 h2 =>
  some (v3, h2)
set_option maxHeartbeats 4000000 in
set_option maxRecDepth 100000 in
theorem sX11_sumOfItems_l4 (E : gE) (D : Nat) (hD : 1 ≤ D) {rz : Option Value} {h0 hz : hp} : ∀ (n : Nat) (x0 : Nat) (x1 : Int64) (x3 : Int32) (h : hp) (m1 : Int64) (hq : hp), fX11_sumOfItems_l4 n x0 x1 x3 h = some (m1, hq) → (AW E yX11_sumOfItems cX11_sumOfItems (Option.some Jvm.ClassFile.FieldType.long) 4 D rz h0 hz 27 [(1, .long m1)] [] hq) → AW E yX11_sumOfItems cX11_sumOfItems (Option.some Jvm.ClassFile.FieldType.long) 4 D rz h0 hz 4 [(0, .ref x0), (1, .long x1), (3, .int x3)] [] h := by
  intro n
  induction n with
  | zero =>
    intro x0 x1 x3 h m1 hq hf _
    rw [fX11_sumOfItems_l4] at hf
    cases hf
  | succ n ih =>
    intro x0 x1 x3 h m1 hq hf hk0
    rw [fX11_sumOfItems_l4] at hf
    refine a_iload_n (q := 2) dX11_sumOfItems_4 rfl rfl ?_
    refine a_aload_n (q := 0) dX11_sumOfItems_5 rfl rfl ?_
    obtain ⟨v1, e2, hf⟩ := obd hf
    refine o_gfI dX11_sumOfItems_6 lk_X11_19 rfl e2 ?_
    refine a_icmp_ge (tgt := 27) dX11_sumOfItems_9 (by decide) (fun c => ?_) (fun c => ?_)
    · have hf := ifp c hf
      obtain ⟨rfl, rfl⟩ := oc2 hf
      exact AW.sub [1] rfl (hk0)
    · have hf := ifn c hf
      refine a_lload_n (q := 1) dX11_sumOfItems_12 rfl rfl ?_
      refine a_aload_n (q := 0) dX11_sumOfItems_13 rfl rfl ?_
      refine a_iload_n (q := 2) dX11_sumOfItems_14 rfl rfl ?_
      obtain ⟨_, e6, hf⟩ := obd hf
      obtain ⟨v4, h5, e3, hf⟩ := ob2 hf
      refine a_callV (as := [.int x3]) (np := 1) (ci := 10) (st := [.long x1]) (sX11_at E (D - 1) (by omega) e3) dX11_sumOfItems_15 rfl (by omega) (by decide) cw_X11_96 ⟨wd_338, wd_339⟩ rfl (ckT_s e6) rfl (Nat.le_of_ble_eq_true rfl) ?_
      refine a_i2l dX11_sumOfItems_18 rfl ?_
      refine a_ladd dX11_sumOfItems_19 ?_
      refine a_lstore_n (lv1 := [(1, .long (x1 + (v4.toInt64))), (0, .ref x0), (3, .int x3)]) dX11_sumOfItems_20 rfl (by decide) rfl ?_
      refine a_iinc (q := 2) (v := (x3 + 1)) (lv1 := [(3, .int (x3 + 1)), (1, .long (x1 + (v4.toInt64))), (0, .ref x0)]) dX11_sumOfItems_21 rfl (by rfl) (by decide) rfl ?_
      refine a_goto (tgt := 4) dX11_sumOfItems_24 (by decide) ?_
      exact AW.sub [2, 1, 0] rfl (ih _ _ _ _ _ _ hf hk0)
set_option maxHeartbeats 4000000 in
set_option maxRecDepth 100000 in
theorem sX11_sumOfItems (E : gE) (D : Nat) (hD : 1 ≤ D) {a0 : Nat} {h hz : hp} {v0 : Int64} (hf : fX11_sumOfItems a0 h = some (v0, hz)) : MC E yX11_sumOfItems cX11_sumOfItems (Option.some Jvm.ClassFile.FieldType.long) 4 D [.ref a0] h (some (.long v0)) hz := by
  refine MC.of (by decide +kernel) (Nat.le_of_ble_eq_true rfl) rfl ?_
  unfold fX11_sumOfItems at hf
  show AW E yX11_sumOfItems cX11_sumOfItems (Option.some Jvm.ClassFile.FieldType.long) 4 D (some (.long v0)) h hz 0 [(0, .ref a0)] [] h
  refine a_lconst (v := 0) dX11_sumOfItems_0 (by decide) ?_
  refine a_lstore_n (lv1 := [(1, .long 0), (0, .ref a0)]) dX11_sumOfItems_1 rfl (by decide) rfl ?_
  refine a_iconst (v := 0) dX11_sumOfItems_2 (by decide) ?_
  refine a_istore_n (lv1 := [(3, .int 0), (1, .long 0), (0, .ref a0)]) dX11_sumOfItems_3 rfl (by decide) rfl ?_
  obtain ⟨v3, h2, e1, hf⟩ := ob2 hf
  refine AW.sub [2, 1, 0] rfl (sX11_sumOfItems_l4 E D hD _ _ _ _ _ _ _ e1 ?_)
  refine a_lload_n (q := 0) dX11_sumOfItems_27 rfl rfl ?_
  obtain ⟨rfl, rfl⟩ := oc2 hf
  exact a_lreturn dX11_sumOfItems_28 rfl
def fX11_filterList (a0 : Nat) (a1 : Nat) (a2 : Int32) (h : hp) : Option (Int32 × hp) :=
  (ckE a1).bind fun _ =>
  (gsO a1).bind fun v3 =>
  (alS 20 v3).bind fun v4 =>
  if v4 = 11 then (
    (ckT h a0 10).bind fun _ =>
    bd2 (fX11_becomeItem a0 0 h) fun v7 h8 =>
    some (v7, h8)
  ) else (
  if v4 = 12 then (
    (gfI h a0 10 3).bind fun v10 =>
    (ckT h a0 10).bind fun _ =>
    bd2 (fX11_becomeItem a0 (v10 - 1) h) fun v13 h14 =>
    some (v13, h14)
  ) else (
  if v4 = 13 then (
    (ckT h a0 10).bind fun _ =>
    bd2 (fX11_sumOfItems a0 h) fun v17 h18 =>
    (ckT h18 a0 10).bind fun _ =>
    bd2 (fX11_becomeCounted a0 v17 h18) fun v21 h22 =>
    some (v21, h22)
  ) else (
  if v4 = 14 then (
    (ckT h a0 10).bind fun _ =>
    (fX11_sortItems a0 h).bind fun h25 =>
    some (0, h25)
  ) else (
    (ckT h a0 10).bind fun _ =>
    bd2 (fX11_filterItems a0 a1 a2 h) fun v28 h29 =>
    some (v28, h29)
  ))))
set_option maxHeartbeats 4000000 in
set_option maxRecDepth 100000 in
theorem sX11_filterList (E : gE) (D : Nat) (hD : 3 ≤ D) {a0 : Nat} {a1 : Nat} {a2 : Int32} {h hz : hp} {v0 : Int32} (hf : fX11_filterList a0 a1 a2 h = some (v0, hz)) : MC E yX11_filterList cX11_filterList (Option.some Jvm.ClassFile.FieldType.int) 3 D [.ref a0, .ref a1, .int a2] h (some (.int v0)) hz := by
  refine MC.of (by decide +kernel) (Nat.le_of_ble_eq_true rfl) rfl ?_
  unfold fX11_filterList at hf
  show AW E yX11_filterList cX11_filterList (Option.some Jvm.ClassFile.FieldType.int) 3 D (some (.int v0)) h hz 0 [(0, .ref a0), (1, .ref a1), (2, .int a2)] [] h
  refine o_gz (id := 20) dX11_filterList_0 wd_842 (by decide) (by decide) (fun _ _ z => z.2.2.2.2.2.1) ?_
  refine a_aload_n (q := 1) dX11_filterList_3 rfl rfl ?_
  obtain ⟨_, e1, hf⟩ := obd hf
  obtain ⟨v3, e2, hf⟩ := obd hf
  refine o_ord (sJx29ce0_ordinal_8abf5 E (D - 1) (by omega) (by unfold fJx29ce0_ordinal_8abf5; rw [e2]; rfl)) dX11_filterList_4 (by omega) (by decide) rfl rfl wd_844 wd_845 wd_847 wd_848 wd_15 wd_849 e1 (Nat.le_of_ble_eq_true rfl) ?_
  obtain ⟨v4, e5, hf⟩ := obd hf
  refine o_alS dX11_filterList_7 e5 ?_
  by_cases c8_0 : v4 = 11
  · have hf := ifp c8_0 hf
    refine a_tblIn (k := 11) (off := 32) (tgt := 40) dX11_filterList_8 c8_0 (by decide) (by decide) rfl (by decide) ?_
    refine a_aload_n (q := 0) dX11_filterList_40 rfl rfl ?_
    refine a_iconst (v := 0) dX11_filterList_41 (by decide) ?_
    obtain ⟨_, e9, hf⟩ := obd hf
    obtain ⟨v7, h8, e6, hf⟩ := ob2 hf
    refine a_callV (as := [.int 0]) (np := 1) (ci := 10) (st := []) (sX11_becomeItem E (D - 1) (by omega) e6) dX11_filterList_42 rfl (by omega) (by decide) cw_X11_181 ⟨wd_901, ws_45⟩ rfl (ckT_s e9) rfl (Nat.le_of_ble_eq_true rfl) ?_
    obtain ⟨rfl, rfl⟩ := oc2 hf
    exact a_ireturn dX11_filterList_45 rfl
  have hf := ifn c8_0 hf
  by_cases c8_1 : v4 = 12
  · have hf := ifp c8_1 hf
    refine a_tblIn (k := 12) (off := 38) (tgt := 46) dX11_filterList_8 c8_1 (by decide) (by decide) rfl (by decide) ?_
    refine a_aload_n (q := 0) dX11_filterList_46 rfl rfl ?_
    refine a_aload_n (q := 0) dX11_filterList_47 rfl rfl ?_
    obtain ⟨v10, e11, hf⟩ := obd hf
    refine o_gfI dX11_filterList_48 lk_X11_19 rfl e11 ?_
    refine a_iconst (v := 1) dX11_filterList_51 (by decide) ?_
    refine a_isub dX11_filterList_52 ?_
    obtain ⟨_, e15, hf⟩ := obd hf
    obtain ⟨v13, h14, e12, hf⟩ := ob2 hf
    refine a_callV (as := [.int (v10 - 1)]) (np := 1) (ci := 10) (st := []) (sX11_becomeItem E (D - 1) (by omega) e12) dX11_filterList_53 rfl (by omega) (by decide) cw_X11_181 ⟨wd_901, ws_45⟩ rfl (ckT_s e15) rfl (Nat.le_of_ble_eq_true rfl) ?_
    obtain ⟨rfl, rfl⟩ := oc2 hf
    exact a_ireturn dX11_filterList_56 rfl
  have hf := ifn c8_1 hf
  by_cases c8_2 : v4 = 13
  · have hf := ifp c8_2 hf
    refine a_tblIn (k := 13) (off := 49) (tgt := 57) dX11_filterList_8 c8_2 (by decide) (by decide) rfl (by decide) ?_
    refine a_aload_n (q := 0) dX11_filterList_57 rfl rfl ?_
    refine a_aload_n (q := 0) dX11_filterList_58 rfl rfl ?_
    obtain ⟨_, e19, hf⟩ := obd hf
    obtain ⟨v17, h18, e16, hf⟩ := ob2 hf
    refine a_callV (as := []) (np := 0) (ci := 10) (st := [.ref a0]) (sX11_sumOfItems E (D - 1) (by omega) e16) dX11_filterList_59 rfl (by omega) (by decide) cw_X11_184 ⟨wd_907, ws_46⟩ rfl (ckT_s e19) rfl (Nat.le_of_ble_eq_true rfl) ?_
    obtain ⟨_, e23, hf⟩ := obd hf
    obtain ⟨v21, h22, e20, hf⟩ := ob2 hf
    refine a_callV (as := [.long v17]) (np := 1) (ci := 10) (st := []) (sX11_becomeCounted E (D - 1) (by omega) e20) dX11_filterList_62 rfl (by omega) (by decide) cw_X11_153 ⟨wd_852, ws_37⟩ rfl (ckT_s e23) rfl (Nat.le_of_ble_eq_true rfl) ?_
    obtain ⟨rfl, rfl⟩ := oc2 hf
    exact a_ireturn dX11_filterList_65 rfl
  have hf := ifn c8_2 hf
  by_cases c8_3 : v4 = 14
  · have hf := ifp c8_3 hf
    refine a_tblIn (k := 14) (off := 58) (tgt := 66) dX11_filterList_8 c8_3 (by decide) (by decide) rfl (by decide) ?_
    refine a_aload_n (q := 0) dX11_filterList_66 rfl rfl ?_
    obtain ⟨_, e26, hf⟩ := obd hf
    obtain ⟨h25, e24, hf⟩ := obd hf
    refine a_callV (as := []) (np := 0) (ci := 10) (st := []) (sX11_sortItems E (D - 1) (by omega) e24) dX11_filterList_67 rfl (by omega) (by decide) cw_X11_188 ⟨wd_911, ws_47⟩ rfl (ckT_s e26) rfl (Nat.le_of_ble_eq_true rfl) ?_
    refine a_iconst (v := 0) dX11_filterList_70 (by decide) ?_
    obtain ⟨rfl, rfl⟩ := oc2 hf
    exact a_ireturn dX11_filterList_71 rfl
  have hf := ifn c8_3 hf
  have t8_0 := lv_neT (a := 11) c8_0 rfl
  have t8_1 := lv_neT (a := 12) c8_1 rfl
  have t8_2 := lv_neT (a := 13) c8_2 rfl
  have t8_3 := lv_neT (a := 14) c8_3 rfl
  refine a_tblOut (tgt := 72) dX11_filterList_8 (by omega) (by decide) ?_
  refine a_aload_n (q := 0) dX11_filterList_72 rfl rfl ?_
  refine a_aload_n (q := 1) dX11_filterList_73 rfl rfl ?_
  refine a_iload_n (q := 2) dX11_filterList_74 rfl rfl ?_
  obtain ⟨_, e30, hf⟩ := obd hf
  obtain ⟨v28, h29, e27, hf⟩ := ob2 hf
  refine a_callV (as := [.ref a1, .int a2]) (np := 2) (ci := 10) (st := []) (sX11_filterItems E (D - 1) (by omega) e27) dX11_filterList_75 rfl (by omega) (by decide) cw_X11_178 ⟨wd_889, ws_42⟩ rfl (ckT_s e30) rfl (Nat.le_of_ble_eq_true rfl) ?_
  obtain ⟨rfl, rfl⟩ := oc2 hf
  exact a_ireturn dX11_filterList_78 rfl
def fX11_filterReal (a0 : Nat) (a1 : Nat) (a2 : Int32) (h : hp) : Option (Int32 × hp) :=
  (ckE a1).bind fun _ =>
  (gsO a1).bind fun v3 =>
  (alS 20 v3).bind fun v4 =>
  if v4 = 1 then (
    (gfF h a0 10 2).bind fun v6 =>
    (fnn (FP.fadd v6 (FP.i2f a2))).bind fun v8 =>
    (ckT h a0 10).bind fun _ =>
    (fX11_becomeReal a0 v8 h).bind fun h11 =>
    some (0, h11)
  ) else (
  if v4 = 2 then (
    (gfF h a0 10 2).bind fun v13 =>
    (fnn (FP.fmul v13 (FP.i2f a2))).bind fun v15 =>
    (ckT h a0 10).bind fun _ =>
    (fX11_becomeReal a0 v15 h).bind fun h18 =>
    some (0, h18)
  ) else (
  if v4 = 3 then (
    (gfF h a0 10 2).bind fun v20 =>
    (fnn (FP.fmul v20 1056964608)).bind fun v22 =>
    (ckT h a0 10).bind fun _ =>
    (fX11_becomeReal a0 v22 h).bind fun h25 =>
    some (0, h25)
  ) else (
  if v4 = 4 then (
    (gfF h a0 10 2).bind fun v27 =>
    (fnn (FP.fdiv v27 1077936128)).bind fun v29 =>
    (ckT h a0 10).bind fun _ =>
    (fX11_becomeReal a0 v29 h).bind fun h32 =>
    some (0, h32)
  ) else (
  if v4 = 5 then (
    (gfF h a0 10 2).bind fun v34 =>
    (ckT h a0 10).bind fun _ =>
    bd2 (fX11_becomeCounted a0 ((FP.f2i v34).toInt64) h) fun v37 h38 =>
    some (v37, h38)
  ) else (
  if v4 = 6 then (
    some (0, h)
  ) else (
  if v4 = 7 then (
    (gfF h a0 10 2).bind fun v40 =>
    bd2 (fX11_bitsOf v40 h) fun v43 h44 =>
    (dvI v43 4096).bind fun v45 =>
    (ckT h44 a0 10).bind fun _ =>
    bd2 (fX11_becomeCounted a0 (v45.toInt64) h44) fun v48 h49 =>
    some (v48, h49)
  ) else (
    some (2, h)
  )))))))
set_option maxHeartbeats 4000000 in
set_option maxRecDepth 100000 in
theorem sX11_filterReal (E : gE) (D : Nat) (hD : 2 ≤ D) {a0 : Nat} {a1 : Nat} {a2 : Int32} {h hz : hp} {v0 : Int32} (hf : fX11_filterReal a0 a1 a2 h = some (v0, hz)) : MC E yX11_filterReal cX11_filterReal (Option.some Jvm.ClassFile.FieldType.int) 3 D [.ref a0, .ref a1, .int a2] h (some (.int v0)) hz := by
  refine MC.of (by decide +kernel) (Nat.le_of_ble_eq_true rfl) rfl ?_
  unfold fX11_filterReal at hf
  show AW E yX11_filterReal cX11_filterReal (Option.some Jvm.ClassFile.FieldType.int) 3 D (some (.int v0)) h hz 0 [(0, .ref a0), (1, .ref a1), (2, .int a2)] [] h
  refine o_gz (id := 20) dX11_filterReal_0 wd_842 (by decide) (by decide) (fun _ _ z => z.2.2.2.2.2.1) ?_
  refine a_aload_n (q := 1) dX11_filterReal_3 rfl rfl ?_
  obtain ⟨_, e1, hf⟩ := obd hf
  obtain ⟨v3, e2, hf⟩ := obd hf
  refine o_ord (sJx29ce0_ordinal_8abf5 E (D - 1) (by omega) (by unfold fJx29ce0_ordinal_8abf5; rw [e2]; rfl)) dX11_filterReal_4 (by omega) (by decide) rfl rfl wd_844 wd_845 wd_847 wd_848 wd_15 wd_849 e1 (Nat.le_of_ble_eq_true rfl) ?_
  obtain ⟨v4, e5, hf⟩ := obd hf
  refine o_alS dX11_filterReal_7 e5 ?_
  by_cases c8_0 : v4 = 1
  · have hf := ifp c8_0 hf
    refine a_tblIn (k := 1) (off := 44) (tgt := 52) dX11_filterReal_8 c8_0 (by decide) (by decide) rfl (by decide) ?_
    refine a_aload_n (q := 0) dX11_filterReal_52 rfl rfl ?_
    refine a_aload_n (q := 0) dX11_filterReal_53 rfl rfl ?_
    obtain ⟨v6, e7, hf⟩ := obd hf
    refine o_gfF dX11_filterReal_54 lk_X11_29 rfl e7 ?_
    refine a_iload_n (q := 2) dX11_filterReal_57 rfl rfl ?_
    refine a_i2f dX11_filterReal_58 ?_
    obtain ⟨v8, e9, hf⟩ := obd hf
    refine o_fadd dX11_filterReal_59 e9 ?_
    obtain ⟨_, e12, hf⟩ := obd hf
    obtain ⟨h11, e10, hf⟩ := obd hf
    refine a_callV (as := [.float v8]) (np := 1) (ci := 10) (st := []) (sX11_becomeReal E (D - 1) (by omega) e10) dX11_filterReal_60 rfl (by omega) (by decide) cw_X11_158 ⟨wd_292, wd_293⟩ rfl (ckT_s e12) rfl (Nat.le_of_ble_eq_true rfl) ?_
    refine a_iconst (v := 0) dX11_filterReal_63 (by decide) ?_
    obtain ⟨rfl, rfl⟩ := oc2 hf
    exact a_ireturn dX11_filterReal_64 rfl
  have hf := ifn c8_0 hf
  by_cases c8_1 : v4 = 2
  · have hf := ifp c8_1 hf
    refine a_tblIn (k := 2) (off := 57) (tgt := 65) dX11_filterReal_8 c8_1 (by decide) (by decide) rfl (by decide) ?_
    refine a_aload_n (q := 0) dX11_filterReal_65 rfl rfl ?_
    refine a_aload_n (q := 0) dX11_filterReal_66 rfl rfl ?_
    obtain ⟨v13, e14, hf⟩ := obd hf
    refine o_gfF dX11_filterReal_67 lk_X11_29 rfl e14 ?_
    refine a_iload_n (q := 2) dX11_filterReal_70 rfl rfl ?_
    refine a_i2f dX11_filterReal_71 ?_
    obtain ⟨v15, e16, hf⟩ := obd hf
    refine o_fmul dX11_filterReal_72 e16 ?_
    obtain ⟨_, e19, hf⟩ := obd hf
    obtain ⟨h18, e17, hf⟩ := obd hf
    refine a_callV (as := [.float v15]) (np := 1) (ci := 10) (st := []) (sX11_becomeReal E (D - 1) (by omega) e17) dX11_filterReal_73 rfl (by omega) (by decide) cw_X11_158 ⟨wd_292, wd_293⟩ rfl (ckT_s e19) rfl (Nat.le_of_ble_eq_true rfl) ?_
    refine a_iconst (v := 0) dX11_filterReal_76 (by decide) ?_
    obtain ⟨rfl, rfl⟩ := oc2 hf
    exact a_ireturn dX11_filterReal_77 rfl
  have hf := ifn c8_1 hf
  by_cases c8_2 : v4 = 3
  · have hf := ifp c8_2 hf
    refine a_tblIn (k := 3) (off := 70) (tgt := 78) dX11_filterReal_8 c8_2 (by decide) (by decide) rfl (by decide) ?_
    refine a_aload_n (q := 0) dX11_filterReal_78 rfl rfl ?_
    refine a_aload_n (q := 0) dX11_filterReal_79 rfl rfl ?_
    obtain ⟨v20, e21, hf⟩ := obd hf
    refine o_gfF dX11_filterReal_80 lk_X11_29 rfl e21 ?_
    refine a_ldcf (v := 1056964608) dX11_filterReal_83 wd_866 ?_
    obtain ⟨v22, e23, hf⟩ := obd hf
    refine o_fmul dX11_filterReal_85 e23 ?_
    obtain ⟨_, e26, hf⟩ := obd hf
    obtain ⟨h25, e24, hf⟩ := obd hf
    refine a_callV (as := [.float v22]) (np := 1) (ci := 10) (st := []) (sX11_becomeReal E (D - 1) (by omega) e24) dX11_filterReal_86 rfl (by omega) (by decide) cw_X11_158 ⟨wd_292, wd_293⟩ rfl (ckT_s e26) rfl (Nat.le_of_ble_eq_true rfl) ?_
    refine a_iconst (v := 0) dX11_filterReal_89 (by decide) ?_
    obtain ⟨rfl, rfl⟩ := oc2 hf
    exact a_ireturn dX11_filterReal_90 rfl
  have hf := ifn c8_2 hf
  by_cases c8_3 : v4 = 4
  · have hf := ifp c8_3 hf
    refine a_tblIn (k := 4) (off := 83) (tgt := 91) dX11_filterReal_8 c8_3 (by decide) (by decide) rfl (by decide) ?_
    refine a_aload_n (q := 0) dX11_filterReal_91 rfl rfl ?_
    refine a_aload_n (q := 0) dX11_filterReal_92 rfl rfl ?_
    obtain ⟨v27, e28, hf⟩ := obd hf
    refine o_gfF dX11_filterReal_93 lk_X11_29 rfl e28 ?_
    refine a_ldcf (v := 1077936128) dX11_filterReal_96 wd_855 ?_
    obtain ⟨v29, e30, hf⟩ := obd hf
    refine o_fdiv dX11_filterReal_98 e30 ?_
    obtain ⟨_, e33, hf⟩ := obd hf
    obtain ⟨h32, e31, hf⟩ := obd hf
    refine a_callV (as := [.float v29]) (np := 1) (ci := 10) (st := []) (sX11_becomeReal E (D - 1) (by omega) e31) dX11_filterReal_99 rfl (by omega) (by decide) cw_X11_158 ⟨wd_292, wd_293⟩ rfl (ckT_s e33) rfl (Nat.le_of_ble_eq_true rfl) ?_
    refine a_iconst (v := 0) dX11_filterReal_102 (by decide) ?_
    obtain ⟨rfl, rfl⟩ := oc2 hf
    exact a_ireturn dX11_filterReal_103 rfl
  have hf := ifn c8_3 hf
  by_cases c8_4 : v4 = 5
  · have hf := ifp c8_4 hf
    refine a_tblIn (k := 5) (off := 96) (tgt := 104) dX11_filterReal_8 c8_4 (by decide) (by decide) rfl (by decide) ?_
    refine a_aload_n (q := 0) dX11_filterReal_104 rfl rfl ?_
    refine a_aload_n (q := 0) dX11_filterReal_105 rfl rfl ?_
    obtain ⟨v34, e35, hf⟩ := obd hf
    refine o_gfF dX11_filterReal_106 lk_X11_29 rfl e35 ?_
    refine a_f2i dX11_filterReal_109 ?_
    refine a_i2l dX11_filterReal_110 rfl ?_
    obtain ⟨_, e39, hf⟩ := obd hf
    obtain ⟨v37, h38, e36, hf⟩ := ob2 hf
    refine a_callV (as := [.long ((FP.f2i v34).toInt64)]) (np := 1) (ci := 10) (st := []) (sX11_becomeCounted E (D - 1) (by omega) e36) dX11_filterReal_111 rfl (by omega) (by decide) cw_X11_153 ⟨wd_852, ws_37⟩ rfl (ckT_s e39) rfl (Nat.le_of_ble_eq_true rfl) ?_
    obtain ⟨rfl, rfl⟩ := oc2 hf
    exact a_ireturn dX11_filterReal_114 rfl
  have hf := ifn c8_4 hf
  by_cases c8_5 : v4 = 6
  · have hf := ifp c8_5 hf
    refine a_tblIn (k := 6) (off := 107) (tgt := 115) dX11_filterReal_8 c8_5 (by decide) (by decide) rfl (by decide) ?_
    refine a_iconst (v := 0) dX11_filterReal_115 (by decide) ?_
    obtain ⟨rfl, rfl⟩ := oc2 hf
    exact a_ireturn dX11_filterReal_116 rfl
  have hf := ifn c8_5 hf
  by_cases c8_6 : v4 = 7
  · have hf := ifp c8_6 hf
    refine a_tblIn (k := 7) (off := 109) (tgt := 117) dX11_filterReal_8 c8_6 (by decide) (by decide) rfl (by decide) ?_
    refine a_aload_n (q := 0) dX11_filterReal_117 rfl rfl ?_
    refine a_aload_n (q := 0) dX11_filterReal_118 rfl rfl ?_
    obtain ⟨v40, e41, hf⟩ := obd hf
    refine o_gfF dX11_filterReal_119 lk_X11_29 rfl e41 ?_
    obtain ⟨v43, h44, e42, hf⟩ := ob2 hf
    refine a_callS (as := [.float v40]) (np := 1) (st := [.ref a0]) (sX11_bitsOf E (D - 1) (by omega) e42) dX11_filterReal_122 rfl (by omega) (by decide) cw_X11_66 wd_375 rfl (Nat.le_of_ble_eq_true rfl) ?_
    refine a_sipush (v := 4096) dX11_filterReal_125 (by decide) ?_
    obtain ⟨v45, e46, hf⟩ := obd hf
    refine o_dvI dX11_filterReal_128 e46 ?_
    refine a_i2l dX11_filterReal_129 rfl ?_
    obtain ⟨_, e50, hf⟩ := obd hf
    obtain ⟨v48, h49, e47, hf⟩ := ob2 hf
    refine a_callV (as := [.long (v45.toInt64)]) (np := 1) (ci := 10) (st := []) (sX11_becomeCounted E (D - 1) (by omega) e47) dX11_filterReal_130 rfl (by omega) (by decide) cw_X11_153 ⟨wd_852, ws_37⟩ rfl (ckT_s e50) rfl (Nat.le_of_ble_eq_true rfl) ?_
    obtain ⟨rfl, rfl⟩ := oc2 hf
    exact a_ireturn dX11_filterReal_133 rfl
  have hf := ifn c8_6 hf
  have t8_0 := lv_neT (a := 1) c8_0 rfl
  have t8_1 := lv_neT (a := 2) c8_1 rfl
  have t8_2 := lv_neT (a := 3) c8_2 rfl
  have t8_3 := lv_neT (a := 4) c8_3 rfl
  have t8_4 := lv_neT (a := 5) c8_4 rfl
  have t8_5 := lv_neT (a := 6) c8_5 rfl
  have t8_6 := lv_neT (a := 7) c8_6 rfl
  refine a_tblOut (tgt := 134) dX11_filterReal_8 (by omega) (by decide) ?_
  refine a_iconst (v := 2) dX11_filterReal_134 (by decide) ?_
  obtain ⟨rfl, rfl⟩ := oc2 hf
  exact a_ireturn dX11_filterReal_135 rfl
def fX11_countFigures_l4 : Nat → Nat → Int32 → Int32 → hp → Option (Int32 × hp)
  | 0, _, _, _, _ => none
  | n + 1, x0, x1, x2, h =>
    (gfI h x0 10 3).bind fun v1 =>
    if v1 ≤ x2 then (
      some (x1, h)
    ) else (
      (ckT h x0 10).bind fun _ =>
      bd2 (fX11_at x0 x2 h) fun v4 h5 =>
      bd2 (fX13_isFigure v4 h5) fun v8 h9 =>
      if v8 = 0 then (
        fX11_countFigures_l4 n x0 x1 (x2 + 1) h9
      ) else (
        fX11_countFigures_l4 n x0 (x1 + 1) (x2 + 1) h9
      )
    )
def fX11_countFigures (a0 : Nat) (h : hp) : Option (Int32 × hp) :=
  bd2 (fX11_countFigures_l4 FU a0 0 0 h) fun v3 h2 =>
  some (v3, h2)
set_option maxHeartbeats 4000000 in
set_option maxRecDepth 100000 in
theorem sX11_countFigures_l4 (E : gE) (D : Nat) (hD : 1 ≤ D) {rz : Option Value} {h0 hz : hp} : ∀ (n : Nat) (x0 : Nat) (x1 : Int32) (x2 : Int32) (h : hp) (m1 : Int32) (hq : hp), fX11_countFigures_l4 n x0 x1 x2 h = some (m1, hq) → (AW E yX11_countFigures cX11_countFigures (Option.some Jvm.ClassFile.FieldType.int) 3 D rz h0 hz 33 [(1, .int m1)] [] hq) → AW E yX11_countFigures cX11_countFigures (Option.some Jvm.ClassFile.FieldType.int) 3 D rz h0 hz 4 [(0, .ref x0), (1, .int x1), (2, .int x2)] [] h := by
  intro n
  induction n with
  | zero =>
    intro x0 x1 x2 h m1 hq hf _
    rw [fX11_countFigures_l4] at hf
    cases hf
  | succ n ih =>
    intro x0 x1 x2 h m1 hq hf hk0
    rw [fX11_countFigures_l4] at hf
    refine a_iload_n (q := 2) dX11_countFigures_4 rfl rfl ?_
    refine a_aload_n (q := 0) dX11_countFigures_5 rfl rfl ?_
    obtain ⟨v1, e2, hf⟩ := obd hf
    refine o_gfI dX11_countFigures_6 lk_X11_19 rfl e2 ?_
    refine a_icmp_ge (tgt := 33) dX11_countFigures_9 (by decide) (fun c => ?_) (fun c => ?_)
    · have hf := ifp c hf
      obtain ⟨rfl, rfl⟩ := oc2 hf
      exact AW.sub [1] rfl (hk0)
    · have hf := ifn c hf
      refine a_aload_n (q := 0) dX11_countFigures_12 rfl rfl ?_
      refine a_iload_n (q := 2) dX11_countFigures_13 rfl rfl ?_
      obtain ⟨_, e6, hf⟩ := obd hf
      obtain ⟨v4, h5, e3, hf⟩ := ob2 hf
      refine a_callV (as := [.int x2]) (np := 1) (ci := 10) (st := []) (sX11_at E (D - 1) (by omega) e3) dX11_countFigures_14 rfl (by omega) (by decide) cw_X11_96 ⟨wd_338, wd_339⟩ rfl (ckT_s e6) rfl (Nat.le_of_ble_eq_true rfl) ?_
      obtain ⟨v8, h9, e7, hf⟩ := ob2 hf
      refine a_callS (as := [.int v4]) (np := 1) (st := []) (sX13_isFigure E (D - 1) (by omega) e7) dX11_countFigures_17 rfl (by omega) (by decide) cw_X11_201 wd_614 rfl (Nat.le_of_ble_eq_true rfl) ?_
      refine a_if_eq (tgt := 27) dX11_countFigures_20 (by decide) (fun c => ?_) (fun c => ?_)
      · have hf := ifp c hf
        refine a_iinc (q := 2) (v := (x2 + 1)) (lv1 := [(2, .int (x2 + 1)), (0, .ref x0), (1, .int x1)]) dX11_countFigures_27 rfl (by rfl) (by decide) rfl ?_
        refine a_goto (tgt := 4) dX11_countFigures_30 (by decide) ?_
        exact AW.sub [1, 2, 0] rfl (ih _ _ _ _ _ _ hf hk0)
      · have hf := ifn c hf
        refine a_iload_n (q := 1) dX11_countFigures_23 rfl rfl ?_
        refine a_iconst (v := 1) dX11_countFigures_24 (by decide) ?_
        refine a_iadd dX11_countFigures_25 ?_
        refine a_istore_n (lv1 := [(1, .int (x1 + 1)), (0, .ref x0), (2, .int x2)]) dX11_countFigures_26 rfl (by decide) rfl ?_
        refine a_iinc (q := 2) (v := (x2 + 1)) (lv1 := [(2, .int (x2 + 1)), (1, .int (x1 + 1)), (0, .ref x0)]) dX11_countFigures_27 rfl (by rfl) (by decide) rfl ?_
        refine a_goto (tgt := 4) dX11_countFigures_30 (by decide) ?_
        exact AW.sub [2, 1, 0] rfl (ih _ _ _ _ _ _ hf hk0)
set_option maxHeartbeats 4000000 in
set_option maxRecDepth 100000 in
theorem sX11_countFigures (E : gE) (D : Nat) (hD : 1 ≤ D) {a0 : Nat} {h hz : hp} {v0 : Int32} (hf : fX11_countFigures a0 h = some (v0, hz)) : MC E yX11_countFigures cX11_countFigures (Option.some Jvm.ClassFile.FieldType.int) 3 D [.ref a0] h (some (.int v0)) hz := by
  refine MC.of (by decide +kernel) (Nat.le_of_ble_eq_true rfl) rfl ?_
  unfold fX11_countFigures at hf
  show AW E yX11_countFigures cX11_countFigures (Option.some Jvm.ClassFile.FieldType.int) 3 D (some (.int v0)) h hz 0 [(0, .ref a0)] [] h
  refine a_iconst (v := 0) dX11_countFigures_0 (by decide) ?_
  refine a_istore_n (lv1 := [(1, .int 0), (0, .ref a0)]) dX11_countFigures_1 rfl (by decide) rfl ?_
  refine a_iconst (v := 0) dX11_countFigures_2 (by decide) ?_
  refine a_istore_n (lv1 := [(2, .int 0), (1, .int 0), (0, .ref a0)]) dX11_countFigures_3 rfl (by decide) rfl ?_
  obtain ⟨v3, h2, e1, hf⟩ := ob2 hf
  refine AW.sub [2, 1, 0] rfl (sX11_countFigures_l4 E D hD _ _ _ _ _ _ _ e1 ?_)
  refine a_iload_n (q := 0) dX11_countFigures_33 rfl rfl ?_
  obtain ⟨rfl, rfl⟩ := oc2 hf
  exact a_ireturn dX11_countFigures_34 rfl
def fX11_padTo_l16 : Nat → Nat → Int32 → hp → Option hp
  | 0, _, _, _ => none
  | n + 1, x0, x3, h =>
    (gfI h x0 10 3).bind fun v1 =>
    if v1 ≤ x3 then (
      some (h)
    ) else (
      (ckT h x0 10).bind fun _ =>
      (fX11_put x0 x3 32 h).bind fun h4 =>
      fX11_padTo_l16 n x0 (x3 + 1) h4
    )
def fX11_padTo (a0 : Nat) (a1 : Int32) (h : hp) : Option hp :=
  (gfI h a0 10 3).bind fun v1 =>
  bd2 (fJ9_max_7cf53 v1 a1 h) fun v4 h5 =>
  (ckT h5 a0 10).bind fun _ =>
  (fX11_resize a0 v4 h5).bind fun h7 =>
  (fX11_padTo_l16 FU a0 v1 h7).bind fun h10 =>
  some h10
set_option maxHeartbeats 4000000 in
set_option maxRecDepth 100000 in
theorem sX11_padTo_l16 (E : gE) (D : Nat) (hD : 2 ≤ D) {rz : Option Value} {h0 hz : hp} : ∀ (n : Nat) (x0 : Nat) (x3 : Int32) (h : hp) (hq : hp), fX11_padTo_l16 n x0 x3 h = some hq → (AW E yX11_padTo cX11_padTo (Option.none : Option Jvm.ClassFile.FieldType) 4 D rz h0 hz 37 [] [] hq) → AW E yX11_padTo cX11_padTo (Option.none : Option Jvm.ClassFile.FieldType) 4 D rz h0 hz 16 [(0, .ref x0), (3, .int x3)] [] h := by
  intro n
  induction n with
  | zero =>
    intro x0 x3 h hq hf _
    rw [fX11_padTo_l16] at hf
    cases hf
  | succ n ih =>
    intro x0 x3 h hq hf hk0
    rw [fX11_padTo_l16] at hf
    refine a_iload_n (q := 1) dX11_padTo_16 rfl rfl ?_
    refine a_aload_n (q := 0) dX11_padTo_17 rfl rfl ?_
    obtain ⟨v1, e2, hf⟩ := obd hf
    refine o_gfI dX11_padTo_18 lk_X11_19 rfl e2 ?_
    refine a_icmp_ge (tgt := 37) dX11_padTo_21 (by decide) (fun c => ?_) (fun c => ?_)
    · have hf := ifp c hf
      obtain rfl := Option.some.inj hf
      exact AW.sub [] rfl (hk0)
    · have hf := ifn c hf
      refine a_aload_n (q := 0) dX11_padTo_24 rfl rfl ?_
      refine a_iload_n (q := 1) dX11_padTo_25 rfl rfl ?_
      refine a_bipush (v := 32) dX11_padTo_26 (by decide) ?_
      obtain ⟨_, e5, hf⟩ := obd hf
      obtain ⟨h4, e3, hf⟩ := obd hf
      refine a_callV (as := [.int x3, .int 32]) (np := 2) (ci := 10) (st := []) (sX11_put E (D - 1) (by omega) e3) dX11_padTo_28 rfl (by omega) (by decide) cw_X11_45 ⟨wd_317, wd_318⟩ rfl (ckT_s e5) rfl (Nat.le_of_ble_eq_true rfl) ?_
      refine a_iinc (q := 1) (v := (x3 + 1)) (lv1 := [(3, .int (x3 + 1)), (0, .ref x0)]) dX11_padTo_31 rfl (by rfl) (by decide) rfl ?_
      refine a_goto (tgt := 16) dX11_padTo_34 (by decide) ?_
      exact AW.sub [1, 0] rfl (ih _ _ _ _ hf hk0)
set_option maxHeartbeats 4000000 in
set_option maxRecDepth 100000 in
theorem sX11_padTo (E : gE) (D : Nat) (hD : 2 ≤ D) {a0 : Nat} {a1 : Int32} {h hz : hp} (hf : fX11_padTo a0 a1 h = some hz) : MC E yX11_padTo cX11_padTo (Option.none : Option Jvm.ClassFile.FieldType) 4 D [.ref a0, .int a1] h none hz := by
  refine MC.of (by decide +kernel) (Nat.le_of_ble_eq_true rfl) rfl ?_
  unfold fX11_padTo at hf
  show AW E yX11_padTo cX11_padTo (Option.none : Option Jvm.ClassFile.FieldType) 4 D none h hz 0 [(0, .ref a0), (1, .int a1)] [] h
  refine a_aload_n (q := 0) dX11_padTo_0 rfl rfl ?_
  obtain ⟨v1, e2, hf⟩ := obd hf
  refine o_gfI dX11_padTo_1 lk_X11_19 rfl e2 ?_
  refine a_istore_n (lv1 := [(2, .int v1), (0, .ref a0), (1, .int a1)]) dX11_padTo_4 rfl (by decide) rfl ?_
  refine a_aload_n (q := 1) dX11_padTo_5 rfl rfl ?_
  refine a_iload_n (q := 0) dX11_padTo_6 rfl rfl ?_
  refine a_iload_n (q := 2) dX11_padTo_7 rfl rfl ?_
  obtain ⟨v4, h5, e3, hf⟩ := ob2 hf
  refine a_callS (as := [.int v1, .int a1]) (np := 2) (st := [.ref a0]) (sJ9_max_7cf53 E (D - 1) (by omega) e3) dX11_padTo_8 rfl (by omega) (by decide) cw_X11_204 wd_880 rfl (Nat.le_of_ble_eq_true rfl) ?_
  obtain ⟨_, e8, hf⟩ := obd hf
  obtain ⟨h7, e6, hf⟩ := obd hf
  refine a_callV (as := [.int v4]) (np := 1) (ci := 10) (st := []) (sX11_resize E (D - 1) (by omega) e6) dX11_padTo_11 rfl (by omega) (by decide) cw_X11_41 ⟨wd_307, ws_0⟩ rfl (ckT_s e8) rfl (Nat.le_of_ble_eq_true rfl) ?_
  refine a_iload_n (q := 0) dX11_padTo_14 rfl rfl ?_
  refine a_istore_n (lv1 := [(3, .int v1), (2, .int v1), (0, .ref a0), (1, .int a1)]) dX11_padTo_15 rfl (by decide) rfl ?_
  obtain ⟨h10, e9, hf⟩ := obd hf
  refine AW.sub [2, 0] rfl (sX11_padTo_l16 E D hD _ _ _ _ _ e9 ?_)
  obtain rfl := Option.some.inj hf
  exact a_return dX11_padTo_37 rfl
def fX13_isGreat (a0 : Int32) (h : hp) : Option (Int32 × hp) :=
  if a0 < 65 then (
    some (0, h)
  ) else (
    if 90 < a0 then (
      some (0, h)
    ) else (
      some (1, h)
    )
  )
set_option maxHeartbeats 4000000 in
set_option maxRecDepth 100000 in
theorem sX13_isGreat (E : gE) (D : Nat) (hD : 0 ≤ D) {a0 : Int32} {h hz : hp} {v0 : Int32} (hf : fX13_isGreat a0 h = some (v0, hz)) : MC E yX13_isGreat cX13_isGreat (Option.some Jvm.ClassFile.FieldType.boolean) 1 D [.int a0] h (some (.int v0)) hz := by
  refine MC.of (by decide +kernel) (Nat.le_of_ble_eq_true rfl) rfl ?_
  unfold fX13_isGreat at hf
  show AW E yX13_isGreat cX13_isGreat (Option.some Jvm.ClassFile.FieldType.boolean) 1 D (some (.int v0)) h hz 0 [(0, .int a0)] [] h
  refine a_iload_n (q := 0) dX13_isGreat_0 rfl rfl ?_
  refine a_bipush (v := 65) dX13_isGreat_1 (by decide) ?_
  refine a_icmp_lt (tgt := 16) dX13_isGreat_3 (by decide) (fun c => ?_) (fun c => ?_)
  · have hf := ifp c hf
    refine a_iconst (v := 0) dX13_isGreat_16 (by decide) ?_
    obtain ⟨rfl, rfl⟩ := oc2 hf
    exact a_zreturn dX13_isGreat_17 rfl (by decide)
  · have hf := ifn c hf
    refine a_iload_n (q := 0) dX13_isGreat_6 rfl rfl ?_
    refine a_bipush (v := 90) dX13_isGreat_7 (by decide) ?_
    refine a_icmp_gt (tgt := 16) dX13_isGreat_9 (by decide) (fun c => ?_) (fun c => ?_)
    · have hf := ifp c hf
      refine a_iconst (v := 0) dX13_isGreat_16 (by decide) ?_
      obtain ⟨rfl, rfl⟩ := oc2 hf
      exact a_zreturn dX13_isGreat_17 rfl (by decide)
    · have hf := ifn c hf
      refine a_iconst (v := 1) dX13_isGreat_12 (by decide) ?_
      refine a_goto (tgt := 17) dX13_isGreat_13 (by decide) ?_
      obtain ⟨rfl, rfl⟩ := oc2 hf
      exact a_zreturn dX13_isGreat_17 rfl (by decide)
def fX11_filterText_l58 : Nat → Nat → Int32 → hp → Option hp
  | 0, _, _, _ => none
  | n + 1, x0, x3, h =>
    (gfI h x0 10 3).bind fun v1 =>
    if v1 ≤ x3 then (
      some (h)
    ) else (
      (ckT h x0 10).bind fun _ =>
      bd2 (fX11_at x0 x3 h) fun v4 h5 =>
      bd2 (fX13_isSmall v4 h5) fun v8 h9 =>
      if v8 = 0 then (
        fX11_filterText_l58 n x0 (x3 + 1) h9
      ) else (
        (ckT h9 x0 10).bind fun _ =>
        bd2 (fX11_at x0 x3 h9) fun v11 h12 =>
        (ckT h12 x0 10).bind fun _ =>
        (fX11_put x0 x3 ((v11 - 97) + 65) h12).bind fun h15 =>
        fX11_filterText_l58 n x0 (x3 + 1) h15
      )
    )
def fX11_filterText_l103 : Nat → Nat → Int32 → hp → Option hp
  | 0, _, _, _ => none
  | n + 1, x0, x3, h =>
    (gfI h x0 10 3).bind fun v1 =>
    if v1 ≤ x3 then (
      some (h)
    ) else (
      (ckT h x0 10).bind fun _ =>
      bd2 (fX11_at x0 x3 h) fun v4 h5 =>
      bd2 (fX13_isGreat v4 h5) fun v8 h9 =>
      if v8 = 0 then (
        fX11_filterText_l103 n x0 (x3 + 1) h9
      ) else (
        (ckT h9 x0 10).bind fun _ =>
        bd2 (fX11_at x0 x3 h9) fun v11 h12 =>
        (ckT h12 x0 10).bind fun _ =>
        (fX11_put x0 x3 ((v11 - 65) + 97) h12).bind fun h15 =>
        fX11_filterText_l103 n x0 (x3 + 1) h15
      )
    )
def fX11_filterText (a0 : Nat) (a1 : Nat) (a2 : Int32) (h : hp) : Option (Int32 × hp) :=
  (ckE a1).bind fun _ =>
  (gsO a1).bind fun v3 =>
  (alS 20 v3).bind fun v4 =>
  if v4 = 5 then (
    (ckT h a0 10).bind fun _ =>
    bd2 (fX11_countFigures a0 h) fun v7 h8 =>
    (ckT h8 a0 10).bind fun _ =>
    bd2 (fX11_becomeCounted a0 (v7.toInt64) h8) fun v11 h12 =>
    some (v11, h12)
  ) else (
  if v4 = 8 then (
    (fX11_filterText_l58 FU a0 0 h).bind fun h15 =>
    some (0, h15)
  ) else (
  if v4 = 9 then (
    (fX11_filterText_l103 FU a0 0 h).bind fun h17 =>
    some (0, h17)
  ) else (
  if v4 = 10 then (
    (ckT h a0 10).bind fun _ =>
    (fX11_padTo a0 a2 h).bind fun h19 =>
    some (0, h19)
  ) else (
  if v4 = 11 then (
    (gfI h a0 10 3).bind fun v21 =>
    bd2 (fJ9_min_7cf53 v21 1 h) fun v24 h25 =>
    (ckT h25 a0 10).bind fun _ =>
    (fX11_resize a0 v24 h25).bind fun h27 =>
    some (0, h27)
  ) else (
  if v4 = 12 then (
    (gfI h a0 10 3).bind fun v29 =>
    jn (fun (h199j : hp) => (
      (gfI h199j a0 10 3).bind fun v31 =>
      bd2 (fJ9_min_7cf53 v31 1 h199j) fun v34 h35 =>
      (ckT h35 a0 10).bind fun _ =>
      (fX11_resize a0 v34 h35).bind fun h37 =>
      some (0, h37)
      : Option (Int32 × hp))) fun k199 =>
    if v29 ≤ 0 then (
      k199 h
    ) else (
      (gfI h a0 10 3).bind fun v39 =>
      (ckT h a0 10).bind fun _ =>
      bd2 (fX11_at a0 (v39 - 1) h) fun v42 h43 =>
      (ckT h43 a0 10).bind fun _ =>
      (fX11_put a0 0 v42 h43).bind fun h46 =>
      k199 h46
    )
  ) else (
    (ckT h a0 10).bind fun _ =>
    bd2 (fX11_filterItems a0 a1 a2 h) fun v49 h50 =>
    some (v49, h50)
  ))))))
set_option maxHeartbeats 4000000 in
set_option maxRecDepth 100000 in
theorem sX11_filterText_l58 (E : gE) (D : Nat) (hD : 3 ≤ D) {rz : Option Value} {h0 hz : hp} : ∀ (n : Nat) (x0 : Nat) (x3 : Int32) (h : hp) (hq : hp), fX11_filterText_l58 n x0 x3 h = some hq → (AW E yX11_filterText cX11_filterText (Option.some Jvm.ClassFile.FieldType.int) 4 D rz h0 hz 99 [] [] hq) → AW E yX11_filterText cX11_filterText (Option.some Jvm.ClassFile.FieldType.int) 4 D rz h0 hz 58 [(0, .ref x0), (3, .int x3)] [] h := by
  intro n
  induction n with
  | zero =>
    intro x0 x3 h hq hf _
    rw [fX11_filterText_l58] at hf
    cases hf
  | succ n ih =>
    intro x0 x3 h hq hf hk0
    rw [fX11_filterText_l58] at hf
    refine a_iload_n (q := 1) dX11_filterText_58 rfl rfl ?_
    refine a_aload_n (q := 0) dX11_filterText_59 rfl rfl ?_
    obtain ⟨v1, e2, hf⟩ := obd hf
    refine o_gfI dX11_filterText_60 lk_X11_19 rfl e2 ?_
    refine a_icmp_ge (tgt := 99) dX11_filterText_63 (by decide) (fun c => ?_) (fun c => ?_)
    · have hf := ifp c hf
      obtain rfl := Option.some.inj hf
      exact AW.sub [] rfl (hk0)
    · have hf := ifn c hf
      refine a_aload_n (q := 0) dX11_filterText_66 rfl rfl ?_
      refine a_iload_n (q := 1) dX11_filterText_67 rfl rfl ?_
      obtain ⟨_, e6, hf⟩ := obd hf
      obtain ⟨v4, h5, e3, hf⟩ := ob2 hf
      refine a_callV (as := [.int x3]) (np := 1) (ci := 10) (st := []) (sX11_at E (D - 1) (by omega) e3) dX11_filterText_68 rfl (by omega) (by decide) cw_X11_96 ⟨wd_338, wd_339⟩ rfl (ckT_s e6) rfl (Nat.le_of_ble_eq_true rfl) ?_
      obtain ⟨v8, h9, e7, hf⟩ := ob2 hf
      refine a_callS (as := [.int v4]) (np := 1) (st := []) (sX13_isSmall E (D - 1) (by omega) e7) dX11_filterText_71 rfl (by omega) (by decide) cw_X11_166 wd_626 rfl (Nat.le_of_ble_eq_true rfl) ?_
      refine a_if_eq (tgt := 93) dX11_filterText_74 (by decide) (fun c => ?_) (fun c => ?_)
      · have hf := ifp c hf
        refine a_iinc (q := 1) (v := (x3 + 1)) (lv1 := [(3, .int (x3 + 1)), (0, .ref x0)]) dX11_filterText_93 rfl (by rfl) (by decide) rfl ?_
        refine a_goto (tgt := 58) dX11_filterText_96 (by decide) ?_
        exact AW.sub [1, 0] rfl (ih _ _ _ _ hf hk0)
      · have hf := ifn c hf
        refine a_aload_n (q := 0) dX11_filterText_77 rfl rfl ?_
        refine a_iload_n (q := 1) dX11_filterText_78 rfl rfl ?_
        refine a_aload_n (q := 0) dX11_filterText_79 rfl rfl ?_
        refine a_iload_n (q := 1) dX11_filterText_80 rfl rfl ?_
        obtain ⟨_, e13, hf⟩ := obd hf
        obtain ⟨v11, h12, e10, hf⟩ := ob2 hf
        refine a_callV (as := [.int x3]) (np := 1) (ci := 10) (st := [.int x3, .ref x0]) (sX11_at E (D - 1) (by omega) e10) dX11_filterText_81 rfl (by omega) (by decide) cw_X11_96 ⟨wd_338, wd_339⟩ rfl (ckT_s e13) rfl (Nat.le_of_ble_eq_true rfl) ?_
        refine a_bipush (v := 97) dX11_filterText_84 (by decide) ?_
        refine a_isub dX11_filterText_86 ?_
        refine a_bipush (v := 65) dX11_filterText_87 (by decide) ?_
        refine a_iadd dX11_filterText_89 ?_
        obtain ⟨_, e16, hf⟩ := obd hf
        obtain ⟨h15, e14, hf⟩ := obd hf
        refine a_callV (as := [.int x3, .int ((v11 - 97) + 65)]) (np := 2) (ci := 10) (st := []) (sX11_put E (D - 1) (by omega) e14) dX11_filterText_90 rfl (by omega) (by decide) cw_X11_45 ⟨wd_317, wd_318⟩ rfl (ckT_s e16) rfl (Nat.le_of_ble_eq_true rfl) ?_
        refine a_iinc (q := 1) (v := (x3 + 1)) (lv1 := [(3, .int (x3 + 1)), (0, .ref x0)]) dX11_filterText_93 rfl (by rfl) (by decide) rfl ?_
        refine a_goto (tgt := 58) dX11_filterText_96 (by decide) ?_
        exact AW.sub [1, 0] rfl (ih _ _ _ _ hf hk0)
set_option maxHeartbeats 4000000 in
set_option maxRecDepth 100000 in
theorem sX11_filterText_l103 (E : gE) (D : Nat) (hD : 3 ≤ D) {rz : Option Value} {h0 hz : hp} : ∀ (n : Nat) (x0 : Nat) (x3 : Int32) (h : hp) (hq : hp), fX11_filterText_l103 n x0 x3 h = some hq → (AW E yX11_filterText cX11_filterText (Option.some Jvm.ClassFile.FieldType.int) 4 D rz h0 hz 144 [] [] hq) → AW E yX11_filterText cX11_filterText (Option.some Jvm.ClassFile.FieldType.int) 4 D rz h0 hz 103 [(0, .ref x0), (3, .int x3)] [] h := by
  intro n
  induction n with
  | zero =>
    intro x0 x3 h hq hf _
    rw [fX11_filterText_l103] at hf
    cases hf
  | succ n ih =>
    intro x0 x3 h hq hf hk0
    rw [fX11_filterText_l103] at hf
    refine a_iload_n (q := 1) dX11_filterText_103 rfl rfl ?_
    refine a_aload_n (q := 0) dX11_filterText_104 rfl rfl ?_
    obtain ⟨v1, e2, hf⟩ := obd hf
    refine o_gfI dX11_filterText_105 lk_X11_19 rfl e2 ?_
    refine a_icmp_ge (tgt := 144) dX11_filterText_108 (by decide) (fun c => ?_) (fun c => ?_)
    · have hf := ifp c hf
      obtain rfl := Option.some.inj hf
      exact AW.sub [] rfl (hk0)
    · have hf := ifn c hf
      refine a_aload_n (q := 0) dX11_filterText_111 rfl rfl ?_
      refine a_iload_n (q := 1) dX11_filterText_112 rfl rfl ?_
      obtain ⟨_, e6, hf⟩ := obd hf
      obtain ⟨v4, h5, e3, hf⟩ := ob2 hf
      refine a_callV (as := [.int x3]) (np := 1) (ci := 10) (st := []) (sX11_at E (D - 1) (by omega) e3) dX11_filterText_113 rfl (by omega) (by decide) cw_X11_96 ⟨wd_338, wd_339⟩ rfl (ckT_s e6) rfl (Nat.le_of_ble_eq_true rfl) ?_
      obtain ⟨v8, h9, e7, hf⟩ := ob2 hf
      refine a_callS (as := [.int v4]) (np := 1) (st := []) (sX13_isGreat E (D - 1) (by omega) e7) dX11_filterText_116 rfl (by omega) (by decide) cw_X11_169 wd_873 rfl (Nat.le_of_ble_eq_true rfl) ?_
      refine a_if_eq (tgt := 138) dX11_filterText_119 (by decide) (fun c => ?_) (fun c => ?_)
      · have hf := ifp c hf
        refine a_iinc (q := 1) (v := (x3 + 1)) (lv1 := [(3, .int (x3 + 1)), (0, .ref x0)]) dX11_filterText_138 rfl (by rfl) (by decide) rfl ?_
        refine a_goto (tgt := 103) dX11_filterText_141 (by decide) ?_
        exact AW.sub [1, 0] rfl (ih _ _ _ _ hf hk0)
      · have hf := ifn c hf
        refine a_aload_n (q := 0) dX11_filterText_122 rfl rfl ?_
        refine a_iload_n (q := 1) dX11_filterText_123 rfl rfl ?_
        refine a_aload_n (q := 0) dX11_filterText_124 rfl rfl ?_
        refine a_iload_n (q := 1) dX11_filterText_125 rfl rfl ?_
        obtain ⟨_, e13, hf⟩ := obd hf
        obtain ⟨v11, h12, e10, hf⟩ := ob2 hf
        refine a_callV (as := [.int x3]) (np := 1) (ci := 10) (st := [.int x3, .ref x0]) (sX11_at E (D - 1) (by omega) e10) dX11_filterText_126 rfl (by omega) (by decide) cw_X11_96 ⟨wd_338, wd_339⟩ rfl (ckT_s e13) rfl (Nat.le_of_ble_eq_true rfl) ?_
        refine a_bipush (v := 65) dX11_filterText_129 (by decide) ?_
        refine a_isub dX11_filterText_131 ?_
        refine a_bipush (v := 97) dX11_filterText_132 (by decide) ?_
        refine a_iadd dX11_filterText_134 ?_
        obtain ⟨_, e16, hf⟩ := obd hf
        obtain ⟨h15, e14, hf⟩ := obd hf
        refine a_callV (as := [.int x3, .int ((v11 - 65) + 97)]) (np := 2) (ci := 10) (st := []) (sX11_put E (D - 1) (by omega) e14) dX11_filterText_135 rfl (by omega) (by decide) cw_X11_45 ⟨wd_317, wd_318⟩ rfl (ckT_s e16) rfl (Nat.le_of_ble_eq_true rfl) ?_
        refine a_iinc (q := 1) (v := (x3 + 1)) (lv1 := [(3, .int (x3 + 1)), (0, .ref x0)]) dX11_filterText_138 rfl (by rfl) (by decide) rfl ?_
        refine a_goto (tgt := 103) dX11_filterText_141 (by decide) ?_
        exact AW.sub [1, 0] rfl (ih _ _ _ _ hf hk0)
set_option maxHeartbeats 4000000 in
set_option maxRecDepth 100000 in
theorem sX11_filterText (E : gE) (D : Nat) (hD : 3 ≤ D) {a0 : Nat} {a1 : Nat} {a2 : Int32} {h hz : hp} {v0 : Int32} (hf : fX11_filterText a0 a1 a2 h = some (v0, hz)) : MC E yX11_filterText cX11_filterText (Option.some Jvm.ClassFile.FieldType.int) 4 D [.ref a0, .ref a1, .int a2] h (some (.int v0)) hz := by
  refine MC.of (by decide +kernel) (Nat.le_of_ble_eq_true rfl) rfl ?_
  unfold fX11_filterText at hf
  show AW E yX11_filterText cX11_filterText (Option.some Jvm.ClassFile.FieldType.int) 4 D (some (.int v0)) h hz 0 [(0, .ref a0), (1, .ref a1), (2, .int a2)] [] h
  refine o_gz (id := 20) dX11_filterText_0 wd_842 (by decide) (by decide) (fun _ _ z => z.2.2.2.2.2.1) ?_
  refine a_aload_n (q := 1) dX11_filterText_3 rfl rfl ?_
  obtain ⟨_, e1, hf⟩ := obd hf
  obtain ⟨v3, e2, hf⟩ := obd hf
  refine o_ord (sJx29ce0_ordinal_8abf5 E (D - 1) (by omega) (by unfold fJx29ce0_ordinal_8abf5; rw [e2]; rfl)) dX11_filterText_4 (by omega) (by decide) rfl rfl wd_844 wd_845 wd_847 wd_848 wd_15 wd_849 e1 (Nat.le_of_ble_eq_true rfl) ?_
  obtain ⟨v4, e5, hf⟩ := obd hf
  refine o_alS dX11_filterText_7 e5 ?_
  by_cases c8_0 : v4 = 5
  · have hf := ifp c8_0 hf
    refine a_tblIn (k := 5) (off := 145) (tgt := 153) dX11_filterText_8 c8_0 (by decide) (by decide) rfl (by decide) ?_
    refine a_aload_n (q := 0) dX11_filterText_153 rfl rfl ?_
    refine a_aload_n (q := 0) dX11_filterText_154 rfl rfl ?_
    obtain ⟨_, e9, hf⟩ := obd hf
    obtain ⟨v7, h8, e6, hf⟩ := ob2 hf
    refine a_callV (as := []) (np := 0) (ci := 10) (st := [.ref a0]) (sX11_countFigures E (D - 1) (by omega) e6) dX11_filterText_155 rfl (by omega) (by decide) cw_X11_175 ⟨wd_884, ws_41⟩ rfl (ckT_s e9) rfl (Nat.le_of_ble_eq_true rfl) ?_
    refine a_i2l dX11_filterText_158 rfl ?_
    obtain ⟨_, e13, hf⟩ := obd hf
    obtain ⟨v11, h12, e10, hf⟩ := ob2 hf
    refine a_callV (as := [.long (v7.toInt64)]) (np := 1) (ci := 10) (st := []) (sX11_becomeCounted E (D - 1) (by omega) e10) dX11_filterText_159 rfl (by omega) (by decide) cw_X11_153 ⟨wd_852, ws_37⟩ rfl (ckT_s e13) rfl (Nat.le_of_ble_eq_true rfl) ?_
    obtain ⟨rfl, rfl⟩ := oc2 hf
    exact a_ireturn dX11_filterText_162 rfl
  have hf := ifn c8_0 hf
  by_cases c8_1 : v4 = 8
  · have hf := ifp c8_1 hf
    refine a_tblIn (k := 8) (off := 48) (tgt := 56) dX11_filterText_8 c8_1 (by decide) (by decide) rfl (by decide) ?_
    refine a_iconst (v := 0) dX11_filterText_56 (by decide) ?_
    refine a_istore_n (lv1 := [(3, .int 0), (0, .ref a0), (1, .ref a1), (2, .int a2)]) dX11_filterText_57 rfl (by decide) rfl ?_
    obtain ⟨h15, e14, hf⟩ := obd hf
    refine AW.sub [1, 0] rfl (sX11_filterText_l58 E D hD _ _ _ _ _ e14 ?_)
    refine a_iconst (v := 0) dX11_filterText_99 (by decide) ?_
    obtain ⟨rfl, rfl⟩ := oc2 hf
    exact a_ireturn dX11_filterText_100 rfl
  have hf := ifn c8_1 hf
  by_cases c8_2 : v4 = 9
  · have hf := ifp c8_2 hf
    refine a_tblIn (k := 9) (off := 93) (tgt := 101) dX11_filterText_8 c8_2 (by decide) (by decide) rfl (by decide) ?_
    refine a_iconst (v := 0) dX11_filterText_101 (by decide) ?_
    refine a_istore_n (lv1 := [(3, .int 0), (0, .ref a0), (1, .ref a1), (2, .int a2)]) dX11_filterText_102 rfl (by decide) rfl ?_
    obtain ⟨h17, e16, hf⟩ := obd hf
    refine AW.sub [1, 0] rfl (sX11_filterText_l103 E D hD _ _ _ _ _ e16 ?_)
    refine a_iconst (v := 0) dX11_filterText_144 (by decide) ?_
    obtain ⟨rfl, rfl⟩ := oc2 hf
    exact a_ireturn dX11_filterText_145 rfl
  have hf := ifn c8_2 hf
  by_cases c8_3 : v4 = 10
  · have hf := ifp c8_3 hf
    refine a_tblIn (k := 10) (off := 138) (tgt := 146) dX11_filterText_8 c8_3 (by decide) (by decide) rfl (by decide) ?_
    refine a_aload_n (q := 0) dX11_filterText_146 rfl rfl ?_
    refine a_iload_n (q := 2) dX11_filterText_147 rfl rfl ?_
    obtain ⟨_, e20, hf⟩ := obd hf
    obtain ⟨h19, e18, hf⟩ := obd hf
    refine a_callV (as := [.int a2]) (np := 1) (ci := 10) (st := []) (sX11_padTo E (D - 1) (by omega) e18) dX11_filterText_148 rfl (by omega) (by decide) cw_X11_172 ⟨wd_877, ws_40⟩ rfl (ckT_s e20) rfl (Nat.le_of_ble_eq_true rfl) ?_
    refine a_iconst (v := 0) dX11_filterText_151 (by decide) ?_
    obtain ⟨rfl, rfl⟩ := oc2 hf
    exact a_ireturn dX11_filterText_152 rfl
  have hf := ifn c8_3 hf
  by_cases c8_4 : v4 = 11
  · have hf := ifp c8_4 hf
    refine a_tblIn (k := 11) (off := 155) (tgt := 163) dX11_filterText_8 c8_4 (by decide) (by decide) rfl (by decide) ?_
    refine a_aload_n (q := 0) dX11_filterText_163 rfl rfl ?_
    refine a_aload_n (q := 0) dX11_filterText_164 rfl rfl ?_
    obtain ⟨v21, e22, hf⟩ := obd hf
    refine o_gfI dX11_filterText_165 lk_X11_19 rfl e22 ?_
    refine a_iconst (v := 1) dX11_filterText_168 (by decide) ?_
    obtain ⟨v24, h25, e23, hf⟩ := ob2 hf
    refine a_callS (as := [.int v21, .int 1]) (np := 2) (st := [.ref a0]) (sJ9_min_7cf53 E (D - 1) (by omega) e23) dX11_filterText_169 rfl (by omega) (by decide) cw_X11_56 wd_310 rfl (Nat.le_of_ble_eq_true rfl) ?_
    obtain ⟨_, e28, hf⟩ := obd hf
    obtain ⟨h27, e26, hf⟩ := obd hf
    refine a_callV (as := [.int v24]) (np := 1) (ci := 10) (st := []) (sX11_resize E (D - 1) (by omega) e26) dX11_filterText_172 rfl (by omega) (by decide) cw_X11_41 ⟨wd_307, ws_0⟩ rfl (ckT_s e28) rfl (Nat.le_of_ble_eq_true rfl) ?_
    refine a_iconst (v := 0) dX11_filterText_175 (by decide) ?_
    obtain ⟨rfl, rfl⟩ := oc2 hf
    exact a_ireturn dX11_filterText_176 rfl
  have hf := ifn c8_4 hf
  by_cases c8_5 : v4 = 12
  · have hf := ifp c8_5 hf
    refine a_tblIn (k := 12) (off := 169) (tgt := 177) dX11_filterText_8 c8_5 (by decide) (by decide) rfl (by decide) ?_
    refine a_aload_n (q := 0) dX11_filterText_177 rfl rfl ?_
    obtain ⟨v29, e30, hf⟩ := obd hf
    refine o_gfI dX11_filterText_178 lk_X11_19 rfl e30 ?_
    obtain ⟨k199, ek199, hf⟩ := jn_s hf
    have hj199 : ∀ (h199j : hp), k199 h199j = some (v0, hz) → AW E yX11_filterText cX11_filterText (Option.some Jvm.ClassFile.FieldType.int) 4 D (some (.int v0)) h hz 199 [(0, .ref a0)] [] h199j := by
      intro h199j hf
      rw [ek199] at hf
      clear ek199
      refine a_aload_n (q := 0) dX11_filterText_199 rfl rfl ?_
      refine a_aload_n (q := 0) dX11_filterText_200 rfl rfl ?_
      obtain ⟨v31, e32, hf⟩ := obd hf
      refine o_gfI dX11_filterText_201 lk_X11_19 rfl e32 ?_
      refine a_iconst (v := 1) dX11_filterText_204 (by decide) ?_
      obtain ⟨v34, h35, e33, hf⟩ := ob2 hf
      refine a_callS (as := [.int v31, .int 1]) (np := 2) (st := [.ref a0]) (sJ9_min_7cf53 E (D - 1) (by omega) e33) dX11_filterText_205 rfl (by omega) (by decide) cw_X11_56 wd_310 rfl (Nat.le_of_ble_eq_true rfl) ?_
      obtain ⟨_, e38, hf⟩ := obd hf
      obtain ⟨h37, e36, hf⟩ := obd hf
      refine a_callV (as := [.int v34]) (np := 1) (ci := 10) (st := []) (sX11_resize E (D - 1) (by omega) e36) dX11_filterText_208 rfl (by omega) (by decide) cw_X11_41 ⟨wd_307, ws_0⟩ rfl (ckT_s e38) rfl (Nat.le_of_ble_eq_true rfl) ?_
      refine a_iconst (v := 0) dX11_filterText_211 (by decide) ?_
      obtain ⟨rfl, rfl⟩ := oc2 hf
      exact a_ireturn dX11_filterText_212 rfl
    clear ek199
    refine a_if_le (tgt := 199) dX11_filterText_181 (by decide) (fun c => ?_) (fun c => ?_)
    · have hf := ifp c hf
      exact AW.sub [0] rfl (hj199 _ hf)
    · have hf := ifn c hf
      refine a_aload_n (q := 0) dX11_filterText_184 rfl rfl ?_
      refine a_iconst (v := 0) dX11_filterText_185 (by decide) ?_
      refine a_aload_n (q := 0) dX11_filterText_186 rfl rfl ?_
      refine a_aload_n (q := 0) dX11_filterText_187 rfl rfl ?_
      obtain ⟨v39, e40, hf⟩ := obd hf
      refine o_gfI dX11_filterText_188 lk_X11_19 rfl e40 ?_
      refine a_iconst (v := 1) dX11_filterText_191 (by decide) ?_
      refine a_isub dX11_filterText_192 ?_
      obtain ⟨_, e44, hf⟩ := obd hf
      obtain ⟨v42, h43, e41, hf⟩ := ob2 hf
      refine a_callV (as := [.int (v39 - 1)]) (np := 1) (ci := 10) (st := [.int 0, .ref a0]) (sX11_at E (D - 1) (by omega) e41) dX11_filterText_193 rfl (by omega) (by decide) cw_X11_96 ⟨wd_338, wd_339⟩ rfl (ckT_s e44) rfl (Nat.le_of_ble_eq_true rfl) ?_
      obtain ⟨_, e47, hf⟩ := obd hf
      obtain ⟨h46, e45, hf⟩ := obd hf
      refine a_callV (as := [.int 0, .int v42]) (np := 2) (ci := 10) (st := []) (sX11_put E (D - 1) (by omega) e45) dX11_filterText_196 rfl (by omega) (by decide) cw_X11_45 ⟨wd_317, wd_318⟩ rfl (ckT_s e47) rfl (Nat.le_of_ble_eq_true rfl) ?_
      exact AW.sub [0] rfl (hj199 _ hf)
  have hf := ifn c8_5 hf
  have t8_0 := lv_neT (a := 5) c8_0 rfl
  have t8_1 := lv_neT (a := 8) c8_1 rfl
  have t8_2 := lv_neT (a := 9) c8_2 rfl
  have t8_3 := lv_neT (a := 10) c8_3 rfl
  have t8_4 := lv_neT (a := 11) c8_4 rfl
  have t8_5 := lv_neT (a := 12) c8_5 rfl
  by_cases c8_d0 : v4 = 6
  · refine a_tblIn (k := 6) (off := 205) (tgt := 213) dX11_filterText_8 c8_d0 (by decide) (by decide) rfl (by decide) ?_
    refine a_aload_n (q := 0) dX11_filterText_213 rfl rfl ?_
    refine a_aload_n (q := 1) dX11_filterText_214 rfl rfl ?_
    refine a_iload_n (q := 2) dX11_filterText_215 rfl rfl ?_
    obtain ⟨_, e51, hf⟩ := obd hf
    obtain ⟨v49, h50, e48, hf⟩ := ob2 hf
    refine a_callV (as := [.ref a1, .int a2]) (np := 2) (ci := 10) (st := []) (sX11_filterItems E (D - 1) (by omega) e48) dX11_filterText_216 rfl (by omega) (by decide) cw_X11_178 ⟨wd_889, ws_42⟩ rfl (ckT_s e51) rfl (Nat.le_of_ble_eq_true rfl) ?_
    obtain ⟨rfl, rfl⟩ := oc2 hf
    exact a_ireturn dX11_filterText_219 rfl
  have t8_d0 := lv_neT (a := 6) c8_d0 rfl
  by_cases c8_d1 : v4 = 7
  · refine a_tblIn (k := 7) (off := 205) (tgt := 213) dX11_filterText_8 c8_d1 (by decide) (by decide) rfl (by decide) ?_
    refine a_aload_n (q := 0) dX11_filterText_213 rfl rfl ?_
    refine a_aload_n (q := 1) dX11_filterText_214 rfl rfl ?_
    refine a_iload_n (q := 2) dX11_filterText_215 rfl rfl ?_
    obtain ⟨_, e51, hf⟩ := obd hf
    obtain ⟨v49, h50, e48, hf⟩ := ob2 hf
    refine a_callV (as := [.ref a1, .int a2]) (np := 2) (ci := 10) (st := []) (sX11_filterItems E (D - 1) (by omega) e48) dX11_filterText_216 rfl (by omega) (by decide) cw_X11_178 ⟨wd_889, ws_42⟩ rfl (ckT_s e51) rfl (Nat.le_of_ble_eq_true rfl) ?_
    obtain ⟨rfl, rfl⟩ := oc2 hf
    exact a_ireturn dX11_filterText_219 rfl
  have t8_d1 := lv_neT (a := 7) c8_d1 rfl
  refine a_tblOut (tgt := 213) dX11_filterText_8 (by omega) (by decide) ?_
  refine a_aload_n (q := 0) dX11_filterText_213 rfl rfl ?_
  refine a_aload_n (q := 1) dX11_filterText_214 rfl rfl ?_
  refine a_iload_n (q := 2) dX11_filterText_215 rfl rfl ?_
  obtain ⟨_, e51, hf⟩ := obd hf
  obtain ⟨v49, h50, e48, hf⟩ := ob2 hf
  refine a_callV (as := [.ref a1, .int a2]) (np := 2) (ci := 10) (st := []) (sX11_filterItems E (D - 1) (by omega) e48) dX11_filterText_216 rfl (by omega) (by decide) cw_X11_178 ⟨wd_889, ws_42⟩ rfl (ckT_s e51) rfl (Nat.le_of_ble_eq_true rfl) ?_
  obtain ⟨rfl, rfl⟩ := oc2 hf
  exact a_ireturn dX11_filterText_219 rfl
def fX11_applyAll_l4 : Nat → Nat → Int32 → Nat → hp → Option (Int32 × hp)
  | 0, _, _, _, _ => none
  | n + 1, x0, x2, x3, h =>
    if x3 = 0 then (
      some (x2, h)
    ) else (
      if x2 = 0 then (
        (gfR h x3 3 0).bind fun v1 =>
        jn (fun (p142_2 : Int32) (h142j : hp) => (
          (gfR h142j x3 3 2).bind fun v3 =>
          fX11_applyAll_l4 n x0 p142_2 v3 h142j
          : Option (Int32 × hp))) fun k142 =>
        (acm v1 18).bind fun _ =>
        if v1 = 18 then (
          (gfI h x0 10 0).bind fun v40 =>
          if v40 = 0 then (
            (gfI h x3 3 1).bind fun v42 =>
            (ckT h x0 10).bind fun _ =>
            (fX11_becomeInt x0 v42 h).bind fun h45 =>
            k142 x2 h45
          ) else (
            k142 x2 h
          )
        ) else (
          (gfI h x0 10 0).bind fun v6 =>
          if v6 = 1 then (
            (gfR h x3 3 0).bind fun v8 =>
            (gfI h x3 3 1).bind fun v10 =>
            (ckT h x0 10).bind fun _ =>
            bd2 (fX11_filterInt x0 v8 v10 h) fun v13 h14 =>
            k142 v13 h14
          ) else (
          if v6 = 2 then (
            (gfR h x3 3 0).bind fun v16 =>
            (gfI h x3 3 1).bind fun v18 =>
            (ckT h x0 10).bind fun _ =>
            bd2 (fX11_filterReal x0 v16 v18 h) fun v21 h22 =>
            k142 v21 h22
          ) else (
          if v6 = 3 then (
            (gfR h x3 3 0).bind fun v24 =>
            (gfI h x3 3 1).bind fun v26 =>
            (ckT h x0 10).bind fun _ =>
            bd2 (fX11_filterText x0 v24 v26 h) fun v29 h30 =>
            k142 v29 h30
          ) else (
          if v6 = 4 then (
            (gfR h x3 3 0).bind fun v32 =>
            (gfI h x3 3 1).bind fun v34 =>
            (ckT h x0 10).bind fun _ =>
            bd2 (fX11_filterList x0 v32 v34 h) fun v37 h38 =>
            k142 v37 h38
          ) else (
            k142 2 h
          ))))
        )
      ) else (
        some (x2, h)
      )
    )
def fX11_applyAll (a0 : Nat) (a1 : Nat) (h : hp) : Option (Int32 × hp) :=
  bd2 (fX11_applyAll_l4 FU a0 0 a1 h) fun v3 h2 =>
  some (v3, h2)
set_option maxHeartbeats 4000000 in
set_option maxRecDepth 100000 in
theorem sX11_applyAll_l4 (E : gE) (D : Nat) (hD : 4 ≤ D) {rz : Option Value} {h0 hz : hp} : ∀ (n : Nat) (x0 : Nat) (x2 : Int32) (x3 : Nat) (h : hp) (m2 : Int32) (hq : hp), fX11_applyAll_l4 n x0 x2 x3 h = some (m2, hq) → (AW E yX11_applyAll cX11_applyAll (Option.some Jvm.ClassFile.FieldType.int) 4 D rz h0 hz 150 [(2, .int m2)] [] hq) → AW E yX11_applyAll cX11_applyAll (Option.some Jvm.ClassFile.FieldType.int) 4 D rz h0 hz 4 [(0, .ref x0), (2, .int x2), (3, .ref x3)] [] h := by
  intro n
  induction n with
  | zero =>
    intro x0 x2 x3 h m2 hq hf _
    rw [fX11_applyAll_l4] at hf
    cases hf
  | succ n ih =>
    intro x0 x2 x3 h m2 hq hf hk0
    rw [fX11_applyAll_l4] at hf
    refine a_aload_n (q := 2) dX11_applyAll_4 rfl rfl ?_
    refine a_ifnull (tgt := 150) dX11_applyAll_5 (by decide) (fun c => ?_) (fun c => ?_)
    · have hf := ifp c hf
      obtain ⟨rfl, rfl⟩ := oc2 hf
      exact AW.sub [1] rfl (hk0)
    · have hf := ifn c hf
      refine a_iload_n (q := 1) dX11_applyAll_8 rfl rfl ?_
      refine a_if_ne (tgt := 150) dX11_applyAll_9 (by decide) (fun c => ?_) (fun c => ?_)
      · have hf := ifn c hf
        obtain ⟨rfl, rfl⟩ := oc2 hf
        exact AW.sub [1] rfl (hk0)
      · have hf := ifp c hf
        refine a_aload_n (q := 2) dX11_applyAll_12 rfl rfl ?_
        obtain ⟨v1, e2, hf⟩ := obd hf
        refine o_gfR dX11_applyAll_13 lk_X11_110 rfl e2 ?_
        refine o_gz (id := 18) dX11_applyAll_16 wd_835 (by decide) (by decide) (fun _ _ z => z.2.2.2.2.1) ?_
        obtain ⟨k142, ek142, hf⟩ := jn_s hf
        have hj142 : ∀ (p142_2 : Int32) (h142j : hp), k142 p142_2 h142j = some (m2, hq) → AW E yX11_applyAll cX11_applyAll (Option.some Jvm.ClassFile.FieldType.int) 4 D rz h0 hz 142 [(0, .ref x0), (2, .int p142_2), (3, .ref x3)] [] h142j := by
          intro p142_2 h142j hf
          rw [ek142] at hf
          clear ek142
          refine a_aload_n (q := 2) dX11_applyAll_142 rfl rfl ?_
          obtain ⟨v3, e4, hf⟩ := obd hf
          refine o_gfR dX11_applyAll_143 lk_X11_140 rfl e4 ?_
          refine a_astore_n (lv1 := [(3, .ref v3), (0, .ref x0), (2, .int p142_2)]) dX11_applyAll_146 rfl (by decide) rfl ?_
          refine a_goto (tgt := 4) dX11_applyAll_147 (by decide) ?_
          exact AW.sub [1, 2, 0] rfl (ih _ _ _ _ _ _ hf hk0)
        clear ek142
        obtain ⟨_, e5, hf⟩ := obd hf
        refine o_acm (tgt := 40) dX11_applyAll_19 (by decide) e5 (fun c => ?_) (fun c => ?_)
        · have hf := ifn c hf
          refine a_aload_n (q := 0) dX11_applyAll_40 rfl rfl ?_
          obtain ⟨v6, e7, hf⟩ := obd hf
          refine o_gfI dX11_applyAll_41 lk_X11_23 rfl e7 ?_
          by_cases c44_0 : v6 = 1
          · have hf := ifp c44_0 hf
            refine a_tblIn (k := 1) (off := 32) (tgt := 76) dX11_applyAll_44 c44_0 (by decide) (by decide) rfl (by decide) ?_
            refine a_aload_n (q := 0) dX11_applyAll_76 rfl rfl ?_
            refine a_aload_n (q := 2) dX11_applyAll_77 rfl rfl ?_
            obtain ⟨v8, e9, hf⟩ := obd hf
            refine o_gfR dX11_applyAll_78 lk_X11_110 rfl e9 ?_
            refine a_aload_n (q := 2) dX11_applyAll_81 rfl rfl ?_
            obtain ⟨v10, e11, hf⟩ := obd hf
            refine o_gfI dX11_applyAll_82 lk_X11_121 rfl e11 ?_
            obtain ⟨_, e15, hf⟩ := obd hf
            obtain ⟨v13, h14, e12, hf⟩ := ob2 hf
            refine a_callV (as := [.ref v8, .int v10]) (np := 2) (ci := 10) (st := []) (sX11_filterInt E (D - 1) (by omega) e12) dX11_applyAll_85 rfl (by omega) (by decide) cw_X11_127 ⟨wd_840, ws_36⟩ rfl (ckT_s e15) rfl (Nat.le_of_ble_eq_true rfl) ?_
            refine a_istore_n (lv1 := [(2, .int v13), (0, .ref x0), (3, .ref x3)]) dX11_applyAll_88 rfl (by decide) rfl ?_
            refine a_goto (tgt := 142) dX11_applyAll_89 (by decide) ?_
            exact AW.sub [1, 0, 2] rfl (hj142 _ _ hf)
          have hf := ifn c44_0 hf
          by_cases c44_1 : v6 = 2
          · have hf := ifp c44_1 hf
            refine a_tblIn (k := 2) (off := 48) (tgt := 92) dX11_applyAll_44 c44_1 (by decide) (by decide) rfl (by decide) ?_
            refine a_aload_n (q := 0) dX11_applyAll_92 rfl rfl ?_
            refine a_aload_n (q := 2) dX11_applyAll_93 rfl rfl ?_
            obtain ⟨v16, e17, hf⟩ := obd hf
            refine o_gfR dX11_applyAll_94 lk_X11_110 rfl e17 ?_
            refine a_aload_n (q := 2) dX11_applyAll_97 rfl rfl ?_
            obtain ⟨v18, e19, hf⟩ := obd hf
            refine o_gfI dX11_applyAll_98 lk_X11_121 rfl e19 ?_
            obtain ⟨_, e23, hf⟩ := obd hf
            obtain ⟨v21, h22, e20, hf⟩ := ob2 hf
            refine a_callV (as := [.ref v16, .int v18]) (np := 2) (ci := 10) (st := []) (sX11_filterReal E (D - 1) (by omega) e20) dX11_applyAll_101 rfl (by omega) (by decide) cw_X11_131 ⟨wd_864, ws_38⟩ rfl (ckT_s e23) rfl (Nat.le_of_ble_eq_true rfl) ?_
            refine a_istore_n (lv1 := [(2, .int v21), (0, .ref x0), (3, .ref x3)]) dX11_applyAll_104 rfl (by decide) rfl ?_
            refine a_goto (tgt := 142) dX11_applyAll_105 (by decide) ?_
            exact AW.sub [1, 0, 2] rfl (hj142 _ _ hf)
          have hf := ifn c44_1 hf
          by_cases c44_2 : v6 = 3
          · have hf := ifp c44_2 hf
            refine a_tblIn (k := 3) (off := 64) (tgt := 108) dX11_applyAll_44 c44_2 (by decide) (by decide) rfl (by decide) ?_
            refine a_aload_n (q := 0) dX11_applyAll_108 rfl rfl ?_
            refine a_aload_n (q := 2) dX11_applyAll_109 rfl rfl ?_
            obtain ⟨v24, e25, hf⟩ := obd hf
            refine o_gfR dX11_applyAll_110 lk_X11_110 rfl e25 ?_
            refine a_aload_n (q := 2) dX11_applyAll_113 rfl rfl ?_
            obtain ⟨v26, e27, hf⟩ := obd hf
            refine o_gfI dX11_applyAll_114 lk_X11_121 rfl e27 ?_
            obtain ⟨_, e31, hf⟩ := obd hf
            obtain ⟨v29, h30, e28, hf⟩ := ob2 hf
            refine a_callV (as := [.ref v24, .int v26]) (np := 2) (ci := 10) (st := []) (sX11_filterText E (D - 1) (by omega) e28) dX11_applyAll_117 rfl (by omega) (by decide) cw_X11_134 ⟨wd_869, ws_39⟩ rfl (ckT_s e31) rfl (Nat.le_of_ble_eq_true rfl) ?_
            refine a_istore_n (lv1 := [(2, .int v29), (0, .ref x0), (3, .ref x3)]) dX11_applyAll_120 rfl (by decide) rfl ?_
            refine a_goto (tgt := 142) dX11_applyAll_121 (by decide) ?_
            exact AW.sub [1, 0, 2] rfl (hj142 _ _ hf)
          have hf := ifn c44_2 hf
          by_cases c44_3 : v6 = 4
          · have hf := ifp c44_3 hf
            refine a_tblIn (k := 4) (off := 80) (tgt := 124) dX11_applyAll_44 c44_3 (by decide) (by decide) rfl (by decide) ?_
            refine a_aload_n (q := 0) dX11_applyAll_124 rfl rfl ?_
            refine a_aload_n (q := 2) dX11_applyAll_125 rfl rfl ?_
            obtain ⟨v32, e33, hf⟩ := obd hf
            refine o_gfR dX11_applyAll_126 lk_X11_110 rfl e33 ?_
            refine a_aload_n (q := 2) dX11_applyAll_129 rfl rfl ?_
            obtain ⟨v34, e35, hf⟩ := obd hf
            refine o_gfI dX11_applyAll_130 lk_X11_121 rfl e35 ?_
            obtain ⟨_, e39, hf⟩ := obd hf
            obtain ⟨v37, h38, e36, hf⟩ := ob2 hf
            refine a_callV (as := [.ref v32, .int v34]) (np := 2) (ci := 10) (st := []) (sX11_filterList E (D - 1) (by omega) e36) dX11_applyAll_133 rfl (by omega) (by decide) cw_X11_137 ⟨wd_897, ws_44⟩ rfl (ckT_s e39) rfl (Nat.le_of_ble_eq_true rfl) ?_
            refine a_istore_n (lv1 := [(2, .int v37), (0, .ref x0), (3, .ref x3)]) dX11_applyAll_136 rfl (by decide) rfl ?_
            refine a_goto (tgt := 142) dX11_applyAll_137 (by decide) ?_
            exact AW.sub [1, 0, 2] rfl (hj142 _ _ hf)
          have hf := ifn c44_3 hf
          have t44_0 := lv_neT (a := 1) c44_0 rfl
          have t44_1 := lv_neT (a := 2) c44_1 rfl
          have t44_2 := lv_neT (a := 3) c44_2 rfl
          have t44_3 := lv_neT (a := 4) c44_3 rfl
          refine a_tblOut (tgt := 140) dX11_applyAll_44 (by omega) (by decide) ?_
          refine a_iconst (v := 2) dX11_applyAll_140 (by decide) ?_
          refine a_istore_n (lv1 := [(2, .int 2), (0, .ref x0), (3, .ref x3)]) dX11_applyAll_141 rfl (by decide) rfl ?_
          exact AW.sub [1, 0, 2] rfl (hj142 _ _ hf)
        · have hf := ifp c hf
          refine a_aload_n (q := 0) dX11_applyAll_22 rfl rfl ?_
          obtain ⟨v40, e41, hf⟩ := obd hf
          refine o_gfI dX11_applyAll_23 lk_X11_23 rfl e41 ?_
          refine a_if_ne (tgt := 142) dX11_applyAll_26 (by decide) (fun c => ?_) (fun c => ?_)
          · have hf := ifn c hf
            exact hj142 _ _ hf
          · have hf := ifp c hf
            refine a_aload_n (q := 0) dX11_applyAll_29 rfl rfl ?_
            refine a_aload_n (q := 2) dX11_applyAll_30 rfl rfl ?_
            obtain ⟨v42, e43, hf⟩ := obd hf
            refine o_gfI dX11_applyAll_31 lk_X11_121 rfl e43 ?_
            obtain ⟨_, e46, hf⟩ := obd hf
            obtain ⟨h45, e44, hf⟩ := obd hf
            refine a_callV (as := [.int v42]) (np := 1) (ci := 10) (st := []) (sX11_becomeInt E (D - 1) (by omega) e44) dX11_applyAll_34 rfl (by omega) (by decide) cw_X11_124 ⟨wd_284, wd_285⟩ rfl (ckT_s e46) rfl (Nat.le_of_ble_eq_true rfl) ?_
            refine a_goto (tgt := 142) dX11_applyAll_37 (by decide) ?_
            exact hj142 _ _ hf
set_option maxHeartbeats 4000000 in
set_option maxRecDepth 100000 in
theorem sX11_applyAll (E : gE) (D : Nat) (hD : 4 ≤ D) {a0 : Nat} {a1 : Nat} {h hz : hp} {v0 : Int32} (hf : fX11_applyAll a0 a1 h = some (v0, hz)) : MC E yX11_applyAll cX11_applyAll (Option.some Jvm.ClassFile.FieldType.int) 4 D [.ref a0, .ref a1] h (some (.int v0)) hz := by
  refine MC.of (by decide +kernel) (Nat.le_of_ble_eq_true rfl) rfl ?_
  unfold fX11_applyAll at hf
  show AW E yX11_applyAll cX11_applyAll (Option.some Jvm.ClassFile.FieldType.int) 4 D (some (.int v0)) h hz 0 [(0, .ref a0), (1, .ref a1)] [] h
  refine a_iconst (v := 0) dX11_applyAll_0 (by decide) ?_
  refine a_istore_n (lv1 := [(2, .int 0), (0, .ref a0), (1, .ref a1)]) dX11_applyAll_1 rfl (by decide) rfl ?_
  refine a_aload_n (q := 2) dX11_applyAll_2 rfl rfl ?_
  refine a_astore_n (lv1 := [(3, .ref a1), (2, .int 0), (0, .ref a0), (1, .ref a1)]) dX11_applyAll_3 rfl (by decide) rfl ?_
  obtain ⟨v3, h2, e1, hf⟩ := ob2 hf
  refine AW.sub [2, 1, 0] rfl (sX11_applyAll_l4 E D hD _ _ _ _ _ _ _ e1 ?_)
  refine a_iload_n (q := 0) dX11_applyAll_150 rfl rfl ?_
  obtain ⟨rfl, rfl⟩ := oc2 hf
  exact a_ireturn dX11_applyAll_151 rfl
def fX12_init_l102 : Nat → Nat → Int32 → hp → Option hp
  | 0, _, _, _ => none
  | n + 1, x0, x3, h =>
    (gfR h x0 11 2).bind fun v1 =>
    (aln 2 h v1).bind fun v3 =>
    if v3 ≤ x3 then (
      some (h)
    ) else (
      (gfR h x0 11 2).bind fun v5 =>
      bd2 (nwO h 0 5) fun v7 h8 =>
      (ckT h8 v7 0).bind fun _ =>
      (fX1_init v7 h8).bind fun h11 =>
      (asR 2 h11 v5 x3 v7).bind fun h13 =>
      fX12_init_l102 n x0 (x3 + 1) h13
    )
def fX12_init (a0 : Nat) (a1 : Nat) (a2 : Nat) (h : hp) : Option hp :=
  (ckT h a0 11).bind fun _ =>
  bd2 (nwA h 2 9) fun v2 h3 =>
  (pfR h3 a0 11 2 v2).bind fun h5 =>
  bd2 (nwA h5 6 48) fun v7 h8 =>
  (pfR h8 a0 11 3 v7).bind fun h10 =>
  bd2 (nwO h10 10 5) fun v12 h13 =>
  (ckT h13 v12 10).bind fun _ =>
  (fX11_init v12 h13).bind fun h16 =>
  (pfR h16 a0 11 4 v12).bind fun h18 =>
  bd2 (nwO h18 10 5) fun v20 h21 =>
  (ckT h21 v20 10).bind fun _ =>
  (fX11_init v20 h21).bind fun h24 =>
  (pfR h24 a0 11 5 v20).bind fun h26 =>
  bd2 (nwO h26 4 2) fun v28 h29 =>
  (ckT h29 v28 4).bind fun _ =>
  (fX5_init v28 53 h29).bind fun h32 =>
  (pfR h32 a0 11 6 v28).bind fun h34 =>
  bd2 (nwO h34 4 2) fun v36 h37 =>
  (ckT h37 v36 4).bind fun _ =>
  (fX5_init v36 400 h37).bind fun h40 =>
  (pfR h40 a0 11 7 v36).bind fun h42 =>
  bd2 (nwA h42 6 348) fun v44 h45 =>
  (pfR h45 a0 11 8 v44).bind fun h47 =>
  bd2 (nwA h47 0 348) fun v49 h50 =>
  (pfR h50 a0 11 9 v49).bind fun h52 =>
  (pfR h52 a0 11 0 a1).bind fun h54 =>
  (pfR h54 a0 11 1 a2).bind fun h56 =>
  (fX12_init_l102 FU a0 0 h56).bind fun h59 =>
  some h59
set_option maxHeartbeats 4000000 in
set_option maxRecDepth 100000 in
theorem sX12_init_l102 (E : gE) (D : Nat) (hD : 2 ≤ D) {rz : Option Value} {h0 hz : hp} : ∀ (n : Nat) (x0 : Nat) (x3 : Int32) (h : hp) (hq : hp), fX12_init_l102 n x0 x3 h = some hq → (AW E yX12_init cX12_init (Option.none : Option Jvm.ClassFile.FieldType) 4 D rz h0 hz 130 [] [] hq) → AW E yX12_init cX12_init (Option.none : Option Jvm.ClassFile.FieldType) 4 D rz h0 hz 102 [(0, .ref x0), (3, .int x3)] [] h := by
  intro n
  induction n with
  | zero =>
    intro x0 x3 h hq hf _
    rw [fX12_init_l102] at hf
    cases hf
  | succ n ih =>
    intro x0 x3 h hq hf hk0
    rw [fX12_init_l102] at hf
    refine a_iload_n (q := 1) dX12_init_102 rfl rfl ?_
    refine a_aload_n (q := 0) dX12_init_103 rfl rfl ?_
    obtain ⟨v1, e2, hf⟩ := obd hf
    refine o_gfR dX12_init_104 lk_X12_13 rfl e2 ?_
    obtain ⟨v3, e4, hf⟩ := obd hf
    refine o_aln dX12_init_107 (by decide) e4 ?_
    refine a_icmp_ge (tgt := 130) dX12_init_108 (by decide) (fun c => ?_) (fun c => ?_)
    · have hf := ifp c hf
      obtain rfl := Option.some.inj hf
      exact AW.sub [] rfl (hk0)
    · have hf := ifn c hf
      refine a_aload_n (q := 0) dX12_init_111 rfl rfl ?_
      obtain ⟨v5, e6, hf⟩ := obd hf
      refine o_gfR dX12_init_112 lk_X12_13 rfl e6 ?_
      refine a_iload_n (q := 1) dX12_init_115 rfl rfl ?_
      obtain ⟨v7, h8, e9, hf⟩ := ob2 hf
      refine o_nwO (ci := 0) dX12_init_116 rfl rfl gu_0 tyX1_ok (by decide) wd_139 wd_145 wd_7 e9 ?_
      refine a_dup dX12_init_119 rfl ?_
      obtain ⟨_, e12, hf⟩ := obd hf
      obtain ⟨h11, e10, hf⟩ := obd hf
      refine a_callI (as := []) (np := 0) (ci := 0) (st := [.ref v7, .int x3, .ref v5]) (sX1_init E (D - 1) (by omega) e10) dX12_init_120 rfl (by omega) (by decide) cw_X12_57 ⟨wd_147, rfl⟩ rfl (ckT_s e12) rfl (Nat.le_of_ble_eq_true rfl) ?_
      obtain ⟨h13, e14, hf⟩ := obd hf
      refine o_asR dX12_init_123 (by decide) e14 ?_
      refine a_iinc (q := 1) (v := (x3 + 1)) (lv1 := [(3, .int (x3 + 1)), (0, .ref x0)]) dX12_init_124 rfl (by rfl) (by decide) rfl ?_
      refine a_goto (tgt := 102) dX12_init_127 (by decide) ?_
      exact AW.sub [1, 0] rfl (ih _ _ _ _ hf hk0)
set_option maxHeartbeats 4000000 in
set_option maxRecDepth 100000 in
theorem sX12_init (E : gE) (D : Nat) (hD : 2 ≤ D) {a0 : Nat} {a1 : Nat} {a2 : Nat} {h hz : hp} (hf : fX12_init a0 a1 a2 h = some hz) : MC E yX12_init cX12_init (Option.none : Option Jvm.ClassFile.FieldType) 4 D [.ref a0, .ref a1, .ref a2] h none hz := by
  refine MC.of (by decide +kernel) (Nat.le_of_ble_eq_true rfl) rfl ?_
  unfold fX12_init at hf
  show AW E yX12_init cX12_init (Option.none : Option Jvm.ClassFile.FieldType) 4 D none h hz 0 [(0, .ref a0), (1, .ref a1), (2, .ref a2)] [] h
  refine a_aload_n (q := 0) dX12_init_0 rfl rfl ?_
  obtain ⟨_, e1, hf⟩ := obd hf
  refine o_objI dX12_init_1 (by omega) wd_138 wd_32 wd_33 (by decide) (ckT_s e1) (Nat.le_of_ble_eq_true rfl) ?_
  refine a_aload_n (q := 0) dX12_init_4 rfl rfl ?_
  refine a_bipush (v := 9) dX12_init_5 (by decide) ?_
  obtain ⟨v2, h3, e4, hf⟩ := ob2 hf
  refine o_nwR (j := 2) dX12_init_7 (by decide) rfl wd_139 (by decide +kernel) e4 ?_
  obtain ⟨h5, e6, hf⟩ := obd hf
  refine o_pfR dX12_init_10 lk_X12_13 (⟨_, rfl, Or.inr ⟨rfl, rfl, rfl, wd_171⟩⟩) rfl e6 ?_
  refine a_aload_n (q := 0) dX12_init_13 rfl rfl ?_
  refine a_bipush (v := 48) dX12_init_14 (by decide) ?_
  obtain ⟨v7, h8, e9, hf⟩ := ob2 hf
  refine o_nwR (j := 6) dX12_init_16 (by decide) rfl wd_141 (by decide +kernel) e9 ?_
  obtain ⟨h10, e11, hf⟩ := obd hf
  refine o_pfR dX12_init_19 lk_X12_19 (⟨_, rfl, Or.inr ⟨rfl, rfl, rfl, wd_172⟩⟩) rfl e11 ?_
  refine a_aload_n (q := 0) dX12_init_22 rfl rfl ?_
  obtain ⟨v12, h13, e14, hf⟩ := ob2 hf
  refine o_nwO (ci := 10) dX12_init_23 rfl rfl gu_10 tyX11_ok (by decide) wd_141 wd_64 wd_4 e14 ?_
  refine a_dup dX12_init_26 rfl ?_
  obtain ⟨_, e17, hf⟩ := obd hf
  obtain ⟨h16, e15, hf⟩ := obd hf
  refine a_callI (as := []) (np := 0) (ci := 10) (st := [.ref v12, .ref a0]) (sX11_init E (D - 1) (by omega) e15) dX12_init_27 rfl (by omega) (by decide) cw_X12_23 ⟨wd_66, rfl⟩ rfl (ckT_s e17) rfl (Nat.le_of_ble_eq_true rfl) ?_
  obtain ⟨h18, e19, hf⟩ := obd hf
  refine o_pfR dX12_init_30 lk_X12_24 (⟨_, rfl, Or.inr ⟨rfl, rfl, rfl, wd_173⟩⟩) rfl e19 ?_
  refine a_aload_n (q := 0) dX12_init_33 rfl rfl ?_
  obtain ⟨v20, h21, e22, hf⟩ := ob2 hf
  refine o_nwO (ci := 10) dX12_init_34 rfl rfl gu_10 tyX11_ok (by decide) wd_141 wd_64 wd_4 e22 ?_
  refine a_dup dX12_init_37 rfl ?_
  obtain ⟨_, e25, hf⟩ := obd hf
  obtain ⟨h24, e23, hf⟩ := obd hf
  refine a_callI (as := []) (np := 0) (ci := 10) (st := [.ref v20, .ref a0]) (sX11_init E (D - 1) (by omega) e23) dX12_init_38 rfl (by omega) (by decide) cw_X12_23 ⟨wd_66, rfl⟩ rfl (ckT_s e25) rfl (Nat.le_of_ble_eq_true rfl) ?_
  obtain ⟨h26, e27, hf⟩ := obd hf
  refine o_pfR dX12_init_41 lk_X12_28 (⟨_, rfl, Or.inr ⟨rfl, rfl, rfl, wd_174⟩⟩) rfl e27 ?_
  refine a_aload_n (q := 0) dX12_init_44 rfl rfl ?_
  obtain ⟨v28, h29, e30, hf⟩ := ob2 hf
  refine o_nwO (ci := 4) dX12_init_45 rfl rfl gu_4 tyX5_ok (by decide) wd_143 wd_45 wd_3 e30 ?_
  refine a_dup dX12_init_48 rfl ?_
  refine a_bipush (v := 53) dX12_init_49 (by decide) ?_
  obtain ⟨_, e33, hf⟩ := obd hf
  obtain ⟨h32, e31, hf⟩ := obd hf
  refine a_callI (as := [.int 53]) (np := 1) (ci := 4) (st := [.ref v28, .ref a0]) (sX5_init E (D - 1) (by omega) e31) dX12_init_51 rfl (by omega) (by decide) cw_X12_33 ⟨wd_47, rfl⟩ rfl (ckT_s e33) rfl (Nat.le_of_ble_eq_true rfl) ?_
  obtain ⟨h34, e35, hf⟩ := obd hf
  refine o_pfR dX12_init_54 lk_X12_36 (⟨_, rfl, Or.inr ⟨rfl, rfl, rfl, wd_175⟩⟩) rfl e35 ?_
  refine a_aload_n (q := 0) dX12_init_57 rfl rfl ?_
  obtain ⟨v36, h37, e38, hf⟩ := ob2 hf
  refine o_nwO (ci := 4) dX12_init_58 rfl rfl gu_4 tyX5_ok (by decide) wd_143 wd_45 wd_3 e38 ?_
  refine a_dup dX12_init_61 rfl ?_
  refine a_sipush (v := 400) dX12_init_62 (by decide) ?_
  obtain ⟨_, e41, hf⟩ := obd hf
  obtain ⟨h40, e39, hf⟩ := obd hf
  refine a_callI (as := [.int 400]) (np := 1) (ci := 4) (st := [.ref v36, .ref a0]) (sX5_init E (D - 1) (by omega) e39) dX12_init_65 rfl (by omega) (by decide) cw_X12_33 ⟨wd_47, rfl⟩ rfl (ckT_s e41) rfl (Nat.le_of_ble_eq_true rfl) ?_
  obtain ⟨h42, e43, hf⟩ := obd hf
  refine o_pfR dX12_init_68 lk_X12_40 (⟨_, rfl, Or.inr ⟨rfl, rfl, rfl, wd_176⟩⟩) rfl e43 ?_
  refine a_aload_n (q := 0) dX12_init_71 rfl rfl ?_
  refine a_sipush (v := 348) dX12_init_72 (by decide) ?_
  obtain ⟨v44, h45, e46, hf⟩ := ob2 hf
  refine o_nwR (j := 6) dX12_init_75 (by decide) rfl wd_141 (by decide +kernel) e46 ?_
  obtain ⟨h47, e48, hf⟩ := obd hf
  refine o_pfR dX12_init_78 lk_X12_43 (⟨_, rfl, Or.inr ⟨rfl, rfl, rfl, wd_178⟩⟩) rfl e48 ?_
  refine a_aload_n (q := 0) dX12_init_81 rfl rfl ?_
  refine a_sipush (v := 348) dX12_init_82 (by decide) ?_
  obtain ⟨v49, h50, e51, hf⟩ := ob2 hf
  refine o_nwI dX12_init_85 wd_63 e51 ?_
  obtain ⟨h52, e53, hf⟩ := obd hf
  refine o_pfR dX12_init_87 lk_X12_46 (⟨_, rfl, Or.inr ⟨rfl, rfl, rfl, wd_179⟩⟩) rfl e53 ?_
  refine a_aload_n (q := 0) dX12_init_90 rfl rfl ?_
  refine a_aload_n (q := 1) dX12_init_91 rfl rfl ?_
  obtain ⟨h54, e55, hf⟩ := obd hf
  refine o_pfR dX12_init_92 lk_X12_50 (⟨_, rfl, Or.inr ⟨rfl, rfl, rfl, wd_169⟩⟩) rfl e55 ?_
  refine a_aload_n (q := 0) dX12_init_95 rfl rfl ?_
  refine a_aload_n (q := 2) dX12_init_96 rfl rfl ?_
  obtain ⟨h56, e57, hf⟩ := obd hf
  refine o_pfR dX12_init_97 lk_X12_54 (⟨_, rfl, Or.inr ⟨rfl, rfl, rfl, wd_170⟩⟩) rfl e57 ?_
  refine a_iconst (v := 0) dX12_init_100 (by decide) ?_
  refine a_istore_n (lv1 := [(3, .int 0), (0, .ref a0), (1, .ref a1), (2, .ref a2)]) dX12_init_101 rfl (by decide) rfl ?_
  obtain ⟨h59, e58, hf⟩ := obd hf
  refine AW.sub [1, 0] rfl (sX12_init_l102 E D hD _ _ _ _ _ e58 ?_)
  obtain rfl := Option.some.inj hf
  exact a_return dX12_init_130 rfl
def fX12_begin (a0 : Nat) (a1 : Int32) (a2 : Int32) (h : hp) : Option hp :=
  (gfR h a0 11 7).bind fun v1 =>
  (ckT h v1 4).bind fun _ =>
  (fX5_empty v1 h).bind fun h4 =>
  (pfI h4 a0 11 11 0).bind fun h6 =>
  (pfI h6 a0 11 12 0).bind fun h8 =>
  (pfI h8 a0 11 13 a1).bind fun h10 =>
  (pfI h10 a0 11 14 0).bind fun h12 =>
  (pfI h12 a0 11 15 (-1)).bind fun h14 =>
  (pfZ h14 a0 11 16 a2).bind fun h16 =>
  (pfZ h16 a0 11 17 0).bind fun h18 =>
  some h18
set_option maxHeartbeats 4000000 in
set_option maxRecDepth 100000 in
theorem sX12_begin (E : gE) (D : Nat) (hD : 1 ≤ D) {a0 : Nat} {a1 : Int32} {a2 : Int32} {h hz : hp} (hf : fX12_begin a0 a1 a2 h = some hz) : MC E yX12_begin cX12_begin (Option.none : Option Jvm.ClassFile.FieldType) 3 D [.ref a0, .int a1, .int a2] h none hz := by
  refine MC.of (by decide +kernel) (Nat.le_of_ble_eq_true rfl) rfl ?_
  unfold fX12_begin at hf
  show AW E yX12_begin cX12_begin (Option.none : Option Jvm.ClassFile.FieldType) 3 D none h hz 0 [(0, .ref a0), (1, .int a1), (2, .int a2)] [] h
  refine a_aload_n (q := 0) dX12_begin_0 rfl rfl ?_
  obtain ⟨v1, e2, hf⟩ := obd hf
  refine o_gfR dX12_begin_1 lk_X12_40 rfl e2 ?_
  obtain ⟨_, e5, hf⟩ := obd hf
  obtain ⟨h4, e3, hf⟩ := obd hf
  refine a_callV (as := []) (np := 0) (ci := 4) (st := []) (sX5_empty E (D - 1) (by omega) e3) dX12_begin_4 rfl (by omega) (by decide) cw_X12_58 ⟨wd_321, wd_322⟩ rfl (ckT_s e5) rfl (Nat.le_of_ble_eq_true rfl) ?_
  refine a_aload_n (q := 0) dX12_begin_7 rfl rfl ?_
  refine a_iconst (v := 0) dX12_begin_8 (by decide) ?_
  obtain ⟨h6, e7, hf⟩ := obd hf
  refine o_pfI dX12_begin_9 lk_X12_61 (⟨_, rfl, Or.inl rfl⟩) rfl e7 ?_
  refine a_aload_n (q := 0) dX12_begin_12 rfl rfl ?_
  refine a_iconst (v := 0) dX12_begin_13 (by decide) ?_
  obtain ⟨h8, e9, hf⟩ := obd hf
  refine o_pfI dX12_begin_14 lk_X12_65 (⟨_, rfl, Or.inl rfl⟩) rfl e9 ?_
  refine a_aload_n (q := 0) dX12_begin_17 rfl rfl ?_
  refine a_iload_n (q := 1) dX12_begin_18 rfl rfl ?_
  obtain ⟨h10, e11, hf⟩ := obd hf
  refine o_pfI dX12_begin_19 lk_X12_68 (⟨_, rfl, Or.inl rfl⟩) rfl e11 ?_
  refine a_aload_n (q := 0) dX12_begin_22 rfl rfl ?_
  refine a_iconst (v := 0) dX12_begin_23 (by decide) ?_
  obtain ⟨h12, e13, hf⟩ := obd hf
  refine o_pfI dX12_begin_24 lk_X12_71 (⟨_, rfl, Or.inl rfl⟩) rfl e13 ?_
  refine a_aload_n (q := 0) dX12_begin_27 rfl rfl ?_
  refine a_iconst (v := (-1)) dX12_begin_28 (by decide) ?_
  obtain ⟨h14, e15, hf⟩ := obd hf
  refine o_pfI dX12_begin_29 lk_X12_74 (⟨_, rfl, Or.inl rfl⟩) rfl e15 ?_
  refine a_aload_n (q := 0) dX12_begin_32 rfl rfl ?_
  refine a_iload_n (q := 2) dX12_begin_33 rfl rfl ?_
  obtain ⟨h16, e17, hf⟩ := obd hf
  refine o_pfZ dX12_begin_34 lk_X12_77 (⟨_, rfl, Or.inl rfl⟩) rfl e17 ?_
  refine a_aload_n (q := 0) dX12_begin_37 rfl rfl ?_
  refine a_iconst (v := 0) dX12_begin_38 (by decide) ?_
  obtain ⟨h18, e19, hf⟩ := obd hf
  refine o_pfZ dX12_begin_39 lk_X12_81 (⟨_, rfl, Or.inl rfl⟩) rfl e19 ?_
  obtain rfl := Option.some.inj hf
  exact a_return dX12_begin_42 rfl

def fJ9_abs_0f7a4 (a0 : Int32) (h : hp) : Option (Int32 × hp) :=
  if 0 ≤ a0 then (
    some (a0, h)
  ) else (
    some ((-a0), h)
  )
set_option maxHeartbeats 4000000 in
set_option maxRecDepth 100000 in
theorem sJ9_abs_0f7a4 (E : gE) (D : Nat) (hD : 0 ≤ D) {a0 : Int32} {h hz : hp} {v0 : Int32} (hf : fJ9_abs_0f7a4 a0 h = some (v0, hz)) : MC E yJ9_abs_0f7a4 cJ9_abs_0f7a4 (Option.some Jvm.ClassFile.FieldType.int) 1 D [.int a0] h (some (.int v0)) hz := by
  refine MC.of (by decide +kernel) (Nat.le_of_ble_eq_true rfl) rfl ?_
  unfold fJ9_abs_0f7a4 at hf
  show AW E yJ9_abs_0f7a4 cJ9_abs_0f7a4 (Option.some Jvm.ClassFile.FieldType.int) 1 D (some (.int v0)) h hz 0 [(0, .int a0)] [] h
  refine a_iload_n (q := 0) dJ9_abs_0f7a4_0 rfl rfl ?_
  refine a_if_ge (tgt := 9) dJ9_abs_0f7a4_1 (by decide) (fun c => ?_) (fun c => ?_)
  · have hf := ifp c hf
    refine a_iload_n (q := 0) dJ9_abs_0f7a4_9 rfl rfl ?_
    obtain ⟨rfl, rfl⟩ := oc2 hf
    exact a_ireturn dJ9_abs_0f7a4_10 rfl
  · have hf := ifn c hf
    refine a_iload_n (q := 0) dJ9_abs_0f7a4_4 rfl rfl ?_
    refine a_ineg dJ9_abs_0f7a4_5 ?_
    refine a_goto (tgt := 10) dJ9_abs_0f7a4_6 (by decide) ?_
    obtain ⟨rfl, rfl⟩ := oc2 hf
    exact a_ireturn dJ9_abs_0f7a4_10 rfl
def fX11_highBitsOf_l20 : Nat → Int32 → Int32 → Int32 → Int32 → hp → Option (Int32 × hp)
  | 0, _, _, _, _, _ => none
  | n + 1, x0, x1, x2, x3, h =>
    if 20 ≤ x3 then (
      some (x2, h)
    ) else (
      if (x1 >>> ((x2 + 1) &&& 31)) ≤ 0 then (
        some (x2, h)
      ) else (
        fX11_highBitsOf_l20 n x0 x1 (x2 + 1) (x3 + 1) h
      )
    )
def fX11_highBitsOf (a0 : Int32) (h : hp) : Option (Int32 × hp) :=
  bd2 (fJ9_abs_0f7a4 a0 h) fun v2 h3 =>
  bd2 (fJ9_min_7cf53 v2 1000000 h3) fun v5 h6 =>
  if 0 < v5 then (
    bd2 (fX11_highBitsOf_l20 FU a0 v5 0 0 h6) fun v9 h8 =>
    if 0 ≤ a0 then (
      some ((((v5 <<< ((20 - v9) &&& 31)) - 1048576) + ((v9 + 1023) <<< ((20 : Int32) &&& 31))), h8)
    ) else (
      some (((((v5 <<< ((20 - v9) &&& 31)) - 1048576) + ((v9 + 1023) <<< ((20 : Int32) &&& 31))) ||| (-2147483648)), h8)
    )
  ) else (
    some (0, h6)
  )
set_option maxHeartbeats 4000000 in
set_option maxRecDepth 100000 in
theorem sX11_highBitsOf_l20 (E : gE) (D : Nat) (hD : 1 ≤ D) {rz : Option Value} {h0 hz : hp} : ∀ (n : Nat) (x0 : Int32) (x1 : Int32) (x2 : Int32) (x3 : Int32) (h : hp) (m2 : Int32) (hq : hp), fX11_highBitsOf_l20 n x0 x1 x2 x3 h = some (m2, hq) → (AW E yX11_highBitsOf cX11_highBitsOf (Option.some Jvm.ClassFile.FieldType.int) 4 D rz h0 hz 44 [(0, .int x0), (1, .int x1), (2, .int m2)] [] hq) → AW E yX11_highBitsOf cX11_highBitsOf (Option.some Jvm.ClassFile.FieldType.int) 4 D rz h0 hz 20 [(0, .int x0), (1, .int x1), (2, .int x2), (3, .int x3)] [] h := by
  intro n
  induction n with
  | zero =>
    intro x0 x1 x2 x3 h m2 hq hf _
    rw [fX11_highBitsOf_l20] at hf
    cases hf
  | succ n ih =>
    intro x0 x1 x2 x3 h m2 hq hf hk0
    rw [fX11_highBitsOf_l20] at hf
    refine a_iload_n (q := 3) dX11_highBitsOf_20 rfl rfl ?_
    refine a_bipush (v := 20) dX11_highBitsOf_21 (by decide) ?_
    refine a_icmp_ge (tgt := 44) dX11_highBitsOf_23 (by decide) (fun c => ?_) (fun c => ?_)
    · have hf := ifp c hf
      obtain ⟨rfl, rfl⟩ := oc2 hf
      exact AW.sub [0, 1, 2] rfl (hk0)
    · have hf := ifn c hf
      refine a_iload_n (q := 1) dX11_highBitsOf_26 rfl rfl ?_
      refine a_iload_n (q := 2) dX11_highBitsOf_27 rfl rfl ?_
      refine a_iconst (v := 1) dX11_highBitsOf_28 (by decide) ?_
      refine a_iadd dX11_highBitsOf_29 ?_
      refine a_ishr dX11_highBitsOf_30 ?_
      refine a_if_le (tgt := 44) dX11_highBitsOf_31 (by decide) (fun c => ?_) (fun c => ?_)
      · have hf := ifp c hf
        obtain ⟨rfl, rfl⟩ := oc2 hf
        exact AW.sub [0, 1, 2] rfl (hk0)
      · have hf := ifn c hf
        refine a_iload_n (q := 2) dX11_highBitsOf_34 rfl rfl ?_
        refine a_iconst (v := 1) dX11_highBitsOf_35 (by decide) ?_
        refine a_iadd dX11_highBitsOf_36 ?_
        refine a_istore_n (lv1 := [(2, .int (x2 + 1)), (0, .int x0), (1, .int x1), (3, .int x3)]) dX11_highBitsOf_37 rfl (by decide) rfl ?_
        refine a_iinc (q := 3) (v := (x3 + 1)) (lv1 := [(3, .int (x3 + 1)), (2, .int (x2 + 1)), (0, .int x0), (1, .int x1)]) dX11_highBitsOf_38 rfl (by rfl) (by decide) rfl ?_
        refine a_goto (tgt := 20) dX11_highBitsOf_41 (by decide) ?_
        exact AW.sub [2, 3, 1, 0] rfl (ih _ _ _ _ _ _ _ hf hk0)
set_option maxHeartbeats 4000000 in
set_option maxRecDepth 100000 in
theorem sX11_highBitsOf (E : gE) (D : Nat) (hD : 1 ≤ D) {a0 : Int32} {h hz : hp} {v0 : Int32} (hf : fX11_highBitsOf a0 h = some (v0, hz)) : MC E yX11_highBitsOf cX11_highBitsOf (Option.some Jvm.ClassFile.FieldType.int) 4 D [.int a0] h (some (.int v0)) hz := by
  refine MC.of (by decide +kernel) (Nat.le_of_ble_eq_true rfl) rfl ?_
  unfold fX11_highBitsOf at hf
  show AW E yX11_highBitsOf cX11_highBitsOf (Option.some Jvm.ClassFile.FieldType.int) 4 D (some (.int v0)) h hz 0 [(0, .int a0)] [] h
  refine a_iload_n (q := 0) dX11_highBitsOf_0 rfl rfl ?_
  obtain ⟨v2, h3, e1, hf⟩ := ob2 hf
  refine a_callS (as := [.int a0]) (np := 1) (st := []) (sJ9_abs_0f7a4 E (D - 1) (by omega) e1) dX11_highBitsOf_1 rfl (by omega) (by decide) cw_X11_78 wd_362 rfl (Nat.le_of_ble_eq_true rfl) ?_
  refine a_ldc (v := 1000000) dX11_highBitsOf_4 wd_860 ?_
  obtain ⟨v5, h6, e4, hf⟩ := ob2 hf
  refine a_callS (as := [.int v2, .int 1000000]) (np := 2) (st := []) (sJ9_min_7cf53 E (D - 1) (by omega) e4) dX11_highBitsOf_6 rfl (by omega) (by decide) cw_X11_56 wd_310 rfl (Nat.le_of_ble_eq_true rfl) ?_
  refine a_istore_n (lv1 := [(1, .int v5), (0, .int a0)]) dX11_highBitsOf_9 rfl (by decide) rfl ?_
  refine a_iload_n (q := 0) dX11_highBitsOf_10 rfl rfl ?_
  refine a_if_gt (tgt := 16) dX11_highBitsOf_11 (by decide) (fun c => ?_) (fun c => ?_)
  · have hf := ifp c hf
    refine a_iconst (v := 0) dX11_highBitsOf_16 (by decide) ?_
    refine a_istore_n (lv1 := [(2, .int 0), (1, .int v5), (0, .int a0)]) dX11_highBitsOf_17 rfl (by decide) rfl ?_
    refine a_iconst (v := 0) dX11_highBitsOf_18 (by decide) ?_
    refine a_istore_n (lv1 := [(3, .int 0), (2, .int 0), (1, .int v5), (0, .int a0)]) dX11_highBitsOf_19 rfl (by decide) rfl ?_
    obtain ⟨v9, h8, e7, hf⟩ := ob2 hf
    refine AW.sub [3, 2, 1, 0] rfl (sX11_highBitsOf_l20 E D hD _ _ _ _ _ _ _ _ e7 ?_)
    refine a_iload_n (q := 1) dX11_highBitsOf_44 rfl rfl ?_
    refine a_bipush (v := 20) dX11_highBitsOf_45 (by decide) ?_
    refine a_iload_n (q := 2) dX11_highBitsOf_47 rfl rfl ?_
    refine a_isub dX11_highBitsOf_48 ?_
    refine a_ishl dX11_highBitsOf_49 ?_
    refine a_ldc (v := 1048576) dX11_highBitsOf_50 wd_861 ?_
    refine a_isub dX11_highBitsOf_52 ?_
    refine a_iload_n (q := 2) dX11_highBitsOf_53 rfl rfl ?_
    refine a_sipush (v := 1023) dX11_highBitsOf_54 (by decide) ?_
    refine a_iadd dX11_highBitsOf_57 ?_
    refine a_bipush (v := 20) dX11_highBitsOf_58 (by decide) ?_
    refine a_ishl dX11_highBitsOf_60 ?_
    refine a_iadd dX11_highBitsOf_61 ?_
    refine a_istore_n (lv1 := [(3, .int (((v5 <<< ((20 - v9) &&& 31)) - 1048576) + ((v9 + 1023) <<< ((20 : Int32) &&& 31)))), (0, .int a0), (1, .int v5), (2, .int v9)]) dX11_highBitsOf_62 rfl (by decide) rfl ?_
    refine a_iload_n (q := 1) dX11_highBitsOf_63 rfl rfl ?_
    refine a_if_ge (tgt := 74) dX11_highBitsOf_64 (by decide) (fun c => ?_) (fun c => ?_)
    · have hf := ifp c hf
      refine a_iload_n (q := 0) dX11_highBitsOf_74 rfl rfl ?_
      obtain ⟨rfl, rfl⟩ := oc2 hf
      exact a_ireturn dX11_highBitsOf_75 rfl
    · have hf := ifn c hf
      refine a_iload_n (q := 0) dX11_highBitsOf_67 rfl rfl ?_
      refine a_ldc (v := (-2147483648)) dX11_highBitsOf_68 wd_381 ?_
      refine a_ior dX11_highBitsOf_70 ?_
      refine a_goto (tgt := 75) dX11_highBitsOf_71 (by decide) ?_
      obtain ⟨rfl, rfl⟩ := oc2 hf
      exact a_ireturn dX11_highBitsOf_75 rfl
  · have hf := ifn c hf
    refine a_iconst (v := 0) dX11_highBitsOf_14 (by decide) ?_
    obtain ⟨rfl, rfl⟩ := oc2 hf
    exact a_ireturn dX11_highBitsOf_15 rfl
def fJ6_compare_7cf53 (a0 : Int32) (a1 : Int32) (h : hp) : Option (Int32 × hp) :=
  if a1 ≤ a0 then (
    if a0 = a1 then (
      some (0, h)
    ) else (
      some (1, h)
    )
  ) else (
    some ((-1), h)
  )
set_option maxHeartbeats 4000000 in
set_option maxRecDepth 100000 in
theorem sJ6_compare_7cf53 (E : gE) (D : Nat) (hD : 0 ≤ D) {a0 : Int32} {a1 : Int32} {h hz : hp} {v0 : Int32} (hf : fJ6_compare_7cf53 a0 a1 h = some (v0, hz)) : MC E yJ6_compare_7cf53 cJ6_compare_7cf53 (Option.some Jvm.ClassFile.FieldType.int) 2 D [.int a0, .int a1] h (some (.int v0)) hz := by
  refine MC.of (by decide +kernel) (Nat.le_of_ble_eq_true rfl) rfl ?_
  unfold fJ6_compare_7cf53 at hf
  show AW E yJ6_compare_7cf53 cJ6_compare_7cf53 (Option.some Jvm.ClassFile.FieldType.int) 2 D (some (.int v0)) h hz 0 [(0, .int a0), (1, .int a1)] [] h
  refine a_iload_n (q := 0) dJ6_compare_7cf53_0 rfl rfl ?_
  refine a_iload_n (q := 1) dJ6_compare_7cf53_1 rfl rfl ?_
  refine a_icmp_ge (tgt := 9) dJ6_compare_7cf53_2 (by decide) (fun c => ?_) (fun c => ?_)
  · have hf := ifp c hf
    refine a_iload_n (q := 0) dJ6_compare_7cf53_9 rfl rfl ?_
    refine a_iload_n (q := 1) dJ6_compare_7cf53_10 rfl rfl ?_
    refine a_icmp_ne (tgt := 18) dJ6_compare_7cf53_11 (by decide) (fun c => ?_) (fun c => ?_)
    · have hf := ifn c hf
      refine a_iconst (v := 1) dJ6_compare_7cf53_18 (by decide) ?_
      obtain ⟨rfl, rfl⟩ := oc2 hf
      exact a_ireturn dJ6_compare_7cf53_19 rfl
    · have hf := ifp c hf
      refine a_iconst (v := 0) dJ6_compare_7cf53_14 (by decide) ?_
      refine a_goto (tgt := 19) dJ6_compare_7cf53_15 (by decide) ?_
      obtain ⟨rfl, rfl⟩ := oc2 hf
      exact a_ireturn dJ6_compare_7cf53_19 rfl
  · have hf := ifn c hf
    refine a_iconst (v := (-1)) dJ6_compare_7cf53_5 (by decide) ?_
    refine a_goto (tgt := 19) dJ6_compare_7cf53_6 (by decide) ?_
    obtain ⟨rfl, rfl⟩ := oc2 hf
    exact a_ireturn dJ6_compare_7cf53_19 rfl
def fX11_compareItems_l14 : Nat → Nat → Nat → Int32 → Int32 → hp → Option (Nat × Int32 × hp)
  | 0, _, _, _, _, _ => none
  | n + 1, x0, x1, x2, x3, h =>
    if x2 ≤ x3 then (
      some (1, x3, h)
    ) else (
      (ckT h x0 10).bind fun _ =>
      bd2 (fX11_at x0 x3 h) fun v2 h3 =>
      (ckT h3 x1 10).bind fun _ =>
      bd2 (fX11_at x1 x3 h3) fun v6 h7 =>
      if v2 = v6 then (
        fX11_compareItems_l14 n x0 x1 x2 (x3 + 1) h7
      ) else (
        some (0, x3, h7)
      )
    )
def fX11_compareItems (a0 : Nat) (a1 : Nat) (h : hp) : Option (Int32 × hp) :=
  (gfI h a0 10 3).bind fun v1 =>
  (gfI h a1 10 3).bind fun v3 =>
  bd2 (fJ9_min_7cf53 v1 v3 h) fun v6 h7 =>
  bd3 (fX11_compareItems_l14 FU a0 a1 v6 0 h7) fun t11 v10 h9 =>
  if t11 = 0 then (
    (ckT h9 a0 10).bind fun _ =>
    bd2 (fX11_at a0 v10 h9) fun v13 h14 =>
    (ckT h14 a1 10).bind fun _ =>
    bd2 (fX11_at a1 v10 h14) fun v17 h18 =>
    if v17 ≤ v13 then (
      some (1, h18)
    ) else (
      some ((-1), h18)
    )
  ) else
  if t11 = 1 then (
    (gfI h9 a0 10 3).bind fun v20 =>
    (gfI h9 a1 10 3).bind fun v22 =>
    bd2 (fJ6_compare_7cf53 v20 v22 h9) fun v25 h26 =>
    some (v25, h26)
  ) else none
set_option maxHeartbeats 4000000 in
set_option maxRecDepth 100000 in
theorem sX11_compareItems_l14 (E : gE) (D : Nat) (hD : 1 ≤ D) {rz : Option Value} {h0 hz : hp} : ∀ (n : Nat) (x0 : Nat) (x1 : Nat) (x2 : Int32) (x3 : Int32) (h : hp) (tq : Nat) (m3 : Int32) (hq : hp), fX11_compareItems_l14 n x0 x1 x2 x3 h = some (tq, m3, hq) → (tq = 0 → AW E yX11_compareItems cX11_compareItems (Option.some Jvm.ClassFile.FieldType.int) 4 D rz h0 hz 32 [(0, .ref x0), (1, .ref x1), (3, .int m3)] [] hq) → (tq = 1 → AW E yX11_compareItems cX11_compareItems (Option.some Jvm.ClassFile.FieldType.int) 4 D rz h0 hz 57 [(0, .ref x0), (1, .ref x1)] [] hq) → AW E yX11_compareItems cX11_compareItems (Option.some Jvm.ClassFile.FieldType.int) 4 D rz h0 hz 14 [(0, .ref x0), (1, .ref x1), (2, .int x2), (3, .int x3)] [] h := by
  intro n
  induction n with
  | zero =>
    intro x0 x1 x2 x3 h tq m3 hq hf _ _
    rw [fX11_compareItems_l14] at hf
    cases hf
  | succ n ih =>
    intro x0 x1 x2 x3 h tq m3 hq hf hk0 hk1
    rw [fX11_compareItems_l14] at hf
    refine a_iload_n (q := 3) dX11_compareItems_14 rfl rfl ?_
    refine a_iload_n (q := 2) dX11_compareItems_15 rfl rfl ?_
    refine a_icmp_ge (tgt := 57) dX11_compareItems_16 (by decide) (fun c => ?_) (fun c => ?_)
    · have hf := ifp c hf
      obtain ⟨rfl, rfl, rfl⟩ := oc3 hf
      exact AW.sub [0, 1] rfl (hk1 rfl)
    · have hf := ifn c hf
      refine a_aload_n (q := 0) dX11_compareItems_19 rfl rfl ?_
      refine a_iload_n (q := 3) dX11_compareItems_20 rfl rfl ?_
      obtain ⟨_, e4, hf⟩ := obd hf
      obtain ⟨v2, h3, e1, hf⟩ := ob2 hf
      refine a_callV (as := [.int x3]) (np := 1) (ci := 10) (st := []) (sX11_at E (D - 1) (by omega) e1) dX11_compareItems_21 rfl (by omega) (by decide) cw_X11_96 ⟨wd_338, wd_339⟩ rfl (ckT_s e4) rfl (Nat.le_of_ble_eq_true rfl) ?_
      refine a_aload_n (q := 1) dX11_compareItems_24 rfl rfl ?_
      refine a_iload_n (q := 3) dX11_compareItems_25 rfl rfl ?_
      obtain ⟨_, e8, hf⟩ := obd hf
      obtain ⟨v6, h7, e5, hf⟩ := ob2 hf
      refine a_callV (as := [.int x3]) (np := 1) (ci := 10) (st := [.int v2]) (sX11_at E (D - 1) (by omega) e5) dX11_compareItems_26 rfl (by omega) (by decide) cw_X11_96 ⟨wd_338, wd_339⟩ rfl (ckT_s e8) rfl (Nat.le_of_ble_eq_true rfl) ?_
      refine a_icmp_eq (tgt := 51) dX11_compareItems_29 (by decide) (fun c => ?_) (fun c => ?_)
      · have hf := ifp c hf
        refine a_iinc (q := 3) (v := (x3 + 1)) (lv1 := [(3, .int (x3 + 1)), (0, .ref x0), (1, .ref x1), (2, .int x2)]) dX11_compareItems_51 rfl (by rfl) (by decide) rfl ?_
        refine a_goto (tgt := 14) dX11_compareItems_54 (by decide) ?_
        exact AW.sub [1, 2, 3, 0] rfl (ih _ _ _ _ _ _ _ _ hf hk0 hk1)
      · have hf := ifn c hf
        obtain ⟨rfl, rfl, rfl⟩ := oc3 hf
        exact AW.sub [0, 1, 3] rfl (hk0 rfl)
set_option maxHeartbeats 4000000 in
set_option maxRecDepth 100000 in
theorem sX11_compareItems (E : gE) (D : Nat) (hD : 1 ≤ D) {a0 : Nat} {a1 : Nat} {h hz : hp} {v0 : Int32} (hf : fX11_compareItems a0 a1 h = some (v0, hz)) : MC E yX11_compareItems cX11_compareItems (Option.some Jvm.ClassFile.FieldType.int) 4 D [.ref a0, .ref a1] h (some (.int v0)) hz := by
  refine MC.of (by decide +kernel) (Nat.le_of_ble_eq_true rfl) rfl ?_
  unfold fX11_compareItems at hf
  show AW E yX11_compareItems cX11_compareItems (Option.some Jvm.ClassFile.FieldType.int) 4 D (some (.int v0)) h hz 0 [(0, .ref a0), (1, .ref a1)] [] h
  refine a_aload_n (q := 0) dX11_compareItems_0 rfl rfl ?_
  obtain ⟨v1, e2, hf⟩ := obd hf
  refine o_gfI dX11_compareItems_1 lk_X11_19 rfl e2 ?_
  refine a_aload_n (q := 1) dX11_compareItems_4 rfl rfl ?_
  obtain ⟨v3, e4, hf⟩ := obd hf
  refine o_gfI dX11_compareItems_5 lk_X11_19 rfl e4 ?_
  obtain ⟨v6, h7, e5, hf⟩ := ob2 hf
  refine a_callS (as := [.int v1, .int v3]) (np := 2) (st := []) (sJ9_min_7cf53 E (D - 1) (by omega) e5) dX11_compareItems_8 rfl (by omega) (by decide) cw_X11_56 wd_310 rfl (Nat.le_of_ble_eq_true rfl) ?_
  refine a_istore_n (lv1 := [(2, .int v6), (0, .ref a0), (1, .ref a1)]) dX11_compareItems_11 rfl (by decide) rfl ?_
  refine a_iconst (v := 0) dX11_compareItems_12 (by decide) ?_
  refine a_istore_n (lv1 := [(3, .int 0), (2, .int v6), (0, .ref a0), (1, .ref a1)]) dX11_compareItems_13 rfl (by decide) rfl ?_
  obtain ⟨t11, v10, h9, e8, hf⟩ := ob3 hf
  refine AW.sub [2, 3, 1, 0] rfl (sX11_compareItems_l14 E D hD _ _ _ _ _ _ _ _ _ e8 (fun c => ?_) (fun c => ?_))
  · have hf := ifp c hf
    refine a_aload_n (q := 0) dX11_compareItems_32 rfl rfl ?_
    refine a_iload_n (q := 2) dX11_compareItems_33 rfl rfl ?_
    obtain ⟨_, e15, hf⟩ := obd hf
    obtain ⟨v13, h14, e12, hf⟩ := ob2 hf
    refine a_callV (as := [.int v10]) (np := 1) (ci := 10) (st := []) (sX11_at E (D - 1) (by omega) e12) dX11_compareItems_34 rfl (by omega) (by decide) cw_X11_96 ⟨wd_338, wd_339⟩ rfl (ckT_s e15) rfl (Nat.le_of_ble_eq_true rfl) ?_
    refine a_aload_n (q := 1) dX11_compareItems_37 rfl rfl ?_
    refine a_iload_n (q := 2) dX11_compareItems_38 rfl rfl ?_
    obtain ⟨_, e19, hf⟩ := obd hf
    obtain ⟨v17, h18, e16, hf⟩ := ob2 hf
    refine a_callV (as := [.int v10]) (np := 1) (ci := 10) (st := [.int v13]) (sX11_at E (D - 1) (by omega) e16) dX11_compareItems_39 rfl (by omega) (by decide) cw_X11_96 ⟨wd_338, wd_339⟩ rfl (ckT_s e19) rfl (Nat.le_of_ble_eq_true rfl) ?_
    refine a_icmp_ge (tgt := 49) dX11_compareItems_42 (by decide) (fun c => ?_) (fun c => ?_)
    · have hf := ifp c hf
      refine a_iconst (v := 1) dX11_compareItems_49 (by decide) ?_
      obtain ⟨rfl, rfl⟩ := oc2 hf
      exact a_ireturn dX11_compareItems_50 rfl
    · have hf := ifn c hf
      refine a_iconst (v := (-1)) dX11_compareItems_45 (by decide) ?_
      refine a_goto (tgt := 50) dX11_compareItems_46 (by decide) ?_
      obtain ⟨rfl, rfl⟩ := oc2 hf
      exact a_ireturn dX11_compareItems_50 rfl
  · have hf := ifn (by rw [c]; decide) hf
    have hf := ifp c hf
    refine a_aload_n (q := 0) dX11_compareItems_57 rfl rfl ?_
    obtain ⟨v20, e21, hf⟩ := obd hf
    refine o_gfI dX11_compareItems_58 lk_X11_19 rfl e21 ?_
    refine a_aload_n (q := 1) dX11_compareItems_61 rfl rfl ?_
    obtain ⟨v22, e23, hf⟩ := obd hf
    refine o_gfI dX11_compareItems_62 lk_X11_19 rfl e23 ?_
    obtain ⟨v25, h26, e24, hf⟩ := ob2 hf
    refine a_callS (as := [.int v20, .int v22]) (np := 2) (st := []) (sJ6_compare_7cf53 E (D - 1) (by omega) e24) dX11_compareItems_65 rfl (by omega) (by decide) cw_X11_91 wd_958 rfl (Nat.le_of_ble_eq_true rfl) ?_
    obtain ⟨rfl, rfl⟩ := oc2 hf
    exact a_ireturn dX11_compareItems_68 rfl
def fX11_isNumeric (a0 : Nat) (h : hp) : Option (Int32 × hp) :=
  (gfI h a0 10 0).bind fun v1 =>
  if v1 = 1 then (
    some (1, h)
  ) else (
    (gfI h a0 10 0).bind fun v3 =>
    if v3 = 2 then (
      some (1, h)
    ) else (
      some (0, h)
    )
  )
set_option maxHeartbeats 4000000 in
set_option maxRecDepth 100000 in
theorem sX11_isNumeric (E : gE) (D : Nat) (hD : 0 ≤ D) {a0 : Nat} {h hz : hp} {v0 : Int32} (hf : fX11_isNumeric a0 h = some (v0, hz)) : MC E yX11_isNumeric cX11_isNumeric (Option.some Jvm.ClassFile.FieldType.boolean) 1 D [.ref a0] h (some (.int v0)) hz := by
  refine MC.of (by decide +kernel) (Nat.le_of_ble_eq_true rfl) rfl ?_
  unfold fX11_isNumeric at hf
  show AW E yX11_isNumeric cX11_isNumeric (Option.some Jvm.ClassFile.FieldType.boolean) 1 D (some (.int v0)) h hz 0 [(0, .ref a0)] [] h
  refine a_aload_n (q := 0) dX11_isNumeric_0 rfl rfl ?_
  obtain ⟨v1, e2, hf⟩ := obd hf
  refine o_gfI dX11_isNumeric_1 lk_X11_23 rfl e2 ?_
  refine a_iconst (v := 1) dX11_isNumeric_4 (by decide) ?_
  refine a_icmp_eq (tgt := 16) dX11_isNumeric_5 (by decide) (fun c => ?_) (fun c => ?_)
  · have hf := ifp c hf
    refine a_iconst (v := 1) dX11_isNumeric_16 (by decide) ?_
    refine a_goto (tgt := 21) dX11_isNumeric_17 (by decide) ?_
    obtain ⟨rfl, rfl⟩ := oc2 hf
    exact a_zreturn dX11_isNumeric_21 rfl (by decide)
  · have hf := ifn c hf
    refine a_aload_n (q := 0) dX11_isNumeric_8 rfl rfl ?_
    obtain ⟨v3, e4, hf⟩ := obd hf
    refine o_gfI dX11_isNumeric_9 lk_X11_23 rfl e4 ?_
    refine a_iconst (v := 2) dX11_isNumeric_12 (by decide) ?_
    refine a_icmp_ne (tgt := 20) dX11_isNumeric_13 (by decide) (fun c => ?_) (fun c => ?_)
    · have hf := ifn c hf
      refine a_iconst (v := 0) dX11_isNumeric_20 (by decide) ?_
      obtain ⟨rfl, rfl⟩ := oc2 hf
      exact a_zreturn dX11_isNumeric_21 rfl (by decide)
    · have hf := ifp c hf
      refine a_iconst (v := 1) dX11_isNumeric_16 (by decide) ?_
      refine a_goto (tgt := 21) dX11_isNumeric_17 (by decide) ?_
      obtain ⟨rfl, rfl⟩ := oc2 hf
      exact a_zreturn dX11_isNumeric_21 rfl (by decide)
def fX11_compareWith (a0 : Nat) (a1 : Nat) (h : hp) : Option (Int32 × hp) :=
  (gfI h a0 10 0).bind fun v1 =>
  jn (fun (h22j : hp) => (
    (ckT h22j a0 10).bind fun _ =>
    bd2 (fX11_isNumeric a0 h22j) fun v4 h5 =>
    if v4 = 0 then (
      some (2, h5)
    ) else (
      (ckT h5 a1 10).bind fun _ =>
      bd2 (fX11_isNumeric a1 h5) fun v8 h9 =>
      if v8 = 0 then (
        some (2, h9)
      ) else (
        (gfI h9 a0 10 0).bind fun v11 =>
        jn (fun (h66j : hp) => (
          (gfI h66j a0 10 0).bind fun v13 =>
          jn (fun (s86_0 : UInt32) (h86j : hp) => (
            (gfI h86j a1 10 0).bind fun v15 =>
            jn (fun (s107_0 : UInt32) (h107j : hp) => (
              if 0 ≤ (Op.cmpValue (FP.fcmp s86_0 s107_0) .g) then (
                if (Op.cmpValue (FP.fcmp s86_0 s107_0) .l) ≤ 0 then (
                  some (0, h107j)
                ) else (
                  some (1, h107j)
                )
              ) else (
                some ((-1), h107j)
              )
              : Option (Int32 × hp))) fun k107 =>
            if v15 = 1 then (
              (gfI h86j a1 10 1).bind fun v19 =>
              k107 (FP.i2f v19) h86j
            ) else (
              (gfF h86j a1 10 2).bind fun v17 =>
              k107 v17 h86j
            )
            : Option (Int32 × hp))) fun k86 =>
          if v13 = 1 then (
            (gfI h66j a0 10 1).bind fun v23 =>
            k86 (FP.i2f v23) h66j
          ) else (
            (gfF h66j a0 10 2).bind fun v21 =>
            k86 v21 h66j
          )
          : Option (Int32 × hp))) fun k66 =>
        if v11 = 1 then (
          (gfI h9 a1 10 0).bind fun v25 =>
          if v25 = 1 then (
            (gfI h9 a0 10 1).bind fun v27 =>
            (gfI h9 a1 10 1).bind fun v29 =>
            bd2 (fJ6_compare_7cf53 v27 v29 h9) fun v32 h33 =>
            some (v32, h33)
          ) else (
            k66 h9
          )
        ) else (
          k66 h9
        )
      )
    )
    : Option (Int32 × hp))) fun k22 =>
  if v1 = 3 then (
    (gfI h a1 10 0).bind fun v34 =>
    if v34 = 3 then (
      (ckT h a0 10).bind fun _ =>
      bd2 (fX11_compareItems a0 a1 h) fun v37 h38 =>
      some (v37, h38)
    ) else (
      k22 h
    )
  ) else (
    k22 h
  )
set_option maxHeartbeats 4000000 in
set_option maxRecDepth 100000 in
theorem sX11_compareWith (E : gE) (D : Nat) (hD : 2 ≤ D) {a0 : Nat} {a1 : Nat} {h hz : hp} {v0 : Int32} (hf : fX11_compareWith a0 a1 h = some (v0, hz)) : MC E yX11_compareWith cX11_compareWith (Option.some Jvm.ClassFile.FieldType.int) 4 D [.ref a0, .ref a1] h (some (.int v0)) hz := by
  refine MC.of (by decide +kernel) (Nat.le_of_ble_eq_true rfl) rfl ?_
  unfold fX11_compareWith at hf
  show AW E yX11_compareWith cX11_compareWith (Option.some Jvm.ClassFile.FieldType.int) 4 D (some (.int v0)) h hz 0 [(0, .ref a0), (1, .ref a1)] [] h
  refine a_aload_n (q := 0) dX11_compareWith_0 rfl rfl ?_
  obtain ⟨v1, e2, hf⟩ := obd hf
  refine o_gfI dX11_compareWith_1 lk_X11_23 rfl e2 ?_
  refine a_iconst (v := 3) dX11_compareWith_4 (by decide) ?_
  obtain ⟨k22, ek22, hf⟩ := jn_s hf
  have hj22 : ∀ (h22j : hp), k22 h22j = some (v0, hz) → AW E yX11_compareWith cX11_compareWith (Option.some Jvm.ClassFile.FieldType.int) 4 D (some (.int v0)) h hz 22 [(0, .ref a0), (1, .ref a1)] [] h22j := by
    intro h22j hf
    rw [ek22] at hf
    clear ek22
    refine a_aload_n (q := 0) dX11_compareWith_22 rfl rfl ?_
    obtain ⟨_, e6, hf⟩ := obd hf
    obtain ⟨v4, h5, e3, hf⟩ := ob2 hf
    refine a_callV (as := []) (np := 0) (ci := 10) (st := []) (sX11_isNumeric E (D - 1) (by omega) e3) dX11_compareWith_23 rfl (by omega) (by decide) cw_X11_87 ⟨wd_962, ws_55⟩ rfl (ckT_s e6) rfl (Nat.le_of_ble_eq_true rfl) ?_
    refine a_if_eq (tgt := 36) dX11_compareWith_26 (by decide) (fun c => ?_) (fun c => ?_)
    · have hf := ifp c hf
      refine a_iconst (v := 2) dX11_compareWith_36 (by decide) ?_
      obtain ⟨rfl, rfl⟩ := oc2 hf
      exact a_ireturn dX11_compareWith_37 rfl
    · have hf := ifn c hf
      refine a_aload_n (q := 1) dX11_compareWith_29 rfl rfl ?_
      obtain ⟨_, e10, hf⟩ := obd hf
      obtain ⟨v8, h9, e7, hf⟩ := ob2 hf
      refine a_callV (as := []) (np := 0) (ci := 10) (st := []) (sX11_isNumeric E (D - 1) (by omega) e7) dX11_compareWith_30 rfl (by omega) (by decide) cw_X11_87 ⟨wd_962, ws_55⟩ rfl (ckT_s e10) rfl (Nat.le_of_ble_eq_true rfl) ?_
      refine a_if_ne (tgt := 38) dX11_compareWith_33 (by decide) (fun c => ?_) (fun c => ?_)
      · have hf := ifn c hf
        refine a_aload_n (q := 0) dX11_compareWith_38 rfl rfl ?_
        obtain ⟨v11, e12, hf⟩ := obd hf
        refine o_gfI dX11_compareWith_39 lk_X11_23 rfl e12 ?_
        refine a_iconst (v := 1) dX11_compareWith_42 (by decide) ?_
        obtain ⟨k66, ek66, hf⟩ := jn_s hf
        have hj66 : ∀ (h66j : hp), k66 h66j = some (v0, hz) → AW E yX11_compareWith cX11_compareWith (Option.some Jvm.ClassFile.FieldType.int) 4 D (some (.int v0)) h hz 66 [(0, .ref a0), (1, .ref a1)] [] h66j := by
          intro h66j hf
          rw [ek66] at hf
          clear ek66
          refine a_aload_n (q := 0) dX11_compareWith_66 rfl rfl ?_
          obtain ⟨v13, e14, hf⟩ := obd hf
          refine o_gfI dX11_compareWith_67 lk_X11_23 rfl e14 ?_
          refine a_iconst (v := 1) dX11_compareWith_70 (by decide) ?_
          obtain ⟨k86, ek86, hf⟩ := jn_s hf
          have hj86 : ∀ (s86_0 : UInt32) (h86j : hp), k86 s86_0 h86j = some (v0, hz) → AW E yX11_compareWith cX11_compareWith (Option.some Jvm.ClassFile.FieldType.int) 4 D (some (.int v0)) h hz 86 [(1, .ref a1)] [.float s86_0] h86j := by
            intro s86_0 h86j hf
            rw [ek86] at hf
            clear ek86
            refine a_fstore_n (lv1 := [(2, .float s86_0), (1, .ref a1)]) dX11_compareWith_86 rfl (by decide) rfl ?_
            refine a_aload_n (q := 1) dX11_compareWith_87 rfl rfl ?_
            obtain ⟨v15, e16, hf⟩ := obd hf
            refine o_gfI dX11_compareWith_88 lk_X11_23 rfl e16 ?_
            refine a_iconst (v := 1) dX11_compareWith_91 (by decide) ?_
            obtain ⟨k107, ek107, hf⟩ := jn_s hf
            have hj107 : ∀ (s107_0 : UInt32) (h107j : hp), k107 s107_0 h107j = some (v0, hz) → AW E yX11_compareWith cX11_compareWith (Option.some Jvm.ClassFile.FieldType.int) 4 D (some (.int v0)) h hz 107 [(2, .float s86_0)] [.float s107_0] h107j := by
              intro s107_0 h107j hf
              rw [ek107] at hf
              clear ek107
              refine a_fstore_n (lv1 := [(3, .float s107_0), (2, .float s86_0)]) dX11_compareWith_107 rfl (by decide) rfl ?_
              refine a_fload_n (q := 1) dX11_compareWith_108 rfl rfl ?_
              refine a_fload_n (q := 0) dX11_compareWith_109 rfl rfl ?_
              refine a_fcmp dX11_compareWith_110 ?_
              refine a_if_ge (tgt := 118) dX11_compareWith_111 (by decide) (fun c => ?_) (fun c => ?_)
              · have hf := ifp c hf
                refine a_fload_n (q := 1) dX11_compareWith_118 rfl rfl ?_
                refine a_fload_n (q := 0) dX11_compareWith_119 rfl rfl ?_
                refine a_fcmp dX11_compareWith_120 ?_
                refine a_if_le (tgt := 128) dX11_compareWith_121 (by decide) (fun c => ?_) (fun c => ?_)
                · have hf := ifp c hf
                  refine a_iconst (v := 0) dX11_compareWith_128 (by decide) ?_
                  obtain ⟨rfl, rfl⟩ := oc2 hf
                  exact a_ireturn dX11_compareWith_129 rfl
                · have hf := ifn c hf
                  refine a_iconst (v := 1) dX11_compareWith_124 (by decide) ?_
                  refine a_goto (tgt := 129) dX11_compareWith_125 (by decide) ?_
                  obtain ⟨rfl, rfl⟩ := oc2 hf
                  exact a_ireturn dX11_compareWith_129 rfl
              · have hf := ifn c hf
                refine a_iconst (v := (-1)) dX11_compareWith_114 (by decide) ?_
                refine a_goto (tgt := 129) dX11_compareWith_115 (by decide) ?_
                obtain ⟨rfl, rfl⟩ := oc2 hf
                exact a_ireturn dX11_compareWith_129 rfl
            clear ek107
            refine a_icmp_ne (tgt := 103) dX11_compareWith_92 (by decide) (fun c => ?_) (fun c => ?_)
            · have hf := ifn c hf
              refine a_aload_n (q := 1) dX11_compareWith_103 rfl rfl ?_
              obtain ⟨v17, e18, hf⟩ := obd hf
              refine o_gfF dX11_compareWith_104 lk_X11_29 rfl e18 ?_
              exact AW.sub [0] rfl (hj107 _ _ hf)
            · have hf := ifp c hf
              refine a_aload_n (q := 1) dX11_compareWith_95 rfl rfl ?_
              obtain ⟨v19, e20, hf⟩ := obd hf
              refine o_gfI dX11_compareWith_96 lk_X11_26 rfl e20 ?_
              refine a_i2f dX11_compareWith_99 ?_
              refine a_goto (tgt := 107) dX11_compareWith_100 (by decide) ?_
              exact AW.sub [0] rfl (hj107 _ _ hf)
          clear ek86
          refine a_icmp_ne (tgt := 82) dX11_compareWith_71 (by decide) (fun c => ?_) (fun c => ?_)
          · have hf := ifn c hf
            refine a_aload_n (q := 0) dX11_compareWith_82 rfl rfl ?_
            obtain ⟨v21, e22, hf⟩ := obd hf
            refine o_gfF dX11_compareWith_83 lk_X11_29 rfl e22 ?_
            exact AW.sub [1] rfl (hj86 _ _ hf)
          · have hf := ifp c hf
            refine a_aload_n (q := 0) dX11_compareWith_74 rfl rfl ?_
            obtain ⟨v23, e24, hf⟩ := obd hf
            refine o_gfI dX11_compareWith_75 lk_X11_26 rfl e24 ?_
            refine a_i2f dX11_compareWith_78 ?_
            refine a_goto (tgt := 86) dX11_compareWith_79 (by decide) ?_
            exact AW.sub [1] rfl (hj86 _ _ hf)
        clear ek66
        refine a_icmp_ne (tgt := 66) dX11_compareWith_43 (by decide) (fun c => ?_) (fun c => ?_)
        · have hf := ifn c hf
          exact hj66 _ hf
        · have hf := ifp c hf
          refine a_aload_n (q := 1) dX11_compareWith_46 rfl rfl ?_
          obtain ⟨v25, e26, hf⟩ := obd hf
          refine o_gfI dX11_compareWith_47 lk_X11_23 rfl e26 ?_
          refine a_iconst (v := 1) dX11_compareWith_50 (by decide) ?_
          refine a_icmp_ne (tgt := 66) dX11_compareWith_51 (by decide) (fun c => ?_) (fun c => ?_)
          · have hf := ifn c hf
            exact hj66 _ hf
          · have hf := ifp c hf
            refine a_aload_n (q := 0) dX11_compareWith_54 rfl rfl ?_
            obtain ⟨v27, e28, hf⟩ := obd hf
            refine o_gfI dX11_compareWith_55 lk_X11_26 rfl e28 ?_
            refine a_aload_n (q := 1) dX11_compareWith_58 rfl rfl ?_
            obtain ⟨v29, e30, hf⟩ := obd hf
            refine o_gfI dX11_compareWith_59 lk_X11_26 rfl e30 ?_
            obtain ⟨v32, h33, e31, hf⟩ := ob2 hf
            refine a_callS (as := [.int v27, .int v29]) (np := 2) (st := []) (sJ6_compare_7cf53 E (D - 1) (by omega) e31) dX11_compareWith_62 rfl (by omega) (by decide) cw_X11_91 wd_958 rfl (Nat.le_of_ble_eq_true rfl) ?_
            obtain ⟨rfl, rfl⟩ := oc2 hf
            exact a_ireturn dX11_compareWith_65 rfl
      · have hf := ifp c hf
        refine a_iconst (v := 2) dX11_compareWith_36 (by decide) ?_
        obtain ⟨rfl, rfl⟩ := oc2 hf
        exact a_ireturn dX11_compareWith_37 rfl
  clear ek22
  refine a_icmp_ne (tgt := 22) dX11_compareWith_5 (by decide) (fun c => ?_) (fun c => ?_)
  · have hf := ifn c hf
    exact hj22 _ hf
  · have hf := ifp c hf
    refine a_aload_n (q := 1) dX11_compareWith_8 rfl rfl ?_
    obtain ⟨v34, e35, hf⟩ := obd hf
    refine o_gfI dX11_compareWith_9 lk_X11_23 rfl e35 ?_
    refine a_iconst (v := 3) dX11_compareWith_12 (by decide) ?_
    refine a_icmp_ne (tgt := 22) dX11_compareWith_13 (by decide) (fun c => ?_) (fun c => ?_)
    · have hf := ifn c hf
      exact hj22 _ hf
    · have hf := ifp c hf
      refine a_aload_n (q := 0) dX11_compareWith_16 rfl rfl ?_
      refine a_aload_n (q := 1) dX11_compareWith_17 rfl rfl ?_
      obtain ⟨_, e39, hf⟩ := obd hf
      obtain ⟨v37, h38, e36, hf⟩ := ob2 hf
      refine a_callV (as := [.ref a1]) (np := 1) (ci := 10) (st := []) (sX11_compareItems E (D - 1) (by omega) e36) dX11_compareWith_18 rfl (by omega) (by decide) cw_X11_83 ⟨wd_955, ws_54⟩ rfl (ckT_s e39) rfl (Nat.le_of_ble_eq_true rfl) ?_
      obtain ⟨rfl, rfl⟩ := oc2 hf
      exact a_ireturn dX11_compareWith_21 rfl
def fX11_showInt_l21 : Nat → Nat → Int32 → Int32 → Int32 → hp → Option (Int32 × hp)
  | 0, _, _, _, _, _ => none
  | n + 1, x1, x2, x3, x4, h =>
    if 6 ≤ x4 then (
      some (x3, h)
    ) else (
      (dvI x2 x3).bind fun v1 =>
      if v1 < 10 then (
        some (x3, h)
      ) else (
        fX11_showInt_l21 n x1 x2 (x3 * 10) (x4 + 1) h
      )
    )
def fX11_showInt_l47 : Nat → Nat → Int32 → Int32 → hp → Option hp
  | 0, _, _, _, _ => none
  | n + 1, x1, x2, x3, h =>
    if x3 ≤ 0 then (
      some (h)
    ) else (
      (dvI x2 x3).bind fun v1 =>
      (rmI v1 10).bind fun v3 =>
      (ckT h x1 4).bind fun _ =>
      bd2 (fX5_add x1 (48 + v3) h) fun v6 h7 =>
      (dvI x3 10).bind fun v9 =>
      fX11_showInt_l47 n x1 x2 v9 h7
    )
def fX11_showInt (a0 : Int32) (a1 : Nat) (h : hp) : Option hp :=
  jn (fun (h11j : hp) => (
    bd2 (fJ9_abs_0f7a4 a0 h11j) fun v2 h3 =>
    bd2 (fX11_showInt_l21 FU a1 v2 1 0 h3) fun v6 h5 =>
    (fX11_showInt_l47 FU a1 v2 v6 h5).bind fun h8 =>
    some h8
    : Option hp)) fun k11 =>
  if 0 ≤ a0 then (
    k11 h
  ) else (
    (ckT h a1 4).bind fun _ =>
    bd2 (fX5_add a1 45 h) fun v10 h11 =>
    k11 h11
  )
set_option maxHeartbeats 4000000 in
set_option maxRecDepth 100000 in
theorem sX11_showInt_l21 (E : gE) (D : Nat) (hD : 1 ≤ D) {rz : Option Value} {h0 hz : hp} : ∀ (n : Nat) (x1 : Nat) (x2 : Int32) (x3 : Int32) (x4 : Int32) (h : hp) (m3 : Int32) (hq : hp), fX11_showInt_l21 n x1 x2 x3 x4 h = some (m3, hq) → (AW E yX11_showInt cX11_showInt (Option.none : Option Jvm.ClassFile.FieldType) 5 D rz h0 hz 47 [(1, .ref x1), (2, .int x2), (3, .int m3)] [] hq) → AW E yX11_showInt cX11_showInt (Option.none : Option Jvm.ClassFile.FieldType) 5 D rz h0 hz 21 [(1, .ref x1), (2, .int x2), (3, .int x3), (4, .int x4)] [] h := by
  intro n
  induction n with
  | zero =>
    intro x1 x2 x3 x4 h m3 hq hf _
    rw [fX11_showInt_l21] at hf
    cases hf
  | succ n ih =>
    intro x1 x2 x3 x4 h m3 hq hf hk0
    rw [fX11_showInt_l21] at hf
    refine a_iload (q := 3) dX11_showInt_21 rfl ?_
    refine a_bipush (v := 6) dX11_showInt_23 (by decide) ?_
    refine a_icmp_ge (tgt := 47) dX11_showInt_25 (by decide) (fun c => ?_) (fun c => ?_)
    · have hf := ifp c hf
      obtain ⟨rfl, rfl⟩ := oc2 hf
      exact AW.sub [0, 1, 2] rfl (hk0)
    · have hf := ifn c hf
      refine a_iload_n (q := 1) dX11_showInt_28 rfl rfl ?_
      refine a_iload_n (q := 2) dX11_showInt_29 rfl rfl ?_
      obtain ⟨v1, e2, hf⟩ := obd hf
      refine o_dvI dX11_showInt_30 e2 ?_
      refine a_bipush (v := 10) dX11_showInt_31 (by decide) ?_
      refine a_icmp_lt (tgt := 47) dX11_showInt_33 (by decide) (fun c => ?_) (fun c => ?_)
      · have hf := ifp c hf
        obtain ⟨rfl, rfl⟩ := oc2 hf
        exact AW.sub [0, 1, 2] rfl (hk0)
      · have hf := ifn c hf
        refine a_iload_n (q := 2) dX11_showInt_36 rfl rfl ?_
        refine a_bipush (v := 10) dX11_showInt_37 (by decide) ?_
        refine a_imul dX11_showInt_39 ?_
        refine a_istore_n (lv1 := [(3, .int (x3 * 10)), (1, .ref x1), (2, .int x2), (4, .int x4)]) dX11_showInt_40 rfl (by decide) rfl ?_
        refine a_iinc (q := 3) (v := (x4 + 1)) (lv1 := [(4, .int (x4 + 1)), (3, .int (x3 * 10)), (1, .ref x1), (2, .int x2)]) dX11_showInt_41 rfl (by rfl) (by decide) rfl ?_
        refine a_goto (tgt := 21) dX11_showInt_44 (by decide) ?_
        exact AW.sub [2, 3, 1, 0] rfl (ih _ _ _ _ _ _ _ hf hk0)
set_option maxHeartbeats 4000000 in
set_option maxRecDepth 100000 in
theorem sX11_showInt_l47 (E : gE) (D : Nat) (hD : 1 ≤ D) {rz : Option Value} {h0 hz : hp} : ∀ (n : Nat) (x1 : Nat) (x2 : Int32) (x3 : Int32) (h : hp) (hq : hp), fX11_showInt_l47 n x1 x2 x3 h = some hq → (AW E yX11_showInt cX11_showInt (Option.none : Option Jvm.ClassFile.FieldType) 5 D rz h0 hz 73 [] [] hq) → AW E yX11_showInt cX11_showInt (Option.none : Option Jvm.ClassFile.FieldType) 5 D rz h0 hz 47 [(1, .ref x1), (2, .int x2), (3, .int x3)] [] h := by
  intro n
  induction n with
  | zero =>
    intro x1 x2 x3 h hq hf _
    rw [fX11_showInt_l47] at hf
    cases hf
  | succ n ih =>
    intro x1 x2 x3 h hq hf hk0
    rw [fX11_showInt_l47] at hf
    refine a_iload_n (q := 2) dX11_showInt_47 rfl rfl ?_
    refine a_if_le (tgt := 73) dX11_showInt_48 (by decide) (fun c => ?_) (fun c => ?_)
    · have hf := ifp c hf
      obtain rfl := Option.some.inj hf
      exact AW.sub [] rfl (hk0)
    · have hf := ifn c hf
      refine a_aload_n (q := 0) dX11_showInt_51 rfl rfl ?_
      refine a_bipush (v := 48) dX11_showInt_52 (by decide) ?_
      refine a_iload_n (q := 1) dX11_showInt_54 rfl rfl ?_
      refine a_iload_n (q := 2) dX11_showInt_55 rfl rfl ?_
      obtain ⟨v1, e2, hf⟩ := obd hf
      refine o_dvI dX11_showInt_56 e2 ?_
      refine a_bipush (v := 10) dX11_showInt_57 (by decide) ?_
      obtain ⟨v3, e4, hf⟩ := obd hf
      refine o_rmI dX11_showInt_59 e4 ?_
      refine a_iadd dX11_showInt_60 ?_
      obtain ⟨_, e8, hf⟩ := obd hf
      obtain ⟨v6, h7, e5, hf⟩ := ob2 hf
      refine a_callV (as := [.int (48 + v3)]) (np := 1) (ci := 4) (st := []) (sX5_add E (D - 1) (by omega) e5) dX11_showInt_61 rfl (by omega) (by decide) cw_X11_105 ⟨wd_358, wd_359⟩ rfl (ckT_s e8) rfl (Nat.le_of_ble_eq_true rfl) ?_
      refine a_pop dX11_showInt_64 rfl ?_
      refine a_iload_n (q := 2) dX11_showInt_65 rfl rfl ?_
      refine a_bipush (v := 10) dX11_showInt_66 (by decide) ?_
      obtain ⟨v9, e10, hf⟩ := obd hf
      refine o_dvI dX11_showInt_68 e10 ?_
      refine a_istore_n (lv1 := [(3, .int v9), (1, .ref x1), (2, .int x2)]) dX11_showInt_69 rfl (by decide) rfl ?_
      refine a_goto (tgt := 47) dX11_showInt_70 (by decide) ?_
      exact AW.sub [1, 2, 0] rfl (ih _ _ _ _ _ hf hk0)
set_option maxHeartbeats 4000000 in
set_option maxRecDepth 100000 in
theorem sX11_showInt (E : gE) (D : Nat) (hD : 1 ≤ D) {a0 : Int32} {a1 : Nat} {h hz : hp} (hf : fX11_showInt a0 a1 h = some hz) : MC E yX11_showInt cX11_showInt (Option.none : Option Jvm.ClassFile.FieldType) 5 D [.int a0, .ref a1] h none hz := by
  refine MC.of (by decide +kernel) (Nat.le_of_ble_eq_true rfl) rfl ?_
  unfold fX11_showInt at hf
  show AW E yX11_showInt cX11_showInt (Option.none : Option Jvm.ClassFile.FieldType) 5 D none h hz 0 [(0, .int a0), (1, .ref a1)] [] h
  refine a_iload_n (q := 0) dX11_showInt_0 rfl rfl ?_
  obtain ⟨k11, ek11, hf⟩ := jn_s hf
  have hj11 : ∀ (h11j : hp), k11 h11j = some hz → AW E yX11_showInt cX11_showInt (Option.none : Option Jvm.ClassFile.FieldType) 5 D none h hz 11 [(0, .int a0), (1, .ref a1)] [] h11j := by
    intro h11j hf
    rw [ek11] at hf
    clear ek11
    refine a_iload_n (q := 0) dX11_showInt_11 rfl rfl ?_
    obtain ⟨v2, h3, e1, hf⟩ := ob2 hf
    refine a_callS (as := [.int a0]) (np := 1) (st := []) (sJ9_abs_0f7a4 E (D - 1) (by omega) e1) dX11_showInt_12 rfl (by omega) (by decide) cw_X11_78 wd_362 rfl (Nat.le_of_ble_eq_true rfl) ?_
    refine a_istore_n (lv1 := [(2, .int v2), (0, .int a0), (1, .ref a1)]) dX11_showInt_15 rfl (by decide) rfl ?_
    refine a_iconst (v := 1) dX11_showInt_16 (by decide) ?_
    refine a_istore_n (lv1 := [(3, .int 1), (2, .int v2), (0, .int a0), (1, .ref a1)]) dX11_showInt_17 rfl (by decide) rfl ?_
    refine a_iconst (v := 0) dX11_showInt_18 (by decide) ?_
    refine a_istore (lv1 := [(4, .int 0), (3, .int 1), (2, .int v2), (0, .int a0), (1, .ref a1)]) dX11_showInt_19 (by decide) rfl ?_
    obtain ⟨v6, h5, e4, hf⟩ := ob2 hf
    refine AW.sub [4, 2, 1, 0] rfl (sX11_showInt_l21 E D hD _ _ _ _ _ _ _ _ e4 ?_)
    obtain ⟨h8, e7, hf⟩ := obd hf
    refine sX11_showInt_l47 E D hD _ _ _ _ _ _ e7 ?_
    obtain rfl := Option.some.inj hf
    exact a_return dX11_showInt_73 rfl
  clear ek11
  refine a_if_ge (tgt := 11) dX11_showInt_1 (by decide) (fun c => ?_) (fun c => ?_)
  · have hf := ifp c hf
    exact hj11 _ hf
  · have hf := ifn c hf
    refine a_aload_n (q := 1) dX11_showInt_4 rfl rfl ?_
    refine a_bipush (v := 45) dX11_showInt_5 (by decide) ?_
    obtain ⟨_, e12, hf⟩ := obd hf
    obtain ⟨v10, h11, e9, hf⟩ := ob2 hf
    refine a_callV (as := [.int 45]) (np := 1) (ci := 4) (st := []) (sX5_add E (D - 1) (by omega) e9) dX11_showInt_7 rfl (by omega) (by decide) cw_X11_105 ⟨wd_358, wd_359⟩ rfl (ckT_s e12) rfl (Nat.le_of_ble_eq_true rfl) ?_
    refine a_pop dX11_showInt_10 rfl ?_
    exact hj11 _ hf
def fX11_showReal (a0 : Nat) (a1 : Nat) (h : hp) : Option hp :=
  (gfF h a0 10 2).bind fun v1 =>
  jn (fun (h16j : hp) => (
    (gfF h16j a0 10 2).bind fun v3 =>
    jn (fun (s37_0 : UInt32) (h37j : hp) => (
      (fnn (FP.fsub s37_0 (FP.i2f (FP.f2i s37_0)))).bind fun v5 =>
      (fnn (FP.fmul v5 1148846080)).bind fun v7 =>
      (fX11_showInt (FP.f2i s37_0) a1 h37j).bind fun h10 =>
      (ckT h10 a1 4).bind fun _ =>
      bd2 (fX5_add a1 46 h10) fun v12 h13 =>
      (dvI (FP.f2i v7) 100).bind fun v15 =>
      (rmI v15 10).bind fun v17 =>
      (ckT h13 a1 4).bind fun _ =>
      bd2 (fX5_add a1 (48 + v17) h13) fun v20 h21 =>
      (dvI (FP.f2i v7) 10).bind fun v23 =>
      (rmI v23 10).bind fun v25 =>
      (ckT h21 a1 4).bind fun _ =>
      bd2 (fX5_add a1 (48 + v25) h21) fun v28 h29 =>
      (rmI (FP.f2i v7) 10).bind fun v31 =>
      (ckT h29 a1 4).bind fun _ =>
      bd2 (fX5_add a1 (48 + v31) h29) fun v34 h35 =>
      some h35
      : Option hp)) fun k37 =>
    if 0 ≤ (Op.cmpValue (FP.fcmp v3 FP.fconst0) .g) then (
      (gfF h16j a0 10 2).bind fun v37 =>
      k37 v37 h16j
    ) else (
      (gfF h16j a0 10 2).bind fun v39 =>
      k37 (FP.fneg v39) h16j
    )
    : Option hp)) fun k16 =>
  if 0 ≤ (Op.cmpValue (FP.fcmp v1 FP.fconst0) .g) then (
    k16 h
  ) else (
    (ckT h a1 4).bind fun _ =>
    bd2 (fX5_add a1 45 h) fun v42 h43 =>
    k16 h43
  )
set_option maxHeartbeats 4000000 in
set_option maxRecDepth 100000 in
theorem sX11_showReal (E : gE) (D : Nat) (hD : 2 ≤ D) {a0 : Nat} {a1 : Nat} {h hz : hp} (hf : fX11_showReal a0 a1 h = some hz) : MC E yX11_showReal cX11_showReal (Option.none : Option Jvm.ClassFile.FieldType) 5 D [.ref a0, .ref a1] h none hz := by
  refine MC.of (by decide +kernel) (Nat.le_of_ble_eq_true rfl) rfl ?_
  unfold fX11_showReal at hf
  show AW E yX11_showReal cX11_showReal (Option.none : Option Jvm.ClassFile.FieldType) 5 D none h hz 0 [(0, .ref a0), (1, .ref a1)] [] h
  refine a_aload_n (q := 0) dX11_showReal_0 rfl rfl ?_
  obtain ⟨v1, e2, hf⟩ := obd hf
  refine o_gfF dX11_showReal_1 lk_X11_29 rfl e2 ?_
  refine a_fconst0 dX11_showReal_4 ?_
  refine a_fcmp dX11_showReal_5 ?_
  obtain ⟨k16, ek16, hf⟩ := jn_s hf
  have hj16 : ∀ (h16j : hp), k16 h16j = some hz → AW E yX11_showReal cX11_showReal (Option.none : Option Jvm.ClassFile.FieldType) 5 D none h hz 16 [(0, .ref a0), (1, .ref a1)] [] h16j := by
    intro h16j hf
    rw [ek16] at hf
    clear ek16
    refine a_aload_n (q := 0) dX11_showReal_16 rfl rfl ?_
    obtain ⟨v3, e4, hf⟩ := obd hf
    refine o_gfF dX11_showReal_17 lk_X11_29 rfl e4 ?_
    refine a_fconst0 dX11_showReal_20 ?_
    refine a_fcmp dX11_showReal_21 ?_
    obtain ⟨k37, ek37, hf⟩ := jn_s hf
    have hj37 : ∀ (s37_0 : UInt32) (h37j : hp), k37 s37_0 h37j = some hz → AW E yX11_showReal cX11_showReal (Option.none : Option Jvm.ClassFile.FieldType) 5 D none h hz 37 [(1, .ref a1)] [.float s37_0] h37j := by
      intro s37_0 h37j hf
      rw [ek37] at hf
      clear ek37
      refine a_fstore_n (lv1 := [(2, .float s37_0), (1, .ref a1)]) dX11_showReal_37 rfl (by decide) rfl ?_
      refine a_fload_n (q := 0) dX11_showReal_38 rfl rfl ?_
      refine a_f2i dX11_showReal_39 ?_
      refine a_istore_n (lv1 := [(3, .int (FP.f2i s37_0)), (2, .float s37_0), (1, .ref a1)]) dX11_showReal_40 rfl (by decide) rfl ?_
      refine a_fload_n (q := 1) dX11_showReal_41 rfl rfl ?_
      refine a_iload_n (q := 0) dX11_showReal_42 rfl rfl ?_
      refine a_i2f dX11_showReal_43 ?_
      obtain ⟨v5, e6, hf⟩ := obd hf
      refine o_fsub dX11_showReal_44 e6 ?_
      refine a_ldcf (v := 1148846080) dX11_showReal_45 wd_368 ?_
      obtain ⟨v7, e8, hf⟩ := obd hf
      refine o_fmul dX11_showReal_47 e8 ?_
      refine a_f2i dX11_showReal_48 ?_
      refine a_istore (lv1 := [(4, .int (FP.f2i v7)), (3, .int (FP.f2i s37_0)), (2, .float s37_0), (1, .ref a1)]) dX11_showReal_49 (by decide) rfl ?_
      refine a_iload_n (q := 1) dX11_showReal_51 rfl rfl ?_
      refine a_aload_n (q := 3) dX11_showReal_52 rfl rfl ?_
      obtain ⟨h10, e9, hf⟩ := obd hf
      refine a_callS (as := [.int (FP.f2i s37_0), .ref a1]) (np := 2) (st := []) (sX11_showInt E (D - 1) (by omega) e9) dX11_showReal_53 rfl (by omega) (by decide) cw_X11_97 wd_355 rfl (Nat.le_of_ble_eq_true rfl) ?_
      refine a_aload_n (q := 3) dX11_showReal_56 rfl rfl ?_
      refine a_bipush (v := 46) dX11_showReal_57 (by decide) ?_
      obtain ⟨_, e14, hf⟩ := obd hf
      obtain ⟨v12, h13, e11, hf⟩ := ob2 hf
      refine a_callV (as := [.int 46]) (np := 1) (ci := 4) (st := []) (sX5_add E (D - 1) (by omega) e11) dX11_showReal_59 rfl (by omega) (by decide) cw_X11_105 ⟨wd_358, wd_359⟩ rfl (ckT_s e14) rfl (Nat.le_of_ble_eq_true rfl) ?_
      refine a_pop dX11_showReal_62 rfl ?_
      refine a_aload_n (q := 3) dX11_showReal_63 rfl rfl ?_
      refine a_bipush (v := 48) dX11_showReal_64 (by decide) ?_
      refine a_iload (q := 0) dX11_showReal_66 rfl ?_
      refine a_bipush (v := 100) dX11_showReal_68 (by decide) ?_
      obtain ⟨v15, e16, hf⟩ := obd hf
      refine o_dvI dX11_showReal_70 e16 ?_
      refine a_bipush (v := 10) dX11_showReal_71 (by decide) ?_
      obtain ⟨v17, e18, hf⟩ := obd hf
      refine o_rmI dX11_showReal_73 e18 ?_
      refine a_iadd dX11_showReal_74 ?_
      obtain ⟨_, e22, hf⟩ := obd hf
      obtain ⟨v20, h21, e19, hf⟩ := ob2 hf
      refine a_callV (as := [.int (48 + v17)]) (np := 1) (ci := 4) (st := []) (sX5_add E (D - 1) (by omega) e19) dX11_showReal_75 rfl (by omega) (by decide) cw_X11_105 ⟨wd_358, wd_359⟩ rfl (ckT_s e22) rfl (Nat.le_of_ble_eq_true rfl) ?_
      refine a_pop dX11_showReal_78 rfl ?_
      refine a_aload_n (q := 3) dX11_showReal_79 rfl rfl ?_
      refine a_bipush (v := 48) dX11_showReal_80 (by decide) ?_
      refine a_iload (q := 0) dX11_showReal_82 rfl ?_
      refine a_bipush (v := 10) dX11_showReal_84 (by decide) ?_
      obtain ⟨v23, e24, hf⟩ := obd hf
      refine o_dvI dX11_showReal_86 e24 ?_
      refine a_bipush (v := 10) dX11_showReal_87 (by decide) ?_
      obtain ⟨v25, e26, hf⟩ := obd hf
      refine o_rmI dX11_showReal_89 e26 ?_
      refine a_iadd dX11_showReal_90 ?_
      obtain ⟨_, e30, hf⟩ := obd hf
      obtain ⟨v28, h29, e27, hf⟩ := ob2 hf
      refine a_callV (as := [.int (48 + v25)]) (np := 1) (ci := 4) (st := []) (sX5_add E (D - 1) (by omega) e27) dX11_showReal_91 rfl (by omega) (by decide) cw_X11_105 ⟨wd_358, wd_359⟩ rfl (ckT_s e30) rfl (Nat.le_of_ble_eq_true rfl) ?_
      refine a_pop dX11_showReal_94 rfl ?_
      refine a_aload_n (q := 3) dX11_showReal_95 rfl rfl ?_
      refine a_bipush (v := 48) dX11_showReal_96 (by decide) ?_
      refine a_iload (q := 0) dX11_showReal_98 rfl ?_
      refine a_bipush (v := 10) dX11_showReal_100 (by decide) ?_
      obtain ⟨v31, e32, hf⟩ := obd hf
      refine o_rmI dX11_showReal_102 e32 ?_
      refine a_iadd dX11_showReal_103 ?_
      obtain ⟨_, e36, hf⟩ := obd hf
      obtain ⟨v34, h35, e33, hf⟩ := ob2 hf
      refine a_callV (as := [.int (48 + v31)]) (np := 1) (ci := 4) (st := []) (sX5_add E (D - 1) (by omega) e33) dX11_showReal_104 rfl (by omega) (by decide) cw_X11_105 ⟨wd_358, wd_359⟩ rfl (ckT_s e36) rfl (Nat.le_of_ble_eq_true rfl) ?_
      refine a_pop dX11_showReal_107 rfl ?_
      obtain rfl := Option.some.inj hf
      exact a_return dX11_showReal_108 rfl
    clear ek37
    refine a_if_ge (tgt := 33) dX11_showReal_22 (by decide) (fun c => ?_) (fun c => ?_)
    · have hf := ifp c hf
      refine a_aload_n (q := 0) dX11_showReal_33 rfl rfl ?_
      obtain ⟨v37, e38, hf⟩ := obd hf
      refine o_gfF dX11_showReal_34 lk_X11_29 rfl e38 ?_
      exact AW.sub [1] rfl (hj37 _ _ hf)
    · have hf := ifn c hf
      refine a_aload_n (q := 0) dX11_showReal_25 rfl rfl ?_
      obtain ⟨v39, e40, hf⟩ := obd hf
      refine o_gfF dX11_showReal_26 lk_X11_29 rfl e40 ?_
      refine a_fneg dX11_showReal_29 ?_
      refine a_goto (tgt := 37) dX11_showReal_30 (by decide) ?_
      exact AW.sub [1] rfl (hj37 _ _ hf)
  clear ek16
  refine a_if_ge (tgt := 16) dX11_showReal_6 (by decide) (fun c => ?_) (fun c => ?_)
  · have hf := ifp c hf
    exact hj16 _ hf
  · have hf := ifn c hf
    refine a_aload_n (q := 1) dX11_showReal_9 rfl rfl ?_
    refine a_bipush (v := 45) dX11_showReal_10 (by decide) ?_
    obtain ⟨_, e44, hf⟩ := obd hf
    obtain ⟨v42, h43, e41, hf⟩ := ob2 hf
    refine a_callV (as := [.int 45]) (np := 1) (ci := 4) (st := []) (sX5_add E (D - 1) (by omega) e41) dX11_showReal_12 rfl (by omega) (by decide) cw_X11_105 ⟨wd_358, wd_359⟩ rfl (ckT_s e44) rfl (Nat.le_of_ble_eq_true rfl) ?_
    refine a_pop dX11_showReal_15 rfl ?_
    exact hj16 _ hf
def fX11_showInto_l53 : Nat → Nat → Nat → Int32 → hp → Option hp
  | 0, _, _, _, _ => none
  | n + 1, x0, x1, x2, h =>
    (gfI h x0 10 3).bind fun v1 =>
    if v1 ≤ x2 then (
      some (h)
    ) else (
      (ckT h x0 10).bind fun _ =>
      bd2 (fX11_at x0 x2 h) fun v4 h5 =>
      (ckT h5 x1 4).bind fun _ =>
      bd2 (fX5_add x1 v4 h5) fun v8 h9 =>
      fX11_showInto_l53 n x0 x1 (x2 + 1) h9
    )
def fX11_showInto_l80 : Nat → Nat → Nat → Int32 → hp → Option hp
  | 0, _, _, _, _ => none
  | n + 1, x0, x1, x2, h =>
    (gfI h x0 10 3).bind fun v1 =>
    if v1 ≤ x2 then (
      some (h)
    ) else (
      jn (fun (h99j : hp) => (
        (ckT h99j x0 10).bind fun _ =>
        bd2 (fX11_at x0 x2 h99j) fun v4 h5 =>
        (fX11_showInt v4 x1 h5).bind fun h8 =>
        fX11_showInto_l80 n x0 x1 (x2 + 1) h8
        : Option hp)) fun k99 =>
      if x2 ≤ 0 then (
        k99 h
      ) else (
        (ckT h x1 4).bind fun _ =>
        bd2 (fX5_add x1 44 h) fun v10 h11 =>
        k99 h11
      )
    )
def fX11_showInto (a0 : Nat) (a1 : Nat) (h : hp) : Option hp :=
  (gfI h a0 10 0).bind fun v1 =>
  if v1 = 1 then (
    (gfI h a0 10 1).bind fun v3 =>
    (fX11_showInt v3 a1 h).bind fun h6 =>
    some h6
  ) else (
  if v1 = 2 then (
    (ckT h a0 10).bind fun _ =>
    (fX11_showReal a0 a1 h).bind fun h8 =>
    some h8
  ) else (
  if v1 = 3 then (
    (fX11_showInto_l53 FU a0 a1 0 h).bind fun h11 =>
    some h11
  ) else (
  if v1 = 4 then (
    (fX11_showInto_l80 FU a0 a1 0 h).bind fun h13 =>
    some h13
  ) else (
    some h
  ))))
set_option maxHeartbeats 4000000 in
set_option maxRecDepth 100000 in
theorem sX11_showInto_l53 (E : gE) (D : Nat) (hD : 3 ≤ D) {rz : Option Value} {h0 hz : hp} : ∀ (n : Nat) (x0 : Nat) (x1 : Nat) (x2 : Int32) (h : hp) (hq : hp), fX11_showInto_l53 n x0 x1 x2 h = some hq → (AW E yX11_showInto cX11_showInto (Option.none : Option Jvm.ClassFile.FieldType) 3 D rz h0 hz 77 [] [] hq) → AW E yX11_showInto cX11_showInto (Option.none : Option Jvm.ClassFile.FieldType) 3 D rz h0 hz 53 [(0, .ref x0), (1, .ref x1), (2, .int x2)] [] h := by
  intro n
  induction n with
  | zero =>
    intro x0 x1 x2 h hq hf _
    rw [fX11_showInto_l53] at hf
    cases hf
  | succ n ih =>
    intro x0 x1 x2 h hq hf hk0
    rw [fX11_showInto_l53] at hf
    refine a_iload_n (q := 2) dX11_showInto_53 rfl rfl ?_
    refine a_aload_n (q := 0) dX11_showInto_54 rfl rfl ?_
    obtain ⟨v1, e2, hf⟩ := obd hf
    refine o_gfI dX11_showInto_55 lk_X11_19 rfl e2 ?_
    refine a_icmp_ge (tgt := 77) dX11_showInto_58 (by decide) (fun c => ?_) (fun c => ?_)
    · have hf := ifp c hf
      obtain rfl := Option.some.inj hf
      exact AW.sub [] rfl (hk0)
    · have hf := ifn c hf
      refine a_aload_n (q := 1) dX11_showInto_61 rfl rfl ?_
      refine a_aload_n (q := 0) dX11_showInto_62 rfl rfl ?_
      refine a_iload_n (q := 2) dX11_showInto_63 rfl rfl ?_
      obtain ⟨_, e6, hf⟩ := obd hf
      obtain ⟨v4, h5, e3, hf⟩ := ob2 hf
      refine a_callV (as := [.int x2]) (np := 1) (ci := 10) (st := [.ref x1]) (sX11_at E (D - 1) (by omega) e3) dX11_showInto_64 rfl (by omega) (by decide) cw_X11_96 ⟨wd_338, wd_339⟩ rfl (ckT_s e6) rfl (Nat.le_of_ble_eq_true rfl) ?_
      obtain ⟨_, e10, hf⟩ := obd hf
      obtain ⟨v8, h9, e7, hf⟩ := ob2 hf
      refine a_callV (as := [.int v4]) (np := 1) (ci := 4) (st := []) (sX5_add E (D - 1) (by omega) e7) dX11_showInto_67 rfl (by omega) (by decide) cw_X11_105 ⟨wd_358, wd_359⟩ rfl (ckT_s e10) rfl (Nat.le_of_ble_eq_true rfl) ?_
      refine a_pop dX11_showInto_70 rfl ?_
      refine a_iinc (q := 2) (v := (x2 + 1)) (lv1 := [(2, .int (x2 + 1)), (0, .ref x0), (1, .ref x1)]) dX11_showInto_71 rfl (by rfl) (by decide) rfl ?_
      refine a_goto (tgt := 53) dX11_showInto_74 (by decide) ?_
      exact AW.sub [1, 2, 0] rfl (ih _ _ _ _ _ hf hk0)
set_option maxHeartbeats 4000000 in
set_option maxRecDepth 100000 in
theorem sX11_showInto_l80 (E : gE) (D : Nat) (hD : 3 ≤ D) {rz : Option Value} {h0 hz : hp} : ∀ (n : Nat) (x0 : Nat) (x1 : Nat) (x2 : Int32) (h : hp) (hq : hp), fX11_showInto_l80 n x0 x1 x2 h = some hq → (AW E yX11_showInto cX11_showInto (Option.none : Option Jvm.ClassFile.FieldType) 3 D rz h0 hz 114 [] [] hq) → AW E yX11_showInto cX11_showInto (Option.none : Option Jvm.ClassFile.FieldType) 3 D rz h0 hz 80 [(0, .ref x0), (1, .ref x1), (2, .int x2)] [] h := by
  intro n
  induction n with
  | zero =>
    intro x0 x1 x2 h hq hf _
    rw [fX11_showInto_l80] at hf
    cases hf
  | succ n ih =>
    intro x0 x1 x2 h hq hf hk0
    rw [fX11_showInto_l80] at hf
    refine a_iload_n (q := 2) dX11_showInto_80 rfl rfl ?_
    refine a_aload_n (q := 0) dX11_showInto_81 rfl rfl ?_
    obtain ⟨v1, e2, hf⟩ := obd hf
    refine o_gfI dX11_showInto_82 lk_X11_19 rfl e2 ?_
    refine a_icmp_ge (tgt := 114) dX11_showInto_85 (by decide) (fun c => ?_) (fun c => ?_)
    · have hf := ifp c hf
      obtain rfl := Option.some.inj hf
      exact AW.sub [] rfl (hk0)
    · have hf := ifn c hf
      refine a_iload_n (q := 2) dX11_showInto_88 rfl rfl ?_
      obtain ⟨k99, ek99, hf⟩ := jn_s hf
      have hj99 : ∀ (h99j : hp), k99 h99j = some hq → AW E yX11_showInto cX11_showInto (Option.none : Option Jvm.ClassFile.FieldType) 3 D rz h0 hz 99 [(0, .ref x0), (1, .ref x1), (2, .int x2)] [] h99j := by
        intro h99j hf
        rw [ek99] at hf
        clear ek99
        refine a_aload_n (q := 0) dX11_showInto_99 rfl rfl ?_
        refine a_iload_n (q := 2) dX11_showInto_100 rfl rfl ?_
        obtain ⟨_, e6, hf⟩ := obd hf
        obtain ⟨v4, h5, e3, hf⟩ := ob2 hf
        refine a_callV (as := [.int x2]) (np := 1) (ci := 10) (st := []) (sX11_at E (D - 1) (by omega) e3) dX11_showInto_101 rfl (by omega) (by decide) cw_X11_96 ⟨wd_338, wd_339⟩ rfl (ckT_s e6) rfl (Nat.le_of_ble_eq_true rfl) ?_
        refine a_aload_n (q := 1) dX11_showInto_104 rfl rfl ?_
        obtain ⟨h8, e7, hf⟩ := obd hf
        refine a_callS (as := [.int v4, .ref x1]) (np := 2) (st := []) (sX11_showInt E (D - 1) (by omega) e7) dX11_showInto_105 rfl (by omega) (by decide) cw_X11_97 wd_355 rfl (Nat.le_of_ble_eq_true rfl) ?_
        refine a_iinc (q := 2) (v := (x2 + 1)) (lv1 := [(2, .int (x2 + 1)), (0, .ref x0), (1, .ref x1)]) dX11_showInto_108 rfl (by rfl) (by decide) rfl ?_
        refine a_goto (tgt := 80) dX11_showInto_111 (by decide) ?_
        exact AW.sub [1, 2, 0] rfl (ih _ _ _ _ _ hf hk0)
      clear ek99
      refine a_if_le (tgt := 99) dX11_showInto_89 (by decide) (fun c => ?_) (fun c => ?_)
      · have hf := ifp c hf
        exact hj99 _ hf
      · have hf := ifn c hf
        refine a_aload_n (q := 1) dX11_showInto_92 rfl rfl ?_
        refine a_bipush (v := 44) dX11_showInto_93 (by decide) ?_
        obtain ⟨_, e12, hf⟩ := obd hf
        obtain ⟨v10, h11, e9, hf⟩ := ob2 hf
        refine a_callV (as := [.int 44]) (np := 1) (ci := 4) (st := []) (sX5_add E (D - 1) (by omega) e9) dX11_showInto_95 rfl (by omega) (by decide) cw_X11_105 ⟨wd_358, wd_359⟩ rfl (ckT_s e12) rfl (Nat.le_of_ble_eq_true rfl) ?_
        refine a_pop dX11_showInto_98 rfl ?_
        exact hj99 _ hf
set_option maxHeartbeats 4000000 in
set_option maxRecDepth 100000 in
theorem sX11_showInto (E : gE) (D : Nat) (hD : 3 ≤ D) {a0 : Nat} {a1 : Nat} {h hz : hp} (hf : fX11_showInto a0 a1 h = some hz) : MC E yX11_showInto cX11_showInto (Option.none : Option Jvm.ClassFile.FieldType) 3 D [.ref a0, .ref a1] h none hz := by
  refine MC.of (by decide +kernel) (Nat.le_of_ble_eq_true rfl) rfl ?_
  unfold fX11_showInto at hf
  show AW E yX11_showInto cX11_showInto (Option.none : Option Jvm.ClassFile.FieldType) 3 D none h hz 0 [(0, .ref a0), (1, .ref a1)] [] h
  refine a_aload_n (q := 0) dX11_showInto_0 rfl rfl ?_
  obtain ⟨v1, e2, hf⟩ := obd hf
  refine o_gfI dX11_showInto_1 lk_X11_23 rfl e2 ?_
  by_cases c4_0 : v1 = 1
  · have hf := ifp c4_0 hf
    refine a_tblIn (k := 1) (off := 32) (tgt := 36) dX11_showInto_4 c4_0 (by decide) (by decide) rfl (by decide) ?_
    refine a_aload_n (q := 0) dX11_showInto_36 rfl rfl ?_
    obtain ⟨v3, e4, hf⟩ := obd hf
    refine o_gfI dX11_showInto_37 lk_X11_26 rfl e4 ?_
    refine a_aload_n (q := 1) dX11_showInto_40 rfl rfl ?_
    obtain ⟨h6, e5, hf⟩ := obd hf
    refine a_callS (as := [.int v3, .ref a1]) (np := 2) (st := []) (sX11_showInt E (D - 1) (by omega) e5) dX11_showInto_41 rfl (by omega) (by decide) cw_X11_97 wd_355 rfl (Nat.le_of_ble_eq_true rfl) ?_
    obtain rfl := Option.some.inj hf
    exact a_return dX11_showInto_44 rfl
  have hf := ifn c4_0 hf
  by_cases c4_1 : v1 = 2
  · have hf := ifp c4_1 hf
    refine a_tblIn (k := 2) (off := 41) (tgt := 45) dX11_showInto_4 c4_1 (by decide) (by decide) rfl (by decide) ?_
    refine a_aload_n (q := 0) dX11_showInto_45 rfl rfl ?_
    refine a_aload_n (q := 1) dX11_showInto_46 rfl rfl ?_
    obtain ⟨_, e9, hf⟩ := obd hf
    obtain ⟨h8, e7, hf⟩ := obd hf
    refine a_callV (as := [.ref a1]) (np := 1) (ci := 10) (st := []) (sX11_showReal E (D - 1) (by omega) e7) dX11_showInto_47 rfl (by omega) (by decide) cw_X11_101 ⟨wd_366, ws_2⟩ rfl (ckT_s e9) rfl (Nat.le_of_ble_eq_true rfl) ?_
    obtain rfl := Option.some.inj hf
    exact a_return dX11_showInto_50 rfl
  have hf := ifn c4_1 hf
  by_cases c4_2 : v1 = 3
  · have hf := ifp c4_2 hf
    refine a_tblIn (k := 3) (off := 47) (tgt := 51) dX11_showInto_4 c4_2 (by decide) (by decide) rfl (by decide) ?_
    refine a_iconst (v := 0) dX11_showInto_51 (by decide) ?_
    refine a_istore_n (lv1 := [(2, .int 0), (0, .ref a0), (1, .ref a1)]) dX11_showInto_52 rfl (by decide) rfl ?_
    obtain ⟨h11, e10, hf⟩ := obd hf
    refine AW.sub [1, 2, 0] rfl (sX11_showInto_l53 E D hD _ _ _ _ _ _ e10 ?_)
    obtain rfl := Option.some.inj hf
    exact a_return dX11_showInto_77 rfl
  have hf := ifn c4_2 hf
  by_cases c4_3 : v1 = 4
  · have hf := ifp c4_3 hf
    refine a_tblIn (k := 4) (off := 74) (tgt := 78) dX11_showInto_4 c4_3 (by decide) (by decide) rfl (by decide) ?_
    refine a_iconst (v := 0) dX11_showInto_78 (by decide) ?_
    refine a_istore_n (lv1 := [(2, .int 0), (0, .ref a0), (1, .ref a1)]) dX11_showInto_79 rfl (by decide) rfl ?_
    obtain ⟨h13, e12, hf⟩ := obd hf
    refine AW.sub [1, 2, 0] rfl (sX11_showInto_l80 E D hD _ _ _ _ _ _ e12 ?_)
    obtain rfl := Option.some.inj hf
    exact a_return dX11_showInto_114 rfl
  have hf := ifn c4_3 hf
  have t4_0 := lv_neT (a := 1) c4_0 rfl
  have t4_1 := lv_neT (a := 2) c4_1 rfl
  have t4_2 := lv_neT (a := 3) c4_2 rfl
  have t4_3 := lv_neT (a := 4) c4_3 rfl
  refine a_tblOut (tgt := 115) dX11_showInto_4 (by omega) (by decide) ?_
  obtain rfl := Option.some.inj hf
  exact a_return dX11_showInto_115 rfl
def fJx29ce0_ordinal_8abf5 (a0 : Nat) (h : hp) : Option (Int32 × hp) :=
  (gsO a0).bind fun v1 =>
  some (v1, h)
set_option maxHeartbeats 4000000 in
set_option maxRecDepth 100000 in
theorem sJx29ce0_ordinal_8abf5 (E : gE) (D : Nat) (hD : 0 ≤ D) {a0 : Nat} {h hz : hp} {v0 : Int32} (hf : fJx29ce0_ordinal_8abf5 a0 h = some (v0, hz)) : MC E yJx29ce0_ordinal_8abf5 cJx29ce0_ordinal_8abf5 (Option.some Jvm.ClassFile.FieldType.int) 1 D [.ref a0] h (some (.int v0)) hz := by
  refine MC.of (by decide +kernel) (Nat.le_of_ble_eq_true rfl) rfl ?_
  unfold fJx29ce0_ordinal_8abf5 at hf
  show AW E yJx29ce0_ordinal_8abf5 cJx29ce0_ordinal_8abf5 (Option.some Jvm.ClassFile.FieldType.int) 1 D (some (.int v0)) h hz 0 [(0, .ref a0)] [] h
  refine a_aload_n (q := 0) dJx29ce0_ordinal_8abf5_0 rfl rfl ?_
  obtain ⟨v1, e2, hf⟩ := obd hf
  refine o_gsO dJx29ce0_ordinal_8abf5_1 (Or.inl wd_1847) e2 ?_
  obtain ⟨rfl, rfl⟩ := oc2 hf
  exact a_ireturn dJx29ce0_ordinal_8abf5_4 rfl
def fX11_filterInt (a0 : Nat) (a1 : Nat) (a2 : Int32) (h : hp) : Option (Int32 × hp) :=
  (ckE a1).bind fun _ =>
  (gsO a1).bind fun v3 =>
  (alS 20 v3).bind fun v4 =>
  if v4 = 1 then (
    (gfI h a0 10 1).bind fun v6 =>
    (ckT h a0 10).bind fun _ =>
    bd2 (fX11_becomeCounted a0 ((v6.toInt64) + (a2.toInt64)) h) fun v9 h10 =>
    some (v9, h10)
  ) else (
  if v4 = 2 then (
    (gfI h a0 10 1).bind fun v12 =>
    (ckT h a0 10).bind fun _ =>
    bd2 (fX11_becomeCounted a0 ((v12.toInt64) * (a2.toInt64)) h) fun v15 h16 =>
    some (v15, h16)
  ) else (
  if v4 = 3 then (
    (gfI h a0 10 1).bind fun v18 =>
    (dvI v18 2).bind fun v20 =>
    (ckT h a0 10).bind fun _ =>
    bd2 (fX11_becomeCounted a0 (v20.toInt64) h) fun v23 h24 =>
    some (v23, h24)
  ) else (
  if v4 = 4 then (
    (gfI h a0 10 1).bind fun v26 =>
    (fnn (FP.fdiv (FP.i2f v26) 1077936128)).bind fun v28 =>
    (ckT h a0 10).bind fun _ =>
    (fX11_becomeReal a0 v28 h).bind fun h31 =>
    some (0, h31)
  ) else (
  if v4 = 5 then (
    some (0, h)
  ) else (
  if v4 = 6 then (
    (gfI h a0 10 1).bind fun v33 =>
    (ckT h a0 10).bind fun _ =>
    (fX11_becomeReal a0 (FP.i2f v33) h).bind fun h36 =>
    some (0, h36)
  ) else (
  if v4 = 7 then (
    (gfI h a0 10 1).bind fun v38 =>
    bd2 (fX11_highBitsOf v38 h) fun v41 h42 =>
    (dvI v41 4096).bind fun v43 =>
    (ckT h42 a0 10).bind fun _ =>
    bd2 (fX11_becomeCounted a0 (v43.toInt64) h42) fun v46 h47 =>
    some (v46, h47)
  ) else (
    some (2, h)
  )))))))
set_option maxHeartbeats 4000000 in
set_option maxRecDepth 100000 in
theorem sX11_filterInt (E : gE) (D : Nat) (hD : 2 ≤ D) {a0 : Nat} {a1 : Nat} {a2 : Int32} {h hz : hp} {v0 : Int32} (hf : fX11_filterInt a0 a1 a2 h = some (v0, hz)) : MC E yX11_filterInt cX11_filterInt (Option.some Jvm.ClassFile.FieldType.int) 3 D [.ref a0, .ref a1, .int a2] h (some (.int v0)) hz := by
  refine MC.of (by decide +kernel) (Nat.le_of_ble_eq_true rfl) rfl ?_
  unfold fX11_filterInt at hf
  show AW E yX11_filterInt cX11_filterInt (Option.some Jvm.ClassFile.FieldType.int) 3 D (some (.int v0)) h hz 0 [(0, .ref a0), (1, .ref a1), (2, .int a2)] [] h
  refine o_gz (id := 20) dX11_filterInt_0 wd_842 (by decide) (by decide) (fun _ _ z => z.2.2.2.2.2.1) ?_
  refine a_aload_n (q := 1) dX11_filterInt_3 rfl rfl ?_
  obtain ⟨_, e1, hf⟩ := obd hf
  obtain ⟨v3, e2, hf⟩ := obd hf
  refine o_ord (sJx29ce0_ordinal_8abf5 E (D - 1) (by omega) (by unfold fJx29ce0_ordinal_8abf5; rw [e2]; rfl)) dX11_filterInt_4 (by omega) (by decide) rfl rfl wd_844 wd_845 wd_847 wd_848 wd_15 wd_849 e1 (Nat.le_of_ble_eq_true rfl) ?_
  obtain ⟨v4, e5, hf⟩ := obd hf
  refine o_alS dX11_filterInt_7 e5 ?_
  by_cases c8_0 : v4 = 1
  · have hf := ifp c8_0 hf
    refine a_tblIn (k := 1) (off := 44) (tgt := 52) dX11_filterInt_8 c8_0 (by decide) (by decide) rfl (by decide) ?_
    refine a_aload_n (q := 0) dX11_filterInt_52 rfl rfl ?_
    refine a_aload_n (q := 0) dX11_filterInt_53 rfl rfl ?_
    obtain ⟨v6, e7, hf⟩ := obd hf
    refine o_gfI dX11_filterInt_54 lk_X11_26 rfl e7 ?_
    refine a_i2l dX11_filterInt_57 rfl ?_
    refine a_iload_n (q := 2) dX11_filterInt_58 rfl rfl ?_
    refine a_i2l dX11_filterInt_59 rfl ?_
    refine a_ladd dX11_filterInt_60 ?_
    obtain ⟨_, e11, hf⟩ := obd hf
    obtain ⟨v9, h10, e8, hf⟩ := ob2 hf
    refine a_callV (as := [.long ((v6.toInt64) + (a2.toInt64))]) (np := 1) (ci := 10) (st := []) (sX11_becomeCounted E (D - 1) (by omega) e8) dX11_filterInt_61 rfl (by omega) (by decide) cw_X11_153 ⟨wd_852, ws_37⟩ rfl (ckT_s e11) rfl (Nat.le_of_ble_eq_true rfl) ?_
    obtain ⟨rfl, rfl⟩ := oc2 hf
    exact a_ireturn dX11_filterInt_64 rfl
  have hf := ifn c8_0 hf
  by_cases c8_1 : v4 = 2
  · have hf := ifp c8_1 hf
    refine a_tblIn (k := 2) (off := 57) (tgt := 65) dX11_filterInt_8 c8_1 (by decide) (by decide) rfl (by decide) ?_
    refine a_aload_n (q := 0) dX11_filterInt_65 rfl rfl ?_
    refine a_aload_n (q := 0) dX11_filterInt_66 rfl rfl ?_
    obtain ⟨v12, e13, hf⟩ := obd hf
    refine o_gfI dX11_filterInt_67 lk_X11_26 rfl e13 ?_
    refine a_i2l dX11_filterInt_70 rfl ?_
    refine a_iload_n (q := 2) dX11_filterInt_71 rfl rfl ?_
    refine a_i2l dX11_filterInt_72 rfl ?_
    refine a_lmul dX11_filterInt_73 ?_
    obtain ⟨_, e17, hf⟩ := obd hf
    obtain ⟨v15, h16, e14, hf⟩ := ob2 hf
    refine a_callV (as := [.long ((v12.toInt64) * (a2.toInt64))]) (np := 1) (ci := 10) (st := []) (sX11_becomeCounted E (D - 1) (by omega) e14) dX11_filterInt_74 rfl (by omega) (by decide) cw_X11_153 ⟨wd_852, ws_37⟩ rfl (ckT_s e17) rfl (Nat.le_of_ble_eq_true rfl) ?_
    obtain ⟨rfl, rfl⟩ := oc2 hf
    exact a_ireturn dX11_filterInt_77 rfl
  have hf := ifn c8_1 hf
  by_cases c8_2 : v4 = 3
  · have hf := ifp c8_2 hf
    refine a_tblIn (k := 3) (off := 70) (tgt := 78) dX11_filterInt_8 c8_2 (by decide) (by decide) rfl (by decide) ?_
    refine a_aload_n (q := 0) dX11_filterInt_78 rfl rfl ?_
    refine a_aload_n (q := 0) dX11_filterInt_79 rfl rfl ?_
    obtain ⟨v18, e19, hf⟩ := obd hf
    refine o_gfI dX11_filterInt_80 lk_X11_26 rfl e19 ?_
    refine a_iconst (v := 2) dX11_filterInt_83 (by decide) ?_
    obtain ⟨v20, e21, hf⟩ := obd hf
    refine o_dvI dX11_filterInt_84 e21 ?_
    refine a_i2l dX11_filterInt_85 rfl ?_
    obtain ⟨_, e25, hf⟩ := obd hf
    obtain ⟨v23, h24, e22, hf⟩ := ob2 hf
    refine a_callV (as := [.long (v20.toInt64)]) (np := 1) (ci := 10) (st := []) (sX11_becomeCounted E (D - 1) (by omega) e22) dX11_filterInt_86 rfl (by omega) (by decide) cw_X11_153 ⟨wd_852, ws_37⟩ rfl (ckT_s e25) rfl (Nat.le_of_ble_eq_true rfl) ?_
    obtain ⟨rfl, rfl⟩ := oc2 hf
    exact a_ireturn dX11_filterInt_89 rfl
  have hf := ifn c8_2 hf
  by_cases c8_3 : v4 = 4
  · have hf := ifp c8_3 hf
    refine a_tblIn (k := 4) (off := 82) (tgt := 90) dX11_filterInt_8 c8_3 (by decide) (by decide) rfl (by decide) ?_
    refine a_aload_n (q := 0) dX11_filterInt_90 rfl rfl ?_
    refine a_aload_n (q := 0) dX11_filterInt_91 rfl rfl ?_
    obtain ⟨v26, e27, hf⟩ := obd hf
    refine o_gfI dX11_filterInt_92 lk_X11_26 rfl e27 ?_
    refine a_i2f dX11_filterInt_95 ?_
    refine a_ldcf (v := 1077936128) dX11_filterInt_96 wd_855 ?_
    obtain ⟨v28, e29, hf⟩ := obd hf
    refine o_fdiv dX11_filterInt_98 e29 ?_
    obtain ⟨_, e32, hf⟩ := obd hf
    obtain ⟨h31, e30, hf⟩ := obd hf
    refine a_callV (as := [.float v28]) (np := 1) (ci := 10) (st := []) (sX11_becomeReal E (D - 1) (by omega) e30) dX11_filterInt_99 rfl (by omega) (by decide) cw_X11_158 ⟨wd_292, wd_293⟩ rfl (ckT_s e32) rfl (Nat.le_of_ble_eq_true rfl) ?_
    refine a_iconst (v := 0) dX11_filterInt_102 (by decide) ?_
    obtain ⟨rfl, rfl⟩ := oc2 hf
    exact a_ireturn dX11_filterInt_103 rfl
  have hf := ifn c8_3 hf
  by_cases c8_4 : v4 = 5
  · have hf := ifp c8_4 hf
    refine a_tblIn (k := 5) (off := 96) (tgt := 104) dX11_filterInt_8 c8_4 (by decide) (by decide) rfl (by decide) ?_
    refine a_iconst (v := 0) dX11_filterInt_104 (by decide) ?_
    obtain ⟨rfl, rfl⟩ := oc2 hf
    exact a_ireturn dX11_filterInt_105 rfl
  have hf := ifn c8_4 hf
  by_cases c8_5 : v4 = 6
  · have hf := ifp c8_5 hf
    refine a_tblIn (k := 6) (off := 98) (tgt := 106) dX11_filterInt_8 c8_5 (by decide) (by decide) rfl (by decide) ?_
    refine a_aload_n (q := 0) dX11_filterInt_106 rfl rfl ?_
    refine a_aload_n (q := 0) dX11_filterInt_107 rfl rfl ?_
    obtain ⟨v33, e34, hf⟩ := obd hf
    refine o_gfI dX11_filterInt_108 lk_X11_26 rfl e34 ?_
    refine a_i2f dX11_filterInt_111 ?_
    obtain ⟨_, e37, hf⟩ := obd hf
    obtain ⟨h36, e35, hf⟩ := obd hf
    refine a_callV (as := [.float (FP.i2f v33)]) (np := 1) (ci := 10) (st := []) (sX11_becomeReal E (D - 1) (by omega) e35) dX11_filterInt_112 rfl (by omega) (by decide) cw_X11_158 ⟨wd_292, wd_293⟩ rfl (ckT_s e37) rfl (Nat.le_of_ble_eq_true rfl) ?_
    refine a_iconst (v := 0) dX11_filterInt_115 (by decide) ?_
    obtain ⟨rfl, rfl⟩ := oc2 hf
    exact a_ireturn dX11_filterInt_116 rfl
  have hf := ifn c8_5 hf
  by_cases c8_6 : v4 = 7
  · have hf := ifp c8_6 hf
    refine a_tblIn (k := 7) (off := 109) (tgt := 117) dX11_filterInt_8 c8_6 (by decide) (by decide) rfl (by decide) ?_
    refine a_aload_n (q := 0) dX11_filterInt_117 rfl rfl ?_
    refine a_aload_n (q := 0) dX11_filterInt_118 rfl rfl ?_
    obtain ⟨v38, e39, hf⟩ := obd hf
    refine o_gfI dX11_filterInt_119 lk_X11_26 rfl e39 ?_
    obtain ⟨v41, h42, e40, hf⟩ := ob2 hf
    refine a_callS (as := [.int v38]) (np := 1) (st := [.ref a0]) (sX11_highBitsOf E (D - 1) (by omega) e40) dX11_filterInt_122 rfl (by omega) (by decide) cw_X11_162 wd_858 rfl (Nat.le_of_ble_eq_true rfl) ?_
    refine a_sipush (v := 4096) dX11_filterInt_125 (by decide) ?_
    obtain ⟨v43, e44, hf⟩ := obd hf
    refine o_dvI dX11_filterInt_128 e44 ?_
    refine a_i2l dX11_filterInt_129 rfl ?_
    obtain ⟨_, e48, hf⟩ := obd hf
    obtain ⟨v46, h47, e45, hf⟩ := ob2 hf
    refine a_callV (as := [.long (v43.toInt64)]) (np := 1) (ci := 10) (st := []) (sX11_becomeCounted E (D - 1) (by omega) e45) dX11_filterInt_130 rfl (by omega) (by decide) cw_X11_153 ⟨wd_852, ws_37⟩ rfl (ckT_s e48) rfl (Nat.le_of_ble_eq_true rfl) ?_
    obtain ⟨rfl, rfl⟩ := oc2 hf
    exact a_ireturn dX11_filterInt_133 rfl
  have hf := ifn c8_6 hf
  have t8_0 := lv_neT (a := 1) c8_0 rfl
  have t8_1 := lv_neT (a := 2) c8_1 rfl
  have t8_2 := lv_neT (a := 3) c8_2 rfl
  have t8_3 := lv_neT (a := 4) c8_3 rfl
  have t8_4 := lv_neT (a := 5) c8_4 rfl
  have t8_5 := lv_neT (a := 6) c8_5 rfl
  have t8_6 := lv_neT (a := 7) c8_6 rfl
  refine a_tblOut (tgt := 134) dX11_filterInt_8 (by omega) (by decide) ?_
  refine a_iconst (v := 2) dX11_filterInt_134 (by decide) ?_
  obtain ⟨rfl, rfl⟩ := oc2 hf
  exact a_ireturn dX11_filterInt_135 rfl
def fX11_becomeItem (a0 : Nat) (a1 : Int32) (h : hp) : Option (Int32 × hp) :=
  (ckT h a0 10).bind fun _ =>
  bd2 (fX11_at a0 a1 h) fun v2 h3 =>
  (gfI h3 a0 10 3).bind fun v5 =>
  bd2 (fX13_among a1 v5 h3) fun v8 h9 =>
  if v8 = 0 then (
    (ckT h9 a0 10).bind fun _ =>
    (fX11_becomeNothing a0 h9).bind fun h11 =>
    some (0, h11)
  ) else (
    (ckT h9 a0 10).bind fun _ =>
    (fX11_becomeInt a0 v2 h9).bind fun h14 =>
    some (0, h14)
  )
set_option maxHeartbeats 4000000 in
set_option maxRecDepth 100000 in
theorem sX11_becomeItem (E : gE) (D : Nat) (hD : 1 ≤ D) {a0 : Nat} {a1 : Int32} {h hz : hp} {v0 : Int32} (hf : fX11_becomeItem a0 a1 h = some (v0, hz)) : MC E yX11_becomeItem cX11_becomeItem (Option.some Jvm.ClassFile.FieldType.int) 3 D [.ref a0, .int a1] h (some (.int v0)) hz := by
  refine MC.of (by decide +kernel) (Nat.le_of_ble_eq_true rfl) rfl ?_
  unfold fX11_becomeItem at hf
  show AW E yX11_becomeItem cX11_becomeItem (Option.some Jvm.ClassFile.FieldType.int) 3 D (some (.int v0)) h hz 0 [(0, .ref a0), (1, .int a1)] [] h
  refine a_aload_n (q := 0) dX11_becomeItem_0 rfl rfl ?_
  refine a_iload_n (q := 1) dX11_becomeItem_1 rfl rfl ?_
  obtain ⟨_, e4, hf⟩ := obd hf
  obtain ⟨v2, h3, e1, hf⟩ := ob2 hf
  refine a_callV (as := [.int a1]) (np := 1) (ci := 10) (st := []) (sX11_at E (D - 1) (by omega) e1) dX11_becomeItem_2 rfl (by omega) (by decide) cw_X11_96 ⟨wd_338, wd_339⟩ rfl (ckT_s e4) rfl (Nat.le_of_ble_eq_true rfl) ?_
  refine a_istore_n (lv1 := [(2, .int v2), (0, .ref a0), (1, .int a1)]) dX11_becomeItem_5 rfl (by decide) rfl ?_
  refine a_iload_n (q := 2) dX11_becomeItem_6 rfl rfl ?_
  refine a_aload_n (q := 1) dX11_becomeItem_7 rfl rfl ?_
  obtain ⟨v5, e6, hf⟩ := obd hf
  refine o_gfI dX11_becomeItem_8 lk_X11_19 rfl e6 ?_
  obtain ⟨v8, h9, e7, hf⟩ := ob2 hf
  refine a_callS (as := [.int a1, .int v5]) (np := 2) (st := []) (sX13_among E (D - 1) (by omega) e7) dX11_becomeItem_11 rfl (by omega) (by decide) cw_X11_194 wd_268 rfl (Nat.le_of_ble_eq_true rfl) ?_
  refine a_if_eq (tgt := 25) dX11_becomeItem_14 (by decide) (fun c => ?_) (fun c => ?_)
  · have hf := ifp c hf
    refine a_aload_n (q := 1) dX11_becomeItem_25 rfl rfl ?_
    obtain ⟨_, e12, hf⟩ := obd hf
    obtain ⟨h11, e10, hf⟩ := obd hf
    refine a_callV (as := []) (np := 0) (ci := 10) (st := []) (sX11_becomeNothing E (D - 1) (by omega) e10) dX11_becomeItem_26 rfl (by omega) (by decide) cw_X11_198 ⟨wd_271, wd_272⟩ rfl (ckT_s e12) rfl (Nat.le_of_ble_eq_true rfl) ?_
    refine a_iconst (v := 0) dX11_becomeItem_29 (by decide) ?_
    obtain ⟨rfl, rfl⟩ := oc2 hf
    exact a_ireturn dX11_becomeItem_30 rfl
  · have hf := ifn c hf
    refine a_aload_n (q := 1) dX11_becomeItem_17 rfl rfl ?_
    refine a_iload_n (q := 0) dX11_becomeItem_18 rfl rfl ?_
    obtain ⟨_, e15, hf⟩ := obd hf
    obtain ⟨h14, e13, hf⟩ := obd hf
    refine a_callV (as := [.int v2]) (np := 1) (ci := 10) (st := []) (sX11_becomeInt E (D - 1) (by omega) e13) dX11_becomeItem_19 rfl (by omega) (by decide) cw_X11_124 ⟨wd_284, wd_285⟩ rfl (ckT_s e15) rfl (Nat.le_of_ble_eq_true rfl) ?_
    refine a_goto (tgt := 29) dX11_becomeItem_22 (by decide) ?_
    refine a_iconst (v := 0) dX11_becomeItem_29 (by decide) ?_
    obtain ⟨rfl, rfl⟩ := oc2 hf
    exact a_ireturn dX11_becomeItem_30 rfl
def fX11_exchange (a0 : Nat) (a1 : Int32) (a2 : Int32) (h : hp) : Option hp :=
  if a1 < 0 then (
    some h
  ) else (
    (gfR h a0 10 4).bind fun v1 =>
    (aln 0 h v1).bind fun v3 =>
    if v3 ≤ a1 then (
      some h
    ) else (
      if a2 < 0 then (
        some h
      ) else (
        (gfR h a0 10 4).bind fun v5 =>
        (aln 0 h v5).bind fun v7 =>
        if a2 < v7 then (
          (gfR h a0 10 4).bind fun v9 =>
          (alI h v9 a1).bind fun v11 =>
          (gfR h a0 10 4).bind fun v13 =>
          (gfR h a0 10 4).bind fun v15 =>
          (alI h v15 a2).bind fun v17 =>
          (asI h v13 a1 v17).bind fun h19 =>
          (gfR h19 a0 10 4).bind fun v21 =>
          (asI h19 v21 a2 v11).bind fun h23 =>
          some h23
        ) else (
          some h
        )
      )
    )
  )
set_option maxHeartbeats 4000000 in
set_option maxRecDepth 100000 in
theorem sX11_exchange (E : gE) (D : Nat) (hD : 0 ≤ D) {a0 : Nat} {a1 : Int32} {a2 : Int32} {h hz : hp} (hf : fX11_exchange a0 a1 a2 h = some hz) : MC E yX11_exchange cX11_exchange (Option.none : Option Jvm.ClassFile.FieldType) 4 D [.ref a0, .int a1, .int a2] h none hz := by
  refine MC.of (by decide +kernel) (Nat.le_of_ble_eq_true rfl) rfl ?_
  unfold fX11_exchange at hf
  show AW E yX11_exchange cX11_exchange (Option.none : Option Jvm.ClassFile.FieldType) 4 D none h hz 0 [(0, .ref a0), (1, .int a1), (2, .int a2)] [] h
  refine a_iload_n (q := 1) dX11_exchange_0 rfl rfl ?_
  refine a_if_lt (tgt := 26) dX11_exchange_1 (by decide) (fun c => ?_) (fun c => ?_)
  · have hf := ifp c hf
    obtain rfl := Option.some.inj hf
    exact a_return dX11_exchange_26 rfl
  · have hf := ifn c hf
    refine a_iload_n (q := 1) dX11_exchange_4 rfl rfl ?_
    refine a_aload_n (q := 0) dX11_exchange_5 rfl rfl ?_
    obtain ⟨v1, e2, hf⟩ := obd hf
    refine o_gfR dX11_exchange_6 lk_X11_9 rfl e2 ?_
    obtain ⟨v3, e4, hf⟩ := obd hf
    refine o_aln dX11_exchange_9 (by decide) e4 ?_
    refine a_icmp_ge (tgt := 26) dX11_exchange_10 (by decide) (fun c => ?_) (fun c => ?_)
    · have hf := ifp c hf
      obtain rfl := Option.some.inj hf
      exact a_return dX11_exchange_26 rfl
    · have hf := ifn c hf
      refine a_iload_n (q := 2) dX11_exchange_13 rfl rfl ?_
      refine a_if_lt (tgt := 26) dX11_exchange_14 (by decide) (fun c => ?_) (fun c => ?_)
      · have hf := ifp c hf
        obtain rfl := Option.some.inj hf
        exact a_return dX11_exchange_26 rfl
      · have hf := ifn c hf
        refine a_iload_n (q := 2) dX11_exchange_17 rfl rfl ?_
        refine a_aload_n (q := 0) dX11_exchange_18 rfl rfl ?_
        obtain ⟨v5, e6, hf⟩ := obd hf
        refine o_gfR dX11_exchange_19 lk_X11_9 rfl e6 ?_
        obtain ⟨v7, e8, hf⟩ := obd hf
        refine o_aln dX11_exchange_22 (by decide) e8 ?_
        refine a_icmp_lt (tgt := 27) dX11_exchange_23 (by decide) (fun c => ?_) (fun c => ?_)
        · have hf := ifp c hf
          refine a_aload_n (q := 0) dX11_exchange_27 rfl rfl ?_
          obtain ⟨v9, e10, hf⟩ := obd hf
          refine o_gfR dX11_exchange_28 lk_X11_9 rfl e10 ?_
          refine a_iload_n (q := 1) dX11_exchange_31 rfl rfl ?_
          obtain ⟨v11, e12, hf⟩ := obd hf
          refine o_alI dX11_exchange_32 e12 ?_
          refine a_istore_n (lv1 := [(3, .int v11), (0, .ref a0), (1, .int a1), (2, .int a2)]) dX11_exchange_33 rfl (by decide) rfl ?_
          refine a_aload_n (q := 1) dX11_exchange_34 rfl rfl ?_
          obtain ⟨v13, e14, hf⟩ := obd hf
          refine o_gfR dX11_exchange_35 lk_X11_9 rfl e14 ?_
          refine a_iload_n (q := 2) dX11_exchange_38 rfl rfl ?_
          refine a_aload_n (q := 1) dX11_exchange_39 rfl rfl ?_
          obtain ⟨v15, e16, hf⟩ := obd hf
          refine o_gfR dX11_exchange_40 lk_X11_9 rfl e16 ?_
          refine a_iload_n (q := 3) dX11_exchange_43 rfl rfl ?_
          obtain ⟨v17, e18, hf⟩ := obd hf
          refine o_alI dX11_exchange_44 e18 ?_
          obtain ⟨h19, e20, hf⟩ := obd hf
          refine o_asI dX11_exchange_45 e20 ?_
          refine a_aload_n (q := 1) dX11_exchange_46 rfl rfl ?_
          obtain ⟨v21, e22, hf⟩ := obd hf
          refine o_gfR dX11_exchange_47 lk_X11_9 rfl e22 ?_
          refine a_iload_n (q := 3) dX11_exchange_50 rfl rfl ?_
          refine a_iload_n (q := 0) dX11_exchange_51 rfl rfl ?_
          obtain ⟨h23, e24, hf⟩ := obd hf
          refine o_asI dX11_exchange_52 e24 ?_
          obtain rfl := Option.some.inj hf
          exact a_return dX11_exchange_53 rfl
        · have hf := ifn c hf
          obtain rfl := Option.some.inj hf
          exact a_return dX11_exchange_26 rfl
def fX11_filterItems_l38 : Nat → Nat → Int32 → hp → Option hp
  | 0, _, _, _ => none
  | n + 1, x0, x3, h =>
    (gfI h x0 10 3).bind fun v1 =>
    (dvI v1 2).bind fun v3 =>
    if v3 ≤ x3 then (
      some (h)
    ) else (
      (gfI h x0 10 3).bind fun v5 =>
      (ckT h x0 10).bind fun _ =>
      (fX11_exchange x0 x3 ((v5 - 1) - x3) h).bind fun h8 =>
      fX11_filterItems_l38 n x0 (x3 + 1) h8
    )
def fX11_filterItems (a0 : Nat) (a1 : Nat) (a2 : Int32) (h : hp) : Option (Int32 × hp) :=
  (ckE a1).bind fun _ =>
  (gsO a1).bind fun v3 =>
  (alS 20 v3).bind fun v4 =>
  if v4 = 15 then (
    (fX11_filterItems_l38 FU a0 0 h).bind fun h7 =>
    some (0, h7)
  ) else (
  if v4 = 16 then (
    (gfI h a0 10 3).bind fun v8 =>
    (ckT h a0 10).bind fun _ =>
    (fX11_becomeInt a0 v8 h).bind fun h11 =>
    some (0, h11)
  ) else (
  if v4 = 17 then (
    (gfI h a0 10 3).bind fun v13 =>
    bd2 (fJ9_min_7cf53 v13 a2 h) fun v16 h17 =>
    (ckT h17 a0 10).bind fun _ =>
    (fX11_resize a0 v16 h17).bind fun h19 =>
    some (0, h19)
  ) else (
    some (2, h)
  )))
set_option maxHeartbeats 4000000 in
set_option maxRecDepth 100000 in
theorem sX11_filterItems_l38 (E : gE) (D : Nat) (hD : 2 ≤ D) {rz : Option Value} {h0 hz : hp} : ∀ (n : Nat) (x0 : Nat) (x3 : Int32) (h : hp) (hq : hp), fX11_filterItems_l38 n x0 x3 h = some hq → (AW E yX11_filterItems cX11_filterItems (Option.some Jvm.ClassFile.FieldType.int) 4 D rz h0 hz 67 [] [] hq) → AW E yX11_filterItems cX11_filterItems (Option.some Jvm.ClassFile.FieldType.int) 4 D rz h0 hz 38 [(0, .ref x0), (3, .int x3)] [] h := by
  intro n
  induction n with
  | zero =>
    intro x0 x3 h hq hf _
    rw [fX11_filterItems_l38] at hf
    cases hf
  | succ n ih =>
    intro x0 x3 h hq hf hk0
    rw [fX11_filterItems_l38] at hf
    refine a_iload_n (q := 1) dX11_filterItems_38 rfl rfl ?_
    refine a_aload_n (q := 0) dX11_filterItems_39 rfl rfl ?_
    obtain ⟨v1, e2, hf⟩ := obd hf
    refine o_gfI dX11_filterItems_40 lk_X11_19 rfl e2 ?_
    refine a_iconst (v := 2) dX11_filterItems_43 (by decide) ?_
    obtain ⟨v3, e4, hf⟩ := obd hf
    refine o_dvI dX11_filterItems_44 e4 ?_
    refine a_icmp_ge (tgt := 67) dX11_filterItems_45 (by decide) (fun c => ?_) (fun c => ?_)
    · have hf := ifp c hf
      obtain rfl := Option.some.inj hf
      exact AW.sub [] rfl (hk0)
    · have hf := ifn c hf
      refine a_aload_n (q := 0) dX11_filterItems_48 rfl rfl ?_
      refine a_iload_n (q := 1) dX11_filterItems_49 rfl rfl ?_
      refine a_aload_n (q := 0) dX11_filterItems_50 rfl rfl ?_
      obtain ⟨v5, e6, hf⟩ := obd hf
      refine o_gfI dX11_filterItems_51 lk_X11_19 rfl e6 ?_
      refine a_iconst (v := 1) dX11_filterItems_54 (by decide) ?_
      refine a_isub dX11_filterItems_55 ?_
      refine a_iload_n (q := 1) dX11_filterItems_56 rfl rfl ?_
      refine a_isub dX11_filterItems_57 ?_
      obtain ⟨_, e9, hf⟩ := obd hf
      obtain ⟨h8, e7, hf⟩ := obd hf
      refine a_callV (as := [.int x3, .int ((v5 - 1) - x3)]) (np := 2) (ci := 10) (st := []) (sX11_exchange E (D - 1) (by omega) e7) dX11_filterItems_58 rfl (by omega) (by decide) cw_X11_191 ⟨wd_893, ws_43⟩ rfl (ckT_s e9) rfl (Nat.le_of_ble_eq_true rfl) ?_
      refine a_iinc (q := 1) (v := (x3 + 1)) (lv1 := [(3, .int (x3 + 1)), (0, .ref x0)]) dX11_filterItems_61 rfl (by rfl) (by decide) rfl ?_
      refine a_goto (tgt := 38) dX11_filterItems_64 (by decide) ?_
      exact AW.sub [1, 0] rfl (ih _ _ _ _ hf hk0)
set_option maxHeartbeats 4000000 in
set_option maxRecDepth 100000 in
theorem sX11_filterItems (E : gE) (D : Nat) (hD : 2 ≤ D) {a0 : Nat} {a1 : Nat} {a2 : Int32} {h hz : hp} {v0 : Int32} (hf : fX11_filterItems a0 a1 a2 h = some (v0, hz)) : MC E yX11_filterItems cX11_filterItems (Option.some Jvm.ClassFile.FieldType.int) 4 D [.ref a0, .ref a1, .int a2] h (some (.int v0)) hz := by
  refine MC.of (by decide +kernel) (Nat.le_of_ble_eq_true rfl) rfl ?_
  unfold fX11_filterItems at hf
  show AW E yX11_filterItems cX11_filterItems (Option.some Jvm.ClassFile.FieldType.int) 4 D (some (.int v0)) h hz 0 [(0, .ref a0), (1, .ref a1), (2, .int a2)] [] h
  refine o_gz (id := 20) dX11_filterItems_0 wd_842 (by decide) (by decide) (fun _ _ z => z.2.2.2.2.2.1) ?_
  refine a_aload_n (q := 1) dX11_filterItems_3 rfl rfl ?_
  obtain ⟨_, e1, hf⟩ := obd hf
  obtain ⟨v3, e2, hf⟩ := obd hf
  refine o_ord (sJx29ce0_ordinal_8abf5 E (D - 1) (by omega) (by unfold fJx29ce0_ordinal_8abf5; rw [e2]; rfl)) dX11_filterItems_4 (by omega) (by decide) rfl rfl wd_844 wd_845 wd_847 wd_848 wd_15 wd_849 e1 (Nat.le_of_ble_eq_true rfl) ?_
  obtain ⟨v4, e5, hf⟩ := obd hf
  refine o_alS dX11_filterItems_7 e5 ?_
  by_cases c8_0 : v4 = 15
  · have hf := ifp c8_0 hf
    refine a_tblIn (k := 15) (off := 28) (tgt := 36) dX11_filterItems_8 c8_0 (by decide) (by decide) rfl (by decide) ?_
    refine a_iconst (v := 0) dX11_filterItems_36 (by decide) ?_
    refine a_istore_n (lv1 := [(3, .int 0), (0, .ref a0), (1, .ref a1), (2, .int a2)]) dX11_filterItems_37 rfl (by decide) rfl ?_
    obtain ⟨h7, e6, hf⟩ := obd hf
    refine AW.sub [1, 0] rfl (sX11_filterItems_l38 E D hD _ _ _ _ _ e6 ?_)
    refine a_iconst (v := 0) dX11_filterItems_67 (by decide) ?_
    obtain ⟨rfl, rfl⟩ := oc2 hf
    exact a_ireturn dX11_filterItems_68 rfl
  have hf := ifn c8_0 hf
  by_cases c8_1 : v4 = 16
  · have hf := ifp c8_1 hf
    refine a_tblIn (k := 16) (off := 61) (tgt := 69) dX11_filterItems_8 c8_1 (by decide) (by decide) rfl (by decide) ?_
    refine a_aload_n (q := 0) dX11_filterItems_69 rfl rfl ?_
    refine a_aload_n (q := 0) dX11_filterItems_70 rfl rfl ?_
    obtain ⟨v8, e9, hf⟩ := obd hf
    refine o_gfI dX11_filterItems_71 lk_X11_19 rfl e9 ?_
    obtain ⟨_, e12, hf⟩ := obd hf
    obtain ⟨h11, e10, hf⟩ := obd hf
    refine a_callV (as := [.int v8]) (np := 1) (ci := 10) (st := []) (sX11_becomeInt E (D - 1) (by omega) e10) dX11_filterItems_74 rfl (by omega) (by decide) cw_X11_124 ⟨wd_284, wd_285⟩ rfl (ckT_s e12) rfl (Nat.le_of_ble_eq_true rfl) ?_
    refine a_iconst (v := 0) dX11_filterItems_77 (by decide) ?_
    obtain ⟨rfl, rfl⟩ := oc2 hf
    exact a_ireturn dX11_filterItems_78 rfl
  have hf := ifn c8_1 hf
  by_cases c8_2 : v4 = 17
  · have hf := ifp c8_2 hf
    refine a_tblIn (k := 17) (off := 71) (tgt := 79) dX11_filterItems_8 c8_2 (by decide) (by decide) rfl (by decide) ?_
    refine a_aload_n (q := 0) dX11_filterItems_79 rfl rfl ?_
    refine a_aload_n (q := 0) dX11_filterItems_80 rfl rfl ?_
    obtain ⟨v13, e14, hf⟩ := obd hf
    refine o_gfI dX11_filterItems_81 lk_X11_19 rfl e14 ?_
    refine a_iload_n (q := 2) dX11_filterItems_84 rfl rfl ?_
    obtain ⟨v16, h17, e15, hf⟩ := ob2 hf
    refine a_callS (as := [.int v13, .int a2]) (np := 2) (st := [.ref a0]) (sJ9_min_7cf53 E (D - 1) (by omega) e15) dX11_filterItems_85 rfl (by omega) (by decide) cw_X11_56 wd_310 rfl (Nat.le_of_ble_eq_true rfl) ?_
    obtain ⟨_, e20, hf⟩ := obd hf
    obtain ⟨h19, e18, hf⟩ := obd hf
    refine a_callV (as := [.int v16]) (np := 1) (ci := 10) (st := []) (sX11_resize E (D - 1) (by omega) e18) dX11_filterItems_88 rfl (by omega) (by decide) cw_X11_41 ⟨wd_307, ws_0⟩ rfl (ckT_s e20) rfl (Nat.le_of_ble_eq_true rfl) ?_
    refine a_iconst (v := 0) dX11_filterItems_91 (by decide) ?_
    obtain ⟨rfl, rfl⟩ := oc2 hf
    exact a_ireturn dX11_filterItems_92 rfl
  have hf := ifn c8_2 hf
  have t8_0 := lv_neT (a := 15) c8_0 rfl
  have t8_1 := lv_neT (a := 16) c8_1 rfl
  have t8_2 := lv_neT (a := 17) c8_2 rfl
  refine a_tblOut (tgt := 93) dX11_filterItems_8 (by omega) (by decide) ?_
  refine a_iconst (v := 2) dX11_filterItems_93 (by decide) ?_
  obtain ⟨rfl, rfl⟩ := oc2 hf
  exact a_ireturn dX11_filterItems_94 rfl

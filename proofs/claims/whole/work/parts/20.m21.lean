def fX14_judge_l15 : Nat → Nat → Int32 → Int32 → Int32 → hp → Option (Nat × Int32 × hp)
  | 0, _, _, _, _, _ => none
  | n + 1, x0, x1, x2, x4, h =>
    (gfI h x0 13 21).bind fun v1 =>
    if v1 ≤ x4 then (
      some (2, x4, h)
    ) else (
      if x2 < 0 then (
        some (0, x4, h)
      ) else (
        (gfR h x0 13 49).bind fun v3 =>
        (alI h v3 x1).bind fun v5 =>
        if x4 < (v5 - x2) then (
          (ckT h x0 13).bind fun _ =>
          bd2 (fX14_cast x0 x1 (x2 + x4) h) fun v8 h9 =>
          (gfR h9 x0 13 19).bind fun v11 =>
          (alI h9 v11 x4).bind fun v13 =>
          if v8 = v13 then (
            fX14_judge_l15 n x0 x1 x2 (x4 + 1) h9
          ) else (
            some (1, x4, h9)
          )
        ) else (
          some (0, x4, h)
        )
      )
    )
def fX14_judge (a0 : Nat) (a1 : Int32) (a2 : Int32) (h : hp) : Option (Int32 × hp) :=
  (ckT h a0 13).bind fun _ =>
  bd2 (fX14_wrong a0 a1 h) fun v2 h3 =>
  if v2 = 0 then (
    bd3 (fX14_judge_l15 FU a0 a1 a2 0 h3) fun t8 v7 h6 =>
    if t8 = 0 then (
      some ((100 + v7), h6)
    ) else
    if t8 = 1 then (
      some (v7, h6)
    ) else
    if t8 = 2 then (
      some ((-5), h6)
    ) else none
  ) else (
    some (v2, h3)
  )
set_option maxHeartbeats 4000000 in
set_option maxRecDepth 100000 in
theorem sX14_judge_l15 (E : gE) (D : Nat) (hD : 3 ≤ D) {rz : Option Value} {h0 hz : hp} : ∀ (n : Nat) (x0 : Nat) (x1 : Int32) (x2 : Int32) (x4 : Int32) (h : hp) (tq : Nat) (m4 : Int32) (hq : hp), fX14_judge_l15 n x0 x1 x2 x4 h = some (tq, m4, hq) → (tq = 0 → AW E yX14_judge cX14_judge (Option.some Jvm.ClassFile.FieldType.int) 5 D rz h0 hz 41 [(4, .int m4)] [] hq) → (tq = 1 → AW E yX14_judge cX14_judge (Option.some Jvm.ClassFile.FieldType.int) 5 D rz h0 hz 66 [(4, .int m4)] [] hq) → (tq = 2 → AW E yX14_judge cX14_judge (Option.some Jvm.ClassFile.FieldType.int) 5 D rz h0 hz 75 [] [] hq) → AW E yX14_judge cX14_judge (Option.some Jvm.ClassFile.FieldType.int) 5 D rz h0 hz 15 [(0, .ref x0), (1, .int x1), (2, .int x2), (4, .int x4)] [] h := by
  intro n
  induction n with
  | zero =>
    intro x0 x1 x2 x4 h tq m4 hq hf _ _ _
    rw [fX14_judge_l15] at hf
    cases hf
  | succ n ih =>
    intro x0 x1 x2 x4 h tq m4 hq hf hk0 hk1 hk2
    rw [fX14_judge_l15] at hf
    refine a_iload (q := 3) dX14_judge_15 rfl ?_
    refine a_aload_n (q := 0) dX14_judge_17 rfl rfl ?_
    obtain ⟨v1, e2, hf⟩ := obd hf
    refine o_gfI dX14_judge_18 lk_X14_512 rfl e2 ?_
    refine a_icmp_ge (tgt := 75) dX14_judge_21 (by decide) (fun c => ?_) (fun c => ?_)
    · have hf := ifp c hf
      obtain ⟨rfl, rfl, rfl⟩ := oc3 hf
      exact AW.sub [] rfl (hk2 rfl)
    · have hf := ifn c hf
      refine a_iload_n (q := 2) dX14_judge_24 rfl rfl ?_
      refine a_if_lt (tgt := 41) dX14_judge_25 (by decide) (fun c => ?_) (fun c => ?_)
      · have hf := ifp c hf
        obtain ⟨rfl, rfl, rfl⟩ := oc3 hf
        exact AW.sub [3] rfl (hk0 rfl)
      · have hf := ifn c hf
        refine a_iload (q := 3) dX14_judge_28 rfl ?_
        refine a_aload_n (q := 0) dX14_judge_30 rfl rfl ?_
        obtain ⟨v3, e4, hf⟩ := obd hf
        refine o_gfR dX14_judge_31 lk_X14_101 rfl e4 ?_
        refine a_iload_n (q := 1) dX14_judge_34 rfl rfl ?_
        obtain ⟨v5, e6, hf⟩ := obd hf
        refine o_alI dX14_judge_35 e6 ?_
        refine a_iload_n (q := 2) dX14_judge_36 rfl rfl ?_
        refine a_isub dX14_judge_37 ?_
        refine a_icmp_lt (tgt := 47) dX14_judge_38 (by decide) (fun c => ?_) (fun c => ?_)
        · have hf := ifp c hf
          refine a_aload_n (q := 0) dX14_judge_47 rfl rfl ?_
          refine a_iload_n (q := 1) dX14_judge_48 rfl rfl ?_
          refine a_iload_n (q := 2) dX14_judge_49 rfl rfl ?_
          refine a_iload (q := 3) dX14_judge_50 rfl ?_
          refine a_iadd dX14_judge_52 ?_
          obtain ⟨_, e10, hf⟩ := obd hf
          obtain ⟨v8, h9, e7, hf⟩ := ob2 hf
          refine a_callV (as := [.int x1, .int (x2 + x4)]) (np := 2) (ci := 13) (st := []) (sX14_cast E (D - 1) (by omega) e7) dX14_judge_53 rfl (by omega) (by decide) cw_X14_551 ⟨wd_1826, ws_144⟩ rfl (ckT_s e10) rfl (Nat.le_of_ble_eq_true rfl) ?_
          refine a_aload_n (q := 0) dX14_judge_56 rfl rfl ?_
          obtain ⟨v11, e12, hf⟩ := obd hf
          refine o_gfR dX14_judge_57 lk_X14_43 rfl e12 ?_
          refine a_iload (q := 3) dX14_judge_60 rfl ?_
          obtain ⟨v13, e14, hf⟩ := obd hf
          refine o_alI dX14_judge_62 e14 ?_
          refine a_icmp_eq (tgt := 69) dX14_judge_63 (by decide) (fun c => ?_) (fun c => ?_)
          · have hf := ifp c hf
            refine a_iinc (q := 3) (v := (x4 + 1)) (lv1 := [(4, .int (x4 + 1)), (0, .ref x0), (1, .int x1), (2, .int x2)]) dX14_judge_69 rfl (by rfl) (by decide) rfl ?_
            refine a_goto (tgt := 15) dX14_judge_72 (by decide) ?_
            exact AW.sub [1, 2, 3, 0] rfl (ih _ _ _ _ _ _ _ _ hf hk0 hk1 hk2)
          · have hf := ifn c hf
            obtain ⟨rfl, rfl, rfl⟩ := oc3 hf
            exact AW.sub [3] rfl (hk1 rfl)
        · have hf := ifn c hf
          obtain ⟨rfl, rfl, rfl⟩ := oc3 hf
          exact AW.sub [3] rfl (hk0 rfl)
set_option maxHeartbeats 4000000 in
set_option maxRecDepth 100000 in
theorem sX14_judge (E : gE) (D : Nat) (hD : 3 ≤ D) {a0 : Nat} {a1 : Int32} {a2 : Int32} {h hz : hp} {v0 : Int32} (hf : fX14_judge a0 a1 a2 h = some (v0, hz)) : MC E yX14_judge cX14_judge (Option.some Jvm.ClassFile.FieldType.int) 5 D [.ref a0, .int a1, .int a2] h (some (.int v0)) hz := by
  refine MC.of (by decide +kernel) (Nat.le_of_ble_eq_true rfl) rfl ?_
  unfold fX14_judge at hf
  show AW E yX14_judge cX14_judge (Option.some Jvm.ClassFile.FieldType.int) 5 D (some (.int v0)) h hz 0 [(0, .ref a0), (1, .int a1), (2, .int a2)] [] h
  refine a_aload_n (q := 0) dX14_judge_0 rfl rfl ?_
  refine a_iload_n (q := 1) dX14_judge_1 rfl rfl ?_
  obtain ⟨_, e4, hf⟩ := obd hf
  obtain ⟨v2, h3, e1, hf⟩ := ob2 hf
  refine a_callV (as := [.int a1]) (np := 1) (ci := 13) (st := []) (sX14_wrong E (D - 1) (by omega) e1) dX14_judge_2 rfl (by omega) (by decide) cw_X14_540 ⟨wd_1793, ws_141⟩ rfl (ckT_s e4) rfl (Nat.le_of_ble_eq_true rfl) ?_
  refine a_istore_n (lv1 := [(3, .int v2), (0, .ref a0), (1, .int a1), (2, .int a2)]) dX14_judge_5 rfl (by decide) rfl ?_
  refine a_iload_n (q := 0) dX14_judge_6 rfl rfl ?_
  refine a_if_eq (tgt := 12) dX14_judge_7 (by decide) (fun c => ?_) (fun c => ?_)
  · have hf := ifp c hf
    refine a_iconst (v := 0) dX14_judge_12 (by decide) ?_
    refine a_istore (lv1 := [(4, .int 0), (3, .int v2), (0, .ref a0), (1, .int a1), (2, .int a2)]) dX14_judge_13 (by decide) rfl ?_
    obtain ⟨t8, v7, h6, e5, hf⟩ := ob3 hf
    refine AW.sub [2, 3, 4, 0] rfl (sX14_judge_l15 E D hD _ _ _ _ _ _ _ _ _ e5 (fun c => ?_) (fun c => ?_) (fun c => ?_))
    · have hf := ifp c hf
      refine a_bipush (v := 100) dX14_judge_41 (by decide) ?_
      refine a_iload (q := 0) dX14_judge_43 rfl ?_
      refine a_iadd dX14_judge_45 ?_
      obtain ⟨rfl, rfl⟩ := oc2 hf
      exact a_ireturn dX14_judge_46 rfl
    · have hf := ifn (by rw [c]; decide) hf
      have hf := ifp c hf
      refine a_iload (q := 0) dX14_judge_66 rfl ?_
      obtain ⟨rfl, rfl⟩ := oc2 hf
      exact a_ireturn dX14_judge_68 rfl
    · have hf := ifn (by rw [c]; decide) hf
      have hf := ifn (by rw [c]; decide) hf
      have hf := ifp c hf
      refine a_bipush (v := (-5)) dX14_judge_75 (by decide) ?_
      obtain ⟨rfl, rfl⟩ := oc2 hf
      exact a_ireturn dX14_judge_77 rfl
  · have hf := ifn c hf
    refine a_iload_n (q := 0) dX14_judge_10 rfl rfl ?_
    obtain ⟨rfl, rfl⟩ := oc2 hf
    exact a_ireturn dX14_judge_11 rfl
def fX14_same_l2 : Nat → Nat → Nat → Int32 → Int32 → hp → Option hp
  | 0, _, _, _, _, _ => none
  | n + 1, x0, x1, x2, x3, h =>
    if x2 ≤ x3 then (
      some (h)
    ) else (
      (alI h x0 x3).bind fun v1 =>
      (asI h x1 x3 v1).bind fun h3 =>
      fX14_same_l2 n x0 x1 x2 (x3 + 1) h3
    )
def fX14_same (a0 : Nat) (a1 : Nat) (a2 : Int32) (h : hp) : Option hp :=
  (fX14_same_l2 FU a0 a1 a2 0 h).bind fun h2 =>
  some h2
set_option maxHeartbeats 4000000 in
set_option maxRecDepth 100000 in
theorem sX14_same_l2 (E : gE) (D : Nat) (hD : 0 ≤ D) {rz : Option Value} {h0 hz : hp} : ∀ (n : Nat) (x0 : Nat) (x1 : Nat) (x2 : Int32) (x3 : Int32) (h : hp) (hq : hp), fX14_same_l2 n x0 x1 x2 x3 h = some hq → (AW E yX14_same cX14_same (Option.none : Option Jvm.ClassFile.FieldType) 4 D rz h0 hz 19 [] [] hq) → AW E yX14_same cX14_same (Option.none : Option Jvm.ClassFile.FieldType) 4 D rz h0 hz 2 [(0, .ref x0), (1, .ref x1), (2, .int x2), (3, .int x3)] [] h := by
  intro n
  induction n with
  | zero =>
    intro x0 x1 x2 x3 h hq hf _
    rw [fX14_same_l2] at hf
    cases hf
  | succ n ih =>
    intro x0 x1 x2 x3 h hq hf hk0
    rw [fX14_same_l2] at hf
    refine a_iload_n (q := 3) dX14_same_2 rfl rfl ?_
    refine a_iload_n (q := 2) dX14_same_3 rfl rfl ?_
    refine a_icmp_ge (tgt := 19) dX14_same_4 (by decide) (fun c => ?_) (fun c => ?_)
    · have hf := ifp c hf
      obtain rfl := Option.some.inj hf
      exact AW.sub [] rfl (hk0)
    · have hf := ifn c hf
      refine a_aload_n (q := 1) dX14_same_7 rfl rfl ?_
      refine a_iload_n (q := 3) dX14_same_8 rfl rfl ?_
      refine a_aload_n (q := 0) dX14_same_9 rfl rfl ?_
      refine a_iload_n (q := 3) dX14_same_10 rfl rfl ?_
      obtain ⟨v1, e2, hf⟩ := obd hf
      refine o_alI dX14_same_11 e2 ?_
      obtain ⟨h3, e4, hf⟩ := obd hf
      refine o_asI dX14_same_12 e4 ?_
      refine a_iinc (q := 3) (v := (x3 + 1)) (lv1 := [(3, .int (x3 + 1)), (0, .ref x0), (1, .ref x1), (2, .int x2)]) dX14_same_13 rfl (by rfl) (by decide) rfl ?_
      refine a_goto (tgt := 2) dX14_same_16 (by decide) ?_
      exact AW.sub [1, 2, 3, 0] rfl (ih _ _ _ _ _ _ hf hk0)
set_option maxHeartbeats 4000000 in
set_option maxRecDepth 100000 in
theorem sX14_same (E : gE) (D : Nat) (hD : 0 ≤ D) {a0 : Nat} {a1 : Nat} {a2 : Int32} {h hz : hp} (hf : fX14_same a0 a1 a2 h = some hz) : MC E yX14_same cX14_same (Option.none : Option Jvm.ClassFile.FieldType) 4 D [.ref a0, .ref a1, .int a2] h none hz := by
  refine MC.of (by decide +kernel) (Nat.le_of_ble_eq_true rfl) rfl ?_
  unfold fX14_same at hf
  show AW E yX14_same cX14_same (Option.none : Option Jvm.ClassFile.FieldType) 4 D none h hz 0 [(0, .ref a0), (1, .ref a1), (2, .int a2)] [] h
  refine a_iconst (v := 0) dX14_same_0 (by decide) ?_
  refine a_istore_n (lv1 := [(3, .int 0), (0, .ref a0), (1, .ref a1), (2, .int a2)]) dX14_same_1 rfl (by decide) rfl ?_
  obtain ⟨h2, e1, hf⟩ := obd hf
  refine AW.sub [1, 2, 3, 0] rfl (sX14_same_l2 E D hD _ _ _ _ _ _ _ e1 ?_)
  obtain rfl := Option.some.inj hf
  exact a_return dX14_same_19 rfl
def fX14_same__l2 : Nat → Nat → Nat → Int32 → Int32 → hp → Option hp
  | 0, _, _, _, _, _ => none
  | n + 1, x0, x1, x2, x3, h =>
    if x2 ≤ x3 then (
      some (h)
    ) else (
      (alF h x0 x3).bind fun v1 =>
      (asF h x1 x3 v1).bind fun h3 =>
      fX14_same__l2 n x0 x1 x2 (x3 + 1) h3
    )
def fX14_same_ (a0 : Nat) (a1 : Nat) (a2 : Int32) (h : hp) : Option hp :=
  (fX14_same__l2 FU a0 a1 a2 0 h).bind fun h2 =>
  some h2
set_option maxHeartbeats 4000000 in
set_option maxRecDepth 100000 in
theorem sX14_same__l2 (E : gE) (D : Nat) (hD : 0 ≤ D) {rz : Option Value} {h0 hz : hp} : ∀ (n : Nat) (x0 : Nat) (x1 : Nat) (x2 : Int32) (x3 : Int32) (h : hp) (hq : hp), fX14_same__l2 n x0 x1 x2 x3 h = some hq → (AW E yX14_same_ cX14_same_ (Option.none : Option Jvm.ClassFile.FieldType) 4 D rz h0 hz 19 [] [] hq) → AW E yX14_same_ cX14_same_ (Option.none : Option Jvm.ClassFile.FieldType) 4 D rz h0 hz 2 [(0, .ref x0), (1, .ref x1), (2, .int x2), (3, .int x3)] [] h := by
  intro n
  induction n with
  | zero =>
    intro x0 x1 x2 x3 h hq hf _
    rw [fX14_same__l2] at hf
    cases hf
  | succ n ih =>
    intro x0 x1 x2 x3 h hq hf hk0
    rw [fX14_same__l2] at hf
    refine a_iload_n (q := 3) dX14_same__2 rfl rfl ?_
    refine a_iload_n (q := 2) dX14_same__3 rfl rfl ?_
    refine a_icmp_ge (tgt := 19) dX14_same__4 (by decide) (fun c => ?_) (fun c => ?_)
    · have hf := ifp c hf
      obtain rfl := Option.some.inj hf
      exact AW.sub [] rfl (hk0)
    · have hf := ifn c hf
      refine a_aload_n (q := 1) dX14_same__7 rfl rfl ?_
      refine a_iload_n (q := 3) dX14_same__8 rfl rfl ?_
      refine a_aload_n (q := 0) dX14_same__9 rfl rfl ?_
      refine a_iload_n (q := 3) dX14_same__10 rfl rfl ?_
      obtain ⟨v1, e2, hf⟩ := obd hf
      refine o_alF dX14_same__11 e2 ?_
      obtain ⟨h3, e4, hf⟩ := obd hf
      refine o_asF dX14_same__12 e4 ?_
      refine a_iinc (q := 3) (v := (x3 + 1)) (lv1 := [(3, .int (x3 + 1)), (0, .ref x0), (1, .ref x1), (2, .int x2)]) dX14_same__13 rfl (by rfl) (by decide) rfl ?_
      refine a_goto (tgt := 2) dX14_same__16 (by decide) ?_
      exact AW.sub [1, 2, 3, 0] rfl (ih _ _ _ _ _ _ hf hk0)
set_option maxHeartbeats 4000000 in
set_option maxRecDepth 100000 in
theorem sX14_same_ (E : gE) (D : Nat) (hD : 0 ≤ D) {a0 : Nat} {a1 : Nat} {a2 : Int32} {h hz : hp} (hf : fX14_same_ a0 a1 a2 h = some hz) : MC E yX14_same_ cX14_same_ (Option.none : Option Jvm.ClassFile.FieldType) 4 D [.ref a0, .ref a1, .int a2] h none hz := by
  refine MC.of (by decide +kernel) (Nat.le_of_ble_eq_true rfl) rfl ?_
  unfold fX14_same_ at hf
  show AW E yX14_same_ cX14_same_ (Option.none : Option Jvm.ClassFile.FieldType) 4 D none h hz 0 [(0, .ref a0), (1, .ref a1), (2, .int a2)] [] h
  refine a_iconst (v := 0) dX14_same__0 (by decide) ?_
  refine a_istore_n (lv1 := [(3, .int 0), (0, .ref a0), (1, .ref a1), (2, .int a2)]) dX14_same__1 rfl (by decide) rfl ?_
  obtain ⟨h2, e1, hf⟩ := obd hf
  refine AW.sub [1, 2, 3, 0] rfl (sX14_same__l2 E D hD _ _ _ _ _ _ _ e1 ?_)
  obtain rfl := Option.some.inj hf
  exact a_return dX14_same__19 rfl
def fX14_image (a0 : Nat) (h : hp) : Option (Int32 × hp) :=
  (gfR h a0 13 9).bind fun v1 =>
  (gfR h a0 13 52).bind fun v3 =>
  (fX14_same v1 v3 6 h).bind fun h6 =>
  (gfR h6 a0 13 8).bind fun v7 =>
  (gfR h6 a0 13 53).bind fun v9 =>
  (fX14_same v7 v9 960 h6).bind fun h12 =>
  (gfR h12 a0 13 19).bind fun v13 =>
  (gfR h12 a0 13 54).bind fun v15 =>
  (fX14_same v13 v15 400 h12).bind fun h18 =>
  (gfR h18 a0 13 0).bind fun v19 =>
  (gfR h18 a0 13 55).bind fun v21 =>
  (fX14_same v19 v21 8 h18).bind fun h24 =>
  (gfR h24 a0 13 1).bind fun v25 =>
  (gfR h24 a0 13 56).bind fun v27 =>
  (fX14_same v25 v27 8 h24).bind fun h30 =>
  (gfR h30 a0 13 2).bind fun v31 =>
  (gfR h30 a0 13 57).bind fun v33 =>
  (fX14_same v31 v33 8 h30).bind fun h36 =>
  (gfR h36 a0 13 3).bind fun v37 =>
  (gfR h36 a0 13 58).bind fun v39 =>
  (fX14_same v37 v39 128 h36).bind fun h42 =>
  (gfR h42 a0 13 4).bind fun v43 =>
  (gfR h42 a0 13 59).bind fun v45 =>
  (fX14_same_ v43 v45 8 h42).bind fun h48 =>
  (gfI h48 a0 13 21).bind fun v49 =>
  (pfI h48 a0 13 60 v49).bind fun h51 =>
  (gfI h51 a0 13 24).bind fun v53 =>
  (pfI h51 a0 13 61 v53).bind fun h55 =>
  (pfZ h55 a0 13 62 1).bind fun h57 =>
  (ckT h57 a0 13).bind fun _ =>
  bd2 (fX14_withText a0 h57) fun v60 h61 =>
  some (v60, h61)
set_option maxHeartbeats 4000000 in
set_option maxRecDepth 100000 in
theorem sX14_image (E : gE) (D : Nat) (hD : 1 ≤ D) {a0 : Nat} {h hz : hp} {v0 : Int32} (hf : fX14_image a0 h = some (v0, hz)) : MC E yX14_image cX14_image (Option.some Jvm.ClassFile.FieldType.int) 1 D [.ref a0] h (some (.int v0)) hz := by
  refine MC.of (by decide +kernel) (Nat.le_of_ble_eq_true rfl) rfl ?_
  unfold fX14_image at hf
  show AW E yX14_image cX14_image (Option.some Jvm.ClassFile.FieldType.int) 1 D (some (.int v0)) h hz 0 [(0, .ref a0)] [] h
  refine a_aload_n (q := 0) dX14_image_0 rfl rfl ?_
  obtain ⟨v1, e2, hf⟩ := obd hf
  refine o_gfR dX14_image_1 lk_X14_37 rfl e2 ?_
  refine a_aload_n (q := 0) dX14_image_4 rfl rfl ?_
  obtain ⟨v3, e4, hf⟩ := obd hf
  refine o_gfR dX14_image_5 lk_X14_110 rfl e4 ?_
  refine a_bipush (v := 6) dX14_image_8 (by decide) ?_
  obtain ⟨h6, e5, hf⟩ := obd hf
  refine a_callS (as := [.ref v1, .ref v3, .int 6]) (np := 3) (st := []) (sX14_same E (D - 1) (by omega) e5) dX14_image_10 rfl (by omega) (by decide) cw_X14_554 wd_1833 rfl (Nat.le_of_ble_eq_true rfl) ?_
  refine a_aload_n (q := 0) dX14_image_13 rfl rfl ?_
  obtain ⟨v7, e8, hf⟩ := obd hf
  refine o_gfR dX14_image_14 lk_X14_34 rfl e8 ?_
  refine a_aload_n (q := 0) dX14_image_17 rfl rfl ?_
  obtain ⟨v9, e10, hf⟩ := obd hf
  refine o_gfR dX14_image_18 lk_X14_113 rfl e10 ?_
  refine a_sipush (v := 960) dX14_image_21 (by decide) ?_
  obtain ⟨h12, e11, hf⟩ := obd hf
  refine a_callS (as := [.ref v7, .ref v9, .int 960]) (np := 3) (st := []) (sX14_same E (D - 1) (by omega) e11) dX14_image_24 rfl (by omega) (by decide) cw_X14_554 wd_1833 rfl (Nat.le_of_ble_eq_true rfl) ?_
  refine a_aload_n (q := 0) dX14_image_27 rfl rfl ?_
  obtain ⟨v13, e14, hf⟩ := obd hf
  refine o_gfR dX14_image_28 lk_X14_43 rfl e14 ?_
  refine a_aload_n (q := 0) dX14_image_31 rfl rfl ?_
  obtain ⟨v15, e16, hf⟩ := obd hf
  refine o_gfR dX14_image_32 lk_X14_116 rfl e16 ?_
  refine a_sipush (v := 400) dX14_image_35 (by decide) ?_
  obtain ⟨h18, e17, hf⟩ := obd hf
  refine a_callS (as := [.ref v13, .ref v15, .int 400]) (np := 3) (st := []) (sX14_same E (D - 1) (by omega) e17) dX14_image_38 rfl (by omega) (by decide) cw_X14_554 wd_1833 rfl (Nat.le_of_ble_eq_true rfl) ?_
  refine a_aload_n (q := 0) dX14_image_41 rfl rfl ?_
  obtain ⟨v19, e20, hf⟩ := obd hf
  refine o_gfR dX14_image_42 lk_X14_11 rfl e20 ?_
  refine a_aload_n (q := 0) dX14_image_45 rfl rfl ?_
  obtain ⟨v21, e22, hf⟩ := obd hf
  refine o_gfR dX14_image_46 lk_X14_119 rfl e22 ?_
  refine a_bipush (v := 8) dX14_image_49 (by decide) ?_
  obtain ⟨h24, e23, hf⟩ := obd hf
  refine a_callS (as := [.ref v19, .ref v21, .int 8]) (np := 3) (st := []) (sX14_same E (D - 1) (by omega) e23) dX14_image_51 rfl (by omega) (by decide) cw_X14_554 wd_1833 rfl (Nat.le_of_ble_eq_true rfl) ?_
  refine a_aload_n (q := 0) dX14_image_54 rfl rfl ?_
  obtain ⟨v25, e26, hf⟩ := obd hf
  refine o_gfR dX14_image_55 lk_X14_15 rfl e26 ?_
  refine a_aload_n (q := 0) dX14_image_58 rfl rfl ?_
  obtain ⟨v27, e28, hf⟩ := obd hf
  refine o_gfR dX14_image_59 lk_X14_122 rfl e28 ?_
  refine a_bipush (v := 8) dX14_image_62 (by decide) ?_
  obtain ⟨h30, e29, hf⟩ := obd hf
  refine a_callS (as := [.ref v25, .ref v27, .int 8]) (np := 3) (st := []) (sX14_same E (D - 1) (by omega) e29) dX14_image_64 rfl (by omega) (by decide) cw_X14_554 wd_1833 rfl (Nat.le_of_ble_eq_true rfl) ?_
  refine a_aload_n (q := 0) dX14_image_67 rfl rfl ?_
  obtain ⟨v31, e32, hf⟩ := obd hf
  refine o_gfR dX14_image_68 lk_X14_18 rfl e32 ?_
  refine a_aload_n (q := 0) dX14_image_71 rfl rfl ?_
  obtain ⟨v33, e34, hf⟩ := obd hf
  refine o_gfR dX14_image_72 lk_X14_125 rfl e34 ?_
  refine a_bipush (v := 8) dX14_image_75 (by decide) ?_
  obtain ⟨h36, e35, hf⟩ := obd hf
  refine a_callS (as := [.ref v31, .ref v33, .int 8]) (np := 3) (st := []) (sX14_same E (D - 1) (by omega) e35) dX14_image_77 rfl (by omega) (by decide) cw_X14_554 wd_1833 rfl (Nat.le_of_ble_eq_true rfl) ?_
  refine a_aload_n (q := 0) dX14_image_80 rfl rfl ?_
  obtain ⟨v37, e38, hf⟩ := obd hf
  refine o_gfR dX14_image_81 lk_X14_21 rfl e38 ?_
  refine a_aload_n (q := 0) dX14_image_84 rfl rfl ?_
  obtain ⟨v39, e40, hf⟩ := obd hf
  refine o_gfR dX14_image_85 lk_X14_128 rfl e40 ?_
  refine a_sipush (v := 128) dX14_image_88 (by decide) ?_
  obtain ⟨h42, e41, hf⟩ := obd hf
  refine a_callS (as := [.ref v37, .ref v39, .int 128]) (np := 3) (st := []) (sX14_same E (D - 1) (by omega) e41) dX14_image_91 rfl (by omega) (by decide) cw_X14_554 wd_1833 rfl (Nat.le_of_ble_eq_true rfl) ?_
  refine a_aload_n (q := 0) dX14_image_94 rfl rfl ?_
  obtain ⟨v43, e44, hf⟩ := obd hf
  refine o_gfR dX14_image_95 lk_X14_24 rfl e44 ?_
  refine a_aload_n (q := 0) dX14_image_98 rfl rfl ?_
  obtain ⟨v45, e46, hf⟩ := obd hf
  refine o_gfR dX14_image_99 lk_X14_131 rfl e46 ?_
  refine a_bipush (v := 8) dX14_image_102 (by decide) ?_
  obtain ⟨h48, e47, hf⟩ := obd hf
  refine a_callS (as := [.ref v43, .ref v45, .int 8]) (np := 3) (st := []) (sX14_same_ E (D - 1) (by omega) e47) dX14_image_104 rfl (by omega) (by decide) cw_X14_558 wd_1836 rfl (Nat.le_of_ble_eq_true rfl) ?_
  refine a_aload_n (q := 0) dX14_image_107 rfl rfl ?_
  refine a_aload_n (q := 0) dX14_image_108 rfl rfl ?_
  obtain ⟨v49, e50, hf⟩ := obd hf
  refine o_gfI dX14_image_109 lk_X14_512 rfl e50 ?_
  obtain ⟨h51, e52, hf⟩ := obd hf
  refine o_pfI dX14_image_112 lk_X14_561 (⟨_, rfl, Or.inl rfl⟩) rfl e52 ?_
  refine a_aload_n (q := 0) dX14_image_115 rfl rfl ?_
  refine a_aload_n (q := 0) dX14_image_116 rfl rfl ?_
  obtain ⟨v53, e54, hf⟩ := obd hf
  refine o_gfI dX14_image_117 lk_X14_49 rfl e54 ?_
  obtain ⟨h55, e56, hf⟩ := obd hf
  refine o_pfI dX14_image_120 lk_X14_564 (⟨_, rfl, Or.inl rfl⟩) rfl e56 ?_
  refine a_aload_n (q := 0) dX14_image_123 rfl rfl ?_
  refine a_iconst (v := 1) dX14_image_124 (by decide) ?_
  obtain ⟨h57, e58, hf⟩ := obd hf
  refine o_pfZ dX14_image_125 lk_X14_567 (⟨_, rfl, Or.inl rfl⟩) rfl e58 ?_
  refine a_aload_n (q := 0) dX14_image_128 rfl rfl ?_
  obtain ⟨_, e62, hf⟩ := obd hf
  obtain ⟨v60, h61, e59, hf⟩ := ob2 hf
  refine a_callV (as := []) (np := 0) (ci := 13) (st := []) (sX14_withText E (D - 1) (by omega) e59) dX14_image_129 rfl (by omega) (by decide) cw_X14_519 ⟨wd_1726, ws_137⟩ rfl (ckT_s e62) rfl (Nat.le_of_ble_eq_true rfl) ?_
  obtain ⟨rfl, rfl⟩ := oc2 hf
  exact a_ireturn dX14_image_132 rfl
def fX14_undo (a0 : Nat) (h : hp) : Option (Int32 × hp) :=
  (gfI h a0 13 62).bind fun v1 =>
  if v1 = 0 then (
    some ((-3), h)
  ) else (
    (gfR h a0 13 52).bind fun v3 =>
    (gfR h a0 13 9).bind fun v5 =>
    (fX14_same v3 v5 6 h).bind fun h8 =>
    (gfR h8 a0 13 53).bind fun v9 =>
    (gfR h8 a0 13 8).bind fun v11 =>
    (fX14_same v9 v11 960 h8).bind fun h14 =>
    (gfR h14 a0 13 54).bind fun v15 =>
    (gfR h14 a0 13 19).bind fun v17 =>
    (fX14_same v15 v17 400 h14).bind fun h20 =>
    (gfR h20 a0 13 55).bind fun v21 =>
    (gfR h20 a0 13 0).bind fun v23 =>
    (fX14_same v21 v23 8 h20).bind fun h26 =>
    (gfR h26 a0 13 56).bind fun v27 =>
    (gfR h26 a0 13 1).bind fun v29 =>
    (fX14_same v27 v29 8 h26).bind fun h32 =>
    (gfR h32 a0 13 57).bind fun v33 =>
    (gfR h32 a0 13 2).bind fun v35 =>
    (fX14_same v33 v35 8 h32).bind fun h38 =>
    (gfR h38 a0 13 58).bind fun v39 =>
    (gfR h38 a0 13 3).bind fun v41 =>
    (fX14_same v39 v41 128 h38).bind fun h44 =>
    (gfR h44 a0 13 59).bind fun v45 =>
    (gfR h44 a0 13 4).bind fun v47 =>
    (fX14_same_ v45 v47 8 h44).bind fun h50 =>
    (gfI h50 a0 13 60).bind fun v51 =>
    (pfI h50 a0 13 21 v51).bind fun h53 =>
    (gfI h53 a0 13 61).bind fun v55 =>
    (pfI h53 a0 13 24 v55).bind fun h57 =>
    (ckT h57 a0 13).bind fun _ =>
    bd2 (fX14_withText a0 h57) fun v60 h61 =>
    some (v60, h61)
  )
set_option maxHeartbeats 4000000 in
set_option maxRecDepth 100000 in
theorem sX14_undo (E : gE) (D : Nat) (hD : 1 ≤ D) {a0 : Nat} {h hz : hp} {v0 : Int32} (hf : fX14_undo a0 h = some (v0, hz)) : MC E yX14_undo cX14_undo (Option.some Jvm.ClassFile.FieldType.int) 1 D [.ref a0] h (some (.int v0)) hz := by
  refine MC.of (by decide +kernel) (Nat.le_of_ble_eq_true rfl) rfl ?_
  unfold fX14_undo at hf
  show AW E yX14_undo cX14_undo (Option.some Jvm.ClassFile.FieldType.int) 1 D (some (.int v0)) h hz 0 [(0, .ref a0)] [] h
  refine a_aload_n (q := 0) dX14_undo_0 rfl rfl ?_
  obtain ⟨v1, e2, hf⟩ := obd hf
  refine o_gfI dX14_undo_1 lk_X14_567 rfl e2 ?_
  refine a_if_ne (tgt := 10) dX14_undo_4 (by decide) (fun c => ?_) (fun c => ?_)
  · have hf := ifn c hf
    refine a_aload_n (q := 0) dX14_undo_10 rfl rfl ?_
    obtain ⟨v3, e4, hf⟩ := obd hf
    refine o_gfR dX14_undo_11 lk_X14_110 rfl e4 ?_
    refine a_aload_n (q := 0) dX14_undo_14 rfl rfl ?_
    obtain ⟨v5, e6, hf⟩ := obd hf
    refine o_gfR dX14_undo_15 lk_X14_37 rfl e6 ?_
    refine a_bipush (v := 6) dX14_undo_18 (by decide) ?_
    obtain ⟨h8, e7, hf⟩ := obd hf
    refine a_callS (as := [.ref v3, .ref v5, .int 6]) (np := 3) (st := []) (sX14_same E (D - 1) (by omega) e7) dX14_undo_20 rfl (by omega) (by decide) cw_X14_554 wd_1833 rfl (Nat.le_of_ble_eq_true rfl) ?_
    refine a_aload_n (q := 0) dX14_undo_23 rfl rfl ?_
    obtain ⟨v9, e10, hf⟩ := obd hf
    refine o_gfR dX14_undo_24 lk_X14_113 rfl e10 ?_
    refine a_aload_n (q := 0) dX14_undo_27 rfl rfl ?_
    obtain ⟨v11, e12, hf⟩ := obd hf
    refine o_gfR dX14_undo_28 lk_X14_34 rfl e12 ?_
    refine a_sipush (v := 960) dX14_undo_31 (by decide) ?_
    obtain ⟨h14, e13, hf⟩ := obd hf
    refine a_callS (as := [.ref v9, .ref v11, .int 960]) (np := 3) (st := []) (sX14_same E (D - 1) (by omega) e13) dX14_undo_34 rfl (by omega) (by decide) cw_X14_554 wd_1833 rfl (Nat.le_of_ble_eq_true rfl) ?_
    refine a_aload_n (q := 0) dX14_undo_37 rfl rfl ?_
    obtain ⟨v15, e16, hf⟩ := obd hf
    refine o_gfR dX14_undo_38 lk_X14_116 rfl e16 ?_
    refine a_aload_n (q := 0) dX14_undo_41 rfl rfl ?_
    obtain ⟨v17, e18, hf⟩ := obd hf
    refine o_gfR dX14_undo_42 lk_X14_43 rfl e18 ?_
    refine a_sipush (v := 400) dX14_undo_45 (by decide) ?_
    obtain ⟨h20, e19, hf⟩ := obd hf
    refine a_callS (as := [.ref v15, .ref v17, .int 400]) (np := 3) (st := []) (sX14_same E (D - 1) (by omega) e19) dX14_undo_48 rfl (by omega) (by decide) cw_X14_554 wd_1833 rfl (Nat.le_of_ble_eq_true rfl) ?_
    refine a_aload_n (q := 0) dX14_undo_51 rfl rfl ?_
    obtain ⟨v21, e22, hf⟩ := obd hf
    refine o_gfR dX14_undo_52 lk_X14_119 rfl e22 ?_
    refine a_aload_n (q := 0) dX14_undo_55 rfl rfl ?_
    obtain ⟨v23, e24, hf⟩ := obd hf
    refine o_gfR dX14_undo_56 lk_X14_11 rfl e24 ?_
    refine a_bipush (v := 8) dX14_undo_59 (by decide) ?_
    obtain ⟨h26, e25, hf⟩ := obd hf
    refine a_callS (as := [.ref v21, .ref v23, .int 8]) (np := 3) (st := []) (sX14_same E (D - 1) (by omega) e25) dX14_undo_61 rfl (by omega) (by decide) cw_X14_554 wd_1833 rfl (Nat.le_of_ble_eq_true rfl) ?_
    refine a_aload_n (q := 0) dX14_undo_64 rfl rfl ?_
    obtain ⟨v27, e28, hf⟩ := obd hf
    refine o_gfR dX14_undo_65 lk_X14_122 rfl e28 ?_
    refine a_aload_n (q := 0) dX14_undo_68 rfl rfl ?_
    obtain ⟨v29, e30, hf⟩ := obd hf
    refine o_gfR dX14_undo_69 lk_X14_15 rfl e30 ?_
    refine a_bipush (v := 8) dX14_undo_72 (by decide) ?_
    obtain ⟨h32, e31, hf⟩ := obd hf
    refine a_callS (as := [.ref v27, .ref v29, .int 8]) (np := 3) (st := []) (sX14_same E (D - 1) (by omega) e31) dX14_undo_74 rfl (by omega) (by decide) cw_X14_554 wd_1833 rfl (Nat.le_of_ble_eq_true rfl) ?_
    refine a_aload_n (q := 0) dX14_undo_77 rfl rfl ?_
    obtain ⟨v33, e34, hf⟩ := obd hf
    refine o_gfR dX14_undo_78 lk_X14_125 rfl e34 ?_
    refine a_aload_n (q := 0) dX14_undo_81 rfl rfl ?_
    obtain ⟨v35, e36, hf⟩ := obd hf
    refine o_gfR dX14_undo_82 lk_X14_18 rfl e36 ?_
    refine a_bipush (v := 8) dX14_undo_85 (by decide) ?_
    obtain ⟨h38, e37, hf⟩ := obd hf
    refine a_callS (as := [.ref v33, .ref v35, .int 8]) (np := 3) (st := []) (sX14_same E (D - 1) (by omega) e37) dX14_undo_87 rfl (by omega) (by decide) cw_X14_554 wd_1833 rfl (Nat.le_of_ble_eq_true rfl) ?_
    refine a_aload_n (q := 0) dX14_undo_90 rfl rfl ?_
    obtain ⟨v39, e40, hf⟩ := obd hf
    refine o_gfR dX14_undo_91 lk_X14_128 rfl e40 ?_
    refine a_aload_n (q := 0) dX14_undo_94 rfl rfl ?_
    obtain ⟨v41, e42, hf⟩ := obd hf
    refine o_gfR dX14_undo_95 lk_X14_21 rfl e42 ?_
    refine a_sipush (v := 128) dX14_undo_98 (by decide) ?_
    obtain ⟨h44, e43, hf⟩ := obd hf
    refine a_callS (as := [.ref v39, .ref v41, .int 128]) (np := 3) (st := []) (sX14_same E (D - 1) (by omega) e43) dX14_undo_101 rfl (by omega) (by decide) cw_X14_554 wd_1833 rfl (Nat.le_of_ble_eq_true rfl) ?_
    refine a_aload_n (q := 0) dX14_undo_104 rfl rfl ?_
    obtain ⟨v45, e46, hf⟩ := obd hf
    refine o_gfR dX14_undo_105 lk_X14_131 rfl e46 ?_
    refine a_aload_n (q := 0) dX14_undo_108 rfl rfl ?_
    obtain ⟨v47, e48, hf⟩ := obd hf
    refine o_gfR dX14_undo_109 lk_X14_24 rfl e48 ?_
    refine a_bipush (v := 8) dX14_undo_112 (by decide) ?_
    obtain ⟨h50, e49, hf⟩ := obd hf
    refine a_callS (as := [.ref v45, .ref v47, .int 8]) (np := 3) (st := []) (sX14_same_ E (D - 1) (by omega) e49) dX14_undo_114 rfl (by omega) (by decide) cw_X14_558 wd_1836 rfl (Nat.le_of_ble_eq_true rfl) ?_
    refine a_aload_n (q := 0) dX14_undo_117 rfl rfl ?_
    refine a_aload_n (q := 0) dX14_undo_118 rfl rfl ?_
    obtain ⟨v51, e52, hf⟩ := obd hf
    refine o_gfI dX14_undo_119 lk_X14_561 rfl e52 ?_
    obtain ⟨h53, e54, hf⟩ := obd hf
    refine o_pfI dX14_undo_122 lk_X14_512 (⟨_, rfl, Or.inl rfl⟩) rfl e54 ?_
    refine a_aload_n (q := 0) dX14_undo_125 rfl rfl ?_
    refine a_aload_n (q := 0) dX14_undo_126 rfl rfl ?_
    obtain ⟨v55, e56, hf⟩ := obd hf
    refine o_gfI dX14_undo_127 lk_X14_564 rfl e56 ?_
    obtain ⟨h57, e58, hf⟩ := obd hf
    refine o_pfI dX14_undo_130 lk_X14_49 (⟨_, rfl, Or.inl rfl⟩) rfl e58 ?_
    refine a_aload_n (q := 0) dX14_undo_133 rfl rfl ?_
    obtain ⟨_, e62, hf⟩ := obd hf
    obtain ⟨v60, h61, e59, hf⟩ := ob2 hf
    refine a_callV (as := []) (np := 0) (ci := 13) (st := []) (sX14_withText E (D - 1) (by omega) e59) dX14_undo_134 rfl (by omega) (by decide) cw_X14_519 ⟨wd_1726, ws_137⟩ rfl (ckT_s e62) rfl (Nat.le_of_ble_eq_true rfl) ?_
    obtain ⟨rfl, rfl⟩ := oc2 hf
    exact a_ireturn dX14_undo_137 rfl
  · have hf := ifp c hf
    refine a_bipush (v := (-3)) dX14_undo_7 (by decide) ?_
    obtain ⟨rfl, rfl⟩ := oc2 hf
    exact a_ireturn dX14_undo_9 rfl

def fX9_variable (a0 : Nat) (a1 : Int32) (h : hp) : Option (Nat × hp) :=
  bd2 (fX13_among a1 8 h) fun v2 h3 =>
  if v2 = 0 then (
    some (0, h3)
  ) else (
    (gfR h3 a0 8 0).bind fun v4 =>
    (alR 6 h3 v4 a1).bind fun v6 =>
    some (v6, h3)
  )
set_option maxHeartbeats 4000000 in
set_option maxRecDepth 100000 in
theorem sX9_variable (E : gE) (D : Nat) (hD : 1 ≤ D) {a0 : Nat} {a1 : Int32} {h hz : hp} {v0 : Nat} (hf : fX9_variable a0 a1 h = some (v0, hz)) : MC E yX9_variable cX9_variable (Option.some (Jvm.ClassFile.FieldType.object "TemplatePress$Value")) 2 D [.ref a0, .int a1] h (some (.ref v0)) hz := by
  refine MC.of (by decide +kernel) (Nat.le_of_ble_eq_true rfl) rfl ?_
  unfold fX9_variable at hf
  show AW E yX9_variable cX9_variable (Option.some (Jvm.ClassFile.FieldType.object "TemplatePress$Value")) 2 D (some (.ref v0)) h hz 0 [(0, .ref a0), (1, .int a1)] [] h
  refine a_iload_n (q := 1) dX9_variable_0 rfl rfl ?_
  refine a_bipush (v := 8) dX9_variable_1 (by decide) ?_
  obtain ⟨v2, h3, e1, hf⟩ := ob2 hf
  refine a_callS (as := [.int a1, .int 8]) (np := 2) (st := []) (sX13_among E (D - 1) (by omega) e1) dX9_variable_3 rfl (by omega) (by decide) cw_X9_37 wd_268 rfl (Nat.le_of_ble_eq_true rfl) ?_
  refine a_if_eq (tgt := 18) dX9_variable_6 (by decide) (fun c => ?_) (fun c => ?_)
  · have hf := ifp c hf
    refine a_null dX9_variable_18 ?_
    obtain ⟨rfl, rfl⟩ := oc2 hf
    exact a_areturn dX9_variable_19 rfl (Or.inl ⟨_, rfl⟩)
  · have hf := ifn c hf
    refine a_aload_n (q := 0) dX9_variable_9 rfl rfl ?_
    obtain ⟨v4, e5, hf⟩ := obd hf
    refine o_gfR dX9_variable_10 lk_X9_11 rfl e5 ?_
    refine a_iload_n (q := 1) dX9_variable_13 rfl rfl ?_
    obtain ⟨v6, e7, hf⟩ := obd hf
    refine o_alR dX9_variable_14 (by decide) e7 ?_
    refine a_goto (tgt := 19) dX9_variable_15 (by decide) ?_
    obtain ⟨rfl, rfl⟩ := oc2 hf
    exact a_areturn dX9_variable_19 rfl (Or.inl ⟨_, rfl⟩)
def fX9_held (a0 : Nat) (a1 : Int32) (h : hp) : Option (Nat × hp) :=
  bd2 (fX13_among a1 6 h) fun v2 h3 =>
  if v2 = 0 then (
    some (0, h3)
  ) else (
    (gfR h3 a0 8 1).bind fun v4 =>
    (alR 5 h3 v4 a1).bind fun v6 =>
    some (v6, h3)
  )
set_option maxHeartbeats 4000000 in
set_option maxRecDepth 100000 in
theorem sX9_held (E : gE) (D : Nat) (hD : 1 ≤ D) {a0 : Nat} {a1 : Int32} {h hz : hp} {v0 : Nat} (hf : fX9_held a0 a1 h = some (v0, hz)) : MC E yX9_held cX9_held (Option.some (Jvm.ClassFile.FieldType.object "TemplatePress$Template")) 2 D [.ref a0, .int a1] h (some (.ref v0)) hz := by
  refine MC.of (by decide +kernel) (Nat.le_of_ble_eq_true rfl) rfl ?_
  unfold fX9_held at hf
  show AW E yX9_held cX9_held (Option.some (Jvm.ClassFile.FieldType.object "TemplatePress$Template")) 2 D (some (.ref v0)) h hz 0 [(0, .ref a0), (1, .int a1)] [] h
  refine a_iload_n (q := 1) dX9_held_0 rfl rfl ?_
  refine a_bipush (v := 6) dX9_held_1 (by decide) ?_
  obtain ⟨v2, h3, e1, hf⟩ := ob2 hf
  refine a_callS (as := [.int a1, .int 6]) (np := 2) (st := []) (sX13_among E (D - 1) (by omega) e1) dX9_held_3 rfl (by omega) (by decide) cw_X9_37 wd_268 rfl (Nat.le_of_ble_eq_true rfl) ?_
  refine a_if_eq (tgt := 18) dX9_held_6 (by decide) (fun c => ?_) (fun c => ?_)
  · have hf := ifp c hf
    refine a_null dX9_held_18 ?_
    obtain ⟨rfl, rfl⟩ := oc2 hf
    exact a_areturn dX9_held_19 rfl (Or.inl ⟨_, rfl⟩)
  · have hf := ifn c hf
    refine a_aload_n (q := 0) dX9_held_9 rfl rfl ?_
    obtain ⟨v4, e5, hf⟩ := obd hf
    refine o_gfR dX9_held_10 lk_X9_19 rfl e5 ?_
    refine a_iload_n (q := 1) dX9_held_13 rfl rfl ?_
    obtain ⟨v6, e7, hf⟩ := obd hf
    refine o_alR dX9_held_14 (by decide) e7 ?_
    refine a_goto (tgt := 19) dX9_held_15 (by decide) ?_
    obtain ⟨rfl, rfl⟩ := oc2 hf
    exact a_areturn dX9_held_19 rfl (Or.inl ⟨_, rfl⟩)
def fX9_holding_l4 : Nat → Nat → Int32 → Int32 → hp → Option (Int32 × hp)
  | 0, _, _, _, _ => none
  | n + 1, x0, x1, x2, h =>
    if 6 ≤ x2 then (
      some (x1, h)
    ) else (
      (gfR h x0 8 1).bind fun v1 =>
      (alR 5 h v1 x2).bind fun v3 =>
      if v3 = 0 then (
        fX9_holding_l4 n x0 x1 (x2 + 1) h
      ) else (
        fX9_holding_l4 n x0 (x1 ||| ((1 : Int32) <<< (x2 &&& 31))) (x2 + 1) h
      )
    )
def fX9_holding (a0 : Nat) (h : hp) : Option (Int32 × hp) :=
  bd2 (fX9_holding_l4 FU a0 0 0 h) fun v3 h2 =>
  some (v3, h2)
set_option maxHeartbeats 4000000 in
set_option maxRecDepth 100000 in
theorem sX9_holding_l4 (E : gE) (D : Nat) (hD : 0 ≤ D) {rz : Option Value} {h0 hz : hp} : ∀ (n : Nat) (x0 : Nat) (x1 : Int32) (x2 : Int32) (h : hp) (m1 : Int32) (hq : hp), fX9_holding_l4 n x0 x1 x2 h = some (m1, hq) → (AW E yX9_holding cX9_holding (Option.some Jvm.ClassFile.FieldType.int) 3 D rz h0 hz 31 [(1, .int m1)] [] hq) → AW E yX9_holding cX9_holding (Option.some Jvm.ClassFile.FieldType.int) 3 D rz h0 hz 4 [(0, .ref x0), (1, .int x1), (2, .int x2)] [] h := by
  intro n
  induction n with
  | zero =>
    intro x0 x1 x2 h m1 hq hf _
    rw [fX9_holding_l4] at hf
    cases hf
  | succ n ih =>
    intro x0 x1 x2 h m1 hq hf hk0
    rw [fX9_holding_l4] at hf
    refine a_iload_n (q := 2) dX9_holding_4 rfl rfl ?_
    refine a_bipush (v := 6) dX9_holding_5 (by decide) ?_
    refine a_icmp_ge (tgt := 31) dX9_holding_7 (by decide) (fun c => ?_) (fun c => ?_)
    · have hf := ifp c hf
      obtain ⟨rfl, rfl⟩ := oc2 hf
      exact AW.sub [1] rfl (hk0)
    · have hf := ifn c hf
      refine a_aload_n (q := 0) dX9_holding_10 rfl rfl ?_
      obtain ⟨v1, e2, hf⟩ := obd hf
      refine o_gfR dX9_holding_11 lk_X9_19 rfl e2 ?_
      refine a_iload_n (q := 2) dX9_holding_14 rfl rfl ?_
      obtain ⟨v3, e4, hf⟩ := obd hf
      refine o_alR dX9_holding_15 (by decide) e4 ?_
      refine a_ifnull (tgt := 25) dX9_holding_16 (by decide) (fun c => ?_) (fun c => ?_)
      · have hf := ifp c hf
        refine a_iinc (q := 2) (v := (x2 + 1)) (lv1 := [(2, .int (x2 + 1)), (0, .ref x0), (1, .int x1)]) dX9_holding_25 rfl (by rfl) (by decide) rfl ?_
        refine a_goto (tgt := 4) dX9_holding_28 (by decide) ?_
        exact AW.sub [1, 2, 0] rfl (ih _ _ _ _ _ _ hf hk0)
      · have hf := ifn c hf
        refine a_iload_n (q := 1) dX9_holding_19 rfl rfl ?_
        refine a_iconst (v := 1) dX9_holding_20 (by decide) ?_
        refine a_iload_n (q := 2) dX9_holding_21 rfl rfl ?_
        refine a_ishl dX9_holding_22 ?_
        refine a_ior dX9_holding_23 ?_
        refine a_istore_n (lv1 := [(1, .int (x1 ||| ((1 : Int32) <<< (x2 &&& 31)))), (0, .ref x0), (2, .int x2)]) dX9_holding_24 rfl (by decide) rfl ?_
        refine a_iinc (q := 2) (v := (x2 + 1)) (lv1 := [(2, .int (x2 + 1)), (1, .int (x1 ||| ((1 : Int32) <<< (x2 &&& 31)))), (0, .ref x0)]) dX9_holding_25 rfl (by rfl) (by decide) rfl ?_
        refine a_goto (tgt := 4) dX9_holding_28 (by decide) ?_
        exact AW.sub [2, 1, 0] rfl (ih _ _ _ _ _ _ hf hk0)
set_option maxHeartbeats 4000000 in
set_option maxRecDepth 100000 in
theorem sX9_holding (E : gE) (D : Nat) (hD : 0 ≤ D) {a0 : Nat} {h hz : hp} {v0 : Int32} (hf : fX9_holding a0 h = some (v0, hz)) : MC E yX9_holding cX9_holding (Option.some Jvm.ClassFile.FieldType.int) 3 D [.ref a0] h (some (.int v0)) hz := by
  refine MC.of (by decide +kernel) (Nat.le_of_ble_eq_true rfl) rfl ?_
  unfold fX9_holding at hf
  show AW E yX9_holding cX9_holding (Option.some Jvm.ClassFile.FieldType.int) 3 D (some (.int v0)) h hz 0 [(0, .ref a0)] [] h
  refine a_iconst (v := 0) dX9_holding_0 (by decide) ?_
  refine a_istore_n (lv1 := [(1, .int 0), (0, .ref a0)]) dX9_holding_1 rfl (by decide) rfl ?_
  refine a_iconst (v := 0) dX9_holding_2 (by decide) ?_
  refine a_istore_n (lv1 := [(2, .int 0), (1, .int 0), (0, .ref a0)]) dX9_holding_3 rfl (by decide) rfl ?_
  obtain ⟨v3, h2, e1, hf⟩ := ob2 hf
  refine AW.sub [2, 1, 0] rfl (sX9_holding_l4 E D hD _ _ _ _ _ _ _ e1 ?_)
  refine a_iload_n (q := 0) dX9_holding_31 rfl rfl ?_
  obtain ⟨rfl, rfl⟩ := oc2 hf
  exact a_ireturn dX9_holding_32 rfl
def fX11_copy (a0 : Nat) (a1 : Nat) (h : hp) : Option hp :=
  (gfI h a1 10 0).bind fun v1 =>
  (pfI h a0 10 0 v1).bind fun h3 =>
  (gfI h3 a1 10 1).bind fun v5 =>
  (pfI h3 a0 10 1 v5).bind fun h7 =>
  (gfF h7 a1 10 2).bind fun v9 =>
  (pfF h7 a0 10 2 v9).bind fun h11 =>
  (gfI h11 a1 10 3).bind fun v13 =>
  (pfI h11 a0 10 3 v13).bind fun h15 =>
  (gfR h15 a1 10 4).bind fun v17 =>
  (gfR h15 a0 10 4).bind fun v19 =>
  (gfR h15 a0 10 4).bind fun v21 =>
  (aln 0 h15 v21).bind fun v23 =>
  (cpI h15 v17 0 v19 0 v23).bind fun h25 =>
  some h25
set_option maxHeartbeats 4000000 in
set_option maxRecDepth 100000 in
theorem sX11_copy (E : gE) (D : Nat) (hD : 1 ≤ D) {a0 : Nat} {a1 : Nat} {h hz : hp} (hf : fX11_copy a0 a1 h = some hz) : MC E yX11_copy cX11_copy (Option.none : Option Jvm.ClassFile.FieldType) 2 D [.ref a0, .ref a1] h none hz := by
  refine MC.of (by decide +kernel) (Nat.le_of_ble_eq_true rfl) rfl ?_
  unfold fX11_copy at hf
  show AW E yX11_copy cX11_copy (Option.none : Option Jvm.ClassFile.FieldType) 2 D none h hz 0 [(0, .ref a0), (1, .ref a1)] [] h
  refine a_aload_n (q := 0) dX11_copy_0 rfl rfl ?_
  refine a_aload_n (q := 1) dX11_copy_1 rfl rfl ?_
  obtain ⟨v1, e2, hf⟩ := obd hf
  refine o_gfI dX11_copy_2 lk_X11_23 rfl e2 ?_
  obtain ⟨h3, e4, hf⟩ := obd hf
  refine o_pfI dX11_copy_5 lk_X11_23 (⟨_, rfl, Or.inl rfl⟩) rfl e4 ?_
  refine a_aload_n (q := 0) dX11_copy_8 rfl rfl ?_
  refine a_aload_n (q := 1) dX11_copy_9 rfl rfl ?_
  obtain ⟨v5, e6, hf⟩ := obd hf
  refine o_gfI dX11_copy_10 lk_X11_26 rfl e6 ?_
  obtain ⟨h7, e8, hf⟩ := obd hf
  refine o_pfI dX11_copy_13 lk_X11_26 (⟨_, rfl, Or.inl rfl⟩) rfl e8 ?_
  refine a_aload_n (q := 0) dX11_copy_16 rfl rfl ?_
  refine a_aload_n (q := 1) dX11_copy_17 rfl rfl ?_
  obtain ⟨v9, e10, hf⟩ := obd hf
  refine o_gfF dX11_copy_18 lk_X11_29 rfl e10 ?_
  obtain ⟨h11, e12, hf⟩ := obd hf
  refine o_pfF dX11_copy_21 lk_X11_29 (⟨_, rfl, Or.inl rfl⟩) rfl e12 ?_
  refine a_aload_n (q := 0) dX11_copy_24 rfl rfl ?_
  refine a_aload_n (q := 1) dX11_copy_25 rfl rfl ?_
  obtain ⟨v13, e14, hf⟩ := obd hf
  refine o_gfI dX11_copy_26 lk_X11_19 rfl e14 ?_
  obtain ⟨h15, e16, hf⟩ := obd hf
  refine o_pfI dX11_copy_29 lk_X11_19 (⟨_, rfl, Or.inl rfl⟩) rfl e16 ?_
  refine a_aload_n (q := 1) dX11_copy_32 rfl rfl ?_
  obtain ⟨v17, e18, hf⟩ := obd hf
  refine o_gfR dX11_copy_33 lk_X11_9 rfl e18 ?_
  refine a_iconst (v := 0) dX11_copy_36 (by decide) ?_
  refine a_aload_n (q := 0) dX11_copy_37 rfl rfl ?_
  obtain ⟨v19, e20, hf⟩ := obd hf
  refine o_gfR dX11_copy_38 lk_X11_9 rfl e20 ?_
  refine a_iconst (v := 0) dX11_copy_41 (by decide) ?_
  refine a_aload_n (q := 0) dX11_copy_42 rfl rfl ?_
  obtain ⟨v21, e22, hf⟩ := obd hf
  refine o_gfR dX11_copy_43 lk_X11_9 rfl e22 ?_
  obtain ⟨v23, e24, hf⟩ := obd hf
  refine o_aln dX11_copy_46 (by decide) e24 ?_
  obtain ⟨h25, e26, hf⟩ := obd hf
  refine o_cpI dX11_copy_47 (by omega) wd_828 wd_830 wd_829 wd_22 e26 (Nat.le_of_ble_eq_true rfl) ?_
  obtain rfl := Option.some.inj hf
  exact a_return dX11_copy_50 rfl
def fX9_copy_l2 : Nat → Nat → Nat → Int32 → hp → Option hp
  | 0, _, _, _, _ => none
  | n + 1, x0, x1, x2, h =>
    if 8 ≤ x2 then (
      some (h)
    ) else (
      (gfR h x0 8 0).bind fun v1 =>
      (alR 6 h v1 x2).bind fun v3 =>
      (gfR h x1 8 0).bind fun v5 =>
      (alR 6 h v5 x2).bind fun v7 =>
      (ckT h v3 10).bind fun _ =>
      (fX11_copy v3 v7 h).bind fun h10 =>
      fX9_copy_l2 n x0 x1 (x2 + 1) h10
    )
def fX9_copy_l31 : Nat → Nat → Nat → Int32 → hp → Option hp
  | 0, _, _, _, _ => none
  | n + 1, x0, x1, x2, h =>
    if 6 ≤ x2 then (
      some (h)
    ) else (
      (gfR h x0 8 1).bind fun v1 =>
      (gfR h x1 8 1).bind fun v3 =>
      (alR 5 h v3 x2).bind fun v5 =>
      (asR 5 h v1 x2 v5).bind fun h7 =>
      fX9_copy_l31 n x0 x1 (x2 + 1) h7
    )
def fX9_copy (a0 : Nat) (a1 : Nat) (h : hp) : Option hp :=
  (fX9_copy_l2 FU a0 a1 0 h).bind fun h2 =>
  (fX9_copy_l31 FU a0 a1 0 h2).bind fun h4 =>
  (gfR h4 a0 8 2).bind fun v5 =>
  (gfR h4 a1 8 2).bind fun v7 =>
  (ckT h4 v5 4).bind fun _ =>
  (fX5_copy v5 v7 h4).bind fun h10 =>
  (gfI h10 a1 8 3).bind fun v12 =>
  (pfI h10 a0 8 3 v12).bind fun h14 =>
  some h14
set_option maxHeartbeats 4000000 in
set_option maxRecDepth 100000 in
theorem sX9_copy_l2 (E : gE) (D : Nat) (hD : 2 ≤ D) {rz : Option Value} {h0 hz : hp} : ∀ (n : Nat) (x0 : Nat) (x1 : Nat) (x2 : Int32) (h : hp) (hq : hp), fX9_copy_l2 n x0 x1 x2 h = some hq → (AW E yX9_copy cX9_copy (Option.none : Option Jvm.ClassFile.FieldType) 3 D rz h0 hz 29 [(0, .ref x0), (1, .ref x1)] [] hq) → AW E yX9_copy cX9_copy (Option.none : Option Jvm.ClassFile.FieldType) 3 D rz h0 hz 2 [(0, .ref x0), (1, .ref x1), (2, .int x2)] [] h := by
  intro n
  induction n with
  | zero =>
    intro x0 x1 x2 h hq hf _
    rw [fX9_copy_l2] at hf
    cases hf
  | succ n ih =>
    intro x0 x1 x2 h hq hf hk0
    rw [fX9_copy_l2] at hf
    refine a_iload_n (q := 2) dX9_copy_2 rfl rfl ?_
    refine a_bipush (v := 8) dX9_copy_3 (by decide) ?_
    refine a_icmp_ge (tgt := 29) dX9_copy_5 (by decide) (fun c => ?_) (fun c => ?_)
    · have hf := ifp c hf
      obtain rfl := Option.some.inj hf
      exact AW.sub [0, 1] rfl (hk0)
    · have hf := ifn c hf
      refine a_aload_n (q := 0) dX9_copy_8 rfl rfl ?_
      obtain ⟨v1, e2, hf⟩ := obd hf
      refine o_gfR dX9_copy_9 lk_X9_11 rfl e2 ?_
      refine a_iload_n (q := 2) dX9_copy_12 rfl rfl ?_
      obtain ⟨v3, e4, hf⟩ := obd hf
      refine o_alR dX9_copy_13 (by decide) e4 ?_
      refine a_aload_n (q := 1) dX9_copy_14 rfl rfl ?_
      obtain ⟨v5, e6, hf⟩ := obd hf
      refine o_gfR dX9_copy_15 lk_X9_11 rfl e6 ?_
      refine a_iload_n (q := 2) dX9_copy_18 rfl rfl ?_
      obtain ⟨v7, e8, hf⟩ := obd hf
      refine o_alR dX9_copy_19 (by decide) e8 ?_
      obtain ⟨_, e11, hf⟩ := obd hf
      obtain ⟨h10, e9, hf⟩ := obd hf
      refine a_callV (as := [.ref v7]) (np := 1) (ci := 10) (st := []) (sX11_copy E (D - 1) (by omega) e9) dX9_copy_20 rfl (by omega) (by decide) cw_X9_41 ⟨wd_825, wd_826⟩ rfl (ckT_s e11) rfl (Nat.le_of_ble_eq_true rfl) ?_
      refine a_iinc (q := 2) (v := (x2 + 1)) (lv1 := [(2, .int (x2 + 1)), (0, .ref x0), (1, .ref x1)]) dX9_copy_23 rfl (by rfl) (by decide) rfl ?_
      refine a_goto (tgt := 2) dX9_copy_26 (by decide) ?_
      exact AW.sub [1, 2, 0] rfl (ih _ _ _ _ _ hf hk0)
set_option maxHeartbeats 4000000 in
set_option maxRecDepth 100000 in
theorem sX9_copy_l31 (E : gE) (D : Nat) (hD : 2 ≤ D) {rz : Option Value} {h0 hz : hp} : ∀ (n : Nat) (x0 : Nat) (x1 : Nat) (x2 : Int32) (h : hp) (hq : hp), fX9_copy_l31 n x0 x1 x2 h = some hq → (AW E yX9_copy cX9_copy (Option.none : Option Jvm.ClassFile.FieldType) 3 D rz h0 hz 55 [(0, .ref x0), (1, .ref x1)] [] hq) → AW E yX9_copy cX9_copy (Option.none : Option Jvm.ClassFile.FieldType) 3 D rz h0 hz 31 [(0, .ref x0), (1, .ref x1), (2, .int x2)] [] h := by
  intro n
  induction n with
  | zero =>
    intro x0 x1 x2 h hq hf _
    rw [fX9_copy_l31] at hf
    cases hf
  | succ n ih =>
    intro x0 x1 x2 h hq hf hk0
    rw [fX9_copy_l31] at hf
    refine a_iload_n (q := 2) dX9_copy_31 rfl rfl ?_
    refine a_bipush (v := 6) dX9_copy_32 (by decide) ?_
    refine a_icmp_ge (tgt := 55) dX9_copy_34 (by decide) (fun c => ?_) (fun c => ?_)
    · have hf := ifp c hf
      obtain rfl := Option.some.inj hf
      exact AW.sub [0, 1] rfl (hk0)
    · have hf := ifn c hf
      refine a_aload_n (q := 0) dX9_copy_37 rfl rfl ?_
      obtain ⟨v1, e2, hf⟩ := obd hf
      refine o_gfR dX9_copy_38 lk_X9_19 rfl e2 ?_
      refine a_iload_n (q := 2) dX9_copy_41 rfl rfl ?_
      refine a_aload_n (q := 1) dX9_copy_42 rfl rfl ?_
      obtain ⟨v3, e4, hf⟩ := obd hf
      refine o_gfR dX9_copy_43 lk_X9_19 rfl e4 ?_
      refine a_iload_n (q := 2) dX9_copy_46 rfl rfl ?_
      obtain ⟨v5, e6, hf⟩ := obd hf
      refine o_alR dX9_copy_47 (by decide) e6 ?_
      obtain ⟨h7, e8, hf⟩ := obd hf
      refine o_asR dX9_copy_48 (by decide) e8 ?_
      refine a_iinc (q := 2) (v := (x2 + 1)) (lv1 := [(2, .int (x2 + 1)), (0, .ref x0), (1, .ref x1)]) dX9_copy_49 rfl (by rfl) (by decide) rfl ?_
      refine a_goto (tgt := 31) dX9_copy_52 (by decide) ?_
      exact AW.sub [1, 2, 0] rfl (ih _ _ _ _ _ hf hk0)
set_option maxHeartbeats 4000000 in
set_option maxRecDepth 100000 in
theorem sX9_copy (E : gE) (D : Nat) (hD : 2 ≤ D) {a0 : Nat} {a1 : Nat} {h hz : hp} (hf : fX9_copy a0 a1 h = some hz) : MC E yX9_copy cX9_copy (Option.none : Option Jvm.ClassFile.FieldType) 3 D [.ref a0, .ref a1] h none hz := by
  refine MC.of (by decide +kernel) (Nat.le_of_ble_eq_true rfl) rfl ?_
  unfold fX9_copy at hf
  show AW E yX9_copy cX9_copy (Option.none : Option Jvm.ClassFile.FieldType) 3 D none h hz 0 [(0, .ref a0), (1, .ref a1)] [] h
  refine a_iconst (v := 0) dX9_copy_0 (by decide) ?_
  refine a_istore_n (lv1 := [(2, .int 0), (0, .ref a0), (1, .ref a1)]) dX9_copy_1 rfl (by decide) rfl ?_
  obtain ⟨h2, e1, hf⟩ := obd hf
  refine AW.sub [1, 2, 0] rfl (sX9_copy_l2 E D hD _ _ _ _ _ _ e1 ?_)
  refine a_iconst (v := 0) dX9_copy_29 (by decide) ?_
  refine a_istore_n (lv1 := [(2, .int 0), (0, .ref a0), (1, .ref a1)]) dX9_copy_30 rfl (by decide) rfl ?_
  obtain ⟨h4, e3, hf⟩ := obd hf
  refine AW.sub [1, 2, 0] rfl (sX9_copy_l31 E D hD _ _ _ _ _ _ e3 ?_)
  refine a_aload_n (q := 0) dX9_copy_55 rfl rfl ?_
  obtain ⟨v5, e6, hf⟩ := obd hf
  refine o_gfR dX9_copy_56 lk_X9_28 rfl e6 ?_
  refine a_aload_n (q := 1) dX9_copy_59 rfl rfl ?_
  obtain ⟨v7, e8, hf⟩ := obd hf
  refine o_gfR dX9_copy_60 lk_X9_28 rfl e8 ?_
  obtain ⟨_, e11, hf⟩ := obd hf
  obtain ⟨h10, e9, hf⟩ := obd hf
  refine a_callV (as := [.ref v7]) (np := 1) (ci := 4) (st := []) (sX5_copy E (D - 1) (by omega) e9) dX9_copy_63 rfl (by omega) (by decide) cw_X9_45 ⟨wd_1000, wd_1001⟩ rfl (ckT_s e11) rfl (Nat.le_of_ble_eq_true rfl) ?_
  refine a_aload_n (q := 0) dX9_copy_66 rfl rfl ?_
  refine a_aload_n (q := 1) dX9_copy_67 rfl rfl ?_
  obtain ⟨v12, e13, hf⟩ := obd hf
  refine o_gfI dX9_copy_68 lk_X9_32 rfl e13 ?_
  obtain ⟨h14, e15, hf⟩ := obd hf
  refine o_pfI dX9_copy_71 lk_X9_32 (⟨_, rfl, Or.inl rfl⟩) rfl e15 ?_
  obtain rfl := Option.some.inj hf
  exact a_return dX9_copy_74 rfl
def fX10_block (a0 : Nat) (a1 : Int32) (h : hp) : Option (Nat × hp) :=
  bd2 (fX13_among a1 4 h) fun v2 h3 =>
  if v2 = 0 then (
    some (0, h3)
  ) else (
    (gfR h3 a0 9 1).bind fun v4 =>
    (alR 3 h3 v4 a1).bind fun v6 =>
    some (v6, h3)
  )
set_option maxHeartbeats 4000000 in
set_option maxRecDepth 100000 in
theorem sX10_block (E : gE) (D : Nat) (hD : 1 ≤ D) {a0 : Nat} {a1 : Int32} {h hz : hp} {v0 : Nat} (hf : fX10_block a0 a1 h = some (v0, hz)) : MC E yX10_block cX10_block (Option.some (Jvm.ClassFile.FieldType.object "TemplatePress$Piece")) 2 D [.ref a0, .int a1] h (some (.ref v0)) hz := by
  refine MC.of (by decide +kernel) (Nat.le_of_ble_eq_true rfl) rfl ?_
  unfold fX10_block at hf
  show AW E yX10_block cX10_block (Option.some (Jvm.ClassFile.FieldType.object "TemplatePress$Piece")) 2 D (some (.ref v0)) h hz 0 [(0, .ref a0), (1, .int a1)] [] h
  refine a_iload_n (q := 1) dX10_block_0 rfl rfl ?_
  refine a_iconst (v := 4) dX10_block_1 (by decide) ?_
  obtain ⟨v2, h3, e1, hf⟩ := ob2 hf
  refine a_callS (as := [.int a1, .int 4]) (np := 2) (st := []) (sX13_among E (D - 1) (by omega) e1) dX10_block_2 rfl (by omega) (by decide) cw_X10_24 wd_268 rfl (Nat.le_of_ble_eq_true rfl) ?_
  refine a_if_eq (tgt := 17) dX10_block_5 (by decide) (fun c => ?_) (fun c => ?_)
  · have hf := ifp c hf
    refine a_null dX10_block_17 ?_
    obtain ⟨rfl, rfl⟩ := oc2 hf
    exact a_areturn dX10_block_18 rfl (Or.inl ⟨_, rfl⟩)
  · have hf := ifn c hf
    refine a_aload_n (q := 0) dX10_block_8 rfl rfl ?_
    obtain ⟨v4, e5, hf⟩ := obd hf
    refine o_gfR dX10_block_9 lk_X10_11 rfl e5 ?_
    refine a_iload_n (q := 1) dX10_block_12 rfl rfl ?_
    obtain ⟨v6, e7, hf⟩ := obd hf
    refine o_alR dX10_block_13 (by decide) e7 ?_
    refine a_goto (tgt := 18) dX10_block_14 (by decide) ?_
    obtain ⟨rfl, rfl⟩ := oc2 hf
    exact a_areturn dX10_block_18 rfl (Or.inl ⟨_, rfl⟩)
def fX10_letters_l4 : Nat → Nat → Int32 → Int32 → hp → Option (Int32 × hp)
  | 0, _, _, _, _ => none
  | n + 1, x0, x1, x2, h =>
    if 4 ≤ x2 then (
      some (x1, h)
    ) else (
      (gfR h x0 9 1).bind fun v1 =>
      (alR 3 h v1 x2).bind fun v3 =>
      if v3 = 0 then (
        fX10_letters_l4 n x0 x1 (x2 + 1) h
      ) else (
        fX10_letters_l4 n x0 (x1 ||| ((1 : Int32) <<< (x2 &&& 31))) (x2 + 1) h
      )
    )
def fX10_letters (a0 : Nat) (h : hp) : Option (Int32 × hp) :=
  bd2 (fX10_letters_l4 FU a0 0 0 h) fun v3 h2 =>
  some (v3, h2)
set_option maxHeartbeats 4000000 in
set_option maxRecDepth 100000 in
theorem sX10_letters_l4 (E : gE) (D : Nat) (hD : 0 ≤ D) {rz : Option Value} {h0 hz : hp} : ∀ (n : Nat) (x0 : Nat) (x1 : Int32) (x2 : Int32) (h : hp) (m1 : Int32) (hq : hp), fX10_letters_l4 n x0 x1 x2 h = some (m1, hq) → (AW E yX10_letters cX10_letters (Option.some Jvm.ClassFile.FieldType.int) 3 D rz h0 hz 30 [(1, .int m1)] [] hq) → AW E yX10_letters cX10_letters (Option.some Jvm.ClassFile.FieldType.int) 3 D rz h0 hz 4 [(0, .ref x0), (1, .int x1), (2, .int x2)] [] h := by
  intro n
  induction n with
  | zero =>
    intro x0 x1 x2 h m1 hq hf _
    rw [fX10_letters_l4] at hf
    cases hf
  | succ n ih =>
    intro x0 x1 x2 h m1 hq hf hk0
    rw [fX10_letters_l4] at hf
    refine a_iload_n (q := 2) dX10_letters_4 rfl rfl ?_
    refine a_iconst (v := 4) dX10_letters_5 (by decide) ?_
    refine a_icmp_ge (tgt := 30) dX10_letters_6 (by decide) (fun c => ?_) (fun c => ?_)
    · have hf := ifp c hf
      obtain ⟨rfl, rfl⟩ := oc2 hf
      exact AW.sub [1] rfl (hk0)
    · have hf := ifn c hf
      refine a_aload_n (q := 0) dX10_letters_9 rfl rfl ?_
      obtain ⟨v1, e2, hf⟩ := obd hf
      refine o_gfR dX10_letters_10 lk_X10_11 rfl e2 ?_
      refine a_iload_n (q := 2) dX10_letters_13 rfl rfl ?_
      obtain ⟨v3, e4, hf⟩ := obd hf
      refine o_alR dX10_letters_14 (by decide) e4 ?_
      refine a_ifnull (tgt := 24) dX10_letters_15 (by decide) (fun c => ?_) (fun c => ?_)
      · have hf := ifp c hf
        refine a_iinc (q := 2) (v := (x2 + 1)) (lv1 := [(2, .int (x2 + 1)), (0, .ref x0), (1, .int x1)]) dX10_letters_24 rfl (by rfl) (by decide) rfl ?_
        refine a_goto (tgt := 4) dX10_letters_27 (by decide) ?_
        exact AW.sub [1, 2, 0] rfl (ih _ _ _ _ _ _ hf hk0)
      · have hf := ifn c hf
        refine a_iload_n (q := 1) dX10_letters_18 rfl rfl ?_
        refine a_iconst (v := 1) dX10_letters_19 (by decide) ?_
        refine a_iload_n (q := 2) dX10_letters_20 rfl rfl ?_
        refine a_ishl dX10_letters_21 ?_
        refine a_ior dX10_letters_22 ?_
        refine a_istore_n (lv1 := [(1, .int (x1 ||| ((1 : Int32) <<< (x2 &&& 31)))), (0, .ref x0), (2, .int x2)]) dX10_letters_23 rfl (by decide) rfl ?_
        refine a_iinc (q := 2) (v := (x2 + 1)) (lv1 := [(2, .int (x2 + 1)), (1, .int (x1 ||| ((1 : Int32) <<< (x2 &&& 31)))), (0, .ref x0)]) dX10_letters_24 rfl (by rfl) (by decide) rfl ?_
        refine a_goto (tgt := 4) dX10_letters_27 (by decide) ?_
        exact AW.sub [2, 1, 0] rfl (ih _ _ _ _ _ _ hf hk0)
set_option maxHeartbeats 4000000 in
set_option maxRecDepth 100000 in
theorem sX10_letters (E : gE) (D : Nat) (hD : 0 ≤ D) {a0 : Nat} {h hz : hp} {v0 : Int32} (hf : fX10_letters a0 h = some (v0, hz)) : MC E yX10_letters cX10_letters (Option.some Jvm.ClassFile.FieldType.int) 3 D [.ref a0] h (some (.int v0)) hz := by
  refine MC.of (by decide +kernel) (Nat.le_of_ble_eq_true rfl) rfl ?_
  unfold fX10_letters at hf
  show AW E yX10_letters cX10_letters (Option.some Jvm.ClassFile.FieldType.int) 3 D (some (.int v0)) h hz 0 [(0, .ref a0)] [] h
  refine a_iconst (v := 0) dX10_letters_0 (by decide) ?_
  refine a_istore_n (lv1 := [(1, .int 0), (0, .ref a0)]) dX10_letters_1 rfl (by decide) rfl ?_
  refine a_iconst (v := 0) dX10_letters_2 (by decide) ?_
  refine a_istore_n (lv1 := [(2, .int 0), (1, .int 0), (0, .ref a0)]) dX10_letters_3 rfl (by decide) rfl ?_
  obtain ⟨v3, h2, e1, hf⟩ := ob2 hf
  refine AW.sub [2, 1, 0] rfl (sX10_letters_l4 E D hD _ _ _ _ _ _ _ e1 ?_)
  refine a_iload_n (q := 0) dX10_letters_30 rfl rfl ?_
  obtain ⟨rfl, rfl⟩ := oc2 hf
  exact a_ireturn dX10_letters_31 rfl
def fX11_isInt (a0 : Int64) (h : hp) : Option (Int32 × hp) :=
  if (lg_cmp a0 (-1000000)) < 0 then (
    some (0, h)
  ) else (
    if 0 < (lg_cmp a0 1000000) then (
      some (0, h)
    ) else (
      some (1, h)
    )
  )
set_option maxHeartbeats 4000000 in
set_option maxRecDepth 100000 in
theorem sX11_isInt (E : gE) (D : Nat) (hD : 0 ≤ D) {a0 : Int64} {h hz : hp} {v0 : Int32} (hf : fX11_isInt a0 h = some (v0, hz)) : MC E yX11_isInt cX11_isInt (Option.some Jvm.ClassFile.FieldType.boolean) 2 D [.long a0] h (some (.int v0)) hz := by
  refine MC.of (by decide +kernel) (Nat.le_of_ble_eq_true rfl) rfl ?_
  unfold fX11_isInt at hf
  show AW E yX11_isInt cX11_isInt (Option.some Jvm.ClassFile.FieldType.boolean) 2 D (some (.int v0)) h hz 0 [(0, .long a0)] [] h
  refine a_lload_n (q := 0) dX11_isInt_0 rfl rfl ?_
  refine a_ldc2 (v := (-1000000)) dX11_isInt_1 wd_281 ?_
  refine a_lcmp dX11_isInt_4 ?_
  refine a_if_lt (tgt := 20) dX11_isInt_5 (by decide) (fun c => ?_) (fun c => ?_)
  · have hf := ifp c hf
    refine a_iconst (v := 0) dX11_isInt_20 (by decide) ?_
    obtain ⟨rfl, rfl⟩ := oc2 hf
    exact a_zreturn dX11_isInt_21 rfl (by decide)
  · have hf := ifn c hf
    refine a_lload_n (q := 0) dX11_isInt_8 rfl rfl ?_
    refine a_ldc2 (v := 1000000) dX11_isInt_9 wd_282 ?_
    refine a_lcmp dX11_isInt_12 ?_
    refine a_if_gt (tgt := 20) dX11_isInt_13 (by decide) (fun c => ?_) (fun c => ?_)
    · have hf := ifp c hf
      refine a_iconst (v := 0) dX11_isInt_20 (by decide) ?_
      obtain ⟨rfl, rfl⟩ := oc2 hf
      exact a_zreturn dX11_isInt_21 rfl (by decide)
    · have hf := ifn c hf
      refine a_iconst (v := 1) dX11_isInt_16 (by decide) ?_
      refine a_goto (tgt := 21) dX11_isInt_17 (by decide) ?_
      obtain ⟨rfl, rfl⟩ := oc2 hf
      exact a_zreturn dX11_isInt_21 rfl (by decide)
def fX11_at (a0 : Nat) (a1 : Int32) (h : hp) : Option (Int32 × hp) :=
  if a1 < 0 then (
    some (0, h)
  ) else (
    (gfI h a0 10 3).bind fun v1 =>
    if v1 ≤ a1 then (
      some (0, h)
    ) else (
      (gfR h a0 10 4).bind fun v3 =>
      (aln 0 h v3).bind fun v5 =>
      if v5 ≤ a1 then (
        some (0, h)
      ) else (
        (gfR h a0 10 4).bind fun v7 =>
        (alI h v7 a1).bind fun v9 =>
        some (v9, h)
      )
    )
  )
set_option maxHeartbeats 4000000 in
set_option maxRecDepth 100000 in
theorem sX11_at (E : gE) (D : Nat) (hD : 0 ≤ D) {a0 : Nat} {a1 : Int32} {h hz : hp} {v0 : Int32} (hf : fX11_at a0 a1 h = some (v0, hz)) : MC E yX11_at cX11_at (Option.some Jvm.ClassFile.FieldType.int) 2 D [.ref a0, .int a1] h (some (.int v0)) hz := by
  refine MC.of (by decide +kernel) (Nat.le_of_ble_eq_true rfl) rfl ?_
  unfold fX11_at at hf
  show AW E yX11_at cX11_at (Option.some Jvm.ClassFile.FieldType.int) 2 D (some (.int v0)) h hz 0 [(0, .ref a0), (1, .int a1)] [] h
  refine a_iload_n (q := 1) dX11_at_0 rfl rfl ?_
  refine a_if_lt (tgt := 30) dX11_at_1 (by decide) (fun c => ?_) (fun c => ?_)
  · have hf := ifp c hf
    refine a_iconst (v := 0) dX11_at_30 (by decide) ?_
    obtain ⟨rfl, rfl⟩ := oc2 hf
    exact a_ireturn dX11_at_31 rfl
  · have hf := ifn c hf
    refine a_iload_n (q := 1) dX11_at_4 rfl rfl ?_
    refine a_aload_n (q := 0) dX11_at_5 rfl rfl ?_
    obtain ⟨v1, e2, hf⟩ := obd hf
    refine o_gfI dX11_at_6 lk_X11_19 rfl e2 ?_
    refine a_icmp_ge (tgt := 30) dX11_at_9 (by decide) (fun c => ?_) (fun c => ?_)
    · have hf := ifp c hf
      refine a_iconst (v := 0) dX11_at_30 (by decide) ?_
      obtain ⟨rfl, rfl⟩ := oc2 hf
      exact a_ireturn dX11_at_31 rfl
    · have hf := ifn c hf
      refine a_iload_n (q := 1) dX11_at_12 rfl rfl ?_
      refine a_aload_n (q := 0) dX11_at_13 rfl rfl ?_
      obtain ⟨v3, e4, hf⟩ := obd hf
      refine o_gfR dX11_at_14 lk_X11_9 rfl e4 ?_
      obtain ⟨v5, e6, hf⟩ := obd hf
      refine o_aln dX11_at_17 (by decide) e6 ?_
      refine a_icmp_ge (tgt := 30) dX11_at_18 (by decide) (fun c => ?_) (fun c => ?_)
      · have hf := ifp c hf
        refine a_iconst (v := 0) dX11_at_30 (by decide) ?_
        obtain ⟨rfl, rfl⟩ := oc2 hf
        exact a_ireturn dX11_at_31 rfl
      · have hf := ifn c hf
        refine a_aload_n (q := 0) dX11_at_21 rfl rfl ?_
        obtain ⟨v7, e8, hf⟩ := obd hf
        refine o_gfR dX11_at_22 lk_X11_9 rfl e8 ?_
        refine a_iload_n (q := 1) dX11_at_25 rfl rfl ?_
        obtain ⟨v9, e10, hf⟩ := obd hf
        refine o_alI dX11_at_26 e10 ?_
        refine a_goto (tgt := 31) dX11_at_27 (by decide) ?_
        obtain ⟨rfl, rfl⟩ := oc2 hf
        exact a_ireturn dX11_at_31 rfl
def fX11_becomeNothing (a0 : Nat) (h : hp) : Option hp :=
  (pfI h a0 10 0 0).bind fun h1 =>
  (pfI h1 a0 10 3 0).bind fun h3 =>
  some h3
set_option maxHeartbeats 4000000 in
set_option maxRecDepth 100000 in
theorem sX11_becomeNothing (E : gE) (D : Nat) (hD : 0 ≤ D) {a0 : Nat} {h hz : hp} (hf : fX11_becomeNothing a0 h = some hz) : MC E yX11_becomeNothing cX11_becomeNothing (Option.none : Option Jvm.ClassFile.FieldType) 1 D [.ref a0] h none hz := by
  refine MC.of (by decide +kernel) (Nat.le_of_ble_eq_true rfl) rfl ?_
  unfold fX11_becomeNothing at hf
  show AW E yX11_becomeNothing cX11_becomeNothing (Option.none : Option Jvm.ClassFile.FieldType) 1 D none h hz 0 [(0, .ref a0)] [] h
  refine a_aload_n (q := 0) dX11_becomeNothing_0 rfl rfl ?_
  refine a_iconst (v := 0) dX11_becomeNothing_1 (by decide) ?_
  obtain ⟨h1, e2, hf⟩ := obd hf
  refine o_pfI dX11_becomeNothing_2 lk_X11_23 (⟨_, rfl, Or.inl rfl⟩) rfl e2 ?_
  refine a_aload_n (q := 0) dX11_becomeNothing_5 rfl rfl ?_
  refine a_iconst (v := 0) dX11_becomeNothing_6 (by decide) ?_
  obtain ⟨h3, e4, hf⟩ := obd hf
  refine o_pfI dX11_becomeNothing_7 lk_X11_19 (⟨_, rfl, Or.inl rfl⟩) rfl e4 ?_
  obtain rfl := Option.some.inj hf
  exact a_return dX11_becomeNothing_10 rfl
def fX11_becomeReal (a0 : Nat) (a1 : UInt32) (h : hp) : Option hp :=
  (pfI h a0 10 0 2).bind fun h1 =>
  jn (fun (s41_0 : UInt32) (h41j : hp) => (
    (pfF h41j a0 10 2 s41_0).bind fun h3 =>
    (pfI h3 a0 10 3 0).bind fun h5 =>
    some h5
    : Option hp)) fun k41 =>
  if (Op.cmpValue (FP.fcmp a1 1232348160) .l) ≤ 0 then (
    if 0 ≤ (Op.cmpValue (FP.fcmp a1 3379831808) .g) then (
      if (Op.cmpValue (FP.fcmp a1 FP.fconst0) .l) = 0 then (
        k41 FP.fconst0 h1
      ) else (
        k41 a1 h1
      )
    ) else (
      k41 3379831808 h1
    )
  ) else (
    k41 1232348160 h1
  )
set_option maxHeartbeats 4000000 in
set_option maxRecDepth 100000 in
theorem sX11_becomeReal (E : gE) (D : Nat) (hD : 0 ≤ D) {a0 : Nat} {a1 : UInt32} {h hz : hp} (hf : fX11_becomeReal a0 a1 h = some hz) : MC E yX11_becomeReal cX11_becomeReal (Option.none : Option Jvm.ClassFile.FieldType) 2 D [.ref a0, .float a1] h none hz := by
  refine MC.of (by decide +kernel) (Nat.le_of_ble_eq_true rfl) rfl ?_
  unfold fX11_becomeReal at hf
  show AW E yX11_becomeReal cX11_becomeReal (Option.none : Option Jvm.ClassFile.FieldType) 2 D none h hz 0 [(0, .ref a0), (1, .float a1)] [] h
  refine a_aload_n (q := 0) dX11_becomeReal_0 rfl rfl ?_
  refine a_iconst (v := 2) dX11_becomeReal_1 (by decide) ?_
  obtain ⟨h1, e2, hf⟩ := obd hf
  refine o_pfI dX11_becomeReal_2 lk_X11_23 (⟨_, rfl, Or.inl rfl⟩) rfl e2 ?_
  refine a_aload_n (q := 0) dX11_becomeReal_5 rfl rfl ?_
  refine a_fload_n (q := 1) dX11_becomeReal_6 rfl rfl ?_
  refine a_ldcf (v := 1232348160) dX11_becomeReal_7 wd_295 ?_
  refine a_fcmp dX11_becomeReal_9 ?_
  obtain ⟨k41, ek41, hf⟩ := jn_s hf
  have hj41 : ∀ (s41_0 : UInt32) (h41j : hp), k41 s41_0 h41j = some hz → AW E yX11_becomeReal cX11_becomeReal (Option.none : Option Jvm.ClassFile.FieldType) 2 D none h hz 41 [(0, .ref a0)] [.float s41_0, .ref a0] h41j := by
    intro s41_0 h41j hf
    rw [ek41] at hf
    clear ek41
    obtain ⟨h3, e4, hf⟩ := obd hf
    refine o_pfF dX11_becomeReal_41 lk_X11_29 (⟨_, rfl, Or.inl rfl⟩) rfl e4 ?_
    refine a_aload_n (q := 0) dX11_becomeReal_44 rfl rfl ?_
    refine a_iconst (v := 0) dX11_becomeReal_45 (by decide) ?_
    obtain ⟨h5, e6, hf⟩ := obd hf
    refine o_pfI dX11_becomeReal_46 lk_X11_19 (⟨_, rfl, Or.inl rfl⟩) rfl e6 ?_
    obtain rfl := Option.some.inj hf
    exact a_return dX11_becomeReal_49 rfl
  clear ek41
  refine a_if_le (tgt := 18) dX11_becomeReal_10 (by decide) (fun c => ?_) (fun c => ?_)
  · have hf := ifp c hf
    refine a_fload_n (q := 1) dX11_becomeReal_18 rfl rfl ?_
    refine a_ldcf (v := 3379831808) dX11_becomeReal_19 wd_296 ?_
    refine a_fcmp dX11_becomeReal_21 ?_
    refine a_if_ge (tgt := 30) dX11_becomeReal_22 (by decide) (fun c => ?_) (fun c => ?_)
    · have hf := ifp c hf
      refine a_fload_n (q := 1) dX11_becomeReal_30 rfl rfl ?_
      refine a_fconst0 dX11_becomeReal_31 ?_
      refine a_fcmp dX11_becomeReal_32 ?_
      refine a_if_ne (tgt := 40) dX11_becomeReal_33 (by decide) (fun c => ?_) (fun c => ?_)
      · have hf := ifn c hf
        refine a_fload_n (q := 1) dX11_becomeReal_40 rfl rfl ?_
        exact AW.sub [0] rfl (hj41 _ _ hf)
      · have hf := ifp c hf
        refine a_fconst0 dX11_becomeReal_36 ?_
        refine a_goto (tgt := 41) dX11_becomeReal_37 (by decide) ?_
        exact AW.sub [0] rfl (hj41 _ _ hf)
    · have hf := ifn c hf
      refine a_ldcf (v := 3379831808) dX11_becomeReal_25 wd_296 ?_
      refine a_goto (tgt := 41) dX11_becomeReal_27 (by decide) ?_
      exact AW.sub [0] rfl (hj41 _ _ hf)
  · have hf := ifn c hf
    refine a_ldcf (v := 1232348160) dX11_becomeReal_13 wd_295 ?_
    refine a_goto (tgt := 41) dX11_becomeReal_15 (by decide) ?_
    exact AW.sub [0] rfl (hj41 _ _ hf)
def fX11_becomeList_l12 : Nat → Nat → Int32 → hp → Option hp
  | 0, _, _, _ => none
  | n + 1, x0, x2, h =>
    (gfI h x0 10 3).bind fun v1 =>
    if v1 ≤ x2 then (
      some (h)
    ) else (
      (ckT h x0 10).bind fun _ =>
      (fX11_put x0 x2 0 h).bind fun h4 =>
      fX11_becomeList_l12 n x0 (x2 + 1) h4
    )
def fX11_becomeList (a0 : Nat) (a1 : Int32) (h : hp) : Option hp :=
  (pfI h a0 10 0 4).bind fun h1 =>
  (ckT h1 a0 10).bind fun _ =>
  (fX11_resize a0 a1 h1).bind fun h4 =>
  (fX11_becomeList_l12 FU a0 0 h4).bind fun h7 =>
  some h7
set_option maxHeartbeats 4000000 in
set_option maxRecDepth 100000 in
theorem sX11_becomeList_l12 (E : gE) (D : Nat) (hD : 2 ≤ D) {rz : Option Value} {h0 hz : hp} : ∀ (n : Nat) (x0 : Nat) (x2 : Int32) (h : hp) (hq : hp), fX11_becomeList_l12 n x0 x2 h = some hq → (AW E yX11_becomeList cX11_becomeList (Option.none : Option Jvm.ClassFile.FieldType) 3 D rz h0 hz 32 [] [] hq) → AW E yX11_becomeList cX11_becomeList (Option.none : Option Jvm.ClassFile.FieldType) 3 D rz h0 hz 12 [(0, .ref x0), (2, .int x2)] [] h := by
  intro n
  induction n with
  | zero =>
    intro x0 x2 h hq hf _
    rw [fX11_becomeList_l12] at hf
    cases hf
  | succ n ih =>
    intro x0 x2 h hq hf hk0
    rw [fX11_becomeList_l12] at hf
    refine a_iload_n (q := 1) dX11_becomeList_12 rfl rfl ?_
    refine a_aload_n (q := 0) dX11_becomeList_13 rfl rfl ?_
    obtain ⟨v1, e2, hf⟩ := obd hf
    refine o_gfI dX11_becomeList_14 lk_X11_19 rfl e2 ?_
    refine a_icmp_ge (tgt := 32) dX11_becomeList_17 (by decide) (fun c => ?_) (fun c => ?_)
    · have hf := ifp c hf
      obtain rfl := Option.some.inj hf
      exact AW.sub [] rfl (hk0)
    · have hf := ifn c hf
      refine a_aload_n (q := 0) dX11_becomeList_20 rfl rfl ?_
      refine a_iload_n (q := 1) dX11_becomeList_21 rfl rfl ?_
      refine a_iconst (v := 0) dX11_becomeList_22 (by decide) ?_
      obtain ⟨_, e5, hf⟩ := obd hf
      obtain ⟨h4, e3, hf⟩ := obd hf
      refine a_callV (as := [.int x2, .int 0]) (np := 2) (ci := 10) (st := []) (sX11_put E (D - 1) (by omega) e3) dX11_becomeList_23 rfl (by omega) (by decide) cw_X11_45 ⟨wd_317, wd_318⟩ rfl (ckT_s e5) rfl (Nat.le_of_ble_eq_true rfl) ?_
      refine a_iinc (q := 1) (v := (x2 + 1)) (lv1 := [(2, .int (x2 + 1)), (0, .ref x0)]) dX11_becomeList_26 rfl (by rfl) (by decide) rfl ?_
      refine a_goto (tgt := 12) dX11_becomeList_29 (by decide) ?_
      exact AW.sub [1, 0] rfl (ih _ _ _ _ hf hk0)
set_option maxHeartbeats 4000000 in
set_option maxRecDepth 100000 in
theorem sX11_becomeList (E : gE) (D : Nat) (hD : 2 ≤ D) {a0 : Nat} {a1 : Int32} {h hz : hp} (hf : fX11_becomeList a0 a1 h = some hz) : MC E yX11_becomeList cX11_becomeList (Option.none : Option Jvm.ClassFile.FieldType) 3 D [.ref a0, .int a1] h none hz := by
  refine MC.of (by decide +kernel) (Nat.le_of_ble_eq_true rfl) rfl ?_
  unfold fX11_becomeList at hf
  show AW E yX11_becomeList cX11_becomeList (Option.none : Option Jvm.ClassFile.FieldType) 3 D none h hz 0 [(0, .ref a0), (1, .int a1)] [] h
  refine a_aload_n (q := 0) dX11_becomeList_0 rfl rfl ?_
  refine a_iconst (v := 4) dX11_becomeList_1 (by decide) ?_
  obtain ⟨h1, e2, hf⟩ := obd hf
  refine o_pfI dX11_becomeList_2 lk_X11_23 (⟨_, rfl, Or.inl rfl⟩) rfl e2 ?_
  refine a_aload_n (q := 0) dX11_becomeList_5 rfl rfl ?_
  refine a_iload_n (q := 1) dX11_becomeList_6 rfl rfl ?_
  obtain ⟨_, e5, hf⟩ := obd hf
  obtain ⟨h4, e3, hf⟩ := obd hf
  refine a_callV (as := [.int a1]) (np := 1) (ci := 10) (st := []) (sX11_resize E (D - 1) (by omega) e3) dX11_becomeList_7 rfl (by omega) (by decide) cw_X11_41 ⟨wd_307, ws_0⟩ rfl (ckT_s e5) rfl (Nat.le_of_ble_eq_true rfl) ?_
  refine a_iconst (v := 0) dX11_becomeList_10 (by decide) ?_
  refine a_istore_n (lv1 := [(2, .int 0), (0, .ref a0), (1, .int a1)]) dX11_becomeList_11 rfl (by decide) rfl ?_
  obtain ⟨h7, e6, hf⟩ := obd hf
  refine AW.sub [1, 0] rfl (sX11_becomeList_l12 E D hD _ _ _ _ _ e6 ?_)
  obtain rfl := Option.some.inj hf
  exact a_return dX11_becomeList_32 rfl
def fX11_becomeCounted (a0 : Nat) (a1 : Int64) (h : hp) : Option (Int32 × hp) :=
  bd2 (fX11_isInt a1 h) fun v2 h3 =>
  if v2 = 0 then (
    some (4, h3)
  ) else (
    (pfI h3 a0 10 0 1).bind fun h4 =>
    (pfI h4 a0 10 1 (a1.toInt32)).bind fun h6 =>
    (pfI h6 a0 10 3 0).bind fun h8 =>
    some (0, h8)
  )
set_option maxHeartbeats 4000000 in
set_option maxRecDepth 100000 in
theorem sX11_becomeCounted (E : gE) (D : Nat) (hD : 1 ≤ D) {a0 : Nat} {a1 : Int64} {h hz : hp} {v0 : Int32} (hf : fX11_becomeCounted a0 a1 h = some (v0, hz)) : MC E yX11_becomeCounted cX11_becomeCounted (Option.some Jvm.ClassFile.FieldType.int) 3 D [.ref a0, .long a1] h (some (.int v0)) hz := by
  refine MC.of (by decide +kernel) (Nat.le_of_ble_eq_true rfl) rfl ?_
  unfold fX11_becomeCounted at hf
  show AW E yX11_becomeCounted cX11_becomeCounted (Option.some Jvm.ClassFile.FieldType.int) 3 D (some (.int v0)) h hz 0 [(0, .ref a0), (1, .long a1)] [] h
  refine a_lload_n (q := 1) dX11_becomeCounted_0 rfl rfl ?_
  obtain ⟨v2, h3, e1, hf⟩ := ob2 hf
  refine a_callS (as := [.long a1]) (np := 1) (st := []) (sX11_isInt E (D - 1) (by omega) e1) dX11_becomeCounted_1 rfl (by omega) (by decide) cw_X11_62 wd_279 rfl (Nat.le_of_ble_eq_true rfl) ?_
  refine a_if_ne (tgt := 9) dX11_becomeCounted_4 (by decide) (fun c => ?_) (fun c => ?_)
  · have hf := ifn c hf
    refine a_aload_n (q := 0) dX11_becomeCounted_9 rfl rfl ?_
    refine a_iconst (v := 1) dX11_becomeCounted_10 (by decide) ?_
    obtain ⟨h4, e5, hf⟩ := obd hf
    refine o_pfI dX11_becomeCounted_11 lk_X11_23 (⟨_, rfl, Or.inl rfl⟩) rfl e5 ?_
    refine a_aload_n (q := 0) dX11_becomeCounted_14 rfl rfl ?_
    refine a_lload_n (q := 1) dX11_becomeCounted_15 rfl rfl ?_
    refine a_l2i dX11_becomeCounted_16 rfl ?_
    obtain ⟨h6, e7, hf⟩ := obd hf
    refine o_pfI dX11_becomeCounted_17 lk_X11_26 (⟨_, rfl, Or.inl rfl⟩) rfl e7 ?_
    refine a_aload_n (q := 0) dX11_becomeCounted_20 rfl rfl ?_
    refine a_iconst (v := 0) dX11_becomeCounted_21 (by decide) ?_
    obtain ⟨h8, e9, hf⟩ := obd hf
    refine o_pfI dX11_becomeCounted_22 lk_X11_19 (⟨_, rfl, Or.inl rfl⟩) rfl e9 ?_
    refine a_iconst (v := 0) dX11_becomeCounted_25 (by decide) ?_
    obtain ⟨rfl, rfl⟩ := oc2 hf
    exact a_ireturn dX11_becomeCounted_26 rfl
  · have hf := ifp c hf
    refine a_iconst (v := 4) dX11_becomeCounted_7 (by decide) ?_
    obtain ⟨rfl, rfl⟩ := oc2 hf
    exact a_ireturn dX11_becomeCounted_8 rfl
def fX11_isTrue (a0 : Nat) (h : hp) : Option (Int32 × hp) :=
  (gfI h a0 10 0).bind fun v1 =>
  if v1 = 1 then (
    (gfI h a0 10 1).bind fun v3 =>
    if v3 = 0 then (
      some (0, h)
    ) else (
      some (1, h)
    )
  ) else (
  if v1 = 2 then (
    (gfF h a0 10 2).bind fun v5 =>
    if (Op.cmpValue (FP.fcmp v5 FP.fconst0) .l) = 0 then (
      some (0, h)
    ) else (
      some (1, h)
    )
  ) else (
  if v1 = 3 then (
    (gfI h a0 10 3).bind fun v7 =>
    if v7 ≤ 0 then (
      some (0, h)
    ) else (
      some (1, h)
    )
  ) else (
  if v1 = 4 then (
    (gfI h a0 10 3).bind fun v9 =>
    if v9 ≤ 0 then (
      some (0, h)
    ) else (
      some (1, h)
    )
  ) else (
    some (0, h)
  ))))
set_option maxHeartbeats 4000000 in
set_option maxRecDepth 100000 in
theorem sX11_isTrue (E : gE) (D : Nat) (hD : 0 ≤ D) {a0 : Nat} {h hz : hp} {v0 : Int32} (hf : fX11_isTrue a0 h = some (v0, hz)) : MC E yX11_isTrue cX11_isTrue (Option.some Jvm.ClassFile.FieldType.boolean) 1 D [.ref a0] h (some (.int v0)) hz := by
  refine MC.of (by decide +kernel) (Nat.le_of_ble_eq_true rfl) rfl ?_
  unfold fX11_isTrue at hf
  show AW E yX11_isTrue cX11_isTrue (Option.some Jvm.ClassFile.FieldType.boolean) 1 D (some (.int v0)) h hz 0 [(0, .ref a0)] [] h
  refine a_aload_n (q := 0) dX11_isTrue_0 rfl rfl ?_
  obtain ⟨v1, e2, hf⟩ := obd hf
  refine o_gfI dX11_isTrue_1 lk_X11_23 rfl e2 ?_
  by_cases c4_0 : v1 = 1
  · have hf := ifp c4_0 hf
    refine a_tblIn (k := 1) (off := 32) (tgt := 36) dX11_isTrue_4 c4_0 (by decide) (by decide) rfl (by decide) ?_
    refine a_aload_n (q := 0) dX11_isTrue_36 rfl rfl ?_
    obtain ⟨v3, e4, hf⟩ := obd hf
    refine o_gfI dX11_isTrue_37 lk_X11_26 rfl e4 ?_
    refine a_if_eq (tgt := 47) dX11_isTrue_40 (by decide) (fun c => ?_) (fun c => ?_)
    · have hf := ifp c hf
      refine a_iconst (v := 0) dX11_isTrue_47 (by decide) ?_
      obtain ⟨rfl, rfl⟩ := oc2 hf
      exact a_zreturn dX11_isTrue_48 rfl (by decide)
    · have hf := ifn c hf
      refine a_iconst (v := 1) dX11_isTrue_43 (by decide) ?_
      refine a_goto (tgt := 48) dX11_isTrue_44 (by decide) ?_
      obtain ⟨rfl, rfl⟩ := oc2 hf
      exact a_zreturn dX11_isTrue_48 rfl (by decide)
  have hf := ifn c4_0 hf
  by_cases c4_1 : v1 = 2
  · have hf := ifp c4_1 hf
    refine a_tblIn (k := 2) (off := 45) (tgt := 49) dX11_isTrue_4 c4_1 (by decide) (by decide) rfl (by decide) ?_
    refine a_aload_n (q := 0) dX11_isTrue_49 rfl rfl ?_
    obtain ⟨v5, e6, hf⟩ := obd hf
    refine o_gfF dX11_isTrue_50 lk_X11_29 rfl e6 ?_
    refine a_fconst0 dX11_isTrue_53 ?_
    refine a_fcmp dX11_isTrue_54 ?_
    refine a_if_eq (tgt := 62) dX11_isTrue_55 (by decide) (fun c => ?_) (fun c => ?_)
    · have hf := ifp c hf
      refine a_iconst (v := 0) dX11_isTrue_62 (by decide) ?_
      obtain ⟨rfl, rfl⟩ := oc2 hf
      exact a_zreturn dX11_isTrue_63 rfl (by decide)
    · have hf := ifn c hf
      refine a_iconst (v := 1) dX11_isTrue_58 (by decide) ?_
      refine a_goto (tgt := 63) dX11_isTrue_59 (by decide) ?_
      obtain ⟨rfl, rfl⟩ := oc2 hf
      exact a_zreturn dX11_isTrue_63 rfl (by decide)
  have hf := ifn c4_1 hf
  by_cases c4_2 : v1 = 3
  · have hf := ifp c4_2 hf
    refine a_tblIn (k := 3) (off := 60) (tgt := 64) dX11_isTrue_4 c4_2 (by decide) (by decide) rfl (by decide) ?_
    refine a_aload_n (q := 0) dX11_isTrue_64 rfl rfl ?_
    obtain ⟨v7, e8, hf⟩ := obd hf
    refine o_gfI dX11_isTrue_65 lk_X11_19 rfl e8 ?_
    refine a_if_le (tgt := 75) dX11_isTrue_68 (by decide) (fun c => ?_) (fun c => ?_)
    · have hf := ifp c hf
      refine a_iconst (v := 0) dX11_isTrue_75 (by decide) ?_
      obtain ⟨rfl, rfl⟩ := oc2 hf
      exact a_zreturn dX11_isTrue_76 rfl (by decide)
    · have hf := ifn c hf
      refine a_iconst (v := 1) dX11_isTrue_71 (by decide) ?_
      refine a_goto (tgt := 76) dX11_isTrue_72 (by decide) ?_
      obtain ⟨rfl, rfl⟩ := oc2 hf
      exact a_zreturn dX11_isTrue_76 rfl (by decide)
  have hf := ifn c4_2 hf
  by_cases c4_3 : v1 = 4
  · have hf := ifp c4_3 hf
    refine a_tblIn (k := 4) (off := 60) (tgt := 64) dX11_isTrue_4 c4_3 (by decide) (by decide) rfl (by decide) ?_
    refine a_aload_n (q := 0) dX11_isTrue_64 rfl rfl ?_
    obtain ⟨v9, e10, hf⟩ := obd hf
    refine o_gfI dX11_isTrue_65 lk_X11_19 rfl e10 ?_
    refine a_if_le (tgt := 75) dX11_isTrue_68 (by decide) (fun c => ?_) (fun c => ?_)
    · have hf := ifp c hf
      refine a_iconst (v := 0) dX11_isTrue_75 (by decide) ?_
      obtain ⟨rfl, rfl⟩ := oc2 hf
      exact a_zreturn dX11_isTrue_76 rfl (by decide)
    · have hf := ifn c hf
      refine a_iconst (v := 1) dX11_isTrue_71 (by decide) ?_
      refine a_goto (tgt := 76) dX11_isTrue_72 (by decide) ?_
      obtain ⟨rfl, rfl⟩ := oc2 hf
      exact a_zreturn dX11_isTrue_76 rfl (by decide)
  have hf := ifn c4_3 hf
  have t4_0 := lv_neT (a := 1) c4_0 rfl
  have t4_1 := lv_neT (a := 2) c4_1 rfl
  have t4_2 := lv_neT (a := 3) c4_2 rfl
  have t4_3 := lv_neT (a := 4) c4_3 rfl
  refine a_tblOut (tgt := 77) dX11_isTrue_4 (by omega) (by decide) ?_
  refine a_iconst (v := 0) dX11_isTrue_77 (by decide) ?_
  obtain ⟨rfl, rfl⟩ := oc2 hf
  exact a_zreturn dX11_isTrue_78 rfl (by decide)
def fX11_measure (a0 : Nat) (h : hp) : Option (Int32 × hp) :=
  (gfI h a0 10 0).bind fun v1 =>
  if v1 = 1 then (
    (gfI h a0 10 1).bind fun v3 =>
    some (v3, h)
  ) else (
  if v1 = 2 then (
    (gfF h a0 10 2).bind fun v5 =>
    bd2 (fX11_bitsOf v5 h) fun v8 h9 =>
    some (v8, h9)
  ) else (
  if v1 = 3 then (
    (gfI h a0 10 3).bind fun v10 =>
    some (v10, h)
  ) else (
  if v1 = 4 then (
    (gfI h a0 10 3).bind fun v12 =>
    some (v12, h)
  ) else (
    some (0, h)
  ))))
set_option maxHeartbeats 4000000 in
set_option maxRecDepth 100000 in
theorem sX11_measure (E : gE) (D : Nat) (hD : 1 ≤ D) {a0 : Nat} {h hz : hp} {v0 : Int32} (hf : fX11_measure a0 h = some (v0, hz)) : MC E yX11_measure cX11_measure (Option.some Jvm.ClassFile.FieldType.int) 1 D [.ref a0] h (some (.int v0)) hz := by
  refine MC.of (by decide +kernel) (Nat.le_of_ble_eq_true rfl) rfl ?_
  unfold fX11_measure at hf
  show AW E yX11_measure cX11_measure (Option.some Jvm.ClassFile.FieldType.int) 1 D (some (.int v0)) h hz 0 [(0, .ref a0)] [] h
  refine a_aload_n (q := 0) dX11_measure_0 rfl rfl ?_
  obtain ⟨v1, e2, hf⟩ := obd hf
  refine o_gfI dX11_measure_1 lk_X11_23 rfl e2 ?_
  by_cases c4_0 : v1 = 1
  · have hf := ifp c4_0 hf
    refine a_tblIn (k := 1) (off := 32) (tgt := 36) dX11_measure_4 c4_0 (by decide) (by decide) rfl (by decide) ?_
    refine a_aload_n (q := 0) dX11_measure_36 rfl rfl ?_
    obtain ⟨v3, e4, hf⟩ := obd hf
    refine o_gfI dX11_measure_37 lk_X11_26 rfl e4 ?_
    obtain ⟨rfl, rfl⟩ := oc2 hf
    exact a_ireturn dX11_measure_40 rfl
  have hf := ifn c4_0 hf
  by_cases c4_1 : v1 = 2
  · have hf := ifp c4_1 hf
    refine a_tblIn (k := 2) (off := 37) (tgt := 41) dX11_measure_4 c4_1 (by decide) (by decide) rfl (by decide) ?_
    refine a_aload_n (q := 0) dX11_measure_41 rfl rfl ?_
    obtain ⟨v5, e6, hf⟩ := obd hf
    refine o_gfF dX11_measure_42 lk_X11_29 rfl e6 ?_
    obtain ⟨v8, h9, e7, hf⟩ := ob2 hf
    refine a_callS (as := [.float v5]) (np := 1) (st := []) (sX11_bitsOf E (D - 1) (by omega) e7) dX11_measure_45 rfl (by omega) (by decide) cw_X11_66 wd_375 rfl (Nat.le_of_ble_eq_true rfl) ?_
    obtain ⟨rfl, rfl⟩ := oc2 hf
    exact a_ireturn dX11_measure_48 rfl
  have hf := ifn c4_1 hf
  by_cases c4_2 : v1 = 3
  · have hf := ifp c4_2 hf
    refine a_tblIn (k := 3) (off := 45) (tgt := 49) dX11_measure_4 c4_2 (by decide) (by decide) rfl (by decide) ?_
    refine a_aload_n (q := 0) dX11_measure_49 rfl rfl ?_
    obtain ⟨v10, e11, hf⟩ := obd hf
    refine o_gfI dX11_measure_50 lk_X11_19 rfl e11 ?_
    obtain ⟨rfl, rfl⟩ := oc2 hf
    exact a_ireturn dX11_measure_53 rfl
  have hf := ifn c4_2 hf
  by_cases c4_3 : v1 = 4
  · have hf := ifp c4_3 hf
    refine a_tblIn (k := 4) (off := 45) (tgt := 49) dX11_measure_4 c4_3 (by decide) (by decide) rfl (by decide) ?_
    refine a_aload_n (q := 0) dX11_measure_49 rfl rfl ?_
    obtain ⟨v12, e13, hf⟩ := obd hf
    refine o_gfI dX11_measure_50 lk_X11_19 rfl e13 ?_
    obtain ⟨rfl, rfl⟩ := oc2 hf
    exact a_ireturn dX11_measure_53 rfl
  have hf := ifn c4_3 hf
  have t4_0 := lv_neT (a := 1) c4_0 rfl
  have t4_1 := lv_neT (a := 2) c4_1 rfl
  have t4_2 := lv_neT (a := 3) c4_2 rfl
  have t4_3 := lv_neT (a := 4) c4_3 rfl
  refine a_tblOut (tgt := 54) dX11_measure_4 (by omega) (by decide) ?_
  refine a_iconst (v := 0) dX11_measure_54 (by decide) ?_
  obtain ⟨rfl, rfl⟩ := oc2 hf
  exact a_ireturn dX11_measure_55 rfl
def fJ9_abs_0f7a4 (a0 : Int32) (h : hp) : Option (Int32 × hp) :=
  if 0 ≤ a0 then (
    some (a0, h)
  ) else (
    some ((-a0), h)
  )
set_option maxHeartbeats 4000000 in
set_option maxRecDepth 100000 in
theorem sJ9_abs_0f7a4 (E : gE) (D : Nat) (hD : 0 ≤ D) {a0 : Int32} {h hz : hp} {v0 : Int32} (hf : fJ9_abs_0f7a4 a0 h = some (v0, hz)) : MC E yJ9_abs_0f7a4 cJ9_abs_0f7a4 (Option.some Jvm.ClassFile.FieldType.int) 1 D [.int a0] h (some (.int v0)) hz := by
  refine MC.of (by decide +kernel) (Nat.le_of_ble_eq_true rfl) rfl ?_
  unfold fJ9_abs_0f7a4 at hf
  show AW E yJ9_abs_0f7a4 cJ9_abs_0f7a4 (Option.some Jvm.ClassFile.FieldType.int) 1 D (some (.int v0)) h hz 0 [(0, .int a0)] [] h
  refine a_iload_n (q := 0) dJ9_abs_0f7a4_0 rfl rfl ?_
  refine a_if_ge (tgt := 9) dJ9_abs_0f7a4_1 (by decide) (fun c => ?_) (fun c => ?_)
  · have hf := ifp c hf
    refine a_iload_n (q := 0) dJ9_abs_0f7a4_9 rfl rfl ?_
    obtain ⟨rfl, rfl⟩ := oc2 hf
    exact a_ireturn dJ9_abs_0f7a4_10 rfl
  · have hf := ifn c hf
    refine a_iload_n (q := 0) dJ9_abs_0f7a4_4 rfl rfl ?_
    refine a_ineg dJ9_abs_0f7a4_5 ?_
    refine a_goto (tgt := 10) dJ9_abs_0f7a4_6 (by decide) ?_
    obtain ⟨rfl, rfl⟩ := oc2 hf
    exact a_ireturn dJ9_abs_0f7a4_10 rfl
def fX11_highBitsOf_l20 : Nat → Int32 → Int32 → Int32 → Int32 → hp → Option (Int32 × hp)
  | 0, _, _, _, _, _ => none
  | n + 1, x0, x1, x2, x3, h =>
    if 20 ≤ x3 then (
      some (x2, h)
    ) else (
      if (x1 >>> ((x2 + 1) &&& 31)) ≤ 0 then (
        some (x2, h)
      ) else (
        fX11_highBitsOf_l20 n x0 x1 (x2 + 1) (x3 + 1) h
      )
    )
def fX11_highBitsOf (a0 : Int32) (h : hp) : Option (Int32 × hp) :=
  bd2 (fJ9_abs_0f7a4 a0 h) fun v2 h3 =>
  bd2 (fJ9_min_7cf53 v2 1000000 h3) fun v5 h6 =>
  if 0 < v5 then (
    bd2 (fX11_highBitsOf_l20 FU a0 v5 0 0 h6) fun v9 h8 =>
    if 0 ≤ a0 then (
      some ((((v5 <<< ((20 - v9) &&& 31)) - 1048576) + ((v9 + 1023) <<< ((20 : Int32) &&& 31))), h8)
    ) else (
      some (((((v5 <<< ((20 - v9) &&& 31)) - 1048576) + ((v9 + 1023) <<< ((20 : Int32) &&& 31))) ||| (-2147483648)), h8)
    )
  ) else (
    some (0, h6)
  )
set_option maxHeartbeats 4000000 in
set_option maxRecDepth 100000 in
theorem sX11_highBitsOf_l20 (E : gE) (D : Nat) (hD : 1 ≤ D) {rz : Option Value} {h0 hz : hp} : ∀ (n : Nat) (x0 : Int32) (x1 : Int32) (x2 : Int32) (x3 : Int32) (h : hp) (m2 : Int32) (hq : hp), fX11_highBitsOf_l20 n x0 x1 x2 x3 h = some (m2, hq) → (AW E yX11_highBitsOf cX11_highBitsOf (Option.some Jvm.ClassFile.FieldType.int) 4 D rz h0 hz 44 [(0, .int x0), (1, .int x1), (2, .int m2)] [] hq) → AW E yX11_highBitsOf cX11_highBitsOf (Option.some Jvm.ClassFile.FieldType.int) 4 D rz h0 hz 20 [(0, .int x0), (1, .int x1), (2, .int x2), (3, .int x3)] [] h := by
  intro n
  induction n with
  | zero =>
    intro x0 x1 x2 x3 h m2 hq hf _
    rw [fX11_highBitsOf_l20] at hf
    cases hf
  | succ n ih =>
    intro x0 x1 x2 x3 h m2 hq hf hk0
    rw [fX11_highBitsOf_l20] at hf
    refine a_iload_n (q := 3) dX11_highBitsOf_20 rfl rfl ?_
    refine a_bipush (v := 20) dX11_highBitsOf_21 (by decide) ?_
    refine a_icmp_ge (tgt := 44) dX11_highBitsOf_23 (by decide) (fun c => ?_) (fun c => ?_)
    · have hf := ifp c hf
      obtain ⟨rfl, rfl⟩ := oc2 hf
      exact AW.sub [0, 1, 2] rfl (hk0)
    · have hf := ifn c hf
      refine a_iload_n (q := 1) dX11_highBitsOf_26 rfl rfl ?_
      refine a_iload_n (q := 2) dX11_highBitsOf_27 rfl rfl ?_
      refine a_iconst (v := 1) dX11_highBitsOf_28 (by decide) ?_
      refine a_iadd dX11_highBitsOf_29 ?_
      refine a_ishr dX11_highBitsOf_30 ?_
      refine a_if_le (tgt := 44) dX11_highBitsOf_31 (by decide) (fun c => ?_) (fun c => ?_)
      · have hf := ifp c hf
        obtain ⟨rfl, rfl⟩ := oc2 hf
        exact AW.sub [0, 1, 2] rfl (hk0)
      · have hf := ifn c hf
        refine a_iload_n (q := 2) dX11_highBitsOf_34 rfl rfl ?_
        refine a_iconst (v := 1) dX11_highBitsOf_35 (by decide) ?_
        refine a_iadd dX11_highBitsOf_36 ?_
        refine a_istore_n (lv1 := [(2, .int (x2 + 1)), (0, .int x0), (1, .int x1), (3, .int x3)]) dX11_highBitsOf_37 rfl (by decide) rfl ?_
        refine a_iinc (q := 3) (v := (x3 + 1)) (lv1 := [(3, .int (x3 + 1)), (2, .int (x2 + 1)), (0, .int x0), (1, .int x1)]) dX11_highBitsOf_38 rfl (by rfl) (by decide) rfl ?_
        refine a_goto (tgt := 20) dX11_highBitsOf_41 (by decide) ?_
        exact AW.sub [2, 3, 1, 0] rfl (ih _ _ _ _ _ _ _ hf hk0)
set_option maxHeartbeats 4000000 in
set_option maxRecDepth 100000 in
theorem sX11_highBitsOf (E : gE) (D : Nat) (hD : 1 ≤ D) {a0 : Int32} {h hz : hp} {v0 : Int32} (hf : fX11_highBitsOf a0 h = some (v0, hz)) : MC E yX11_highBitsOf cX11_highBitsOf (Option.some Jvm.ClassFile.FieldType.int) 4 D [.int a0] h (some (.int v0)) hz := by
  refine MC.of (by decide +kernel) (Nat.le_of_ble_eq_true rfl) rfl ?_
  unfold fX11_highBitsOf at hf
  show AW E yX11_highBitsOf cX11_highBitsOf (Option.some Jvm.ClassFile.FieldType.int) 4 D (some (.int v0)) h hz 0 [(0, .int a0)] [] h
  refine a_iload_n (q := 0) dX11_highBitsOf_0 rfl rfl ?_
  obtain ⟨v2, h3, e1, hf⟩ := ob2 hf
  refine a_callS (as := [.int a0]) (np := 1) (st := []) (sJ9_abs_0f7a4 E (D - 1) (by omega) e1) dX11_highBitsOf_1 rfl (by omega) (by decide) cw_X11_78 wd_362 rfl (Nat.le_of_ble_eq_true rfl) ?_
  refine a_ldc (v := 1000000) dX11_highBitsOf_4 wd_860 ?_
  obtain ⟨v5, h6, e4, hf⟩ := ob2 hf
  refine a_callS (as := [.int v2, .int 1000000]) (np := 2) (st := []) (sJ9_min_7cf53 E (D - 1) (by omega) e4) dX11_highBitsOf_6 rfl (by omega) (by decide) cw_X11_56 wd_310 rfl (Nat.le_of_ble_eq_true rfl) ?_
  refine a_istore_n (lv1 := [(1, .int v5), (0, .int a0)]) dX11_highBitsOf_9 rfl (by decide) rfl ?_
  refine a_iload_n (q := 0) dX11_highBitsOf_10 rfl rfl ?_
  refine a_if_gt (tgt := 16) dX11_highBitsOf_11 (by decide) (fun c => ?_) (fun c => ?_)
  · have hf := ifp c hf
    refine a_iconst (v := 0) dX11_highBitsOf_16 (by decide) ?_
    refine a_istore_n (lv1 := [(2, .int 0), (1, .int v5), (0, .int a0)]) dX11_highBitsOf_17 rfl (by decide) rfl ?_
    refine a_iconst (v := 0) dX11_highBitsOf_18 (by decide) ?_
    refine a_istore_n (lv1 := [(3, .int 0), (2, .int 0), (1, .int v5), (0, .int a0)]) dX11_highBitsOf_19 rfl (by decide) rfl ?_
    obtain ⟨v9, h8, e7, hf⟩ := ob2 hf
    refine AW.sub [3, 2, 1, 0] rfl (sX11_highBitsOf_l20 E D hD _ _ _ _ _ _ _ _ e7 ?_)
    refine a_iload_n (q := 1) dX11_highBitsOf_44 rfl rfl ?_
    refine a_bipush (v := 20) dX11_highBitsOf_45 (by decide) ?_
    refine a_iload_n (q := 2) dX11_highBitsOf_47 rfl rfl ?_
    refine a_isub dX11_highBitsOf_48 ?_
    refine a_ishl dX11_highBitsOf_49 ?_
    refine a_ldc (v := 1048576) dX11_highBitsOf_50 wd_861 ?_
    refine a_isub dX11_highBitsOf_52 ?_
    refine a_iload_n (q := 2) dX11_highBitsOf_53 rfl rfl ?_
    refine a_sipush (v := 1023) dX11_highBitsOf_54 (by decide) ?_
    refine a_iadd dX11_highBitsOf_57 ?_
    refine a_bipush (v := 20) dX11_highBitsOf_58 (by decide) ?_
    refine a_ishl dX11_highBitsOf_60 ?_
    refine a_iadd dX11_highBitsOf_61 ?_
    refine a_istore_n (lv1 := [(3, .int (((v5 <<< ((20 - v9) &&& 31)) - 1048576) + ((v9 + 1023) <<< ((20 : Int32) &&& 31)))), (0, .int a0), (1, .int v5), (2, .int v9)]) dX11_highBitsOf_62 rfl (by decide) rfl ?_
    refine a_iload_n (q := 1) dX11_highBitsOf_63 rfl rfl ?_
    refine a_if_ge (tgt := 74) dX11_highBitsOf_64 (by decide) (fun c => ?_) (fun c => ?_)
    · have hf := ifp c hf
      refine a_iload_n (q := 0) dX11_highBitsOf_74 rfl rfl ?_
      obtain ⟨rfl, rfl⟩ := oc2 hf
      exact a_ireturn dX11_highBitsOf_75 rfl
    · have hf := ifn c hf
      refine a_iload_n (q := 0) dX11_highBitsOf_67 rfl rfl ?_
      refine a_ldc (v := (-2147483648)) dX11_highBitsOf_68 wd_381 ?_
      refine a_ior dX11_highBitsOf_70 ?_
      refine a_goto (tgt := 75) dX11_highBitsOf_71 (by decide) ?_
      obtain ⟨rfl, rfl⟩ := oc2 hf
      exact a_ireturn dX11_highBitsOf_75 rfl
  · have hf := ifn c hf
    refine a_iconst (v := 0) dX11_highBitsOf_14 (by decide) ?_
    obtain ⟨rfl, rfl⟩ := oc2 hf
    exact a_ireturn dX11_highBitsOf_15 rfl
def fJ6_compare_7cf53 (a0 : Int32) (a1 : Int32) (h : hp) : Option (Int32 × hp) :=
  if a1 ≤ a0 then (
    if a0 = a1 then (
      some (0, h)
    ) else (
      some (1, h)
    )
  ) else (
    some ((-1), h)
  )
set_option maxHeartbeats 4000000 in
set_option maxRecDepth 100000 in
theorem sJ6_compare_7cf53 (E : gE) (D : Nat) (hD : 0 ≤ D) {a0 : Int32} {a1 : Int32} {h hz : hp} {v0 : Int32} (hf : fJ6_compare_7cf53 a0 a1 h = some (v0, hz)) : MC E yJ6_compare_7cf53 cJ6_compare_7cf53 (Option.some Jvm.ClassFile.FieldType.int) 2 D [.int a0, .int a1] h (some (.int v0)) hz := by
  refine MC.of (by decide +kernel) (Nat.le_of_ble_eq_true rfl) rfl ?_
  unfold fJ6_compare_7cf53 at hf
  show AW E yJ6_compare_7cf53 cJ6_compare_7cf53 (Option.some Jvm.ClassFile.FieldType.int) 2 D (some (.int v0)) h hz 0 [(0, .int a0), (1, .int a1)] [] h
  refine a_iload_n (q := 0) dJ6_compare_7cf53_0 rfl rfl ?_
  refine a_iload_n (q := 1) dJ6_compare_7cf53_1 rfl rfl ?_
  refine a_icmp_ge (tgt := 9) dJ6_compare_7cf53_2 (by decide) (fun c => ?_) (fun c => ?_)
  · have hf := ifp c hf
    refine a_iload_n (q := 0) dJ6_compare_7cf53_9 rfl rfl ?_
    refine a_iload_n (q := 1) dJ6_compare_7cf53_10 rfl rfl ?_
    refine a_icmp_ne (tgt := 18) dJ6_compare_7cf53_11 (by decide) (fun c => ?_) (fun c => ?_)
    · have hf := ifn c hf
      refine a_iconst (v := 1) dJ6_compare_7cf53_18 (by decide) ?_
      obtain ⟨rfl, rfl⟩ := oc2 hf
      exact a_ireturn dJ6_compare_7cf53_19 rfl
    · have hf := ifp c hf
      refine a_iconst (v := 0) dJ6_compare_7cf53_14 (by decide) ?_
      refine a_goto (tgt := 19) dJ6_compare_7cf53_15 (by decide) ?_
      obtain ⟨rfl, rfl⟩ := oc2 hf
      exact a_ireturn dJ6_compare_7cf53_19 rfl
  · have hf := ifn c hf
    refine a_iconst (v := (-1)) dJ6_compare_7cf53_5 (by decide) ?_
    refine a_goto (tgt := 19) dJ6_compare_7cf53_6 (by decide) ?_
    obtain ⟨rfl, rfl⟩ := oc2 hf
    exact a_ireturn dJ6_compare_7cf53_19 rfl
def fX11_compareItems_l14 : Nat → Nat → Nat → Int32 → Int32 → hp → Option (Nat × Int32 × hp)
  | 0, _, _, _, _, _ => none
  | n + 1, x0, x1, x2, x3, h =>
    if x2 ≤ x3 then (
      some (1, x3, h)
    ) else (
      (ckT h x0 10).bind fun _ =>
      bd2 (fX11_at x0 x3 h) fun v2 h3 =>
      (ckT h3 x1 10).bind fun _ =>
      bd2 (fX11_at x1 x3 h3) fun v6 h7 =>
      if v2 = v6 then (
        fX11_compareItems_l14 n x0 x1 x2 (x3 + 1) h7
      ) else (
        some (0, x3, h7)
      )
    )
def fX11_compareItems (a0 : Nat) (a1 : Nat) (h : hp) : Option (Int32 × hp) :=
  (gfI h a0 10 3).bind fun v1 =>
  (gfI h a1 10 3).bind fun v3 =>
  bd2 (fJ9_min_7cf53 v1 v3 h) fun v6 h7 =>
  bd3 (fX11_compareItems_l14 FU a0 a1 v6 0 h7) fun t11 v10 h9 =>
  if t11 = 0 then (
    (ckT h9 a0 10).bind fun _ =>
    bd2 (fX11_at a0 v10 h9) fun v13 h14 =>
    (ckT h14 a1 10).bind fun _ =>
    bd2 (fX11_at a1 v10 h14) fun v17 h18 =>
    if v17 ≤ v13 then (
      some (1, h18)
    ) else (
      some ((-1), h18)
    )
  ) else
  if t11 = 1 then (
    (gfI h9 a0 10 3).bind fun v20 =>
    (gfI h9 a1 10 3).bind fun v22 =>
    bd2 (fJ6_compare_7cf53 v20 v22 h9) fun v25 h26 =>
    some (v25, h26)
  ) else none
set_option maxHeartbeats 4000000 in
set_option maxRecDepth 100000 in
theorem sX11_compareItems_l14 (E : gE) (D : Nat) (hD : 1 ≤ D) {rz : Option Value} {h0 hz : hp} : ∀ (n : Nat) (x0 : Nat) (x1 : Nat) (x2 : Int32) (x3 : Int32) (h : hp) (tq : Nat) (m3 : Int32) (hq : hp), fX11_compareItems_l14 n x0 x1 x2 x3 h = some (tq, m3, hq) → (tq = 0 → AW E yX11_compareItems cX11_compareItems (Option.some Jvm.ClassFile.FieldType.int) 4 D rz h0 hz 32 [(0, .ref x0), (1, .ref x1), (3, .int m3)] [] hq) → (tq = 1 → AW E yX11_compareItems cX11_compareItems (Option.some Jvm.ClassFile.FieldType.int) 4 D rz h0 hz 57 [(0, .ref x0), (1, .ref x1)] [] hq) → AW E yX11_compareItems cX11_compareItems (Option.some Jvm.ClassFile.FieldType.int) 4 D rz h0 hz 14 [(0, .ref x0), (1, .ref x1), (2, .int x2), (3, .int x3)] [] h := by
  intro n
  induction n with
  | zero =>
    intro x0 x1 x2 x3 h tq m3 hq hf _ _
    rw [fX11_compareItems_l14] at hf
    cases hf
  | succ n ih =>
    intro x0 x1 x2 x3 h tq m3 hq hf hk0 hk1
    rw [fX11_compareItems_l14] at hf
    refine a_iload_n (q := 3) dX11_compareItems_14 rfl rfl ?_
    refine a_iload_n (q := 2) dX11_compareItems_15 rfl rfl ?_
    refine a_icmp_ge (tgt := 57) dX11_compareItems_16 (by decide) (fun c => ?_) (fun c => ?_)
    · have hf := ifp c hf
      obtain ⟨rfl, rfl, rfl⟩ := oc3 hf
      exact AW.sub [0, 1] rfl (hk1 rfl)
    · have hf := ifn c hf
      refine a_aload_n (q := 0) dX11_compareItems_19 rfl rfl ?_
      refine a_iload_n (q := 3) dX11_compareItems_20 rfl rfl ?_
      obtain ⟨_, e4, hf⟩ := obd hf
      obtain ⟨v2, h3, e1, hf⟩ := ob2 hf
      refine a_callV (as := [.int x3]) (np := 1) (ci := 10) (st := []) (sX11_at E (D - 1) (by omega) e1) dX11_compareItems_21 rfl (by omega) (by decide) cw_X11_96 ⟨wd_338, wd_339⟩ rfl (ckT_s e4) rfl (Nat.le_of_ble_eq_true rfl) ?_
      refine a_aload_n (q := 1) dX11_compareItems_24 rfl rfl ?_
      refine a_iload_n (q := 3) dX11_compareItems_25 rfl rfl ?_
      obtain ⟨_, e8, hf⟩ := obd hf
      obtain ⟨v6, h7, e5, hf⟩ := ob2 hf
      refine a_callV (as := [.int x3]) (np := 1) (ci := 10) (st := [.int v2]) (sX11_at E (D - 1) (by omega) e5) dX11_compareItems_26 rfl (by omega) (by decide) cw_X11_96 ⟨wd_338, wd_339⟩ rfl (ckT_s e8) rfl (Nat.le_of_ble_eq_true rfl) ?_
      refine a_icmp_eq (tgt := 51) dX11_compareItems_29 (by decide) (fun c => ?_) (fun c => ?_)
      · have hf := ifp c hf
        refine a_iinc (q := 3) (v := (x3 + 1)) (lv1 := [(3, .int (x3 + 1)), (0, .ref x0), (1, .ref x1), (2, .int x2)]) dX11_compareItems_51 rfl (by rfl) (by decide) rfl ?_
        refine a_goto (tgt := 14) dX11_compareItems_54 (by decide) ?_
        exact AW.sub [1, 2, 3, 0] rfl (ih _ _ _ _ _ _ _ _ hf hk0 hk1)
      · have hf := ifn c hf
        obtain ⟨rfl, rfl, rfl⟩ := oc3 hf
        exact AW.sub [0, 1, 3] rfl (hk0 rfl)
set_option maxHeartbeats 4000000 in
set_option maxRecDepth 100000 in
theorem sX11_compareItems (E : gE) (D : Nat) (hD : 1 ≤ D) {a0 : Nat} {a1 : Nat} {h hz : hp} {v0 : Int32} (hf : fX11_compareItems a0 a1 h = some (v0, hz)) : MC E yX11_compareItems cX11_compareItems (Option.some Jvm.ClassFile.FieldType.int) 4 D [.ref a0, .ref a1] h (some (.int v0)) hz := by
  refine MC.of (by decide +kernel) (Nat.le_of_ble_eq_true rfl) rfl ?_
  unfold fX11_compareItems at hf
  show AW E yX11_compareItems cX11_compareItems (Option.some Jvm.ClassFile.FieldType.int) 4 D (some (.int v0)) h hz 0 [(0, .ref a0), (1, .ref a1)] [] h
  refine a_aload_n (q := 0) dX11_compareItems_0 rfl rfl ?_
  obtain ⟨v1, e2, hf⟩ := obd hf
  refine o_gfI dX11_compareItems_1 lk_X11_19 rfl e2 ?_
  refine a_aload_n (q := 1) dX11_compareItems_4 rfl rfl ?_
  obtain ⟨v3, e4, hf⟩ := obd hf
  refine o_gfI dX11_compareItems_5 lk_X11_19 rfl e4 ?_
  obtain ⟨v6, h7, e5, hf⟩ := ob2 hf
  refine a_callS (as := [.int v1, .int v3]) (np := 2) (st := []) (sJ9_min_7cf53 E (D - 1) (by omega) e5) dX11_compareItems_8 rfl (by omega) (by decide) cw_X11_56 wd_310 rfl (Nat.le_of_ble_eq_true rfl) ?_
  refine a_istore_n (lv1 := [(2, .int v6), (0, .ref a0), (1, .ref a1)]) dX11_compareItems_11 rfl (by decide) rfl ?_
  refine a_iconst (v := 0) dX11_compareItems_12 (by decide) ?_
  refine a_istore_n (lv1 := [(3, .int 0), (2, .int v6), (0, .ref a0), (1, .ref a1)]) dX11_compareItems_13 rfl (by decide) rfl ?_
  obtain ⟨t11, v10, h9, e8, hf⟩ := ob3 hf
  refine AW.sub [2, 3, 1, 0] rfl (sX11_compareItems_l14 E D hD _ _ _ _ _ _ _ _ _ e8 (fun c => ?_) (fun c => ?_))
  · have hf := ifp c hf
    refine a_aload_n (q := 0) dX11_compareItems_32 rfl rfl ?_
    refine a_iload_n (q := 2) dX11_compareItems_33 rfl rfl ?_
    obtain ⟨_, e15, hf⟩ := obd hf
    obtain ⟨v13, h14, e12, hf⟩ := ob2 hf
    refine a_callV (as := [.int v10]) (np := 1) (ci := 10) (st := []) (sX11_at E (D - 1) (by omega) e12) dX11_compareItems_34 rfl (by omega) (by decide) cw_X11_96 ⟨wd_338, wd_339⟩ rfl (ckT_s e15) rfl (Nat.le_of_ble_eq_true rfl) ?_
    refine a_aload_n (q := 1) dX11_compareItems_37 rfl rfl ?_
    refine a_iload_n (q := 2) dX11_compareItems_38 rfl rfl ?_
    obtain ⟨_, e19, hf⟩ := obd hf
    obtain ⟨v17, h18, e16, hf⟩ := ob2 hf
    refine a_callV (as := [.int v10]) (np := 1) (ci := 10) (st := [.int v13]) (sX11_at E (D - 1) (by omega) e16) dX11_compareItems_39 rfl (by omega) (by decide) cw_X11_96 ⟨wd_338, wd_339⟩ rfl (ckT_s e19) rfl (Nat.le_of_ble_eq_true rfl) ?_
    refine a_icmp_ge (tgt := 49) dX11_compareItems_42 (by decide) (fun c => ?_) (fun c => ?_)
    · have hf := ifp c hf
      refine a_iconst (v := 1) dX11_compareItems_49 (by decide) ?_
      obtain ⟨rfl, rfl⟩ := oc2 hf
      exact a_ireturn dX11_compareItems_50 rfl
    · have hf := ifn c hf
      refine a_iconst (v := (-1)) dX11_compareItems_45 (by decide) ?_
      refine a_goto (tgt := 50) dX11_compareItems_46 (by decide) ?_
      obtain ⟨rfl, rfl⟩ := oc2 hf
      exact a_ireturn dX11_compareItems_50 rfl
  · have hf := ifn (by rw [c]; decide) hf
    have hf := ifp c hf
    refine a_aload_n (q := 0) dX11_compareItems_57 rfl rfl ?_
    obtain ⟨v20, e21, hf⟩ := obd hf
    refine o_gfI dX11_compareItems_58 lk_X11_19 rfl e21 ?_
    refine a_aload_n (q := 1) dX11_compareItems_61 rfl rfl ?_
    obtain ⟨v22, e23, hf⟩ := obd hf
    refine o_gfI dX11_compareItems_62 lk_X11_19 rfl e23 ?_
    obtain ⟨v25, h26, e24, hf⟩ := ob2 hf
    refine a_callS (as := [.int v20, .int v22]) (np := 2) (st := []) (sJ6_compare_7cf53 E (D - 1) (by omega) e24) dX11_compareItems_65 rfl (by omega) (by decide) cw_X11_91 wd_958 rfl (Nat.le_of_ble_eq_true rfl) ?_
    obtain ⟨rfl, rfl⟩ := oc2 hf
    exact a_ireturn dX11_compareItems_68 rfl
def fX11_isNumeric (a0 : Nat) (h : hp) : Option (Int32 × hp) :=
  (gfI h a0 10 0).bind fun v1 =>
  if v1 = 1 then (
    some (1, h)
  ) else (
    (gfI h a0 10 0).bind fun v3 =>
    if v3 = 2 then (
      some (1, h)
    ) else (
      some (0, h)
    )
  )
set_option maxHeartbeats 4000000 in
set_option maxRecDepth 100000 in
theorem sX11_isNumeric (E : gE) (D : Nat) (hD : 0 ≤ D) {a0 : Nat} {h hz : hp} {v0 : Int32} (hf : fX11_isNumeric a0 h = some (v0, hz)) : MC E yX11_isNumeric cX11_isNumeric (Option.some Jvm.ClassFile.FieldType.boolean) 1 D [.ref a0] h (some (.int v0)) hz := by
  refine MC.of (by decide +kernel) (Nat.le_of_ble_eq_true rfl) rfl ?_
  unfold fX11_isNumeric at hf
  show AW E yX11_isNumeric cX11_isNumeric (Option.some Jvm.ClassFile.FieldType.boolean) 1 D (some (.int v0)) h hz 0 [(0, .ref a0)] [] h
  refine a_aload_n (q := 0) dX11_isNumeric_0 rfl rfl ?_
  obtain ⟨v1, e2, hf⟩ := obd hf
  refine o_gfI dX11_isNumeric_1 lk_X11_23 rfl e2 ?_
  refine a_iconst (v := 1) dX11_isNumeric_4 (by decide) ?_
  refine a_icmp_eq (tgt := 16) dX11_isNumeric_5 (by decide) (fun c => ?_) (fun c => ?_)
  · have hf := ifp c hf
    refine a_iconst (v := 1) dX11_isNumeric_16 (by decide) ?_
    refine a_goto (tgt := 21) dX11_isNumeric_17 (by decide) ?_
    obtain ⟨rfl, rfl⟩ := oc2 hf
    exact a_zreturn dX11_isNumeric_21 rfl (by decide)
  · have hf := ifn c hf
    refine a_aload_n (q := 0) dX11_isNumeric_8 rfl rfl ?_
    obtain ⟨v3, e4, hf⟩ := obd hf
    refine o_gfI dX11_isNumeric_9 lk_X11_23 rfl e4 ?_
    refine a_iconst (v := 2) dX11_isNumeric_12 (by decide) ?_
    refine a_icmp_ne (tgt := 20) dX11_isNumeric_13 (by decide) (fun c => ?_) (fun c => ?_)
    · have hf := ifn c hf
      refine a_iconst (v := 0) dX11_isNumeric_20 (by decide) ?_
      obtain ⟨rfl, rfl⟩ := oc2 hf
      exact a_zreturn dX11_isNumeric_21 rfl (by decide)
    · have hf := ifp c hf
      refine a_iconst (v := 1) dX11_isNumeric_16 (by decide) ?_
      refine a_goto (tgt := 21) dX11_isNumeric_17 (by decide) ?_
      obtain ⟨rfl, rfl⟩ := oc2 hf
      exact a_zreturn dX11_isNumeric_21 rfl (by decide)
def fX11_compareWith (a0 : Nat) (a1 : Nat) (h : hp) : Option (Int32 × hp) :=
  (gfI h a0 10 0).bind fun v1 =>
  jn (fun (h22j : hp) => (
    (ckT h22j a0 10).bind fun _ =>
    bd2 (fX11_isNumeric a0 h22j) fun v4 h5 =>
    if v4 = 0 then (
      some (2, h5)
    ) else (
      (ckT h5 a1 10).bind fun _ =>
      bd2 (fX11_isNumeric a1 h5) fun v8 h9 =>
      if v8 = 0 then (
        some (2, h9)
      ) else (
        (gfI h9 a0 10 0).bind fun v11 =>
        jn (fun (h66j : hp) => (
          (gfI h66j a0 10 0).bind fun v13 =>
          jn (fun (s86_0 : UInt32) (h86j : hp) => (
            (gfI h86j a1 10 0).bind fun v15 =>
            jn (fun (s107_0 : UInt32) (h107j : hp) => (
              if 0 ≤ (Op.cmpValue (FP.fcmp s86_0 s107_0) .g) then (
                if (Op.cmpValue (FP.fcmp s86_0 s107_0) .l) ≤ 0 then (
                  some (0, h107j)
                ) else (
                  some (1, h107j)
                )
              ) else (
                some ((-1), h107j)
              )
              : Option (Int32 × hp))) fun k107 =>
            if v15 = 1 then (
              (gfI h86j a1 10 1).bind fun v19 =>
              k107 (FP.i2f v19) h86j
            ) else (
              (gfF h86j a1 10 2).bind fun v17 =>
              k107 v17 h86j
            )
            : Option (Int32 × hp))) fun k86 =>
          if v13 = 1 then (
            (gfI h66j a0 10 1).bind fun v23 =>
            k86 (FP.i2f v23) h66j
          ) else (
            (gfF h66j a0 10 2).bind fun v21 =>
            k86 v21 h66j
          )
          : Option (Int32 × hp))) fun k66 =>
        if v11 = 1 then (
          (gfI h9 a1 10 0).bind fun v25 =>
          if v25 = 1 then (
            (gfI h9 a0 10 1).bind fun v27 =>
            (gfI h9 a1 10 1).bind fun v29 =>
            bd2 (fJ6_compare_7cf53 v27 v29 h9) fun v32 h33 =>
            some (v32, h33)
          ) else (
            k66 h9
          )
        ) else (
          k66 h9
        )
      )
    )
    : Option (Int32 × hp))) fun k22 =>
  if v1 = 3 then (
    (gfI h a1 10 0).bind fun v34 =>
    if v34 = 3 then (
      (ckT h a0 10).bind fun _ =>
      bd2 (fX11_compareItems a0 a1 h) fun v37 h38 =>
      some (v37, h38)
    ) else (
      k22 h
    )
  ) else (
    k22 h
  )
set_option maxHeartbeats 4000000 in
set_option maxRecDepth 100000 in
theorem sX11_compareWith (E : gE) (D : Nat) (hD : 2 ≤ D) {a0 : Nat} {a1 : Nat} {h hz : hp} {v0 : Int32} (hf : fX11_compareWith a0 a1 h = some (v0, hz)) : MC E yX11_compareWith cX11_compareWith (Option.some Jvm.ClassFile.FieldType.int) 4 D [.ref a0, .ref a1] h (some (.int v0)) hz := by
  refine MC.of (by decide +kernel) (Nat.le_of_ble_eq_true rfl) rfl ?_
  unfold fX11_compareWith at hf
  show AW E yX11_compareWith cX11_compareWith (Option.some Jvm.ClassFile.FieldType.int) 4 D (some (.int v0)) h hz 0 [(0, .ref a0), (1, .ref a1)] [] h
  refine a_aload_n (q := 0) dX11_compareWith_0 rfl rfl ?_
  obtain ⟨v1, e2, hf⟩ := obd hf
  refine o_gfI dX11_compareWith_1 lk_X11_23 rfl e2 ?_
  refine a_iconst (v := 3) dX11_compareWith_4 (by decide) ?_
  obtain ⟨k22, ek22, hf⟩ := jn_s hf
  have hj22 : ∀ (h22j : hp), k22 h22j = some (v0, hz) → AW E yX11_compareWith cX11_compareWith (Option.some Jvm.ClassFile.FieldType.int) 4 D (some (.int v0)) h hz 22 [(0, .ref a0), (1, .ref a1)] [] h22j := by
    intro h22j hf
    rw [ek22] at hf
    clear ek22
    refine a_aload_n (q := 0) dX11_compareWith_22 rfl rfl ?_
    obtain ⟨_, e6, hf⟩ := obd hf
    obtain ⟨v4, h5, e3, hf⟩ := ob2 hf
    refine a_callV (as := []) (np := 0) (ci := 10) (st := []) (sX11_isNumeric E (D - 1) (by omega) e3) dX11_compareWith_23 rfl (by omega) (by decide) cw_X11_87 ⟨wd_962, ws_55⟩ rfl (ckT_s e6) rfl (Nat.le_of_ble_eq_true rfl) ?_
    refine a_if_eq (tgt := 36) dX11_compareWith_26 (by decide) (fun c => ?_) (fun c => ?_)
    · have hf := ifp c hf
      refine a_iconst (v := 2) dX11_compareWith_36 (by decide) ?_
      obtain ⟨rfl, rfl⟩ := oc2 hf
      exact a_ireturn dX11_compareWith_37 rfl
    · have hf := ifn c hf
      refine a_aload_n (q := 1) dX11_compareWith_29 rfl rfl ?_
      obtain ⟨_, e10, hf⟩ := obd hf
      obtain ⟨v8, h9, e7, hf⟩ := ob2 hf
      refine a_callV (as := []) (np := 0) (ci := 10) (st := []) (sX11_isNumeric E (D - 1) (by omega) e7) dX11_compareWith_30 rfl (by omega) (by decide) cw_X11_87 ⟨wd_962, ws_55⟩ rfl (ckT_s e10) rfl (Nat.le_of_ble_eq_true rfl) ?_
      refine a_if_ne (tgt := 38) dX11_compareWith_33 (by decide) (fun c => ?_) (fun c => ?_)
      · have hf := ifn c hf
        refine a_aload_n (q := 0) dX11_compareWith_38 rfl rfl ?_
        obtain ⟨v11, e12, hf⟩ := obd hf
        refine o_gfI dX11_compareWith_39 lk_X11_23 rfl e12 ?_
        refine a_iconst (v := 1) dX11_compareWith_42 (by decide) ?_
        obtain ⟨k66, ek66, hf⟩ := jn_s hf
        have hj66 : ∀ (h66j : hp), k66 h66j = some (v0, hz) → AW E yX11_compareWith cX11_compareWith (Option.some Jvm.ClassFile.FieldType.int) 4 D (some (.int v0)) h hz 66 [(0, .ref a0), (1, .ref a1)] [] h66j := by
          intro h66j hf
          rw [ek66] at hf
          clear ek66
          refine a_aload_n (q := 0) dX11_compareWith_66 rfl rfl ?_
          obtain ⟨v13, e14, hf⟩ := obd hf
          refine o_gfI dX11_compareWith_67 lk_X11_23 rfl e14 ?_
          refine a_iconst (v := 1) dX11_compareWith_70 (by decide) ?_
          obtain ⟨k86, ek86, hf⟩ := jn_s hf
          have hj86 : ∀ (s86_0 : UInt32) (h86j : hp), k86 s86_0 h86j = some (v0, hz) → AW E yX11_compareWith cX11_compareWith (Option.some Jvm.ClassFile.FieldType.int) 4 D (some (.int v0)) h hz 86 [(1, .ref a1)] [.float s86_0] h86j := by
            intro s86_0 h86j hf
            rw [ek86] at hf
            clear ek86
            refine a_fstore_n (lv1 := [(2, .float s86_0), (1, .ref a1)]) dX11_compareWith_86 rfl (by decide) rfl ?_
            refine a_aload_n (q := 1) dX11_compareWith_87 rfl rfl ?_
            obtain ⟨v15, e16, hf⟩ := obd hf
            refine o_gfI dX11_compareWith_88 lk_X11_23 rfl e16 ?_
            refine a_iconst (v := 1) dX11_compareWith_91 (by decide) ?_
            obtain ⟨k107, ek107, hf⟩ := jn_s hf
            have hj107 : ∀ (s107_0 : UInt32) (h107j : hp), k107 s107_0 h107j = some (v0, hz) → AW E yX11_compareWith cX11_compareWith (Option.some Jvm.ClassFile.FieldType.int) 4 D (some (.int v0)) h hz 107 [(2, .float s86_0)] [.float s107_0] h107j := by
              intro s107_0 h107j hf
              rw [ek107] at hf
              clear ek107
              refine a_fstore_n (lv1 := [(3, .float s107_0), (2, .float s86_0)]) dX11_compareWith_107 rfl (by decide) rfl ?_
              refine a_fload_n (q := 1) dX11_compareWith_108 rfl rfl ?_
              refine a_fload_n (q := 0) dX11_compareWith_109 rfl rfl ?_
              refine a_fcmp dX11_compareWith_110 ?_
              refine a_if_ge (tgt := 118) dX11_compareWith_111 (by decide) (fun c => ?_) (fun c => ?_)
              · have hf := ifp c hf
                refine a_fload_n (q := 1) dX11_compareWith_118 rfl rfl ?_
                refine a_fload_n (q := 0) dX11_compareWith_119 rfl rfl ?_
                refine a_fcmp dX11_compareWith_120 ?_
                refine a_if_le (tgt := 128) dX11_compareWith_121 (by decide) (fun c => ?_) (fun c => ?_)
                · have hf := ifp c hf
                  refine a_iconst (v := 0) dX11_compareWith_128 (by decide) ?_
                  obtain ⟨rfl, rfl⟩ := oc2 hf
                  exact a_ireturn dX11_compareWith_129 rfl
                · have hf := ifn c hf
                  refine a_iconst (v := 1) dX11_compareWith_124 (by decide) ?_
                  refine a_goto (tgt := 129) dX11_compareWith_125 (by decide) ?_
                  obtain ⟨rfl, rfl⟩ := oc2 hf
                  exact a_ireturn dX11_compareWith_129 rfl
              · have hf := ifn c hf
                refine a_iconst (v := (-1)) dX11_compareWith_114 (by decide) ?_
                refine a_goto (tgt := 129) dX11_compareWith_115 (by decide) ?_
                obtain ⟨rfl, rfl⟩ := oc2 hf
                exact a_ireturn dX11_compareWith_129 rfl
            clear ek107
            refine a_icmp_ne (tgt := 103) dX11_compareWith_92 (by decide) (fun c => ?_) (fun c => ?_)
            · have hf := ifn c hf
              refine a_aload_n (q := 1) dX11_compareWith_103 rfl rfl ?_
              obtain ⟨v17, e18, hf⟩ := obd hf
              refine o_gfF dX11_compareWith_104 lk_X11_29 rfl e18 ?_
              exact AW.sub [0] rfl (hj107 _ _ hf)
            · have hf := ifp c hf
              refine a_aload_n (q := 1) dX11_compareWith_95 rfl rfl ?_
              obtain ⟨v19, e20, hf⟩ := obd hf
              refine o_gfI dX11_compareWith_96 lk_X11_26 rfl e20 ?_
              refine a_i2f dX11_compareWith_99 ?_
              refine a_goto (tgt := 107) dX11_compareWith_100 (by decide) ?_
              exact AW.sub [0] rfl (hj107 _ _ hf)
          clear ek86
          refine a_icmp_ne (tgt := 82) dX11_compareWith_71 (by decide) (fun c => ?_) (fun c => ?_)
          · have hf := ifn c hf
            refine a_aload_n (q := 0) dX11_compareWith_82 rfl rfl ?_
            obtain ⟨v21, e22, hf⟩ := obd hf
            refine o_gfF dX11_compareWith_83 lk_X11_29 rfl e22 ?_
            exact AW.sub [1] rfl (hj86 _ _ hf)
          · have hf := ifp c hf
            refine a_aload_n (q := 0) dX11_compareWith_74 rfl rfl ?_
            obtain ⟨v23, e24, hf⟩ := obd hf
            refine o_gfI dX11_compareWith_75 lk_X11_26 rfl e24 ?_
            refine a_i2f dX11_compareWith_78 ?_
            refine a_goto (tgt := 86) dX11_compareWith_79 (by decide) ?_
            exact AW.sub [1] rfl (hj86 _ _ hf)
        clear ek66
        refine a_icmp_ne (tgt := 66) dX11_compareWith_43 (by decide) (fun c => ?_) (fun c => ?_)
        · have hf := ifn c hf
          exact hj66 _ hf
        · have hf := ifp c hf
          refine a_aload_n (q := 1) dX11_compareWith_46 rfl rfl ?_
          obtain ⟨v25, e26, hf⟩ := obd hf
          refine o_gfI dX11_compareWith_47 lk_X11_23 rfl e26 ?_
          refine a_iconst (v := 1) dX11_compareWith_50 (by decide) ?_
          refine a_icmp_ne (tgt := 66) dX11_compareWith_51 (by decide) (fun c => ?_) (fun c => ?_)
          · have hf := ifn c hf
            exact hj66 _ hf
          · have hf := ifp c hf
            refine a_aload_n (q := 0) dX11_compareWith_54 rfl rfl ?_
            obtain ⟨v27, e28, hf⟩ := obd hf
            refine o_gfI dX11_compareWith_55 lk_X11_26 rfl e28 ?_
            refine a_aload_n (q := 1) dX11_compareWith_58 rfl rfl ?_
            obtain ⟨v29, e30, hf⟩ := obd hf
            refine o_gfI dX11_compareWith_59 lk_X11_26 rfl e30 ?_
            obtain ⟨v32, h33, e31, hf⟩ := ob2 hf
            refine a_callS (as := [.int v27, .int v29]) (np := 2) (st := []) (sJ6_compare_7cf53 E (D - 1) (by omega) e31) dX11_compareWith_62 rfl (by omega) (by decide) cw_X11_91 wd_958 rfl (Nat.le_of_ble_eq_true rfl) ?_
            obtain ⟨rfl, rfl⟩ := oc2 hf
            exact a_ireturn dX11_compareWith_65 rfl
      · have hf := ifp c hf
        refine a_iconst (v := 2) dX11_compareWith_36 (by decide) ?_
        obtain ⟨rfl, rfl⟩ := oc2 hf
        exact a_ireturn dX11_compareWith_37 rfl
  clear ek22
  refine a_icmp_ne (tgt := 22) dX11_compareWith_5 (by decide) (fun c => ?_) (fun c => ?_)
  · have hf := ifn c hf
    exact hj22 _ hf
  · have hf := ifp c hf
    refine a_aload_n (q := 1) dX11_compareWith_8 rfl rfl ?_
    obtain ⟨v34, e35, hf⟩ := obd hf
    refine o_gfI dX11_compareWith_9 lk_X11_23 rfl e35 ?_
    refine a_iconst (v := 3) dX11_compareWith_12 (by decide) ?_
    refine a_icmp_ne (tgt := 22) dX11_compareWith_13 (by decide) (fun c => ?_) (fun c => ?_)
    · have hf := ifn c hf
      exact hj22 _ hf
    · have hf := ifp c hf
      refine a_aload_n (q := 0) dX11_compareWith_16 rfl rfl ?_
      refine a_aload_n (q := 1) dX11_compareWith_17 rfl rfl ?_
      obtain ⟨_, e39, hf⟩ := obd hf
      obtain ⟨v37, h38, e36, hf⟩ := ob2 hf
      refine a_callV (as := [.ref a1]) (np := 1) (ci := 10) (st := []) (sX11_compareItems E (D - 1) (by omega) e36) dX11_compareWith_18 rfl (by omega) (by decide) cw_X11_83 ⟨wd_955, ws_54⟩ rfl (ckT_s e39) rfl (Nat.le_of_ble_eq_true rfl) ?_
      obtain ⟨rfl, rfl⟩ := oc2 hf
      exact a_ireturn dX11_compareWith_21 rfl
def fX11_showInt_l21 : Nat → Nat → Int32 → Int32 → Int32 → hp → Option (Int32 × hp)
  | 0, _, _, _, _, _ => none
  | n + 1, x1, x2, x3, x4, h =>
    if 6 ≤ x4 then (
      some (x3, h)
    ) else (
      (dvI x2 x3).bind fun v1 =>
      if v1 < 10 then (
        some (x3, h)
      ) else (
        fX11_showInt_l21 n x1 x2 (x3 * 10) (x4 + 1) h
      )
    )
def fX11_showInt_l47 : Nat → Nat → Int32 → Int32 → hp → Option hp
  | 0, _, _, _, _ => none
  | n + 1, x1, x2, x3, h =>
    if x3 ≤ 0 then (
      some (h)
    ) else (
      (dvI x2 x3).bind fun v1 =>
      (rmI v1 10).bind fun v3 =>
      (ckT h x1 4).bind fun _ =>
      bd2 (fX5_add x1 (48 + v3) h) fun v6 h7 =>
      (dvI x3 10).bind fun v9 =>
      fX11_showInt_l47 n x1 x2 v9 h7
    )
def fX11_showInt (a0 : Int32) (a1 : Nat) (h : hp) : Option hp :=
  jn (fun (h11j : hp) => (
    bd2 (fJ9_abs_0f7a4 a0 h11j) fun v2 h3 =>
    bd2 (fX11_showInt_l21 FU a1 v2 1 0 h3) fun v6 h5 =>
    (fX11_showInt_l47 FU a1 v2 v6 h5).bind fun h8 =>
    some h8
    : Option hp)) fun k11 =>
  if 0 ≤ a0 then (
    k11 h
  ) else (
    (ckT h a1 4).bind fun _ =>
    bd2 (fX5_add a1 45 h) fun v10 h11 =>
    k11 h11
  )
set_option maxHeartbeats 4000000 in
set_option maxRecDepth 100000 in
theorem sX11_showInt_l21 (E : gE) (D : Nat) (hD : 1 ≤ D) {rz : Option Value} {h0 hz : hp} : ∀ (n : Nat) (x1 : Nat) (x2 : Int32) (x3 : Int32) (x4 : Int32) (h : hp) (m3 : Int32) (hq : hp), fX11_showInt_l21 n x1 x2 x3 x4 h = some (m3, hq) → (AW E yX11_showInt cX11_showInt (Option.none : Option Jvm.ClassFile.FieldType) 5 D rz h0 hz 47 [(1, .ref x1), (2, .int x2), (3, .int m3)] [] hq) → AW E yX11_showInt cX11_showInt (Option.none : Option Jvm.ClassFile.FieldType) 5 D rz h0 hz 21 [(1, .ref x1), (2, .int x2), (3, .int x3), (4, .int x4)] [] h := by
  intro n
  induction n with
  | zero =>
    intro x1 x2 x3 x4 h m3 hq hf _
    rw [fX11_showInt_l21] at hf
    cases hf
  | succ n ih =>
    intro x1 x2 x3 x4 h m3 hq hf hk0
    rw [fX11_showInt_l21] at hf
    refine a_iload (q := 3) dX11_showInt_21 rfl ?_
    refine a_bipush (v := 6) dX11_showInt_23 (by decide) ?_
    refine a_icmp_ge (tgt := 47) dX11_showInt_25 (by decide) (fun c => ?_) (fun c => ?_)
    · have hf := ifp c hf
      obtain ⟨rfl, rfl⟩ := oc2 hf
      exact AW.sub [0, 1, 2] rfl (hk0)
    · have hf := ifn c hf
      refine a_iload_n (q := 1) dX11_showInt_28 rfl rfl ?_
      refine a_iload_n (q := 2) dX11_showInt_29 rfl rfl ?_
      obtain ⟨v1, e2, hf⟩ := obd hf
      refine o_dvI dX11_showInt_30 e2 ?_
      refine a_bipush (v := 10) dX11_showInt_31 (by decide) ?_
      refine a_icmp_lt (tgt := 47) dX11_showInt_33 (by decide) (fun c => ?_) (fun c => ?_)
      · have hf := ifp c hf
        obtain ⟨rfl, rfl⟩ := oc2 hf
        exact AW.sub [0, 1, 2] rfl (hk0)
      · have hf := ifn c hf
        refine a_iload_n (q := 2) dX11_showInt_36 rfl rfl ?_
        refine a_bipush (v := 10) dX11_showInt_37 (by decide) ?_
        refine a_imul dX11_showInt_39 ?_
        refine a_istore_n (lv1 := [(3, .int (x3 * 10)), (1, .ref x1), (2, .int x2), (4, .int x4)]) dX11_showInt_40 rfl (by decide) rfl ?_
        refine a_iinc (q := 3) (v := (x4 + 1)) (lv1 := [(4, .int (x4 + 1)), (3, .int (x3 * 10)), (1, .ref x1), (2, .int x2)]) dX11_showInt_41 rfl (by rfl) (by decide) rfl ?_
        refine a_goto (tgt := 21) dX11_showInt_44 (by decide) ?_
        exact AW.sub [2, 3, 1, 0] rfl (ih _ _ _ _ _ _ _ hf hk0)
set_option maxHeartbeats 4000000 in
set_option maxRecDepth 100000 in
theorem sX11_showInt_l47 (E : gE) (D : Nat) (hD : 1 ≤ D) {rz : Option Value} {h0 hz : hp} : ∀ (n : Nat) (x1 : Nat) (x2 : Int32) (x3 : Int32) (h : hp) (hq : hp), fX11_showInt_l47 n x1 x2 x3 h = some hq → (AW E yX11_showInt cX11_showInt (Option.none : Option Jvm.ClassFile.FieldType) 5 D rz h0 hz 73 [] [] hq) → AW E yX11_showInt cX11_showInt (Option.none : Option Jvm.ClassFile.FieldType) 5 D rz h0 hz 47 [(1, .ref x1), (2, .int x2), (3, .int x3)] [] h := by
  intro n
  induction n with
  | zero =>
    intro x1 x2 x3 h hq hf _
    rw [fX11_showInt_l47] at hf
    cases hf
  | succ n ih =>
    intro x1 x2 x3 h hq hf hk0
    rw [fX11_showInt_l47] at hf
    refine a_iload_n (q := 2) dX11_showInt_47 rfl rfl ?_
    refine a_if_le (tgt := 73) dX11_showInt_48 (by decide) (fun c => ?_) (fun c => ?_)
    · have hf := ifp c hf
      obtain rfl := Option.some.inj hf
      exact AW.sub [] rfl (hk0)
    · have hf := ifn c hf
      refine a_aload_n (q := 0) dX11_showInt_51 rfl rfl ?_
      refine a_bipush (v := 48) dX11_showInt_52 (by decide) ?_
      refine a_iload_n (q := 1) dX11_showInt_54 rfl rfl ?_
      refine a_iload_n (q := 2) dX11_showInt_55 rfl rfl ?_
      obtain ⟨v1, e2, hf⟩ := obd hf
      refine o_dvI dX11_showInt_56 e2 ?_
      refine a_bipush (v := 10) dX11_showInt_57 (by decide) ?_
      obtain ⟨v3, e4, hf⟩ := obd hf
      refine o_rmI dX11_showInt_59 e4 ?_
      refine a_iadd dX11_showInt_60 ?_
      obtain ⟨_, e8, hf⟩ := obd hf
      obtain ⟨v6, h7, e5, hf⟩ := ob2 hf
      refine a_callV (as := [.int (48 + v3)]) (np := 1) (ci := 4) (st := []) (sX5_add E (D - 1) (by omega) e5) dX11_showInt_61 rfl (by omega) (by decide) cw_X11_105 ⟨wd_358, wd_359⟩ rfl (ckT_s e8) rfl (Nat.le_of_ble_eq_true rfl) ?_
      refine a_pop dX11_showInt_64 rfl ?_
      refine a_iload_n (q := 2) dX11_showInt_65 rfl rfl ?_
      refine a_bipush (v := 10) dX11_showInt_66 (by decide) ?_
      obtain ⟨v9, e10, hf⟩ := obd hf
      refine o_dvI dX11_showInt_68 e10 ?_
      refine a_istore_n (lv1 := [(3, .int v9), (1, .ref x1), (2, .int x2)]) dX11_showInt_69 rfl (by decide) rfl ?_
      refine a_goto (tgt := 47) dX11_showInt_70 (by decide) ?_
      exact AW.sub [1, 2, 0] rfl (ih _ _ _ _ _ hf hk0)
set_option maxHeartbeats 4000000 in
set_option maxRecDepth 100000 in
theorem sX11_showInt (E : gE) (D : Nat) (hD : 1 ≤ D) {a0 : Int32} {a1 : Nat} {h hz : hp} (hf : fX11_showInt a0 a1 h = some hz) : MC E yX11_showInt cX11_showInt (Option.none : Option Jvm.ClassFile.FieldType) 5 D [.int a0, .ref a1] h none hz := by
  refine MC.of (by decide +kernel) (Nat.le_of_ble_eq_true rfl) rfl ?_
  unfold fX11_showInt at hf
  show AW E yX11_showInt cX11_showInt (Option.none : Option Jvm.ClassFile.FieldType) 5 D none h hz 0 [(0, .int a0), (1, .ref a1)] [] h
  refine a_iload_n (q := 0) dX11_showInt_0 rfl rfl ?_
  obtain ⟨k11, ek11, hf⟩ := jn_s hf
  have hj11 : ∀ (h11j : hp), k11 h11j = some hz → AW E yX11_showInt cX11_showInt (Option.none : Option Jvm.ClassFile.FieldType) 5 D none h hz 11 [(0, .int a0), (1, .ref a1)] [] h11j := by
    intro h11j hf
    rw [ek11] at hf
    clear ek11
    refine a_iload_n (q := 0) dX11_showInt_11 rfl rfl ?_
    obtain ⟨v2, h3, e1, hf⟩ := ob2 hf
    refine a_callS (as := [.int a0]) (np := 1) (st := []) (sJ9_abs_0f7a4 E (D - 1) (by omega) e1) dX11_showInt_12 rfl (by omega) (by decide) cw_X11_78 wd_362 rfl (Nat.le_of_ble_eq_true rfl) ?_
    refine a_istore_n (lv1 := [(2, .int v2), (0, .int a0), (1, .ref a1)]) dX11_showInt_15 rfl (by decide) rfl ?_
    refine a_iconst (v := 1) dX11_showInt_16 (by decide) ?_
    refine a_istore_n (lv1 := [(3, .int 1), (2, .int v2), (0, .int a0), (1, .ref a1)]) dX11_showInt_17 rfl (by decide) rfl ?_
    refine a_iconst (v := 0) dX11_showInt_18 (by decide) ?_
    refine a_istore (lv1 := [(4, .int 0), (3, .int 1), (2, .int v2), (0, .int a0), (1, .ref a1)]) dX11_showInt_19 (by decide) rfl ?_
    obtain ⟨v6, h5, e4, hf⟩ := ob2 hf
    refine AW.sub [4, 2, 1, 0] rfl (sX11_showInt_l21 E D hD _ _ _ _ _ _ _ _ e4 ?_)
    obtain ⟨h8, e7, hf⟩ := obd hf
    refine sX11_showInt_l47 E D hD _ _ _ _ _ _ e7 ?_
    obtain rfl := Option.some.inj hf
    exact a_return dX11_showInt_73 rfl
  clear ek11
  refine a_if_ge (tgt := 11) dX11_showInt_1 (by decide) (fun c => ?_) (fun c => ?_)
  · have hf := ifp c hf
    exact hj11 _ hf
  · have hf := ifn c hf
    refine a_aload_n (q := 1) dX11_showInt_4 rfl rfl ?_
    refine a_bipush (v := 45) dX11_showInt_5 (by decide) ?_
    obtain ⟨_, e12, hf⟩ := obd hf
    obtain ⟨v10, h11, e9, hf⟩ := ob2 hf
    refine a_callV (as := [.int 45]) (np := 1) (ci := 4) (st := []) (sX5_add E (D - 1) (by omega) e9) dX11_showInt_7 rfl (by omega) (by decide) cw_X11_105 ⟨wd_358, wd_359⟩ rfl (ckT_s e12) rfl (Nat.le_of_ble_eq_true rfl) ?_
    refine a_pop dX11_showInt_10 rfl ?_
    exact hj11 _ hf

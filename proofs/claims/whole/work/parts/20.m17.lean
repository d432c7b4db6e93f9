def fX14_comeBack_l78 : Nat → Nat → Int32 → Int32 → Int32 → hp → Option hp
  | 0, _, _, _, _, _ => none
  | n + 1, x0, x1, x2, x3, h =>
    if 16 ≤ x3 then (
      some (h)
    ) else (
      (gfR h x0 13 3).bind fun v1 =>
      (gfR h x0 13 28).bind fun v3 =>
      (alI h v3 ((16 * x2) + x3)).bind fun v5 =>
      (asI h v1 ((16 * x1) + x3) v5).bind fun h7 =>
      fX14_comeBack_l78 n x0 x1 x2 (x3 + 1) h7
    )
def fX14_comeBack_l12 : Nat → Nat → Int32 → hp → Option hp
  | 0, _, _, _ => none
  | n + 1, x0, x1, h =>
    if 8 ≤ x1 then (
      some (h)
    ) else (
      (gfI h x0 13 30).bind fun v1 =>
      (gfR h x0 13 0).bind fun v3 =>
      (gfR h x0 13 25).bind fun v5 =>
      (alI h v5 ((8 * v1) + x1)).bind fun v7 =>
      (asI h v3 x1 v7).bind fun h9 =>
      (gfR h9 x0 13 1).bind fun v11 =>
      (gfR h9 x0 13 26).bind fun v13 =>
      (alI h9 v13 ((8 * v1) + x1)).bind fun v15 =>
      (asI h9 v11 x1 v15).bind fun h17 =>
      (gfR h17 x0 13 2).bind fun v19 =>
      (gfR h17 x0 13 27).bind fun v21 =>
      (alI h17 v21 ((8 * v1) + x1)).bind fun v23 =>
      (asI h17 v19 x1 v23).bind fun h25 =>
      (gfR h25 x0 13 4).bind fun v27 =>
      (gfR h25 x0 13 29).bind fun v29 =>
      (alF h25 v29 ((8 * v1) + x1)).bind fun v31 =>
      (asF h25 v27 x1 v31).bind fun h33 =>
      (fX14_comeBack_l78 FU x0 x1 ((8 * v1) + x1) 0 h33).bind fun h36 =>
      fX14_comeBack_l12 n x0 (x1 + 1) h36
    )
def fX14_comeBack (a0 : Nat) (h : hp) : Option hp :=
  (gfI h a0 13 30).bind fun v1 =>
  (pfI h a0 13 30 (v1 - 1)).bind fun h3 =>
  (fX14_comeBack_l12 FU a0 0 h3).bind fun h6 =>
  some h6
set_option maxHeartbeats 4000000 in
set_option maxRecDepth 100000 in
theorem sX14_comeBack_l78 (E : gE) (D : Nat) (hD : 0 ≤ D) {rz : Option Value} {h0 hz : hp} : ∀ (n : Nat) (x0 : Nat) (x1 : Int32) (x2 : Int32) (x3 : Int32) (h : hp) (hq : hp), fX14_comeBack_l78 n x0 x1 x2 x3 h = some hq → (AW E yX14_comeBack cX14_comeBack (Option.none : Option Jvm.ClassFile.FieldType) 4 D rz h0 hz 112 [(0, .ref x0), (1, .int x1)] [] hq) → AW E yX14_comeBack cX14_comeBack (Option.none : Option Jvm.ClassFile.FieldType) 4 D rz h0 hz 78 [(0, .ref x0), (1, .int x1), (2, .int x2), (3, .int x3)] [] h := by
  intro n
  induction n with
  | zero =>
    intro x0 x1 x2 x3 h hq hf _
    rw [fX14_comeBack_l78] at hf
    cases hf
  | succ n ih =>
    intro x0 x1 x2 x3 h hq hf hk0
    rw [fX14_comeBack_l78] at hf
    refine a_iload_n (q := 3) dX14_comeBack_78 rfl rfl ?_
    refine a_bipush (v := 16) dX14_comeBack_79 (by decide) ?_
    refine a_icmp_ge (tgt := 112) dX14_comeBack_81 (by decide) (fun c => ?_) (fun c => ?_)
    · have hf := ifp c hf
      obtain rfl := Option.some.inj hf
      exact AW.sub [0, 1] rfl (hk0)
    · have hf := ifn c hf
      refine a_aload_n (q := 0) dX14_comeBack_84 rfl rfl ?_
      obtain ⟨v1, e2, hf⟩ := obd hf
      refine o_gfR dX14_comeBack_85 lk_X14_21 rfl e2 ?_
      refine a_bipush (v := 16) dX14_comeBack_88 (by decide) ?_
      refine a_iload_n (q := 1) dX14_comeBack_90 rfl rfl ?_
      refine a_imul dX14_comeBack_91 ?_
      refine a_iload_n (q := 3) dX14_comeBack_92 rfl rfl ?_
      refine a_iadd dX14_comeBack_93 ?_
      refine a_aload_n (q := 0) dX14_comeBack_94 rfl rfl ?_
      obtain ⟨v3, e4, hf⟩ := obd hf
      refine o_gfR dX14_comeBack_95 lk_X14_62 rfl e4 ?_
      refine a_bipush (v := 16) dX14_comeBack_98 (by decide) ?_
      refine a_iload_n (q := 2) dX14_comeBack_100 rfl rfl ?_
      refine a_imul dX14_comeBack_101 ?_
      refine a_iload_n (q := 3) dX14_comeBack_102 rfl rfl ?_
      refine a_iadd dX14_comeBack_103 ?_
      obtain ⟨v5, e6, hf⟩ := obd hf
      refine o_alI dX14_comeBack_104 e6 ?_
      obtain ⟨h7, e8, hf⟩ := obd hf
      refine o_asI dX14_comeBack_105 e8 ?_
      refine a_iinc (q := 3) (v := (x3 + 1)) (lv1 := [(3, .int (x3 + 1)), (0, .ref x0), (1, .int x1), (2, .int x2)]) dX14_comeBack_106 rfl (by rfl) (by decide) rfl ?_
      refine a_goto (tgt := 78) dX14_comeBack_109 (by decide) ?_
      exact AW.sub [1, 2, 3, 0] rfl (ih _ _ _ _ _ _ hf hk0)
set_option maxHeartbeats 4000000 in
set_option maxRecDepth 100000 in
theorem sX14_comeBack_l12 (E : gE) (D : Nat) (hD : 0 ≤ D) {rz : Option Value} {h0 hz : hp} : ∀ (n : Nat) (x0 : Nat) (x1 : Int32) (h : hp) (hq : hp), fX14_comeBack_l12 n x0 x1 h = some hq → (AW E yX14_comeBack cX14_comeBack (Option.none : Option Jvm.ClassFile.FieldType) 4 D rz h0 hz 118 [] [] hq) → AW E yX14_comeBack cX14_comeBack (Option.none : Option Jvm.ClassFile.FieldType) 4 D rz h0 hz 12 [(0, .ref x0), (1, .int x1)] [] h := by
  intro n
  induction n with
  | zero =>
    intro x0 x1 h hq hf _
    rw [fX14_comeBack_l12] at hf
    cases hf
  | succ n ih =>
    intro x0 x1 h hq hf hk0
    rw [fX14_comeBack_l12] at hf
    refine a_iload_n (q := 1) dX14_comeBack_12 rfl rfl ?_
    refine a_bipush (v := 8) dX14_comeBack_13 (by decide) ?_
    refine a_icmp_ge (tgt := 118) dX14_comeBack_15 (by decide) (fun c => ?_) (fun c => ?_)
    · have hf := ifp c hf
      obtain rfl := Option.some.inj hf
      exact AW.sub [] rfl (hk0)
    · have hf := ifn c hf
      refine a_bipush (v := 8) dX14_comeBack_18 (by decide) ?_
      refine a_aload_n (q := 0) dX14_comeBack_20 rfl rfl ?_
      obtain ⟨v1, e2, hf⟩ := obd hf
      refine o_gfI dX14_comeBack_21 lk_X14_400 rfl e2 ?_
      refine a_imul dX14_comeBack_24 ?_
      refine a_iload_n (q := 1) dX14_comeBack_25 rfl rfl ?_
      refine a_iadd dX14_comeBack_26 ?_
      refine a_istore_n (lv1 := [(2, .int ((8 * v1) + x1)), (0, .ref x0), (1, .int x1)]) dX14_comeBack_27 rfl (by decide) rfl ?_
      refine a_aload_n (q := 1) dX14_comeBack_28 rfl rfl ?_
      obtain ⟨v3, e4, hf⟩ := obd hf
      refine o_gfR dX14_comeBack_29 lk_X14_11 rfl e4 ?_
      refine a_iload_n (q := 2) dX14_comeBack_32 rfl rfl ?_
      refine a_aload_n (q := 1) dX14_comeBack_33 rfl rfl ?_
      obtain ⟨v5, e6, hf⟩ := obd hf
      refine o_gfR dX14_comeBack_34 lk_X14_53 rfl e6 ?_
      refine a_iload_n (q := 0) dX14_comeBack_37 rfl rfl ?_
      obtain ⟨v7, e8, hf⟩ := obd hf
      refine o_alI dX14_comeBack_38 e8 ?_
      obtain ⟨h9, e10, hf⟩ := obd hf
      refine o_asI dX14_comeBack_39 e10 ?_
      refine a_aload_n (q := 1) dX14_comeBack_40 rfl rfl ?_
      obtain ⟨v11, e12, hf⟩ := obd hf
      refine o_gfR dX14_comeBack_41 lk_X14_15 rfl e12 ?_
      refine a_iload_n (q := 2) dX14_comeBack_44 rfl rfl ?_
      refine a_aload_n (q := 1) dX14_comeBack_45 rfl rfl ?_
      obtain ⟨v13, e14, hf⟩ := obd hf
      refine o_gfR dX14_comeBack_46 lk_X14_56 rfl e14 ?_
      refine a_iload_n (q := 0) dX14_comeBack_49 rfl rfl ?_
      obtain ⟨v15, e16, hf⟩ := obd hf
      refine o_alI dX14_comeBack_50 e16 ?_
      obtain ⟨h17, e18, hf⟩ := obd hf
      refine o_asI dX14_comeBack_51 e18 ?_
      refine a_aload_n (q := 1) dX14_comeBack_52 rfl rfl ?_
      obtain ⟨v19, e20, hf⟩ := obd hf
      refine o_gfR dX14_comeBack_53 lk_X14_18 rfl e20 ?_
      refine a_iload_n (q := 2) dX14_comeBack_56 rfl rfl ?_
      refine a_aload_n (q := 1) dX14_comeBack_57 rfl rfl ?_
      obtain ⟨v21, e22, hf⟩ := obd hf
      refine o_gfR dX14_comeBack_58 lk_X14_59 rfl e22 ?_
      refine a_iload_n (q := 0) dX14_comeBack_61 rfl rfl ?_
      obtain ⟨v23, e24, hf⟩ := obd hf
      refine o_alI dX14_comeBack_62 e24 ?_
      obtain ⟨h25, e26, hf⟩ := obd hf
      refine o_asI dX14_comeBack_63 e26 ?_
      refine a_aload_n (q := 1) dX14_comeBack_64 rfl rfl ?_
      obtain ⟨v27, e28, hf⟩ := obd hf
      refine o_gfR dX14_comeBack_65 lk_X14_24 rfl e28 ?_
      refine a_iload_n (q := 2) dX14_comeBack_68 rfl rfl ?_
      refine a_aload_n (q := 1) dX14_comeBack_69 rfl rfl ?_
      obtain ⟨v29, e30, hf⟩ := obd hf
      refine o_gfR dX14_comeBack_70 lk_X14_65 rfl e30 ?_
      refine a_iload_n (q := 0) dX14_comeBack_73 rfl rfl ?_
      obtain ⟨v31, e32, hf⟩ := obd hf
      refine o_alF dX14_comeBack_74 e32 ?_
      obtain ⟨h33, e34, hf⟩ := obd hf
      refine o_asF dX14_comeBack_75 e34 ?_
      refine a_iconst (v := 0) dX14_comeBack_76 (by decide) ?_
      refine a_istore_n (lv1 := [(3, .int 0), (2, .int ((8 * v1) + x1)), (0, .ref x0), (1, .int x1)]) dX14_comeBack_77 rfl (by decide) rfl ?_
      obtain ⟨h36, e35, hf⟩ := obd hf
      refine AW.sub [2, 3, 1, 0] rfl (sX14_comeBack_l78 E D hD _ _ _ _ _ _ _ e35 ?_)
      refine a_iinc (q := 1) (v := (x1 + 1)) (lv1 := [(1, .int (x1 + 1)), (0, .ref x0)]) dX14_comeBack_112 rfl (by rfl) (by decide) rfl ?_
      refine a_goto (tgt := 12) dX14_comeBack_115 (by decide) ?_
      exact AW.sub [1, 0] rfl (ih _ _ _ _ hf hk0)
set_option maxHeartbeats 4000000 in
set_option maxRecDepth 100000 in
theorem sX14_comeBack (E : gE) (D : Nat) (hD : 0 ≤ D) {a0 : Nat} {h hz : hp} (hf : fX14_comeBack a0 h = some hz) : MC E yX14_comeBack cX14_comeBack (Option.none : Option Jvm.ClassFile.FieldType) 4 D [.ref a0] h none hz := by
  refine MC.of (by decide +kernel) (Nat.le_of_ble_eq_true rfl) rfl ?_
  unfold fX14_comeBack at hf
  show AW E yX14_comeBack cX14_comeBack (Option.none : Option Jvm.ClassFile.FieldType) 4 D none h hz 0 [(0, .ref a0)] [] h
  refine a_aload_n (q := 0) dX14_comeBack_0 rfl rfl ?_
  refine a_dup dX14_comeBack_1 rfl ?_
  obtain ⟨v1, e2, hf⟩ := obd hf
  refine o_gfI dX14_comeBack_2 lk_X14_400 rfl e2 ?_
  refine a_iconst (v := 1) dX14_comeBack_5 (by decide) ?_
  refine a_isub dX14_comeBack_6 ?_
  obtain ⟨h3, e4, hf⟩ := obd hf
  refine o_pfI dX14_comeBack_7 lk_X14_400 (⟨_, rfl, Or.inl rfl⟩) rfl e4 ?_
  refine a_iconst (v := 0) dX14_comeBack_10 (by decide) ?_
  refine a_istore_n (lv1 := [(1, .int 0), (0, .ref a0)]) dX14_comeBack_11 rfl (by decide) rfl ?_
  obtain ⟨h6, e5, hf⟩ := obd hf
  refine AW.sub [1, 0] rfl (sX14_comeBack_l12 E D hD _ _ _ _ _ e5 ?_)
  obtain rfl := Option.some.inj hf
  exact a_return dX14_comeBack_118 rfl
def fX14_links (a0 : Nat) (a1 : Int32) (a2 : Int32) (a3 : Int32) (h : hp) : Option hp :=
  (gfR h a0 13 44).bind fun v1 =>
  (gfI h a0 13 47).bind fun v3 =>
  (asI h v1 v3 a1).bind fun h5 =>
  (gfR h5 a0 13 45).bind fun v7 =>
  (gfI h5 a0 13 47).bind fun v9 =>
  (asI h5 v7 v9 a2).bind fun h11 =>
  (gfR h11 a0 13 46).bind fun v13 =>
  (gfI h11 a0 13 47).bind fun v15 =>
  (asI h11 v13 v15 a3).bind fun h17 =>
  (gfI h17 a0 13 47).bind fun v19 =>
  (pfI h17 a0 13 47 (v19 + 1)).bind fun h21 =>
  some h21
set_option maxHeartbeats 4000000 in
set_option maxRecDepth 100000 in
theorem sX14_links (E : gE) (D : Nat) (hD : 0 ≤ D) {a0 : Nat} {a1 : Int32} {a2 : Int32} {a3 : Int32} {h hz : hp} (hf : fX14_links a0 a1 a2 a3 h = some hz) : MC E yX14_links cX14_links (Option.none : Option Jvm.ClassFile.FieldType) 4 D [.ref a0, .int a1, .int a2, .int a3] h none hz := by
  refine MC.of (by decide +kernel) (Nat.le_of_ble_eq_true rfl) rfl ?_
  unfold fX14_links at hf
  show AW E yX14_links cX14_links (Option.none : Option Jvm.ClassFile.FieldType) 4 D none h hz 0 [(0, .ref a0), (1, .int a1), (2, .int a2), (3, .int a3)] [] h
  refine a_aload_n (q := 0) dX14_links_0 rfl rfl ?_
  obtain ⟨v1, e2, hf⟩ := obd hf
  refine o_gfR dX14_links_1 lk_X14_89 rfl e2 ?_
  refine a_aload_n (q := 0) dX14_links_4 rfl rfl ?_
  obtain ⟨v3, e4, hf⟩ := obd hf
  refine o_gfI dX14_links_5 lk_X14_403 rfl e4 ?_
  refine a_iload_n (q := 1) dX14_links_8 rfl rfl ?_
  obtain ⟨h5, e6, hf⟩ := obd hf
  refine o_asI dX14_links_9 e6 ?_
  refine a_aload_n (q := 0) dX14_links_10 rfl rfl ?_
  obtain ⟨v7, e8, hf⟩ := obd hf
  refine o_gfR dX14_links_11 lk_X14_92 rfl e8 ?_
  refine a_aload_n (q := 0) dX14_links_14 rfl rfl ?_
  obtain ⟨v9, e10, hf⟩ := obd hf
  refine o_gfI dX14_links_15 lk_X14_403 rfl e10 ?_
  refine a_iload_n (q := 2) dX14_links_18 rfl rfl ?_
  obtain ⟨h11, e12, hf⟩ := obd hf
  refine o_asI dX14_links_19 e12 ?_
  refine a_aload_n (q := 0) dX14_links_20 rfl rfl ?_
  obtain ⟨v13, e14, hf⟩ := obd hf
  refine o_gfR dX14_links_21 lk_X14_95 rfl e14 ?_
  refine a_aload_n (q := 0) dX14_links_24 rfl rfl ?_
  obtain ⟨v15, e16, hf⟩ := obd hf
  refine o_gfI dX14_links_25 lk_X14_403 rfl e16 ?_
  refine a_iload_n (q := 3) dX14_links_28 rfl rfl ?_
  obtain ⟨h17, e18, hf⟩ := obd hf
  refine o_asI dX14_links_29 e18 ?_
  refine a_aload_n (q := 0) dX14_links_30 rfl rfl ?_
  refine a_dup dX14_links_31 rfl ?_
  obtain ⟨v19, e20, hf⟩ := obd hf
  refine o_gfI dX14_links_32 lk_X14_403 rfl e20 ?_
  refine a_iconst (v := 1) dX14_links_35 (by decide) ?_
  refine a_iadd dX14_links_36 ?_
  obtain ⟨h21, e22, hf⟩ := obd hf
  refine o_pfI dX14_links_37 lk_X14_403 (⟨_, rfl, Or.inl rfl⟩) rfl e22 ?_
  obtain rfl := Option.some.inj hf
  exact a_return dX14_links_40 rfl
def fX14_linksBases_l2 : Nat → Nat → Int32 → Int32 → Int32 → hp → Option hp
  | 0, _, _, _, _, _ => none
  | n + 1, x0, x1, x2, x3, h =>
    if x2 ≤ x3 then (
      some (h)
    ) else (
      (gfR h x0 13 31).bind fun v1 =>
      (alI h v1 ((6 * x1) + x3)).bind fun v3 =>
      (ckT h x0 13).bind fun _ =>
      (fX14_links x0 v3 1 11 h).bind fun h6 =>
      fX14_linksBases_l2 n x0 x1 x2 (x3 + 1) h6
    )
def fX14_linksBases (a0 : Nat) (a1 : Int32) (a2 : Int32) (h : hp) : Option hp :=
  (fX14_linksBases_l2 FU a0 a1 a2 0 h).bind fun h2 =>
  some h2
set_option maxHeartbeats 4000000 in
set_option maxRecDepth 100000 in
theorem sX14_linksBases_l2 (E : gE) (D : Nat) (hD : 1 ≤ D) {rz : Option Value} {h0 hz : hp} : ∀ (n : Nat) (x0 : Nat) (x1 : Int32) (x2 : Int32) (x3 : Int32) (h : hp) (hq : hp), fX14_linksBases_l2 n x0 x1 x2 x3 h = some hq → (AW E yX14_linksBases cX14_linksBases (Option.none : Option Jvm.ClassFile.FieldType) 4 D rz h0 hz 31 [] [] hq) → AW E yX14_linksBases cX14_linksBases (Option.none : Option Jvm.ClassFile.FieldType) 4 D rz h0 hz 2 [(0, .ref x0), (1, .int x1), (2, .int x2), (3, .int x3)] [] h := by
  intro n
  induction n with
  | zero =>
    intro x0 x1 x2 x3 h hq hf _
    rw [fX14_linksBases_l2] at hf
    cases hf
  | succ n ih =>
    intro x0 x1 x2 x3 h hq hf hk0
    rw [fX14_linksBases_l2] at hf
    refine a_iload_n (q := 3) dX14_linksBases_2 rfl rfl ?_
    refine a_iload_n (q := 2) dX14_linksBases_3 rfl rfl ?_
    refine a_icmp_ge (tgt := 31) dX14_linksBases_4 (by decide) (fun c => ?_) (fun c => ?_)
    · have hf := ifp c hf
      obtain rfl := Option.some.inj hf
      exact AW.sub [] rfl (hk0)
    · have hf := ifn c hf
      refine a_aload_n (q := 0) dX14_linksBases_7 rfl rfl ?_
      refine a_aload_n (q := 0) dX14_linksBases_8 rfl rfl ?_
      obtain ⟨v1, e2, hf⟩ := obd hf
      refine o_gfR dX14_linksBases_9 lk_X14_68 rfl e2 ?_
      refine a_bipush (v := 6) dX14_linksBases_12 (by decide) ?_
      refine a_iload_n (q := 1) dX14_linksBases_14 rfl rfl ?_
      refine a_imul dX14_linksBases_15 ?_
      refine a_iload_n (q := 3) dX14_linksBases_16 rfl rfl ?_
      refine a_iadd dX14_linksBases_17 ?_
      obtain ⟨v3, e4, hf⟩ := obd hf
      refine o_alI dX14_linksBases_18 e4 ?_
      refine a_iconst (v := 1) dX14_linksBases_19 (by decide) ?_
      refine a_bipush (v := 11) dX14_linksBases_20 (by decide) ?_
      obtain ⟨_, e7, hf⟩ := obd hf
      obtain ⟨h6, e5, hf⟩ := obd hf
      refine a_callV (as := [.int v3, .int 1, .int 11]) (np := 3) (ci := 13) (st := []) (sX14_links E (D - 1) (by omega) e5) dX14_linksBases_22 rfl (by omega) (by decide) cw_X14_406 ⟨wd_1471, ws_89⟩ rfl (ckT_s e7) rfl (Nat.le_of_ble_eq_true rfl) ?_
      refine a_iinc (q := 3) (v := (x3 + 1)) (lv1 := [(3, .int (x3 + 1)), (0, .ref x0), (1, .int x1), (2, .int x2)]) dX14_linksBases_25 rfl (by rfl) (by decide) rfl ?_
      refine a_goto (tgt := 2) dX14_linksBases_28 (by decide) ?_
      exact AW.sub [1, 2, 3, 0] rfl (ih _ _ _ _ _ _ hf hk0)
set_option maxHeartbeats 4000000 in
set_option maxRecDepth 100000 in
theorem sX14_linksBases (E : gE) (D : Nat) (hD : 1 ≤ D) {a0 : Nat} {a1 : Int32} {a2 : Int32} {h hz : hp} (hf : fX14_linksBases a0 a1 a2 h = some hz) : MC E yX14_linksBases cX14_linksBases (Option.none : Option Jvm.ClassFile.FieldType) 4 D [.ref a0, .int a1, .int a2] h none hz := by
  refine MC.of (by decide +kernel) (Nat.le_of_ble_eq_true rfl) rfl ?_
  unfold fX14_linksBases at hf
  show AW E yX14_linksBases cX14_linksBases (Option.none : Option Jvm.ClassFile.FieldType) 4 D none h hz 0 [(0, .ref a0), (1, .int a1), (2, .int a2)] [] h
  refine a_iconst (v := 0) dX14_linksBases_0 (by decide) ?_
  refine a_istore_n (lv1 := [(3, .int 0), (0, .ref a0), (1, .int a1), (2, .int a2)]) dX14_linksBases_1 rfl (by decide) rfl ?_
  obtain ⟨h2, e1, hf⟩ := obd hf
  refine AW.sub [1, 2, 3, 0] rfl (sX14_linksBases_l2 E D hD _ _ _ _ _ _ _ e1 ?_)
  obtain rfl := Option.some.inj hf
  exact a_return dX14_linksBases_31 rfl
def fX14_faults_l21 : Nat → Nat → Int32 → Int32 → Int32 → Int32 → Int32 → hp → Option hp
  | 0, _, _, _, _, _, _, _ => none
  | n + 1, x0, x1, x2, x3, x4, x5, h =>
    if x1 ≤ x5 then (
      some (h)
    ) else (
      (gfR h x0 13 33).bind fun v1 =>
      (alI h v1 x5).bind fun v3 =>
      (ckT h x0 13).bind fun _ =>
      (fX14_linksBases x0 x5 v3 h).bind fun h6 =>
      (gfR h6 x0 13 31).bind fun v8 =>
      (gfR h6 x0 13 33).bind fun v10 =>
      (alI h6 v10 x5).bind fun v12 =>
      (alI h6 v8 ((6 * x5) + v12)).bind fun v14 =>
      (gfR h6 x0 13 34).bind fun v16 =>
      (alI h6 v16 x5).bind fun v18 =>
      (ckT h6 x0 13).bind fun _ =>
      (fX14_links x0 v14 v18 10 h6).bind fun h21 =>
      fX14_faults_l21 n x0 x1 x2 x3 x4 (x5 + 1) h21
    )
def fX14_faults (a0 : Nat) (a1 : Int32) (a2 : Int32) (a3 : Int32) (a4 : Int32) (h : hp) : Option hp :=
  (gfI h a0 13 43).bind fun v1 =>
  if v1 = 0 then (
    (pfZ h a0 13 43 1).bind fun h3 =>
    (pfI h3 a0 13 47 0).bind fun h5 =>
    (fX14_faults_l21 FU a0 a1 a2 a3 a4 0 h5).bind fun h8 =>
    (ckT h8 a0 13).bind fun _ =>
    (fX14_linksBases a0 a1 a2 h8).bind fun h10 =>
    (gfR h10 a0 13 31).bind fun v12 =>
    (alI h10 v12 ((6 * a1) + a2)).bind fun v14 =>
    (ckT h10 a0 13).bind fun _ =>
    (fX14_links a0 v14 a3 a4 h10).bind fun h17 =>
    some h17
  ) else (
    some h
  )
set_option maxHeartbeats 4000000 in
set_option maxRecDepth 100000 in
theorem sX14_faults_l21 (E : gE) (D : Nat) (hD : 2 ≤ D) {rz : Option Value} {h0 hz : hp} : ∀ (n : Nat) (x0 : Nat) (x1 : Int32) (x2 : Int32) (x3 : Int32) (x4 : Int32) (x5 : Int32) (h : hp) (hq : hp), fX14_faults_l21 n x0 x1 x2 x3 x4 x5 h = some hq → (AW E yX14_faults cX14_faults (Option.none : Option Jvm.ClassFile.FieldType) 6 D rz h0 hz 77 [(0, .ref x0), (1, .int x1), (2, .int x2), (3, .int x3), (4, .int x4)] [] hq) → AW E yX14_faults cX14_faults (Option.none : Option Jvm.ClassFile.FieldType) 6 D rz h0 hz 21 [(0, .ref x0), (1, .int x1), (2, .int x2), (3, .int x3), (4, .int x4), (5, .int x5)] [] h := by
  intro n
  induction n with
  | zero =>
    intro x0 x1 x2 x3 x4 x5 h hq hf _
    rw [fX14_faults_l21] at hf
    cases hf
  | succ n ih =>
    intro x0 x1 x2 x3 x4 x5 h hq hf hk0
    rw [fX14_faults_l21] at hf
    refine a_iload (q := 5) dX14_faults_21 rfl ?_
    refine a_iload_n (q := 1) dX14_faults_23 rfl rfl ?_
    refine a_icmp_ge (tgt := 77) dX14_faults_24 (by decide) (fun c => ?_) (fun c => ?_)
    · have hf := ifp c hf
      obtain rfl := Option.some.inj hf
      exact AW.sub [0, 1, 2, 3, 4] rfl (hk0)
    · have hf := ifn c hf
      refine a_aload_n (q := 0) dX14_faults_27 rfl rfl ?_
      refine a_iload (q := 5) dX14_faults_28 rfl ?_
      refine a_aload_n (q := 0) dX14_faults_30 rfl rfl ?_
      obtain ⟨v1, e2, hf⟩ := obd hf
      refine o_gfR dX14_faults_31 lk_X14_74 rfl e2 ?_
      refine a_iload (q := 5) dX14_faults_34 rfl ?_
      obtain ⟨v3, e4, hf⟩ := obd hf
      refine o_alI dX14_faults_36 e4 ?_
      obtain ⟨_, e7, hf⟩ := obd hf
      obtain ⟨h6, e5, hf⟩ := obd hf
      refine a_callV (as := [.int x5, .int v3]) (np := 2) (ci := 13) (st := []) (sX14_linksBases E (D - 1) (by omega) e5) dX14_faults_37 rfl (by omega) (by decide) cw_X14_412 ⟨wd_1467, ws_88⟩ rfl (ckT_s e7) rfl (Nat.le_of_ble_eq_true rfl) ?_
      refine a_aload_n (q := 0) dX14_faults_40 rfl rfl ?_
      refine a_aload_n (q := 0) dX14_faults_41 rfl rfl ?_
      obtain ⟨v8, e9, hf⟩ := obd hf
      refine o_gfR dX14_faults_42 lk_X14_68 rfl e9 ?_
      refine a_bipush (v := 6) dX14_faults_45 (by decide) ?_
      refine a_iload (q := 5) dX14_faults_47 rfl ?_
      refine a_imul dX14_faults_49 ?_
      refine a_aload_n (q := 0) dX14_faults_50 rfl rfl ?_
      obtain ⟨v10, e11, hf⟩ := obd hf
      refine o_gfR dX14_faults_51 lk_X14_74 rfl e11 ?_
      refine a_iload (q := 5) dX14_faults_54 rfl ?_
      obtain ⟨v12, e13, hf⟩ := obd hf
      refine o_alI dX14_faults_56 e13 ?_
      refine a_iadd dX14_faults_57 ?_
      obtain ⟨v14, e15, hf⟩ := obd hf
      refine o_alI dX14_faults_58 e15 ?_
      refine a_aload_n (q := 0) dX14_faults_59 rfl rfl ?_
      obtain ⟨v16, e17, hf⟩ := obd hf
      refine o_gfR dX14_faults_60 lk_X14_77 rfl e17 ?_
      refine a_iload (q := 5) dX14_faults_63 rfl ?_
      obtain ⟨v18, e19, hf⟩ := obd hf
      refine o_alI dX14_faults_65 e19 ?_
      refine a_bipush (v := 10) dX14_faults_66 (by decide) ?_
      obtain ⟨_, e22, hf⟩ := obd hf
      obtain ⟨h21, e20, hf⟩ := obd hf
      refine a_callV (as := [.int v14, .int v18, .int 10]) (np := 3) (ci := 13) (st := []) (sX14_links E (D - 1) (by omega) e20) dX14_faults_68 rfl (by omega) (by decide) cw_X14_406 ⟨wd_1471, ws_89⟩ rfl (ckT_s e22) rfl (Nat.le_of_ble_eq_true rfl) ?_
      refine a_iinc (q := 5) (v := (x5 + 1)) (lv1 := [(5, .int (x5 + 1)), (0, .ref x0), (1, .int x1), (2, .int x2), (3, .int x3), (4, .int x4)]) dX14_faults_71 rfl (by rfl) (by decide) rfl ?_
      refine a_goto (tgt := 21) dX14_faults_74 (by decide) ?_
      exact AW.sub [1, 2, 3, 4, 5, 0] rfl (ih _ _ _ _ _ _ _ _ hf hk0)
set_option maxHeartbeats 4000000 in
set_option maxRecDepth 100000 in
theorem sX14_faults (E : gE) (D : Nat) (hD : 2 ≤ D) {a0 : Nat} {a1 : Int32} {a2 : Int32} {a3 : Int32} {a4 : Int32} {h hz : hp} (hf : fX14_faults a0 a1 a2 a3 a4 h = some hz) : MC E yX14_faults cX14_faults (Option.none : Option Jvm.ClassFile.FieldType) 6 D [.ref a0, .int a1, .int a2, .int a3, .int a4] h none hz := by
  refine MC.of (by decide +kernel) (Nat.le_of_ble_eq_true rfl) rfl ?_
  unfold fX14_faults at hf
  show AW E yX14_faults cX14_faults (Option.none : Option Jvm.ClassFile.FieldType) 6 D none h hz 0 [(0, .ref a0), (1, .int a1), (2, .int a2), (3, .int a3), (4, .int a4)] [] h
  refine a_aload_n (q := 0) dX14_faults_0 rfl rfl ?_
  obtain ⟨v1, e2, hf⟩ := obd hf
  refine o_gfI dX14_faults_1 lk_X14_409 rfl e2 ?_
  refine a_if_eq (tgt := 8) dX14_faults_4 (by decide) (fun c => ?_) (fun c => ?_)
  · have hf := ifp c hf
    refine a_aload_n (q := 0) dX14_faults_8 rfl rfl ?_
    refine a_iconst (v := 1) dX14_faults_9 (by decide) ?_
    obtain ⟨h3, e4, hf⟩ := obd hf
    refine o_pfZ dX14_faults_10 lk_X14_409 (⟨_, rfl, Or.inl rfl⟩) rfl e4 ?_
    refine a_aload_n (q := 0) dX14_faults_13 rfl rfl ?_
    refine a_iconst (v := 0) dX14_faults_14 (by decide) ?_
    obtain ⟨h5, e6, hf⟩ := obd hf
    refine o_pfI dX14_faults_15 lk_X14_403 (⟨_, rfl, Or.inl rfl⟩) rfl e6 ?_
    refine a_iconst (v := 0) dX14_faults_18 (by decide) ?_
    refine a_istore (lv1 := [(5, .int 0), (0, .ref a0), (1, .int a1), (2, .int a2), (3, .int a3), (4, .int a4)]) dX14_faults_19 (by decide) rfl ?_
    obtain ⟨h8, e7, hf⟩ := obd hf
    refine AW.sub [1, 2, 3, 4, 5, 0] rfl (sX14_faults_l21 E D hD _ _ _ _ _ _ _ _ _ e7 ?_)
    refine a_aload_n (q := 0) dX14_faults_77 rfl rfl ?_
    refine a_iload_n (q := 1) dX14_faults_78 rfl rfl ?_
    refine a_iload_n (q := 2) dX14_faults_79 rfl rfl ?_
    obtain ⟨_, e11, hf⟩ := obd hf
    obtain ⟨h10, e9, hf⟩ := obd hf
    refine a_callV (as := [.int a1, .int a2]) (np := 2) (ci := 13) (st := []) (sX14_linksBases E (D - 1) (by omega) e9) dX14_faults_80 rfl (by omega) (by decide) cw_X14_412 ⟨wd_1467, ws_88⟩ rfl (ckT_s e11) rfl (Nat.le_of_ble_eq_true rfl) ?_
    refine a_aload_n (q := 0) dX14_faults_83 rfl rfl ?_
    refine a_aload_n (q := 0) dX14_faults_84 rfl rfl ?_
    obtain ⟨v12, e13, hf⟩ := obd hf
    refine o_gfR dX14_faults_85 lk_X14_68 rfl e13 ?_
    refine a_bipush (v := 6) dX14_faults_88 (by decide) ?_
    refine a_iload_n (q := 1) dX14_faults_90 rfl rfl ?_
    refine a_imul dX14_faults_91 ?_
    refine a_iload_n (q := 2) dX14_faults_92 rfl rfl ?_
    refine a_iadd dX14_faults_93 ?_
    obtain ⟨v14, e15, hf⟩ := obd hf
    refine o_alI dX14_faults_94 e15 ?_
    refine a_iload_n (q := 3) dX14_faults_95 rfl rfl ?_
    refine a_iload (q := 4) dX14_faults_96 rfl ?_
    obtain ⟨_, e18, hf⟩ := obd hf
    obtain ⟨h17, e16, hf⟩ := obd hf
    refine a_callV (as := [.int v14, .int a3, .int a4]) (np := 3) (ci := 13) (st := []) (sX14_links E (D - 1) (by omega) e16) dX14_faults_98 rfl (by omega) (by decide) cw_X14_406 ⟨wd_1471, ws_89⟩ rfl (ckT_s e18) rfl (Nat.le_of_ble_eq_true rfl) ?_
    obtain rfl := Option.some.inj hf
    exact a_return dX14_faults_101 rfl
  · have hf := ifn c hf
    obtain rfl := Option.some.inj hf
    exact a_return dX14_faults_7 rfl
def fX14_isChained_l9 : Nat → Nat → Int32 → Int32 → hp → Option (Nat × Int32 × hp)
  | 0, _, _, _, _ => none
  | n + 1, x0, x1, x3, h =>
    if x3 < 0 then (
      some (2, 0, h)
    ) else (
      (gfR h x0 13 32).bind fun v1 =>
      (alI h v1 x1).bind fun v3 =>
      (gfR h x0 13 31).bind fun v5 =>
      (asI h v5 ((6 * x1) + v3) x3).bind fun h7 =>
      (gfR h7 x0 13 9).bind fun v9 =>
      (alI h7 v9 x3).bind fun v11 =>
      if 0 ≤ v11 then (
        (gfR h7 x0 13 32).bind fun v13 =>
        (alI h7 v13 x1).bind fun v15 =>
        (asI h7 v13 x1 (v15 + 1)).bind fun h17 =>
        (ckT h17 x0 13).bind fun _ =>
        bd2 (fX14_extended x0 x3 h17) fun v20 h21 =>
        if v20 < 0 then (
          fX14_isChained_l9 n x0 x1 v20 h21
        ) else (
          (gfR h21 x0 13 32).bind fun v23 =>
          (alI h21 v23 x1).bind fun v25 =>
          if v25 = 6 then (
            some (1, v3, h21)
          ) else (
            fX14_isChained_l9 n x0 x1 v20 h21
          )
        )
      ) else (
        some (0, v3, h7)
      )
    )
def fX14_isChained (a0 : Nat) (a1 : Int32) (a2 : Int32) (h : hp) : Option (Int32 × hp) :=
  (gfR h a0 13 32).bind fun v1 =>
  (asI h v1 a1 0).bind fun h3 =>
  bd3 (fX14_isChained_l9 FU a0 a1 a2 h3) fun t8 v7 h6 =>
  if t8 = 0 then (
    (ckT h6 a0 13).bind fun _ =>
    (fX14_faults a0 a1 v7 0 1 h6).bind fun h10 =>
    some (0, h10)
  ) else
  if t8 = 1 then (
    (ckT h6 a0 13).bind fun _ =>
    (fX14_faults a0 a1 v7 1 7 h6).bind fun h13 =>
    some (0, h13)
  ) else
  if t8 = 2 then (
    some (1, h6)
  ) else none
set_option maxHeartbeats 4000000 in
set_option maxRecDepth 100000 in
theorem sX14_isChained_l9 (E : gE) (D : Nat) (hD : 3 ≤ D) {rz : Option Value} {h0 hz : hp} : ∀ (n : Nat) (x0 : Nat) (x1 : Int32) (x3 : Int32) (h : hp) (tq : Nat) (m4 : Int32) (hq : hp), fX14_isChained_l9 n x0 x1 x3 h = some (tq, m4, hq) → (tq = 0 → AW E yX14_isChained cX14_isChained (Option.some Jvm.ClassFile.FieldType.boolean) 5 D rz h0 hz 43 [(0, .ref x0), (1, .int x1), (4, .int m4)] [] hq) → (tq = 1 → AW E yX14_isChained cX14_isChained (Option.some Jvm.ClassFile.FieldType.boolean) 5 D rz h0 hz 85 [(0, .ref x0), (1, .int x1), (4, .int m4)] [] hq) → (tq = 2 → AW E yX14_isChained cX14_isChained (Option.some Jvm.ClassFile.FieldType.boolean) 5 D rz h0 hz 100 [] [] hq) → AW E yX14_isChained cX14_isChained (Option.some Jvm.ClassFile.FieldType.boolean) 5 D rz h0 hz 9 [(0, .ref x0), (1, .int x1), (3, .int x3)] [] h := by
  intro n
  induction n with
  | zero =>
    intro x0 x1 x3 h tq m4 hq hf _ _ _
    rw [fX14_isChained_l9] at hf
    cases hf
  | succ n ih =>
    intro x0 x1 x3 h tq m4 hq hf hk0 hk1 hk2
    rw [fX14_isChained_l9] at hf
    refine a_iload_n (q := 2) dX14_isChained_9 rfl rfl ?_
    refine a_if_lt (tgt := 100) dX14_isChained_10 (by decide) (fun c => ?_) (fun c => ?_)
    · have hf := ifp c hf
      obtain ⟨rfl, rfl, rfl⟩ := oc3 hf
      exact AW.sub [] rfl (hk2 rfl)
    · have hf := ifn c hf
      refine a_aload_n (q := 0) dX14_isChained_13 rfl rfl ?_
      obtain ⟨v1, e2, hf⟩ := obd hf
      refine o_gfR dX14_isChained_14 lk_X14_71 rfl e2 ?_
      refine a_iload_n (q := 1) dX14_isChained_17 rfl rfl ?_
      obtain ⟨v3, e4, hf⟩ := obd hf
      refine o_alI dX14_isChained_18 e4 ?_
      refine a_istore (lv1 := [(4, .int v3), (0, .ref x0), (1, .int x1), (3, .int x3)]) dX14_isChained_19 (by decide) rfl ?_
      refine a_aload_n (q := 1) dX14_isChained_21 rfl rfl ?_
      obtain ⟨v5, e6, hf⟩ := obd hf
      refine o_gfR dX14_isChained_22 lk_X14_68 rfl e6 ?_
      refine a_bipush (v := 6) dX14_isChained_25 (by decide) ?_
      refine a_iload_n (q := 2) dX14_isChained_27 rfl rfl ?_
      refine a_imul dX14_isChained_28 ?_
      refine a_iload (q := 0) dX14_isChained_29 rfl ?_
      refine a_iadd dX14_isChained_31 ?_
      refine a_iload_n (q := 3) dX14_isChained_32 rfl rfl ?_
      obtain ⟨h7, e8, hf⟩ := obd hf
      refine o_asI dX14_isChained_33 e8 ?_
      refine a_aload_n (q := 1) dX14_isChained_34 rfl rfl ?_
      obtain ⟨v9, e10, hf⟩ := obd hf
      refine o_gfR dX14_isChained_35 lk_X14_37 rfl e10 ?_
      refine a_iload_n (q := 3) dX14_isChained_38 rfl rfl ?_
      obtain ⟨v11, e12, hf⟩ := obd hf
      refine o_alI dX14_isChained_39 e12 ?_
      refine a_if_ge (tgt := 54) dX14_isChained_40 (by decide) (fun c => ?_) (fun c => ?_)
      · have hf := ifp c hf
        refine a_aload_n (q := 1) dX14_isChained_54 rfl rfl ?_
        obtain ⟨v13, e14, hf⟩ := obd hf
        refine o_gfR dX14_isChained_55 lk_X14_71 rfl e14 ?_
        refine a_iload_n (q := 2) dX14_isChained_58 rfl rfl ?_
        refine a_dup2 dX14_isChained_59 rfl rfl ?_
        obtain ⟨v15, e16, hf⟩ := obd hf
        refine o_alI dX14_isChained_60 e16 ?_
        refine a_iconst (v := 1) dX14_isChained_61 (by decide) ?_
        refine a_iadd dX14_isChained_62 ?_
        obtain ⟨h17, e18, hf⟩ := obd hf
        refine o_asI dX14_isChained_63 e18 ?_
        refine a_aload_n (q := 1) dX14_isChained_64 rfl rfl ?_
        refine a_iload_n (q := 3) dX14_isChained_65 rfl rfl ?_
        obtain ⟨_, e22, hf⟩ := obd hf
        obtain ⟨v20, h21, e19, hf⟩ := ob2 hf
        refine a_callV (as := [.int x3]) (np := 1) (ci := 13) (st := []) (sX14_extended E (D - 1) (by omega) e19) dX14_isChained_66 rfl (by omega) (by decide) cw_X14_332 ⟨wd_1431, ws_81⟩ rfl (ckT_s e22) rfl (Nat.le_of_ble_eq_true rfl) ?_
        refine a_istore_n (lv1 := [(3, .int v20), (4, .int v3), (0, .ref x0), (1, .int x1)]) dX14_isChained_69 rfl (by decide) rfl ?_
        refine a_iload_n (q := 0) dX14_isChained_70 rfl rfl ?_
        refine a_if_lt (tgt := 97) dX14_isChained_71 (by decide) (fun c => ?_) (fun c => ?_)
        · have hf := ifp c hf
          refine a_goto (tgt := 9) dX14_isChained_97 (by decide) ?_
          exact AW.sub [2, 3, 0] rfl (ih _ _ _ _ _ _ _ hf hk0 hk1 hk2)
        · have hf := ifn c hf
          refine a_aload_n (q := 2) dX14_isChained_74 rfl rfl ?_
          obtain ⟨v23, e24, hf⟩ := obd hf
          refine o_gfR dX14_isChained_75 lk_X14_71 rfl e24 ?_
          refine a_iload_n (q := 3) dX14_isChained_78 rfl rfl ?_
          obtain ⟨v25, e26, hf⟩ := obd hf
          refine o_alI dX14_isChained_79 e26 ?_
          refine a_bipush (v := 6) dX14_isChained_80 (by decide) ?_
          refine a_icmp_ne (tgt := 97) dX14_isChained_82 (by decide) (fun c => ?_) (fun c => ?_)
          · have hf := ifn c hf
            refine a_goto (tgt := 9) dX14_isChained_97 (by decide) ?_
            exact AW.sub [2, 3, 0] rfl (ih _ _ _ _ _ _ _ hf hk0 hk1 hk2)
          · have hf := ifp c hf
            obtain ⟨rfl, rfl, rfl⟩ := oc3 hf
            exact AW.sub [2, 3, 1] rfl (hk1 rfl)
      · have hf := ifn c hf
        obtain ⟨rfl, rfl, rfl⟩ := oc3 hf
        exact AW.sub [1, 2, 0] rfl (hk0 rfl)
set_option maxHeartbeats 4000000 in
set_option maxRecDepth 100000 in
theorem sX14_isChained (E : gE) (D : Nat) (hD : 3 ≤ D) {a0 : Nat} {a1 : Int32} {a2 : Int32} {h hz : hp} {v0 : Int32} (hf : fX14_isChained a0 a1 a2 h = some (v0, hz)) : MC E yX14_isChained cX14_isChained (Option.some Jvm.ClassFile.FieldType.boolean) 5 D [.ref a0, .int a1, .int a2] h (some (.int v0)) hz := by
  refine MC.of (by decide +kernel) (Nat.le_of_ble_eq_true rfl) rfl ?_
  unfold fX14_isChained at hf
  show AW E yX14_isChained cX14_isChained (Option.some Jvm.ClassFile.FieldType.boolean) 5 D (some (.int v0)) h hz 0 [(0, .ref a0), (1, .int a1), (2, .int a2)] [] h
  refine a_iload_n (q := 2) dX14_isChained_0 rfl rfl ?_
  refine a_istore_n (lv1 := [(3, .int a2), (0, .ref a0), (1, .int a1), (2, .int a2)]) dX14_isChained_1 rfl (by decide) rfl ?_
  refine a_aload_n (q := 1) dX14_isChained_2 rfl rfl ?_
  obtain ⟨v1, e2, hf⟩ := obd hf
  refine o_gfR dX14_isChained_3 lk_X14_71 rfl e2 ?_
  refine a_iload_n (q := 2) dX14_isChained_6 rfl rfl ?_
  refine a_iconst (v := 0) dX14_isChained_7 (by decide) ?_
  obtain ⟨h3, e4, hf⟩ := obd hf
  refine o_asI dX14_isChained_8 e4 ?_
  obtain ⟨t8, v7, h6, e5, hf⟩ := ob3 hf
  refine AW.sub [1, 2, 0] rfl (sX14_isChained_l9 E D hD _ _ _ _ _ _ _ _ e5 (fun c => ?_) (fun c => ?_) (fun c => ?_))
  · have hf := ifp c hf
    refine a_aload_n (q := 0) dX14_isChained_43 rfl rfl ?_
    refine a_iload_n (q := 1) dX14_isChained_44 rfl rfl ?_
    refine a_iload (q := 2) dX14_isChained_45 rfl ?_
    refine a_iconst (v := 0) dX14_isChained_47 (by decide) ?_
    refine a_iconst (v := 1) dX14_isChained_48 (by decide) ?_
    obtain ⟨_, e11, hf⟩ := obd hf
    obtain ⟨h10, e9, hf⟩ := obd hf
    refine a_callV (as := [.int a1, .int v7, .int 0, .int 1]) (np := 4) (ci := 13) (st := []) (sX14_faults E (D - 1) (by omega) e9) dX14_isChained_49 rfl (by omega) (by decide) cw_X14_415 ⟨wd_1463, ws_87⟩ rfl (ckT_s e11) rfl (Nat.le_of_ble_eq_true rfl) ?_
    refine a_iconst (v := 0) dX14_isChained_52 (by decide) ?_
    obtain ⟨rfl, rfl⟩ := oc2 hf
    exact a_zreturn dX14_isChained_53 rfl (by decide)
  · have hf := ifn (by rw [c]; decide) hf
    have hf := ifp c hf
    refine a_aload_n (q := 0) dX14_isChained_85 rfl rfl ?_
    refine a_iload_n (q := 1) dX14_isChained_86 rfl rfl ?_
    refine a_iload (q := 2) dX14_isChained_87 rfl ?_
    refine a_iconst (v := 1) dX14_isChained_89 (by decide) ?_
    refine a_bipush (v := 7) dX14_isChained_90 (by decide) ?_
    obtain ⟨_, e14, hf⟩ := obd hf
    obtain ⟨h13, e12, hf⟩ := obd hf
    refine a_callV (as := [.int a1, .int v7, .int 1, .int 7]) (np := 4) (ci := 13) (st := []) (sX14_faults E (D - 1) (by omega) e12) dX14_isChained_92 rfl (by omega) (by decide) cw_X14_415 ⟨wd_1463, ws_87⟩ rfl (ckT_s e14) rfl (Nat.le_of_ble_eq_true rfl) ?_
    refine a_iconst (v := 0) dX14_isChained_95 (by decide) ?_
    obtain ⟨rfl, rfl⟩ := oc2 hf
    exact a_zreturn dX14_isChained_96 rfl (by decide)
  · have hf := ifn (by rw [c]; decide) hf
    have hf := ifn (by rw [c]; decide) hf
    have hf := ifp c hf
    refine a_iconst (v := 1) dX14_isChained_100 (by decide) ?_
    obtain ⟨rfl, rfl⟩ := oc2 hf
    exact a_zreturn dX14_isChained_101 rfl (by decide)
def fX14_blockFrom_l3 : Nat → Nat → Int32 → Int32 → Int32 → hp → Option (Nat × Int32 × hp)
  | 0, _, _, _, _, _ => none
  | n + 1, x0, x1, x3, x4, h =>
    (gfR h x0 13 32).bind fun v1 =>
    (alI h v1 x1).bind fun v3 =>
    if v3 ≤ x4 then (
      some (1, x4, h)
    ) else (
      (gfR h x0 13 31).bind fun v5 =>
      (alI h v5 ((6 * x1) + x4)).bind fun v7 =>
      (ckT h x0 13).bind fun _ =>
      bd2 (fX14_signsBehind x0 v7 61 65 h) fun v10 h11 =>
      if ((v10 >>> (x3 &&& 31)) &&& 1) = 1 then (
        some (0, x4, h11)
      ) else (
        fX14_blockFrom_l3 n x0 x1 x3 (x4 + 1) h11
      )
    )
def fX14_blockFrom (a0 : Nat) (a1 : Int32) (a2 : Int32) (a3 : Int32) (h : hp) : Option (Int32 × hp) :=
  bd3 (fX14_blockFrom_l3 FU a0 a1 a3 a2 h) fun t4 v3 h2 =>
  if t4 = 0 then (
    some (v3, h2)
  ) else
  if t4 = 1 then (
    some ((-1), h2)
  ) else none
set_option maxHeartbeats 4000000 in
set_option maxRecDepth 100000 in
theorem sX14_blockFrom_l3 (E : gE) (D : Nat) (hD : 1 ≤ D) {rz : Option Value} {h0 hz : hp} : ∀ (n : Nat) (x0 : Nat) (x1 : Int32) (x3 : Int32) (x4 : Int32) (h : hp) (tq : Nat) (m4 : Int32) (hq : hp), fX14_blockFrom_l3 n x0 x1 x3 x4 h = some (tq, m4, hq) → (tq = 0 → AW E yX14_blockFrom cX14_blockFrom (Option.some Jvm.ClassFile.FieldType.int) 5 D rz h0 hz 42 [(4, .int m4)] [] hq) → (tq = 1 → AW E yX14_blockFrom cX14_blockFrom (Option.some Jvm.ClassFile.FieldType.int) 5 D rz h0 hz 51 [] [] hq) → AW E yX14_blockFrom cX14_blockFrom (Option.some Jvm.ClassFile.FieldType.int) 5 D rz h0 hz 3 [(0, .ref x0), (1, .int x1), (3, .int x3), (4, .int x4)] [] h := by
  intro n
  induction n with
  | zero =>
    intro x0 x1 x3 x4 h tq m4 hq hf _ _
    rw [fX14_blockFrom_l3] at hf
    cases hf
  | succ n ih =>
    intro x0 x1 x3 x4 h tq m4 hq hf hk0 hk1
    rw [fX14_blockFrom_l3] at hf
    refine a_iload (q := 3) dX14_blockFrom_3 rfl ?_
    refine a_aload_n (q := 0) dX14_blockFrom_5 rfl rfl ?_
    obtain ⟨v1, e2, hf⟩ := obd hf
    refine o_gfR dX14_blockFrom_6 lk_X14_71 rfl e2 ?_
    refine a_iload_n (q := 1) dX14_blockFrom_9 rfl rfl ?_
    obtain ⟨v3, e4, hf⟩ := obd hf
    refine o_alI dX14_blockFrom_10 e4 ?_
    refine a_icmp_ge (tgt := 51) dX14_blockFrom_11 (by decide) (fun c => ?_) (fun c => ?_)
    · have hf := ifp c hf
      obtain ⟨rfl, rfl, rfl⟩ := oc3 hf
      exact AW.sub [] rfl (hk1 rfl)
    · have hf := ifn c hf
      refine a_aload_n (q := 0) dX14_blockFrom_14 rfl rfl ?_
      refine a_aload_n (q := 0) dX14_blockFrom_15 rfl rfl ?_
      obtain ⟨v5, e6, hf⟩ := obd hf
      refine o_gfR dX14_blockFrom_16 lk_X14_68 rfl e6 ?_
      refine a_bipush (v := 6) dX14_blockFrom_19 (by decide) ?_
      refine a_iload_n (q := 1) dX14_blockFrom_21 rfl rfl ?_
      refine a_imul dX14_blockFrom_22 ?_
      refine a_iload (q := 3) dX14_blockFrom_23 rfl ?_
      refine a_iadd dX14_blockFrom_25 ?_
      obtain ⟨v7, e8, hf⟩ := obd hf
      refine o_alI dX14_blockFrom_26 e8 ?_
      refine a_bipush (v := 61) dX14_blockFrom_27 (by decide) ?_
      refine a_bipush (v := 65) dX14_blockFrom_29 (by decide) ?_
      obtain ⟨_, e12, hf⟩ := obd hf
      obtain ⟨v10, h11, e9, hf⟩ := ob2 hf
      refine a_callV (as := [.int v7, .int 61, .int 65]) (np := 3) (ci := 13) (st := []) (sX14_signsBehind E (D - 1) (by omega) e9) dX14_blockFrom_31 rfl (by omega) (by decide) cw_X14_335 ⟨wd_1435, ws_82⟩ rfl (ckT_s e12) rfl (Nat.le_of_ble_eq_true rfl) ?_
      refine a_iload_n (q := 2) dX14_blockFrom_34 rfl rfl ?_
      refine a_ishr dX14_blockFrom_35 ?_
      refine a_iconst (v := 1) dX14_blockFrom_36 (by decide) ?_
      refine a_iand dX14_blockFrom_37 ?_
      refine a_iconst (v := 1) dX14_blockFrom_38 (by decide) ?_
      refine a_icmp_ne (tgt := 45) dX14_blockFrom_39 (by decide) (fun c => ?_) (fun c => ?_)
      · have hf := ifn c hf
        refine a_iinc (q := 3) (v := (x4 + 1)) (lv1 := [(4, .int (x4 + 1)), (0, .ref x0), (1, .int x1), (3, .int x3)]) dX14_blockFrom_45 rfl (by rfl) (by decide) rfl ?_
        refine a_goto (tgt := 3) dX14_blockFrom_48 (by decide) ?_
        exact AW.sub [1, 2, 3, 0] rfl (ih _ _ _ _ _ _ _ _ hf hk0 hk1)
      · have hf := ifp c hf
        obtain ⟨rfl, rfl, rfl⟩ := oc3 hf
        exact AW.sub [3] rfl (hk0 rfl)
set_option maxHeartbeats 4000000 in
set_option maxRecDepth 100000 in
theorem sX14_blockFrom (E : gE) (D : Nat) (hD : 1 ≤ D) {a0 : Nat} {a1 : Int32} {a2 : Int32} {a3 : Int32} {h hz : hp} {v0 : Int32} (hf : fX14_blockFrom a0 a1 a2 a3 h = some (v0, hz)) : MC E yX14_blockFrom cX14_blockFrom (Option.some Jvm.ClassFile.FieldType.int) 5 D [.ref a0, .int a1, .int a2, .int a3] h (some (.int v0)) hz := by
  refine MC.of (by decide +kernel) (Nat.le_of_ble_eq_true rfl) rfl ?_
  unfold fX14_blockFrom at hf
  show AW E yX14_blockFrom cX14_blockFrom (Option.some Jvm.ClassFile.FieldType.int) 5 D (some (.int v0)) h hz 0 [(0, .ref a0), (1, .int a1), (2, .int a2), (3, .int a3)] [] h
  refine a_iload_n (q := 2) dX14_blockFrom_0 rfl rfl ?_
  refine a_istore (lv1 := [(4, .int a2), (0, .ref a0), (1, .int a1), (2, .int a2), (3, .int a3)]) dX14_blockFrom_1 (by decide) rfl ?_
  obtain ⟨t4, v3, h2, e1, hf⟩ := ob3 hf
  refine AW.sub [1, 2, 4, 0] rfl (sX14_blockFrom_l3 E D hD _ _ _ _ _ _ _ _ _ e1 (fun c => ?_) (fun c => ?_))
  · have hf := ifp c hf
    refine a_iload (q := 0) dX14_blockFrom_42 rfl ?_
    obtain ⟨rfl, rfl⟩ := oc2 hf
    exact a_ireturn dX14_blockFrom_44 rfl
  · have hf := ifn (by rw [c]; decide) hf
    have hf := ifp c hf
    refine a_iconst (v := (-1)) dX14_blockFrom_51 (by decide) ?_
    obtain ⟨rfl, rfl⟩ := oc2 hf
    exact a_ireturn dX14_blockFrom_52 rfl
def fX14_blockAt_l2 : Nat → Nat → Int32 → Int32 → Int32 → hp → Option (Int32 × hp)
  | 0, _, _, _, _, _ => none
  | n + 1, x0, x1, x2, x3, h =>
    (ckT h x0 13).bind fun _ =>
    bd2 (fX14_byteAt x0 x1 x3 h) fun v2 h3 =>
    if v2 = 123 then (
      (ckT h3 x0 13).bind fun _ =>
      bd2 (fX14_byteAt x0 x1 (x3 + 1) h3) fun v6 h7 =>
      if v6 = 61 then (
        (ckT h7 x0 13).bind fun _ =>
        bd2 (fX14_byteAt x0 x1 (x3 + 2) h7) fun v10 h11 =>
        if v10 = (65 + x2) then (
          some (x3, h11)
        ) else (
          fX14_blockAt_l2 n x0 x1 x2 (x3 + 1) h11
        )
      ) else (
        fX14_blockAt_l2 n x0 x1 x2 (x3 + 1) h7
      )
    ) else (
      fX14_blockAt_l2 n x0 x1 x2 (x3 + 1) h3
    )
def fX14_blockAt (a0 : Nat) (a1 : Int32) (a2 : Int32) (h : hp) : Option (Int32 × hp) :=
  bd2 (fX14_blockAt_l2 FU a0 a1 a2 0 h) fun v3 h2 =>
  some ((v3 + 4), h2)
set_option maxHeartbeats 4000000 in
set_option maxRecDepth 100000 in
theorem sX14_blockAt_l2 (E : gE) (D : Nat) (hD : 1 ≤ D) {rz : Option Value} {h0 hz : hp} : ∀ (n : Nat) (x0 : Nat) (x1 : Int32) (x2 : Int32) (x3 : Int32) (h : hp) (m3 : Int32) (hq : hp), fX14_blockAt_l2 n x0 x1 x2 x3 h = some (m3, hq) → (AW E yX14_blockAt cX14_blockAt (Option.some Jvm.ClassFile.FieldType.int) 4 D rz h0 hz 47 [(3, .int m3)] [] hq) → AW E yX14_blockAt cX14_blockAt (Option.some Jvm.ClassFile.FieldType.int) 4 D rz h0 hz 2 [(0, .ref x0), (1, .int x1), (2, .int x2), (3, .int x3)] [] h := by
  intro n
  induction n with
  | zero =>
    intro x0 x1 x2 x3 h m3 hq hf _
    rw [fX14_blockAt_l2] at hf
    cases hf
  | succ n ih =>
    intro x0 x1 x2 x3 h m3 hq hf hk0
    rw [fX14_blockAt_l2] at hf
    refine a_aload_n (q := 0) dX14_blockAt_2 rfl rfl ?_
    refine a_iload_n (q := 1) dX14_blockAt_3 rfl rfl ?_
    refine a_iload_n (q := 3) dX14_blockAt_4 rfl rfl ?_
    obtain ⟨_, e4, hf⟩ := obd hf
    obtain ⟨v2, h3, e1, hf⟩ := ob2 hf
    refine a_callV (as := [.int x1, .int x3]) (np := 2) (ci := 13) (st := []) (sX14_byteAt E (D - 1) (by omega) e1) dX14_blockAt_5 rfl (by omega) (by decide) cw_X14_344 ⟨wd_1487, ws_93⟩ rfl (ckT_s e4) rfl (Nat.le_of_ble_eq_true rfl) ?_
    refine a_bipush (v := 123) dX14_blockAt_8 (by decide) ?_
    refine a_icmp_ne (tgt := 41) dX14_blockAt_10 (by decide) (fun c => ?_) (fun c => ?_)
    · have hf := ifn c hf
      refine a_iinc (q := 3) (v := (x3 + 1)) (lv1 := [(3, .int (x3 + 1)), (0, .ref x0), (1, .int x1), (2, .int x2)]) dX14_blockAt_41 rfl (by rfl) (by decide) rfl ?_
      refine a_goto (tgt := 2) dX14_blockAt_44 (by decide) ?_
      exact AW.sub [1, 2, 3, 0] rfl (ih _ _ _ _ _ _ _ hf hk0)
    · have hf := ifp c hf
      refine a_aload_n (q := 0) dX14_blockAt_13 rfl rfl ?_
      refine a_iload_n (q := 1) dX14_blockAt_14 rfl rfl ?_
      refine a_iload_n (q := 3) dX14_blockAt_15 rfl rfl ?_
      refine a_iconst (v := 1) dX14_blockAt_16 (by decide) ?_
      refine a_iadd dX14_blockAt_17 ?_
      obtain ⟨_, e8, hf⟩ := obd hf
      obtain ⟨v6, h7, e5, hf⟩ := ob2 hf
      refine a_callV (as := [.int x1, .int (x3 + 1)]) (np := 2) (ci := 13) (st := []) (sX14_byteAt E (D - 1) (by omega) e5) dX14_blockAt_18 rfl (by omega) (by decide) cw_X14_344 ⟨wd_1487, ws_93⟩ rfl (ckT_s e8) rfl (Nat.le_of_ble_eq_true rfl) ?_
      refine a_bipush (v := 61) dX14_blockAt_21 (by decide) ?_
      refine a_icmp_ne (tgt := 41) dX14_blockAt_23 (by decide) (fun c => ?_) (fun c => ?_)
      · have hf := ifn c hf
        refine a_iinc (q := 3) (v := (x3 + 1)) (lv1 := [(3, .int (x3 + 1)), (0, .ref x0), (1, .int x1), (2, .int x2)]) dX14_blockAt_41 rfl (by rfl) (by decide) rfl ?_
        refine a_goto (tgt := 2) dX14_blockAt_44 (by decide) ?_
        exact AW.sub [1, 2, 3, 0] rfl (ih _ _ _ _ _ _ _ hf hk0)
      · have hf := ifp c hf
        refine a_aload_n (q := 0) dX14_blockAt_26 rfl rfl ?_
        refine a_iload_n (q := 1) dX14_blockAt_27 rfl rfl ?_
        refine a_iload_n (q := 3) dX14_blockAt_28 rfl rfl ?_
        refine a_iconst (v := 2) dX14_blockAt_29 (by decide) ?_
        refine a_iadd dX14_blockAt_30 ?_
        obtain ⟨_, e12, hf⟩ := obd hf
        obtain ⟨v10, h11, e9, hf⟩ := ob2 hf
        refine a_callV (as := [.int x1, .int (x3 + 2)]) (np := 2) (ci := 13) (st := []) (sX14_byteAt E (D - 1) (by omega) e9) dX14_blockAt_31 rfl (by omega) (by decide) cw_X14_344 ⟨wd_1487, ws_93⟩ rfl (ckT_s e12) rfl (Nat.le_of_ble_eq_true rfl) ?_
        refine a_bipush (v := 65) dX14_blockAt_34 (by decide) ?_
        refine a_iload_n (q := 2) dX14_blockAt_36 rfl rfl ?_
        refine a_iadd dX14_blockAt_37 ?_
        refine a_icmp_eq (tgt := 47) dX14_blockAt_38 (by decide) (fun c => ?_) (fun c => ?_)
        · have hf := ifp c hf
          obtain ⟨rfl, rfl⟩ := oc2 hf
          exact AW.sub [3] rfl (hk0)
        · have hf := ifn c hf
          refine a_iinc (q := 3) (v := (x3 + 1)) (lv1 := [(3, .int (x3 + 1)), (0, .ref x0), (1, .int x1), (2, .int x2)]) dX14_blockAt_41 rfl (by rfl) (by decide) rfl ?_
          refine a_goto (tgt := 2) dX14_blockAt_44 (by decide) ?_
          exact AW.sub [1, 2, 3, 0] rfl (ih _ _ _ _ _ _ _ hf hk0)
set_option maxHeartbeats 4000000 in
set_option maxRecDepth 100000 in
theorem sX14_blockAt (E : gE) (D : Nat) (hD : 1 ≤ D) {a0 : Nat} {a1 : Int32} {a2 : Int32} {h hz : hp} {v0 : Int32} (hf : fX14_blockAt a0 a1 a2 h = some (v0, hz)) : MC E yX14_blockAt cX14_blockAt (Option.some Jvm.ClassFile.FieldType.int) 4 D [.ref a0, .int a1, .int a2] h (some (.int v0)) hz := by
  refine MC.of (by decide +kernel) (Nat.le_of_ble_eq_true rfl) rfl ?_
  unfold fX14_blockAt at hf
  show AW E yX14_blockAt cX14_blockAt (Option.some Jvm.ClassFile.FieldType.int) 4 D (some (.int v0)) h hz 0 [(0, .ref a0), (1, .int a1), (2, .int a2)] [] h
  refine a_iconst (v := 0) dX14_blockAt_0 (by decide) ?_
  refine a_istore_n (lv1 := [(3, .int 0), (0, .ref a0), (1, .int a1), (2, .int a2)]) dX14_blockAt_1 rfl (by decide) rfl ?_
  obtain ⟨v3, h2, e1, hf⟩ := ob2 hf
  refine AW.sub [1, 2, 3, 0] rfl (sX14_blockAt_l2 E D hD _ _ _ _ _ _ _ _ e1 ?_)
  refine a_iload_n (q := 0) dX14_blockAt_47 rfl rfl ?_
  refine a_iconst (v := 4) dX14_blockAt_48 (by decide) ?_
  refine a_iadd dX14_blockAt_49 ?_
  obtain ⟨rfl, rfl⟩ := oc2 hf
  exact a_ireturn dX14_blockAt_50 rfl
def fX14_endOf_l5 : Nat → Nat → Int32 → Int32 → Int32 → hp → Option (Int32 × hp)
  | 0, _, _, _, _, _ => none
  | n + 1, x0, x1, x3, x4, h =>
    (ckT h x0 13).bind fun _ =>
    bd2 (fX14_byteAt x0 x1 x3 h) fun v2 h3 =>
    if v2 = 123 then (
      (ckT h3 x0 13).bind fun _ =>
      bd2 (fX14_byteAt x0 x1 (x3 + 1) h3) fun v6 h7 =>
      jn (fun (h47j : hp) => (
        jn (fun (s86_0 : Int32) (h86j : hp) => (
          fX14_endOf_l5 n x0 x1 (x3 + 1) (x4 + s86_0) h86j
          : Option (Int32 × hp))) fun k86 =>
        jn (fun (h70j : hp) => (
          k86 1 h70j
          : Option (Int32 × hp))) fun k70 =>
        if v6 = 63 then (
          k70 h47j
        ) else (
          if v6 = 42 then (
            k70 h47j
          ) else (
            if v6 = 61 then (
              k70 h47j
            ) else (
              if v6 = 47 then (
                k86 (-1) h47j
              ) else (
                k86 0 h47j
              )
            )
          )
        )
        : Option (Int32 × hp))) fun k47 =>
      if x4 = 0 then (
        if v6 = 47 then (
          some (x3, h7)
        ) else (
          if v6 = 58 then (
            some (x3, h7)
          ) else (
            k47 h7
          )
        )
      ) else (
        k47 h7
      )
    ) else (
      fX14_endOf_l5 n x0 x1 (x3 + 1) x4 h3
    )
def fX14_endOf (a0 : Nat) (a1 : Int32) (a2 : Int32) (h : hp) : Option (Int32 × hp) :=
  bd2 (fX14_endOf_l5 FU a0 a1 a2 0 h) fun v3 h2 =>
  some (v3, h2)
set_option maxHeartbeats 4000000 in
set_option maxRecDepth 100000 in
theorem sX14_endOf_l5 (E : gE) (D : Nat) (hD : 1 ≤ D) {rz : Option Value} {h0 hz : hp} : ∀ (n : Nat) (x0 : Nat) (x1 : Int32) (x3 : Int32) (x4 : Int32) (h : hp) (m3 : Int32) (hq : hp), fX14_endOf_l5 n x0 x1 x3 x4 h = some (m3, hq) → (AW E yX14_endOf cX14_endOf (Option.some Jvm.ClassFile.FieldType.int) 6 D rz h0 hz 45 [(3, .int m3)] [] hq) → AW E yX14_endOf cX14_endOf (Option.some Jvm.ClassFile.FieldType.int) 6 D rz h0 hz 5 [(0, .ref x0), (1, .int x1), (3, .int x3), (4, .int x4)] [] h := by
  intro n
  induction n with
  | zero =>
    intro x0 x1 x3 x4 h m3 hq hf _
    rw [fX14_endOf_l5] at hf
    cases hf
  | succ n ih =>
    intro x0 x1 x3 x4 h m3 hq hf hk0
    rw [fX14_endOf_l5] at hf
    refine a_aload_n (q := 0) dX14_endOf_5 rfl rfl ?_
    refine a_iload_n (q := 1) dX14_endOf_6 rfl rfl ?_
    refine a_iload_n (q := 2) dX14_endOf_7 rfl rfl ?_
    obtain ⟨_, e4, hf⟩ := obd hf
    obtain ⟨v2, h3, e1, hf⟩ := ob2 hf
    refine a_callV (as := [.int x1, .int x3]) (np := 2) (ci := 13) (st := []) (sX14_byteAt E (D - 1) (by omega) e1) dX14_endOf_8 rfl (by omega) (by decide) cw_X14_344 ⟨wd_1487, ws_93⟩ rfl (ckT_s e4) rfl (Nat.le_of_ble_eq_true rfl) ?_
    refine a_bipush (v := 123) dX14_endOf_11 (by decide) ?_
    refine a_icmp_ne (tgt := 89) dX14_endOf_13 (by decide) (fun c => ?_) (fun c => ?_)
    · have hf := ifn c hf
      refine a_iinc (q := 2) (v := (x3 + 1)) (lv1 := [(3, .int (x3 + 1)), (0, .ref x0), (1, .int x1), (4, .int x4)]) dX14_endOf_89 rfl (by rfl) (by decide) rfl ?_
      refine a_goto (tgt := 5) dX14_endOf_92 (by decide) ?_
      exact AW.sub [1, 2, 0, 3] rfl (ih _ _ _ _ _ _ _ hf hk0)
    · have hf := ifp c hf
      refine a_aload_n (q := 0) dX14_endOf_16 rfl rfl ?_
      refine a_iload_n (q := 1) dX14_endOf_17 rfl rfl ?_
      refine a_iload_n (q := 2) dX14_endOf_18 rfl rfl ?_
      refine a_iconst (v := 1) dX14_endOf_19 (by decide) ?_
      refine a_iadd dX14_endOf_20 ?_
      obtain ⟨_, e8, hf⟩ := obd hf
      obtain ⟨v6, h7, e5, hf⟩ := ob2 hf
      refine a_callV (as := [.int x1, .int (x3 + 1)]) (np := 2) (ci := 13) (st := []) (sX14_byteAt E (D - 1) (by omega) e5) dX14_endOf_21 rfl (by omega) (by decide) cw_X14_344 ⟨wd_1487, ws_93⟩ rfl (ckT_s e8) rfl (Nat.le_of_ble_eq_true rfl) ?_
      refine a_istore (lv1 := [(5, .int v6), (0, .ref x0), (1, .int x1), (3, .int x3), (4, .int x4)]) dX14_endOf_24 (by decide) rfl ?_
      refine a_iload (q := 4) dX14_endOf_26 rfl ?_
      obtain ⟨k47, ek47, hf⟩ := jn_s hf
      have hj47 : ∀ (h47j : hp), k47 h47j = some (m3, hq) → AW E yX14_endOf cX14_endOf (Option.some Jvm.ClassFile.FieldType.int) 6 D rz h0 hz 47 [(0, .ref x0), (1, .int x1), (3, .int x3), (4, .int x4), (5, .int v6)] [] h47j := by
        intro h47j hf
        rw [ek47] at hf
        clear ek47
        refine a_iload (q := 3) dX14_endOf_47 rfl ?_
        refine a_iload (q := 4) dX14_endOf_49 rfl ?_
        refine a_bipush (v := 63) dX14_endOf_51 (by decide) ?_
        obtain ⟨k86, ek86, hf⟩ := jn_s hf
        have hj86 : ∀ (s86_0 : Int32) (h86j : hp), k86 s86_0 h86j = some (m3, hq) → AW E yX14_endOf cX14_endOf (Option.some Jvm.ClassFile.FieldType.int) 6 D rz h0 hz 86 [(0, .ref x0), (1, .int x1), (3, .int x3)] [.int s86_0, .int x4] h86j := by
          intro s86_0 h86j hf
          rw [ek86] at hf
          clear ek86
          refine a_iadd dX14_endOf_86 ?_
          refine a_istore (lv1 := [(4, .int (x4 + s86_0)), (0, .ref x0), (1, .int x1), (3, .int x3)]) dX14_endOf_87 (by decide) rfl ?_
          refine a_iinc (q := 3) (v := (x3 + 1)) (lv1 := [(3, .int (x3 + 1)), (4, .int (x4 + s86_0)), (0, .ref x0), (1, .int x1)]) dX14_endOf_89 rfl (by rfl) (by decide) rfl ?_
          refine a_goto (tgt := 5) dX14_endOf_92 (by decide) ?_
          exact AW.sub [2, 3, 0, 1] rfl (ih _ _ _ _ _ _ _ hf hk0)
        clear ek86
        obtain ⟨k70, ek70, hf⟩ := jn_s hf
        have hj70 : ∀ (h70j : hp), k70 h70j = some (m3, hq) → AW E yX14_endOf cX14_endOf (Option.some Jvm.ClassFile.FieldType.int) 6 D rz h0 hz 70 [(0, .ref x0), (1, .int x1), (3, .int x3)] [.int x4] h70j := by
          intro h70j hf
          rw [ek70] at hf
          clear ek70
          refine a_iconst (v := 1) dX14_endOf_70 (by decide) ?_
          refine a_goto (tgt := 86) dX14_endOf_71 (by decide) ?_
          exact hj86 _ _ hf
        clear ek70
        refine a_icmp_eq (tgt := 70) dX14_endOf_53 (by decide) (fun c => ?_) (fun c => ?_)
        · have hf := ifp c hf
          exact AW.sub [0, 1, 2] rfl (hj70 _ hf)
        · have hf := ifn c hf
          refine a_iload (q := 4) dX14_endOf_56 rfl ?_
          refine a_bipush (v := 42) dX14_endOf_58 (by decide) ?_
          refine a_icmp_eq (tgt := 70) dX14_endOf_60 (by decide) (fun c => ?_) (fun c => ?_)
          · have hf := ifp c hf
            exact AW.sub [0, 1, 2] rfl (hj70 _ hf)
          · have hf := ifn c hf
            refine a_iload (q := 4) dX14_endOf_63 rfl ?_
            refine a_bipush (v := 61) dX14_endOf_65 (by decide) ?_
            refine a_icmp_ne (tgt := 74) dX14_endOf_67 (by decide) (fun c => ?_) (fun c => ?_)
            · have hf := ifn c hf
              refine a_iload (q := 4) dX14_endOf_74 rfl ?_
              refine a_bipush (v := 47) dX14_endOf_76 (by decide) ?_
              refine a_icmp_ne (tgt := 85) dX14_endOf_78 (by decide) (fun c => ?_) (fun c => ?_)
              · have hf := ifn c hf
                refine a_iconst (v := 0) dX14_endOf_85 (by decide) ?_
                exact AW.sub [0, 1, 2] rfl (hj86 _ _ hf)
              · have hf := ifp c hf
                refine a_iconst (v := (-1)) dX14_endOf_81 (by decide) ?_
                refine a_goto (tgt := 86) dX14_endOf_82 (by decide) ?_
                exact AW.sub [0, 1, 2] rfl (hj86 _ _ hf)
            · have hf := ifp c hf
              exact AW.sub [0, 1, 2] rfl (hj70 _ hf)
      clear ek47
      refine a_if_ne (tgt := 47) dX14_endOf_28 (by decide) (fun c => ?_) (fun c => ?_)
      · have hf := ifn c hf
        exact AW.sub [1, 2, 3, 4, 0] rfl (hj47 _ hf)
      · have hf := ifp c hf
        refine a_iload (q := 0) dX14_endOf_31 rfl ?_
        refine a_bipush (v := 47) dX14_endOf_33 (by decide) ?_
        refine a_icmp_eq (tgt := 45) dX14_endOf_35 (by decide) (fun c => ?_) (fun c => ?_)
        · have hf := ifp c hf
          obtain ⟨rfl, rfl⟩ := oc2 hf
          exact AW.sub [3] rfl (hk0)
        · have hf := ifn c hf
          refine a_iload (q := 0) dX14_endOf_38 rfl ?_
          refine a_bipush (v := 58) dX14_endOf_40 (by decide) ?_
          refine a_icmp_ne (tgt := 47) dX14_endOf_42 (by decide) (fun c => ?_) (fun c => ?_)
          · have hf := ifn c hf
            exact AW.sub [1, 2, 3, 4, 0] rfl (hj47 _ hf)
          · have hf := ifp c hf
            obtain ⟨rfl, rfl⟩ := oc2 hf
            exact AW.sub [3] rfl (hk0)
set_option maxHeartbeats 4000000 in
set_option maxRecDepth 100000 in
theorem sX14_endOf (E : gE) (D : Nat) (hD : 1 ≤ D) {a0 : Nat} {a1 : Int32} {a2 : Int32} {h hz : hp} {v0 : Int32} (hf : fX14_endOf a0 a1 a2 h = some (v0, hz)) : MC E yX14_endOf cX14_endOf (Option.some Jvm.ClassFile.FieldType.int) 6 D [.ref a0, .int a1, .int a2] h (some (.int v0)) hz := by
  refine MC.of (by decide +kernel) (Nat.le_of_ble_eq_true rfl) rfl ?_
  unfold fX14_endOf at hf
  show AW E yX14_endOf cX14_endOf (Option.some Jvm.ClassFile.FieldType.int) 6 D (some (.int v0)) h hz 0 [(0, .ref a0), (1, .int a1), (2, .int a2)] [] h
  refine a_iload_n (q := 2) dX14_endOf_0 rfl rfl ?_
  refine a_istore_n (lv1 := [(3, .int a2), (0, .ref a0), (1, .int a1), (2, .int a2)]) dX14_endOf_1 rfl (by decide) rfl ?_
  refine a_iconst (v := 0) dX14_endOf_2 (by decide) ?_
  refine a_istore (lv1 := [(4, .int 0), (3, .int a2), (0, .ref a0), (1, .int a1), (2, .int a2)]) dX14_endOf_3 (by decide) rfl ?_
  obtain ⟨v3, h2, e1, hf⟩ := ob2 hf
  refine AW.sub [2, 3, 1, 0] rfl (sX14_endOf_l5 E D hD _ _ _ _ _ _ _ _ e1 ?_)
  refine a_iload_n (q := 0) dX14_endOf_45 rfl rfl ?_
  obtain ⟨rfl, rfl⟩ := oc2 hf
  exact a_ireturn dX14_endOf_46 rfl
def fX14_closes_l2 : Nat → Nat → Int32 → Int32 → hp → Option (Int32 × hp)
  | 0, _, _, _, _ => none
  | n + 1, x0, x1, x3, h =>
    (ckT h x0 13).bind fun _ =>
    bd2 (fX14_byteAt x0 x1 x3 h) fun v2 h3 =>
    if v2 = 125 then (
      some (x3, h3)
    ) else (
      fX14_closes_l2 n x0 x1 (x3 + 1) h3
    )
def fX14_closes (a0 : Nat) (a1 : Int32) (a2 : Int32) (h : hp) : Option (Int32 × hp) :=
  bd2 (fX14_closes_l2 FU a0 a1 a2 h) fun v3 h2 =>
  some ((v3 + 1), h2)
set_option maxHeartbeats 4000000 in
set_option maxRecDepth 100000 in
theorem sX14_closes_l2 (E : gE) (D : Nat) (hD : 1 ≤ D) {rz : Option Value} {h0 hz : hp} : ∀ (n : Nat) (x0 : Nat) (x1 : Int32) (x3 : Int32) (h : hp) (m3 : Int32) (hq : hp), fX14_closes_l2 n x0 x1 x3 h = some (m3, hq) → (AW E yX14_closes cX14_closes (Option.some Jvm.ClassFile.FieldType.int) 4 D rz h0 hz 19 [(3, .int m3)] [] hq) → AW E yX14_closes cX14_closes (Option.some Jvm.ClassFile.FieldType.int) 4 D rz h0 hz 2 [(0, .ref x0), (1, .int x1), (3, .int x3)] [] h := by
  intro n
  induction n with
  | zero =>
    intro x0 x1 x3 h m3 hq hf _
    rw [fX14_closes_l2] at hf
    cases hf
  | succ n ih =>
    intro x0 x1 x3 h m3 hq hf hk0
    rw [fX14_closes_l2] at hf
    refine a_aload_n (q := 0) dX14_closes_2 rfl rfl ?_
    refine a_iload_n (q := 1) dX14_closes_3 rfl rfl ?_
    refine a_iload_n (q := 2) dX14_closes_4 rfl rfl ?_
    obtain ⟨_, e4, hf⟩ := obd hf
    obtain ⟨v2, h3, e1, hf⟩ := ob2 hf
    refine a_callV (as := [.int x1, .int x3]) (np := 2) (ci := 13) (st := []) (sX14_byteAt E (D - 1) (by omega) e1) dX14_closes_5 rfl (by omega) (by decide) cw_X14_344 ⟨wd_1487, ws_93⟩ rfl (ckT_s e4) rfl (Nat.le_of_ble_eq_true rfl) ?_
    refine a_bipush (v := 125) dX14_closes_8 (by decide) ?_
    refine a_icmp_eq (tgt := 19) dX14_closes_10 (by decide) (fun c => ?_) (fun c => ?_)
    · have hf := ifp c hf
      obtain ⟨rfl, rfl⟩ := oc2 hf
      exact AW.sub [2] rfl (hk0)
    · have hf := ifn c hf
      refine a_iinc (q := 2) (v := (x3 + 1)) (lv1 := [(3, .int (x3 + 1)), (0, .ref x0), (1, .int x1)]) dX14_closes_13 rfl (by rfl) (by decide) rfl ?_
      refine a_goto (tgt := 2) dX14_closes_16 (by decide) ?_
      exact AW.sub [1, 2, 0] rfl (ih _ _ _ _ _ _ hf hk0)
set_option maxHeartbeats 4000000 in
set_option maxRecDepth 100000 in
theorem sX14_closes (E : gE) (D : Nat) (hD : 1 ≤ D) {a0 : Nat} {a1 : Int32} {a2 : Int32} {h hz : hp} {v0 : Int32} (hf : fX14_closes a0 a1 a2 h = some (v0, hz)) : MC E yX14_closes cX14_closes (Option.some Jvm.ClassFile.FieldType.int) 4 D [.ref a0, .int a1, .int a2] h (some (.int v0)) hz := by
  refine MC.of (by decide +kernel) (Nat.le_of_ble_eq_true rfl) rfl ?_
  unfold fX14_closes at hf
  show AW E yX14_closes cX14_closes (Option.some Jvm.ClassFile.FieldType.int) 4 D (some (.int v0)) h hz 0 [(0, .ref a0), (1, .int a1), (2, .int a2)] [] h
  refine a_iload_n (q := 2) dX14_closes_0 rfl rfl ?_
  refine a_istore_n (lv1 := [(3, .int a2), (0, .ref a0), (1, .int a1), (2, .int a2)]) dX14_closes_1 rfl (by decide) rfl ?_
  obtain ⟨v3, h2, e1, hf⟩ := ob2 hf
  refine AW.sub [1, 2, 0] rfl (sX14_closes_l2 E D hD _ _ _ _ _ _ _ e1 ?_)
  refine a_iload_n (q := 0) dX14_closes_19 rfl rfl ?_
  refine a_iconst (v := 1) dX14_closes_20 (by decide) ?_
  refine a_iadd dX14_closes_21 ?_
  obtain ⟨rfl, rfl⟩ := oc2 hf
  exact a_ireturn dX14_closes_22 rfl
def fX14_assigns (a0 : Nat) (a1 : Int32) (a2 : Int32) (a3 : Int32) (h : hp) : Option (Int32 × hp) :=
  (gfR h a0 13 31).bind fun v1 =>
  (alI h v1 ((6 * a1) + a2)).bind fun v3 =>
  (pfI h a0 13 17 (a3 + 4)).bind fun h5 =>
  (gfI h5 a0 13 42).bind fun v7 =>
  jn (fun (s39_0 : Int32) (h39j : hp) => (
    jn (fun (h89j : hp) => (
      (ckT h89j a0 13).bind fun _ =>
      bd2 (fX14_closes a0 v3 a3 h89j) fun v10 h11 =>
      some (v10, h11)
      : Option (Int32 × hp))) fun k89 =>
    if s39_0 = 0 then (
      (gfI h39j a0 13 42).bind fun v13 =>
      if v13 = 0 then (
        (ckT h39j a0 13).bind fun _ =>
        bd2 (fX14_byteAt a0 v3 (a3 + 2) h39j) fun v16 h17 =>
        (ckT h17 a0 13).bind fun _ =>
        (fX14_copies a0 8 (v16 - 97) h17).bind fun h20 =>
        k89 h20
      ) else (
        k89 h39j
      )
    ) else (
      (ckT h39j a0 13).bind fun _ =>
      bd2 (fX14_lineAt a0 v3 a3 h39j) fun v23 h24 =>
      (ckT h24 a0 13).bind fun _ =>
      (fX14_faults a0 a1 a2 v23 s39_0 h24).bind fun h27 =>
      k89 h27
    )
    : Option (Int32 × hp))) fun k39 =>
  if v7 = 0 then (
    (ckT h5 a0 13).bind fun _ =>
    bd2 (fX14_worksOut a0 v3 8 h5) fun v30 h31 =>
    k39 v30 h31
  ) else (
    k39 0 h5
  )
set_option maxHeartbeats 4000000 in
set_option maxRecDepth 100000 in
theorem sX14_assigns (E : gE) (D : Nat) (hD : 7 ≤ D) {a0 : Nat} {a1 : Int32} {a2 : Int32} {a3 : Int32} {h hz : hp} {v0 : Int32} (hf : fX14_assigns a0 a1 a2 a3 h = some (v0, hz)) : MC E yX14_assigns cX14_assigns (Option.some Jvm.ClassFile.FieldType.int) 6 D [.ref a0, .int a1, .int a2, .int a3] h (some (.int v0)) hz := by
  refine MC.of (by decide +kernel) (Nat.le_of_ble_eq_true rfl) rfl ?_
  unfold fX14_assigns at hf
  show AW E yX14_assigns cX14_assigns (Option.some Jvm.ClassFile.FieldType.int) 6 D (some (.int v0)) h hz 0 [(0, .ref a0), (1, .int a1), (2, .int a2), (3, .int a3)] [] h
  refine a_aload_n (q := 0) dX14_assigns_0 rfl rfl ?_
  obtain ⟨v1, e2, hf⟩ := obd hf
  refine o_gfR dX14_assigns_1 lk_X14_68 rfl e2 ?_
  refine a_bipush (v := 6) dX14_assigns_4 (by decide) ?_
  refine a_iload_n (q := 1) dX14_assigns_6 rfl rfl ?_
  refine a_imul dX14_assigns_7 ?_
  refine a_iload_n (q := 2) dX14_assigns_8 rfl rfl ?_
  refine a_iadd dX14_assigns_9 ?_
  obtain ⟨v3, e4, hf⟩ := obd hf
  refine o_alI dX14_assigns_10 e4 ?_
  refine a_istore (lv1 := [(4, .int v3), (0, .ref a0), (1, .int a1), (2, .int a2), (3, .int a3)]) dX14_assigns_11 (by decide) rfl ?_
  refine a_aload_n (q := 1) dX14_assigns_13 rfl rfl ?_
  refine a_iload_n (q := 4) dX14_assigns_14 rfl rfl ?_
  refine a_iconst (v := 4) dX14_assigns_15 (by decide) ?_
  refine a_iadd dX14_assigns_16 ?_
  obtain ⟨h5, e6, hf⟩ := obd hf
  refine o_pfI dX14_assigns_17 lk_X14_341 (⟨_, rfl, Or.inl rfl⟩) rfl e6 ?_
  refine a_aload_n (q := 1) dX14_assigns_20 rfl rfl ?_
  obtain ⟨v7, e8, hf⟩ := obd hf
  refine o_gfI dX14_assigns_21 lk_X14_423 rfl e8 ?_
  obtain ⟨k39, ek39, hf⟩ := jn_s hf
  have hj39 : ∀ (s39_0 : Int32) (h39j : hp), k39 s39_0 h39j = some (v0, hz) → AW E yX14_assigns cX14_assigns (Option.some Jvm.ClassFile.FieldType.int) 6 D (some (.int v0)) h hz 39 [(0, .ref a0), (1, .int a1), (2, .int a2), (3, .int a3), (4, .int v3)] [.int s39_0] h39j := by
    intro s39_0 h39j hf
    rw [ek39] at hf
    clear ek39
    refine a_istore (lv1 := [(5, .int s39_0), (0, .ref a0), (1, .int a1), (2, .int a2), (3, .int a3), (4, .int v3)]) dX14_assigns_39 (by decide) rfl ?_
    refine a_iload (q := 0) dX14_assigns_41 rfl ?_
    obtain ⟨k89, ek89, hf⟩ := jn_s hf
    have hj89 : ∀ (h89j : hp), k89 h89j = some (v0, hz) → AW E yX14_assigns cX14_assigns (Option.some Jvm.ClassFile.FieldType.int) 6 D (some (.int v0)) h hz 89 [(0, .ref a0), (3, .int a3), (4, .int v3)] [] h89j := by
      intro h89j hf
      rw [ek89] at hf
      clear ek89
      refine a_aload_n (q := 0) dX14_assigns_89 rfl rfl ?_
      refine a_iload (q := 2) dX14_assigns_90 rfl ?_
      refine a_iload_n (q := 1) dX14_assigns_92 rfl rfl ?_
      obtain ⟨_, e12, hf⟩ := obd hf
      obtain ⟨v10, h11, e9, hf⟩ := ob2 hf
      refine a_callV (as := [.int v3, .int a3]) (np := 2) (ci := 13) (st := []) (sX14_closes E (D - 1) (by omega) e9) dX14_assigns_93 rfl (by omega) (by decide) cw_X14_465 ⟨wd_1614, ws_116⟩ rfl (ckT_s e12) rfl (Nat.le_of_ble_eq_true rfl) ?_
      obtain ⟨rfl, rfl⟩ := oc2 hf
      exact a_ireturn dX14_assigns_96 rfl
    clear ek89
    refine a_if_eq (tgt := 64) dX14_assigns_43 (by decide) (fun c => ?_) (fun c => ?_)
    · have hf := ifp c hf
      refine a_aload_n (q := 1) dX14_assigns_64 rfl rfl ?_
      obtain ⟨v13, e14, hf⟩ := obd hf
      refine o_gfI dX14_assigns_65 lk_X14_423 rfl e14 ?_
      refine a_if_ne (tgt := 89) dX14_assigns_68 (by decide) (fun c => ?_) (fun c => ?_)
      · have hf := ifn c hf
        exact AW.sub [1, 4, 5] rfl (hj89 _ hf)
      · have hf := ifp c hf
        refine a_aload_n (q := 1) dX14_assigns_71 rfl rfl ?_
        refine a_bipush (v := 8) dX14_assigns_72 (by decide) ?_
        refine a_aload_n (q := 1) dX14_assigns_74 rfl rfl ?_
        refine a_iload (q := 5) dX14_assigns_75 rfl ?_
        refine a_iload_n (q := 4) dX14_assigns_77 rfl rfl ?_
        refine a_iconst (v := 2) dX14_assigns_78 (by decide) ?_
        refine a_iadd dX14_assigns_79 ?_
        obtain ⟨_, e18, hf⟩ := obd hf
        obtain ⟨v16, h17, e15, hf⟩ := ob2 hf
        refine a_callV (as := [.int v3, .int (a3 + 2)]) (np := 2) (ci := 13) (st := [.int 8, .ref a0]) (sX14_byteAt E (D - 1) (by omega) e15) dX14_assigns_80 rfl (by omega) (by decide) cw_X14_344 ⟨wd_1487, ws_93⟩ rfl (ckT_s e18) rfl (Nat.le_of_ble_eq_true rfl) ?_
        refine a_bipush (v := 97) dX14_assigns_83 (by decide) ?_
        refine a_isub dX14_assigns_85 ?_
        obtain ⟨_, e21, hf⟩ := obd hf
        obtain ⟨h20, e19, hf⟩ := obd hf
        refine a_callV (as := [.int 8, .int (v16 - 97)]) (np := 2) (ci := 13) (st := []) (sX14_copies E (D - 1) (by omega) e19) dX14_assigns_86 rfl (by omega) (by decide) cw_X14_347 ⟨wd_1511, ws_99⟩ rfl (ckT_s e21) rfl (Nat.le_of_ble_eq_true rfl) ?_
        exact AW.sub [1, 4, 5] rfl (hj89 _ hf)
    · have hf := ifn c hf
      refine a_aload_n (q := 1) dX14_assigns_46 rfl rfl ?_
      refine a_iload_n (q := 2) dX14_assigns_47 rfl rfl ?_
      refine a_iload_n (q := 3) dX14_assigns_48 rfl rfl ?_
      refine a_aload_n (q := 1) dX14_assigns_49 rfl rfl ?_
      refine a_iload (q := 5) dX14_assigns_50 rfl ?_
      refine a_iload_n (q := 4) dX14_assigns_52 rfl rfl ?_
      obtain ⟨_, e25, hf⟩ := obd hf
      obtain ⟨v23, h24, e22, hf⟩ := ob2 hf
      refine a_callV (as := [.int v3, .int a3]) (np := 2) (ci := 13) (st := [.int a2, .int a1, .ref a0]) (sX14_lineAt E (D - 1) (by omega) e22) dX14_assigns_53 rfl (by omega) (by decide) cw_X14_329 ⟨wd_1427, ws_80⟩ rfl (ckT_s e25) rfl (Nat.le_of_ble_eq_true rfl) ?_
      refine a_iload (q := 0) dX14_assigns_56 rfl ?_
      obtain ⟨_, e28, hf⟩ := obd hf
      obtain ⟨h27, e26, hf⟩ := obd hf
      refine a_callV (as := [.int a1, .int a2, .int v23, .int s39_0]) (np := 4) (ci := 13) (st := []) (sX14_faults E (D - 1) (by omega) e26) dX14_assigns_58 rfl (by omega) (by decide) cw_X14_415 ⟨wd_1463, ws_87⟩ rfl (ckT_s e28) rfl (Nat.le_of_ble_eq_true rfl) ?_
      refine a_goto (tgt := 89) dX14_assigns_61 (by decide) ?_
      exact AW.sub [1, 4, 5] rfl (hj89 _ hf)
  clear ek39
  refine a_if_eq (tgt := 31) dX14_assigns_24 (by decide) (fun c => ?_) (fun c => ?_)
  · have hf := ifp c hf
    refine a_aload_n (q := 1) dX14_assigns_31 rfl rfl ?_
    refine a_iload (q := 0) dX14_assigns_32 rfl ?_
    refine a_bipush (v := 8) dX14_assigns_34 (by decide) ?_
    obtain ⟨_, e32, hf⟩ := obd hf
    obtain ⟨v30, h31, e29, hf⟩ := ob2 hf
    refine a_callV (as := [.int v3, .int 8]) (np := 2) (ci := 13) (st := []) (sX14_worksOut E (D - 1) (by omega) e29) dX14_assigns_36 rfl (by omega) (by decide) cw_X14_362 ⟨wd_1503, ws_97⟩ rfl (ckT_s e32) rfl (Nat.le_of_ble_eq_true rfl) ?_
    exact AW.sub [1, 2, 3, 4, 0] rfl (hj39 _ _ hf)
  · have hf := ifn c hf
    refine a_iconst (v := 0) dX14_assigns_27 (by decide) ?_
    refine a_goto (tgt := 39) dX14_assigns_28 (by decide) ?_
    exact AW.sub [1, 2, 3, 4, 0] rfl (hj39 _ _ hf)
def fX14_endsAsAhead (a0 : Nat) (a1 : Int32) (a2 : Int32) (a3 : Int32) (a4 : Int32) (h : hp) : Option hp :=
  (gfI h a0 13 42).bind fun v1 =>
  if v1 = 0 then (
    some h
  ) else (
    (gfI h a0 13 43).bind fun v3 =>
    if v3 = 0 then (
      (gfI h a0 13 23).bind fun v5 =>
      if v5 = a4 then (
        some h
      ) else (
        (ckT h a0 13).bind fun _ =>
        (fX14_faults a0 a1 a2 a3 3 h).bind fun h8 =>
        some h8
      )
    ) else (
      some h
    )
  )
set_option maxHeartbeats 4000000 in
set_option maxRecDepth 100000 in
theorem sX14_endsAsAhead (E : gE) (D : Nat) (hD : 3 ≤ D) {a0 : Nat} {a1 : Int32} {a2 : Int32} {a3 : Int32} {a4 : Int32} {h hz : hp} (hf : fX14_endsAsAhead a0 a1 a2 a3 a4 h = some hz) : MC E yX14_endsAsAhead cX14_endsAsAhead (Option.none : Option Jvm.ClassFile.FieldType) 5 D [.ref a0, .int a1, .int a2, .int a3, .int a4] h none hz := by
  refine MC.of (by decide +kernel) (Nat.le_of_ble_eq_true rfl) rfl ?_
  unfold fX14_endsAsAhead at hf
  show AW E yX14_endsAsAhead cX14_endsAsAhead (Option.none : Option Jvm.ClassFile.FieldType) 5 D none h hz 0 [(0, .ref a0), (1, .int a1), (2, .int a2), (3, .int a3), (4, .int a4)] [] h
  refine a_aload_n (q := 0) dX14_endsAsAhead_0 rfl rfl ?_
  obtain ⟨v1, e2, hf⟩ := obd hf
  refine o_gfI dX14_endsAsAhead_1 lk_X14_423 rfl e2 ?_
  refine a_if_eq (tgt := 31) dX14_endsAsAhead_4 (by decide) (fun c => ?_) (fun c => ?_)
  · have hf := ifp c hf
    obtain rfl := Option.some.inj hf
    exact a_return dX14_endsAsAhead_31 rfl
  · have hf := ifn c hf
    refine a_aload_n (q := 0) dX14_endsAsAhead_7 rfl rfl ?_
    obtain ⟨v3, e4, hf⟩ := obd hf
    refine o_gfI dX14_endsAsAhead_8 lk_X14_409 rfl e4 ?_
    refine a_if_ne (tgt := 31) dX14_endsAsAhead_11 (by decide) (fun c => ?_) (fun c => ?_)
    · have hf := ifn c hf
      obtain rfl := Option.some.inj hf
      exact a_return dX14_endsAsAhead_31 rfl
    · have hf := ifp c hf
      refine a_aload_n (q := 0) dX14_endsAsAhead_14 rfl rfl ?_
      obtain ⟨v5, e6, hf⟩ := obd hf
      refine o_gfI dX14_endsAsAhead_15 lk_X14_384 rfl e6 ?_
      refine a_iload (q := 4) dX14_endsAsAhead_18 rfl ?_
      refine a_icmp_eq (tgt := 31) dX14_endsAsAhead_20 (by decide) (fun c => ?_) (fun c => ?_)
      · have hf := ifp c hf
        obtain rfl := Option.some.inj hf
        exact a_return dX14_endsAsAhead_31 rfl
      · have hf := ifn c hf
        refine a_aload_n (q := 0) dX14_endsAsAhead_23 rfl rfl ?_
        refine a_iload_n (q := 1) dX14_endsAsAhead_24 rfl rfl ?_
        refine a_iload_n (q := 2) dX14_endsAsAhead_25 rfl rfl ?_
        refine a_iload_n (q := 3) dX14_endsAsAhead_26 rfl rfl ?_
        refine a_iconst (v := 3) dX14_endsAsAhead_27 (by decide) ?_
        obtain ⟨_, e9, hf⟩ := obd hf
        obtain ⟨h8, e7, hf⟩ := obd hf
        refine a_callV (as := [.int a1, .int a2, .int a3, .int 3]) (np := 4) (ci := 13) (st := []) (sX14_faults E (D - 1) (by omega) e7) dX14_endsAsAhead_28 rfl (by omega) (by decide) cw_X14_415 ⟨wd_1463, ws_87⟩ rfl (ckT_s e9) rfl (Nat.le_of_ble_eq_true rfl) ?_
        obtain rfl := Option.some.inj hf
        exact a_return dX14_endsAsAhead_31 rfl
def fX14_value_l93 : Nat → Nat → Int32 → Int32 → Int32 → Int32 → Int32 → Int32 → hp → Option (Int32 × hp)
  | 0, _, _, _, _, _, _, _, _ => none
  | n + 1, x0, x1, x2, x3, x4, x6, x7, h =>
    (gfI h x0 13 6).bind fun v1 =>
    if v1 ≤ x7 then (
      some (x6, h)
    ) else (
      if x6 = 0 then (
        some (x6, h)
      ) else (
        (gfR h x0 13 5).bind fun v3 =>
        (alI h v3 x7).bind fun v5 =>
        (ckT h x0 13).bind fun _ =>
        bd2 (fX14_putsEscaped x0 v5 h) fun v8 h9 =>
        fX14_value_l93 n x0 x1 x2 x3 x4 v8 (x7 + 1) h9
      )
    )
def fX14_value (a0 : Nat) (a1 : Int32) (a2 : Int32) (a3 : Int32) (h : hp) : Option (Int32 × hp) :=
  (gfR h a0 13 31).bind fun v1 =>
  (alI h v1 ((6 * a1) + a2)).bind fun v3 =>
  (pfI h a0 13 17 (a3 + 1)).bind fun h5 =>
  (gfI h5 a0 13 42).bind fun v7 =>
  jn (fun (s39_0 : Int32) (h39j : hp) => (
    jn (fun (h61j : hp) => (
      (gfI h61j a0 13 42).bind fun v9 =>
      jn (fun (h73j : hp) => (
        (ckT h73j a0 13).bind fun _ =>
        bd2 (fX14_closes a0 v3 a3 h73j) fun v12 h13 =>
        some (v12, h13)
        : Option (Int32 × hp))) fun k73 =>
      if v9 = 0 then (
        if s39_0 = 0 then (
          (ckT h61j a0 13).bind fun _ =>
          (fX14_showsValue a0 8 h61j).bind fun h16 =>
          bd2 (fX14_value_l93 FU a0 a1 a2 a3 v3 1 0 h16) fun v20 h19 =>
          jn (fun (h145j : hp) => (
            (ckT h145j a0 13).bind fun _ =>
            bd2 (fX14_closes a0 v3 a3 h145j) fun v22 h23 =>
            some (v22, h23)
            : Option (Int32 × hp))) fun k145 =>
          if v20 = 0 then (
            (ckT h19 a0 13).bind fun _ =>
            bd2 (fX14_lineAt a0 v3 a3 h19) fun v26 h27 =>
            (ckT h27 a0 13).bind fun _ =>
            (fX14_faults a0 a1 a2 v26 5 h27).bind fun h30 =>
            k145 h30
          ) else (
            k145 h19
          )
        ) else (
          k73 h61j
        )
      ) else (
        k73 h61j
      )
      : Option (Int32 × hp))) fun k61 =>
    if s39_0 = 0 then (
      k61 h39j
    ) else (
      (ckT h39j a0 13).bind fun _ =>
      bd2 (fX14_lineAt a0 v3 a3 h39j) fun v33 h34 =>
      (ckT h34 a0 13).bind fun _ =>
      (fX14_faults a0 a1 a2 v33 s39_0 h34).bind fun h37 =>
      k61 h37
    )
    : Option (Int32 × hp))) fun k39 =>
  if v7 = 0 then (
    (ckT h5 a0 13).bind fun _ =>
    bd2 (fX14_worksOut a0 v3 8 h5) fun v40 h41 =>
    k39 v40 h41
  ) else (
    k39 0 h5
  )
set_option maxHeartbeats 4000000 in
set_option maxRecDepth 100000 in
theorem sX14_value_l93 (E : gE) (D : Nat) (hD : 7 ≤ D) {rz : Option Value} {h0 hz : hp} : ∀ (n : Nat) (x0 : Nat) (x1 : Int32) (x2 : Int32) (x3 : Int32) (x4 : Int32) (x6 : Int32) (x7 : Int32) (h : hp) (m6 : Int32) (hq : hp), fX14_value_l93 n x0 x1 x2 x3 x4 x6 x7 h = some (m6, hq) → (AW E yX14_value cX14_value (Option.some Jvm.ClassFile.FieldType.int) 8 D rz h0 hz 126 [(0, .ref x0), (1, .int x1), (2, .int x2), (3, .int x3), (4, .int x4), (6, .int m6)] [] hq) → AW E yX14_value cX14_value (Option.some Jvm.ClassFile.FieldType.int) 8 D rz h0 hz 93 [(0, .ref x0), (1, .int x1), (2, .int x2), (3, .int x3), (4, .int x4), (6, .int x6), (7, .int x7)] [] h := by
  intro n
  induction n with
  | zero =>
    intro x0 x1 x2 x3 x4 x6 x7 h m6 hq hf _
    rw [fX14_value_l93] at hf
    cases hf
  | succ n ih =>
    intro x0 x1 x2 x3 x4 x6 x7 h m6 hq hf hk0
    rw [fX14_value_l93] at hf
    refine a_iload (q := 6) dX14_value_93 rfl ?_
    refine a_aload_n (q := 0) dX14_value_95 rfl rfl ?_
    obtain ⟨v1, e2, hf⟩ := obd hf
    refine o_gfI dX14_value_96 lk_X14_140 rfl e2 ?_
    refine a_icmp_ge (tgt := 126) dX14_value_99 (by decide) (fun c => ?_) (fun c => ?_)
    · have hf := ifp c hf
      obtain ⟨rfl, rfl⟩ := oc2 hf
      exact AW.sub [0, 1, 2, 3, 4, 5] rfl (hk0)
    · have hf := ifn c hf
      refine a_iload (q := 5) dX14_value_102 rfl ?_
      refine a_if_eq (tgt := 126) dX14_value_104 (by decide) (fun c => ?_) (fun c => ?_)
      · have hf := ifp c hf
        obtain ⟨rfl, rfl⟩ := oc2 hf
        exact AW.sub [0, 1, 2, 3, 4, 5] rfl (hk0)
      · have hf := ifn c hf
        refine a_aload_n (q := 0) dX14_value_107 rfl rfl ?_
        refine a_aload_n (q := 0) dX14_value_108 rfl rfl ?_
        obtain ⟨v3, e4, hf⟩ := obd hf
        refine o_gfR dX14_value_109 lk_X14_28 rfl e4 ?_
        refine a_iload (q := 6) dX14_value_112 rfl ?_
        obtain ⟨v5, e6, hf⟩ := obd hf
        refine o_alI dX14_value_114 e6 ?_
        obtain ⟨_, e10, hf⟩ := obd hf
        obtain ⟨v8, h9, e7, hf⟩ := ob2 hf
        refine a_callV (as := [.int v5]) (np := 1) (ci := 13) (st := []) (sX14_putsEscaped E (D - 1) (by omega) e7) dX14_value_115 rfl (by omega) (by decide) cw_X14_494 ⟨wd_1679, ws_132⟩ rfl (ckT_s e10) rfl (Nat.le_of_ble_eq_true rfl) ?_
        refine a_istore (lv1 := [(6, .int v8), (0, .ref x0), (1, .int x1), (2, .int x2), (3, .int x3), (4, .int x4), (7, .int x7)]) dX14_value_118 (by decide) rfl ?_
        refine a_iinc (q := 6) (v := (x7 + 1)) (lv1 := [(7, .int (x7 + 1)), (6, .int v8), (0, .ref x0), (1, .int x1), (2, .int x2), (3, .int x3), (4, .int x4)]) dX14_value_120 rfl (by rfl) (by decide) rfl ?_
        refine a_goto (tgt := 93) dX14_value_123 (by decide) ?_
        exact AW.sub [2, 3, 4, 5, 6, 1, 0] rfl (ih _ _ _ _ _ _ _ _ _ _ hf hk0)
set_option maxHeartbeats 4000000 in
set_option maxRecDepth 100000 in
theorem sX14_value (E : gE) (D : Nat) (hD : 7 ≤ D) {a0 : Nat} {a1 : Int32} {a2 : Int32} {a3 : Int32} {h hz : hp} {v0 : Int32} (hf : fX14_value a0 a1 a2 a3 h = some (v0, hz)) : MC E yX14_value cX14_value (Option.some Jvm.ClassFile.FieldType.int) 8 D [.ref a0, .int a1, .int a2, .int a3] h (some (.int v0)) hz := by
  refine MC.of (by decide +kernel) (Nat.le_of_ble_eq_true rfl) rfl ?_
  unfold fX14_value at hf
  show AW E yX14_value cX14_value (Option.some Jvm.ClassFile.FieldType.int) 8 D (some (.int v0)) h hz 0 [(0, .ref a0), (1, .int a1), (2, .int a2), (3, .int a3)] [] h
  refine a_aload_n (q := 0) dX14_value_0 rfl rfl ?_
  obtain ⟨v1, e2, hf⟩ := obd hf
  refine o_gfR dX14_value_1 lk_X14_68 rfl e2 ?_
  refine a_bipush (v := 6) dX14_value_4 (by decide) ?_
  refine a_iload_n (q := 1) dX14_value_6 rfl rfl ?_
  refine a_imul dX14_value_7 ?_
  refine a_iload_n (q := 2) dX14_value_8 rfl rfl ?_
  refine a_iadd dX14_value_9 ?_
  obtain ⟨v3, e4, hf⟩ := obd hf
  refine o_alI dX14_value_10 e4 ?_
  refine a_istore (lv1 := [(4, .int v3), (0, .ref a0), (1, .int a1), (2, .int a2), (3, .int a3)]) dX14_value_11 (by decide) rfl ?_
  refine a_aload_n (q := 1) dX14_value_13 rfl rfl ?_
  refine a_iload_n (q := 4) dX14_value_14 rfl rfl ?_
  refine a_iconst (v := 1) dX14_value_15 (by decide) ?_
  refine a_iadd dX14_value_16 ?_
  obtain ⟨h5, e6, hf⟩ := obd hf
  refine o_pfI dX14_value_17 lk_X14_341 (⟨_, rfl, Or.inl rfl⟩) rfl e6 ?_
  refine a_aload_n (q := 1) dX14_value_20 rfl rfl ?_
  obtain ⟨v7, e8, hf⟩ := obd hf
  refine o_gfI dX14_value_21 lk_X14_423 rfl e8 ?_
  obtain ⟨k39, ek39, hf⟩ := jn_s hf
  have hj39 : ∀ (s39_0 : Int32) (h39j : hp), k39 s39_0 h39j = some (v0, hz) → AW E yX14_value cX14_value (Option.some Jvm.ClassFile.FieldType.int) 8 D (some (.int v0)) h hz 39 [(0, .ref a0), (1, .int a1), (2, .int a2), (3, .int a3), (4, .int v3)] [.int s39_0] h39j := by
    intro s39_0 h39j hf
    rw [ek39] at hf
    clear ek39
    refine a_istore (lv1 := [(5, .int s39_0), (0, .ref a0), (1, .int a1), (2, .int a2), (3, .int a3), (4, .int v3)]) dX14_value_39 (by decide) rfl ?_
    refine a_iload (q := 0) dX14_value_41 rfl ?_
    obtain ⟨k61, ek61, hf⟩ := jn_s hf
    have hj61 : ∀ (h61j : hp), k61 h61j = some (v0, hz) → AW E yX14_value cX14_value (Option.some Jvm.ClassFile.FieldType.int) 8 D (some (.int v0)) h hz 61 [(0, .ref a0), (1, .int a1), (2, .int a2), (3, .int a3), (4, .int v3), (5, .int s39_0)] [] h61j := by
      intro h61j hf
      rw [ek61] at hf
      clear ek61
      refine a_aload_n (q := 0) dX14_value_61 rfl rfl ?_
      obtain ⟨v9, e10, hf⟩ := obd hf
      refine o_gfI dX14_value_62 lk_X14_423 rfl e10 ?_
      obtain ⟨k73, ek73, hf⟩ := jn_s hf
      have hj73 : ∀ (h73j : hp), k73 h73j = some (v0, hz) → AW E yX14_value cX14_value (Option.some Jvm.ClassFile.FieldType.int) 8 D (some (.int v0)) h hz 73 [(0, .ref a0), (3, .int a3), (4, .int v3)] [] h73j := by
        intro h73j hf
        rw [ek73] at hf
        clear ek73
        refine a_aload_n (q := 0) dX14_value_73 rfl rfl ?_
        refine a_iload (q := 2) dX14_value_74 rfl ?_
        refine a_iload_n (q := 1) dX14_value_76 rfl rfl ?_
        obtain ⟨_, e14, hf⟩ := obd hf
        obtain ⟨v12, h13, e11, hf⟩ := ob2 hf
        refine a_callV (as := [.int v3, .int a3]) (np := 2) (ci := 13) (st := []) (sX14_closes E (D - 1) (by omega) e11) dX14_value_77 rfl (by omega) (by decide) cw_X14_465 ⟨wd_1614, ws_116⟩ rfl (ckT_s e14) rfl (Nat.le_of_ble_eq_true rfl) ?_
        obtain ⟨rfl, rfl⟩ := oc2 hf
        exact a_ireturn dX14_value_80 rfl
      clear ek73
      refine a_if_ne (tgt := 73) dX14_value_65 (by decide) (fun c => ?_) (fun c => ?_)
      · have hf := ifn c hf
        exact AW.sub [0, 3, 4] rfl (hj73 _ hf)
      · have hf := ifp c hf
        refine a_iload (q := 5) dX14_value_68 rfl ?_
        refine a_if_eq (tgt := 81) dX14_value_70 (by decide) (fun c => ?_) (fun c => ?_)
        · have hf := ifp c hf
          refine a_aload_n (q := 0) dX14_value_81 rfl rfl ?_
          refine a_bipush (v := 8) dX14_value_82 (by decide) ?_
          obtain ⟨_, e17, hf⟩ := obd hf
          obtain ⟨h16, e15, hf⟩ := obd hf
          refine a_callV (as := [.int 8]) (np := 1) (ci := 13) (st := []) (sX14_showsValue E (D - 1) (by omega) e15) dX14_value_84 rfl (by omega) (by decide) cw_X14_491 ⟨wd_1662, ws_128⟩ rfl (ckT_s e17) rfl (Nat.le_of_ble_eq_true rfl) ?_
          refine a_iconst (v := 1) dX14_value_87 (by decide) ?_
          refine a_istore (lv1 := [(6, .int 1), (0, .ref a0), (1, .int a1), (2, .int a2), (3, .int a3), (4, .int v3), (5, .int s39_0)]) dX14_value_88 (by decide) rfl ?_
          refine a_iconst (v := 0) dX14_value_90 (by decide) ?_
          refine a_istore (lv1 := [(7, .int 0), (6, .int 1), (0, .ref a0), (1, .int a1), (2, .int a2), (3, .int a3), (4, .int v3), (5, .int s39_0)]) dX14_value_91 (by decide) rfl ?_
          obtain ⟨v20, h19, e18, hf⟩ := ob2 hf
          refine AW.sub [2, 3, 4, 5, 6, 1, 0] rfl (sX14_value_l93 E D hD _ _ _ _ _ _ _ _ _ _ _ e18 ?_)
          refine a_iload (q := 5) dX14_value_126 rfl ?_
          obtain ⟨k145, ek145, hf⟩ := jn_s hf
          have hj145 : ∀ (h145j : hp), k145 h145j = some (v0, hz) → AW E yX14_value cX14_value (Option.some Jvm.ClassFile.FieldType.int) 8 D (some (.int v0)) h hz 145 [(0, .ref a0), (3, .int a3), (4, .int v3)] [] h145j := by
            intro h145j hf
            rw [ek145] at hf
            clear ek145
            refine a_aload_n (q := 0) dX14_value_145 rfl rfl ?_
            refine a_iload (q := 2) dX14_value_146 rfl ?_
            refine a_iload_n (q := 1) dX14_value_148 rfl rfl ?_
            obtain ⟨_, e24, hf⟩ := obd hf
            obtain ⟨v22, h23, e21, hf⟩ := ob2 hf
            refine a_callV (as := [.int v3, .int a3]) (np := 2) (ci := 13) (st := []) (sX14_closes E (D - 1) (by omega) e21) dX14_value_149 rfl (by omega) (by decide) cw_X14_465 ⟨wd_1614, ws_116⟩ rfl (ckT_s e24) rfl (Nat.le_of_ble_eq_true rfl) ?_
            obtain ⟨rfl, rfl⟩ := oc2 hf
            exact a_ireturn dX14_value_152 rfl
          clear ek145
          refine a_if_ne (tgt := 145) dX14_value_128 (by decide) (fun c => ?_) (fun c => ?_)
          · have hf := ifn c hf
            exact AW.sub [0, 3, 4] rfl (hj145 _ hf)
          · have hf := ifp c hf
            refine a_aload_n (q := 0) dX14_value_131 rfl rfl ?_
            refine a_iload_n (q := 1) dX14_value_132 rfl rfl ?_
            refine a_iload_n (q := 2) dX14_value_133 rfl rfl ?_
            refine a_aload_n (q := 0) dX14_value_134 rfl rfl ?_
            refine a_iload (q := 4) dX14_value_135 rfl ?_
            refine a_iload_n (q := 3) dX14_value_137 rfl rfl ?_
            obtain ⟨_, e28, hf⟩ := obd hf
            obtain ⟨v26, h27, e25, hf⟩ := ob2 hf
            refine a_callV (as := [.int v3, .int a3]) (np := 2) (ci := 13) (st := [.int a2, .int a1, .ref a0]) (sX14_lineAt E (D - 1) (by omega) e25) dX14_value_138 rfl (by omega) (by decide) cw_X14_329 ⟨wd_1427, ws_80⟩ rfl (ckT_s e28) rfl (Nat.le_of_ble_eq_true rfl) ?_
            refine a_iconst (v := 5) dX14_value_141 (by decide) ?_
            obtain ⟨_, e31, hf⟩ := obd hf
            obtain ⟨h30, e29, hf⟩ := obd hf
            refine a_callV (as := [.int a1, .int a2, .int v26, .int 5]) (np := 4) (ci := 13) (st := []) (sX14_faults E (D - 1) (by omega) e29) dX14_value_142 rfl (by omega) (by decide) cw_X14_415 ⟨wd_1463, ws_87⟩ rfl (ckT_s e31) rfl (Nat.le_of_ble_eq_true rfl) ?_
            exact AW.sub [0, 3, 4] rfl (hj145 _ hf)
        · have hf := ifn c hf
          exact AW.sub [0, 3, 4] rfl (hj73 _ hf)
    clear ek61
    refine a_if_eq (tgt := 61) dX14_value_43 (by decide) (fun c => ?_) (fun c => ?_)
    · have hf := ifp c hf
      exact AW.sub [1, 2, 3, 4, 5, 0] rfl (hj61 _ hf)
    · have hf := ifn c hf
      refine a_aload_n (q := 1) dX14_value_46 rfl rfl ?_
      refine a_iload_n (q := 2) dX14_value_47 rfl rfl ?_
      refine a_iload_n (q := 3) dX14_value_48 rfl rfl ?_
      refine a_aload_n (q := 1) dX14_value_49 rfl rfl ?_
      refine a_iload (q := 5) dX14_value_50 rfl ?_
      refine a_iload_n (q := 4) dX14_value_52 rfl rfl ?_
      obtain ⟨_, e35, hf⟩ := obd hf
      obtain ⟨v33, h34, e32, hf⟩ := ob2 hf
      refine a_callV (as := [.int v3, .int a3]) (np := 2) (ci := 13) (st := [.int a2, .int a1, .ref a0]) (sX14_lineAt E (D - 1) (by omega) e32) dX14_value_53 rfl (by omega) (by decide) cw_X14_329 ⟨wd_1427, ws_80⟩ rfl (ckT_s e35) rfl (Nat.le_of_ble_eq_true rfl) ?_
      refine a_iload (q := 0) dX14_value_56 rfl ?_
      obtain ⟨_, e38, hf⟩ := obd hf
      obtain ⟨h37, e36, hf⟩ := obd hf
      refine a_callV (as := [.int a1, .int a2, .int v33, .int s39_0]) (np := 4) (ci := 13) (st := []) (sX14_faults E (D - 1) (by omega) e36) dX14_value_58 rfl (by omega) (by decide) cw_X14_415 ⟨wd_1463, ws_87⟩ rfl (ckT_s e38) rfl (Nat.le_of_ble_eq_true rfl) ?_
      exact AW.sub [1, 2, 3, 4, 5, 0] rfl (hj61 _ hf)
  clear ek39
  refine a_if_eq (tgt := 31) dX14_value_24 (by decide) (fun c => ?_) (fun c => ?_)
  · have hf := ifp c hf
    refine a_aload_n (q := 1) dX14_value_31 rfl rfl ?_
    refine a_iload (q := 0) dX14_value_32 rfl ?_
    refine a_bipush (v := 8) dX14_value_34 (by decide) ?_
    obtain ⟨_, e42, hf⟩ := obd hf
    obtain ⟨v40, h41, e39, hf⟩ := ob2 hf
    refine a_callV (as := [.int v3, .int 8]) (np := 2) (ci := 13) (st := []) (sX14_worksOut E (D - 1) (by omega) e39) dX14_value_36 rfl (by omega) (by decide) cw_X14_362 ⟨wd_1503, ws_97⟩ rfl (ckT_s e42) rfl (Nat.le_of_ble_eq_true rfl) ?_
    exact AW.sub [1, 2, 3, 4, 0] rfl (hj39 _ _ hf)
  · have hf := ifn c hf
    refine a_iconst (v := 0) dX14_value_27 (by decide) ?_
    refine a_goto (tgt := 39) dX14_value_28 (by decide) ?_
    exact AW.sub [1, 2, 3, 4, 0] rfl (hj39 _ _ hf)

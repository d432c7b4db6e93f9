def fX11_showReal (a0 : Nat) (a1 : Nat) (h : hp) : Option hp :=
  (gfF h a0 10 2).bind fun v1 =>
  jn (fun (h16j : hp) => (
    (gfF h16j a0 10 2).bind fun v3 =>
    jn (fun (s37_0 : UInt32) (h37j : hp) => (
      (fnn (FP.fsub s37_0 (FP.i2f (FP.f2i s37_0)))).bind fun v5 =>
      (fnn (FP.fmul v5 1148846080)).bind fun v7 =>
      (fX11_showInt (FP.f2i s37_0) a1 h37j).bind fun h10 =>
      (ckT h10 a1 4).bind fun _ =>
      bd2 (fX5_add a1 46 h10) fun v12 h13 =>
      (dvI (FP.f2i v7) 100).bind fun v15 =>
      (rmI v15 10).bind fun v17 =>
      (ckT h13 a1 4).bind fun _ =>
      bd2 (fX5_add a1 (48 + v17) h13) fun v20 h21 =>
      (dvI (FP.f2i v7) 10).bind fun v23 =>
      (rmI v23 10).bind fun v25 =>
      (ckT h21 a1 4).bind fun _ =>
      bd2 (fX5_add a1 (48 + v25) h21) fun v28 h29 =>
      (rmI (FP.f2i v7) 10).bind fun v31 =>
      (ckT h29 a1 4).bind fun _ =>
      bd2 (fX5_add a1 (48 + v31) h29) fun v34 h35 =>
      some h35
      : Option hp)) fun k37 =>
    if 0 ≤ (Op.cmpValue (FP.fcmp v3 FP.fconst0) .g) then (
      (gfF h16j a0 10 2).bind fun v37 =>
      k37 v37 h16j
    ) else (
      (gfF h16j a0 10 2).bind fun v39 =>
      k37 (FP.fneg v39) h16j
    )
    : Option hp)) fun k16 =>
  if 0 ≤ (Op.cmpValue (FP.fcmp v1 FP.fconst0) .g) then (
    k16 h
  ) else (
    (ckT h a1 4).bind fun _ =>
    bd2 (fX5_add a1 45 h) fun v42 h43 =>
    k16 h43
  )
set_option maxHeartbeats 4000000 in
set_option maxRecDepth 100000 in
theorem sX11_showReal (E : gE) (D : Nat) (hD : 2 ≤ D) {a0 : Nat} {a1 : Nat} {h hz : hp} (hf : fX11_showReal a0 a1 h = some hz) : MC E yX11_showReal cX11_showReal (Option.none : Option Jvm.ClassFile.FieldType) 5 D [.ref a0, .ref a1] h none hz := by
  refine MC.of (by decide +kernel) (Nat.le_of_ble_eq_true rfl) rfl ?_
  unfold fX11_showReal at hf
  show AW E yX11_showReal cX11_showReal (Option.none : Option Jvm.ClassFile.FieldType) 5 D none h hz 0 [(0, .ref a0), (1, .ref a1)] [] h
  refine a_aload_n (q := 0) dX11_showReal_0 rfl rfl ?_
  obtain ⟨v1, e2, hf⟩ := obd hf
  refine o_gfF dX11_showReal_1 lk_X11_29 rfl e2 ?_
  refine a_fconst0 dX11_showReal_4 ?_
  refine a_fcmp dX11_showReal_5 ?_
  obtain ⟨k16, ek16, hf⟩ := jn_s hf
  have hj16 : ∀ (h16j : hp), k16 h16j = some hz → AW E yX11_showReal cX11_showReal (Option.none : Option Jvm.ClassFile.FieldType) 5 D none h hz 16 [(0, .ref a0), (1, .ref a1)] [] h16j := by
    intro h16j hf
    rw [ek16] at hf
    clear ek16
    refine a_aload_n (q := 0) dX11_showReal_16 rfl rfl ?_
    obtain ⟨v3, e4, hf⟩ := obd hf
    refine o_gfF dX11_showReal_17 lk_X11_29 rfl e4 ?_
    refine a_fconst0 dX11_showReal_20 ?_
    refine a_fcmp dX11_showReal_21 ?_
    obtain ⟨k37, ek37, hf⟩ := jn_s hf
    have hj37 : ∀ (s37_0 : UInt32) (h37j : hp), k37 s37_0 h37j = some hz → AW E yX11_showReal cX11_showReal (Option.none : Option Jvm.ClassFile.FieldType) 5 D none h hz 37 [(1, .ref a1)] [.float s37_0] h37j := by
      intro s37_0 h37j hf
      rw [ek37] at hf
      clear ek37
      refine a_fstore_n (lv1 := [(2, .float s37_0), (1, .ref a1)]) dX11_showReal_37 rfl (by decide) rfl ?_
      refine a_fload_n (q := 0) dX11_showReal_38 rfl rfl ?_
      refine a_f2i dX11_showReal_39 ?_
      refine a_istore_n (lv1 := [(3, .int (FP.f2i s37_0)), (2, .float s37_0), (1, .ref a1)]) dX11_showReal_40 rfl (by decide) rfl ?_
      refine a_fload_n (q := 1) dX11_showReal_41 rfl rfl ?_
      refine a_iload_n (q := 0) dX11_showReal_42 rfl rfl ?_
      refine a_i2f dX11_showReal_43 ?_
      obtain ⟨v5, e6, hf⟩ := obd hf
      refine o_fsub dX11_showReal_44 e6 ?_
      refine a_ldcf (v := 1148846080) dX11_showReal_45 wd_368 ?_
      obtain ⟨v7, e8, hf⟩ := obd hf
      refine o_fmul dX11_showReal_47 e8 ?_
      refine a_f2i dX11_showReal_48 ?_
      refine a_istore (lv1 := [(4, .int (FP.f2i v7)), (3, .int (FP.f2i s37_0)), (2, .float s37_0), (1, .ref a1)]) dX11_showReal_49 (by decide) rfl ?_
      refine a_iload_n (q := 1) dX11_showReal_51 rfl rfl ?_
      refine a_aload_n (q := 3) dX11_showReal_52 rfl rfl ?_
      obtain ⟨h10, e9, hf⟩ := obd hf
      refine a_callS (as := [.int (FP.f2i s37_0), .ref a1]) (np := 2) (st := []) (sX11_showInt E (D - 1) (by omega) e9) dX11_showReal_53 rfl (by omega) (by decide) cw_X11_97 wd_355 rfl (Nat.le_of_ble_eq_true rfl) ?_
      refine a_aload_n (q := 3) dX11_showReal_56 rfl rfl ?_
      refine a_bipush (v := 46) dX11_showReal_57 (by decide) ?_
      obtain ⟨_, e14, hf⟩ := obd hf
      obtain ⟨v12, h13, e11, hf⟩ := ob2 hf
      refine a_callV (as := [.int 46]) (np := 1) (ci := 4) (st := []) (sX5_add E (D - 1) (by omega) e11) dX11_showReal_59 rfl (by omega) (by decide) cw_X11_105 ⟨wd_358, wd_359⟩ rfl (ckT_s e14) rfl (Nat.le_of_ble_eq_true rfl) ?_
      refine a_pop dX11_showReal_62 rfl ?_
      refine a_aload_n (q := 3) dX11_showReal_63 rfl rfl ?_
      refine a_bipush (v := 48) dX11_showReal_64 (by decide) ?_
      refine a_iload (q := 0) dX11_showReal_66 rfl ?_
      refine a_bipush (v := 100) dX11_showReal_68 (by decide) ?_
      obtain ⟨v15, e16, hf⟩ := obd hf
      refine o_dvI dX11_showReal_70 e16 ?_
      refine a_bipush (v := 10) dX11_showReal_71 (by decide) ?_
      obtain ⟨v17, e18, hf⟩ := obd hf
      refine o_rmI dX11_showReal_73 e18 ?_
      refine a_iadd dX11_showReal_74 ?_
      obtain ⟨_, e22, hf⟩ := obd hf
      obtain ⟨v20, h21, e19, hf⟩ := ob2 hf
      refine a_callV (as := [.int (48 + v17)]) (np := 1) (ci := 4) (st := []) (sX5_add E (D - 1) (by omega) e19) dX11_showReal_75 rfl (by omega) (by decide) cw_X11_105 ⟨wd_358, wd_359⟩ rfl (ckT_s e22) rfl (Nat.le_of_ble_eq_true rfl) ?_
      refine a_pop dX11_showReal_78 rfl ?_
      refine a_aload_n (q := 3) dX11_showReal_79 rfl rfl ?_
      refine a_bipush (v := 48) dX11_showReal_80 (by decide) ?_
      refine a_iload (q := 0) dX11_showReal_82 rfl ?_
      refine a_bipush (v := 10) dX11_showReal_84 (by decide) ?_
      obtain ⟨v23, e24, hf⟩ := obd hf
      refine o_dvI dX11_showReal_86 e24 ?_
      refine a_bipush (v := 10) dX11_showReal_87 (by decide) ?_
      obtain ⟨v25, e26, hf⟩ := obd hf
      refine o_rmI dX11_showReal_89 e26 ?_
      refine a_iadd dX11_showReal_90 ?_
      obtain ⟨_, e30, hf⟩ := obd hf
      obtain ⟨v28, h29, e27, hf⟩ := ob2 hf
      refine a_callV (as := [.int (48 + v25)]) (np := 1) (ci := 4) (st := []) (sX5_add E (D - 1) (by omega) e27) dX11_showReal_91 rfl (by omega) (by decide) cw_X11_105 ⟨wd_358, wd_359⟩ rfl (ckT_s e30) rfl (Nat.le_of_ble_eq_true rfl) ?_
      refine a_pop dX11_showReal_94 rfl ?_
      refine a_aload_n (q := 3) dX11_showReal_95 rfl rfl ?_
      refine a_bipush (v := 48) dX11_showReal_96 (by decide) ?_
      refine a_iload (q := 0) dX11_showReal_98 rfl ?_
      refine a_bipush (v := 10) dX11_showReal_100 (by decide) ?_
      obtain ⟨v31, e32, hf⟩ := obd hf
      refine o_rmI dX11_showReal_102 e32 ?_
      refine a_iadd dX11_showReal_103 ?_
      obtain ⟨_, e36, hf⟩ := obd hf
      obtain ⟨v34, h35, e33, hf⟩ := ob2 hf
      refine a_callV (as := [.int (48 + v31)]) (np := 1) (ci := 4) (st := []) (sX5_add E (D - 1) (by omega) e33) dX11_showReal_104 rfl (by omega) (by decide) cw_X11_105 ⟨wd_358, wd_359⟩ rfl (ckT_s e36) rfl (Nat.le_of_ble_eq_true rfl) ?_
      refine a_pop dX11_showReal_107 rfl ?_
      obtain rfl := Option.some.inj hf
      exact a_return dX11_showReal_108 rfl
    clear ek37
    refine a_if_ge (tgt := 33) dX11_showReal_22 (by decide) (fun c => ?_) (fun c => ?_)
    · have hf := ifp c hf
      refine a_aload_n (q := 0) dX11_showReal_33 rfl rfl ?_
      obtain ⟨v37, e38, hf⟩ := obd hf
      refine o_gfF dX11_showReal_34 lk_X11_29 rfl e38 ?_
      exact AW.sub [1] rfl (hj37 _ _ hf)
    · have hf := ifn c hf
      refine a_aload_n (q := 0) dX11_showReal_25 rfl rfl ?_
      obtain ⟨v39, e40, hf⟩ := obd hf
      refine o_gfF dX11_showReal_26 lk_X11_29 rfl e40 ?_
      refine a_fneg dX11_showReal_29 ?_
      refine a_goto (tgt := 37) dX11_showReal_30 (by decide) ?_
      exact AW.sub [1] rfl (hj37 _ _ hf)
  clear ek16
  refine a_if_ge (tgt := 16) dX11_showReal_6 (by decide) (fun c => ?_) (fun c => ?_)
  · have hf := ifp c hf
    exact hj16 _ hf
  · have hf := ifn c hf
    refine a_aload_n (q := 1) dX11_showReal_9 rfl rfl ?_
    refine a_bipush (v := 45) dX11_showReal_10 (by decide) ?_
    obtain ⟨_, e44, hf⟩ := obd hf
    obtain ⟨v42, h43, e41, hf⟩ := ob2 hf
    refine a_callV (as := [.int 45]) (np := 1) (ci := 4) (st := []) (sX5_add E (D - 1) (by omega) e41) dX11_showReal_12 rfl (by omega) (by decide) cw_X11_105 ⟨wd_358, wd_359⟩ rfl (ckT_s e44) rfl (Nat.le_of_ble_eq_true rfl) ?_
    refine a_pop dX11_showReal_15 rfl ?_
    exact hj16 _ hf
def fX11_showInto_l53 : Nat → Nat → Nat → Int32 → hp → Option hp
  | 0, _, _, _, _ => none
  | n + 1, x0, x1, x2, h =>
    (gfI h x0 10 3).bind fun v1 =>
    if v1 ≤ x2 then (
      some (h)
    ) else (
      (ckT h x0 10).bind fun _ =>
      bd2 (fX11_at x0 x2 h) fun v4 h5 =>
      (ckT h5 x1 4).bind fun _ =>
      bd2 (fX5_add x1 v4 h5) fun v8 h9 =>
      fX11_showInto_l53 n x0 x1 (x2 + 1) h9
    )
def fX11_showInto_l80 : Nat → Nat → Nat → Int32 → hp → Option hp
  | 0, _, _, _, _ => none
  | n + 1, x0, x1, x2, h =>
    (gfI h x0 10 3).bind fun v1 =>
    if v1 ≤ x2 then (
      some (h)
    ) else (
      jn (fun (h99j : hp) => (
        (ckT h99j x0 10).bind fun _ =>
        bd2 (fX11_at x0 x2 h99j) fun v4 h5 =>
        (fX11_showInt v4 x1 h5).bind fun h8 =>
        fX11_showInto_l80 n x0 x1 (x2 + 1) h8
        : Option hp)) fun k99 =>
      if x2 ≤ 0 then (
        k99 h
      ) else (
        (ckT h x1 4).bind fun _ =>
        bd2 (fX5_add x1 44 h) fun v10 h11 =>
        k99 h11
      )
    )
def fX11_showInto (a0 : Nat) (a1 : Nat) (h : hp) : Option hp :=
  (gfI h a0 10 0).bind fun v1 =>
  if v1 = 1 then (
    (gfI h a0 10 1).bind fun v3 =>
    (fX11_showInt v3 a1 h).bind fun h6 =>
    some h6
  ) else (
  if v1 = 2 then (
    (ckT h a0 10).bind fun _ =>
    (fX11_showReal a0 a1 h).bind fun h8 =>
    some h8
  ) else (
  if v1 = 3 then (
    (fX11_showInto_l53 FU a0 a1 0 h).bind fun h11 =>
    some h11
  ) else (
  if v1 = 4 then (
    (fX11_showInto_l80 FU a0 a1 0 h).bind fun h13 =>
    some h13
  ) else (
    some h
  ))))
set_option maxHeartbeats 4000000 in
set_option maxRecDepth 100000 in
theorem sX11_showInto_l53 (E : gE) (D : Nat) (hD : 3 ≤ D) {rz : Option Value} {h0 hz : hp} : ∀ (n : Nat) (x0 : Nat) (x1 : Nat) (x2 : Int32) (h : hp) (hq : hp), fX11_showInto_l53 n x0 x1 x2 h = some hq → (AW E yX11_showInto cX11_showInto (Option.none : Option Jvm.ClassFile.FieldType) 3 D rz h0 hz 77 [] [] hq) → AW E yX11_showInto cX11_showInto (Option.none : Option Jvm.ClassFile.FieldType) 3 D rz h0 hz 53 [(0, .ref x0), (1, .ref x1), (2, .int x2)] [] h := by
  intro n
  induction n with
  | zero =>
    intro x0 x1 x2 h hq hf _
    rw [fX11_showInto_l53] at hf
    cases hf
  | succ n ih =>
    intro x0 x1 x2 h hq hf hk0
    rw [fX11_showInto_l53] at hf
    refine a_iload_n (q := 2) dX11_showInto_53 rfl rfl ?_
    refine a_aload_n (q := 0) dX11_showInto_54 rfl rfl ?_
    obtain ⟨v1, e2, hf⟩ := obd hf
    refine o_gfI dX11_showInto_55 lk_X11_19 rfl e2 ?_
    refine a_icmp_ge (tgt := 77) dX11_showInto_58 (by decide) (fun c => ?_) (fun c => ?_)
    · have hf := ifp c hf
      obtain rfl := Option.some.inj hf
      exact AW.sub [] rfl (hk0)
    · have hf := ifn c hf
      refine a_aload_n (q := 1) dX11_showInto_61 rfl rfl ?_
      refine a_aload_n (q := 0) dX11_showInto_62 rfl rfl ?_
      refine a_iload_n (q := 2) dX11_showInto_63 rfl rfl ?_
      obtain ⟨_, e6, hf⟩ := obd hf
      obtain ⟨v4, h5, e3, hf⟩ := ob2 hf
      refine a_callV (as := [.int x2]) (np := 1) (ci := 10) (st := [.ref x1]) (sX11_at E (D - 1) (by omega) e3) dX11_showInto_64 rfl (by omega) (by decide) cw_X11_96 ⟨wd_338, wd_339⟩ rfl (ckT_s e6) rfl (Nat.le_of_ble_eq_true rfl) ?_
      obtain ⟨_, e10, hf⟩ := obd hf
      obtain ⟨v8, h9, e7, hf⟩ := ob2 hf
      refine a_callV (as := [.int v4]) (np := 1) (ci := 4) (st := []) (sX5_add E (D - 1) (by omega) e7) dX11_showInto_67 rfl (by omega) (by decide) cw_X11_105 ⟨wd_358, wd_359⟩ rfl (ckT_s e10) rfl (Nat.le_of_ble_eq_true rfl) ?_
      refine a_pop dX11_showInto_70 rfl ?_
      refine a_iinc (q := 2) (v := (x2 + 1)) (lv1 := [(2, .int (x2 + 1)), (0, .ref x0), (1, .ref x1)]) dX11_showInto_71 rfl (by rfl) (by decide) rfl ?_
      refine a_goto (tgt := 53) dX11_showInto_74 (by decide) ?_
      exact AW.sub [1, 2, 0] rfl (ih _ _ _ _ _ hf hk0)
set_option maxHeartbeats 4000000 in
set_option maxRecDepth 100000 in
theorem sX11_showInto_l80 (E : gE) (D : Nat) (hD : 3 ≤ D) {rz : Option Value} {h0 hz : hp} : ∀ (n : Nat) (x0 : Nat) (x1 : Nat) (x2 : Int32) (h : hp) (hq : hp), fX11_showInto_l80 n x0 x1 x2 h = some hq → (AW E yX11_showInto cX11_showInto (Option.none : Option Jvm.ClassFile.FieldType) 3 D rz h0 hz 114 [] [] hq) → AW E yX11_showInto cX11_showInto (Option.none : Option Jvm.ClassFile.FieldType) 3 D rz h0 hz 80 [(0, .ref x0), (1, .ref x1), (2, .int x2)] [] h := by
  intro n
  induction n with
  | zero =>
    intro x0 x1 x2 h hq hf _
    rw [fX11_showInto_l80] at hf
    cases hf
  | succ n ih =>
    intro x0 x1 x2 h hq hf hk0
    rw [fX11_showInto_l80] at hf
    refine a_iload_n (q := 2) dX11_showInto_80 rfl rfl ?_
    refine a_aload_n (q := 0) dX11_showInto_81 rfl rfl ?_
    obtain ⟨v1, e2, hf⟩ := obd hf
    refine o_gfI dX11_showInto_82 lk_X11_19 rfl e2 ?_
    refine a_icmp_ge (tgt := 114) dX11_showInto_85 (by decide) (fun c => ?_) (fun c => ?_)
    · have hf := ifp c hf
      obtain rfl := Option.some.inj hf
      exact AW.sub [] rfl (hk0)
    · have hf := ifn c hf
      refine a_iload_n (q := 2) dX11_showInto_88 rfl rfl ?_
      obtain ⟨k99, ek99, hf⟩ := jn_s hf
      have hj99 : ∀ (h99j : hp), k99 h99j = some hq → AW E yX11_showInto cX11_showInto (Option.none : Option Jvm.ClassFile.FieldType) 3 D rz h0 hz 99 [(0, .ref x0), (1, .ref x1), (2, .int x2)] [] h99j := by
        intro h99j hf
        rw [ek99] at hf
        clear ek99
        refine a_aload_n (q := 0) dX11_showInto_99 rfl rfl ?_
        refine a_iload_n (q := 2) dX11_showInto_100 rfl rfl ?_
        obtain ⟨_, e6, hf⟩ := obd hf
        obtain ⟨v4, h5, e3, hf⟩ := ob2 hf
        refine a_callV (as := [.int x2]) (np := 1) (ci := 10) (st := []) (sX11_at E (D - 1) (by omega) e3) dX11_showInto_101 rfl (by omega) (by decide) cw_X11_96 ⟨wd_338, wd_339⟩ rfl (ckT_s e6) rfl (Nat.le_of_ble_eq_true rfl) ?_
        refine a_aload_n (q := 1) dX11_showInto_104 rfl rfl ?_
        obtain ⟨h8, e7, hf⟩ := obd hf
        refine a_callS (as := [.int v4, .ref x1]) (np := 2) (st := []) (sX11_showInt E (D - 1) (by omega) e7) dX11_showInto_105 rfl (by omega) (by decide) cw_X11_97 wd_355 rfl (Nat.le_of_ble_eq_true rfl) ?_
        refine a_iinc (q := 2) (v := (x2 + 1)) (lv1 := [(2, .int (x2 + 1)), (0, .ref x0), (1, .ref x1)]) dX11_showInto_108 rfl (by rfl) (by decide) rfl ?_
        refine a_goto (tgt := 80) dX11_showInto_111 (by decide) ?_
        exact AW.sub [1, 2, 0] rfl (ih _ _ _ _ _ hf hk0)
      clear ek99
      refine a_if_le (tgt := 99) dX11_showInto_89 (by decide) (fun c => ?_) (fun c => ?_)
      · have hf := ifp c hf
        exact hj99 _ hf
      · have hf := ifn c hf
        refine a_aload_n (q := 1) dX11_showInto_92 rfl rfl ?_
        refine a_bipush (v := 44) dX11_showInto_93 (by decide) ?_
        obtain ⟨_, e12, hf⟩ := obd hf
        obtain ⟨v10, h11, e9, hf⟩ := ob2 hf
        refine a_callV (as := [.int 44]) (np := 1) (ci := 4) (st := []) (sX5_add E (D - 1) (by omega) e9) dX11_showInto_95 rfl (by omega) (by decide) cw_X11_105 ⟨wd_358, wd_359⟩ rfl (ckT_s e12) rfl (Nat.le_of_ble_eq_true rfl) ?_
        refine a_pop dX11_showInto_98 rfl ?_
        exact hj99 _ hf
set_option maxHeartbeats 4000000 in
set_option maxRecDepth 100000 in
theorem sX11_showInto (E : gE) (D : Nat) (hD : 3 ≤ D) {a0 : Nat} {a1 : Nat} {h hz : hp} (hf : fX11_showInto a0 a1 h = some hz) : MC E yX11_showInto cX11_showInto (Option.none : Option Jvm.ClassFile.FieldType) 3 D [.ref a0, .ref a1] h none hz := by
  refine MC.of (by decide +kernel) (Nat.le_of_ble_eq_true rfl) rfl ?_
  unfold fX11_showInto at hf
  show AW E yX11_showInto cX11_showInto (Option.none : Option Jvm.ClassFile.FieldType) 3 D none h hz 0 [(0, .ref a0), (1, .ref a1)] [] h
  refine a_aload_n (q := 0) dX11_showInto_0 rfl rfl ?_
  obtain ⟨v1, e2, hf⟩ := obd hf
  refine o_gfI dX11_showInto_1 lk_X11_23 rfl e2 ?_
  by_cases c4_0 : v1 = 1
  · have hf := ifp c4_0 hf
    refine a_tblIn (k := 1) (off := 32) (tgt := 36) dX11_showInto_4 c4_0 (by decide) (by decide) rfl (by decide) ?_
    refine a_aload_n (q := 0) dX11_showInto_36 rfl rfl ?_
    obtain ⟨v3, e4, hf⟩ := obd hf
    refine o_gfI dX11_showInto_37 lk_X11_26 rfl e4 ?_
    refine a_aload_n (q := 1) dX11_showInto_40 rfl rfl ?_
    obtain ⟨h6, e5, hf⟩ := obd hf
    refine a_callS (as := [.int v3, .ref a1]) (np := 2) (st := []) (sX11_showInt E (D - 1) (by omega) e5) dX11_showInto_41 rfl (by omega) (by decide) cw_X11_97 wd_355 rfl (Nat.le_of_ble_eq_true rfl) ?_
    obtain rfl := Option.some.inj hf
    exact a_return dX11_showInto_44 rfl
  have hf := ifn c4_0 hf
  by_cases c4_1 : v1 = 2
  · have hf := ifp c4_1 hf
    refine a_tblIn (k := 2) (off := 41) (tgt := 45) dX11_showInto_4 c4_1 (by decide) (by decide) rfl (by decide) ?_
    refine a_aload_n (q := 0) dX11_showInto_45 rfl rfl ?_
    refine a_aload_n (q := 1) dX11_showInto_46 rfl rfl ?_
    obtain ⟨_, e9, hf⟩ := obd hf
    obtain ⟨h8, e7, hf⟩ := obd hf
    refine a_callV (as := [.ref a1]) (np := 1) (ci := 10) (st := []) (sX11_showReal E (D - 1) (by omega) e7) dX11_showInto_47 rfl (by omega) (by decide) cw_X11_101 ⟨wd_366, ws_2⟩ rfl (ckT_s e9) rfl (Nat.le_of_ble_eq_true rfl) ?_
    obtain rfl := Option.some.inj hf
    exact a_return dX11_showInto_50 rfl
  have hf := ifn c4_1 hf
  by_cases c4_2 : v1 = 3
  · have hf := ifp c4_2 hf
    refine a_tblIn (k := 3) (off := 47) (tgt := 51) dX11_showInto_4 c4_2 (by decide) (by decide) rfl (by decide) ?_
    refine a_iconst (v := 0) dX11_showInto_51 (by decide) ?_
    refine a_istore_n (lv1 := [(2, .int 0), (0, .ref a0), (1, .ref a1)]) dX11_showInto_52 rfl (by decide) rfl ?_
    obtain ⟨h11, e10, hf⟩ := obd hf
    refine AW.sub [1, 2, 0] rfl (sX11_showInto_l53 E D hD _ _ _ _ _ _ e10 ?_)
    obtain rfl := Option.some.inj hf
    exact a_return dX11_showInto_77 rfl
  have hf := ifn c4_2 hf
  by_cases c4_3 : v1 = 4
  · have hf := ifp c4_3 hf
    refine a_tblIn (k := 4) (off := 74) (tgt := 78) dX11_showInto_4 c4_3 (by decide) (by decide) rfl (by decide) ?_
    refine a_iconst (v := 0) dX11_showInto_78 (by decide) ?_
    refine a_istore_n (lv1 := [(2, .int 0), (0, .ref a0), (1, .ref a1)]) dX11_showInto_79 rfl (by decide) rfl ?_
    obtain ⟨h13, e12, hf⟩ := obd hf
    refine AW.sub [1, 2, 0] rfl (sX11_showInto_l80 E D hD _ _ _ _ _ _ e12 ?_)
    obtain rfl := Option.some.inj hf
    exact a_return dX11_showInto_114 rfl
  have hf := ifn c4_3 hf
  have t4_0 := lv_neT (a := 1) c4_0 rfl
  have t4_1 := lv_neT (a := 2) c4_1 rfl
  have t4_2 := lv_neT (a := 3) c4_2 rfl
  have t4_3 := lv_neT (a := 4) c4_3 rfl
  refine a_tblOut (tgt := 115) dX11_showInto_4 (by omega) (by decide) ?_
  obtain rfl := Option.some.inj hf
  exact a_return dX11_showInto_115 rfl
def fX11_becomeItem (a0 : Nat) (a1 : Int32) (h : hp) : Option (Int32 × hp) :=
  (ckT h a0 10).bind fun _ =>
  bd2 (fX11_at a0 a1 h) fun v2 h3 =>
  (gfI h3 a0 10 3).bind fun v5 =>
  bd2 (fX13_among a1 v5 h3) fun v8 h9 =>
  if v8 = 0 then (
    (ckT h9 a0 10).bind fun _ =>
    (fX11_becomeNothing a0 h9).bind fun h11 =>
    some (0, h11)
  ) else (
    (ckT h9 a0 10).bind fun _ =>
    (fX11_becomeInt a0 v2 h9).bind fun h14 =>
    some (0, h14)
  )
set_option maxHeartbeats 4000000 in
set_option maxRecDepth 100000 in
theorem sX11_becomeItem (E : gE) (D : Nat) (hD : 1 ≤ D) {a0 : Nat} {a1 : Int32} {h hz : hp} {v0 : Int32} (hf : fX11_becomeItem a0 a1 h = some (v0, hz)) : MC E yX11_becomeItem cX11_becomeItem (Option.some Jvm.ClassFile.FieldType.int) 3 D [.ref a0, .int a1] h (some (.int v0)) hz := by
  refine MC.of (by decide +kernel) (Nat.le_of_ble_eq_true rfl) rfl ?_
  unfold fX11_becomeItem at hf
  show AW E yX11_becomeItem cX11_becomeItem (Option.some Jvm.ClassFile.FieldType.int) 3 D (some (.int v0)) h hz 0 [(0, .ref a0), (1, .int a1)] [] h
  refine a_aload_n (q := 0) dX11_becomeItem_0 rfl rfl ?_
  refine a_iload_n (q := 1) dX11_becomeItem_1 rfl rfl ?_
  obtain ⟨_, e4, hf⟩ := obd hf
  obtain ⟨v2, h3, e1, hf⟩ := ob2 hf
  refine a_callV (as := [.int a1]) (np := 1) (ci := 10) (st := []) (sX11_at E (D - 1) (by omega) e1) dX11_becomeItem_2 rfl (by omega) (by decide) cw_X11_96 ⟨wd_338, wd_339⟩ rfl (ckT_s e4) rfl (Nat.le_of_ble_eq_true rfl) ?_
  refine a_istore_n (lv1 := [(2, .int v2), (0, .ref a0), (1, .int a1)]) dX11_becomeItem_5 rfl (by decide) rfl ?_
  refine a_iload_n (q := 2) dX11_becomeItem_6 rfl rfl ?_
  refine a_aload_n (q := 1) dX11_becomeItem_7 rfl rfl ?_
  obtain ⟨v5, e6, hf⟩ := obd hf
  refine o_gfI dX11_becomeItem_8 lk_X11_19 rfl e6 ?_
  obtain ⟨v8, h9, e7, hf⟩ := ob2 hf
  refine a_callS (as := [.int a1, .int v5]) (np := 2) (st := []) (sX13_among E (D - 1) (by omega) e7) dX11_becomeItem_11 rfl (by omega) (by decide) cw_X11_194 wd_268 rfl (Nat.le_of_ble_eq_true rfl) ?_
  refine a_if_eq (tgt := 25) dX11_becomeItem_14 (by decide) (fun c => ?_) (fun c => ?_)
  · have hf := ifp c hf
    refine a_aload_n (q := 1) dX11_becomeItem_25 rfl rfl ?_
    obtain ⟨_, e12, hf⟩ := obd hf
    obtain ⟨h11, e10, hf⟩ := obd hf
    refine a_callV (as := []) (np := 0) (ci := 10) (st := []) (sX11_becomeNothing E (D - 1) (by omega) e10) dX11_becomeItem_26 rfl (by omega) (by decide) cw_X11_198 ⟨wd_271, wd_272⟩ rfl (ckT_s e12) rfl (Nat.le_of_ble_eq_true rfl) ?_
    refine a_iconst (v := 0) dX11_becomeItem_29 (by decide) ?_
    obtain ⟨rfl, rfl⟩ := oc2 hf
    exact a_ireturn dX11_becomeItem_30 rfl
  · have hf := ifn c hf
    refine a_aload_n (q := 1) dX11_becomeItem_17 rfl rfl ?_
    refine a_iload_n (q := 0) dX11_becomeItem_18 rfl rfl ?_
    obtain ⟨_, e15, hf⟩ := obd hf
    obtain ⟨h14, e13, hf⟩ := obd hf
    refine a_callV (as := [.int v2]) (np := 1) (ci := 10) (st := []) (sX11_becomeInt E (D - 1) (by omega) e13) dX11_becomeItem_19 rfl (by omega) (by decide) cw_X11_124 ⟨wd_284, wd_285⟩ rfl (ckT_s e15) rfl (Nat.le_of_ble_eq_true rfl) ?_
    refine a_goto (tgt := 29) dX11_becomeItem_22 (by decide) ?_
    refine a_iconst (v := 0) dX11_becomeItem_29 (by decide) ?_
    obtain ⟨rfl, rfl⟩ := oc2 hf
    exact a_ireturn dX11_becomeItem_30 rfl
def fX11_exchange (a0 : Nat) (a1 : Int32) (a2 : Int32) (h : hp) : Option hp :=
  if a1 < 0 then (
    some h
  ) else (
    (gfR h a0 10 4).bind fun v1 =>
    (aln 0 h v1).bind fun v3 =>
    if v3 ≤ a1 then (
      some h
    ) else (
      if a2 < 0 then (
        some h
      ) else (
        (gfR h a0 10 4).bind fun v5 =>
        (aln 0 h v5).bind fun v7 =>
        if a2 < v7 then (
          (gfR h a0 10 4).bind fun v9 =>
          (alI h v9 a1).bind fun v11 =>
          (gfR h a0 10 4).bind fun v13 =>
          (gfR h a0 10 4).bind fun v15 =>
          (alI h v15 a2).bind fun v17 =>
          (asI h v13 a1 v17).bind fun h19 =>
          (gfR h19 a0 10 4).bind fun v21 =>
          (asI h19 v21 a2 v11).bind fun h23 =>
          some h23
        ) else (
          some h
        )
      )
    )
  )
set_option maxHeartbeats 4000000 in
set_option maxRecDepth 100000 in
theorem sX11_exchange (E : gE) (D : Nat) (hD : 0 ≤ D) {a0 : Nat} {a1 : Int32} {a2 : Int32} {h hz : hp} (hf : fX11_exchange a0 a1 a2 h = some hz) : MC E yX11_exchange cX11_exchange (Option.none : Option Jvm.ClassFile.FieldType) 4 D [.ref a0, .int a1, .int a2] h none hz := by
  refine MC.of (by decide +kernel) (Nat.le_of_ble_eq_true rfl) rfl ?_
  unfold fX11_exchange at hf
  show AW E yX11_exchange cX11_exchange (Option.none : Option Jvm.ClassFile.FieldType) 4 D none h hz 0 [(0, .ref a0), (1, .int a1), (2, .int a2)] [] h
  refine a_iload_n (q := 1) dX11_exchange_0 rfl rfl ?_
  refine a_if_lt (tgt := 26) dX11_exchange_1 (by decide) (fun c => ?_) (fun c => ?_)
  · have hf := ifp c hf
    obtain rfl := Option.some.inj hf
    exact a_return dX11_exchange_26 rfl
  · have hf := ifn c hf
    refine a_iload_n (q := 1) dX11_exchange_4 rfl rfl ?_
    refine a_aload_n (q := 0) dX11_exchange_5 rfl rfl ?_
    obtain ⟨v1, e2, hf⟩ := obd hf
    refine o_gfR dX11_exchange_6 lk_X11_9 rfl e2 ?_
    obtain ⟨v3, e4, hf⟩ := obd hf
    refine o_aln dX11_exchange_9 (by decide) e4 ?_
    refine a_icmp_ge (tgt := 26) dX11_exchange_10 (by decide) (fun c => ?_) (fun c => ?_)
    · have hf := ifp c hf
      obtain rfl := Option.some.inj hf
      exact a_return dX11_exchange_26 rfl
    · have hf := ifn c hf
      refine a_iload_n (q := 2) dX11_exchange_13 rfl rfl ?_
      refine a_if_lt (tgt := 26) dX11_exchange_14 (by decide) (fun c => ?_) (fun c => ?_)
      · have hf := ifp c hf
        obtain rfl := Option.some.inj hf
        exact a_return dX11_exchange_26 rfl
      · have hf := ifn c hf
        refine a_iload_n (q := 2) dX11_exchange_17 rfl rfl ?_
        refine a_aload_n (q := 0) dX11_exchange_18 rfl rfl ?_
        obtain ⟨v5, e6, hf⟩ := obd hf
        refine o_gfR dX11_exchange_19 lk_X11_9 rfl e6 ?_
        obtain ⟨v7, e8, hf⟩ := obd hf
        refine o_aln dX11_exchange_22 (by decide) e8 ?_
        refine a_icmp_lt (tgt := 27) dX11_exchange_23 (by decide) (fun c => ?_) (fun c => ?_)
        · have hf := ifp c hf
          refine a_aload_n (q := 0) dX11_exchange_27 rfl rfl ?_
          obtain ⟨v9, e10, hf⟩ := obd hf
          refine o_gfR dX11_exchange_28 lk_X11_9 rfl e10 ?_
          refine a_iload_n (q := 1) dX11_exchange_31 rfl rfl ?_
          obtain ⟨v11, e12, hf⟩ := obd hf
          refine o_alI dX11_exchange_32 e12 ?_
          refine a_istore_n (lv1 := [(3, .int v11), (0, .ref a0), (1, .int a1), (2, .int a2)]) dX11_exchange_33 rfl (by decide) rfl ?_
          refine a_aload_n (q := 1) dX11_exchange_34 rfl rfl ?_
          obtain ⟨v13, e14, hf⟩ := obd hf
          refine o_gfR dX11_exchange_35 lk_X11_9 rfl e14 ?_
          refine a_iload_n (q := 2) dX11_exchange_38 rfl rfl ?_
          refine a_aload_n (q := 1) dX11_exchange_39 rfl rfl ?_
          obtain ⟨v15, e16, hf⟩ := obd hf
          refine o_gfR dX11_exchange_40 lk_X11_9 rfl e16 ?_
          refine a_iload_n (q := 3) dX11_exchange_43 rfl rfl ?_
          obtain ⟨v17, e18, hf⟩ := obd hf
          refine o_alI dX11_exchange_44 e18 ?_
          obtain ⟨h19, e20, hf⟩ := obd hf
          refine o_asI dX11_exchange_45 e20 ?_
          refine a_aload_n (q := 1) dX11_exchange_46 rfl rfl ?_
          obtain ⟨v21, e22, hf⟩ := obd hf
          refine o_gfR dX11_exchange_47 lk_X11_9 rfl e22 ?_
          refine a_iload_n (q := 3) dX11_exchange_50 rfl rfl ?_
          refine a_iload_n (q := 0) dX11_exchange_51 rfl rfl ?_
          obtain ⟨h23, e24, hf⟩ := obd hf
          refine o_asI dX11_exchange_52 e24 ?_
          obtain rfl := Option.some.inj hf
          exact a_return dX11_exchange_53 rfl
        · have hf := ifn c hf
          obtain rfl := Option.some.inj hf
          exact a_return dX11_exchange_26 rfl
def fX11_sortItems_l12 : Nat → Nat → Int32 → Int32 → hp → Option hp
  | 0, _, _, _, _ => none
  | n + 1, x0, x1, x2, h =>
    if x2 ≤ 0 then (
      some (h)
    ) else (
      (ckT h x0 10).bind fun _ =>
      bd2 (fX11_at x0 x2 h) fun v2 h3 =>
      (ckT h3 x0 10).bind fun _ =>
      bd2 (fX11_at x0 (x2 - 1) h3) fun v6 h7 =>
      if v6 ≤ v2 then (
        some (h7)
      ) else (
        (ckT h7 x0 10).bind fun _ =>
        (fX11_exchange x0 x2 (x2 - 1) h7).bind fun h10 =>
        fX11_sortItems_l12 n x0 x1 (x2 + (-1)) h10
      )
    )
def fX11_sortItems_l2 : Nat → Nat → Int32 → hp → Option hp
  | 0, _, _, _ => none
  | n + 1, x0, x1, h =>
    (gfI h x0 10 3).bind fun v1 =>
    if v1 ≤ x1 then (
      some (h)
    ) else (
      (fX11_sortItems_l12 FU x0 x1 x1 h).bind fun h4 =>
      fX11_sortItems_l2 n x0 (x1 + 1) h4
    )
def fX11_sortItems (a0 : Nat) (h : hp) : Option hp :=
  (fX11_sortItems_l2 FU a0 1 h).bind fun h2 =>
  some h2
set_option maxHeartbeats 4000000 in
set_option maxRecDepth 100000 in
theorem sX11_sortItems_l12 (E : gE) (D : Nat) (hD : 1 ≤ D) {rz : Option Value} {h0 hz : hp} : ∀ (n : Nat) (x0 : Nat) (x1 : Int32) (x2 : Int32) (h : hp) (hq : hp), fX11_sortItems_l12 n x0 x1 x2 h = some hq → (AW E yX11_sortItems cX11_sortItems (Option.none : Option Jvm.ClassFile.FieldType) 3 D rz h0 hz 45 [(0, .ref x0), (1, .int x1)] [] hq) → AW E yX11_sortItems cX11_sortItems (Option.none : Option Jvm.ClassFile.FieldType) 3 D rz h0 hz 12 [(0, .ref x0), (1, .int x1), (2, .int x2)] [] h := by
  intro n
  induction n with
  | zero =>
    intro x0 x1 x2 h hq hf _
    rw [fX11_sortItems_l12] at hf
    cases hf
  | succ n ih =>
    intro x0 x1 x2 h hq hf hk0
    rw [fX11_sortItems_l12] at hf
    refine a_iload_n (q := 2) dX11_sortItems_12 rfl rfl ?_
    refine a_if_le (tgt := 45) dX11_sortItems_13 (by decide) (fun c => ?_) (fun c => ?_)
    · have hf := ifp c hf
      obtain rfl := Option.some.inj hf
      exact AW.sub [0, 1] rfl (hk0)
    · have hf := ifn c hf
      refine a_aload_n (q := 0) dX11_sortItems_16 rfl rfl ?_
      refine a_iload_n (q := 2) dX11_sortItems_17 rfl rfl ?_
      obtain ⟨_, e4, hf⟩ := obd hf
      obtain ⟨v2, h3, e1, hf⟩ := ob2 hf
      refine a_callV (as := [.int x2]) (np := 1) (ci := 10) (st := []) (sX11_at E (D - 1) (by omega) e1) dX11_sortItems_18 rfl (by omega) (by decide) cw_X11_96 ⟨wd_338, wd_339⟩ rfl (ckT_s e4) rfl (Nat.le_of_ble_eq_true rfl) ?_
      refine a_aload_n (q := 0) dX11_sortItems_21 rfl rfl ?_
      refine a_iload_n (q := 2) dX11_sortItems_22 rfl rfl ?_
      refine a_iconst (v := 1) dX11_sortItems_23 (by decide) ?_
      refine a_isub dX11_sortItems_24 ?_
      obtain ⟨_, e8, hf⟩ := obd hf
      obtain ⟨v6, h7, e5, hf⟩ := ob2 hf
      refine a_callV (as := [.int (x2 - 1)]) (np := 1) (ci := 10) (st := [.int v2]) (sX11_at E (D - 1) (by omega) e5) dX11_sortItems_25 rfl (by omega) (by decide) cw_X11_96 ⟨wd_338, wd_339⟩ rfl (ckT_s e8) rfl (Nat.le_of_ble_eq_true rfl) ?_
      refine a_icmp_ge (tgt := 45) dX11_sortItems_28 (by decide) (fun c => ?_) (fun c => ?_)
      · have hf := ifp c hf
        obtain rfl := Option.some.inj hf
        exact AW.sub [0, 1] rfl (hk0)
      · have hf := ifn c hf
        refine a_aload_n (q := 0) dX11_sortItems_31 rfl rfl ?_
        refine a_iload_n (q := 2) dX11_sortItems_32 rfl rfl ?_
        refine a_iload_n (q := 2) dX11_sortItems_33 rfl rfl ?_
        refine a_iconst (v := 1) dX11_sortItems_34 (by decide) ?_
        refine a_isub dX11_sortItems_35 ?_
        obtain ⟨_, e11, hf⟩ := obd hf
        obtain ⟨h10, e9, hf⟩ := obd hf
        refine a_callV (as := [.int x2, .int (x2 - 1)]) (np := 2) (ci := 10) (st := []) (sX11_exchange E (D - 1) (by omega) e9) dX11_sortItems_36 rfl (by omega) (by decide) cw_X11_191 ⟨wd_893, ws_43⟩ rfl (ckT_s e11) rfl (Nat.le_of_ble_eq_true rfl) ?_
        refine a_iinc (q := 2) (v := (x2 + (-1))) (lv1 := [(2, .int (x2 + (-1))), (0, .ref x0), (1, .int x1)]) dX11_sortItems_39 rfl (by rfl) (by decide) rfl ?_
        refine a_goto (tgt := 12) dX11_sortItems_42 (by decide) ?_
        exact AW.sub [1, 2, 0] rfl (ih _ _ _ _ _ hf hk0)
set_option maxHeartbeats 4000000 in
set_option maxRecDepth 100000 in
theorem sX11_sortItems_l2 (E : gE) (D : Nat) (hD : 1 ≤ D) {rz : Option Value} {h0 hz : hp} : ∀ (n : Nat) (x0 : Nat) (x1 : Int32) (h : hp) (hq : hp), fX11_sortItems_l2 n x0 x1 h = some hq → (AW E yX11_sortItems cX11_sortItems (Option.none : Option Jvm.ClassFile.FieldType) 3 D rz h0 hz 51 [] [] hq) → AW E yX11_sortItems cX11_sortItems (Option.none : Option Jvm.ClassFile.FieldType) 3 D rz h0 hz 2 [(0, .ref x0), (1, .int x1)] [] h := by
  intro n
  induction n with
  | zero =>
    intro x0 x1 h hq hf _
    rw [fX11_sortItems_l2] at hf
    cases hf
  | succ n ih =>
    intro x0 x1 h hq hf hk0
    rw [fX11_sortItems_l2] at hf
    refine a_iload_n (q := 1) dX11_sortItems_2 rfl rfl ?_
    refine a_aload_n (q := 0) dX11_sortItems_3 rfl rfl ?_
    obtain ⟨v1, e2, hf⟩ := obd hf
    refine o_gfI dX11_sortItems_4 lk_X11_19 rfl e2 ?_
    refine a_icmp_ge (tgt := 51) dX11_sortItems_7 (by decide) (fun c => ?_) (fun c => ?_)
    · have hf := ifp c hf
      obtain rfl := Option.some.inj hf
      exact AW.sub [] rfl (hk0)
    · have hf := ifn c hf
      refine a_iload_n (q := 1) dX11_sortItems_10 rfl rfl ?_
      refine a_istore_n (lv1 := [(2, .int x1), (0, .ref x0), (1, .int x1)]) dX11_sortItems_11 rfl (by decide) rfl ?_
      obtain ⟨h4, e3, hf⟩ := obd hf
      refine AW.sub [1, 2, 0] rfl (sX11_sortItems_l12 E D hD _ _ _ _ _ _ e3 ?_)
      refine a_iinc (q := 1) (v := (x1 + 1)) (lv1 := [(1, .int (x1 + 1)), (0, .ref x0)]) dX11_sortItems_45 rfl (by rfl) (by decide) rfl ?_
      refine a_goto (tgt := 2) dX11_sortItems_48 (by decide) ?_
      exact AW.sub [1, 0] rfl (ih _ _ _ _ hf hk0)
set_option maxHeartbeats 4000000 in
set_option maxRecDepth 100000 in
theorem sX11_sortItems (E : gE) (D : Nat) (hD : 1 ≤ D) {a0 : Nat} {h hz : hp} (hf : fX11_sortItems a0 h = some hz) : MC E yX11_sortItems cX11_sortItems (Option.none : Option Jvm.ClassFile.FieldType) 3 D [.ref a0] h none hz := by
  refine MC.of (by decide +kernel) (Nat.le_of_ble_eq_true rfl) rfl ?_
  unfold fX11_sortItems at hf
  show AW E yX11_sortItems cX11_sortItems (Option.none : Option Jvm.ClassFile.FieldType) 3 D none h hz 0 [(0, .ref a0)] [] h
  refine a_iconst (v := 1) dX11_sortItems_0 (by decide) ?_
  refine a_istore_n (lv1 := [(1, .int 1), (0, .ref a0)]) dX11_sortItems_1 rfl (by decide) rfl ?_
  obtain ⟨h2, e1, hf⟩ := obd hf
  refine AW.sub [1, 0] rfl (sX11_sortItems_l2 E D hD _ _ _ _ _ e1 ?_)
  obtain rfl := Option.some.inj hf
  exact a_return dX11_sortItems_51 rfl
def fX11_sumOfItems_l4 : Nat → Nat → Int64 → Int32 → hp → Option (Int64 × hp)
  | 0, _, _, _, _ => none
  | n + 1, x0, x1, x3, h =>
    (gfI h x0 10 3).bind fun v1 =>
    if v1 ≤ x3 then (
      some (x1, h)
    ) else (
      (ckT h x0 10).bind fun _ =>
      bd2 (fX11_at x0 x3 h) fun v4 h5 =>
      fX11_sumOfItems_l4 n x0 (x1 + (v4.toInt64)) (x3 + 1) h5
    )
def fX11_sumOfItems (a0 : Nat) (h : hp) : Option (Int64 × hp) :=
  bd2 (fX11_sumOfItems_l4 FU a0 0 0 h) fun v3 h2 =>
  some (v3, h2)
set_option maxHeartbeats 4000000 in
set_option maxRecDepth 100000 in
theorem sX11_sumOfItems_l4 (E : gE) (D : Nat) (hD : 1 ≤ D) {rz : Option Value} {h0 hz : hp} : ∀ (n : Nat) (x0 : Nat) (x1 : Int64) (x3 : Int32) (h : hp) (m1 : Int64) (hq : hp), fX11_sumOfItems_l4 n x0 x1 x3 h = some (m1, hq) → (AW E yX11_sumOfItems cX11_sumOfItems (Option.some Jvm.ClassFile.FieldType.long) 4 D rz h0 hz 27 [(1, .long m1)] [] hq) → AW E yX11_sumOfItems cX11_sumOfItems (Option.some Jvm.ClassFile.FieldType.long) 4 D rz h0 hz 4 [(0, .ref x0), (1, .long x1), (3, .int x3)] [] h := by
  intro n
  induction n with
  | zero =>
    intro x0 x1 x3 h m1 hq hf _
    rw [fX11_sumOfItems_l4] at hf
    cases hf
  | succ n ih =>
    intro x0 x1 x3 h m1 hq hf hk0
    rw [fX11_sumOfItems_l4] at hf
    refine a_iload_n (q := 2) dX11_sumOfItems_4 rfl rfl ?_
    refine a_aload_n (q := 0) dX11_sumOfItems_5 rfl rfl ?_
    obtain ⟨v1, e2, hf⟩ := obd hf
    refine o_gfI dX11_sumOfItems_6 lk_X11_19 rfl e2 ?_
    refine a_icmp_ge (tgt := 27) dX11_sumOfItems_9 (by decide) (fun c => ?_) (fun c => ?_)
    · have hf := ifp c hf
      obtain ⟨rfl, rfl⟩ := oc2 hf
      exact AW.sub [1] rfl (hk0)
    · have hf := ifn c hf
      refine a_lload_n (q := 1) dX11_sumOfItems_12 rfl rfl ?_
      refine a_aload_n (q := 0) dX11_sumOfItems_13 rfl rfl ?_
      refine a_iload_n (q := 2) dX11_sumOfItems_14 rfl rfl ?_
      obtain ⟨_, e6, hf⟩ := obd hf
      obtain ⟨v4, h5, e3, hf⟩ := ob2 hf
      refine a_callV (as := [.int x3]) (np := 1) (ci := 10) (st := [.long x1]) (sX11_at E (D - 1) (by omega) e3) dX11_sumOfItems_15 rfl (by omega) (by decide) cw_X11_96 ⟨wd_338, wd_339⟩ rfl (ckT_s e6) rfl (Nat.le_of_ble_eq_true rfl) ?_
      refine a_i2l dX11_sumOfItems_18 rfl ?_
      refine a_ladd dX11_sumOfItems_19 ?_
      refine a_lstore_n (lv1 := [(1, .long (x1 + (v4.toInt64))), (0, .ref x0), (3, .int x3)]) dX11_sumOfItems_20 rfl (by decide) rfl ?_
      refine a_iinc (q := 2) (v := (x3 + 1)) (lv1 := [(3, .int (x3 + 1)), (1, .long (x1 + (v4.toInt64))), (0, .ref x0)]) dX11_sumOfItems_21 rfl (by rfl) (by decide) rfl ?_
      refine a_goto (tgt := 4) dX11_sumOfItems_24 (by decide) ?_
      exact AW.sub [2, 1, 0] rfl (ih _ _ _ _ _ _ hf hk0)
set_option maxHeartbeats 4000000 in
set_option maxRecDepth 100000 in
theorem sX11_sumOfItems (E : gE) (D : Nat) (hD : 1 ≤ D) {a0 : Nat} {h hz : hp} {v0 : Int64} (hf : fX11_sumOfItems a0 h = some (v0, hz)) : MC E yX11_sumOfItems cX11_sumOfItems (Option.some Jvm.ClassFile.FieldType.long) 4 D [.ref a0] h (some (.long v0)) hz := by
  refine MC.of (by decide +kernel) (Nat.le_of_ble_eq_true rfl) rfl ?_
  unfold fX11_sumOfItems at hf
  show AW E yX11_sumOfItems cX11_sumOfItems (Option.some Jvm.ClassFile.FieldType.long) 4 D (some (.long v0)) h hz 0 [(0, .ref a0)] [] h
  refine a_lconst (v := 0) dX11_sumOfItems_0 (by decide) ?_
  refine a_lstore_n (lv1 := [(1, .long 0), (0, .ref a0)]) dX11_sumOfItems_1 rfl (by decide) rfl ?_
  refine a_iconst (v := 0) dX11_sumOfItems_2 (by decide) ?_
  refine a_istore_n (lv1 := [(3, .int 0), (1, .long 0), (0, .ref a0)]) dX11_sumOfItems_3 rfl (by decide) rfl ?_
  obtain ⟨v3, h2, e1, hf⟩ := ob2 hf
  refine AW.sub [2, 1, 0] rfl (sX11_sumOfItems_l4 E D hD _ _ _ _ _ _ _ e1 ?_)
  refine a_lload_n (q := 0) dX11_sumOfItems_27 rfl rfl ?_
  obtain ⟨rfl, rfl⟩ := oc2 hf
  exact a_lreturn dX11_sumOfItems_28 rfl
def fX11_countFigures_l4 : Nat → Nat → Int32 → Int32 → hp → Option (Int32 × hp)
  | 0, _, _, _, _ => none
  | n + 1, x0, x1, x2, h =>
    (gfI h x0 10 3).bind fun v1 =>
    if v1 ≤ x2 then (
      some (x1, h)
    ) else (
      (ckT h x0 10).bind fun _ =>
      bd2 (fX11_at x0 x2 h) fun v4 h5 =>
      bd2 (fX13_isFigure v4 h5) fun v8 h9 =>
      if v8 = 0 then (
        fX11_countFigures_l4 n x0 x1 (x2 + 1) h9
      ) else (
        fX11_countFigures_l4 n x0 (x1 + 1) (x2 + 1) h9
      )
    )
def fX11_countFigures (a0 : Nat) (h : hp) : Option (Int32 × hp) :=
  bd2 (fX11_countFigures_l4 FU a0 0 0 h) fun v3 h2 =>
  some (v3, h2)
set_option maxHeartbeats 4000000 in
set_option maxRecDepth 100000 in
theorem sX11_countFigures_l4 (E : gE) (D : Nat) (hD : 1 ≤ D) {rz : Option Value} {h0 hz : hp} : ∀ (n : Nat) (x0 : Nat) (x1 : Int32) (x2 : Int32) (h : hp) (m1 : Int32) (hq : hp), fX11_countFigures_l4 n x0 x1 x2 h = some (m1, hq) → (AW E yX11_countFigures cX11_countFigures (Option.some Jvm.ClassFile.FieldType.int) 3 D rz h0 hz 33 [(1, .int m1)] [] hq) → AW E yX11_countFigures cX11_countFigures (Option.some Jvm.ClassFile.FieldType.int) 3 D rz h0 hz 4 [(0, .ref x0), (1, .int x1), (2, .int x2)] [] h := by
  intro n
  induction n with
  | zero =>
    intro x0 x1 x2 h m1 hq hf _
    rw [fX11_countFigures_l4] at hf
    cases hf
  | succ n ih =>
    intro x0 x1 x2 h m1 hq hf hk0
    rw [fX11_countFigures_l4] at hf
    refine a_iload_n (q := 2) dX11_countFigures_4 rfl rfl ?_
    refine a_aload_n (q := 0) dX11_countFigures_5 rfl rfl ?_
    obtain ⟨v1, e2, hf⟩ := obd hf
    refine o_gfI dX11_countFigures_6 lk_X11_19 rfl e2 ?_
    refine a_icmp_ge (tgt := 33) dX11_countFigures_9 (by decide) (fun c => ?_) (fun c => ?_)
    · have hf := ifp c hf
      obtain ⟨rfl, rfl⟩ := oc2 hf
      exact AW.sub [1] rfl (hk0)
    · have hf := ifn c hf
      refine a_aload_n (q := 0) dX11_countFigures_12 rfl rfl ?_
      refine a_iload_n (q := 2) dX11_countFigures_13 rfl rfl ?_
      obtain ⟨_, e6, hf⟩ := obd hf
      obtain ⟨v4, h5, e3, hf⟩ := ob2 hf
      refine a_callV (as := [.int x2]) (np := 1) (ci := 10) (st := []) (sX11_at E (D - 1) (by omega) e3) dX11_countFigures_14 rfl (by omega) (by decide) cw_X11_96 ⟨wd_338, wd_339⟩ rfl (ckT_s e6) rfl (Nat.le_of_ble_eq_true rfl) ?_
      obtain ⟨v8, h9, e7, hf⟩ := ob2 hf
      refine a_callS (as := [.int v4]) (np := 1) (st := []) (sX13_isFigure E (D - 1) (by omega) e7) dX11_countFigures_17 rfl (by omega) (by decide) cw_X11_201 wd_614 rfl (Nat.le_of_ble_eq_true rfl) ?_
      refine a_if_eq (tgt := 27) dX11_countFigures_20 (by decide) (fun c => ?_) (fun c => ?_)
      · have hf := ifp c hf
        refine a_iinc (q := 2) (v := (x2 + 1)) (lv1 := [(2, .int (x2 + 1)), (0, .ref x0), (1, .int x1)]) dX11_countFigures_27 rfl (by rfl) (by decide) rfl ?_
        refine a_goto (tgt := 4) dX11_countFigures_30 (by decide) ?_
        exact AW.sub [1, 2, 0] rfl (ih _ _ _ _ _ _ hf hk0)
      · have hf := ifn c hf
        refine a_iload_n (q := 1) dX11_countFigures_23 rfl rfl ?_
        refine a_iconst (v := 1) dX11_countFigures_24 (by decide) ?_
        refine a_iadd dX11_countFigures_25 ?_
        refine a_istore_n (lv1 := [(1, .int (x1 + 1)), (0, .ref x0), (2, .int x2)]) dX11_countFigures_26 rfl (by decide) rfl ?_
        refine a_iinc (q := 2) (v := (x2 + 1)) (lv1 := [(2, .int (x2 + 1)), (1, .int (x1 + 1)), (0, .ref x0)]) dX11_countFigures_27 rfl (by rfl) (by decide) rfl ?_
        refine a_goto (tgt := 4) dX11_countFigures_30 (by decide) ?_
        exact AW.sub [2, 1, 0] rfl (ih _ _ _ _ _ _ hf hk0)
set_option maxHeartbeats 4000000 in
set_option maxRecDepth 100000 in
theorem sX11_countFigures (E : gE) (D : Nat) (hD : 1 ≤ D) {a0 : Nat} {h hz : hp} {v0 : Int32} (hf : fX11_countFigures a0 h = some (v0, hz)) : MC E yX11_countFigures cX11_countFigures (Option.some Jvm.ClassFile.FieldType.int) 3 D [.ref a0] h (some (.int v0)) hz := by
  refine MC.of (by decide +kernel) (Nat.le_of_ble_eq_true rfl) rfl ?_
  unfold fX11_countFigures at hf
  show AW E yX11_countFigures cX11_countFigures (Option.some Jvm.ClassFile.FieldType.int) 3 D (some (.int v0)) h hz 0 [(0, .ref a0)] [] h
  refine a_iconst (v := 0) dX11_countFigures_0 (by decide) ?_
  refine a_istore_n (lv1 := [(1, .int 0), (0, .ref a0)]) dX11_countFigures_1 rfl (by decide) rfl ?_
  refine a_iconst (v := 0) dX11_countFigures_2 (by decide) ?_
  refine a_istore_n (lv1 := [(2, .int 0), (1, .int 0), (0, .ref a0)]) dX11_countFigures_3 rfl (by decide) rfl ?_
  obtain ⟨v3, h2, e1, hf⟩ := ob2 hf
  refine AW.sub [2, 1, 0] rfl (sX11_countFigures_l4 E D hD _ _ _ _ _ _ _ e1 ?_)
  refine a_iload_n (q := 0) dX11_countFigures_33 rfl rfl ?_
  obtain ⟨rfl, rfl⟩ := oc2 hf
  exact a_ireturn dX11_countFigures_34 rfl
def fX11_padTo_l16 : Nat → Nat → Int32 → hp → Option hp
  | 0, _, _, _ => none
  | n + 1, x0, x3, h =>
    (gfI h x0 10 3).bind fun v1 =>
    if v1 ≤ x3 then (
      some (h)
    ) else (
      (ckT h x0 10).bind fun _ =>
      (fX11_put x0 x3 32 h).bind fun h4 =>
      fX11_padTo_l16 n x0 (x3 + 1) h4
    )
def fX11_padTo (a0 : Nat) (a1 : Int32) (h : hp) : Option hp :=
  (gfI h a0 10 3).bind fun v1 =>
  bd2 (fJ9_max_7cf53 v1 a1 h) fun v4 h5 =>
  (ckT h5 a0 10).bind fun _ =>
  (fX11_resize a0 v4 h5).bind fun h7 =>
  (fX11_padTo_l16 FU a0 v1 h7).bind fun h10 =>
  some h10
set_option maxHeartbeats 4000000 in
set_option maxRecDepth 100000 in
theorem sX11_padTo_l16 (E : gE) (D : Nat) (hD : 2 ≤ D) {rz : Option Value} {h0 hz : hp} : ∀ (n : Nat) (x0 : Nat) (x3 : Int32) (h : hp) (hq : hp), fX11_padTo_l16 n x0 x3 h = some hq → (AW E yX11_padTo cX11_padTo (Option.none : Option Jvm.ClassFile.FieldType) 4 D rz h0 hz 37 [] [] hq) → AW E yX11_padTo cX11_padTo (Option.none : Option Jvm.ClassFile.FieldType) 4 D rz h0 hz 16 [(0, .ref x0), (3, .int x3)] [] h := by
  intro n
  induction n with
  | zero =>
    intro x0 x3 h hq hf _
    rw [fX11_padTo_l16] at hf
    cases hf
  | succ n ih =>
    intro x0 x3 h hq hf hk0
    rw [fX11_padTo_l16] at hf
    refine a_iload_n (q := 1) dX11_padTo_16 rfl rfl ?_
    refine a_aload_n (q := 0) dX11_padTo_17 rfl rfl ?_
    obtain ⟨v1, e2, hf⟩ := obd hf
    refine o_gfI dX11_padTo_18 lk_X11_19 rfl e2 ?_
    refine a_icmp_ge (tgt := 37) dX11_padTo_21 (by decide) (fun c => ?_) (fun c => ?_)
    · have hf := ifp c hf
      obtain rfl := Option.some.inj hf
      exact AW.sub [] rfl (hk0)
    · have hf := ifn c hf
      refine a_aload_n (q := 0) dX11_padTo_24 rfl rfl ?_
      refine a_iload_n (q := 1) dX11_padTo_25 rfl rfl ?_
      refine a_bipush (v := 32) dX11_padTo_26 (by decide) ?_
      obtain ⟨_, e5, hf⟩ := obd hf
      obtain ⟨h4, e3, hf⟩ := obd hf
      refine a_callV (as := [.int x3, .int 32]) (np := 2) (ci := 10) (st := []) (sX11_put E (D - 1) (by omega) e3) dX11_padTo_28 rfl (by omega) (by decide) cw_X11_45 ⟨wd_317, wd_318⟩ rfl (ckT_s e5) rfl (Nat.le_of_ble_eq_true rfl) ?_
      refine a_iinc (q := 1) (v := (x3 + 1)) (lv1 := [(3, .int (x3 + 1)), (0, .ref x0)]) dX11_padTo_31 rfl (by rfl) (by decide) rfl ?_
      refine a_goto (tgt := 16) dX11_padTo_34 (by decide) ?_
      exact AW.sub [1, 0] rfl (ih _ _ _ _ hf hk0)
set_option maxHeartbeats 4000000 in
set_option maxRecDepth 100000 in
theorem sX11_padTo (E : gE) (D : Nat) (hD : 2 ≤ D) {a0 : Nat} {a1 : Int32} {h hz : hp} (hf : fX11_padTo a0 a1 h = some hz) : MC E yX11_padTo cX11_padTo (Option.none : Option Jvm.ClassFile.FieldType) 4 D [.ref a0, .int a1] h none hz := by
  refine MC.of (by decide +kernel) (Nat.le_of_ble_eq_true rfl) rfl ?_
  unfold fX11_padTo at hf
  show AW E yX11_padTo cX11_padTo (Option.none : Option Jvm.ClassFile.FieldType) 4 D none h hz 0 [(0, .ref a0), (1, .int a1)] [] h
  refine a_aload_n (q := 0) dX11_padTo_0 rfl rfl ?_
  obtain ⟨v1, e2, hf⟩ := obd hf
  refine o_gfI dX11_padTo_1 lk_X11_19 rfl e2 ?_
  refine a_istore_n (lv1 := [(2, .int v1), (0, .ref a0), (1, .int a1)]) dX11_padTo_4 rfl (by decide) rfl ?_
  refine a_aload_n (q := 1) dX11_padTo_5 rfl rfl ?_
  refine a_iload_n (q := 0) dX11_padTo_6 rfl rfl ?_
  refine a_iload_n (q := 2) dX11_padTo_7 rfl rfl ?_
  obtain ⟨v4, h5, e3, hf⟩ := ob2 hf
  refine a_callS (as := [.int v1, .int a1]) (np := 2) (st := [.ref a0]) (sJ9_max_7cf53 E (D - 1) (by omega) e3) dX11_padTo_8 rfl (by omega) (by decide) cw_X11_204 wd_880 rfl (Nat.le_of_ble_eq_true rfl) ?_
  obtain ⟨_, e8, hf⟩ := obd hf
  obtain ⟨h7, e6, hf⟩ := obd hf
  refine a_callV (as := [.int v4]) (np := 1) (ci := 10) (st := []) (sX11_resize E (D - 1) (by omega) e6) dX11_padTo_11 rfl (by omega) (by decide) cw_X11_41 ⟨wd_307, ws_0⟩ rfl (ckT_s e8) rfl (Nat.le_of_ble_eq_true rfl) ?_
  refine a_iload_n (q := 0) dX11_padTo_14 rfl rfl ?_
  refine a_istore_n (lv1 := [(3, .int v1), (2, .int v1), (0, .ref a0), (1, .int a1)]) dX11_padTo_15 rfl (by decide) rfl ?_
  obtain ⟨h10, e9, hf⟩ := obd hf
  refine AW.sub [2, 0] rfl (sX11_padTo_l16 E D hD _ _ _ _ _ e9 ?_)
  obtain rfl := Option.some.inj hf
  exact a_return dX11_padTo_37 rfl
def fX13_isGreat (a0 : Int32) (h : hp) : Option (Int32 × hp) :=
  if a0 < 65 then (
    some (0, h)
  ) else (
    if 90 < a0 then (
      some (0, h)
    ) else (
      some (1, h)
    )
  )
set_option maxHeartbeats 4000000 in
set_option maxRecDepth 100000 in
theorem sX13_isGreat (E : gE) (D : Nat) (hD : 0 ≤ D) {a0 : Int32} {h hz : hp} {v0 : Int32} (hf : fX13_isGreat a0 h = some (v0, hz)) : MC E yX13_isGreat cX13_isGreat (Option.some Jvm.ClassFile.FieldType.boolean) 1 D [.int a0] h (some (.int v0)) hz := by
  refine MC.of (by decide +kernel) (Nat.le_of_ble_eq_true rfl) rfl ?_
  unfold fX13_isGreat at hf
  show AW E yX13_isGreat cX13_isGreat (Option.some Jvm.ClassFile.FieldType.boolean) 1 D (some (.int v0)) h hz 0 [(0, .int a0)] [] h
  refine a_iload_n (q := 0) dX13_isGreat_0 rfl rfl ?_
  refine a_bipush (v := 65) dX13_isGreat_1 (by decide) ?_
  refine a_icmp_lt (tgt := 16) dX13_isGreat_3 (by decide) (fun c => ?_) (fun c => ?_)
  · have hf := ifp c hf
    refine a_iconst (v := 0) dX13_isGreat_16 (by decide) ?_
    obtain ⟨rfl, rfl⟩ := oc2 hf
    exact a_zreturn dX13_isGreat_17 rfl (by decide)
  · have hf := ifn c hf
    refine a_iload_n (q := 0) dX13_isGreat_6 rfl rfl ?_
    refine a_bipush (v := 90) dX13_isGreat_7 (by decide) ?_
    refine a_icmp_gt (tgt := 16) dX13_isGreat_9 (by decide) (fun c => ?_) (fun c => ?_)
    · have hf := ifp c hf
      refine a_iconst (v := 0) dX13_isGreat_16 (by decide) ?_
      obtain ⟨rfl, rfl⟩ := oc2 hf
      exact a_zreturn dX13_isGreat_17 rfl (by decide)
    · have hf := ifn c hf
      refine a_iconst (v := 1) dX13_isGreat_12 (by decide) ?_
      refine a_goto (tgt := 17) dX13_isGreat_13 (by decide) ?_
      obtain ⟨rfl, rfl⟩ := oc2 hf
      exact a_zreturn dX13_isGreat_17 rfl (by decide)
def fX12_init_l102 : Nat → Nat → Int32 → hp → Option hp
  | 0, _, _, _ => none
  | n + 1, x0, x3, h =>
    (gfR h x0 11 2).bind fun v1 =>
    (aln 2 h v1).bind fun v3 =>
    if v3 ≤ x3 then (
      some (h)
    ) else (
      (gfR h x0 11 2).bind fun v5 =>
      bd2 (nwO h 0 5) fun v7 h8 =>
      (ckT h8 v7 0).bind fun _ =>
      (fX1_init v7 h8).bind fun h11 =>
      (asR 2 h11 v5 x3 v7).bind fun h13 =>
      fX12_init_l102 n x0 (x3 + 1) h13
    )
def fX12_init (a0 : Nat) (a1 : Nat) (a2 : Nat) (h : hp) : Option hp :=
  (ckT h a0 11).bind fun _ =>
  bd2 (nwA h 2 9) fun v2 h3 =>
  (pfR h3 a0 11 2 v2).bind fun h5 =>
  bd2 (nwA h5 6 48) fun v7 h8 =>
  (pfR h8 a0 11 3 v7).bind fun h10 =>
  bd2 (nwO h10 10 5) fun v12 h13 =>
  (ckT h13 v12 10).bind fun _ =>
  (fX11_init v12 h13).bind fun h16 =>
  (pfR h16 a0 11 4 v12).bind fun h18 =>
  bd2 (nwO h18 10 5) fun v20 h21 =>
  (ckT h21 v20 10).bind fun _ =>
  (fX11_init v20 h21).bind fun h24 =>
  (pfR h24 a0 11 5 v20).bind fun h26 =>
  bd2 (nwO h26 4 2) fun v28 h29 =>
  (ckT h29 v28 4).bind fun _ =>
  (fX5_init v28 53 h29).bind fun h32 =>
  (pfR h32 a0 11 6 v28).bind fun h34 =>
  bd2 (nwO h34 4 2) fun v36 h37 =>
  (ckT h37 v36 4).bind fun _ =>
  (fX5_init v36 400 h37).bind fun h40 =>
  (pfR h40 a0 11 7 v36).bind fun h42 =>
  bd2 (nwA h42 6 348) fun v44 h45 =>
  (pfR h45 a0 11 8 v44).bind fun h47 =>
  bd2 (nwA h47 0 348) fun v49 h50 =>
  (pfR h50 a0 11 9 v49).bind fun h52 =>
  (pfR h52 a0 11 0 a1).bind fun h54 =>
  (pfR h54 a0 11 1 a2).bind fun h56 =>
  (fX12_init_l102 FU a0 0 h56).bind fun h59 =>
  some h59
set_option maxHeartbeats 4000000 in
set_option maxRecDepth 100000 in
theorem sX12_init_l102 (E : gE) (D : Nat) (hD : 2 ≤ D) {rz : Option Value} {h0 hz : hp} : ∀ (n : Nat) (x0 : Nat) (x3 : Int32) (h : hp) (hq : hp), fX12_init_l102 n x0 x3 h = some hq → (AW E yX12_init cX12_init (Option.none : Option Jvm.ClassFile.FieldType) 4 D rz h0 hz 130 [] [] hq) → AW E yX12_init cX12_init (Option.none : Option Jvm.ClassFile.FieldType) 4 D rz h0 hz 102 [(0, .ref x0), (3, .int x3)] [] h := by
  intro n
  induction n with
  | zero =>
    intro x0 x3 h hq hf _
    rw [fX12_init_l102] at hf
    cases hf
  | succ n ih =>
    intro x0 x3 h hq hf hk0
    rw [fX12_init_l102] at hf
    refine a_iload_n (q := 1) dX12_init_102 rfl rfl ?_
    refine a_aload_n (q := 0) dX12_init_103 rfl rfl ?_
    obtain ⟨v1, e2, hf⟩ := obd hf
    refine o_gfR dX12_init_104 lk_X12_13 rfl e2 ?_
    obtain ⟨v3, e4, hf⟩ := obd hf
    refine o_aln dX12_init_107 (by decide) e4 ?_
    refine a_icmp_ge (tgt := 130) dX12_init_108 (by decide) (fun c => ?_) (fun c => ?_)
    · have hf := ifp c hf
      obtain rfl := Option.some.inj hf
      exact AW.sub [] rfl (hk0)
    · have hf := ifn c hf
      refine a_aload_n (q := 0) dX12_init_111 rfl rfl ?_
      obtain ⟨v5, e6, hf⟩ := obd hf
      refine o_gfR dX12_init_112 lk_X12_13 rfl e6 ?_
      refine a_iload_n (q := 1) dX12_init_115 rfl rfl ?_
      obtain ⟨v7, h8, e9, hf⟩ := ob2 hf
      refine o_nwO (ci := 0) dX12_init_116 rfl rfl gu_0 tyX1_ok (by decide) wd_139 wd_145 wd_7 e9 ?_
      refine a_dup dX12_init_119 rfl ?_
      obtain ⟨_, e12, hf⟩ := obd hf
      obtain ⟨h11, e10, hf⟩ := obd hf
      refine a_callI (as := []) (np := 0) (ci := 0) (st := [.ref v7, .int x3, .ref v5]) (sX1_init E (D - 1) (by omega) e10) dX12_init_120 rfl (by omega) (by decide) cw_X12_57 ⟨wd_147, rfl⟩ rfl (ckT_s e12) rfl (Nat.le_of_ble_eq_true rfl) ?_
      obtain ⟨h13, e14, hf⟩ := obd hf
      refine o_asR dX12_init_123 (by decide) e14 ?_
      refine a_iinc (q := 1) (v := (x3 + 1)) (lv1 := [(3, .int (x3 + 1)), (0, .ref x0)]) dX12_init_124 rfl (by rfl) (by decide) rfl ?_
      refine a_goto (tgt := 102) dX12_init_127 (by decide) ?_
      exact AW.sub [1, 0] rfl (ih _ _ _ _ hf hk0)
set_option maxHeartbeats 4000000 in
set_option maxRecDepth 100000 in
theorem sX12_init (E : gE) (D : Nat) (hD : 2 ≤ D) {a0 : Nat} {a1 : Nat} {a2 : Nat} {h hz : hp} (hf : fX12_init a0 a1 a2 h = some hz) : MC E yX12_init cX12_init (Option.none : Option Jvm.ClassFile.FieldType) 4 D [.ref a0, .ref a1, .ref a2] h none hz := by
  refine MC.of (by decide +kernel) (Nat.le_of_ble_eq_true rfl) rfl ?_
  unfold fX12_init at hf
  show AW E yX12_init cX12_init (Option.none : Option Jvm.ClassFile.FieldType) 4 D none h hz 0 [(0, .ref a0), (1, .ref a1), (2, .ref a2)] [] h
  refine a_aload_n (q := 0) dX12_init_0 rfl rfl ?_
  obtain ⟨_, e1, hf⟩ := obd hf
  refine o_objI dX12_init_1 (by omega) wd_138 wd_32 wd_33 (by decide) (ckT_s e1) (Nat.le_of_ble_eq_true rfl) ?_
  refine a_aload_n (q := 0) dX12_init_4 rfl rfl ?_
  refine a_bipush (v := 9) dX12_init_5 (by decide) ?_
  obtain ⟨v2, h3, e4, hf⟩ := ob2 hf
  refine o_nwR (j := 2) dX12_init_7 (by decide) rfl wd_139 (by decide +kernel) e4 ?_
  obtain ⟨h5, e6, hf⟩ := obd hf
  refine o_pfR dX12_init_10 lk_X12_13 (⟨_, rfl, Or.inr ⟨rfl, rfl, rfl, wd_171⟩⟩) rfl e6 ?_
  refine a_aload_n (q := 0) dX12_init_13 rfl rfl ?_
  refine a_bipush (v := 48) dX12_init_14 (by decide) ?_
  obtain ⟨v7, h8, e9, hf⟩ := ob2 hf
  refine o_nwR (j := 6) dX12_init_16 (by decide) rfl wd_141 (by decide +kernel) e9 ?_
  obtain ⟨h10, e11, hf⟩ := obd hf
  refine o_pfR dX12_init_19 lk_X12_19 (⟨_, rfl, Or.inr ⟨rfl, rfl, rfl, wd_172⟩⟩) rfl e11 ?_
  refine a_aload_n (q := 0) dX12_init_22 rfl rfl ?_
  obtain ⟨v12, h13, e14, hf⟩ := ob2 hf
  refine o_nwO (ci := 10) dX12_init_23 rfl rfl gu_10 tyX11_ok (by decide) wd_141 wd_64 wd_4 e14 ?_
  refine a_dup dX12_init_26 rfl ?_
  obtain ⟨_, e17, hf⟩ := obd hf
  obtain ⟨h16, e15, hf⟩ := obd hf
  refine a_callI (as := []) (np := 0) (ci := 10) (st := [.ref v12, .ref a0]) (sX11_init E (D - 1) (by omega) e15) dX12_init_27 rfl (by omega) (by decide) cw_X12_23 ⟨wd_66, rfl⟩ rfl (ckT_s e17) rfl (Nat.le_of_ble_eq_true rfl) ?_
  obtain ⟨h18, e19, hf⟩ := obd hf
  refine o_pfR dX12_init_30 lk_X12_24 (⟨_, rfl, Or.inr ⟨rfl, rfl, rfl, wd_173⟩⟩) rfl e19 ?_
  refine a_aload_n (q := 0) dX12_init_33 rfl rfl ?_
  obtain ⟨v20, h21, e22, hf⟩ := ob2 hf
  refine o_nwO (ci := 10) dX12_init_34 rfl rfl gu_10 tyX11_ok (by decide) wd_141 wd_64 wd_4 e22 ?_
  refine a_dup dX12_init_37 rfl ?_
  obtain ⟨_, e25, hf⟩ := obd hf
  obtain ⟨h24, e23, hf⟩ := obd hf
  refine a_callI (as := []) (np := 0) (ci := 10) (st := [.ref v20, .ref a0]) (sX11_init E (D - 1) (by omega) e23) dX12_init_38 rfl (by omega) (by decide) cw_X12_23 ⟨wd_66, rfl⟩ rfl (ckT_s e25) rfl (Nat.le_of_ble_eq_true rfl) ?_
  obtain ⟨h26, e27, hf⟩ := obd hf
  refine o_pfR dX12_init_41 lk_X12_28 (⟨_, rfl, Or.inr ⟨rfl, rfl, rfl, wd_174⟩⟩) rfl e27 ?_
  refine a_aload_n (q := 0) dX12_init_44 rfl rfl ?_
  obtain ⟨v28, h29, e30, hf⟩ := ob2 hf
  refine o_nwO (ci := 4) dX12_init_45 rfl rfl gu_4 tyX5_ok (by decide) wd_143 wd_45 wd_3 e30 ?_
  refine a_dup dX12_init_48 rfl ?_
  refine a_bipush (v := 53) dX12_init_49 (by decide) ?_
  obtain ⟨_, e33, hf⟩ := obd hf
  obtain ⟨h32, e31, hf⟩ := obd hf
  refine a_callI (as := [.int 53]) (np := 1) (ci := 4) (st := [.ref v28, .ref a0]) (sX5_init E (D - 1) (by omega) e31) dX12_init_51 rfl (by omega) (by decide) cw_X12_33 ⟨wd_47, rfl⟩ rfl (ckT_s e33) rfl (Nat.le_of_ble_eq_true rfl) ?_
  obtain ⟨h34, e35, hf⟩ := obd hf
  refine o_pfR dX12_init_54 lk_X12_36 (⟨_, rfl, Or.inr ⟨rfl, rfl, rfl, wd_175⟩⟩) rfl e35 ?_
  refine a_aload_n (q := 0) dX12_init_57 rfl rfl ?_
  obtain ⟨v36, h37, e38, hf⟩ := ob2 hf
  refine o_nwO (ci := 4) dX12_init_58 rfl rfl gu_4 tyX5_ok (by decide) wd_143 wd_45 wd_3 e38 ?_
  refine a_dup dX12_init_61 rfl ?_
  refine a_sipush (v := 400) dX12_init_62 (by decide) ?_
  obtain ⟨_, e41, hf⟩ := obd hf
  obtain ⟨h40, e39, hf⟩ := obd hf
  refine a_callI (as := [.int 400]) (np := 1) (ci := 4) (st := [.ref v36, .ref a0]) (sX5_init E (D - 1) (by omega) e39) dX12_init_65 rfl (by omega) (by decide) cw_X12_33 ⟨wd_47, rfl⟩ rfl (ckT_s e41) rfl (Nat.le_of_ble_eq_true rfl) ?_
  obtain ⟨h42, e43, hf⟩ := obd hf
  refine o_pfR dX12_init_68 lk_X12_40 (⟨_, rfl, Or.inr ⟨rfl, rfl, rfl, wd_176⟩⟩) rfl e43 ?_
  refine a_aload_n (q := 0) dX12_init_71 rfl rfl ?_
  refine a_sipush (v := 348) dX12_init_72 (by decide) ?_
  obtain ⟨v44, h45, e46, hf⟩ := ob2 hf
  refine o_nwR (j := 6) dX12_init_75 (by decide) rfl wd_141 (by decide +kernel) e46 ?_
  obtain ⟨h47, e48, hf⟩ := obd hf
  refine o_pfR dX12_init_78 lk_X12_43 (⟨_, rfl, Or.inr ⟨rfl, rfl, rfl, wd_178⟩⟩) rfl e48 ?_
  refine a_aload_n (q := 0) dX12_init_81 rfl rfl ?_
  refine a_sipush (v := 348) dX12_init_82 (by decide) ?_
  obtain ⟨v49, h50, e51, hf⟩ := ob2 hf
  refine o_nwI dX12_init_85 wd_63 e51 ?_
  obtain ⟨h52, e53, hf⟩ := obd hf
  refine o_pfR dX12_init_87 lk_X12_46 (⟨_, rfl, Or.inr ⟨rfl, rfl, rfl, wd_179⟩⟩) rfl e53 ?_
  refine a_aload_n (q := 0) dX12_init_90 rfl rfl ?_
  refine a_aload_n (q := 1) dX12_init_91 rfl rfl ?_
  obtain ⟨h54, e55, hf⟩ := obd hf
  refine o_pfR dX12_init_92 lk_X12_50 (⟨_, rfl, Or.inr ⟨rfl, rfl, rfl, wd_169⟩⟩) rfl e55 ?_
  refine a_aload_n (q := 0) dX12_init_95 rfl rfl ?_
  refine a_aload_n (q := 2) dX12_init_96 rfl rfl ?_
  obtain ⟨h56, e57, hf⟩ := obd hf
  refine o_pfR dX12_init_97 lk_X12_54 (⟨_, rfl, Or.inr ⟨rfl, rfl, rfl, wd_170⟩⟩) rfl e57 ?_
  refine a_iconst (v := 0) dX12_init_100 (by decide) ?_
  refine a_istore_n (lv1 := [(3, .int 0), (0, .ref a0), (1, .ref a1), (2, .ref a2)]) dX12_init_101 rfl (by decide) rfl ?_
  obtain ⟨h59, e58, hf⟩ := obd hf
  refine AW.sub [1, 0] rfl (sX12_init_l102 E D hD _ _ _ _ _ e58 ?_)
  obtain rfl := Option.some.inj hf
  exact a_return dX12_init_130 rfl
def fX12_begin (a0 : Nat) (a1 : Int32) (a2 : Int32) (h : hp) : Option hp :=
  (gfR h a0 11 7).bind fun v1 =>
  (ckT h v1 4).bind fun _ =>
  (fX5_empty v1 h).bind fun h4 =>
  (pfI h4 a0 11 11 0).bind fun h6 =>
  (pfI h6 a0 11 12 0).bind fun h8 =>
  (pfI h8 a0 11 13 a1).bind fun h10 =>
  (pfI h10 a0 11 14 0).bind fun h12 =>
  (pfI h12 a0 11 15 (-1)).bind fun h14 =>
  (pfZ h14 a0 11 16 a2).bind fun h16 =>
  (pfZ h16 a0 11 17 0).bind fun h18 =>
  some h18
set_option maxHeartbeats 4000000 in
set_option maxRecDepth 100000 in
theorem sX12_begin (E : gE) (D : Nat) (hD : 1 ≤ D) {a0 : Nat} {a1 : Int32} {a2 : Int32} {h hz : hp} (hf : fX12_begin a0 a1 a2 h = some hz) : MC E yX12_begin cX12_begin (Option.none : Option Jvm.ClassFile.FieldType) 3 D [.ref a0, .int a1, .int a2] h none hz := by
  refine MC.of (by decide +kernel) (Nat.le_of_ble_eq_true rfl) rfl ?_
  unfold fX12_begin at hf
  show AW E yX12_begin cX12_begin (Option.none : Option Jvm.ClassFile.FieldType) 3 D none h hz 0 [(0, .ref a0), (1, .int a1), (2, .int a2)] [] h
  refine a_aload_n (q := 0) dX12_begin_0 rfl rfl ?_
  obtain ⟨v1, e2, hf⟩ := obd hf
  refine o_gfR dX12_begin_1 lk_X12_40 rfl e2 ?_
  obtain ⟨_, e5, hf⟩ := obd hf
  obtain ⟨h4, e3, hf⟩ := obd hf
  refine a_callV (as := []) (np := 0) (ci := 4) (st := []) (sX5_empty E (D - 1) (by omega) e3) dX12_begin_4 rfl (by omega) (by decide) cw_X12_58 ⟨wd_321, wd_322⟩ rfl (ckT_s e5) rfl (Nat.le_of_ble_eq_true rfl) ?_
  refine a_aload_n (q := 0) dX12_begin_7 rfl rfl ?_
  refine a_iconst (v := 0) dX12_begin_8 (by decide) ?_
  obtain ⟨h6, e7, hf⟩ := obd hf
  refine o_pfI dX12_begin_9 lk_X12_61 (⟨_, rfl, Or.inl rfl⟩) rfl e7 ?_
  refine a_aload_n (q := 0) dX12_begin_12 rfl rfl ?_
  refine a_iconst (v := 0) dX12_begin_13 (by decide) ?_
  obtain ⟨h8, e9, hf⟩ := obd hf
  refine o_pfI dX12_begin_14 lk_X12_65 (⟨_, rfl, Or.inl rfl⟩) rfl e9 ?_
  refine a_aload_n (q := 0) dX12_begin_17 rfl rfl ?_
  refine a_iload_n (q := 1) dX12_begin_18 rfl rfl ?_
  obtain ⟨h10, e11, hf⟩ := obd hf
  refine o_pfI dX12_begin_19 lk_X12_68 (⟨_, rfl, Or.inl rfl⟩) rfl e11 ?_
  refine a_aload_n (q := 0) dX12_begin_22 rfl rfl ?_
  refine a_iconst (v := 0) dX12_begin_23 (by decide) ?_
  obtain ⟨h12, e13, hf⟩ := obd hf
  refine o_pfI dX12_begin_24 lk_X12_71 (⟨_, rfl, Or.inl rfl⟩) rfl e13 ?_
  refine a_aload_n (q := 0) dX12_begin_27 rfl rfl ?_
  refine a_iconst (v := (-1)) dX12_begin_28 (by decide) ?_
  obtain ⟨h14, e15, hf⟩ := obd hf
  refine o_pfI dX12_begin_29 lk_X12_74 (⟨_, rfl, Or.inl rfl⟩) rfl e15 ?_
  refine a_aload_n (q := 0) dX12_begin_32 rfl rfl ?_
  refine a_iload_n (q := 2) dX12_begin_33 rfl rfl ?_
  obtain ⟨h16, e17, hf⟩ := obd hf
  refine o_pfZ dX12_begin_34 lk_X12_77 (⟨_, rfl, Or.inl rfl⟩) rfl e17 ?_
  refine a_aload_n (q := 0) dX12_begin_37 rfl rfl ?_
  refine a_iconst (v := 0) dX12_begin_38 (by decide) ?_
  obtain ⟨h18, e19, hf⟩ := obd hf
  refine o_pfZ dX12_begin_39 lk_X12_81 (⟨_, rfl, Or.inl rfl⟩) rfl e19 ?_
  obtain rfl := Option.some.inj hf
  exact a_return dX12_begin_42 rfl
def fX12_fail_l22 : Nat → Nat → Int32 → Int32 → Int32 → hp → Option hp
  | 0, _, _, _, _, _ => none
  | n + 1, x0, x1, x2, x3, h =>
    (gfI h x0 11 11).bind fun v1 =>
    if v1 ≤ x3 then (
      some (h)
    ) else (
      (gfR h x0 11 2).bind fun v3 =>
      (aln 2 h v3).bind fun v5 =>
      if v5 ≤ x3 then (
        some (h)
      ) else (
        (gfI h x0 11 11).bind fun v7 =>
        if (v7 - 1) ≤ x3 then (
          (gfR h x0 11 2).bind fun v9 =>
          (alR 2 h v9 x3).bind fun v11 =>
          (gfR h x0 11 1).bind fun v13 =>
          (ckT h v11 0).bind fun _ =>
          (fX1_tell v11 v13 x1 x2 h).bind fun h16 =>
          fX12_fail_l22 n x0 x1 x2 (x3 + 1) h16
        ) else (
          (gfR h x0 11 2).bind fun v18 =>
          (alR 2 h v18 x3).bind fun v20 =>
          (gfR h x0 11 1).bind fun v22 =>
          (gfR h x0 11 2).bind fun v24 =>
          (alR 2 h v24 x3).bind fun v26 =>
          (gfI h v26 0 4).bind fun v28 =>
          (ckT h v20 0).bind fun _ =>
          (fX1_tell v20 v22 v28 10 h).bind fun h31 =>
          fX12_fail_l22 n x0 x1 x2 (x3 + 1) h31
        )
      )
    )
def fX12_fail (a0 : Nat) (a1 : Int32) (a2 : Int32) (h : hp) : Option hp :=
  (gfI h a0 11 17).bind fun v1 =>
  if v1 = 0 then (
    (pfZ h a0 11 17 1).bind fun h3 =>
    (gfR h3 a0 11 1).bind fun v5 =>
    (ckT h3 v5 4).bind fun _ =>
    (fX5_empty v5 h3).bind fun h8 =>
    (fX12_fail_l22 FU a0 a1 a2 0 h8).bind fun h11 =>
    some h11
  ) else (
    some h
  )
set_option maxHeartbeats 4000000 in
set_option maxRecDepth 100000 in
theorem sX12_fail_l22 (E : gE) (D : Nat) (hD : 2 ≤ D) {rz : Option Value} {h0 hz : hp} : ∀ (n : Nat) (x0 : Nat) (x1 : Int32) (x2 : Int32) (x3 : Int32) (h : hp) (hq : hp), fX12_fail_l22 n x0 x1 x2 x3 h = some hq → (AW E yX12_fail cX12_fail (Option.none : Option Jvm.ClassFile.FieldType) 4 D rz h0 hz 97 [] [] hq) → AW E yX12_fail cX12_fail (Option.none : Option Jvm.ClassFile.FieldType) 4 D rz h0 hz 22 [(0, .ref x0), (1, .int x1), (2, .int x2), (3, .int x3)] [] h := by
  intro n
  induction n with
  | zero =>
    intro x0 x1 x2 x3 h hq hf _
    rw [fX12_fail_l22] at hf
    cases hf
  | succ n ih =>
    intro x0 x1 x2 x3 h hq hf hk0
    rw [fX12_fail_l22] at hf
    refine a_iload_n (q := 3) dX12_fail_22 rfl rfl ?_
    refine a_aload_n (q := 0) dX12_fail_23 rfl rfl ?_
    obtain ⟨v1, e2, hf⟩ := obd hf
    refine o_gfI dX12_fail_24 lk_X12_61 rfl e2 ?_
    refine a_icmp_ge (tgt := 97) dX12_fail_27 (by decide) (fun c => ?_) (fun c => ?_)
    · have hf := ifp c hf
      obtain rfl := Option.some.inj hf
      exact AW.sub [] rfl (hk0)
    · have hf := ifn c hf
      refine a_iload_n (q := 3) dX12_fail_30 rfl rfl ?_
      refine a_aload_n (q := 0) dX12_fail_31 rfl rfl ?_
      obtain ⟨v3, e4, hf⟩ := obd hf
      refine o_gfR dX12_fail_32 lk_X12_13 rfl e4 ?_
      obtain ⟨v5, e6, hf⟩ := obd hf
      refine o_aln dX12_fail_35 (by decide) e6 ?_
      refine a_icmp_ge (tgt := 97) dX12_fail_36 (by decide) (fun c => ?_) (fun c => ?_)
      · have hf := ifp c hf
        obtain rfl := Option.some.inj hf
        exact AW.sub [] rfl (hk0)
      · have hf := ifn c hf
        refine a_iload_n (q := 3) dX12_fail_39 rfl rfl ?_
        refine a_aload_n (q := 0) dX12_fail_40 rfl rfl ?_
        obtain ⟨v7, e8, hf⟩ := obd hf
        refine o_gfI dX12_fail_41 lk_X12_61 rfl e8 ?_
        refine a_iconst (v := 1) dX12_fail_44 (by decide) ?_
        refine a_isub dX12_fail_45 ?_
        refine a_icmp_ge (tgt := 76) dX12_fail_46 (by decide) (fun c => ?_) (fun c => ?_)
        · have hf := ifp c hf
          refine a_aload_n (q := 0) dX12_fail_76 rfl rfl ?_
          obtain ⟨v9, e10, hf⟩ := obd hf
          refine o_gfR dX12_fail_77 lk_X12_13 rfl e10 ?_
          refine a_iload_n (q := 3) dX12_fail_80 rfl rfl ?_
          obtain ⟨v11, e12, hf⟩ := obd hf
          refine o_alR dX12_fail_81 (by decide) e12 ?_
          refine a_aload_n (q := 0) dX12_fail_82 rfl rfl ?_
          obtain ⟨v13, e14, hf⟩ := obd hf
          refine o_gfR dX12_fail_83 lk_X12_54 rfl e14 ?_
          refine a_iload_n (q := 1) dX12_fail_86 rfl rfl ?_
          refine a_iload_n (q := 2) dX12_fail_87 rfl rfl ?_
          obtain ⟨_, e17, hf⟩ := obd hf
          obtain ⟨h16, e15, hf⟩ := obd hf
          refine a_callV (as := [.ref v13, .int x1, .int x2]) (np := 3) (ci := 0) (st := []) (sX1_tell E (D - 1) (by omega) e15) dX12_fail_88 rfl (by omega) (by decide) cw_X12_87 ⟨wd_773, wd_774⟩ rfl (ckT_s e17) rfl (Nat.le_of_ble_eq_true rfl) ?_
          refine a_iinc (q := 3) (v := (x3 + 1)) (lv1 := [(3, .int (x3 + 1)), (0, .ref x0), (1, .int x1), (2, .int x2)]) dX12_fail_91 rfl (by rfl) (by decide) rfl ?_
          refine a_goto (tgt := 22) dX12_fail_94 (by decide) ?_
          exact AW.sub [1, 2, 3, 0] rfl (ih _ _ _ _ _ _ hf hk0)
        · have hf := ifn c hf
          refine a_aload_n (q := 0) dX12_fail_49 rfl rfl ?_
          obtain ⟨v18, e19, hf⟩ := obd hf
          refine o_gfR dX12_fail_50 lk_X12_13 rfl e19 ?_
          refine a_iload_n (q := 3) dX12_fail_53 rfl rfl ?_
          obtain ⟨v20, e21, hf⟩ := obd hf
          refine o_alR dX12_fail_54 (by decide) e21 ?_
          refine a_aload_n (q := 0) dX12_fail_55 rfl rfl ?_
          obtain ⟨v22, e23, hf⟩ := obd hf
          refine o_gfR dX12_fail_56 lk_X12_54 rfl e23 ?_
          refine a_aload_n (q := 0) dX12_fail_59 rfl rfl ?_
          obtain ⟨v24, e25, hf⟩ := obd hf
          refine o_gfR dX12_fail_60 lk_X12_13 rfl e25 ?_
          refine a_iload_n (q := 3) dX12_fail_63 rfl rfl ?_
          obtain ⟨v26, e27, hf⟩ := obd hf
          refine o_alR dX12_fail_64 (by decide) e27 ?_
          obtain ⟨v28, e29, hf⟩ := obd hf
          refine o_gfI dX12_fail_65 lk_X12_84 rfl e29 ?_
          refine a_bipush (v := 10) dX12_fail_68 (by decide) ?_
          obtain ⟨_, e32, hf⟩ := obd hf
          obtain ⟨h31, e30, hf⟩ := obd hf
          refine a_callV (as := [.ref v22, .int v28, .int 10]) (np := 3) (ci := 0) (st := []) (sX1_tell E (D - 1) (by omega) e30) dX12_fail_70 rfl (by omega) (by decide) cw_X12_87 ⟨wd_773, wd_774⟩ rfl (ckT_s e32) rfl (Nat.le_of_ble_eq_true rfl) ?_
          refine a_goto (tgt := 91) dX12_fail_73 (by decide) ?_
          refine a_iinc (q := 3) (v := (x3 + 1)) (lv1 := [(3, .int (x3 + 1)), (0, .ref x0), (1, .int x1), (2, .int x2)]) dX12_fail_91 rfl (by rfl) (by decide) rfl ?_
          refine a_goto (tgt := 22) dX12_fail_94 (by decide) ?_
          exact AW.sub [1, 2, 3, 0] rfl (ih _ _ _ _ _ _ hf hk0)
set_option maxHeartbeats 4000000 in
set_option maxRecDepth 100000 in
theorem sX12_fail (E : gE) (D : Nat) (hD : 2 ≤ D) {a0 : Nat} {a1 : Int32} {a2 : Int32} {h hz : hp} (hf : fX12_fail a0 a1 a2 h = some hz) : MC E yX12_fail cX12_fail (Option.none : Option Jvm.ClassFile.FieldType) 4 D [.ref a0, .int a1, .int a2] h none hz := by
  refine MC.of (by decide +kernel) (Nat.le_of_ble_eq_true rfl) rfl ?_
  unfold fX12_fail at hf
  show AW E yX12_fail cX12_fail (Option.none : Option Jvm.ClassFile.FieldType) 4 D none h hz 0 [(0, .ref a0), (1, .int a1), (2, .int a2)] [] h
  refine a_aload_n (q := 0) dX12_fail_0 rfl rfl ?_
  obtain ⟨v1, e2, hf⟩ := obd hf
  refine o_gfI dX12_fail_1 lk_X12_81 rfl e2 ?_
  refine a_if_eq (tgt := 8) dX12_fail_4 (by decide) (fun c => ?_) (fun c => ?_)
  · have hf := ifp c hf
    refine a_aload_n (q := 0) dX12_fail_8 rfl rfl ?_
    refine a_iconst (v := 1) dX12_fail_9 (by decide) ?_
    obtain ⟨h3, e4, hf⟩ := obd hf
    refine o_pfZ dX12_fail_10 lk_X12_81 (⟨_, rfl, Or.inl rfl⟩) rfl e4 ?_
    refine a_aload_n (q := 0) dX12_fail_13 rfl rfl ?_
    obtain ⟨v5, e6, hf⟩ := obd hf
    refine o_gfR dX12_fail_14 lk_X12_54 rfl e6 ?_
    obtain ⟨_, e9, hf⟩ := obd hf
    obtain ⟨h8, e7, hf⟩ := obd hf
    refine a_callV (as := []) (np := 0) (ci := 4) (st := []) (sX5_empty E (D - 1) (by omega) e7) dX12_fail_17 rfl (by omega) (by decide) cw_X12_58 ⟨wd_321, wd_322⟩ rfl (ckT_s e9) rfl (Nat.le_of_ble_eq_true rfl) ?_
    refine a_iconst (v := 0) dX12_fail_20 (by decide) ?_
    refine a_istore_n (lv1 := [(3, .int 0), (0, .ref a0), (1, .int a1), (2, .int a2)]) dX12_fail_21 rfl (by decide) rfl ?_
    obtain ⟨h11, e10, hf⟩ := obd hf
    refine AW.sub [1, 2, 3, 0] rfl (sX12_fail_l22 E D hD _ _ _ _ _ _ _ e10 ?_)
    obtain rfl := Option.some.inj hf
    exact a_return dX12_fail_97 rfl
  · have hf := ifn c hf
    obtain rfl := Option.some.inj hf
    exact a_return dX12_fail_7 rfl
def fX12_lastOf_l9 : Nat → Nat → Nat → Int32 → Int32 → hp → Option (Nat × Nat × hp)
  | 0, _, _, _, _, _ => none
  | n + 1, x0, x1, x3, x4, h =>
    if 6 ≤ x4 then (
      some (2, 0, h)
    ) else (
      (ckT h x1 0).bind fun _ =>
      (fX1_add x1 x3 h).bind fun h2 =>
      (gfR h2 x0 11 0).bind fun v4 =>
      (ckT h2 v4 8).bind fun _ =>
      bd2 (fX9_held v4 x3 h2) fun v7 h8 =>
      if v7 = 0 then (
        some (0, v7, h8)
      ) else (
        (gfI h8 v7 9 3).bind fun v10 =>
        if 0 ≤ v10 then (
          (gfI h8 v7 9 3).bind fun v12 =>
          fX12_lastOf_l9 n x0 x1 v12 (x4 + 1) h8
        ) else (
          some (1, v7, h8)
        )
      )
    )
def fX12_lastOf (a0 : Nat) (a1 : Nat) (a2 : Int32) (h : hp) : Option (Nat × hp) :=
  (ckT h a1 0).bind fun _ =>
  (fX1_begin a1 h).bind fun h2 =>
  bd3 (fX12_lastOf_l9 FU a0 a1 a2 0 h2) fun t7 v6 h5 =>
  if t7 = 0 then (
    (ckT h5 a0 11).bind fun _ =>
    (fX12_fail a0 0 1 h5).bind fun h9 =>
    some (0, h9)
  ) else
  if t7 = 1 then (
    some (v6, h5)
  ) else
  if t7 = 2 then (
    (ckT h5 a0 11).bind fun _ =>
    (fX12_fail a0 1 7 h5).bind fun h12 =>
    some (0, h12)
  ) else none
set_option maxHeartbeats 4000000 in
set_option maxRecDepth 100000 in
theorem sX12_lastOf_l9 (E : gE) (D : Nat) (hD : 3 ≤ D) {rz : Option Value} {h0 hz : hp} : ∀ (n : Nat) (x0 : Nat) (x1 : Nat) (x3 : Int32) (x4 : Int32) (h : hp) (tq : Nat) (m5 : Nat) (hq : hp), fX12_lastOf_l9 n x0 x1 x3 x4 h = some (tq, m5, hq) → (tq = 0 → AW E yX12_lastOf cX12_lastOf (Option.some (Jvm.ClassFile.FieldType.object "TemplatePress$Template")) 6 D rz h0 hz 36 [(0, .ref x0)] [] hq) → (tq = 1 → AW E yX12_lastOf cX12_lastOf (Option.some (Jvm.ClassFile.FieldType.object "TemplatePress$Template")) 6 D rz h0 hz 52 [(5, .ref m5)] [] hq) → (tq = 2 → AW E yX12_lastOf cX12_lastOf (Option.some (Jvm.ClassFile.FieldType.object "TemplatePress$Template")) 6 D rz h0 hz 67 [(0, .ref x0)] [] hq) → AW E yX12_lastOf cX12_lastOf (Option.some (Jvm.ClassFile.FieldType.object "TemplatePress$Template")) 6 D rz h0 hz 9 [(0, .ref x0), (1, .ref x1), (3, .int x3), (4, .int x4)] [] h := by
  intro n
  induction n with
  | zero =>
    intro x0 x1 x3 x4 h tq m5 hq hf _ _ _
    rw [fX12_lastOf_l9] at hf
    cases hf
  | succ n ih =>
    intro x0 x1 x3 x4 h tq m5 hq hf hk0 hk1 hk2
    rw [fX12_lastOf_l9] at hf
    refine a_iload (q := 3) dX12_lastOf_9 rfl ?_
    refine a_bipush (v := 6) dX12_lastOf_11 (by decide) ?_
    refine a_icmp_ge (tgt := 67) dX12_lastOf_13 (by decide) (fun c => ?_) (fun c => ?_)
    · have hf := ifp c hf
      obtain ⟨rfl, rfl, rfl⟩ := oc3 hf
      exact AW.sub [0] rfl (hk2 rfl)
    · have hf := ifn c hf
      refine a_aload_n (q := 1) dX12_lastOf_16 rfl rfl ?_
      refine a_iload_n (q := 2) dX12_lastOf_17 rfl rfl ?_
      obtain ⟨_, e3, hf⟩ := obd hf
      obtain ⟨h2, e1, hf⟩ := obd hf
      refine a_callV (as := [.int x3]) (np := 1) (ci := 0) (st := []) (sX1_add E (D - 1) (by omega) e1) dX12_lastOf_18 rfl (by omega) (by decide) cw_X12_119 ⟨wd_793, wd_794⟩ rfl (ckT_s e3) rfl (Nat.le_of_ble_eq_true rfl) ?_
      refine a_aload_n (q := 0) dX12_lastOf_21 rfl rfl ?_
      obtain ⟨v4, e5, hf⟩ := obd hf
      refine o_gfR dX12_lastOf_22 lk_X12_50 rfl e5 ?_
      refine a_iload_n (q := 2) dX12_lastOf_25 rfl rfl ?_
      obtain ⟨_, e9, hf⟩ := obd hf
      obtain ⟨v7, h8, e6, hf⟩ := ob2 hf
      refine a_callV (as := [.int x3]) (np := 1) (ci := 8) (st := []) (sX9_held E (D - 1) (by omega) e6) dX12_lastOf_26 rfl (by omega) (by decide) cw_X12_122 ⟨wd_743, wd_744⟩ rfl (ckT_s e9) rfl (Nat.le_of_ble_eq_true rfl) ?_
      refine a_astore (lv1 := [(5, .ref v7), (0, .ref x0), (1, .ref x1), (3, .int x3), (4, .int x4)]) dX12_lastOf_29 (by decide) rfl ?_
      refine a_aload (q := 0) dX12_lastOf_31 rfl ?_
      refine a_ifnonnull (tgt := 44) dX12_lastOf_33 (by decide) (fun c => ?_) (fun c => ?_)
      · have hf := ifn c hf
        refine a_aload (q := 0) dX12_lastOf_44 rfl ?_
        obtain ⟨v10, e11, hf⟩ := obd hf
        refine o_gfI dX12_lastOf_46 lk_X12_128 rfl e11 ?_
        refine a_if_ge (tgt := 55) dX12_lastOf_49 (by decide) (fun c => ?_) (fun c => ?_)
        · have hf := ifp c hf
          refine a_aload (q := 0) dX12_lastOf_55 rfl ?_
          obtain ⟨v12, e13, hf⟩ := obd hf
          refine o_gfI dX12_lastOf_57 lk_X12_128 rfl e13 ?_
          refine a_istore_n (lv1 := [(3, .int v12), (5, .ref v7), (0, .ref x0), (1, .ref x1), (4, .int x4)]) dX12_lastOf_60 rfl (by decide) rfl ?_
          refine a_iinc (q := 4) (v := (x4 + 1)) (lv1 := [(4, .int (x4 + 1)), (3, .int v12), (5, .ref v7), (0, .ref x0), (1, .ref x1)]) dX12_lastOf_61 rfl (by rfl) (by decide) rfl ?_
          refine a_goto (tgt := 9) dX12_lastOf_64 (by decide) ?_
          exact AW.sub [3, 4, 1, 0] rfl (ih _ _ _ _ _ _ _ _ hf hk0 hk1 hk2)
        · have hf := ifn c hf
          obtain ⟨rfl, rfl, rfl⟩ := oc3 hf
          exact AW.sub [0] rfl (hk1 rfl)
      · have hf := ifp c hf
        obtain ⟨rfl, rfl, rfl⟩ := oc3 hf
        exact AW.sub [1] rfl (hk0 rfl)
set_option maxHeartbeats 4000000 in
set_option maxRecDepth 100000 in
theorem sX12_lastOf (E : gE) (D : Nat) (hD : 3 ≤ D) {a0 : Nat} {a1 : Nat} {a2 : Int32} {h hz : hp} {v0 : Nat} (hf : fX12_lastOf a0 a1 a2 h = some (v0, hz)) : MC E yX12_lastOf cX12_lastOf (Option.some (Jvm.ClassFile.FieldType.object "TemplatePress$Template")) 6 D [.ref a0, .ref a1, .int a2] h (some (.ref v0)) hz := by
  refine MC.of (by decide +kernel) (Nat.le_of_ble_eq_true rfl) rfl ?_
  unfold fX12_lastOf at hf
  show AW E yX12_lastOf cX12_lastOf (Option.some (Jvm.ClassFile.FieldType.object "TemplatePress$Template")) 6 D (some (.ref v0)) h hz 0 [(0, .ref a0), (1, .ref a1), (2, .int a2)] [] h
  refine a_iload_n (q := 2) dX12_lastOf_0 rfl rfl ?_
  refine a_istore_n (lv1 := [(3, .int a2), (0, .ref a0), (1, .ref a1), (2, .int a2)]) dX12_lastOf_1 rfl (by decide) rfl ?_
  refine a_aload_n (q := 2) dX12_lastOf_2 rfl rfl ?_
  obtain ⟨_, e3, hf⟩ := obd hf
  obtain ⟨h2, e1, hf⟩ := obd hf
  refine a_callV (as := []) (np := 0) (ci := 0) (st := []) (sX1_begin E (D - 1) (by omega) e1) dX12_lastOf_3 rfl (by omega) (by decide) cw_X12_116 ⟨wd_789, wd_790⟩ rfl (ckT_s e3) rfl (Nat.le_of_ble_eq_true rfl) ?_
  refine a_iconst (v := 0) dX12_lastOf_6 (by decide) ?_
  refine a_istore (lv1 := [(4, .int 0), (3, .int a2), (0, .ref a0), (1, .ref a1), (2, .int a2)]) dX12_lastOf_7 (by decide) rfl ?_
  obtain ⟨t7, v6, h5, e4, hf⟩ := ob3 hf
  refine AW.sub [2, 3, 1, 0] rfl (sX12_lastOf_l9 E D hD _ _ _ _ _ _ _ _ _ e4 (fun c => ?_) (fun c => ?_) (fun c => ?_))
  · have hf := ifp c hf
    refine a_aload_n (q := 0) dX12_lastOf_36 rfl rfl ?_
    refine a_iconst (v := 0) dX12_lastOf_37 (by decide) ?_
    refine a_iconst (v := 1) dX12_lastOf_38 (by decide) ?_
    obtain ⟨_, e10, hf⟩ := obd hf
    obtain ⟨h9, e8, hf⟩ := obd hf
    refine a_callV (as := [.int 0, .int 1]) (np := 2) (ci := 11) (st := []) (sX12_fail E (D - 1) (by omega) e8) dX12_lastOf_39 rfl (by omega) (by decide) cw_X12_95 ⟨wd_770, ws_29⟩ rfl (ckT_s e10) rfl (Nat.le_of_ble_eq_true rfl) ?_
    refine a_null dX12_lastOf_42 ?_
    obtain ⟨rfl, rfl⟩ := oc2 hf
    exact a_areturn dX12_lastOf_43 rfl (Or.inl ⟨_, rfl⟩)
  · have hf := ifn (by rw [c]; decide) hf
    have hf := ifp c hf
    refine a_aload (q := 0) dX12_lastOf_52 rfl ?_
    obtain ⟨rfl, rfl⟩ := oc2 hf
    exact a_areturn dX12_lastOf_54 rfl (Or.inl ⟨_, rfl⟩)
  · have hf := ifn (by rw [c]; decide) hf
    have hf := ifn (by rw [c]; decide) hf
    have hf := ifp c hf
    refine a_aload_n (q := 0) dX12_lastOf_67 rfl rfl ?_
    refine a_iconst (v := 1) dX12_lastOf_68 (by decide) ?_
    refine a_bipush (v := 7) dX12_lastOf_69 (by decide) ?_
    obtain ⟨_, e13, hf⟩ := obd hf
    obtain ⟨h12, e11, hf⟩ := obd hf
    refine a_callV (as := [.int 1, .int 7]) (np := 2) (ci := 11) (st := []) (sX12_fail E (D - 1) (by omega) e11) dX12_lastOf_71 rfl (by omega) (by decide) cw_X12_95 ⟨wd_770, ws_29⟩ rfl (ckT_s e13) rfl (Nat.le_of_ble_eq_true rfl) ?_
    refine a_null dX12_lastOf_74 ?_
    obtain ⟨rfl, rfl⟩ := oc2 hf
    exact a_areturn dX12_lastOf_75 rfl (Or.inl ⟨_, rfl⟩)
def fX12_giveBack_l7 : Nat → Nat → Int32 → Int32 → hp → Option hp
  | 0, _, _, _, _ => none
  | n + 1, x0, x1, x2, h =>
    if x2 < x1 then (
      some (h)
    ) else (
      bd2 (fX13_among x2 348 h) fun v2 h3 =>
      if v2 = 0 then (
        some (h3)
      ) else (
        (gfR h3 x0 11 0).bind fun v4 =>
        (gfR h3 x0 11 9).bind fun v6 =>
        (alI h3 v6 x2).bind fun v8 =>
        (ckT h3 v4 8).bind fun _ =>
        bd2 (fX9_variable v4 v8 h3) fun v11 h12 =>
        if v11 = 0 then (
          fX12_giveBack_l7 n x0 x1 (x2 + (-1)) h12
        ) else (
          (gfR h12 x0 11 8).bind fun v14 =>
          (alR 6 h12 v14 x2).bind fun v16 =>
          if v16 = 0 then (
            fX12_giveBack_l7 n x0 x1 (x2 + (-1)) h12
          ) else (
            (gfR h12 x0 11 8).bind fun v18 =>
            (alR 6 h12 v18 x2).bind fun v20 =>
            (ckT h12 v11 10).bind fun _ =>
            (fX11_copy v11 v20 h12).bind fun h23 =>
            fX12_giveBack_l7 n x0 x1 (x2 + (-1)) h23
          )
        )
      )
    )
def fX12_giveBack (a0 : Nat) (a1 : Int32) (h : hp) : Option hp :=
  (gfI h a0 11 10).bind fun v1 =>
  (fX12_giveBack_l7 FU a0 a1 (v1 - 1) h).bind fun h4 =>
  (pfI h4 a0 11 10 a1).bind fun h5 =>
  some h5
set_option maxHeartbeats 4000000 in
set_option maxRecDepth 100000 in
theorem sX12_giveBack_l7 (E : gE) (D : Nat) (hD : 2 ≤ D) {rz : Option Value} {h0 hz : hp} : ∀ (n : Nat) (x0 : Nat) (x1 : Int32) (x2 : Int32) (h : hp) (hq : hp), fX12_giveBack_l7 n x0 x1 x2 h = some hq → (AW E yX12_giveBack cX12_giveBack (Option.none : Option Jvm.ClassFile.FieldType) 4 D rz h0 hz 65 [(0, .ref x0), (1, .int x1)] [] hq) → AW E yX12_giveBack cX12_giveBack (Option.none : Option Jvm.ClassFile.FieldType) 4 D rz h0 hz 7 [(0, .ref x0), (1, .int x1), (2, .int x2)] [] h := by
  intro n
  induction n with
  | zero =>
    intro x0 x1 x2 h hq hf _
    rw [fX12_giveBack_l7] at hf
    cases hf
  | succ n ih =>
    intro x0 x1 x2 h hq hf hk0
    rw [fX12_giveBack_l7] at hf
    refine a_iload_n (q := 2) dX12_giveBack_7 rfl rfl ?_
    refine a_iload_n (q := 1) dX12_giveBack_8 rfl rfl ?_
    refine a_icmp_lt (tgt := 65) dX12_giveBack_9 (by decide) (fun c => ?_) (fun c => ?_)
    · have hf := ifp c hf
      obtain rfl := Option.some.inj hf
      exact AW.sub [0, 1] rfl (hk0)
    · have hf := ifn c hf
      refine a_iload_n (q := 2) dX12_giveBack_12 rfl rfl ?_
      refine a_sipush (v := 348) dX12_giveBack_13 (by decide) ?_
      obtain ⟨v2, h3, e1, hf⟩ := ob2 hf
      refine a_callS (as := [.int x2, .int 348]) (np := 2) (st := []) (sX13_among E (D - 1) (by omega) e1) dX12_giveBack_16 rfl (by omega) (by decide) cw_X12_91 wd_268 rfl (Nat.le_of_ble_eq_true rfl) ?_
      refine a_if_eq (tgt := 65) dX12_giveBack_19 (by decide) (fun c => ?_) (fun c => ?_)
      · have hf := ifp c hf
        obtain rfl := Option.some.inj hf
        exact AW.sub [0, 1] rfl (hk0)
      · have hf := ifn c hf
        refine a_aload_n (q := 0) dX12_giveBack_22 rfl rfl ?_
        obtain ⟨v4, e5, hf⟩ := obd hf
        refine o_gfR dX12_giveBack_23 lk_X12_50 rfl e5 ?_
        refine a_aload_n (q := 0) dX12_giveBack_26 rfl rfl ?_
        obtain ⟨v6, e7, hf⟩ := obd hf
        refine o_gfR dX12_giveBack_27 lk_X12_46 rfl e7 ?_
        refine a_iload_n (q := 2) dX12_giveBack_30 rfl rfl ?_
        obtain ⟨v8, e9, hf⟩ := obd hf
        refine o_alI dX12_giveBack_31 e9 ?_
        obtain ⟨_, e13, hf⟩ := obd hf
        obtain ⟨v11, h12, e10, hf⟩ := ob2 hf
        refine a_callV (as := [.int v8]) (np := 1) (ci := 8) (st := []) (sX9_variable E (D - 1) (by omega) e10) dX12_giveBack_32 rfl (by omega) (by decide) cw_X12_237 ⟨wd_264, wd_265⟩ rfl (ckT_s e13) rfl (Nat.le_of_ble_eq_true rfl) ?_
        refine a_astore_n (lv1 := [(3, .ref v11), (0, .ref x0), (1, .int x1), (2, .int x2)]) dX12_giveBack_35 rfl (by decide) rfl ?_
        refine a_aload_n (q := 0) dX12_giveBack_36 rfl rfl ?_
        refine a_ifnull (tgt := 59) dX12_giveBack_37 (by decide) (fun c => ?_) (fun c => ?_)
        · have hf := ifp c hf
          refine a_iinc (q := 3) (v := (x2 + (-1))) (lv1 := [(2, .int (x2 + (-1))), (3, .ref v11), (0, .ref x0), (1, .int x1)]) dX12_giveBack_59 rfl (by rfl) (by decide) rfl ?_
          refine a_goto (tgt := 7) dX12_giveBack_62 (by decide) ?_
          exact AW.sub [2, 3, 0] rfl (ih _ _ _ _ _ hf hk0)
        · have hf := ifn c hf
          refine a_aload_n (q := 1) dX12_giveBack_40 rfl rfl ?_
          obtain ⟨v14, e15, hf⟩ := obd hf
          refine o_gfR dX12_giveBack_41 lk_X12_43 rfl e15 ?_
          refine a_iload_n (q := 3) dX12_giveBack_44 rfl rfl ?_
          obtain ⟨v16, e17, hf⟩ := obd hf
          refine o_alR dX12_giveBack_45 (by decide) e17 ?_
          refine a_ifnull (tgt := 59) dX12_giveBack_46 (by decide) (fun c => ?_) (fun c => ?_)
          · have hf := ifp c hf
            refine a_iinc (q := 3) (v := (x2 + (-1))) (lv1 := [(2, .int (x2 + (-1))), (3, .ref v11), (0, .ref x0), (1, .int x1)]) dX12_giveBack_59 rfl (by rfl) (by decide) rfl ?_
            refine a_goto (tgt := 7) dX12_giveBack_62 (by decide) ?_
            exact AW.sub [2, 3, 0] rfl (ih _ _ _ _ _ hf hk0)
          · have hf := ifn c hf
            refine a_aload_n (q := 0) dX12_giveBack_49 rfl rfl ?_
            refine a_aload_n (q := 1) dX12_giveBack_50 rfl rfl ?_
            obtain ⟨v18, e19, hf⟩ := obd hf
            refine o_gfR dX12_giveBack_51 lk_X12_43 rfl e19 ?_
            refine a_iload_n (q := 3) dX12_giveBack_54 rfl rfl ?_
            obtain ⟨v20, e21, hf⟩ := obd hf
            refine o_alR dX12_giveBack_55 (by decide) e21 ?_
            obtain ⟨_, e24, hf⟩ := obd hf
            obtain ⟨h23, e22, hf⟩ := obd hf
            refine a_callV (as := [.ref v20]) (np := 1) (ci := 10) (st := []) (sX11_copy E (D - 1) (by omega) e22) dX12_giveBack_56 rfl (by omega) (by decide) cw_X12_240 ⟨wd_825, wd_826⟩ rfl (ckT_s e24) rfl (Nat.le_of_ble_eq_true rfl) ?_
            refine a_iinc (q := 3) (v := (x2 + (-1))) (lv1 := [(2, .int (x2 + (-1))), (3, .ref v11), (0, .ref x0), (1, .int x1)]) dX12_giveBack_59 rfl (by rfl) (by decide) rfl ?_
            refine a_goto (tgt := 7) dX12_giveBack_62 (by decide) ?_
            exact AW.sub [2, 3, 0] rfl (ih _ _ _ _ _ hf hk0)
set_option maxHeartbeats 4000000 in
set_option maxRecDepth 100000 in
theorem sX12_giveBack (E : gE) (D : Nat) (hD : 2 ≤ D) {a0 : Nat} {a1 : Int32} {h hz : hp} (hf : fX12_giveBack a0 a1 h = some hz) : MC E yX12_giveBack cX12_giveBack (Option.none : Option Jvm.ClassFile.FieldType) 4 D [.ref a0, .int a1] h none hz := by
  refine MC.of (by decide +kernel) (Nat.le_of_ble_eq_true rfl) rfl ?_
  unfold fX12_giveBack at hf
  show AW E yX12_giveBack cX12_giveBack (Option.none : Option Jvm.ClassFile.FieldType) 4 D none h hz 0 [(0, .ref a0), (1, .int a1)] [] h
  refine a_aload_n (q := 0) dX12_giveBack_0 rfl rfl ?_
  obtain ⟨v1, e2, hf⟩ := obd hf
  refine o_gfI dX12_giveBack_1 lk_X12_131 rfl e2 ?_
  refine a_iconst (v := 1) dX12_giveBack_4 (by decide) ?_
  refine a_isub dX12_giveBack_5 ?_
  refine a_istore_n (lv1 := [(2, .int (v1 - 1)), (0, .ref a0), (1, .int a1)]) dX12_giveBack_6 rfl (by decide) rfl ?_
  obtain ⟨h4, e3, hf⟩ := obd hf
  refine AW.sub [1, 2, 0] rfl (sX12_giveBack_l7 E D hD _ _ _ _ _ _ e3 ?_)
  refine a_aload_n (q := 0) dX12_giveBack_65 rfl rfl ?_
  refine a_iload_n (q := 1) dX12_giveBack_66 rfl rfl ?_
  obtain ⟨h5, e6, hf⟩ := obd hf
  refine o_pfI dX12_giveBack_67 lk_X12_131 (⟨_, rfl, Or.inl rfl⟩) rfl e6 ?_
  obtain rfl := Option.some.inj hf
  exact a_return dX12_giveBack_70 rfl
def fX12_behind (a0 : Int32) (a1 : Int32) (h : hp) : Option (Int32 × hp) :=
  if a0 = 0 then (
    if a1 = 60 then (
      some (1, h)
    ) else (
      if a1 = 96 then (
        some (3, h)
      ) else (
        some (0, h)
      )
    )
  ) else (
  if a0 = 1 then (
    if a1 = 62 then (
      some (0, h)
    ) else (
      if a1 = 34 then (
        some (2, h)
      ) else (
        some (1, h)
      )
    )
  ) else (
  if a0 = 2 then (
    if a1 = 34 then (
      some (1, h)
    ) else (
      some (2, h)
    )
  ) else (
    if a1 = 96 then (
      some (0, h)
    ) else (
      some (3, h)
    )
  )))
set_option maxHeartbeats 4000000 in
set_option maxRecDepth 100000 in
theorem sX12_behind (E : gE) (D : Nat) (hD : 0 ≤ D) {a0 : Int32} {a1 : Int32} {h hz : hp} {v0 : Int32} (hf : fX12_behind a0 a1 h = some (v0, hz)) : MC E yX12_behind cX12_behind (Option.some Jvm.ClassFile.FieldType.int) 2 D [.int a0, .int a1] h (some (.int v0)) hz := by
  refine MC.of (by decide +kernel) (Nat.le_of_ble_eq_true rfl) rfl ?_
  unfold fX12_behind at hf
  show AW E yX12_behind cX12_behind (Option.some Jvm.ClassFile.FieldType.int) 2 D (some (.int v0)) h hz 0 [(0, .int a0), (1, .int a1)] [] h
  refine a_iload_n (q := 0) dX12_behind_0 rfl rfl ?_
  by_cases c1_0 : a0 = 0
  · have hf := ifp c1_0 hf
    refine a_tblIn (k := 0) (off := 27) (tgt := 28) dX12_behind_1 c1_0 (by decide) (by decide) rfl (by decide) ?_
    refine a_iload_n (q := 1) dX12_behind_28 rfl rfl ?_
    refine a_bipush (v := 60) dX12_behind_29 (by decide) ?_
    refine a_icmp_ne (tgt := 38) dX12_behind_31 (by decide) (fun c => ?_) (fun c => ?_)
    · have hf := ifn c hf
      refine a_iload_n (q := 1) dX12_behind_38 rfl rfl ?_
      refine a_bipush (v := 96) dX12_behind_39 (by decide) ?_
      refine a_icmp_ne (tgt := 48) dX12_behind_41 (by decide) (fun c => ?_) (fun c => ?_)
      · have hf := ifn c hf
        refine a_iconst (v := 0) dX12_behind_48 (by decide) ?_
        obtain ⟨rfl, rfl⟩ := oc2 hf
        exact a_ireturn dX12_behind_49 rfl
      · have hf := ifp c hf
        refine a_iconst (v := 3) dX12_behind_44 (by decide) ?_
        refine a_goto (tgt := 49) dX12_behind_45 (by decide) ?_
        obtain ⟨rfl, rfl⟩ := oc2 hf
        exact a_ireturn dX12_behind_49 rfl
    · have hf := ifp c hf
      refine a_iconst (v := 1) dX12_behind_34 (by decide) ?_
      refine a_goto (tgt := 49) dX12_behind_35 (by decide) ?_
      obtain ⟨rfl, rfl⟩ := oc2 hf
      exact a_ireturn dX12_behind_49 rfl
  have hf := ifn c1_0 hf
  by_cases c1_1 : a0 = 1
  · have hf := ifp c1_1 hf
    refine a_tblIn (k := 1) (off := 49) (tgt := 50) dX12_behind_1 c1_1 (by decide) (by decide) rfl (by decide) ?_
    refine a_iload_n (q := 1) dX12_behind_50 rfl rfl ?_
    refine a_bipush (v := 62) dX12_behind_51 (by decide) ?_
    refine a_icmp_ne (tgt := 60) dX12_behind_53 (by decide) (fun c => ?_) (fun c => ?_)
    · have hf := ifn c hf
      refine a_iload_n (q := 1) dX12_behind_60 rfl rfl ?_
      refine a_bipush (v := 34) dX12_behind_61 (by decide) ?_
      refine a_icmp_ne (tgt := 70) dX12_behind_63 (by decide) (fun c => ?_) (fun c => ?_)
      · have hf := ifn c hf
        refine a_iconst (v := 1) dX12_behind_70 (by decide) ?_
        obtain ⟨rfl, rfl⟩ := oc2 hf
        exact a_ireturn dX12_behind_71 rfl
      · have hf := ifp c hf
        refine a_iconst (v := 2) dX12_behind_66 (by decide) ?_
        refine a_goto (tgt := 71) dX12_behind_67 (by decide) ?_
        obtain ⟨rfl, rfl⟩ := oc2 hf
        exact a_ireturn dX12_behind_71 rfl
    · have hf := ifp c hf
      refine a_iconst (v := 0) dX12_behind_56 (by decide) ?_
      refine a_goto (tgt := 71) dX12_behind_57 (by decide) ?_
      obtain ⟨rfl, rfl⟩ := oc2 hf
      exact a_ireturn dX12_behind_71 rfl
  have hf := ifn c1_1 hf
  by_cases c1_2 : a0 = 2
  · have hf := ifp c1_2 hf
    refine a_tblIn (k := 2) (off := 71) (tgt := 72) dX12_behind_1 c1_2 (by decide) (by decide) rfl (by decide) ?_
    refine a_iload_n (q := 1) dX12_behind_72 rfl rfl ?_
    refine a_bipush (v := 34) dX12_behind_73 (by decide) ?_
    refine a_icmp_ne (tgt := 82) dX12_behind_75 (by decide) (fun c => ?_) (fun c => ?_)
    · have hf := ifn c hf
      refine a_iconst (v := 2) dX12_behind_82 (by decide) ?_
      obtain ⟨rfl, rfl⟩ := oc2 hf
      exact a_ireturn dX12_behind_83 rfl
    · have hf := ifp c hf
      refine a_iconst (v := 1) dX12_behind_78 (by decide) ?_
      refine a_goto (tgt := 83) dX12_behind_79 (by decide) ?_
      obtain ⟨rfl, rfl⟩ := oc2 hf
      exact a_ireturn dX12_behind_83 rfl
  have hf := ifn c1_2 hf
  have t1_0 := lv_neT (a := 0) c1_0 rfl
  have t1_1 := lv_neT (a := 1) c1_1 rfl
  have t1_2 := lv_neT (a := 2) c1_2 rfl
  refine a_tblOut (tgt := 84) dX12_behind_1 (by omega) (by decide) ?_
  refine a_iload_n (q := 1) dX12_behind_84 rfl rfl ?_
  refine a_bipush (v := 96) dX12_behind_85 (by decide) ?_
  refine a_icmp_ne (tgt := 94) dX12_behind_87 (by decide) (fun c => ?_) (fun c => ?_)
  · have hf := ifn c hf
    refine a_iconst (v := 3) dX12_behind_94 (by decide) ?_
    obtain ⟨rfl, rfl⟩ := oc2 hf
    exact a_ireturn dX12_behind_95 rfl
  · have hf := ifp c hf
    refine a_iconst (v := 0) dX12_behind_90 (by decide) ?_
    refine a_goto (tgt := 95) dX12_behind_91 (by decide) ?_
    obtain ⟨rfl, rfl⟩ := oc2 hf
    exact a_ireturn dX12_behind_95 rfl

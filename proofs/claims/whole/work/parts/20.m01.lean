def fX11_becomeInt (a0 : Nat) (a1 : Int32) (h : hp) : Option hp :=
  (pfI h a0 10 0 1).bind fun h1 =>
  (pfI h1 a0 10 1 a1).bind fun h3 =>
  (pfI h3 a0 10 3 0).bind fun h5 =>
  some h5
set_option maxHeartbeats 4000000 in
set_option maxRecDepth 100000 in
theorem sX11_becomeInt (E : gE) (D : Nat) (hD : 0 ≤ D) {a0 : Nat} {a1 : Int32} {h hz : hp} (hf : fX11_becomeInt a0 a1 h = some hz) : MC E yX11_becomeInt cX11_becomeInt (Option.none : Option Jvm.ClassFile.FieldType) 2 D [.ref a0, .int a1] h none hz := by
  refine MC.of (by decide +kernel) (Nat.le_of_ble_eq_true rfl) rfl ?_
  unfold fX11_becomeInt at hf
  show AW E yX11_becomeInt cX11_becomeInt (Option.none : Option Jvm.ClassFile.FieldType) 2 D none h hz 0 [(0, .ref a0), (1, .int a1)] [] h
  refine a_aload_n (q := 0) dX11_becomeInt_0 rfl rfl ?_
  refine a_iconst (v := 1) dX11_becomeInt_1 (by decide) ?_
  obtain ⟨h1, e2, hf⟩ := obd hf
  refine o_pfI dX11_becomeInt_2 lk_X11_23 (⟨_, rfl, Or.inl rfl⟩) rfl e2 ?_
  refine a_aload_n (q := 0) dX11_becomeInt_5 rfl rfl ?_
  refine a_iload_n (q := 1) dX11_becomeInt_6 rfl rfl ?_
  obtain ⟨h3, e4, hf⟩ := obd hf
  refine o_pfI dX11_becomeInt_7 lk_X11_26 (⟨_, rfl, Or.inl rfl⟩) rfl e4 ?_
  refine a_aload_n (q := 0) dX11_becomeInt_10 rfl rfl ?_
  refine a_iconst (v := 0) dX11_becomeInt_11 (by decide) ?_
  obtain ⟨h5, e6, hf⟩ := obd hf
  refine o_pfI dX11_becomeInt_12 lk_X11_19 (⟨_, rfl, Or.inl rfl⟩) rfl e6 ?_
  obtain rfl := Option.some.inj hf
  exact a_return dX11_becomeInt_15 rfl
def fX11_init (a0 : Nat) (h : hp) : Option hp :=
  (ckT h a0 10).bind fun _ =>
  bd2 (nwA h 0 16) fun v2 h3 =>
  (pfR h3 a0 10 4 v2).bind fun h5 =>
  some h5
set_option maxHeartbeats 4000000 in
set_option maxRecDepth 100000 in
theorem sX11_init (E : gE) (D : Nat) (hD : 1 ≤ D) {a0 : Nat} {h hz : hp} (hf : fX11_init a0 h = some hz) : MC E yX11_init cX11_init (Option.none : Option Jvm.ClassFile.FieldType) 1 D [.ref a0] h none hz := by
  refine MC.of (by decide +kernel) (Nat.le_of_ble_eq_true rfl) rfl ?_
  unfold fX11_init at hf
  show AW E yX11_init cX11_init (Option.none : Option Jvm.ClassFile.FieldType) 1 D none h hz 0 [(0, .ref a0)] [] h
  refine a_aload_n (q := 0) dX11_init_0 rfl rfl ?_
  obtain ⟨_, e1, hf⟩ := obd hf
  refine o_objI dX11_init_1 (by omega) wd_68 wd_32 wd_33 (by decide) (ckT_s e1) (Nat.le_of_ble_eq_true rfl) ?_
  refine a_aload_n (q := 0) dX11_init_4 rfl rfl ?_
  refine a_bipush (v := 16) dX11_init_5 (by decide) ?_
  obtain ⟨v2, h3, e4, hf⟩ := ob2 hf
  refine o_nwI dX11_init_7 wd_63 e4 ?_
  obtain ⟨h5, e6, hf⟩ := obd hf
  refine o_pfR dX11_init_9 lk_X11_9 (⟨_, rfl, Or.inr ⟨rfl, rfl, rfl, wd_77⟩⟩) rfl e6 ?_
  obtain rfl := Option.some.inj hf
  exact a_return dX11_init_12 rfl
def fX7_readNumber (a0 : Nat) (h : hp) : Option (Nat × hp) :=
  bd2 (nwO h 10 5) fun v1 h2 =>
  (ckT h2 v1 10).bind fun _ =>
  (fX11_init v1 h2).bind fun h5 =>
  (ckT h5 a0 6).bind fun _ =>
  bd2 (fX7_peek a0 h5) fun v8 h9 =>
  jn (fun (s22_0 : Int32) (h22j : hp) => (
    jn (fun (h37j : hp) => (
      (ckT h37j a0 6).bind fun _ =>
      bd2 (fX7_readFigures a0 h37j) fun v12 h13 =>
      jn (fun (s53_0 : Int32) (h53j : hp) => (
        (ckT h53j v1 10).bind fun _ =>
        (fX11_becomeInt v1 s53_0 h53j).bind fun h16 =>
        some (v1, h16)
        : Option (Nat × hp))) fun k53 =>
      if s22_0 = 0 then (
        k53 v12 h13
      ) else (
        k53 (-v12) h13
      )
      : Option (Nat × hp))) fun k37 =>
    if s22_0 = 0 then (
      k37 h22j
    ) else (
      (gfI h22j a0 6 2).bind fun v18 =>
      (pfI h22j a0 6 2 (v18 + 1)).bind fun h20 =>
      k37 h20
    )
    : Option (Nat × hp))) fun k22 =>
  if v8 = 45 then (
    k22 1 h9
  ) else (
    k22 0 h9
  )
set_option maxHeartbeats 4000000 in
set_option maxRecDepth 100000 in
theorem sX7_readNumber (E : gE) (D : Nat) (hD : 2 ≤ D) {a0 : Nat} {h hz : hp} {v0 : Nat} (hf : fX7_readNumber a0 h = some (v0, hz)) : MC E yX7_readNumber cX7_readNumber (Option.some (Jvm.ClassFile.FieldType.object "TemplatePress$Value")) 4 D [.ref a0] h (some (.ref v0)) hz := by
  refine MC.of (by decide +kernel) (Nat.le_of_ble_eq_true rfl) rfl ?_
  unfold fX7_readNumber at hf
  show AW E yX7_readNumber cX7_readNumber (Option.some (Jvm.ClassFile.FieldType.object "TemplatePress$Value")) 4 D (some (.ref v0)) h hz 0 [(0, .ref a0)] [] h
  obtain ⟨v1, h2, e3, hf⟩ := ob2 hf
  refine o_nwO (ci := 10) dX7_readNumber_0 rfl rfl gu_10 tyX11_ok (by decide) wd_596 wd_64 wd_4 e3 ?_
  refine a_dup dX7_readNumber_3 rfl ?_
  obtain ⟨_, e6, hf⟩ := obd hf
  obtain ⟨h5, e4, hf⟩ := obd hf
  refine a_callI (as := []) (np := 0) (ci := 10) (st := [.ref v1]) (sX11_init E (D - 1) (by omega) e4) dX7_readNumber_4 rfl (by omega) (by decide) cw_X7_204 ⟨wd_66, rfl⟩ rfl (ckT_s e6) rfl (Nat.le_of_ble_eq_true rfl) ?_
  refine a_astore_n (lv1 := [(1, .ref v1), (0, .ref a0)]) dX7_readNumber_7 rfl (by decide) rfl ?_
  refine a_aload_n (q := 1) dX7_readNumber_8 rfl rfl ?_
  obtain ⟨_, e10, hf⟩ := obd hf
  obtain ⟨v8, h9, e7, hf⟩ := ob2 hf
  refine a_callV (as := []) (np := 0) (ci := 6) (st := []) (sX7_peek E (D - 1) (by omega) e7) dX7_readNumber_9 rfl (by omega) (by decide) cw_X7_77 ⟨wd_483, ws_4⟩ rfl (ckT_s e10) rfl (Nat.le_of_ble_eq_true rfl) ?_
  refine a_bipush (v := 45) dX7_readNumber_12 (by decide) ?_
  obtain ⟨k22, ek22, hf⟩ := jn_s hf
  have hj22 : ∀ (s22_0 : Int32) (h22j : hp), k22 s22_0 h22j = some (v0, hz) → AW E yX7_readNumber cX7_readNumber (Option.some (Jvm.ClassFile.FieldType.object "TemplatePress$Value")) 4 D (some (.ref v0)) h hz 22 [(0, .ref a0), (1, .ref v1)] [.int s22_0] h22j := by
    intro s22_0 h22j hf
    rw [ek22] at hf
    clear ek22
    refine a_istore_n (lv1 := [(2, .int s22_0), (0, .ref a0), (1, .ref v1)]) dX7_readNumber_22 rfl (by decide) rfl ?_
    refine a_iload_n (q := 0) dX7_readNumber_23 rfl rfl ?_
    obtain ⟨k37, ek37, hf⟩ := jn_s hf
    have hj37 : ∀ (h37j : hp), k37 h37j = some (v0, hz) → AW E yX7_readNumber cX7_readNumber (Option.some (Jvm.ClassFile.FieldType.object "TemplatePress$Value")) 4 D (some (.ref v0)) h hz 37 [(0, .ref a0), (1, .ref v1), (2, .int s22_0)] [] h37j := by
      intro h37j hf
      rw [ek37] at hf
      clear ek37
      refine a_aload_n (q := 0) dX7_readNumber_37 rfl rfl ?_
      obtain ⟨_, e14, hf⟩ := obd hf
      obtain ⟨v12, h13, e11, hf⟩ := ob2 hf
      refine a_callV (as := []) (np := 0) (ci := 6) (st := []) (sX7_readFigures E (D - 1) (by omega) e11) dX7_readNumber_38 rfl (by omega) (by decide) cw_X7_205 ⟨wd_611, ws_17⟩ rfl (ckT_s e14) rfl (Nat.le_of_ble_eq_true rfl) ?_
      refine a_istore_n (lv1 := [(3, .int v12), (0, .ref a0), (1, .ref v1), (2, .int s22_0)]) dX7_readNumber_41 rfl (by decide) rfl ?_
      refine a_aload_n (q := 2) dX7_readNumber_42 rfl rfl ?_
      refine a_iload_n (q := 3) dX7_readNumber_43 rfl rfl ?_
      obtain ⟨k53, ek53, hf⟩ := jn_s hf
      have hj53 : ∀ (s53_0 : Int32) (h53j : hp), k53 s53_0 h53j = some (v0, hz) → AW E yX7_readNumber cX7_readNumber (Option.some (Jvm.ClassFile.FieldType.object "TemplatePress$Value")) 4 D (some (.ref v0)) h hz 53 [(1, .ref v1)] [.int s53_0, .ref v1] h53j := by
        intro s53_0 h53j hf
        rw [ek53] at hf
        clear ek53
        obtain ⟨_, e17, hf⟩ := obd hf
        obtain ⟨h16, e15, hf⟩ := obd hf
        refine a_callV (as := [.int s53_0]) (np := 1) (ci := 10) (st := []) (sX11_becomeInt E (D - 1) (by omega) e15) dX7_readNumber_53 rfl (by omega) (by decide) cw_X7_208 ⟨wd_284, wd_285⟩ rfl (ckT_s e17) rfl (Nat.le_of_ble_eq_true rfl) ?_
        refine a_aload_n (q := 0) dX7_readNumber_56 rfl rfl ?_
        obtain ⟨rfl, rfl⟩ := oc2 hf
        exact a_areturn dX7_readNumber_57 rfl (Or.inl ⟨_, rfl⟩)
      clear ek53
      refine a_if_eq (tgt := 52) dX7_readNumber_44 (by decide) (fun c => ?_) (fun c => ?_)
      · have hf := ifp c hf
        refine a_iload_n (q := 0) dX7_readNumber_52 rfl rfl ?_
        exact AW.sub [2] rfl (hj53 _ _ hf)
      · have hf := ifn c hf
        refine a_iload_n (q := 0) dX7_readNumber_47 rfl rfl ?_
        refine a_ineg dX7_readNumber_48 ?_
        refine a_goto (tgt := 53) dX7_readNumber_49 (by decide) ?_
        exact AW.sub [2] rfl (hj53 _ _ hf)
    clear ek37
    refine a_if_eq (tgt := 37) dX7_readNumber_24 (by decide) (fun c => ?_) (fun c => ?_)
    · have hf := ifp c hf
      exact AW.sub [1, 2, 0] rfl (hj37 _ hf)
    · have hf := ifn c hf
      refine a_aload_n (q := 1) dX7_readNumber_27 rfl rfl ?_
      refine a_aload_n (q := 1) dX7_readNumber_28 rfl rfl ?_
      obtain ⟨v18, e19, hf⟩ := obd hf
      refine o_gfI dX7_readNumber_29 lk_X7_40 rfl e19 ?_
      refine a_iconst (v := 1) dX7_readNumber_32 (by decide) ?_
      refine a_iadd dX7_readNumber_33 ?_
      obtain ⟨h20, e21, hf⟩ := obd hf
      refine o_pfI dX7_readNumber_34 lk_X7_40 (⟨_, rfl, Or.inl rfl⟩) rfl e21 ?_
      exact AW.sub [1, 2, 0] rfl (hj37 _ hf)
  clear ek22
  refine a_icmp_ne (tgt := 21) dX7_readNumber_14 (by decide) (fun c => ?_) (fun c => ?_)
  · have hf := ifn c hf
    refine a_iconst (v := 0) dX7_readNumber_21 (by decide) ?_
    exact AW.sub [1, 0] rfl (hj22 _ _ hf)
  · have hf := ifp c hf
    refine a_iconst (v := 1) dX7_readNumber_17 (by decide) ?_
    refine a_goto (tgt := 22) dX7_readNumber_18 (by decide) ?_
    exact AW.sub [1, 0] rfl (hj22 _ _ hf)
def fX11_put (a0 : Nat) (a1 : Int32) (a2 : Int32) (h : hp) : Option hp :=
  if a1 < 0 then (
    some h
  ) else (
    (gfI h a0 10 3).bind fun v1 =>
    if v1 ≤ a1 then (
      some h
    ) else (
      (gfR h a0 10 4).bind fun v3 =>
      (aln 0 h v3).bind fun v5 =>
      if v5 ≤ a1 then (
        some h
      ) else (
        (gfR h a0 10 4).bind fun v7 =>
        (asI h v7 a1 a2).bind fun h9 =>
        some h9
      )
    )
  )
set_option maxHeartbeats 4000000 in
set_option maxRecDepth 100000 in
theorem sX11_put (E : gE) (D : Nat) (hD : 0 ≤ D) {a0 : Nat} {a1 : Int32} {a2 : Int32} {h hz : hp} (hf : fX11_put a0 a1 a2 h = some hz) : MC E yX11_put cX11_put (Option.none : Option Jvm.ClassFile.FieldType) 3 D [.ref a0, .int a1, .int a2] h none hz := by
  refine MC.of (by decide +kernel) (Nat.le_of_ble_eq_true rfl) rfl ?_
  unfold fX11_put at hf
  show AW E yX11_put cX11_put (Option.none : Option Jvm.ClassFile.FieldType) 3 D none h hz 0 [(0, .ref a0), (1, .int a1), (2, .int a2)] [] h
  refine a_iload_n (q := 1) dX11_put_0 rfl rfl ?_
  refine a_if_lt (tgt := 28) dX11_put_1 (by decide) (fun c => ?_) (fun c => ?_)
  · have hf := ifp c hf
    obtain rfl := Option.some.inj hf
    exact a_return dX11_put_28 rfl
  · have hf := ifn c hf
    refine a_iload_n (q := 1) dX11_put_4 rfl rfl ?_
    refine a_aload_n (q := 0) dX11_put_5 rfl rfl ?_
    obtain ⟨v1, e2, hf⟩ := obd hf
    refine o_gfI dX11_put_6 lk_X11_19 rfl e2 ?_
    refine a_icmp_ge (tgt := 28) dX11_put_9 (by decide) (fun c => ?_) (fun c => ?_)
    · have hf := ifp c hf
      obtain rfl := Option.some.inj hf
      exact a_return dX11_put_28 rfl
    · have hf := ifn c hf
      refine a_iload_n (q := 1) dX11_put_12 rfl rfl ?_
      refine a_aload_n (q := 0) dX11_put_13 rfl rfl ?_
      obtain ⟨v3, e4, hf⟩ := obd hf
      refine o_gfR dX11_put_14 lk_X11_9 rfl e4 ?_
      obtain ⟨v5, e6, hf⟩ := obd hf
      refine o_aln dX11_put_17 (by decide) e6 ?_
      refine a_icmp_ge (tgt := 28) dX11_put_18 (by decide) (fun c => ?_) (fun c => ?_)
      · have hf := ifp c hf
        obtain rfl := Option.some.inj hf
        exact a_return dX11_put_28 rfl
      · have hf := ifn c hf
        refine a_aload_n (q := 0) dX11_put_21 rfl rfl ?_
        obtain ⟨v7, e8, hf⟩ := obd hf
        refine o_gfR dX11_put_22 lk_X11_9 rfl e8 ?_
        refine a_iload_n (q := 1) dX11_put_25 rfl rfl ?_
        refine a_iload_n (q := 2) dX11_put_26 rfl rfl ?_
        obtain ⟨h9, e10, hf⟩ := obd hf
        refine o_asI dX11_put_27 e10 ?_
        obtain rfl := Option.some.inj hf
        exact a_return dX11_put_28 rfl
def fX11_resize (a0 : Nat) (a1 : Int32) (h : hp) : Option hp :=
  jn (fun (s18_0 : Int32) (h18j : hp) => (
    (pfI h18j a0 10 3 s18_0).bind fun h1 =>
    some h1
    : Option hp)) fun k18 =>
  if 0 ≤ a1 then (
    (gfR h a0 10 4).bind fun v3 =>
    (aln 0 h v3).bind fun v5 =>
    bd2 (fJ9_min_7cf53 a1 v5 h) fun v8 h9 =>
    k18 v8 h9
  ) else (
    k18 0 h
  )
set_option maxHeartbeats 4000000 in
set_option maxRecDepth 100000 in
theorem sX11_resize (E : gE) (D : Nat) (hD : 1 ≤ D) {a0 : Nat} {a1 : Int32} {h hz : hp} (hf : fX11_resize a0 a1 h = some hz) : MC E yX11_resize cX11_resize (Option.none : Option Jvm.ClassFile.FieldType) 2 D [.ref a0, .int a1] h none hz := by
  refine MC.of (by decide +kernel) (Nat.le_of_ble_eq_true rfl) rfl ?_
  unfold fX11_resize at hf
  show AW E yX11_resize cX11_resize (Option.none : Option Jvm.ClassFile.FieldType) 2 D none h hz 0 [(0, .ref a0), (1, .int a1)] [] h
  refine a_aload_n (q := 0) dX11_resize_0 rfl rfl ?_
  refine a_iload_n (q := 1) dX11_resize_1 rfl rfl ?_
  obtain ⟨k18, ek18, hf⟩ := jn_s hf
  have hj18 : ∀ (s18_0 : Int32) (h18j : hp), k18 s18_0 h18j = some hz → AW E yX11_resize cX11_resize (Option.none : Option Jvm.ClassFile.FieldType) 2 D none h hz 18 [] [.int s18_0, .ref a0] h18j := by
    intro s18_0 h18j hf
    rw [ek18] at hf
    clear ek18
    obtain ⟨h1, e2, hf⟩ := obd hf
    refine o_pfI dX11_resize_18 lk_X11_19 (⟨_, rfl, Or.inl rfl⟩) rfl e2 ?_
    obtain rfl := Option.some.inj hf
    exact a_return dX11_resize_21 rfl
  clear ek18
  refine a_if_ge (tgt := 9) dX11_resize_2 (by decide) (fun c => ?_) (fun c => ?_)
  · have hf := ifp c hf
    refine a_iload_n (q := 1) dX11_resize_9 rfl rfl ?_
    refine a_aload_n (q := 0) dX11_resize_10 rfl rfl ?_
    obtain ⟨v3, e4, hf⟩ := obd hf
    refine o_gfR dX11_resize_11 lk_X11_9 rfl e4 ?_
    obtain ⟨v5, e6, hf⟩ := obd hf
    refine o_aln dX11_resize_14 (by decide) e6 ?_
    obtain ⟨v8, h9, e7, hf⟩ := ob2 hf
    refine a_callS (as := [.int a1, .int v5]) (np := 2) (st := [.ref a0]) (sJ9_min_7cf53 E (D - 1) (by omega) e7) dX11_resize_15 rfl (by omega) (by decide) cw_X11_56 wd_310 rfl (Nat.le_of_ble_eq_true rfl) ?_
    exact AW.sub [] rfl (hj18 _ _ hf)
  · have hf := ifn c hf
    refine a_iconst (v := 0) dX11_resize_5 (by decide) ?_
    refine a_goto (tgt := 18) dX11_resize_6 (by decide) ?_
    exact AW.sub [] rfl (hj18 _ _ hf)
def fX11_becomeText_l26 : Nat → Nat → Nat → Int32 → hp → Option hp
  | 0, _, _, _, _ => none
  | n + 1, x0, x1, x2, h =>
    (gfI h x0 10 3).bind fun v1 =>
    if v1 ≤ x2 then (
      some (h)
    ) else (
      (ckT h x1 4).bind fun _ =>
      bd2 (fX5_at x1 x2 h) fun v4 h5 =>
      (ckT h5 x0 10).bind fun _ =>
      (fX11_put x0 x2 v4 h5).bind fun h8 =>
      fX11_becomeText_l26 n x0 x1 (x2 + 1) h8
    )
def fX11_becomeText (a0 : Nat) (a1 : Nat) (h : hp) : Option (Int32 × hp) :=
  (gfI h a1 4 1).bind fun v1 =>
  if v1 ≤ 16 then (
    (pfI h a0 10 0 3).bind fun h3 =>
    (gfI h3 a1 4 1).bind fun v5 =>
    (ckT h3 a0 10).bind fun _ =>
    (fX11_resize a0 v5 h3).bind fun h8 =>
    (fX11_becomeText_l26 FU a0 a1 0 h8).bind fun h11 =>
    some (1, h11)
  ) else (
    some (0, h)
  )
set_option maxHeartbeats 4000000 in
set_option maxRecDepth 100000 in
theorem sX11_becomeText_l26 (E : gE) (D : Nat) (hD : 2 ≤ D) {rz : Option Value} {h0 hz : hp} : ∀ (n : Nat) (x0 : Nat) (x1 : Nat) (x2 : Int32) (h : hp) (hq : hp), fX11_becomeText_l26 n x0 x1 x2 h = some hq → (AW E yX11_becomeText cX11_becomeText (Option.some Jvm.ClassFile.FieldType.boolean) 3 D rz h0 hz 50 [] [] hq) → AW E yX11_becomeText cX11_becomeText (Option.some Jvm.ClassFile.FieldType.boolean) 3 D rz h0 hz 26 [(0, .ref x0), (1, .ref x1), (2, .int x2)] [] h := by
  intro n
  induction n with
  | zero =>
    intro x0 x1 x2 h hq hf _
    rw [fX11_becomeText_l26] at hf
    cases hf
  | succ n ih =>
    intro x0 x1 x2 h hq hf hk0
    rw [fX11_becomeText_l26] at hf
    refine a_iload_n (q := 2) dX11_becomeText_26 rfl rfl ?_
    refine a_aload_n (q := 0) dX11_becomeText_27 rfl rfl ?_
    obtain ⟨v1, e2, hf⟩ := obd hf
    refine o_gfI dX11_becomeText_28 lk_X11_19 rfl e2 ?_
    refine a_icmp_ge (tgt := 50) dX11_becomeText_31 (by decide) (fun c => ?_) (fun c => ?_)
    · have hf := ifp c hf
      obtain rfl := Option.some.inj hf
      exact AW.sub [] rfl (hk0)
    · have hf := ifn c hf
      refine a_aload_n (q := 0) dX11_becomeText_34 rfl rfl ?_
      refine a_iload_n (q := 2) dX11_becomeText_35 rfl rfl ?_
      refine a_aload_n (q := 1) dX11_becomeText_36 rfl rfl ?_
      refine a_iload_n (q := 2) dX11_becomeText_37 rfl rfl ?_
      obtain ⟨_, e6, hf⟩ := obd hf
      obtain ⟨v4, h5, e3, hf⟩ := ob2 hf
      refine a_callV (as := [.int x2]) (np := 1) (ci := 4) (st := [.int x2, .ref x0]) (sX5_at E (D - 1) (by omega) e3) dX11_becomeText_38 rfl (by omega) (by decide) cw_X11_52 ⟨wd_313, wd_314⟩ rfl (ckT_s e6) rfl (Nat.le_of_ble_eq_true rfl) ?_
      obtain ⟨_, e9, hf⟩ := obd hf
      obtain ⟨h8, e7, hf⟩ := obd hf
      refine a_callV (as := [.int x2, .int v4]) (np := 2) (ci := 10) (st := []) (sX11_put E (D - 1) (by omega) e7) dX11_becomeText_41 rfl (by omega) (by decide) cw_X11_45 ⟨wd_317, wd_318⟩ rfl (ckT_s e9) rfl (Nat.le_of_ble_eq_true rfl) ?_
      refine a_iinc (q := 2) (v := (x2 + 1)) (lv1 := [(2, .int (x2 + 1)), (0, .ref x0), (1, .ref x1)]) dX11_becomeText_44 rfl (by rfl) (by decide) rfl ?_
      refine a_goto (tgt := 26) dX11_becomeText_47 (by decide) ?_
      exact AW.sub [1, 2, 0] rfl (ih _ _ _ _ _ hf hk0)
set_option maxHeartbeats 4000000 in
set_option maxRecDepth 100000 in
theorem sX11_becomeText (E : gE) (D : Nat) (hD : 2 ≤ D) {a0 : Nat} {a1 : Nat} {h hz : hp} {v0 : Int32} (hf : fX11_becomeText a0 a1 h = some (v0, hz)) : MC E yX11_becomeText cX11_becomeText (Option.some Jvm.ClassFile.FieldType.boolean) 3 D [.ref a0, .ref a1] h (some (.int v0)) hz := by
  refine MC.of (by decide +kernel) (Nat.le_of_ble_eq_true rfl) rfl ?_
  unfold fX11_becomeText at hf
  show AW E yX11_becomeText cX11_becomeText (Option.some Jvm.ClassFile.FieldType.boolean) 3 D (some (.int v0)) h hz 0 [(0, .ref a0), (1, .ref a1)] [] h
  refine a_aload_n (q := 1) dX11_becomeText_0 rfl rfl ?_
  obtain ⟨v1, e2, hf⟩ := obd hf
  refine o_gfI dX11_becomeText_1 lk_X11_49 rfl e2 ?_
  refine a_bipush (v := 16) dX11_becomeText_4 (by decide) ?_
  refine a_icmp_le (tgt := 11) dX11_becomeText_6 (by decide) (fun c => ?_) (fun c => ?_)
  · have hf := ifp c hf
    refine a_aload_n (q := 0) dX11_becomeText_11 rfl rfl ?_
    refine a_iconst (v := 3) dX11_becomeText_12 (by decide) ?_
    obtain ⟨h3, e4, hf⟩ := obd hf
    refine o_pfI dX11_becomeText_13 lk_X11_23 (⟨_, rfl, Or.inl rfl⟩) rfl e4 ?_
    refine a_aload_n (q := 0) dX11_becomeText_16 rfl rfl ?_
    refine a_aload_n (q := 1) dX11_becomeText_17 rfl rfl ?_
    obtain ⟨v5, e6, hf⟩ := obd hf
    refine o_gfI dX11_becomeText_18 lk_X11_49 rfl e6 ?_
    obtain ⟨_, e9, hf⟩ := obd hf
    obtain ⟨h8, e7, hf⟩ := obd hf
    refine a_callV (as := [.int v5]) (np := 1) (ci := 10) (st := []) (sX11_resize E (D - 1) (by omega) e7) dX11_becomeText_21 rfl (by omega) (by decide) cw_X11_41 ⟨wd_307, ws_0⟩ rfl (ckT_s e9) rfl (Nat.le_of_ble_eq_true rfl) ?_
    refine a_iconst (v := 0) dX11_becomeText_24 (by decide) ?_
    refine a_istore_n (lv1 := [(2, .int 0), (0, .ref a0), (1, .ref a1)]) dX11_becomeText_25 rfl (by decide) rfl ?_
    obtain ⟨h11, e10, hf⟩ := obd hf
    refine AW.sub [1, 2, 0] rfl (sX11_becomeText_l26 E D hD _ _ _ _ _ _ e10 ?_)
    refine a_iconst (v := 1) dX11_becomeText_50 (by decide) ?_
    obtain ⟨rfl, rfl⟩ := oc2 hf
    exact a_zreturn dX11_becomeText_51 rfl (by decide)
  · have hf := ifn c hf
    refine a_iconst (v := 0) dX11_becomeText_9 (by decide) ?_
    obtain ⟨rfl, rfl⟩ := oc2 hf
    exact a_zreturn dX11_becomeText_10 rfl (by decide)
def fX7_isTextByte (a0 : Int32) (h : hp) : Option (Int32 × hp) :=
  if a0 ≤ 0 then (
    some (0, h)
  ) else (
    if a0 = 39 then (
      some (0, h)
    ) else (
      if a0 = 123 then (
        some (0, h)
      ) else (
        if a0 = 125 then (
          some (0, h)
        ) else (
          some (1, h)
        )
      )
    )
  )
set_option maxHeartbeats 4000000 in
set_option maxRecDepth 100000 in
theorem sX7_isTextByte (E : gE) (D : Nat) (hD : 0 ≤ D) {a0 : Int32} {h hz : hp} {v0 : Int32} (hf : fX7_isTextByte a0 h = some (v0, hz)) : MC E yX7_isTextByte cX7_isTextByte (Option.some Jvm.ClassFile.FieldType.boolean) 1 D [.int a0] h (some (.int v0)) hz := by
  refine MC.of (by decide +kernel) (Nat.le_of_ble_eq_true rfl) rfl ?_
  unfold fX7_isTextByte at hf
  show AW E yX7_isTextByte cX7_isTextByte (Option.some Jvm.ClassFile.FieldType.boolean) 1 D (some (.int v0)) h hz 0 [(0, .int a0)] [] h
  refine a_iload_n (q := 0) dX7_isTextByte_0 rfl rfl ?_
  refine a_if_le (tgt := 26) dX7_isTextByte_1 (by decide) (fun c => ?_) (fun c => ?_)
  · have hf := ifp c hf
    refine a_iconst (v := 0) dX7_isTextByte_26 (by decide) ?_
    obtain ⟨rfl, rfl⟩ := oc2 hf
    exact a_zreturn dX7_isTextByte_27 rfl (by decide)
  · have hf := ifn c hf
    refine a_iload_n (q := 0) dX7_isTextByte_4 rfl rfl ?_
    refine a_bipush (v := 39) dX7_isTextByte_5 (by decide) ?_
    refine a_icmp_eq (tgt := 26) dX7_isTextByte_7 (by decide) (fun c => ?_) (fun c => ?_)
    · have hf := ifp c hf
      refine a_iconst (v := 0) dX7_isTextByte_26 (by decide) ?_
      obtain ⟨rfl, rfl⟩ := oc2 hf
      exact a_zreturn dX7_isTextByte_27 rfl (by decide)
    · have hf := ifn c hf
      refine a_iload_n (q := 0) dX7_isTextByte_10 rfl rfl ?_
      refine a_bipush (v := 123) dX7_isTextByte_11 (by decide) ?_
      refine a_icmp_eq (tgt := 26) dX7_isTextByte_13 (by decide) (fun c => ?_) (fun c => ?_)
      · have hf := ifp c hf
        refine a_iconst (v := 0) dX7_isTextByte_26 (by decide) ?_
        obtain ⟨rfl, rfl⟩ := oc2 hf
        exact a_zreturn dX7_isTextByte_27 rfl (by decide)
      · have hf := ifn c hf
        refine a_iload_n (q := 0) dX7_isTextByte_16 rfl rfl ?_
        refine a_bipush (v := 125) dX7_isTextByte_17 (by decide) ?_
        refine a_icmp_eq (tgt := 26) dX7_isTextByte_19 (by decide) (fun c => ?_) (fun c => ?_)
        · have hf := ifp c hf
          refine a_iconst (v := 0) dX7_isTextByte_26 (by decide) ?_
          obtain ⟨rfl, rfl⟩ := oc2 hf
          exact a_zreturn dX7_isTextByte_27 rfl (by decide)
        · have hf := ifn c hf
          refine a_iconst (v := 1) dX7_isTextByte_22 (by decide) ?_
          refine a_goto (tgt := 27) dX7_isTextByte_23 (by decide) ?_
          obtain ⟨rfl, rfl⟩ := oc2 hf
          exact a_zreturn dX7_isTextByte_27 rfl (by decide)
def fX7_readText_l30 : Nat → Nat → Nat → Nat → Int32 → hp → Option hp
  | 0, _, _, _, _, _ => none
  | n + 1, x0, x1, x2, x3, h =>
    if 16 ≤ x3 then (
      some (h)
    ) else (
      (ckT h x0 6).bind fun _ =>
      bd2 (fX7_peek x0 h) fun v2 h3 =>
      bd2 (fX7_isTextByte v2 h3) fun v6 h7 =>
      if v6 = 0 then (
        some (h7)
      ) else (
        (ckT h7 x0 6).bind fun _ =>
        bd2 (fX7_peek x0 h7) fun v9 h10 =>
        jn (fun (h65j : hp) => (
          (ckT h65j x0 6).bind fun _ =>
          bd2 (fX7_peek x0 h65j) fun v13 h14 =>
          (ckT h14 x2 4).bind fun _ =>
          bd2 (fX5_add x2 v13 h14) fun v17 h18 =>
          (gfI h18 x0 6 2).bind fun v20 =>
          (pfI h18 x0 6 2 (v20 + 1)).bind fun h22 =>
          fX7_readText_l30 n x0 x1 x2 (x3 + 1) h22
          : Option hp)) fun k65 =>
        if v9 = 10 then (
          (gfI h10 x0 6 3).bind fun v24 =>
          (pfI h10 x0 6 3 (v24 + 1)).bind fun h26 =>
          k65 h26
        ) else (
          k65 h10
        )
      )
    )
def fX7_readText (a0 : Nat) (h : hp) : Option (Nat × hp) :=
  bd2 (nwO h 10 5) fun v1 h2 =>
  (ckT h2 v1 10).bind fun _ =>
  (fX11_init v1 h2).bind fun h5 =>
  bd2 (nwO h5 4 2) fun v7 h8 =>
  (ckT h8 v7 4).bind fun _ =>
  (fX5_init v7 16 h8).bind fun h11 =>
  (gfI h11 a0 6 2).bind fun v13 =>
  (pfI h11 a0 6 2 (v13 + 1)).bind fun h15 =>
  (fX7_readText_l30 FU a0 v1 v7 0 h15).bind fun h18 =>
  (ckT h18 a0 6).bind fun _ =>
  (fX7_expect a0 39 h18).bind fun h20 =>
  (ckT h20 v1 10).bind fun _ =>
  bd2 (fX11_becomeText v1 v7 h20) fun v23 h24 =>
  some (v1, h24)
set_option maxHeartbeats 4000000 in
set_option maxRecDepth 100000 in
theorem sX7_readText_l30 (E : gE) (D : Nat) (hD : 3 ≤ D) {rz : Option Value} {h0 hz : hp} : ∀ (n : Nat) (x0 : Nat) (x1 : Nat) (x2 : Nat) (x3 : Int32) (h : hp) (hq : hp), fX7_readText_l30 n x0 x1 x2 x3 h = some hq → (AW E yX7_readText cX7_readText (Option.some (Jvm.ClassFile.FieldType.object "TemplatePress$Value")) 4 D rz h0 hz 90 [(0, .ref x0), (1, .ref x1), (2, .ref x2)] [] hq) → AW E yX7_readText cX7_readText (Option.some (Jvm.ClassFile.FieldType.object "TemplatePress$Value")) 4 D rz h0 hz 30 [(0, .ref x0), (1, .ref x1), (2, .ref x2), (3, .int x3)] [] h := by
  intro n
  induction n with
  | zero =>
    intro x0 x1 x2 x3 h hq hf _
    rw [fX7_readText_l30] at hf
    cases hf
  | succ n ih =>
    intro x0 x1 x2 x3 h hq hf hk0
    rw [fX7_readText_l30] at hf
    refine a_iload_n (q := 3) dX7_readText_30 rfl rfl ?_
    refine a_bipush (v := 16) dX7_readText_31 (by decide) ?_
    refine a_icmp_ge (tgt := 90) dX7_readText_33 (by decide) (fun c => ?_) (fun c => ?_)
    · have hf := ifp c hf
      obtain rfl := Option.some.inj hf
      exact AW.sub [0, 1, 2] rfl (hk0)
    · have hf := ifn c hf
      refine a_aload_n (q := 0) dX7_readText_36 rfl rfl ?_
      obtain ⟨_, e4, hf⟩ := obd hf
      obtain ⟨v2, h3, e1, hf⟩ := ob2 hf
      refine a_callV (as := []) (np := 0) (ci := 6) (st := []) (sX7_peek E (D - 1) (by omega) e1) dX7_readText_37 rfl (by omega) (by decide) cw_X7_77 ⟨wd_483, ws_4⟩ rfl (ckT_s e4) rfl (Nat.le_of_ble_eq_true rfl) ?_
      obtain ⟨v6, h7, e5, hf⟩ := ob2 hf
      refine a_callS (as := [.int v2]) (np := 1) (st := []) (sX7_isTextByte E (D - 1) (by omega) e5) dX7_readText_40 rfl (by omega) (by decide) cw_X7_212 wd_601 rfl (Nat.le_of_ble_eq_true rfl) ?_
      refine a_if_eq (tgt := 90) dX7_readText_43 (by decide) (fun c => ?_) (fun c => ?_)
      · have hf := ifp c hf
        obtain rfl := Option.some.inj hf
        exact AW.sub [0, 1, 2] rfl (hk0)
      · have hf := ifn c hf
        refine a_aload_n (q := 0) dX7_readText_46 rfl rfl ?_
        obtain ⟨_, e11, hf⟩ := obd hf
        obtain ⟨v9, h10, e8, hf⟩ := ob2 hf
        refine a_callV (as := []) (np := 0) (ci := 6) (st := []) (sX7_peek E (D - 1) (by omega) e8) dX7_readText_47 rfl (by omega) (by decide) cw_X7_77 ⟨wd_483, ws_4⟩ rfl (ckT_s e11) rfl (Nat.le_of_ble_eq_true rfl) ?_
        refine a_bipush (v := 10) dX7_readText_50 (by decide) ?_
        obtain ⟨k65, ek65, hf⟩ := jn_s hf
        have hj65 : ∀ (h65j : hp), k65 h65j = some hq → AW E yX7_readText cX7_readText (Option.some (Jvm.ClassFile.FieldType.object "TemplatePress$Value")) 4 D rz h0 hz 65 [(0, .ref x0), (1, .ref x1), (2, .ref x2), (3, .int x3)] [] h65j := by
          intro h65j hf
          rw [ek65] at hf
          clear ek65
          refine a_aload_n (q := 2) dX7_readText_65 rfl rfl ?_
          refine a_aload_n (q := 0) dX7_readText_66 rfl rfl ?_
          obtain ⟨_, e15, hf⟩ := obd hf
          obtain ⟨v13, h14, e12, hf⟩ := ob2 hf
          refine a_callV (as := []) (np := 0) (ci := 6) (st := [.ref x2]) (sX7_peek E (D - 1) (by omega) e12) dX7_readText_67 rfl (by omega) (by decide) cw_X7_77 ⟨wd_483, ws_4⟩ rfl (ckT_s e15) rfl (Nat.le_of_ble_eq_true rfl) ?_
          obtain ⟨_, e19, hf⟩ := obd hf
          obtain ⟨v17, h18, e16, hf⟩ := ob2 hf
          refine a_callV (as := [.int v13]) (np := 1) (ci := 4) (st := []) (sX5_add E (D - 1) (by omega) e16) dX7_readText_70 rfl (by omega) (by decide) cw_X7_215 ⟨wd_358, wd_359⟩ rfl (ckT_s e19) rfl (Nat.le_of_ble_eq_true rfl) ?_
          refine a_pop dX7_readText_73 rfl ?_
          refine a_aload_n (q := 0) dX7_readText_74 rfl rfl ?_
          refine a_aload_n (q := 0) dX7_readText_75 rfl rfl ?_
          obtain ⟨v20, e21, hf⟩ := obd hf
          refine o_gfI dX7_readText_76 lk_X7_40 rfl e21 ?_
          refine a_iconst (v := 1) dX7_readText_79 (by decide) ?_
          refine a_iadd dX7_readText_80 ?_
          obtain ⟨h22, e23, hf⟩ := obd hf
          refine o_pfI dX7_readText_81 lk_X7_40 (⟨_, rfl, Or.inl rfl⟩) rfl e23 ?_
          refine a_iinc (q := 3) (v := (x3 + 1)) (lv1 := [(3, .int (x3 + 1)), (0, .ref x0), (1, .ref x1), (2, .ref x2)]) dX7_readText_84 rfl (by rfl) (by decide) rfl ?_
          refine a_goto (tgt := 30) dX7_readText_87 (by decide) ?_
          exact AW.sub [1, 2, 3, 0] rfl (ih _ _ _ _ _ _ hf hk0)
        clear ek65
        refine a_icmp_ne (tgt := 65) dX7_readText_52 (by decide) (fun c => ?_) (fun c => ?_)
        · have hf := ifn c hf
          exact hj65 _ hf
        · have hf := ifp c hf
          refine a_aload_n (q := 0) dX7_readText_55 rfl rfl ?_
          refine a_aload_n (q := 0) dX7_readText_56 rfl rfl ?_
          obtain ⟨v24, e25, hf⟩ := obd hf
          refine o_gfI dX7_readText_57 lk_X7_9 rfl e25 ?_
          refine a_iconst (v := 1) dX7_readText_60 (by decide) ?_
          refine a_iadd dX7_readText_61 ?_
          obtain ⟨h26, e27, hf⟩ := obd hf
          refine o_pfI dX7_readText_62 lk_X7_9 (⟨_, rfl, Or.inl rfl⟩) rfl e27 ?_
          exact hj65 _ hf
set_option maxHeartbeats 4000000 in
set_option maxRecDepth 100000 in
theorem sX7_readText (E : gE) (D : Nat) (hD : 3 ≤ D) {a0 : Nat} {h hz : hp} {v0 : Nat} (hf : fX7_readText a0 h = some (v0, hz)) : MC E yX7_readText cX7_readText (Option.some (Jvm.ClassFile.FieldType.object "TemplatePress$Value")) 4 D [.ref a0] h (some (.ref v0)) hz := by
  refine MC.of (by decide +kernel) (Nat.le_of_ble_eq_true rfl) rfl ?_
  unfold fX7_readText at hf
  show AW E yX7_readText cX7_readText (Option.some (Jvm.ClassFile.FieldType.object "TemplatePress$Value")) 4 D (some (.ref v0)) h hz 0 [(0, .ref a0)] [] h
  obtain ⟨v1, h2, e3, hf⟩ := ob2 hf
  refine o_nwO (ci := 10) dX7_readText_0 rfl rfl gu_10 tyX11_ok (by decide) wd_596 wd_64 wd_4 e3 ?_
  refine a_dup dX7_readText_3 rfl ?_
  obtain ⟨_, e6, hf⟩ := obd hf
  obtain ⟨h5, e4, hf⟩ := obd hf
  refine a_callI (as := []) (np := 0) (ci := 10) (st := [.ref v1]) (sX11_init E (D - 1) (by omega) e4) dX7_readText_4 rfl (by omega) (by decide) cw_X7_204 ⟨wd_66, rfl⟩ rfl (ckT_s e6) rfl (Nat.le_of_ble_eq_true rfl) ?_
  refine a_astore_n (lv1 := [(1, .ref v1), (0, .ref a0)]) dX7_readText_7 rfl (by decide) rfl ?_
  obtain ⟨v7, h8, e9, hf⟩ := ob2 hf
  refine o_nwO (ci := 4) dX7_readText_8 rfl rfl gu_4 tyX5_ok (by decide) wd_598 wd_45 wd_3 e9 ?_
  refine a_dup dX7_readText_11 rfl ?_
  refine a_bipush (v := 16) dX7_readText_12 (by decide) ?_
  obtain ⟨_, e12, hf⟩ := obd hf
  obtain ⟨h11, e10, hf⟩ := obd hf
  refine a_callI (as := [.int 16]) (np := 1) (ci := 4) (st := [.ref v7]) (sX5_init E (D - 1) (by omega) e10) dX7_readText_14 rfl (by omega) (by decide) cw_X7_211 ⟨wd_47, rfl⟩ rfl (ckT_s e12) rfl (Nat.le_of_ble_eq_true rfl) ?_
  refine a_astore_n (lv1 := [(2, .ref v7), (1, .ref v1), (0, .ref a0)]) dX7_readText_17 rfl (by decide) rfl ?_
  refine a_aload_n (q := 2) dX7_readText_18 rfl rfl ?_
  refine a_aload_n (q := 2) dX7_readText_19 rfl rfl ?_
  obtain ⟨v13, e14, hf⟩ := obd hf
  refine o_gfI dX7_readText_20 lk_X7_40 rfl e14 ?_
  refine a_iconst (v := 1) dX7_readText_23 (by decide) ?_
  refine a_iadd dX7_readText_24 ?_
  obtain ⟨h15, e16, hf⟩ := obd hf
  refine o_pfI dX7_readText_25 lk_X7_40 (⟨_, rfl, Or.inl rfl⟩) rfl e16 ?_
  refine a_iconst (v := 0) dX7_readText_28 (by decide) ?_
  refine a_istore_n (lv1 := [(3, .int 0), (2, .ref v7), (1, .ref v1), (0, .ref a0)]) dX7_readText_29 rfl (by decide) rfl ?_
  obtain ⟨h18, e17, hf⟩ := obd hf
  refine AW.sub [3, 2, 1, 0] rfl (sX7_readText_l30 E D hD _ _ _ _ _ _ _ e17 ?_)
  refine a_aload_n (q := 0) dX7_readText_90 rfl rfl ?_
  refine a_bipush (v := 39) dX7_readText_91 (by decide) ?_
  obtain ⟨_, e21, hf⟩ := obd hf
  obtain ⟨h20, e19, hf⟩ := obd hf
  refine a_callV (as := [.int 39]) (np := 1) (ci := 6) (st := []) (sX7_expect E (D - 1) (by omega) e19) dX7_readText_93 rfl (by omega) (by decide) cw_X7_52 ⟨wd_492, ws_6⟩ rfl (ckT_s e21) rfl (Nat.le_of_ble_eq_true rfl) ?_
  refine a_aload_n (q := 1) dX7_readText_96 rfl rfl ?_
  refine a_aload_n (q := 2) dX7_readText_97 rfl rfl ?_
  obtain ⟨_, e25, hf⟩ := obd hf
  obtain ⟨v23, h24, e22, hf⟩ := ob2 hf
  refine a_callV (as := [.ref v7]) (np := 1) (ci := 10) (st := []) (sX11_becomeText E (D - 1) (by omega) e22) dX7_readText_98 rfl (by omega) (by decide) cw_X7_218 ⟨wd_302, wd_303⟩ rfl (ckT_s e25) rfl (Nat.le_of_ble_eq_true rfl) ?_
  refine a_pop dX7_readText_101 rfl ?_
  refine a_aload_n (q := 1) dX7_readText_102 rfl rfl ?_
  obtain ⟨rfl, rfl⟩ := oc2 hf
  exact a_areturn dX7_readText_103 rfl (Or.inl ⟨_, rfl⟩)
def fX7_readVariable (a0 : Nat) (h : hp) : Option (Int32 × hp) :=
  (ckT h a0 6).bind fun _ =>
  bd2 (fX7_readOneOf a0 97 8 h) fun v2 h3 =>
  (gfR h3 a0 6 1).bind fun v5 =>
  (gfR h3 a0 6 1).bind fun v7 =>
  (gfI h3 v7 9 7).bind fun v9 =>
  (pfI h3 v5 9 7 (v9 ||| ((1 : Int32) <<< (v2 &&& 31)))).bind fun h11 =>
  some (v2, h11)
set_option maxHeartbeats 4000000 in
set_option maxRecDepth 100000 in
theorem sX7_readVariable (E : gE) (D : Nat) (hD : 2 ≤ D) {a0 : Nat} {h hz : hp} {v0 : Int32} (hf : fX7_readVariable a0 h = some (v0, hz)) : MC E yX7_readVariable cX7_readVariable (Option.some Jvm.ClassFile.FieldType.int) 2 D [.ref a0] h (some (.int v0)) hz := by
  refine MC.of (by decide +kernel) (Nat.le_of_ble_eq_true rfl) rfl ?_
  unfold fX7_readVariable at hf
  show AW E yX7_readVariable cX7_readVariable (Option.some Jvm.ClassFile.FieldType.int) 2 D (some (.int v0)) h hz 0 [(0, .ref a0)] [] h
  refine a_aload_n (q := 0) dX7_readVariable_0 rfl rfl ?_
  refine a_bipush (v := 97) dX7_readVariable_1 (by decide) ?_
  refine a_bipush (v := 8) dX7_readVariable_3 (by decide) ?_
  obtain ⟨_, e4, hf⟩ := obd hf
  obtain ⟨v2, h3, e1, hf⟩ := ob2 hf
  refine a_callV (as := [.int 97, .int 8]) (np := 2) (ci := 6) (st := []) (sX7_readOneOf E (D - 1) (by omega) e1) dX7_readVariable_5 rfl (by omega) (by decide) cw_X7_45 ⟨wd_479, ws_3⟩ rfl (ckT_s e4) rfl (Nat.le_of_ble_eq_true rfl) ?_
  refine a_istore_n (lv1 := [(1, .int v2), (0, .ref a0)]) dX7_readVariable_8 rfl (by decide) rfl ?_
  refine a_aload_n (q := 1) dX7_readVariable_9 rfl rfl ?_
  obtain ⟨v5, e6, hf⟩ := obd hf
  refine o_gfR dX7_readVariable_10 lk_X7_32 rfl e6 ?_
  refine a_aload_n (q := 1) dX7_readVariable_13 rfl rfl ?_
  obtain ⟨v7, e8, hf⟩ := obd hf
  refine o_gfR dX7_readVariable_14 lk_X7_32 rfl e8 ?_
  obtain ⟨v9, e10, hf⟩ := obd hf
  refine o_gfI dX7_readVariable_17 lk_X7_85 rfl e10 ?_
  refine a_iconst (v := 1) dX7_readVariable_20 (by decide) ?_
  refine a_iload_n (q := 0) dX7_readVariable_21 rfl rfl ?_
  refine a_ishl dX7_readVariable_22 ?_
  refine a_ior dX7_readVariable_23 ?_
  obtain ⟨h11, e12, hf⟩ := obd hf
  refine o_pfI dX7_readVariable_24 lk_X7_85 (⟨_, rfl, Or.inl rfl⟩) rfl e12 ?_
  refine a_iload_n (q := 0) dX7_readVariable_27 rfl rfl ?_
  obtain ⟨rfl, rfl⟩ := oc2 hf
  exact a_ireturn dX7_readVariable_28 rfl
def fX7_readByte (a0 : Nat) (h : hp) : Option (Nat × hp) :=
  bd2 (nwO h 5 9) fun v1 h2 =>
  (gfI h2 a0 6 3).bind fun v4 =>
  (ckT h2 v1 5).bind fun _ =>
  (fX6_init v1 0 v4 h2).bind fun h7 =>
  (ckT h7 a0 6).bind fun _ =>
  bd2 (fX7_peek a0 h7) fun v10 h11 =>
  (pfI h11 v1 5 2 v10).bind fun h13 =>
  (ckT h13 a0 6).bind fun _ =>
  bd2 (fX7_peek a0 h13) fun v16 h17 =>
  jn (fun (h34j : hp) => (
    (ckT h34j a0 6).bind fun _ =>
    bd2 (fX7_peek a0 h34j) fun v20 h21 =>
    jn (fun (h53j : hp) => (
      (gfI h53j a0 6 2).bind fun v23 =>
      (pfI h53j a0 6 2 (v23 + 1)).bind fun h25 =>
      some (v1, h25)
      : Option (Nat × hp))) fun k53 =>
    if v20 = 10 then (
      (gfI h21 a0 6 3).bind fun v27 =>
      (pfI h21 a0 6 3 (v27 + 1)).bind fun h29 =>
      k53 h29
    ) else (
      k53 h21
    )
    : Option (Nat × hp))) fun k34 =>
  if v16 = 125 then (
    (ckT h17 a0 6).bind fun _ =>
    (fX7_refuse a0 h17).bind fun h32 =>
    k34 h32
  ) else (
    k34 h17
  )
set_option maxHeartbeats 4000000 in
set_option maxRecDepth 100000 in
theorem sX7_readByte (E : gE) (D : Nat) (hD : 2 ≤ D) {a0 : Nat} {h hz : hp} {v0 : Nat} (hf : fX7_readByte a0 h = some (v0, hz)) : MC E yX7_readByte cX7_readByte (Option.some (Jvm.ClassFile.FieldType.object "TemplatePress$Piece")) 2 D [.ref a0] h (some (.ref v0)) hz := by
  refine MC.of (by decide +kernel) (Nat.le_of_ble_eq_true rfl) rfl ?_
  unfold fX7_readByte at hf
  show AW E yX7_readByte cX7_readByte (Option.some (Jvm.ClassFile.FieldType.object "TemplatePress$Piece")) 2 D (some (.ref v0)) h hz 0 [(0, .ref a0)] [] h
  obtain ⟨v1, h2, e3, hf⟩ := ob2 hf
  refine o_nwO (ci := 5) dX7_readByte_0 rfl rfl gu_5 tyX6_ok (by decide) wd_510 wd_511 wd_13 e3 ?_
  refine a_dup dX7_readByte_3 rfl ?_
  refine a_iconst (v := 0) dX7_readByte_4 (by decide) ?_
  refine a_aload_n (q := 0) dX7_readByte_5 rfl rfl ?_
  obtain ⟨v4, e5, hf⟩ := obd hf
  refine o_gfI dX7_readByte_6 lk_X7_9 rfl e5 ?_
  obtain ⟨_, e8, hf⟩ := obd hf
  obtain ⟨h7, e6, hf⟩ := obd hf
  refine a_callI (as := [.int 0, .int v4]) (np := 2) (ci := 5) (st := [.ref v1]) (sX6_init E (D - 1) (by omega) e6) dX7_readByte_9 rfl (by omega) (by decide) cw_X7_136 ⟨wd_513, rfl⟩ rfl (ckT_s e8) rfl (Nat.le_of_ble_eq_true rfl) ?_
  refine a_astore_n (lv1 := [(1, .ref v1), (0, .ref a0)]) dX7_readByte_12 rfl (by decide) rfl ?_
  refine a_aload_n (q := 0) dX7_readByte_13 rfl rfl ?_
  refine a_aload_n (q := 1) dX7_readByte_14 rfl rfl ?_
  obtain ⟨_, e12, hf⟩ := obd hf
  obtain ⟨v10, h11, e9, hf⟩ := ob2 hf
  refine a_callV (as := []) (np := 0) (ci := 6) (st := [.ref v1]) (sX7_peek E (D - 1) (by omega) e9) dX7_readByte_15 rfl (by omega) (by decide) cw_X7_77 ⟨wd_483, ws_4⟩ rfl (ckT_s e12) rfl (Nat.le_of_ble_eq_true rfl) ?_
  obtain ⟨h13, e14, hf⟩ := obd hf
  refine o_pfI dX7_readByte_18 lk_X7_147 (⟨_, rfl, Or.inl rfl⟩) rfl e14 ?_
  refine a_aload_n (q := 1) dX7_readByte_21 rfl rfl ?_
  obtain ⟨_, e18, hf⟩ := obd hf
  obtain ⟨v16, h17, e15, hf⟩ := ob2 hf
  refine a_callV (as := []) (np := 0) (ci := 6) (st := []) (sX7_peek E (D - 1) (by omega) e15) dX7_readByte_22 rfl (by omega) (by decide) cw_X7_77 ⟨wd_483, ws_4⟩ rfl (ckT_s e18) rfl (Nat.le_of_ble_eq_true rfl) ?_
  refine a_bipush (v := 125) dX7_readByte_25 (by decide) ?_
  obtain ⟨k34, ek34, hf⟩ := jn_s hf
  have hj34 : ∀ (h34j : hp), k34 h34j = some (v0, hz) → AW E yX7_readByte cX7_readByte (Option.some (Jvm.ClassFile.FieldType.object "TemplatePress$Piece")) 2 D (some (.ref v0)) h hz 34 [(0, .ref a0), (1, .ref v1)] [] h34j := by
    intro h34j hf
    rw [ek34] at hf
    clear ek34
    refine a_aload_n (q := 0) dX7_readByte_34 rfl rfl ?_
    obtain ⟨_, e22, hf⟩ := obd hf
    obtain ⟨v20, h21, e19, hf⟩ := ob2 hf
    refine a_callV (as := []) (np := 0) (ci := 6) (st := []) (sX7_peek E (D - 1) (by omega) e19) dX7_readByte_35 rfl (by omega) (by decide) cw_X7_77 ⟨wd_483, ws_4⟩ rfl (ckT_s e22) rfl (Nat.le_of_ble_eq_true rfl) ?_
    refine a_bipush (v := 10) dX7_readByte_38 (by decide) ?_
    obtain ⟨k53, ek53, hf⟩ := jn_s hf
    have hj53 : ∀ (h53j : hp), k53 h53j = some (v0, hz) → AW E yX7_readByte cX7_readByte (Option.some (Jvm.ClassFile.FieldType.object "TemplatePress$Piece")) 2 D (some (.ref v0)) h hz 53 [(0, .ref a0), (1, .ref v1)] [] h53j := by
      intro h53j hf
      rw [ek53] at hf
      clear ek53
      refine a_aload_n (q := 0) dX7_readByte_53 rfl rfl ?_
      refine a_aload_n (q := 0) dX7_readByte_54 rfl rfl ?_
      obtain ⟨v23, e24, hf⟩ := obd hf
      refine o_gfI dX7_readByte_55 lk_X7_40 rfl e24 ?_
      refine a_iconst (v := 1) dX7_readByte_58 (by decide) ?_
      refine a_iadd dX7_readByte_59 ?_
      obtain ⟨h25, e26, hf⟩ := obd hf
      refine o_pfI dX7_readByte_60 lk_X7_40 (⟨_, rfl, Or.inl rfl⟩) rfl e26 ?_
      refine a_aload_n (q := 1) dX7_readByte_63 rfl rfl ?_
      obtain ⟨rfl, rfl⟩ := oc2 hf
      exact a_areturn dX7_readByte_64 rfl (Or.inl ⟨_, rfl⟩)
    clear ek53
    refine a_icmp_ne (tgt := 53) dX7_readByte_40 (by decide) (fun c => ?_) (fun c => ?_)
    · have hf := ifn c hf
      exact hj53 _ hf
    · have hf := ifp c hf
      refine a_aload_n (q := 0) dX7_readByte_43 rfl rfl ?_
      refine a_aload_n (q := 0) dX7_readByte_44 rfl rfl ?_
      obtain ⟨v27, e28, hf⟩ := obd hf
      refine o_gfI dX7_readByte_45 lk_X7_9 rfl e28 ?_
      refine a_iconst (v := 1) dX7_readByte_48 (by decide) ?_
      refine a_iadd dX7_readByte_49 ?_
      obtain ⟨h29, e30, hf⟩ := obd hf
      refine o_pfI dX7_readByte_50 lk_X7_9 (⟨_, rfl, Or.inl rfl⟩) rfl e30 ?_
      exact hj53 _ hf
  clear ek34
  refine a_icmp_ne (tgt := 34) dX7_readByte_27 (by decide) (fun c => ?_) (fun c => ?_)
  · have hf := ifn c hf
    exact AW.sub [1, 0] rfl (hj34 _ hf)
  · have hf := ifp c hf
    refine a_aload_n (q := 1) dX7_readByte_30 rfl rfl ?_
    obtain ⟨_, e33, hf⟩ := obd hf
    obtain ⟨h32, e31, hf⟩ := obd hf
    refine a_callV (as := []) (np := 0) (ci := 6) (st := []) (sX7_refuse E (D - 1) (by omega) e31) dX7_readByte_31 rfl (by omega) (by decide) cw_X7_70 ⟨wd_488, ws_5⟩ rfl (ckT_s e33) rfl (Nat.le_of_ble_eq_true rfl) ?_
    exact AW.sub [1, 0] rfl (hj34 _ hf)
def fX7_readPart (a0 : Nat) (h : hp) : Option (Nat × hp) :=
  bd2 (nwO h 5 9) fun v1 h2 =>
  (gfI h2 a0 6 3).bind fun v4 =>
  (ckT h2 v1 5).bind fun _ =>
  (fX6_init v1 6 v4 h2).bind fun h7 =>
  (gfI h7 a0 6 2).bind fun v9 =>
  (pfI h7 a0 6 2 (v9 + 1)).bind fun h11 =>
  (ckT h11 a0 6).bind fun _ =>
  bd2 (fX7_readOneOf a0 48 6 h11) fun v14 h15 =>
  (pfI h15 v1 5 2 v14).bind fun h17 =>
  (gfR h17 a0 6 1).bind fun v19 =>
  (gfR h17 a0 6 1).bind fun v21 =>
  (gfI h17 v21 9 6).bind fun v23 =>
  (gfI h17 v1 5 2).bind fun v25 =>
  (pfI h17 v19 9 6 (v23 ||| ((1 : Int32) <<< (v25 &&& 31)))).bind fun h27 =>
  (ckT h27 a0 6).bind fun _ =>
  (fX7_expect a0 125 h27).bind fun h30 =>
  some (v1, h30)
set_option maxHeartbeats 4000000 in
set_option maxRecDepth 100000 in
theorem sX7_readPart (E : gE) (D : Nat) (hD : 2 ≤ D) {a0 : Nat} {h hz : hp} {v0 : Nat} (hf : fX7_readPart a0 h = some (v0, hz)) : MC E yX7_readPart cX7_readPart (Option.some (Jvm.ClassFile.FieldType.object "TemplatePress$Piece")) 2 D [.ref a0] h (some (.ref v0)) hz := by
  refine MC.of (by decide +kernel) (Nat.le_of_ble_eq_true rfl) rfl ?_
  unfold fX7_readPart at hf
  show AW E yX7_readPart cX7_readPart (Option.some (Jvm.ClassFile.FieldType.object "TemplatePress$Piece")) 2 D (some (.ref v0)) h hz 0 [(0, .ref a0)] [] h
  obtain ⟨v1, h2, e3, hf⟩ := ob2 hf
  refine o_nwO (ci := 5) dX7_readPart_0 rfl rfl gu_5 tyX6_ok (by decide) wd_510 wd_511 wd_13 e3 ?_
  refine a_dup dX7_readPart_3 rfl ?_
  refine a_bipush (v := 6) dX7_readPart_4 (by decide) ?_
  refine a_aload_n (q := 0) dX7_readPart_6 rfl rfl ?_
  obtain ⟨v4, e5, hf⟩ := obd hf
  refine o_gfI dX7_readPart_7 lk_X7_9 rfl e5 ?_
  obtain ⟨_, e8, hf⟩ := obd hf
  obtain ⟨h7, e6, hf⟩ := obd hf
  refine a_callI (as := [.int 6, .int v4]) (np := 2) (ci := 5) (st := [.ref v1]) (sX6_init E (D - 1) (by omega) e6) dX7_readPart_10 rfl (by omega) (by decide) cw_X7_136 ⟨wd_513, rfl⟩ rfl (ckT_s e8) rfl (Nat.le_of_ble_eq_true rfl) ?_
  refine a_astore_n (lv1 := [(1, .ref v1), (0, .ref a0)]) dX7_readPart_13 rfl (by decide) rfl ?_
  refine a_aload_n (q := 1) dX7_readPart_14 rfl rfl ?_
  refine a_aload_n (q := 1) dX7_readPart_15 rfl rfl ?_
  obtain ⟨v9, e10, hf⟩ := obd hf
  refine o_gfI dX7_readPart_16 lk_X7_40 rfl e10 ?_
  refine a_iconst (v := 1) dX7_readPart_19 (by decide) ?_
  refine a_iadd dX7_readPart_20 ?_
  obtain ⟨h11, e12, hf⟩ := obd hf
  refine o_pfI dX7_readPart_21 lk_X7_40 (⟨_, rfl, Or.inl rfl⟩) rfl e12 ?_
  refine a_aload_n (q := 0) dX7_readPart_24 rfl rfl ?_
  refine a_aload_n (q := 1) dX7_readPart_25 rfl rfl ?_
  refine a_bipush (v := 48) dX7_readPart_26 (by decide) ?_
  refine a_bipush (v := 6) dX7_readPart_28 (by decide) ?_
  obtain ⟨_, e16, hf⟩ := obd hf
  obtain ⟨v14, h15, e13, hf⟩ := ob2 hf
  refine a_callV (as := [.int 48, .int 6]) (np := 2) (ci := 6) (st := [.ref v1]) (sX7_readOneOf E (D - 1) (by omega) e13) dX7_readPart_30 rfl (by omega) (by decide) cw_X7_45 ⟨wd_479, ws_3⟩ rfl (ckT_s e16) rfl (Nat.le_of_ble_eq_true rfl) ?_
  obtain ⟨h17, e18, hf⟩ := obd hf
  refine o_pfI dX7_readPart_33 lk_X7_147 (⟨_, rfl, Or.inl rfl⟩) rfl e18 ?_
  refine a_aload_n (q := 1) dX7_readPart_36 rfl rfl ?_
  obtain ⟨v19, e20, hf⟩ := obd hf
  refine o_gfR dX7_readPart_37 lk_X7_32 rfl e20 ?_
  refine a_aload_n (q := 1) dX7_readPart_40 rfl rfl ?_
  obtain ⟨v21, e22, hf⟩ := obd hf
  refine o_gfR dX7_readPart_41 lk_X7_32 rfl e22 ?_
  obtain ⟨v23, e24, hf⟩ := obd hf
  refine o_gfI dX7_readPart_44 lk_X7_176 rfl e24 ?_
  refine a_iconst (v := 1) dX7_readPart_47 (by decide) ?_
  refine a_aload_n (q := 0) dX7_readPart_48 rfl rfl ?_
  obtain ⟨v25, e26, hf⟩ := obd hf
  refine o_gfI dX7_readPart_49 lk_X7_147 rfl e26 ?_
  refine a_ishl dX7_readPart_52 ?_
  refine a_ior dX7_readPart_53 ?_
  obtain ⟨h27, e28, hf⟩ := obd hf
  refine o_pfI dX7_readPart_54 lk_X7_176 (⟨_, rfl, Or.inl rfl⟩) rfl e28 ?_
  refine a_aload_n (q := 1) dX7_readPart_57 rfl rfl ?_
  refine a_bipush (v := 125) dX7_readPart_58 (by decide) ?_
  obtain ⟨_, e31, hf⟩ := obd hf
  obtain ⟨h30, e29, hf⟩ := obd hf
  refine a_callV (as := [.int 125]) (np := 1) (ci := 6) (st := []) (sX7_expect E (D - 1) (by omega) e29) dX7_readPart_60 rfl (by omega) (by decide) cw_X7_52 ⟨wd_492, ws_6⟩ rfl (ckT_s e31) rfl (Nat.le_of_ble_eq_true rfl) ?_
  refine a_aload_n (q := 0) dX7_readPart_63 rfl rfl ?_
  obtain ⟨rfl, rfl⟩ := oc2 hf
  exact a_areturn dX7_readPart_64 rfl (Or.inl ⟨_, rfl⟩)
def fX8_init (a0 : Nat) (h : hp) : Option hp :=
  (ckT h a0 7).bind fun _ =>
  (pfI h a0 7 0 (-1)).bind fun h2 =>
  bd2 (nwA h2 0 60) fun v4 h5 =>
  (pfR h5 a0 7 2 v4).bind fun h7 =>
  bd2 (nwA h7 1 60) fun v9 h10 =>
  (pfR h10 a0 7 3 v9).bind fun h12 =>
  some h12
set_option maxHeartbeats 4000000 in
set_option maxRecDepth 100000 in
theorem sX8_init (E : gE) (D : Nat) (hD : 1 ≤ D) {a0 : Nat} {h hz : hp} (hf : fX8_init a0 h = some hz) : MC E yX8_init cX8_init (Option.none : Option Jvm.ClassFile.FieldType) 1 D [.ref a0] h none hz := by
  refine MC.of (by decide +kernel) (Nat.le_of_ble_eq_true rfl) rfl ?_
  unfold fX8_init at hf
  show AW E yX8_init cX8_init (Option.none : Option Jvm.ClassFile.FieldType) 1 D none h hz 0 [(0, .ref a0)] [] h
  refine a_aload_n (q := 0) dX8_init_0 rfl rfl ?_
  obtain ⟨_, e1, hf⟩ := obd hf
  refine o_objI dX8_init_1 (by omega) wd_114 wd_32 wd_33 (by decide) (ckT_s e1) (Nat.le_of_ble_eq_true rfl) ?_
  refine a_aload_n (q := 0) dX8_init_4 rfl rfl ?_
  refine a_iconst (v := (-1)) dX8_init_5 (by decide) ?_
  obtain ⟨h2, e3, hf⟩ := obd hf
  refine o_pfI dX8_init_6 lk_X8_9 (⟨_, rfl, Or.inl rfl⟩) rfl e3 ?_
  refine a_aload_n (q := 0) dX8_init_9 rfl rfl ?_
  refine a_bipush (v := 60) dX8_init_10 (by decide) ?_
  obtain ⟨v4, h5, e6, hf⟩ := ob2 hf
  refine o_nwI dX8_init_12 wd_63 e6 ?_
  obtain ⟨h7, e8, hf⟩ := obd hf
  refine o_pfR dX8_init_14 lk_X8_15 (⟨_, rfl, Or.inr ⟨rfl, rfl, rfl, wd_119⟩⟩) rfl e8 ?_
  refine a_aload_n (q := 0) dX8_init_17 rfl rfl ?_
  refine a_bipush (v := 60) dX8_init_18 (by decide) ?_
  obtain ⟨v9, h10, e11, hf⟩ := ob2 hf
  refine o_nwF dX8_init_20 wd_130 e11 ?_
  obtain ⟨h12, e13, hf⟩ := obd hf
  refine o_pfR dX8_init_22 lk_X8_19 (⟨_, rfl, Or.inr ⟨rfl, rfl, rfl, wd_120⟩⟩) rfl e13 ?_
  obtain rfl := Option.some.inj hf
  exact a_return dX8_init_25 rfl
def fJ9_max_7cf53 (a0 : Int32) (a1 : Int32) (h : hp) : Option (Int32 × hp) :=
  if a0 < a1 then (
    some (a1, h)
  ) else (
    some (a0, h)
  )
set_option maxHeartbeats 4000000 in
set_option maxRecDepth 100000 in
theorem sJ9_max_7cf53 (E : gE) (D : Nat) (hD : 0 ≤ D) {a0 : Int32} {a1 : Int32} {h hz : hp} {v0 : Int32} (hf : fJ9_max_7cf53 a0 a1 h = some (v0, hz)) : MC E yJ9_max_7cf53 cJ9_max_7cf53 (Option.some Jvm.ClassFile.FieldType.int) 2 D [.int a0, .int a1] h (some (.int v0)) hz := by
  refine MC.of (by decide +kernel) (Nat.le_of_ble_eq_true rfl) rfl ?_
  unfold fJ9_max_7cf53 at hf
  show AW E yJ9_max_7cf53 cJ9_max_7cf53 (Option.some Jvm.ClassFile.FieldType.int) 2 D (some (.int v0)) h hz 0 [(0, .int a0), (1, .int a1)] [] h
  refine a_iload_n (q := 0) dJ9_max_7cf53_0 rfl rfl ?_
  refine a_iload_n (q := 1) dJ9_max_7cf53_1 rfl rfl ?_
  refine a_icmp_lt (tgt := 9) dJ9_max_7cf53_2 (by decide) (fun c => ?_) (fun c => ?_)
  · have hf := ifp c hf
    refine a_iload_n (q := 1) dJ9_max_7cf53_9 rfl rfl ?_
    obtain ⟨rfl, rfl⟩ := oc2 hf
    exact a_ireturn dJ9_max_7cf53_10 rfl
  · have hf := ifn c hf
    refine a_iload_n (q := 0) dJ9_max_7cf53_5 rfl rfl ?_
    refine a_goto (tgt := 10) dJ9_max_7cf53_6 (by decide) ?_
    obtain ⟨rfl, rfl⟩ := oc2 hf
    exact a_ireturn dJ9_max_7cf53_10 rfl
def fX8_begin_l21 : Nat → Nat → Int32 → hp → Option hp
  | 0, _, _, _ => none
  | n + 1, x0, x3, h =>
    if 60 ≤ x3 then (
      some (h)
    ) else (
      (gfR h x0 7 2).bind fun v1 =>
      (asI h v1 x3 0).bind fun h3 =>
      (gfR h3 x0 7 3).bind fun v5 =>
      (asF h3 v5 x3 FP.fconst0).bind fun h7 =>
      fX8_begin_l21 n x0 (x3 + 1) h7
    )
def fX8_begin (a0 : Nat) (a1 : Int32) (a2 : Int32) (h : hp) : Option hp :=
  (pfI h a0 7 0 a1).bind fun h1 =>
  bd2 (fJ9_min_7cf53 a2 60 h1) fun v4 h5 =>
  bd2 (fJ9_max_7cf53 0 v4 h5) fun v7 h8 =>
  (pfI h8 a0 7 1 v7).bind fun h9 =>
  (fX8_begin_l21 FU a0 0 h9).bind fun h12 =>
  some h12
set_option maxHeartbeats 4000000 in
set_option maxRecDepth 100000 in
theorem sX8_begin_l21 (E : gE) (D : Nat) (hD : 1 ≤ D) {rz : Option Value} {h0 hz : hp} : ∀ (n : Nat) (x0 : Nat) (x3 : Int32) (h : hp) (hq : hp), fX8_begin_l21 n x0 x3 h = some hq → (AW E yX8_begin cX8_begin (Option.none : Option Jvm.ClassFile.FieldType) 4 D rz h0 hz 47 [] [] hq) → AW E yX8_begin cX8_begin (Option.none : Option Jvm.ClassFile.FieldType) 4 D rz h0 hz 21 [(0, .ref x0), (3, .int x3)] [] h := by
  intro n
  induction n with
  | zero =>
    intro x0 x3 h hq hf _
    rw [fX8_begin_l21] at hf
    cases hf
  | succ n ih =>
    intro x0 x3 h hq hf hk0
    rw [fX8_begin_l21] at hf
    refine a_iload_n (q := 1) dX8_begin_21 rfl rfl ?_
    refine a_bipush (v := 60) dX8_begin_22 (by decide) ?_
    refine a_icmp_ge (tgt := 47) dX8_begin_24 (by decide) (fun c => ?_) (fun c => ?_)
    · have hf := ifp c hf
      obtain rfl := Option.some.inj hf
      exact AW.sub [] rfl (hk0)
    · have hf := ifn c hf
      refine a_aload_n (q := 0) dX8_begin_27 rfl rfl ?_
      obtain ⟨v1, e2, hf⟩ := obd hf
      refine o_gfR dX8_begin_28 lk_X8_15 rfl e2 ?_
      refine a_iload_n (q := 1) dX8_begin_31 rfl rfl ?_
      refine a_iconst (v := 0) dX8_begin_32 (by decide) ?_
      obtain ⟨h3, e4, hf⟩ := obd hf
      refine o_asI dX8_begin_33 e4 ?_
      refine a_aload_n (q := 0) dX8_begin_34 rfl rfl ?_
      obtain ⟨v5, e6, hf⟩ := obd hf
      refine o_gfR dX8_begin_35 lk_X8_19 rfl e6 ?_
      refine a_iload_n (q := 1) dX8_begin_38 rfl rfl ?_
      refine a_fconst0 dX8_begin_39 ?_
      obtain ⟨h7, e8, hf⟩ := obd hf
      refine o_asF dX8_begin_40 e8 ?_
      refine a_iinc (q := 1) (v := (x3 + 1)) (lv1 := [(3, .int (x3 + 1)), (0, .ref x0)]) dX8_begin_41 rfl (by rfl) (by decide) rfl ?_
      refine a_goto (tgt := 21) dX8_begin_44 (by decide) ?_
      exact AW.sub [1, 0] rfl (ih _ _ _ _ hf hk0)
set_option maxHeartbeats 4000000 in
set_option maxRecDepth 100000 in
theorem sX8_begin (E : gE) (D : Nat) (hD : 1 ≤ D) {a0 : Nat} {a1 : Int32} {a2 : Int32} {h hz : hp} (hf : fX8_begin a0 a1 a2 h = some hz) : MC E yX8_begin cX8_begin (Option.none : Option Jvm.ClassFile.FieldType) 4 D [.ref a0, .int a1, .int a2] h none hz := by
  refine MC.of (by decide +kernel) (Nat.le_of_ble_eq_true rfl) rfl ?_
  unfold fX8_begin at hf
  show AW E yX8_begin cX8_begin (Option.none : Option Jvm.ClassFile.FieldType) 4 D none h hz 0 [(0, .ref a0), (1, .int a1), (2, .int a2)] [] h
  refine a_aload_n (q := 0) dX8_begin_0 rfl rfl ?_
  refine a_iload_n (q := 1) dX8_begin_1 rfl rfl ?_
  obtain ⟨h1, e2, hf⟩ := obd hf
  refine o_pfI dX8_begin_2 lk_X8_9 (⟨_, rfl, Or.inl rfl⟩) rfl e2 ?_
  refine a_aload_n (q := 0) dX8_begin_5 rfl rfl ?_
  refine a_iconst (v := 0) dX8_begin_6 (by decide) ?_
  refine a_iload_n (q := 2) dX8_begin_7 rfl rfl ?_
  refine a_bipush (v := 60) dX8_begin_8 (by decide) ?_
  obtain ⟨v4, h5, e3, hf⟩ := ob2 hf
  refine a_callS (as := [.int a2, .int 60]) (np := 2) (st := [.int 0, .ref a0]) (sJ9_min_7cf53 E (D - 1) (by omega) e3) dX8_begin_10 rfl (by omega) (by decide) cw_X8_23 wd_310 rfl (Nat.le_of_ble_eq_true rfl) ?_
  obtain ⟨v7, h8, e6, hf⟩ := ob2 hf
  refine a_callS (as := [.int 0, .int v4]) (np := 2) (st := [.ref a0]) (sJ9_max_7cf53 E (D - 1) (by omega) e6) dX8_begin_13 rfl (by omega) (by decide) cw_X8_29 wd_880 rfl (Nat.le_of_ble_eq_true rfl) ?_
  obtain ⟨h9, e10, hf⟩ := obd hf
  refine o_pfI dX8_begin_16 lk_X8_32 (⟨_, rfl, Or.inl rfl⟩) rfl e10 ?_
  refine a_iconst (v := 0) dX8_begin_19 (by decide) ?_
  refine a_istore_n (lv1 := [(3, .int 0), (0, .ref a0), (1, .int a1), (2, .int a2)]) dX8_begin_20 rfl (by decide) rfl ?_
  obtain ⟨h12, e11, hf⟩ := obd hf
  refine AW.sub [1, 0] rfl (sX8_begin_l21 E D hD _ _ _ _ _ e11 ?_)
  obtain rfl := Option.some.inj hf
  exact a_return dX8_begin_47 rfl
def fX8_isNothing (a0 : Nat) (h : hp) : Option (Int32 × hp) :=
  (gfI h a0 7 0).bind fun v1 =>
  if 0 ≤ v1 then (
    some (0, h)
  ) else (
    some (1, h)
  )
set_option maxHeartbeats 4000000 in
set_option maxRecDepth 100000 in
theorem sX8_isNothing (E : gE) (D : Nat) (hD : 0 ≤ D) {a0 : Nat} {h hz : hp} {v0 : Int32} (hf : fX8_isNothing a0 h = some (v0, hz)) : MC E yX8_isNothing cX8_isNothing (Option.some Jvm.ClassFile.FieldType.boolean) 1 D [.ref a0] h (some (.int v0)) hz := by
  refine MC.of (by decide +kernel) (Nat.le_of_ble_eq_true rfl) rfl ?_
  unfold fX8_isNothing at hf
  show AW E yX8_isNothing cX8_isNothing (Option.some Jvm.ClassFile.FieldType.boolean) 1 D (some (.int v0)) h hz 0 [(0, .ref a0)] [] h
  refine a_aload_n (q := 0) dX8_isNothing_0 rfl rfl ?_
  obtain ⟨v1, e2, hf⟩ := obd hf
  refine o_gfI dX8_isNothing_1 lk_X8_9 rfl e2 ?_
  refine a_if_ge (tgt := 11) dX8_isNothing_4 (by decide) (fun c => ?_) (fun c => ?_)
  · have hf := ifp c hf
    refine a_iconst (v := 0) dX8_isNothing_11 (by decide) ?_
    obtain ⟨rfl, rfl⟩ := oc2 hf
    exact a_zreturn dX8_isNothing_12 rfl (by decide)
  · have hf := ifn c hf
    refine a_iconst (v := 1) dX8_isNothing_7 (by decide) ?_
    refine a_goto (tgt := 12) dX8_isNothing_8 (by decide) ?_
    obtain ⟨rfl, rfl⟩ := oc2 hf
    exact a_zreturn dX8_isNothing_12 rfl (by decide)
def fX8_spans (a0 : Nat) (a1 : Int32) (a2 : Int32) (h : hp) : Option (Int32 × hp) :=
  if a2 < 0 then (
    some (0, h)
  ) else (
    if a1 < 0 then (
      some (0, h)
    ) else (
      (gfI h a0 7 1).bind fun v1 =>
      if v1 < a2 then (
        some (0, h)
      ) else (
        (gfI h a0 7 1).bind fun v3 =>
        if (v3 - a2) < a1 then (
          some (0, h)
        ) else (
          some (1, h)
        )
      )
    )
  )
set_option maxHeartbeats 4000000 in
set_option maxRecDepth 100000 in
theorem sX8_spans (E : gE) (D : Nat) (hD : 0 ≤ D) {a0 : Nat} {a1 : Int32} {a2 : Int32} {h hz : hp} {v0 : Int32} (hf : fX8_spans a0 a1 a2 h = some (v0, hz)) : MC E yX8_spans cX8_spans (Option.some Jvm.ClassFile.FieldType.boolean) 3 D [.ref a0, .int a1, .int a2] h (some (.int v0)) hz := by
  refine MC.of (by decide +kernel) (Nat.le_of_ble_eq_true rfl) rfl ?_
  unfold fX8_spans at hf
  show AW E yX8_spans cX8_spans (Option.some Jvm.ClassFile.FieldType.boolean) 3 D (some (.int v0)) h hz 0 [(0, .ref a0), (1, .int a1), (2, .int a2)] [] h
  refine a_iload_n (q := 2) dX8_spans_0 rfl rfl ?_
  refine a_if_lt (tgt := 30) dX8_spans_1 (by decide) (fun c => ?_) (fun c => ?_)
  · have hf := ifp c hf
    refine a_iconst (v := 0) dX8_spans_30 (by decide) ?_
    obtain ⟨rfl, rfl⟩ := oc2 hf
    exact a_zreturn dX8_spans_31 rfl (by decide)
  · have hf := ifn c hf
    refine a_iload_n (q := 1) dX8_spans_4 rfl rfl ?_
    refine a_if_lt (tgt := 30) dX8_spans_5 (by decide) (fun c => ?_) (fun c => ?_)
    · have hf := ifp c hf
      refine a_iconst (v := 0) dX8_spans_30 (by decide) ?_
      obtain ⟨rfl, rfl⟩ := oc2 hf
      exact a_zreturn dX8_spans_31 rfl (by decide)
    · have hf := ifn c hf
      refine a_iload_n (q := 2) dX8_spans_8 rfl rfl ?_
      refine a_aload_n (q := 0) dX8_spans_9 rfl rfl ?_
      obtain ⟨v1, e2, hf⟩ := obd hf
      refine o_gfI dX8_spans_10 lk_X8_32 rfl e2 ?_
      refine a_icmp_gt (tgt := 30) dX8_spans_13 (by decide) (fun c => ?_) (fun c => ?_)
      · have hf := ifp c hf
        refine a_iconst (v := 0) dX8_spans_30 (by decide) ?_
        obtain ⟨rfl, rfl⟩ := oc2 hf
        exact a_zreturn dX8_spans_31 rfl (by decide)
      · have hf := ifn c hf
        refine a_iload_n (q := 1) dX8_spans_16 rfl rfl ?_
        refine a_aload_n (q := 0) dX8_spans_17 rfl rfl ?_
        obtain ⟨v3, e4, hf⟩ := obd hf
        refine o_gfI dX8_spans_18 lk_X8_32 rfl e4 ?_
        refine a_iload_n (q := 2) dX8_spans_21 rfl rfl ?_
        refine a_isub dX8_spans_22 ?_
        refine a_icmp_gt (tgt := 30) dX8_spans_23 (by decide) (fun c => ?_) (fun c => ?_)
        · have hf := ifp c hf
          refine a_iconst (v := 0) dX8_spans_30 (by decide) ?_
          obtain ⟨rfl, rfl⟩ := oc2 hf
          exact a_zreturn dX8_spans_31 rfl (by decide)
        · have hf := ifn c hf
          refine a_iconst (v := 1) dX8_spans_26 (by decide) ?_
          refine a_goto (tgt := 31) dX8_spans_27 (by decide) ?_
          obtain ⟨rfl, rfl⟩ := oc2 hf
          exact a_zreturn dX8_spans_31 rfl (by decide)
def fX8_put (a0 : Nat) (a1 : Int32) (a2 : Int64) (h : hp) : Option hp :=
  (gfI h a0 7 1).bind fun v1 =>
  bd2 (fX13_among a1 v1 h) fun v4 h5 =>
  if v4 = 0 then (
    some h5
  ) else (
    (gfI h5 a0 7 0).bind fun v6 =>
    if v6 = 2 then (
      (gfR h5 a0 7 3).bind fun v14 =>
      (asF h5 v14 a1 (FP.l2f a2)).bind fun h16 =>
      some h16
    ) else (
      (gfR h5 a0 7 2).bind fun v8 =>
      (gfI h5 a0 7 0).bind fun v10 =>
      jn (fun (s51_0 : Int32) (h51j : hp) => (
        (asI h51j v8 a1 s51_0).bind fun h12 =>
        some h12
        : Option hp)) fun k51 =>
      if v10 = 0 then (
        k51 ((a2.toInt32).toInt8.toInt32) h5
      ) else (
        k51 (a2.toInt32) h5
      )
    )
  )
set_option maxHeartbeats 4000000 in
set_option maxRecDepth 100000 in
theorem sX8_put (E : gE) (D : Nat) (hD : 1 ≤ D) {a0 : Nat} {a1 : Int32} {a2 : Int64} {h hz : hp} (hf : fX8_put a0 a1 a2 h = some hz) : MC E yX8_put cX8_put (Option.none : Option Jvm.ClassFile.FieldType) 4 D [.ref a0, .int a1, .long a2] h none hz := by
  refine MC.of (by decide +kernel) (Nat.le_of_ble_eq_true rfl) rfl ?_
  unfold fX8_put at hf
  show AW E yX8_put cX8_put (Option.none : Option Jvm.ClassFile.FieldType) 4 D none h hz 0 [(0, .ref a0), (1, .int a1), (2, .long a2)] [] h
  refine a_iload_n (q := 1) dX8_put_0 rfl rfl ?_
  refine a_aload_n (q := 0) dX8_put_1 rfl rfl ?_
  obtain ⟨v1, e2, hf⟩ := obd hf
  refine o_gfI dX8_put_2 lk_X8_32 rfl e2 ?_
  obtain ⟨v4, h5, e3, hf⟩ := ob2 hf
  refine a_callS (as := [.int a1, .int v1]) (np := 2) (st := []) (sX13_among E (D - 1) (by omega) e3) dX8_put_5 rfl (by omega) (by decide) cw_X8_35 wd_268 rfl (Nat.le_of_ble_eq_true rfl) ?_
  refine a_if_ne (tgt := 12) dX8_put_8 (by decide) (fun c => ?_) (fun c => ?_)
  · have hf := ifn c hf
    refine a_aload_n (q := 0) dX8_put_12 rfl rfl ?_
    obtain ⟨v6, e7, hf⟩ := obd hf
    refine o_gfI dX8_put_13 lk_X8_9 rfl e7 ?_
    refine a_iconst (v := 2) dX8_put_16 (by decide) ?_
    refine a_icmp_ne (tgt := 31) dX8_put_17 (by decide) (fun c => ?_) (fun c => ?_)
    · have hf := ifn c hf
      refine a_aload_n (q := 0) dX8_put_31 rfl rfl ?_
      obtain ⟨v8, e9, hf⟩ := obd hf
      refine o_gfR dX8_put_32 lk_X8_15 rfl e9 ?_
      refine a_iload_n (q := 1) dX8_put_35 rfl rfl ?_
      refine a_aload_n (q := 0) dX8_put_36 rfl rfl ?_
      obtain ⟨v10, e11, hf⟩ := obd hf
      refine o_gfI dX8_put_37 lk_X8_9 rfl e11 ?_
      obtain ⟨k51, ek51, hf⟩ := jn_s hf
      have hj51 : ∀ (s51_0 : Int32) (h51j : hp), k51 s51_0 h51j = some hz → AW E yX8_put cX8_put (Option.none : Option Jvm.ClassFile.FieldType) 4 D none h hz 51 [] [.int s51_0, .int a1, .ref v8] h51j := by
        intro s51_0 h51j hf
        rw [ek51] at hf
        clear ek51
        obtain ⟨h12, e13, hf⟩ := obd hf
        refine o_asI dX8_put_51 e13 ?_
        obtain rfl := Option.some.inj hf
        exact a_return dX8_put_52 rfl
      clear ek51
      refine a_if_ne (tgt := 49) dX8_put_40 (by decide) (fun c => ?_) (fun c => ?_)
      · have hf := ifn c hf
        refine a_lload_n (q := 2) dX8_put_49 rfl rfl ?_
        refine a_l2i dX8_put_50 rfl ?_
        exact AW.sub [] rfl (hj51 _ _ hf)
      · have hf := ifp c hf
        refine a_lload_n (q := 2) dX8_put_43 rfl rfl ?_
        refine a_l2i dX8_put_44 rfl ?_
        refine a_i2b dX8_put_45 rfl ?_
        refine a_goto (tgt := 51) dX8_put_46 (by decide) ?_
        exact AW.sub [] rfl (hj51 _ _ hf)
    · have hf := ifp c hf
      refine a_aload_n (q := 0) dX8_put_20 rfl rfl ?_
      obtain ⟨v14, e15, hf⟩ := obd hf
      refine o_gfR dX8_put_21 lk_X8_19 rfl e15 ?_
      refine a_iload_n (q := 1) dX8_put_24 rfl rfl ?_
      refine a_lload_n (q := 2) dX8_put_25 rfl rfl ?_
      refine a_l2f dX8_put_26 ?_
      obtain ⟨h16, e17, hf⟩ := obd hf
      refine o_asF dX8_put_27 e17 ?_
      refine a_goto (tgt := 52) dX8_put_28 (by decide) ?_
      obtain rfl := Option.some.inj hf
      exact a_return dX8_put_52 rfl
  · have hf := ifp c hf
    obtain rfl := Option.some.inj hf
    exact a_return dX8_put_11 rfl
def fX11_bitsOf_l28 : Nat → UInt32 → UInt64 → Int32 → Int32 → hp → Option (UInt64 × Int32 × hp)
  | 0, _, _, _, _, _ => none
  | n + 1, x0, x1, x3, x4, h =>
    if 128 ≤ x4 then (
      some (x1, x3, h)
    ) else (
      if (Op.cmpValue (FP.dcmp x1 4611686018427387904) .l) < 0 then (
        some (x1, x3, h)
      ) else (
        (dnn (FP.dmul x1 4602678819172646912)).bind fun v1 =>
        fX11_bitsOf_l28 n x0 v1 (x3 + 1) (x4 + 1) h
      )
    )
def fX11_bitsOf_l63 : Nat → UInt32 → UInt64 → Int32 → Int32 → hp → Option (UInt64 × Int32 × hp)
  | 0, _, _, _, _, _ => none
  | n + 1, x0, x1, x3, x4, h =>
    if 126 ≤ x4 then (
      some (x1, x3, h)
    ) else (
      if 0 ≤ (Op.cmpValue (FP.dcmp x1 FP.dconst1) .g) then (
        some (x1, x3, h)
      ) else (
        (dnn (FP.dmul x1 4611686018427387904)).bind fun v1 =>
        fX11_bitsOf_l63 n x0 v1 (x3 - 1) (x4 + 1) h
      )
    )
def fX11_bitsOf (a0 : UInt32) (h : hp) : Option (Int32 × hp) :=
  if (Op.cmpValue (FP.fcmp a0 FP.fconst0) .l) = 0 then (
    some (0, h)
  ) else (
    jn (fun (s22_0 : UInt64) (h22j : hp) => (
      bd3 (fX11_bitsOf_l28 FU a0 s22_0 0 0 h22j) fun v3 v4 h2 =>
      bd3 (fX11_bitsOf_l63 FU a0 v3 v4 0 h2) fun v7 v8 h6 =>
      (dnn (FP.dmul v7 4710765210229538816)).bind fun v9 =>
      jn (fun (p122_4 : Int32) (h122j : hp) => (
        if 0 ≤ (Op.cmpValue (FP.fcmp a0 FP.fconst0) .g) then (
          some (p122_4, h122j)
        ) else (
          some ((p122_4 ||| (-2147483648)), h122j)
        )
        : Option (Int32 × hp))) fun k122 =>
      if (FP.d2i v9) < 8388608 then (
        k122 (FP.d2i v9) h6
      ) else (
        k122 (((FP.d2i v9) - 8388608) + ((v8 + 127) <<< ((23 : Int32) &&& 31))) h6
      )
      : Option (Int32 × hp))) fun k22 =>
    if 0 ≤ (Op.cmpValue (FP.fcmp a0 FP.fconst0) .g) then (
      (dnn (FP.f2d a0)).bind fun v11 =>
      k22 v11 h
    ) else (
      (dnn (FP.f2d a0)).bind fun v13 =>
      k22 (FP.dneg v13) h
    )
  )
set_option maxHeartbeats 4000000 in
set_option maxRecDepth 100000 in
theorem sX11_bitsOf_l28 (E : gE) (D : Nat) (hD : 0 ≤ D) {rz : Option Value} {h0 hz : hp} : ∀ (n : Nat) (x0 : UInt32) (x1 : UInt64) (x3 : Int32) (x4 : Int32) (h : hp) (m1 : UInt64) (m3 : Int32) (hq : hp), fX11_bitsOf_l28 n x0 x1 x3 x4 h = some (m1, m3, hq) → (AW E yX11_bitsOf cX11_bitsOf (Option.some Jvm.ClassFile.FieldType.int) 5 D rz h0 hz 60 [(0, .float x0), (1, .double m1), (3, .int m3)] [] hq) → AW E yX11_bitsOf cX11_bitsOf (Option.some Jvm.ClassFile.FieldType.int) 5 D rz h0 hz 28 [(0, .float x0), (1, .double x1), (3, .int x3), (4, .int x4)] [] h := by
  intro n
  induction n with
  | zero =>
    intro x0 x1 x3 x4 h m1 m3 hq hf _
    rw [fX11_bitsOf_l28] at hf
    cases hf
  | succ n ih =>
    intro x0 x1 x3 x4 h m1 m3 hq hf hk0
    rw [fX11_bitsOf_l28] at hf
    refine a_iload (q := 3) dX11_bitsOf_28 rfl ?_
    refine a_sipush (v := 128) dX11_bitsOf_30 (by decide) ?_
    refine a_icmp_ge (tgt := 60) dX11_bitsOf_33 (by decide) (fun c => ?_) (fun c => ?_)
    · have hf := ifp c hf
      obtain ⟨rfl, rfl, rfl⟩ := oc3 hf
      exact AW.sub [0, 1, 2] rfl (hk0)
    · have hf := ifn c hf
      refine a_dload_n (q := 1) dX11_bitsOf_36 rfl rfl ?_
      refine a_ldc2d (v := 4611686018427387904) dX11_bitsOf_37 wd_377 ?_
      refine a_dcmp dX11_bitsOf_40 ?_
      refine a_if_lt (tgt := 60) dX11_bitsOf_41 (by decide) (fun c => ?_) (fun c => ?_)
      · have hf := ifp c hf
        obtain ⟨rfl, rfl, rfl⟩ := oc3 hf
        exact AW.sub [0, 1, 2] rfl (hk0)
      · have hf := ifn c hf
        refine a_dload_n (q := 1) dX11_bitsOf_44 rfl rfl ?_
        refine a_ldc2d (v := 4602678819172646912) dX11_bitsOf_45 wd_378 ?_
        obtain ⟨v1, e2, hf⟩ := obd hf
        refine o_dmul dX11_bitsOf_48 e2 ?_
        refine a_dstore_n (lv1 := [(1, .double v1), (0, .float x0), (3, .int x3), (4, .int x4)]) dX11_bitsOf_49 rfl (by decide) rfl ?_
        refine a_iload_n (q := 2) dX11_bitsOf_50 rfl rfl ?_
        refine a_iconst (v := 1) dX11_bitsOf_51 (by decide) ?_
        refine a_iadd dX11_bitsOf_52 ?_
        refine a_istore_n (lv1 := [(3, .int (x3 + 1)), (1, .double v1), (0, .float x0), (4, .int x4)]) dX11_bitsOf_53 rfl (by decide) rfl ?_
        refine a_iinc (q := 3) (v := (x4 + 1)) (lv1 := [(4, .int (x4 + 1)), (3, .int (x3 + 1)), (1, .double v1), (0, .float x0)]) dX11_bitsOf_54 rfl (by rfl) (by decide) rfl ?_
        refine a_goto (tgt := 28) dX11_bitsOf_57 (by decide) ?_
        exact AW.sub [3, 2, 1, 0] rfl (ih _ _ _ _ _ _ _ _ hf hk0)
set_option maxHeartbeats 4000000 in
set_option maxRecDepth 100000 in
theorem sX11_bitsOf_l63 (E : gE) (D : Nat) (hD : 0 ≤ D) {rz : Option Value} {h0 hz : hp} : ∀ (n : Nat) (x0 : UInt32) (x1 : UInt64) (x3 : Int32) (x4 : Int32) (h : hp) (m1 : UInt64) (m3 : Int32) (hq : hp), fX11_bitsOf_l63 n x0 x1 x3 x4 h = some (m1, m3, hq) → (AW E yX11_bitsOf cX11_bitsOf (Option.some Jvm.ClassFile.FieldType.int) 5 D rz h0 hz 92 [(0, .float x0), (1, .double m1), (3, .int m3)] [] hq) → AW E yX11_bitsOf cX11_bitsOf (Option.some Jvm.ClassFile.FieldType.int) 5 D rz h0 hz 63 [(0, .float x0), (1, .double x1), (3, .int x3), (4, .int x4)] [] h := by
  intro n
  induction n with
  | zero =>
    intro x0 x1 x3 x4 h m1 m3 hq hf _
    rw [fX11_bitsOf_l63] at hf
    cases hf
  | succ n ih =>
    intro x0 x1 x3 x4 h m1 m3 hq hf hk0
    rw [fX11_bitsOf_l63] at hf
    refine a_iload (q := 3) dX11_bitsOf_63 rfl ?_
    refine a_bipush (v := 126) dX11_bitsOf_65 (by decide) ?_
    refine a_icmp_ge (tgt := 92) dX11_bitsOf_67 (by decide) (fun c => ?_) (fun c => ?_)
    · have hf := ifp c hf
      obtain ⟨rfl, rfl, rfl⟩ := oc3 hf
      exact AW.sub [0, 1, 2] rfl (hk0)
    · have hf := ifn c hf
      refine a_dload_n (q := 1) dX11_bitsOf_70 rfl rfl ?_
      refine a_dconst1 dX11_bitsOf_71 ?_
      refine a_dcmp dX11_bitsOf_72 ?_
      refine a_if_ge (tgt := 92) dX11_bitsOf_73 (by decide) (fun c => ?_) (fun c => ?_)
      · have hf := ifp c hf
        obtain ⟨rfl, rfl, rfl⟩ := oc3 hf
        exact AW.sub [0, 1, 2] rfl (hk0)
      · have hf := ifn c hf
        refine a_dload_n (q := 1) dX11_bitsOf_76 rfl rfl ?_
        refine a_ldc2d (v := 4611686018427387904) dX11_bitsOf_77 wd_377 ?_
        obtain ⟨v1, e2, hf⟩ := obd hf
        refine o_dmul dX11_bitsOf_80 e2 ?_
        refine a_dstore_n (lv1 := [(1, .double v1), (0, .float x0), (3, .int x3), (4, .int x4)]) dX11_bitsOf_81 rfl (by decide) rfl ?_
        refine a_iload_n (q := 2) dX11_bitsOf_82 rfl rfl ?_
        refine a_iconst (v := 1) dX11_bitsOf_83 (by decide) ?_
        refine a_isub dX11_bitsOf_84 ?_
        refine a_istore_n (lv1 := [(3, .int (x3 - 1)), (1, .double v1), (0, .float x0), (4, .int x4)]) dX11_bitsOf_85 rfl (by decide) rfl ?_
        refine a_iinc (q := 3) (v := (x4 + 1)) (lv1 := [(4, .int (x4 + 1)), (3, .int (x3 - 1)), (1, .double v1), (0, .float x0)]) dX11_bitsOf_86 rfl (by rfl) (by decide) rfl ?_
        refine a_goto (tgt := 63) dX11_bitsOf_89 (by decide) ?_
        exact AW.sub [3, 2, 1, 0] rfl (ih _ _ _ _ _ _ _ _ hf hk0)
set_option maxHeartbeats 4000000 in
set_option maxRecDepth 100000 in
theorem sX11_bitsOf (E : gE) (D : Nat) (hD : 0 ≤ D) {a0 : UInt32} {h hz : hp} {v0 : Int32} (hf : fX11_bitsOf a0 h = some (v0, hz)) : MC E yX11_bitsOf cX11_bitsOf (Option.some Jvm.ClassFile.FieldType.int) 5 D [.float a0] h (some (.int v0)) hz := by
  refine MC.of (by decide +kernel) (Nat.le_of_ble_eq_true rfl) rfl ?_
  unfold fX11_bitsOf at hf
  show AW E yX11_bitsOf cX11_bitsOf (Option.some Jvm.ClassFile.FieldType.int) 5 D (some (.int v0)) h hz 0 [(0, .float a0)] [] h
  refine a_fload_n (q := 0) dX11_bitsOf_0 rfl rfl ?_
  refine a_fconst0 dX11_bitsOf_1 ?_
  refine a_fcmp dX11_bitsOf_2 ?_
  refine a_if_ne (tgt := 8) dX11_bitsOf_3 (by decide) (fun c => ?_) (fun c => ?_)
  · have hf := ifn c hf
    refine a_fload_n (q := 0) dX11_bitsOf_8 rfl rfl ?_
    refine a_fconst0 dX11_bitsOf_9 ?_
    refine a_fcmp dX11_bitsOf_10 ?_
    obtain ⟨k22, ek22, hf⟩ := jn_s hf
    have hj22 : ∀ (s22_0 : UInt64) (h22j : hp), k22 s22_0 h22j = some (v0, hz) → AW E yX11_bitsOf cX11_bitsOf (Option.some Jvm.ClassFile.FieldType.int) 5 D (some (.int v0)) h hz 22 [(0, .float a0)] [.double s22_0] h22j := by
      intro s22_0 h22j hf
      rw [ek22] at hf
      clear ek22
      refine a_dstore_n (lv1 := [(1, .double s22_0), (0, .float a0)]) dX11_bitsOf_22 rfl (by decide) rfl ?_
      refine a_iconst (v := 0) dX11_bitsOf_23 (by decide) ?_
      refine a_istore_n (lv1 := [(3, .int 0), (1, .double s22_0), (0, .float a0)]) dX11_bitsOf_24 rfl (by decide) rfl ?_
      refine a_iconst (v := 0) dX11_bitsOf_25 (by decide) ?_
      refine a_istore (lv1 := [(4, .int 0), (3, .int 0), (1, .double s22_0), (0, .float a0)]) dX11_bitsOf_26 (by decide) rfl ?_
      obtain ⟨v3, v4, h2, e1, hf⟩ := ob3 hf
      refine AW.sub [3, 2, 1, 0] rfl (sX11_bitsOf_l28 E D hD _ _ _ _ _ _ _ _ _ e1 ?_)
      refine a_iconst (v := 0) dX11_bitsOf_60 (by decide) ?_
      refine a_istore (lv1 := [(4, .int 0), (0, .float a0), (1, .double v3), (3, .int v4)]) dX11_bitsOf_61 (by decide) rfl ?_
      obtain ⟨v7, v8, h6, e5, hf⟩ := ob3 hf
      refine AW.sub [1, 2, 3, 0] rfl (sX11_bitsOf_l63 E D hD _ _ _ _ _ _ _ _ _ e5 ?_)
      refine a_dload_n (q := 1) dX11_bitsOf_92 rfl rfl ?_
      refine a_ldc2d (v := 4710765210229538816) dX11_bitsOf_93 wd_379 ?_
      obtain ⟨v9, e10, hf⟩ := obd hf
      refine o_dmul dX11_bitsOf_96 e10 ?_
      refine a_d2i dX11_bitsOf_97 ?_
      refine a_istore (lv1 := [(4, .int (FP.d2i v9)), (0, .float a0), (1, .double v7), (3, .int v8)]) dX11_bitsOf_98 (by decide) rfl ?_
      refine a_iload (q := 0) dX11_bitsOf_100 rfl ?_
      refine a_ldc (v := 8388608) dX11_bitsOf_102 wd_380 ?_
      obtain ⟨k122, ek122, hf⟩ := jn_s hf
      have hj122 : ∀ (p122_4 : Int32) (h122j : hp), k122 p122_4 h122j = some (v0, hz) → AW E yX11_bitsOf cX11_bitsOf (Option.some Jvm.ClassFile.FieldType.int) 5 D (some (.int v0)) h hz 122 [(0, .float a0), (4, .int p122_4)] [] h122j := by
        intro p122_4 h122j hf
        rw [ek122] at hf
        clear ek122
        refine a_fload_n (q := 0) dX11_bitsOf_122 rfl rfl ?_
        refine a_fconst0 dX11_bitsOf_123 ?_
        refine a_fcmp dX11_bitsOf_124 ?_
        refine a_if_ge (tgt := 136) dX11_bitsOf_125 (by decide) (fun c => ?_) (fun c => ?_)
        · have hf := ifp c hf
          refine a_iload (q := 1) dX11_bitsOf_136 rfl ?_
          obtain ⟨rfl, rfl⟩ := oc2 hf
          exact a_ireturn dX11_bitsOf_138 rfl
        · have hf := ifn c hf
          refine a_iload (q := 1) dX11_bitsOf_128 rfl ?_
          refine a_ldc (v := (-2147483648)) dX11_bitsOf_130 wd_381 ?_
          refine a_ior dX11_bitsOf_132 ?_
          refine a_goto (tgt := 138) dX11_bitsOf_133 (by decide) ?_
          obtain ⟨rfl, rfl⟩ := oc2 hf
          exact a_ireturn dX11_bitsOf_138 rfl
      clear ek122
      refine a_icmp_lt (tgt := 122) dX11_bitsOf_104 (by decide) (fun c => ?_) (fun c => ?_)
      · have hf := ifp c hf
        exact AW.sub [1, 0] rfl (hj122 _ _ hf)
      · have hf := ifn c hf
        refine a_iload (q := 0) dX11_bitsOf_107 rfl ?_
        refine a_ldc (v := 8388608) dX11_bitsOf_109 wd_380 ?_
        refine a_isub dX11_bitsOf_111 ?_
        refine a_iload_n (q := 3) dX11_bitsOf_112 rfl rfl ?_
        refine a_bipush (v := 127) dX11_bitsOf_113 (by decide) ?_
        refine a_iadd dX11_bitsOf_115 ?_
        refine a_bipush (v := 23) dX11_bitsOf_116 (by decide) ?_
        refine a_ishl dX11_bitsOf_118 ?_
        refine a_iadd dX11_bitsOf_119 ?_
        refine a_istore (lv1 := [(4, .int (((FP.d2i v9) - 8388608) + ((v8 + 127) <<< ((23 : Int32) &&& 31)))), (0, .float a0), (1, .double v7), (3, .int v8)]) dX11_bitsOf_120 (by decide) rfl ?_
        exact AW.sub [1, 0] rfl (hj122 _ _ hf)
    clear ek22
    refine a_if_ge (tgt := 20) dX11_bitsOf_11 (by decide) (fun c => ?_) (fun c => ?_)
    · have hf := ifp c hf
      refine a_fload_n (q := 0) dX11_bitsOf_20 rfl rfl ?_
      obtain ⟨v11, e12, hf⟩ := obd hf
      refine o_f2d dX11_bitsOf_21 e12 ?_
      exact hj22 _ _ hf
    · have hf := ifn c hf
      refine a_fload_n (q := 0) dX11_bitsOf_14 rfl rfl ?_
      obtain ⟨v13, e14, hf⟩ := obd hf
      refine o_f2d dX11_bitsOf_15 e14 ?_
      refine a_dneg dX11_bitsOf_16 ?_
      refine a_goto (tgt := 22) dX11_bitsOf_17 (by decide) ?_
      exact hj22 _ _ hf
  · have hf := ifp c hf
    refine a_iconst (v := 0) dX11_bitsOf_6 (by decide) ?_
    obtain ⟨rfl, rfl⟩ := oc2 hf
    exact a_ireturn dX11_bitsOf_7 rfl
def fX8_bits (a0 : Nat) (a1 : Int32) (h : hp) : Option (Int64 × hp) :=
  (gfI h a0 7 1).bind fun v1 =>
  bd2 (fX13_among a1 v1 h) fun v4 h5 =>
  if v4 = 0 then (
    some ((-9223372036854775808), h5)
  ) else (
    (gfI h5 a0 7 0).bind fun v6 =>
    if v6 = 2 then (
      (gfR h5 a0 7 3).bind fun v12 =>
      (alF h5 v12 a1).bind fun v14 =>
      bd2 (fX11_bitsOf v14 h5) fun v17 h18 =>
      some ((v17.toInt64), h18)
    ) else (
      (gfR h5 a0 7 2).bind fun v8 =>
      (alI h5 v8 a1).bind fun v10 =>
      some ((v10.toInt64), h5)
    )
  )
set_option maxHeartbeats 4000000 in
set_option maxRecDepth 100000 in
theorem sX8_bits (E : gE) (D : Nat) (hD : 1 ≤ D) {a0 : Nat} {a1 : Int32} {h hz : hp} {v0 : Int64} (hf : fX8_bits a0 a1 h = some (v0, hz)) : MC E yX8_bits cX8_bits (Option.some Jvm.ClassFile.FieldType.long) 2 D [.ref a0, .int a1] h (some (.long v0)) hz := by
  refine MC.of (by decide +kernel) (Nat.le_of_ble_eq_true rfl) rfl ?_
  unfold fX8_bits at hf
  show AW E yX8_bits cX8_bits (Option.some Jvm.ClassFile.FieldType.long) 2 D (some (.long v0)) h hz 0 [(0, .ref a0), (1, .int a1)] [] h
  refine a_iload_n (q := 1) dX8_bits_0 rfl rfl ?_
  refine a_aload_n (q := 0) dX8_bits_1 rfl rfl ?_
  obtain ⟨v1, e2, hf⟩ := obd hf
  refine o_gfI dX8_bits_2 lk_X8_32 rfl e2 ?_
  obtain ⟨v4, h5, e3, hf⟩ := ob2 hf
  refine a_callS (as := [.int a1, .int v1]) (np := 2) (st := []) (sX13_among E (D - 1) (by omega) e3) dX8_bits_5 rfl (by omega) (by decide) cw_X8_35 wd_268 rfl (Nat.le_of_ble_eq_true rfl) ?_
  refine a_if_ne (tgt := 15) dX8_bits_8 (by decide) (fun c => ?_) (fun c => ?_)
  · have hf := ifn c hf
    refine a_aload_n (q := 0) dX8_bits_15 rfl rfl ?_
    obtain ⟨v6, e7, hf⟩ := obd hf
    refine o_gfI dX8_bits_16 lk_X8_9 rfl e7 ?_
    refine a_iconst (v := 2) dX8_bits_19 (by decide) ?_
    refine a_icmp_ne (tgt := 36) dX8_bits_20 (by decide) (fun c => ?_) (fun c => ?_)
    · have hf := ifn c hf
      refine a_aload_n (q := 0) dX8_bits_36 rfl rfl ?_
      obtain ⟨v8, e9, hf⟩ := obd hf
      refine o_gfR dX8_bits_37 lk_X8_15 rfl e9 ?_
      refine a_iload_n (q := 1) dX8_bits_40 rfl rfl ?_
      obtain ⟨v10, e11, hf⟩ := obd hf
      refine o_alI dX8_bits_41 e11 ?_
      refine a_i2l dX8_bits_42 rfl ?_
      obtain ⟨rfl, rfl⟩ := oc2 hf
      exact a_lreturn dX8_bits_43 rfl
    · have hf := ifp c hf
      refine a_aload_n (q := 0) dX8_bits_23 rfl rfl ?_
      obtain ⟨v12, e13, hf⟩ := obd hf
      refine o_gfR dX8_bits_24 lk_X8_19 rfl e13 ?_
      refine a_iload_n (q := 1) dX8_bits_27 rfl rfl ?_
      obtain ⟨v14, e15, hf⟩ := obd hf
      refine o_alF dX8_bits_28 e15 ?_
      obtain ⟨v17, h18, e16, hf⟩ := ob2 hf
      refine a_callS (as := [.float v14]) (np := 1) (st := []) (sX11_bitsOf E (D - 1) (by omega) e16) dX8_bits_29 rfl (by omega) (by decide) cw_X8_41 wd_375 rfl (Nat.le_of_ble_eq_true rfl) ?_
      refine a_i2l dX8_bits_32 rfl ?_
      refine a_goto (tgt := 43) dX8_bits_33 (by decide) ?_
      obtain ⟨rfl, rfl⟩ := oc2 hf
      exact a_lreturn dX8_bits_43 rfl
  · have hf := ifp c hf
    refine a_ldc2 (v := (-9223372036854775808)) dX8_bits_11 wd_1076 ?_
    obtain ⟨rfl, rfl⟩ := oc2 hf
    exact a_lreturn dX8_bits_14 rfl
def fX8_whole (a0 : Nat) (a1 : Int32) (h : hp) : Option (Int32 × hp) :=
  (gfI h a0 7 1).bind fun v1 =>
  bd2 (fX13_among a1 v1 h) fun v4 h5 =>
  if v4 = 0 then (
    some (0, h5)
  ) else (
    (gfI h5 a0 7 0).bind fun v6 =>
    if v6 = 2 then (
      (gfR h5 a0 7 3).bind fun v12 =>
      (alF h5 v12 a1).bind fun v14 =>
      some ((FP.f2i v14), h5)
    ) else (
      (gfR h5 a0 7 2).bind fun v8 =>
      (alI h5 v8 a1).bind fun v10 =>
      some (v10, h5)
    )
  )
set_option maxHeartbeats 4000000 in
set_option maxRecDepth 100000 in
theorem sX8_whole (E : gE) (D : Nat) (hD : 1 ≤ D) {a0 : Nat} {a1 : Int32} {h hz : hp} {v0 : Int32} (hf : fX8_whole a0 a1 h = some (v0, hz)) : MC E yX8_whole cX8_whole (Option.some Jvm.ClassFile.FieldType.int) 2 D [.ref a0, .int a1] h (some (.int v0)) hz := by
  refine MC.of (by decide +kernel) (Nat.le_of_ble_eq_true rfl) rfl ?_
  unfold fX8_whole at hf
  show AW E yX8_whole cX8_whole (Option.some Jvm.ClassFile.FieldType.int) 2 D (some (.int v0)) h hz 0 [(0, .ref a0), (1, .int a1)] [] h
  refine a_iload_n (q := 1) dX8_whole_0 rfl rfl ?_
  refine a_aload_n (q := 0) dX8_whole_1 rfl rfl ?_
  obtain ⟨v1, e2, hf⟩ := obd hf
  refine o_gfI dX8_whole_2 lk_X8_32 rfl e2 ?_
  obtain ⟨v4, h5, e3, hf⟩ := ob2 hf
  refine a_callS (as := [.int a1, .int v1]) (np := 2) (st := []) (sX13_among E (D - 1) (by omega) e3) dX8_whole_5 rfl (by omega) (by decide) cw_X8_35 wd_268 rfl (Nat.le_of_ble_eq_true rfl) ?_
  refine a_if_ne (tgt := 13) dX8_whole_8 (by decide) (fun c => ?_) (fun c => ?_)
  · have hf := ifn c hf
    refine a_aload_n (q := 0) dX8_whole_13 rfl rfl ?_
    obtain ⟨v6, e7, hf⟩ := obd hf
    refine o_gfI dX8_whole_14 lk_X8_9 rfl e7 ?_
    refine a_iconst (v := 2) dX8_whole_17 (by decide) ?_
    refine a_icmp_ne (tgt := 31) dX8_whole_18 (by decide) (fun c => ?_) (fun c => ?_)
    · have hf := ifn c hf
      refine a_aload_n (q := 0) dX8_whole_31 rfl rfl ?_
      obtain ⟨v8, e9, hf⟩ := obd hf
      refine o_gfR dX8_whole_32 lk_X8_15 rfl e9 ?_
      refine a_iload_n (q := 1) dX8_whole_35 rfl rfl ?_
      obtain ⟨v10, e11, hf⟩ := obd hf
      refine o_alI dX8_whole_36 e11 ?_
      obtain ⟨rfl, rfl⟩ := oc2 hf
      exact a_ireturn dX8_whole_37 rfl
    · have hf := ifp c hf
      refine a_aload_n (q := 0) dX8_whole_21 rfl rfl ?_
      obtain ⟨v12, e13, hf⟩ := obd hf
      refine o_gfR dX8_whole_22 lk_X8_19 rfl e13 ?_
      refine a_iload_n (q := 1) dX8_whole_25 rfl rfl ?_
      obtain ⟨v14, e15, hf⟩ := obd hf
      refine o_alF dX8_whole_26 e15 ?_
      refine a_f2i dX8_whole_27 ?_
      refine a_goto (tgt := 37) dX8_whole_28 (by decide) ?_
      obtain ⟨rfl, rfl⟩ := oc2 hf
      exact a_ireturn dX8_whole_37 rfl
  · have hf := ifp c hf
    refine a_iconst (v := 0) dX8_whole_11 (by decide) ?_
    obtain ⟨rfl, rfl⟩ := oc2 hf
    exact a_ireturn dX8_whole_12 rfl
def fX8_take (a0 : Nat) (a1 : Nat) (a2 : Int32) (a3 : Int32) (a4 : Int32) (h : hp) : Option hp :=
  (ckT h a1 7).bind fun _ =>
  bd2 (fX8_spans a1 a2 a4 h) fun v2 h3 =>
  if v2 = 0 then (
    some h3
  ) else (
    (ckT h3 a0 7).bind fun _ =>
    bd2 (fX8_spans a0 a3 a4 h3) fun v6 h7 =>
    if v6 = 0 then (
      some h7
    ) else (
      (gfR h7 a1 7 2).bind fun v9 =>
      (gfR h7 a0 7 2).bind fun v11 =>
      (cpI h7 v9 a2 v11 a3 a4).bind fun h13 =>
      (gfR h13 a1 7 3).bind fun v15 =>
      (gfR h13 a0 7 3).bind fun v17 =>
      (cpF h13 v15 a2 v17 a3 a4).bind fun h19 =>
      some h19
    )
  )
set_option maxHeartbeats 4000000 in
set_option maxRecDepth 100000 in
theorem sX8_take (E : gE) (D : Nat) (hD : 1 ≤ D) {a0 : Nat} {a1 : Nat} {a2 : Int32} {a3 : Int32} {a4 : Int32} {h hz : hp} (hf : fX8_take a0 a1 a2 a3 a4 h = some hz) : MC E yX8_take cX8_take (Option.none : Option Jvm.ClassFile.FieldType) 5 D [.ref a0, .ref a1, .int a2, .int a3, .int a4] h none hz := by
  refine MC.of (by decide +kernel) (Nat.le_of_ble_eq_true rfl) rfl ?_
  unfold fX8_take at hf
  show AW E yX8_take cX8_take (Option.none : Option Jvm.ClassFile.FieldType) 5 D none h hz 0 [(0, .ref a0), (1, .ref a1), (2, .int a2), (3, .int a3), (4, .int a4)] [] h
  refine a_aload_n (q := 1) dX8_take_0 rfl rfl ?_
  refine a_iload_n (q := 2) dX8_take_1 rfl rfl ?_
  refine a_iload (q := 4) dX8_take_2 rfl ?_
  obtain ⟨_, e4, hf⟩ := obd hf
  obtain ⟨v2, h3, e1, hf⟩ := ob2 hf
  refine a_callV (as := [.int a2, .int a4]) (np := 2) (ci := 7) (st := []) (sX8_spans E (D - 1) (by omega) e1) dX8_take_4 rfl (by omega) (by decide) cw_X8_47 ⟨wd_1083, wd_1084⟩ rfl (ckT_s e4) rfl (Nat.le_of_ble_eq_true rfl) ?_
  refine a_if_eq (tgt := 20) dX8_take_7 (by decide) (fun c => ?_) (fun c => ?_)
  · have hf := ifp c hf
    obtain rfl := Option.some.inj hf
    exact a_return dX8_take_20 rfl
  · have hf := ifn c hf
    refine a_aload_n (q := 0) dX8_take_10 rfl rfl ?_
    refine a_iload_n (q := 3) dX8_take_11 rfl rfl ?_
    refine a_iload (q := 4) dX8_take_12 rfl ?_
    obtain ⟨_, e8, hf⟩ := obd hf
    obtain ⟨v6, h7, e5, hf⟩ := ob2 hf
    refine a_callV (as := [.int a3, .int a4]) (np := 2) (ci := 7) (st := []) (sX8_spans E (D - 1) (by omega) e5) dX8_take_14 rfl (by omega) (by decide) cw_X8_47 ⟨wd_1083, wd_1084⟩ rfl (ckT_s e8) rfl (Nat.le_of_ble_eq_true rfl) ?_
    refine a_if_ne (tgt := 21) dX8_take_17 (by decide) (fun c => ?_) (fun c => ?_)
    · have hf := ifn c hf
      refine a_aload_n (q := 1) dX8_take_21 rfl rfl ?_
      obtain ⟨v9, e10, hf⟩ := obd hf
      refine o_gfR dX8_take_22 lk_X8_15 rfl e10 ?_
      refine a_iload_n (q := 2) dX8_take_25 rfl rfl ?_
      refine a_aload_n (q := 0) dX8_take_26 rfl rfl ?_
      obtain ⟨v11, e12, hf⟩ := obd hf
      refine o_gfR dX8_take_27 lk_X8_15 rfl e12 ?_
      refine a_iload_n (q := 3) dX8_take_30 rfl rfl ?_
      refine a_iload (q := 4) dX8_take_31 rfl ?_
      obtain ⟨h13, e14, hf⟩ := obd hf
      refine o_cpI dX8_take_33 (by omega) wd_1091 wd_830 wd_829 wd_22 e14 (Nat.le_of_ble_eq_true rfl) ?_
      refine a_aload_n (q := 1) dX8_take_36 rfl rfl ?_
      obtain ⟨v15, e16, hf⟩ := obd hf
      refine o_gfR dX8_take_37 lk_X8_19 rfl e16 ?_
      refine a_iload_n (q := 2) dX8_take_40 rfl rfl ?_
      refine a_aload_n (q := 0) dX8_take_41 rfl rfl ?_
      obtain ⟨v17, e18, hf⟩ := obd hf
      refine o_gfR dX8_take_42 lk_X8_19 rfl e18 ?_
      refine a_iload_n (q := 3) dX8_take_45 rfl rfl ?_
      refine a_iload (q := 4) dX8_take_46 rfl ?_
      obtain ⟨h19, e20, hf⟩ := obd hf
      refine o_cpF dX8_take_48 (by omega) wd_1091 wd_830 wd_829 wd_22 e20 (Nat.le_of_ble_eq_true rfl) ?_
      obtain rfl := Option.some.inj hf
      exact a_return dX8_take_51 rfl
    · have hf := ifp c hf
      obtain rfl := Option.some.inj hf
      exact a_return dX8_take_20 rfl
def fX9_init_l45 : Nat → Nat → Int32 → hp → Option hp
  | 0, _, _, _ => none
  | n + 1, x0, x1, h =>
    if 8 ≤ x1 then (
      some (h)
    ) else (
      (gfR h x0 8 0).bind fun v1 =>
      bd2 (nwO h 10 5) fun v3 h4 =>
      (ckT h4 v3 10).bind fun _ =>
      (fX11_init v3 h4).bind fun h7 =>
      (asR 6 h7 v1 x1 v3).bind fun h9 =>
      fX9_init_l45 n x0 (x1 + 1) h9
    )
def fX9_init (a0 : Nat) (h : hp) : Option hp :=
  (ckT h a0 8).bind fun _ =>
  bd2 (nwA h 6 8) fun v2 h3 =>
  (pfR h3 a0 8 0 v2).bind fun h5 =>
  bd2 (nwA h5 5 6) fun v7 h8 =>
  (pfR h8 a0 8 1 v7).bind fun h10 =>
  bd2 (nwO h10 4 2) fun v12 h13 =>
  (ckT h13 v12 4).bind fun _ =>
  (fX5_init v12 400 h13).bind fun h16 =>
  (pfR h16 a0 8 2 v12).bind fun h18 =>
  (pfI h18 a0 8 3 200).bind fun h20 =>
  (fX9_init_l45 FU a0 0 h20).bind fun h23 =>
  some h23
set_option maxHeartbeats 4000000 in
set_option maxRecDepth 100000 in
theorem sX9_init_l45 (E : gE) (D : Nat) (hD : 2 ≤ D) {rz : Option Value} {h0 hz : hp} : ∀ (n : Nat) (x0 : Nat) (x1 : Int32) (h : hp) (hq : hp), fX9_init_l45 n x0 x1 h = some hq → (AW E yX9_init cX9_init (Option.none : Option Jvm.ClassFile.FieldType) 2 D rz h0 hz 70 [] [] hq) → AW E yX9_init cX9_init (Option.none : Option Jvm.ClassFile.FieldType) 2 D rz h0 hz 45 [(0, .ref x0), (1, .int x1)] [] h := by
  intro n
  induction n with
  | zero =>
    intro x0 x1 h hq hf _
    rw [fX9_init_l45] at hf
    cases hf
  | succ n ih =>
    intro x0 x1 h hq hf hk0
    rw [fX9_init_l45] at hf
    refine a_iload_n (q := 1) dX9_init_45 rfl rfl ?_
    refine a_bipush (v := 8) dX9_init_46 (by decide) ?_
    refine a_icmp_ge (tgt := 70) dX9_init_48 (by decide) (fun c => ?_) (fun c => ?_)
    · have hf := ifp c hf
      obtain rfl := Option.some.inj hf
      exact AW.sub [] rfl (hk0)
    · have hf := ifn c hf
      refine a_aload_n (q := 0) dX9_init_51 rfl rfl ?_
      obtain ⟨v1, e2, hf⟩ := obd hf
      refine o_gfR dX9_init_52 lk_X9_11 rfl e2 ?_
      refine a_iload_n (q := 1) dX9_init_55 rfl rfl ?_
      obtain ⟨v3, h4, e5, hf⟩ := ob2 hf
      refine o_nwO (ci := 10) dX9_init_56 rfl rfl gu_10 tyX11_ok (by decide) wd_40 wd_64 wd_4 e5 ?_
      refine a_dup dX9_init_59 rfl ?_
      obtain ⟨_, e8, hf⟩ := obd hf
      obtain ⟨h7, e6, hf⟩ := obd hf
      refine a_callI (as := []) (np := 0) (ci := 10) (st := [.ref v3, .int x1, .ref v1]) (sX11_init E (D - 1) (by omega) e6) dX9_init_60 rfl (by omega) (by decide) cw_X9_36 ⟨wd_66, rfl⟩ rfl (ckT_s e8) rfl (Nat.le_of_ble_eq_true rfl) ?_
      obtain ⟨h9, e10, hf⟩ := obd hf
      refine o_asR dX9_init_63 (by decide) e10 ?_
      refine a_iinc (q := 1) (v := (x1 + 1)) (lv1 := [(1, .int (x1 + 1)), (0, .ref x0)]) dX9_init_64 rfl (by rfl) (by decide) rfl ?_
      refine a_goto (tgt := 45) dX9_init_67 (by decide) ?_
      exact AW.sub [1, 0] rfl (ih _ _ _ _ hf hk0)
set_option maxHeartbeats 4000000 in
set_option maxRecDepth 100000 in
theorem sX9_init (E : gE) (D : Nat) (hD : 2 ≤ D) {a0 : Nat} {h hz : hp} (hf : fX9_init a0 h = some hz) : MC E yX9_init cX9_init (Option.none : Option Jvm.ClassFile.FieldType) 2 D [.ref a0] h none hz := by
  refine MC.of (by decide +kernel) (Nat.le_of_ble_eq_true rfl) rfl ?_
  unfold fX9_init at hf
  show AW E yX9_init cX9_init (Option.none : Option Jvm.ClassFile.FieldType) 2 D none h hz 0 [(0, .ref a0)] [] h
  refine a_aload_n (q := 0) dX9_init_0 rfl rfl ?_
  obtain ⟨_, e1, hf⟩ := obd hf
  refine o_objI dX9_init_1 (by omega) wd_39 wd_32 wd_33 (by decide) (ckT_s e1) (Nat.le_of_ble_eq_true rfl) ?_
  refine a_aload_n (q := 0) dX9_init_4 rfl rfl ?_
  refine a_bipush (v := 8) dX9_init_5 (by decide) ?_
  obtain ⟨v2, h3, e4, hf⟩ := ob2 hf
  refine o_nwR (j := 6) dX9_init_7 (by decide) rfl wd_40 (by decide +kernel) e4 ?_
  obtain ⟨h5, e6, hf⟩ := obd hf
  refine o_pfR dX9_init_10 lk_X9_11 (⟨_, rfl, Or.inr ⟨rfl, rfl, rfl, wd_89⟩⟩) rfl e6 ?_
  refine a_aload_n (q := 0) dX9_init_13 rfl rfl ?_
  refine a_bipush (v := 6) dX9_init_14 (by decide) ?_
  obtain ⟨v7, h8, e9, hf⟩ := ob2 hf
  refine o_nwR (j := 5) dX9_init_16 (by decide) rfl wd_42 (by decide +kernel) e9 ?_
  obtain ⟨h10, e11, hf⟩ := obd hf
  refine o_pfR dX9_init_19 lk_X9_19 (⟨_, rfl, Or.inr ⟨rfl, rfl, rfl, wd_90⟩⟩) rfl e11 ?_
  refine a_aload_n (q := 0) dX9_init_22 rfl rfl ?_
  obtain ⟨v12, h13, e14, hf⟩ := ob2 hf
  refine o_nwO (ci := 4) dX9_init_23 rfl rfl gu_4 tyX5_ok (by decide) wd_44 wd_45 wd_3 e14 ?_
  refine a_dup dX9_init_26 rfl ?_
  refine a_sipush (v := 400) dX9_init_27 (by decide) ?_
  obtain ⟨_, e17, hf⟩ := obd hf
  obtain ⟨h16, e15, hf⟩ := obd hf
  refine a_callI (as := [.int 400]) (np := 1) (ci := 4) (st := [.ref v12, .ref a0]) (sX5_init E (D - 1) (by omega) e15) dX9_init_30 rfl (by omega) (by decide) cw_X9_25 ⟨wd_47, rfl⟩ rfl (ckT_s e17) rfl (Nat.le_of_ble_eq_true rfl) ?_
  obtain ⟨h18, e19, hf⟩ := obd hf
  refine o_pfR dX9_init_33 lk_X9_28 (⟨_, rfl, Or.inr ⟨rfl, rfl, rfl, wd_92⟩⟩) rfl e19 ?_
  refine a_aload_n (q := 0) dX9_init_36 rfl rfl ?_
  refine a_sipush (v := 200) dX9_init_37 (by decide) ?_
  obtain ⟨h20, e21, hf⟩ := obd hf
  refine o_pfI dX9_init_40 lk_X9_32 (⟨_, rfl, Or.inl rfl⟩) rfl e21 ?_
  refine a_iconst (v := 0) dX9_init_43 (by decide) ?_
  refine a_istore_n (lv1 := [(1, .int 0), (0, .ref a0)]) dX9_init_44 rfl (by decide) rfl ?_
  obtain ⟨h23, e22, hf⟩ := obd hf
  refine AW.sub [1, 0] rfl (sX9_init_l45 E D hD _ _ _ _ _ e22 ?_)
  obtain rfl := Option.some.inj hf
  exact a_return dX9_init_70 rfl

/-! values of the reference: slots of its rows -/
theorem i_mullit (m k : Nat) : (no_index (OfNat.ofNat m : Int32)) * iN k = iN (OfNat.ofNat m * k) := (Int32.ofNat_mul m k).symm
theorem i_sub1 {a : Nat} (h : 1 ≤ a) : iN a - 1 = iN (a - 1) := i_sub (b := 1) h
theorem i_addneg1 {a : Nat} (h : 1 ≤ a) : iN a + (-1) = iN (a - 1) := by rw [← Int32.sub_eq_add_neg]; exact i_sub1 h
theorem al_e {h : hp} {a n k : Nat} (t : hT h a = (100, n)) (hk : k < n) (hn : n ≤ 20000) : alI h a (iN k) = some (hI h a k) := by
  unfold alI
  rw [t, if_pos ⟨rfl, by rw [i_toInt (by omega)]; omega, by rw [i_toInt (by omega)]; show (k : Int) < (n : Int); omega⟩, i_clamp (by omega)]
theorem alF_e {h : hp} {a n k : Nat} (t : hT h a = (101, n)) (hk : k < n) (hn : n ≤ 20000) : alF h a (iN k) = some (hF h a k) := by
  unfold alF
  rw [t, if_pos ⟨rfl, by rw [i_toInt (by omega)]; omega, by rw [i_toInt (by omega)]; show (k : Int) < (n : Int); omega⟩, i_clamp (by omega)]
theorem alR_e {h : hp} {j a n k : Nat} (t : hT h a = (100 + j, n)) (hk : k < n) (hn : n ≤ 20000) : alR j h a (iN k) = some (hR h a k) := by
  unfold alR
  rw [t, if_pos ⟨rfl, by rw [i_toInt (by omega)]; omega, by rw [i_toInt (by omega)]; show (k : Int) < (n : Int); omega⟩, i_clamp (by omega)]
theorem as_e {h : hp} {a n k : Nat} {x : Int32} (t : hT h a = (100, n)) (hk : k < n) (hn : n ≤ 20000) : asI h a (iN k) x = some (pI h a k x) := by
  unfold asI
  rw [t, if_pos ⟨rfl, by rw [i_toInt (by omega)]; omega, by rw [i_toInt (by omega)]; show (k : Int) < (n : Int); omega⟩, i_clamp (by omega)]
theorem asF_e {h : hp} {a n k : Nat} {x : UInt32} (t : hT h a = (101, n)) (hk : k < n) (hn : n ≤ 20000) : asF h a (iN k) x = some (pF h a k x) := by
  unfold asF
  rw [t, if_pos ⟨rfl, by rw [i_toInt (by omega)]; omega, by rw [i_toInt (by omega)]; show (k : Int) < (n : Int); omega⟩, i_clamp (by omega)]
theorem gM {h : hp} (w : WF h) (k : Nat) : gfI h 165 13 k = some (hI h 165 k) := by unfold gfI; rw [T165 w]; rfl
theorem pM {h : hp} (w : WF h) (k : Nat) (x : Int32) : pfI h 165 13 k x = some (pI h 165 k x) := by unfold pfI; rw [T165 w]; rfl
theorem ckM {h : hp} (w : WF h) : ckT h 165 13 = some () := by unfold ckT; rw [T165 w]; rfl
theorem MR0 {h : hp} (w : WF h) : gfR h 165 13 0 = some 166 := by unfold gfR; rw [T165 w]; show some (hR h 165 0) = _; rw [R165_0 w]
theorem ML166 {h : hp} {k : Nat} (w : WF h) (hk : k < 10) : alI h 166 (iN k) = some (hI h 166 k) := al_e (T166 w) hk (by decide)
theorem MS166 {h : hp} {k : Nat} {x : Int32} (w : WF h) (hk : k < 10) : asI h 166 (iN k) x = some (pI h 166 k x) := as_e (T166 w) hk (by decide)
theorem MR1 {h : hp} (w : WF h) : gfR h 165 13 1 = some 167 := by unfold gfR; rw [T165 w]; show some (hR h 165 1) = _; rw [R165_1 w]
theorem ML167 {h : hp} {k : Nat} (w : WF h) (hk : k < 10) : alI h 167 (iN k) = some (hI h 167 k) := al_e (T167 w) hk (by decide)
theorem MS167 {h : hp} {k : Nat} {x : Int32} (w : WF h) (hk : k < 10) : asI h 167 (iN k) x = some (pI h 167 k x) := as_e (T167 w) hk (by decide)
theorem MR2 {h : hp} (w : WF h) : gfR h 165 13 2 = some 168 := by unfold gfR; rw [T165 w]; show some (hR h 165 2) = _; rw [R165_2 w]
theorem ML168 {h : hp} {k : Nat} (w : WF h) (hk : k < 10) : alI h 168 (iN k) = some (hI h 168 k) := al_e (T168 w) hk (by decide)
theorem MS168 {h : hp} {k : Nat} {x : Int32} (w : WF h) (hk : k < 10) : asI h 168 (iN k) x = some (pI h 168 k x) := as_e (T168 w) hk (by decide)
theorem MR3 {h : hp} (w : WF h) : gfR h 165 13 3 = some 169 := by unfold gfR; rw [T165 w]; show some (hR h 165 3) = _; rw [R165_3 w]
theorem ML169 {h : hp} {k : Nat} (w : WF h) (hk : k < 160) : alI h 169 (iN k) = some (hI h 169 k) := al_e (T169 w) hk (by decide)
theorem MS169 {h : hp} {k : Nat} {x : Int32} (w : WF h) (hk : k < 160) : asI h 169 (iN k) x = some (pI h 169 k x) := as_e (T169 w) hk (by decide)
theorem MR4 {h : hp} (w : WF h) : gfR h 165 13 4 = some 170 := by unfold gfR; rw [T165 w]; show some (hR h 165 4) = _; rw [R165_4 w]
theorem ML170 {h : hp} {k : Nat} (w : WF h) (hk : k < 10) : alF h 170 (iN k) = some (hF h 170 k) := alF_e (T170 w) hk (by decide)
theorem MS170 {h : hp} {k : Nat} {x : UInt32} (w : WF h) (hk : k < 10) : asF h 170 (iN k) x = some (pF h 170 k x) := asF_e (T170 w) hk (by decide)
theorem MR5 {h : hp} (w : WF h) : gfR h 165 13 5 = some 171 := by unfold gfR; rw [T165 w]; show some (hR h 165 5) = _; rw [R165_5 w]
theorem ML171 {h : hp} {k : Nat} (w : WF h) (hk : k < 64) : alI h 171 (iN k) = some (hI h 171 k) := al_e (T171 w) hk (by decide)
theorem MS171 {h : hp} {k : Nat} {x : Int32} (w : WF h) (hk : k < 64) : asI h 171 (iN k) x = some (pI h 171 k x) := as_e (T171 w) hk (by decide)
theorem MR7 {h : hp} (w : WF h) : gfR h 165 13 7 = some 172 := by unfold gfR; rw [T165 w]; show some (hR h 165 7) = _; rw [R165_7 w]
theorem ML172 {h : hp} {k : Nat} (w : WF h) (hk : k < 160) : alI h 172 (iN k) = some (hI h 172 k) := al_e (T172 w) hk (by decide)
theorem MS172 {h : hp} {k : Nat} {x : Int32} (w : WF h) (hk : k < 160) : asI h 172 (iN k) x = some (pI h 172 k x) := as_e (T172 w) hk (by decide)
theorem MR8 {h : hp} (w : WF h) : gfR h 165 13 8 = some 173 := by unfold gfR; rw [T165 w]; show some (hR h 165 8) = _; rw [R165_8 w]
theorem ML173 {h : hp} {k : Nat} (w : WF h) (hk : k < 960) : alI h 173 (iN k) = some (hI h 173 k) := al_e (T173 w) hk (by decide)
theorem MS173 {h : hp} {k : Nat} {x : Int32} (w : WF h) (hk : k < 960) : asI h 173 (iN k) x = some (pI h 173 k x) := as_e (T173 w) hk (by decide)
theorem MR9 {h : hp} (w : WF h) : gfR h 165 13 9 = some 174 := by unfold gfR; rw [T165 w]; show some (hR h 165 9) = _; rw [R165_9 w]
theorem ML174 {h : hp} {k : Nat} (w : WF h) (hk : k < 6) : alI h 174 (iN k) = some (hI h 174 k) := al_e (T174 w) hk (by decide)
theorem MS174 {h : hp} {k : Nat} {x : Int32} (w : WF h) (hk : k < 6) : asI h 174 (iN k) x = some (pI h 174 k x) := as_e (T174 w) hk (by decide)
theorem MR19 {h : hp} (w : WF h) : gfR h 165 13 19 = some 175 := by unfold gfR; rw [T165 w]; show some (hR h 165 19) = _; rw [R165_19 w]
theorem ML175 {h : hp} {k : Nat} (w : WF h) (hk : k < 400) : alI h 175 (iN k) = some (hI h 175 k) := al_e (T175 w) hk (by decide)
theorem MS175 {h : hp} {k : Nat} {x : Int32} (w : WF h) (hk : k < 400) : asI h 175 (iN k) x = some (pI h 175 k x) := as_e (T175 w) hk (by decide)
theorem MR20 {h : hp} (w : WF h) : gfR h 165 13 20 = some 176 := by unfold gfR; rw [T165 w]; show some (hR h 165 20) = _; rw [R165_20 w]
theorem ML176 {h : hp} {k : Nat} (w : WF h) (hk : k < 400) : alI h 176 (iN k) = some (hI h 176 k) := al_e (T176 w) hk (by decide)
theorem MS176 {h : hp} {k : Nat} {x : Int32} (w : WF h) (hk : k < 400) : asI h 176 (iN k) x = some (pI h 176 k x) := as_e (T176 w) hk (by decide)
theorem MR25 {h : hp} (w : WF h) : gfR h 165 13 25 = some 177 := by unfold gfR; rw [T165 w]; show some (hR h 165 25) = _; rw [R165_25 w]
theorem ML177 {h : hp} {k : Nat} (w : WF h) (hk : k < 640) : alI h 177 (iN k) = some (hI h 177 k) := al_e (T177 w) hk (by decide)
theorem MS177 {h : hp} {k : Nat} {x : Int32} (w : WF h) (hk : k < 640) : asI h 177 (iN k) x = some (pI h 177 k x) := as_e (T177 w) hk (by decide)
theorem MR26 {h : hp} (w : WF h) : gfR h 165 13 26 = some 178 := by unfold gfR; rw [T165 w]; show some (hR h 165 26) = _; rw [R165_26 w]
theorem ML178 {h : hp} {k : Nat} (w : WF h) (hk : k < 640) : alI h 178 (iN k) = some (hI h 178 k) := al_e (T178 w) hk (by decide)
theorem MS178 {h : hp} {k : Nat} {x : Int32} (w : WF h) (hk : k < 640) : asI h 178 (iN k) x = some (pI h 178 k x) := as_e (T178 w) hk (by decide)
theorem MR27 {h : hp} (w : WF h) : gfR h 165 13 27 = some 179 := by unfold gfR; rw [T165 w]; show some (hR h 165 27) = _; rw [R165_27 w]
theorem ML179 {h : hp} {k : Nat} (w : WF h) (hk : k < 640) : alI h 179 (iN k) = some (hI h 179 k) := al_e (T179 w) hk (by decide)
theorem MS179 {h : hp} {k : Nat} {x : Int32} (w : WF h) (hk : k < 640) : asI h 179 (iN k) x = some (pI h 179 k x) := as_e (T179 w) hk (by decide)
theorem MR28 {h : hp} (w : WF h) : gfR h 165 13 28 = some 180 := by unfold gfR; rw [T165 w]; show some (hR h 165 28) = _; rw [R165_28 w]
theorem ML180 {h : hp} {k : Nat} (w : WF h) (hk : k < 10240) : alI h 180 (iN k) = some (hI h 180 k) := al_e (T180 w) hk (by decide)
theorem MS180 {h : hp} {k : Nat} {x : Int32} (w : WF h) (hk : k < 10240) : asI h 180 (iN k) x = some (pI h 180 k x) := as_e (T180 w) hk (by decide)
theorem MR29 {h : hp} (w : WF h) : gfR h 165 13 29 = some 181 := by unfold gfR; rw [T165 w]; show some (hR h 165 29) = _; rw [R165_29 w]
theorem ML181 {h : hp} {k : Nat} (w : WF h) (hk : k < 640) : alF h 181 (iN k) = some (hF h 181 k) := alF_e (T181 w) hk (by decide)
theorem MS181 {h : hp} {k : Nat} {x : UInt32} (w : WF h) (hk : k < 640) : asF h 181 (iN k) x = some (pF h 181 k x) := asF_e (T181 w) hk (by decide)
theorem MR31 {h : hp} (w : WF h) : gfR h 165 13 31 = some 182 := by unfold gfR; rw [T165 w]; show some (hR h 165 31) = _; rw [R165_31 w]
theorem ML182 {h : hp} {k : Nat} (w : WF h) (hk : k < 72) : alI h 182 (iN k) = some (hI h 182 k) := al_e (T182 w) hk (by decide)
theorem MS182 {h : hp} {k : Nat} {x : Int32} (w : WF h) (hk : k < 72) : asI h 182 (iN k) x = some (pI h 182 k x) := as_e (T182 w) hk (by decide)
theorem MR32 {h : hp} (w : WF h) : gfR h 165 13 32 = some 183 := by unfold gfR; rw [T165 w]; show some (hR h 165 32) = _; rw [R165_32 w]
theorem ML183 {h : hp} {k : Nat} (w : WF h) (hk : k < 12) : alI h 183 (iN k) = some (hI h 183 k) := al_e (T183 w) hk (by decide)
theorem MS183 {h : hp} {k : Nat} {x : Int32} (w : WF h) (hk : k < 12) : asI h 183 (iN k) x = some (pI h 183 k x) := as_e (T183 w) hk (by decide)
theorem MR33 {h : hp} (w : WF h) : gfR h 165 13 33 = some 184 := by unfold gfR; rw [T165 w]; show some (hR h 165 33) = _; rw [R165_33 w]
theorem ML184 {h : hp} {k : Nat} (w : WF h) (hk : k < 12) : alI h 184 (iN k) = some (hI h 184 k) := al_e (T184 w) hk (by decide)
theorem MS184 {h : hp} {k : Nat} {x : Int32} (w : WF h) (hk : k < 12) : asI h 184 (iN k) x = some (pI h 184 k x) := as_e (T184 w) hk (by decide)
theorem MR34 {h : hp} (w : WF h) : gfR h 165 13 34 = some 185 := by unfold gfR; rw [T165 w]; show some (hR h 165 34) = _; rw [R165_34 w]
theorem ML185 {h : hp} {k : Nat} (w : WF h) (hk : k < 12) : alI h 185 (iN k) = some (hI h 185 k) := al_e (T185 w) hk (by decide)
theorem MS185 {h : hp} {k : Nat} {x : Int32} (w : WF h) (hk : k < 12) : asI h 185 (iN k) x = some (pI h 185 k x) := as_e (T185 w) hk (by decide)
theorem MR39 {h : hp} (w : WF h) : gfR h 165 13 39 = some 186 := by unfold gfR; rw [T165 w]; show some (hR h 165 39) = _; rw [R165_39 w]
theorem ML186 {h : hp} {k : Nat} (w : WF h) (hk : k < 80) : alI h 186 (iN k) = some (hI h 186 k) := al_e (T186 w) hk (by decide)
theorem MS186 {h : hp} {k : Nat} {x : Int32} (w : WF h) (hk : k < 80) : asI h 186 (iN k) x = some (pI h 186 k x) := as_e (T186 w) hk (by decide)
theorem MR40 {h : hp} (w : WF h) : gfR h 165 13 40 = some 187 := by unfold gfR; rw [T165 w]; show some (hR h 165 40) = _; rw [R165_40 w]
theorem ML187 {h : hp} {k : Nat} (w : WF h) (hk : k < 480) : alI h 187 (iN k) = some (hI h 187 k) := al_e (T187 w) hk (by decide)
theorem MS187 {h : hp} {k : Nat} {x : Int32} (w : WF h) (hk : k < 480) : asI h 187 (iN k) x = some (pI h 187 k x) := as_e (T187 w) hk (by decide)
theorem MR41 {h : hp} (w : WF h) : gfR h 165 13 41 = some 188 := by unfold gfR; rw [T165 w]; show some (hR h 165 41) = _; rw [R165_41 w]
theorem ML188 {h : hp} {k : Nat} (w : WF h) (hk : k < 80) : alI h 188 (iN k) = some (hI h 188 k) := al_e (T188 w) hk (by decide)
theorem MS188 {h : hp} {k : Nat} {x : Int32} (w : WF h) (hk : k < 80) : asI h 188 (iN k) x = some (pI h 188 k x) := as_e (T188 w) hk (by decide)
theorem MR44 {h : hp} (w : WF h) : gfR h 165 13 44 = some 189 := by unfold gfR; rw [T165 w]; show some (hR h 165 44) = _; rw [R165_44 w]
theorem ML189 {h : hp} {k : Nat} (w : WF h) (hk : k < 128) : alI h 189 (iN k) = some (hI h 189 k) := al_e (T189 w) hk (by decide)
theorem MS189 {h : hp} {k : Nat} {x : Int32} (w : WF h) (hk : k < 128) : asI h 189 (iN k) x = some (pI h 189 k x) := as_e (T189 w) hk (by decide)
theorem MR45 {h : hp} (w : WF h) : gfR h 165 13 45 = some 190 := by unfold gfR; rw [T165 w]; show some (hR h 165 45) = _; rw [R165_45 w]
theorem ML190 {h : hp} {k : Nat} (w : WF h) (hk : k < 128) : alI h 190 (iN k) = some (hI h 190 k) := al_e (T190 w) hk (by decide)
theorem MS190 {h : hp} {k : Nat} {x : Int32} (w : WF h) (hk : k < 128) : asI h 190 (iN k) x = some (pI h 190 k x) := as_e (T190 w) hk (by decide)
theorem MR46 {h : hp} (w : WF h) : gfR h 165 13 46 = some 191 := by unfold gfR; rw [T165 w]; show some (hR h 165 46) = _; rw [R165_46 w]
theorem ML191 {h : hp} {k : Nat} (w : WF h) (hk : k < 128) : alI h 191 (iN k) = some (hI h 191 k) := al_e (T191 w) hk (by decide)
theorem MS191 {h : hp} {k : Nat} {x : Int32} (w : WF h) (hk : k < 128) : asI h 191 (iN k) x = some (pI h 191 k x) := as_e (T191 w) hk (by decide)
theorem MR48 {h : hp} (w : WF h) : gfR h 165 13 48 = some 192 := by unfold gfR; rw [T165 w]; show some (hR h 165 48) = _; rw [R165_48 w]
theorem ML192 {h : hp} {k : Nat} (w : WF h) (hk : k < 6) : alI h 192 (iN k) = some (hI h 192 k) := al_e (T192 w) hk (by decide)
theorem MS192 {h : hp} {k : Nat} {x : Int32} (w : WF h) (hk : k < 6) : asI h 192 (iN k) x = some (pI h 192 k x) := as_e (T192 w) hk (by decide)
theorem MR49 {h : hp} (w : WF h) : gfR h 165 13 49 = some 193 := by unfold gfR; rw [T165 w]; show some (hR h 165 49) = _; rw [R165_49 w]
theorem ML193 {h : hp} {k : Nat} (w : WF h) (hk : k < 6) : alI h 193 (iN k) = some (hI h 193 k) := al_e (T193 w) hk (by decide)
theorem MS193 {h : hp} {k : Nat} {x : Int32} (w : WF h) (hk : k < 6) : asI h 193 (iN k) x = some (pI h 193 k x) := as_e (T193 w) hk (by decide)
theorem MR50 {h : hp} (w : WF h) : gfR h 165 13 50 = some 194 := by unfold gfR; rw [T165 w]; show some (hR h 165 50) = _; rw [R165_50 w]
theorem ML194 {h : hp} {k : Nat} (w : WF h) (hk : k < 360) : alI h 194 (iN k) = some (hI h 194 k) := al_e (T194 w) hk (by decide)
theorem MS194 {h : hp} {k : Nat} {x : Int32} (w : WF h) (hk : k < 360) : asI h 194 (iN k) x = some (pI h 194 k x) := as_e (T194 w) hk (by decide)
theorem MR51 {h : hp} (w : WF h) : gfR h 165 13 51 = some 195 := by unfold gfR; rw [T165 w]; show some (hR h 165 51) = _; rw [R165_51 w]
theorem ML195 {h : hp} {k : Nat} (w : WF h) (hk : k < 360) : alF h 195 (iN k) = some (hF h 195 k) := alF_e (T195 w) hk (by decide)
theorem MS195 {h : hp} {k : Nat} {x : UInt32} (w : WF h) (hk : k < 360) : asF h 195 (iN k) x = some (pF h 195 k x) := asF_e (T195 w) hk (by decide)
theorem MR52 {h : hp} (w : WF h) : gfR h 165 13 52 = some 196 := by unfold gfR; rw [T165 w]; show some (hR h 165 52) = _; rw [R165_52 w]
theorem ML196 {h : hp} {k : Nat} (w : WF h) (hk : k < 6) : alI h 196 (iN k) = some (hI h 196 k) := al_e (T196 w) hk (by decide)
theorem MS196 {h : hp} {k : Nat} {x : Int32} (w : WF h) (hk : k < 6) : asI h 196 (iN k) x = some (pI h 196 k x) := as_e (T196 w) hk (by decide)
theorem MR53 {h : hp} (w : WF h) : gfR h 165 13 53 = some 197 := by unfold gfR; rw [T165 w]; show some (hR h 165 53) = _; rw [R165_53 w]
theorem ML197 {h : hp} {k : Nat} (w : WF h) (hk : k < 960) : alI h 197 (iN k) = some (hI h 197 k) := al_e (T197 w) hk (by decide)
theorem MS197 {h : hp} {k : Nat} {x : Int32} (w : WF h) (hk : k < 960) : asI h 197 (iN k) x = some (pI h 197 k x) := as_e (T197 w) hk (by decide)
theorem MR54 {h : hp} (w : WF h) : gfR h 165 13 54 = some 198 := by unfold gfR; rw [T165 w]; show some (hR h 165 54) = _; rw [R165_54 w]
theorem ML198 {h : hp} {k : Nat} (w : WF h) (hk : k < 400) : alI h 198 (iN k) = some (hI h 198 k) := al_e (T198 w) hk (by decide)
theorem MS198 {h : hp} {k : Nat} {x : Int32} (w : WF h) (hk : k < 400) : asI h 198 (iN k) x = some (pI h 198 k x) := as_e (T198 w) hk (by decide)
theorem MR55 {h : hp} (w : WF h) : gfR h 165 13 55 = some 199 := by unfold gfR; rw [T165 w]; show some (hR h 165 55) = _; rw [R165_55 w]
theorem ML199 {h : hp} {k : Nat} (w : WF h) (hk : k < 8) : alI h 199 (iN k) = some (hI h 199 k) := al_e (T199 w) hk (by decide)
theorem MS199 {h : hp} {k : Nat} {x : Int32} (w : WF h) (hk : k < 8) : asI h 199 (iN k) x = some (pI h 199 k x) := as_e (T199 w) hk (by decide)
theorem MR56 {h : hp} (w : WF h) : gfR h 165 13 56 = some 200 := by unfold gfR; rw [T165 w]; show some (hR h 165 56) = _; rw [R165_56 w]
theorem ML200 {h : hp} {k : Nat} (w : WF h) (hk : k < 8) : alI h 200 (iN k) = some (hI h 200 k) := al_e (T200 w) hk (by decide)
theorem MS200 {h : hp} {k : Nat} {x : Int32} (w : WF h) (hk : k < 8) : asI h 200 (iN k) x = some (pI h 200 k x) := as_e (T200 w) hk (by decide)
theorem MR57 {h : hp} (w : WF h) : gfR h 165 13 57 = some 201 := by unfold gfR; rw [T165 w]; show some (hR h 165 57) = _; rw [R165_57 w]
theorem ML201 {h : hp} {k : Nat} (w : WF h) (hk : k < 8) : alI h 201 (iN k) = some (hI h 201 k) := al_e (T201 w) hk (by decide)
theorem MS201 {h : hp} {k : Nat} {x : Int32} (w : WF h) (hk : k < 8) : asI h 201 (iN k) x = some (pI h 201 k x) := as_e (T201 w) hk (by decide)
theorem MR58 {h : hp} (w : WF h) : gfR h 165 13 58 = some 202 := by unfold gfR; rw [T165 w]; show some (hR h 165 58) = _; rw [R165_58 w]
theorem ML202 {h : hp} {k : Nat} (w : WF h) (hk : k < 128) : alI h 202 (iN k) = some (hI h 202 k) := al_e (T202 w) hk (by decide)
theorem MS202 {h : hp} {k : Nat} {x : Int32} (w : WF h) (hk : k < 128) : asI h 202 (iN k) x = some (pI h 202 k x) := as_e (T202 w) hk (by decide)
theorem MR59 {h : hp} (w : WF h) : gfR h 165 13 59 = some 203 := by unfold gfR; rw [T165 w]; show some (hR h 165 59) = _; rw [R165_59 w]
theorem ML203 {h : hp} {k : Nat} (w : WF h) (hk : k < 8) : alF h 203 (iN k) = some (hF h 203 k) := alF_e (T203 w) hk (by decide)
theorem MS203 {h : hp} {k : Nat} {x : UInt32} (w : WF h) (hk : k < 8) : asF h 203 (iN k) x = some (pF h 203 k x) := asF_e (T203 w) hk (by decide)
/-- nothing is changed but ints and floats of some places; nothing is made -/
def FS (P : Nat → Nat → Prop) (h h' : hp) : Prop := hN h' = hN h ∧ hL h' = hL h ∧ hT h' = hT h ∧ hR h' = hR h ∧ ∀ x k, ¬ P x k → hI h' x k = hI h x k ∧ hF h' x k = hF h x k
theorem FS.rf (P : Nat → Nat → Prop) (h : hp) : FS P h h := ⟨rfl, rfl, rfl, rfl, fun _ _ _ => ⟨rfl, rfl⟩⟩
theorem FS.tr {P : Nat → Nat → Prop} {h h1 h2 : hp} (a : FS P h h1) (b : FS P h1 h2) : FS P h h2 :=
  ⟨b.1.trans a.1, b.2.1.trans a.2.1, b.2.2.1.trans a.2.2.1, b.2.2.2.1.trans a.2.2.2.1, fun x k hx => ⟨(b.2.2.2.2 x k hx).1.trans (a.2.2.2.2 x k hx).1, (b.2.2.2.2 x k hx).2.trans (a.2.2.2.2 x k hx).2⟩⟩
theorem FS.up {P Q : Nat → Nat → Prop} {h h1 : hp} (a : FS P h h1) (q : ∀ x k, P x k → Q x k) : FS Q h h1 := ⟨a.1, a.2.1, a.2.2.1, a.2.2.2.1, fun x k hx => a.2.2.2.2 x k fun z => hx (q x k z)⟩
theorem FS.pI {P : Nat → Nat → Prop} {h : hp} {a k : Nat} {v : Int32} (q : P a k) : FS P h (pI h a k v) := ⟨rfl, rfl, rfl, rfl, fun x j hx => ⟨by rw [hI_pI, if_neg]; rintro ⟨rfl, rfl⟩; exact hx q, rfl⟩⟩
theorem FS.pF {P : Nat → Nat → Prop} {h : hp} {a k : Nat} {v : UInt32} (q : P a k) : FS P h (pF h a k v) := ⟨rfl, rfl, rfl, rfl, fun x j hx => ⟨rfl, by rw [hF_pF, if_neg]; rintro ⟨rfl, rfl⟩; exact hx q⟩⟩
theorem FS.sI {P : Nat → Nat → Prop} {h : hp} {b : Nat} {g : Nat → Int32} (q : ∀ k, ¬ P b k → g k = hI h b k) : FS P h (sI h b g) := by
  refine ⟨rfl, rfl, rfl, rfl, fun x j hx => ⟨?_, rfl⟩⟩
  rw [hI_sI]
  by_cases e : x = b
  · subst e; rw [if_pos rfl]; exact q j hx
  · rw [if_neg e]
theorem FS.wf {P : Nat → Nat → Prop} {h h' : hp} (a : FS P h h') (w : WF h) : WF h' := WF_same w a.2.2.1 a.2.2.2.1 a.1
theorem FI.fs {S : List Nat} {h h' : hp} (a : FI S h h') : FS (fun x _ => x ∈ S) h h' := ⟨a.1, a.2.1, a.2.2.1, a.2.2.2.1, fun x k hx => ⟨congrFun (a.2.2.2.2 x hx).1 k, congrFun (a.2.2.2.2 x hx).2 k⟩⟩
/-- the places of a slot -/
def sP (s x k : Nat) : Prop := ((x = 166 ∨ x = 167 ∨ x = 168 ∨ x = 170) ∧ k = s) ∨ (x = 169 ∧ 16 * s ≤ k ∧ k < 16 * s + 16)
def MV (h : hp) (s : Nat) (V : vT) : Prop := hI h 166 s = iN V.1 ∧ V.1 ≤ 4 ∧ (V.1 = 1 → hI h 167 s = V.2.1) ∧ (V.1 = 2 → hF h 170 s = V.2.2.1) ∧ (3 ≤ V.1 → hI h 168 s = iN V.2.2.2.1 ∧ V.2.2.2.1 ≤ 16 ∧ ∀ k, k < V.2.2.2.1 → hI h 169 (16 * s + k) = V.2.2.2.2 k)
theorem MV.fr {P : Nat → Nat → Prop} {h h' : hp} {s : Nat} {V : vT} (H : MV h s V) (f : FS P h h') (hP : ∀ x k, sP s x k → ¬ P x k) : MV h' s V := by
  obtain ⟨h1, h2, h3, h4, h5⟩ := H
  have e := f.2.2.2.2
  refine ⟨by rw [(e 166 s (hP _ _ (by simp [sP]))).1]; exact h1, h2, by rw [(e 167 s (hP _ _ (by simp [sP]))).1]; exact h3, by rw [(e 170 s (hP _ _ (by simp [sP]))).2]; exact h4, fun hv => ?_⟩
  obtain ⟨g1, g2, g3⟩ := h5 hv
  refine ⟨by rw [(e 168 s (hP _ _ (by simp [sP]))).1]; exact g1, g2, fun k hk => ?_⟩
  rw [(e 169 (16 * s + k) (hP _ _ (.inr ⟨rfl, by omega, by omega⟩))).1]; exact g3 k hk
theorem mInt {h : hp} (w : WF h) {s : Nat} (hs : s < 10) (x : Int32) : fX14_isInt 165 (iN s) x h = some (pI (pI h 166 s 1) 167 s x) := by
  simp (disch := (first | assumption | (simp only [WF_e1, WF_e2, WF_e3, WF_e4, WF_e5]; assumption) | omega | decide)) only [fX14_isInt, MR0, MR1, MS166, MS167, Option.bind_some]
theorem mvInt {h : hp} {s : Nat} (x : Int32) : MV (pI (pI h 166 s 1) 167 s x) s (vI x) := by
  refine ⟨by simp [hI_pI, vI]; rfl, by simp [vI], by simp [hI_pI, vI], by simp [vI], by simp [vI]⟩
theorem fsInt {h : hp} {s : Nat} (x : Int32) : FS (sP s) h (pI (pI h 166 s 1) 167 s x) := FS.tr (FS.pI (by simp [sP])) (FS.pI (by simp [sP]))
theorem mLim (f : UInt32) (h : hp) : fX14_limited f h = some (limF f, h) := by
  unfold fX14_limited limF
  simp only [jn]
  split
  · split
    · split <;> rfl
    · rfl
  · rfl
theorem mReal {h : hp} (w : WF h) {s : Nat} (hs : s < 10) (f : UInt32) : fX14_isReal 165 (iN s) f h = some (pF (pI h 166 s 2) 170 s (limF f)) := by
  simp (disch := (first | assumption | (simp only [WF_e1, WF_e2, WF_e3, WF_e4, WF_e5]; assumption) | omega | decide)) only [fX14_isReal, MR0, MR4, MS166, MS170, mLim, bd2, Option.bind_some]
theorem mvReal {h : hp} {s : Nat} (f : UInt32) : MV (pF (pI h 166 s 2) 170 s f) s (vR f) := by
  refine ⟨by simp [hI_pI, hI_pF, vR]; rfl, by simp [vR], by simp [vR], by simp [hF_pF, vR], by simp [vR]⟩
theorem fsReal {h : hp} {s : Nat} (f : UInt32) : FS (sP s) h (pF (pI h 166 s 2) 170 s f) := FS.tr (FS.pI (by simp [sP])) (FS.pF (by simp [sP]))
theorem mCopies_l {h : hp} (w : WF h) {s t : Nat} (hs : s < 10) (ht : t < 10) : ∀ (d k m : Nat) (g : Nat → Int32), k + d = 16 → d < m → (s = t ∨ s ≠ t) → fX14_copies_l50 m 165 (iN s) (iN t) (iN k) (sI h 169 g) = some (sI h 169 (fun j => if 16 * t + k ≤ j ∧ j < 16 * t + 16 then g (16 * s + (j - 16 * t)) else g j)) := by
  intro d
  induction d with
  | zero =>
    intro k m g hk hm _
    obtain ⟨m, rfl⟩ : ∃ q, m = q + 1 := ⟨m - 1, by omega⟩
    have e : (16 : Int32) ≤ iN k := by rw [i_lit_le (by omega) (by omega)]; omega
    simp only [fX14_copies_l50, e, if_true]
    exact congrArg some (sI_congr h 169 fun j => by rw [if_neg (by omega)])
  | succ d ih =>
    intro k m g hk hm hst
    obtain ⟨m, rfl⟩ : ∃ q, m = q + 1 := ⟨m - 1, by omega⟩
    have e : ¬ ((16 : Int32) ≤ iN k) := by rw [i_lit_le (by omega) (by omega)]; omega
    simp (disch := (first | assumption | (simp only [WF_e1, WF_e2, WF_e3, WF_e4, WF_e5]; assumption) | omega | decide)) only [fX14_copies_l50, e, if_false, MR3, ML169, MS169, Option.bind_some, i_mullit, i_add, i_succ, hI_sI, if_true, pI_sI]
    rw [ih (k + 1) m _ (by omega) (by omega) hst]
    refine congrArg some (sI_congr h 169 fun j => ?_)
    by_cases c : 16 * t + (k + 1) ≤ j ∧ j < 16 * t + 16
    · have c3 : 16 * t + k ≤ j ∧ j < 16 * t + 16 := by omega
      rw [if_pos c, if_pos c3]
      by_cases c2 : 16 * s + (j - 16 * t) = 16 * t + k
      · rw [if_pos c2]
        rcases hst with rfl | hst
        · omega
        · omega
      · rw [if_neg c2]
    · rw [if_neg c]
      by_cases c2 : j = 16 * t + k
      · subst c2
        have c3 : 16 * t + k ≤ 16 * t + k ∧ 16 * t + k < 16 * t + 16 := by omega
        rw [if_pos rfl, if_pos c3, show 16 * s + (16 * t + k - 16 * t) = 16 * s + k by omega]
      · have c3 : ¬ (16 * t + k ≤ j ∧ j < 16 * t + 16) := by omega
        rw [if_neg c2, if_neg c3]
theorem mCopies {h : hp} (w : WF h) {s t : Nat} (hs : s < 10) (ht : t < 10) {V : vT} (H : MV h s V) : ∃ h', fX14_copies 165 (iN s) (iN t) h = some h' ∧ MV h' t V ∧ FS (sP t) h h' := by
  obtain ⟨h1, h2, h3, h4, h5⟩ := H
  have hl := mCopies_l (h := pF (pI (pI (pI h 166 t (hI h 166 s)) 167 t (hI h 167 s)) 168 t (hI h 168 s)) 170 t (hF h 170 s)) w hs ht 16 0 FU (hI h 169) (by omega) (by decide) (by omega)
  rw [show sI (pF (pI (pI (pI h 166 t (hI h 166 s)) 167 t (hI h 167 s)) 168 t (hI h 168 s)) 170 t (hF h 170 s)) 169 (hI h 169) = pF (pI (pI (pI h 166 t (hI h 166 s)) 167 t (hI h 167 s)) 168 t (hI h 168 s)) 170 t (hF h 170 s) from (sI_congr _ 169 fun j => by simp [hI_pF, hI_pI]).trans (sI_self _ 169)] at hl
  refine ⟨sI (pF (pI (pI (pI h 166 t (hI h 166 s)) 167 t (hI h 167 s)) 168 t (hI h 168 s)) 170 t (hF h 170 s)) 169 (fun j => if 16 * t + 0 ≤ j ∧ j < 16 * t + 16 then hI h 169 (16 * s + (j - 16 * t)) else hI h 169 j), ?_, ⟨?_, h2, ?_, ?_, ?_⟩, ?_⟩
  · have z0 : (0 : Int32) = iN 0 := rfl
    simp (disch := (first | assumption | (simp only [WF_e1, WF_e2, WF_e3, WF_e4, WF_e5]; assumption) | omega | decide)) only [fX14_copies, MR0, MR1, MR2, MR4, ML166, ML167, ML168, ML170, MS166, MS167, MS168, MS170, Option.bind_some, hI_pI, hF_pI, Nat.reduceEqDiff, false_and, if_false, z0]
    rw [hl]
    rfl
  · rw [hI_sI, if_neg (by decide), hI_pF, hI_pI, if_neg (by simp), hI_pI, if_neg (by simp), hI_pI, if_pos ⟨rfl, rfl⟩]; exact h1
  · intro hv; rw [hI_sI, if_neg (by decide), hI_pF, hI_pI, if_neg (by simp), hI_pI, if_pos ⟨rfl, rfl⟩]; exact h3 hv
  · intro hv; rw [hF_sI, hF_pF, if_pos ⟨rfl, rfl⟩]; exact h4 hv
  · intro hv
    obtain ⟨g1, g2, g3⟩ := h5 hv
    refine ⟨?_, g2, fun k hk => ?_⟩
    · rw [hI_sI, if_neg (by decide), hI_pF, hI_pI, if_pos ⟨rfl, rfl⟩]; exact g1
    · rw [hI_sI, if_pos rfl, if_pos (by omega), show 16 * s + (16 * t + k - 16 * t) = 16 * s + k by omega]; exact g3 k hk
  · refine FS.tr (FS.tr (FS.tr (FS.tr (FS.pI (by simp [sP])) (FS.pI (by simp [sP]))) (FS.pI (by simp [sP]))) (FS.pF (by simp [sP]))) (FS.sI fun k hk => ?_)
    have : ¬ (16 * t + 0 ≤ k ∧ k < 16 * t + 16) := fun q => hk (.inr ⟨rfl, by omega, by omega⟩)
    rw [if_neg this]
    simp [hI_pF, hI_pI]

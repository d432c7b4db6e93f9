def hp0 : hp := (0, 0, fun _ => (200, 0), fun _ _ => 0, fun _ _ => 0, fun _ _ => 0)
theorem g_P0 (E : gE) {H : Heap} (h : H.size = E.1) : g_P E hp0 H :=
  ⟨by rw [h]; rfl, ⟨fun a _ => ⟨fun _ => rfl, fun _ => rfl, fun _ => rfl⟩, fun a _ => Nat.le_refl _, fun a _ => Nat.le_refl _, fun a ha => absurd ha (show ¬ (200 : Nat) < 100 by decide), fun a ha => absurd ha (show ¬ (200 : Nat) < 200 by decide)⟩, fun i hi => absurd hi (Nat.not_lt_zero _)⟩
theorem room_le {s : State} {pl : Platform} {R R' : Room} (h : s.hasRoom pl R = true) (h1 : R'.frames ≤ R.frames) (h2 : R'.locals ≤ R.locals) (h3 : R'.cells ≤ R.cells) (h4 : R'.slots ≤ R.slots) : s.hasRoom pl R' = true := by
  simp only [State.hasRoom, Bool.and_eq_true, decide_eq_true_eq] at h ⊢
  obtain ⟨⟨⟨⟨a1, a2, a3, a4, a5, a6⟩, a7⟩, a8⟩, a9⟩ := h
  exact ⟨⟨⟨⟨by omega, by omega, by omega, by omega, by omega, a6⟩, by omega⟩, by omega⟩, a9⟩
set_option maxHeartbeats 4000000 in
/-- the walk of the law, out of its pure function -/
theorem law_start {p : Program} {e : Env} {s : State} {m : MethodId} {below : List Frame} {meth : Method} {c : Code} (l : Launch) {b L : Nat} {xs : Nat → Int32} (hL3 : L ≤ 3072) (C0 : lw_At p s m meth c b L xs) {hz : hp} (hf : fL_law xs L hp0 = some (1, hz)) (hz1 : hN hz ≤ 600000) (hz2 : hL hz ≤ 7302250) : W p l e room_1 s m #[Value.ref b] below meth c s.heap [] 0 0 (lw_Z below #[Value.ref b] s) (entryFrame m ([Value.ref b] : List Value).toArray 4) := by
  obtain ⟨hx, hb, hr, hml, hown, hts, hX, hbl, hlocks, hgv⟩ := id C0
  obtain ⟨D, cA, hK⟩ := start_K hts
  obtain ⟨ad, had, hvk, hS2⟩ := start_S2 hts hgv hX hbl hL3
  obtain ⟨E, hE⟩ : ∃ E : gE, E = (s.heap.size, D, cA, ad, L, xs) := ⟨_, rfl⟩
  have hSt : g_St E s s.heap := by
    subst hE
    refine ⟨fun w hw => va_Nw.of (g_nt hw) (hts w (lw_mt (List.mem_filter.mp hw).1)), fun C hC => ?_, hvk, hS2 D cA⟩
    simp only [g_cl, List.mem_cons, List.not_mem_nil, or_false] at hC
    rcases hC with rfl | rfl | rfl | rfl | rfl
    · exact hts _ nw_a1
    · exact hts _ nw_a2
    · exact hts _ nw_a3
    · exact hts _ nw_a4
    · exact hts _ nw_a5
  have hCx : g_Cx E (yLn meth.name) cL_law (Option.some Jvm.ClassFile.FieldType.boolean : Option Jvm.ClassFile.FieldType) 4 p s m #[Value.ref b] meth c :=
    ⟨hx, hb, hr, hml, hown, fun w hw => hts w (List.mem_filter.mp hw).1, hlocks, rfl, by rw [hE]; exact hK ad L xs, hSt, by rw [hE]; exact Nat.le_refl _⟩
  have hf2 : fL_law E.2.2.2.2.2 E.2.2.2.2.1 hp0 = some (1, hz) := by rw [hE]; exact hf
  have hA := sL_law E 1300 (by decide) (nm := meth.name) hf2
  have hl := lv_entry ([.ref b]) (n := 4) (Nat.le_of_ble_eq_true rfl)
  rw [lg_entry_eq]
  have hl2 : lv_has (lg_sl ([.ref b]) ++ List.replicate (4 - (lg_sl ([.ref b])).length) Slot.unset).toArray 4 (lvm E [(0, .ref 63)]) := by
    have e1 : lvm E [(0, .ref 63)] = [(0, .ref b)] := by
      show [(0, va_rf (g_on E 63))] = _
      rw [g_st (by decide) (by decide)]
      show [(0, Value.ref (E.2.2.2.1 63))] = _
      rw [hE, ← had]
    rw [e1]
    exact hl
  have hEs : E.1 = s.heap.size := by rw [hE]
  have hW := hA.2 (Nat.le_refl _) (Nat.le_refl _) p l e s m #[Value.ref b] below meth c hCx _ s.heap [] hl2 (g_P0 E hEs.symm) va_S.rf
  intro T hTT X
  have hn0 : hN hp0 = 0 := rfl
  have hl0 : hL hp0 = 0 := rfl
  have X2 : Stand p l e (g_rm 1300 (hN hz - hN hp0) (hL hz - hL hp0)) s m #[Value.ref b] below meth c T [] (hN hp0 - hN hp0) (hL hp0 - hL hp0) :=
    { X with room := room_le X.room (show (1300 : Nat) ≤ 2048 by decide) (show (64 * 1300 : Nat) ≤ 84000 by decide) (by show hN hz - hN hp0 ≤ 600000; omega) (by show hL hz - hL hp0 ≤ 7302250; omega) }
  obtain ⟨t, a1, o, b1, b2, ⟨b3, b4, b5⟩, Lc, ⟨f1, f2, f3⟩, hLq⟩ := hW T hTT X2
  refine ⟨t, a1, o, b1, b2, b3, ?_⟩
  refine lw_closed (d0 := s.drawn) (Drawn.sameBut.refl s.drawn lw_cs) f1 f2 ?_
  exact f3.weaken (fun y hy hlt => absurd hlt (Nat.not_lt.mpr (by rw [← hEs]; exact hLq y hy))) (by omega) (by omega)

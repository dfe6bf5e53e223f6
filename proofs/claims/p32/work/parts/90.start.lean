/-! the law from its entry -/
theorem st_NWF : ∀ q ∈ NWF, Cond.fieldLinkNest q.1 q.2.1 q.2.2.1 q.2.2.2.1 q.2.2.2.2.1 q.2.2.2.2.2 ∈ lw_tbl := by decide +kernel
theorem st_NWM : ∀ q ∈ NWM, Cond.methodLinkNest q.1 q.2.1 q.2.2.1 q.2.2.2 ∈ lw_tbl := by decide +kernel
theorem st_NWD : ∀ q ∈ NWD ++ NWJ, Cond.declares q ∈ lw_tbl := by decide +kernel
theorem st_SR : ∀ q ∈ STL, Cond.stringRef "Compactforms" q.1 q.2 ∈ lw_tbl := by decide +kernel
theorem st_XN : ∀ n ∈ XN, Cond.castable n n ∈ lw_tbl := by decide +kernel
theorem st_NX : ∀ a ∈ XN, ∀ b ∈ YN, a ≠ b → Cond.not (Cond.castable a b) ∈ flatC (Cond.and given_1 narrow_1) := by decide +kernel
theorem st_EX : ∀ q ∈ STL, Cond.exactly (Term.string "Compactforms" q.1) "java/lang/String" ∈ flatC (Cond.and given_1 narrow_1) := by decide +kernel
theorem st_US : Cond.isRef (.static Bundle.tN "UNASSIGNED_STACK" Bundle.steD) ∈ flatC (Cond.and given_1 narrow_1) := by decide +kernel
theorem st_SS : Cond.isRef (.static Bundle.tN "SUPPRESSED_SENTINEL" Bundle.listD) ∈ flatC (Cond.and given_1 narrow_1) := by decide +kernel
theorem st_evt {s : State} {args : Array Value} (hts : ∀ w ∈ lw_tbl, w.before args s = true) (hn : (Cond.and given_1 narrow_1).before args s = true) : EVT s := by
  have hf := flat_of_before _ hn
  refine ⟨fun q hq => va_Nw.of rfl (hts _ (st_NWF q hq)), fun q hq => va_Nw.of rfl (hts _ (st_NWM q hq)), fun q hq => va_Nw.of rfl (hts _ (st_NWD q hq)), fun q hq => ?_, fun n hn => va_Nw.of rfl (hts _ (st_XN n hn)), fun a ha b hb ne => va_Nc.of (hf _ (st_NX a ha b hb ne)), va_AO.of (hts _ m30)⟩
  obtain ⟨a, c, cell, k, e, -⟩ := Cond.exactly_spec (hf _ (st_EX q hq))
  exact ⟨a, vk_R.of (hts _ (st_SR q hq)) e⟩
theorem st_ev {s : State} {args : Array Value} (hts : ∀ w ∈ lw_tbl, w.before args s = true) (hn : (Cond.and given_1 narrow_1).before args s = true) : EV (fun q => s.heap.size ≤ q) s := by
  have hf := flat_of_before _ hn
  exact ⟨st_evt hts hn, vx_Zqof (hts _ m245) (hts _ m9) (hf _ st_US) (fun a h => Nat.not_le.mpr h), vx_Zqof (hts _ m247) (hts _ m9) (hf _ st_SS) (fun a h => Nat.not_le.mpr h)⟩
/-- classes and array classes, as the tables have them -/
theorem st_K {s : State} {args : Array Value} (hg : ∀ w ∈ GW, w.before args s = true) (hAO : va_AO "Compactforms$Value" s) : ∃ (D : va_G) (cI cV cJ cD : ClassId), va_K D vwCl (TY cI cV cJ cD) s := by
  have hex : ∀ k : Nat, ∃ z : ClassId × (Nat → Nat), ∀ q : vw_C, vwCl[k]? = some q → u_Kn s q.1 q.2.1 q.2.2 z.1 z.2 := by
    intro k
    match k with
    | 0 =>
      obtain ⟨c, iS, h⟩ := u_known (C := RX0) (T := TX0) (N := 5) (n := 5) hg in_X0 (hg _ w72)
      exact ⟨(c, iS), fun q hq => by cases hq; exact h⟩
    | 1 =>
      obtain ⟨c, iS, h⟩ := u_known (C := RX2) (T := TX2) (N := 2) (n := 2) hg in_X2 (hg _ w116)
      exact ⟨(c, iS), fun q hq => by cases hq; exact h⟩
    | 2 =>
      obtain ⟨c, iS, h⟩ := u_known (C := RX3) (T := TX3) (N := 2) (n := 2) hg in_X3 (hg _ w32)
      exact ⟨(c, iS), fun q hq => by cases hq; exact h⟩
    | 3 =>
      obtain ⟨c, iS, h⟩ := u_known (C := RX4) (T := TX4) (N := 3) (n := 3) hg in_X4 (hg _ w52)
      exact ⟨(c, iS), fun q hq => by cases hq; exact h⟩
    | 4 =>
      obtain ⟨c, iS, h⟩ := u_known (C := RX5) (T := TX5) (N := 5) (n := 5) hg in_X5 (hg _ w94)
      exact ⟨(c, iS), fun q hq => by cases hq; exact h⟩
    | 5 =>
      obtain ⟨c, iS, h⟩ := u_known (C := RX6) (T := TX6) (N := 10) (n := 10) hg in_X6 (hg _ w46)
      exact ⟨(c, iS), fun q hq => by cases hq; exact h⟩
    | 6 =>
      obtain ⟨c, iS, h⟩ := u_known (C := RX7) (T := TX7) (N := 8) (n := 8) hg in_X7 (hg _ w22)
      exact ⟨(c, iS), fun q hq => by cases hq; exact h⟩
    | k + 7 => exact ⟨(0, fun _ => 0), fun q hq => by simp [vwCl] at hq⟩
  obtain ⟨cI, kI, pI, i1, i2, i3⟩ := Cond.arrayClass_spec (hg _ w45)
  obtain ⟨cJ, kJ, pJ, j1, j2, j3⟩ := Cond.arrayClass_spec (hg _ w793)
  obtain ⟨pV, cV, kV, v1, v2, v3, v4, v5⟩ := Cond.arrayOver_spec hAO
  refine ⟨(fun k => (Classical.choose (hex k)).1, fun k => (Classical.choose (hex k)).2), cI, cV, cJ, cJ, fun k q hq => Classical.choose_spec (hex k) q hq, fun k q hq => ?_⟩
  match k, hq with
  | 0, hq => cases hq; exact ⟨fun n z => ⟨fun k h => (by cases h), kI, i2, pI, i3⟩, i1⟩
  | 1, hq => cases hq; exact ⟨fun n z => ⟨fun k h => (by cases h), kV, v3, pV, v4⟩, ⟨kV, pV, v3, v4, v1, v5⟩⟩
  | 2, hq => cases hq; exact ⟨fun n z => ⟨fun k h => (by cases h), kJ, j2, pJ, j3⟩, j1⟩
  | k + 3, hq => simp at hq
set_option maxHeartbeats 4000000 in
set_option maxRecDepth 100000 in
theorem whole_start {p : Program} {e : Env} {s : State} {m : MethodId} {below : List Frame} {meth : Method} {c : Code} (l : Launch) (hflags : l.flags = flags0) {b L : Nat} {xs : Nat → Int32} (hL : L ≤ 260) (C0 : lw_At p s m meth c b L xs) : W p l e room_1 s m #[Value.ref b] below meth c s.heap [] 0 0 (lw_Z below #[Value.ref b] s) (entryFrame m ([Value.ref b] : List Value).toArray 1) := by
  obtain ⟨hx, hb, hr, hml, hown, hts, hX, hbl, hlocks, hgv⟩ := id C0
  have hlt : l.stackTraces = false := by
    unfold Launch.stackTraces
    rw [hflags]
    decide +kernel
  have hg : ∀ w ∈ GW, w.before #[Value.ref b] s = true := fun w h => hts w (List.mem_filter.mp h).1
  have hts2 : ∀ w ∈ Cond.initialized "CompactformsLaw" :: GW, w.before #[Value.ref b] s = true := fun w h => by
    rcases List.mem_cons.mp h with q | q
    · rw [q]; exact hg _ w0
    · exact hg _ q
  obtain ⟨D, cI, cV, cJ, cD, hK⟩ := st_K hg (va_AO.of (hts _ m30))
  have hE0 := st_ev hts hgv
  obtain ⟨A, hAe⟩ : ∃ A : Nat → Prop, A = fun q => s.heap.size ≤ q := ⟨_, rfl⟩
  have hE : EV A s := by rw [hAe]; exact hE0
  have hA : ∀ q : Nat, s.heap.size ≤ q → A q := fun q h => by rw [hAe]; exact h
  have hAs : ∀ q : Nat, A q → s.heap.size ≤ q := fun q h => by rw [hAe] at h; exact h
  have hS : va_S A s.heap s.heap [] := va_S.rf
  have hP : va_P D vwCl ([] : va_W) s.heap := fun k q h => by simp at h
  have hD : va_D A ([] : va_W) := ⟨fun i j p q h => by simp at h, fun k q h => by simp at h⟩
  have hl := lv_entry ([.ref b]) (n := 1) (Nat.le_of_ble_eq_true rfl)
  rw [lg_entry_eq]
  generalize (lg_sl ([.ref b]) ++ List.replicate (1 - (lg_sl ([.ref b])).length) Slot.unset).toArray = ls at hl ⊢
  have hl : lv_has ls 1 [(0, .ref b)] := hl
  have hbA : ¬ A b := fun q => by rw [hAe] at q; exact absurd hbl (Nat.not_lt.mpr q)
  refine lv_aload_n hx hb dL_law_0 rfl (lv_at hl 0 rfl) ?_
  refine lv_iconst (v := 0) hx hb dL_law_1 (by decide) ?_
  refine k_SR (As := [.ref b, .int 0]) (rest := []) (n := 2) ⟨hx, hb, hml, hown, hts2⟩ (met_L_server (cI := cI) (cV := cV) (cJ := cJ) (cD := cD) l hlt b L xs 0 1 (server_true (a := 0) (by omega) (by omega))) w18 w19 w0 w20 ⟨by decide +kernel, by decide +kernel, by decide +kernel⟩ ⟨(Nat.le_of_ble_eq_true rfl), (Nat.le_of_ble_eq_true rfl)⟩ hK hE hP hD hS hA hX hbl hbA rfl hl.1 rfl (Nat.le_of_ble_eq_true rfl) dL_law_2 ⟨(Nat.le_of_ble_eq_true rfl), (Nat.le_of_ble_eq_true rfl)⟩ (fun H locs hP hD hS => ?_)
  refine W.eq (g2 := F0 m 5 ls [.int 1]) rfl ?_
  refine lv_if_eq (tgt := 32) hx hb dL_law_5 (by decide) (fun q => absurd q one_ne0) (fun _ => ?_)
  refine lv_aload_n hx hb dL_law_8 rfl (lv_at hl 0 rfl) ?_
  refine lv_sipush (v := 255) hx hb dL_law_9 (by decide) ?_
  refine k_SR (As := [.ref b, .int 255]) (rest := []) (n := 2) ⟨hx, hb, hml, hown, hts2⟩ (met_L_server (cI := cI) (cV := cV) (cJ := cJ) (cD := cD) l hlt b L xs 255 1 (server_true (a := 255) (by omega) (by omega))) w18 w19 w0 w20 ⟨by decide +kernel, by decide +kernel, by decide +kernel⟩ ⟨(Nat.le_of_ble_eq_true rfl), (Nat.le_of_ble_eq_true rfl)⟩ hK hE hP hD hS hA hX hbl hbA rfl hl.1 rfl (Nat.le_of_ble_eq_true rfl) dL_law_12 ⟨(Nat.le_of_ble_eq_true rfl), (Nat.le_of_ble_eq_true rfl)⟩ (fun H locs hP hD hS => ?_)
  refine W.eq (g2 := F0 m 15 ls [.int 1]) rfl ?_
  refine lv_if_eq (tgt := 32) hx hb dL_law_15 (by decide) (fun q => absurd q one_ne0) (fun _ => ?_)
  refine lv_aload_n hx hb dL_law_18 rfl (lv_at hl 0 rfl) ?_
  refine lv_sipush (v := 510) hx hb dL_law_19 (by decide) ?_
  refine k_SR (As := [.ref b, .int 510]) (rest := []) (n := 2) ⟨hx, hb, hml, hown, hts2⟩ (met_L_server (cI := cI) (cV := cV) (cJ := cJ) (cD := cD) l hlt b L xs 510 1 (server_true (a := 510) (by omega) (by omega))) w18 w19 w0 w20 ⟨by decide +kernel, by decide +kernel, by decide +kernel⟩ ⟨(Nat.le_of_ble_eq_true rfl), (Nat.le_of_ble_eq_true rfl)⟩ hK hE hP hD hS hA hX hbl hbA rfl hl.1 rfl (Nat.le_of_ble_eq_true rfl) dL_law_22 ⟨(Nat.le_of_ble_eq_true rfl), (Nat.le_of_ble_eq_true rfl)⟩ (fun H locs hP hD hS => ?_)
  refine W.eq (g2 := F0 m 25 ls [.int 1]) rfl ?_
  refine lv_if_eq (tgt := 32) hx hb dL_law_25 (by decide) (fun q => absurd q one_ne0) (fun _ => ?_)
  refine lv_iconst (v := 1) hx hb dL_law_28 (by decide) ?_
  refine lv_goto (tgt := 33) hx hb dL_law_29 (by decide) ?_
  refine W.widen (k := 600104) (n := 7301314) (Nat.le_of_ble_eq_true rfl) (Nat.le_of_ble_eq_true rfl) ?_
  refine va_forget (fun q h9 => hAs _ (hS.2.2 q h9)) ?_
  exact lw_ret (d0 := s.drawn) (Drawn.sameBut.refl s.drawn lw_cs) hx hb hr hlocks dL_law_33

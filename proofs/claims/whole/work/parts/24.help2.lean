/-! CompactformsLaw.tick(LCompactforms;I[J)I -/
def fL_tick (k : Nat) (x : POSt) (p1 : Int32) : Option (POSt × Int32) := (fX7_tick k (pF x) p1).bind (fun u1 => keep (pF_s x u1.1) (fun x6 => thr u1.2 (fun k3 => if k3 = 1 then some (x6, 1) else if k3 = 2 then some (x6, 2) else none) (fun r4 => chk (inb 0 1) (keep (pO_s x6 (vp_updL (pO x6) (0 : Int32).toNatClampNeg (r4).toInt64)) (fun x8 => some (x8, 0))))))
set_option maxHeartbeats 4000000 in
set_option maxRecDepth 100000 in
theorem met_L_tick {D : va_G} {cI cV cJ cD : ClassId} (l : Launch) (hlt : l.stackTraces = false) (k : Nat) (vf : Nat → Option Nat) (a : Nat → Nat) (hvf : vf k = some (a 6)) (x : POSt) (p1 : Int32) (res : POSt × Int32) (hf : fL_tick k x p1 = some res) : MXW l yL_tick cL_tick 4 (some .int) [(0, 9, 12, 15), (0, 9, 15, 17)] { frames := 8, cells := 2, slots := 12, locals := 143 } D (TY cI cV cJ cD) (W_FO cI cV cJ vf a x) (W_FO cI cV cJ vf a res.1) [.ref (a 0), .int p1, .ref (a 24)] (.inl (some (.int res.2))) := by
  intro sz
  refine vx_ofWH (cc := cL_tick) (maxL := 4) (ret := (some .int)) (hh := [(0, 9, 12, 15), (0, 9, 15, 17)]) (by decide +kernel) rfl ?_
  intro p e s m args below meth c s₁ B hml hv
  obtain ⟨rfl, hsz, hP, hK, hD0, hE⟩ := hv
  have hx := B.exec
  have hb := B.bytes
  have hr := B.returns
  have hts := atoms_spec (ws := .codeWith yL_tick cL_tick 4 (some .int) [(0, 9, 12, 15), (0, 9, 15, 17)] :: GW) B.pre
  have hg : ∀ w ∈ GW, w.before (([.ref (a 0), .int p1, .ref (a 24)] : List Value).toArray) s = true := fun w h => hts w (List.mem_cons_of_mem _ h)
  have hown : s.vm.findClass RL = some m.cls := findClass_of_methodNamed B.named
  have hlocks := B.notSynchronized
  have htab : c.exceptionTable.toList = [⟨0, 9, 12, 15⟩, ⟨0, 9, 15, 17⟩] := vx_table (x := yL_tick) B (hts _ List.mem_cons_self)
  subst hsz
  have hD := hD0.self (sz := s.heap.size)
  generalize hAe : va_A (W_FO cI cV cJ vf a x) s.heap.size = A at hD hE ⊢
  have hA : ∀ q : Nat, s.heap.size ≤ q → A q := fun q h => by rw [← hAe]; exact Or.inr h
  have hS : va_S A s.heap s.heap [] := va_S.rf
  have hl := lv_entry ([.ref (a 0), .int p1, .ref (a 24)]) (n := 4) (Nat.le_of_ble_eq_true rfl)
  rw [lg_entry_eq]
  generalize (lg_sl ([.ref (a 0), .int p1, .ref (a 24)]) ++ List.replicate (4 - (lg_sl ([.ref (a 0), .int p1, .ref (a 24)])).length) Slot.unset).toArray = ls at hl ⊢
  have hl : lv_has ls 4 [(0, .ref (a 0)), (1, .int p1), (2, .ref (a 24))] := hl
  have M0 : ∀ (H : Heap) (locs : List Loc) (ls : Array Slot), fL_tick k x p1 = some res → va_P D vwCl (W_FO cI cV cJ vf a x) H → va_D A (W_FO cI cV cJ vf a x) → va_S A s.heap H locs → lv_has ls 4 [(0, .ref (a 0)), (1, .int p1), (2, .ref (a 24))] → W p l e ({ frames := 8, cells := 2, slots := 12, locals := 143 } : Room) s m ([.ref (a 0), .int p1, .ref (a 24)] : List Value).toArray below meth c H locs 0 0 (vx_MQ below (QR D (TY cI cV cJ cD) (W_FO cI cV cJ vf a res.1) A (.inl (some (.int res.2)))) (XR D (TY cI cV cJ cD) (W_FO cI cV cJ vf a res.1) A (.inl (some (.int res.2)))) (([.ref (a 0), .int p1, .ref (a 24)] : List Value).toArray) s 2 12 A) (F0 m 0 ls []) := by
    intro H locs ls hf hP hD hS hl
    dsimp only [fL_tick] at hf
    refine lv_aload_n hx hb dL_tick_0 rfl (lv_at hl 2 rfl) ?_
    refine lv_iconst (v := 0) hx hb dL_tick_1 (by decide) ?_
    refine lv_aload_n hx hb dL_tick_2 rfl (lv_at hl 0 rfl) ?_
    refine lv_iload_n hx hb dL_tick_3 rfl (lv_at hl 1 rfl) ?_
    obtain ⟨u1, hc2, hf⟩ := bind_t hf
    try dsimp only at hf
    obtain ⟨x6, hx6⟩ : ∃ z, z = (pF_s x u1.1) := ⟨_, rfl⟩
    replace hf := keep_e hf x6 hx6
    refine k_VX (As := [.int p1]) (rest := [.int 0, .ref (a 24)]) (n := 1) ⟨hx, hb, hml, hown, hts⟩ (met_X7_tick l hlt k vf a hvf (pF x) p1 u1 hc2) w695 w696 w697 w1 w698 ⟨rfl, by decide +kernel, by decide +kernel, by decide +kernel⟩ ⟨Nat.le_of_ble_eq_true rfl, Nat.le_of_ble_eq_true rfl⟩ hK hE hP hD hS hA (isC := [0, 1, 2, 3, 4, 5, 6, 7, 8, 9, 10, 11, 12, 13, 14, 15, 16, 17, 18, 19, 20, 21, 22, 23]) (isR := [24]) (isB := [1, 2, 3, 4, 5, 6, 7, 8, 9, 10, 11, 12, 13, 14, 15, 16, 17, 18, 19, 20, 21, 22, 23, 24, 0]) (ws' := W_FO cI cV cJ vf a (pF_s x u1.1)) ⟨([24] : List Nat).filterMap (fun i : Nat => (W_FO cI cV cJ vf a x : va_W)[i]?), rfl, rfl, rfl, rfl, by decide, rfl, rfl⟩ 0 6 rfl rfl rfl rfl hl.1 rfl (Nat.le_of_ble_eq_true rfl) dL_tick_4 ⟨Nat.le_of_ble_eq_true rfl, Nat.le_of_ble_eq_true rfl⟩ (fun E ce q9 H locs h5 hP hD hS hce hcv hcl => ?_) (fun rv9 H locs h5 hP hD hS => ?_)
    · obtain ⟨k3, hq9, hE9⟩ := rsI_x h5
      replace hf := thr_x hf hq9
      by_cases hk9 : k3 = 1
      · subst hk9
        replace hf := if_t rfl hf
        have hP : va_P D vwCl (W_FO cI cV cJ vf a x6) H := by rw [hx6]; exact hP
        have hD : va_D A (W_FO cI cV cJ vf a x6) := by rw [hx6]; exact hD
        have hE9 : E = "java/lang/IllegalArgumentException" := hE9
        subst hE9
        refine vx_catch (own := RL) (name := "java/lang/IllegalArgumentException") hown [] ⟨0, 9, 12, 15⟩ [⟨0, 9, 15, 17⟩] htab (fun _ h => absurd h List.not_mem_nil) (by decide) (by decide) (hg _ w443) (va_Nw.use rfl (hE.1.2.2.2.2.1 _ (List.mem_of_getElem? (i := 1) rfl))) hce hcv hcl ?_
        refine W.eq (g2 := F0 m 12 ls [.ref q9]) rfl ?_
        refine lv_astore_n (lv' := [(3, .ref q9), (0, .ref (a 0)), (1, .int p1), (2, .ref (a 24))]) hx hb dL_tick_12 rfl hl (by decide) rfl (fun ls hl => ?_)
        refine lv_iconst (v := 1) hx hb dL_tick_13 (by decide) ?_
        obtain rfl := Option.some.inj hf
        refine vx_ret ?_
        exact W.iret (v := 1) hx hb hr (fun t ht hW => ⟨_, rfl, ⟨rfl, by rw [ht]; exact hP, va_K.moved hW.alike hK, hD, hS.F ht⟩⟩) hS.2.2 dL_tick_14 hlocks
      replace hf := if_f hk9 hf
      by_cases hk9 : k3 = 2
      · subst hk9
        replace hf := if_t rfl hf
        have hP : va_P D vwCl (W_FO cI cV cJ vf a x6) H := by rw [hx6]; exact hP
        have hD : va_D A (W_FO cI cV cJ vf a x6) := by rw [hx6]; exact hD
        have hE9 : E = "java/lang/IllegalStateException" := hE9
        subst hE9
        refine vx_catch (own := RL) (name := "java/lang/IllegalStateException") hown [⟨0, 9, 12, 15⟩] ⟨0, 9, 15, 17⟩ [] htab (List.forall_mem_cons.mpr ⟨Or.inr ⟨by decide, "java/lang/IllegalArgumentException", hg _ w443, hE.1.2.2.2.2.2.1 _ (List.mem_of_getElem? (i := 2) rfl) _ (List.mem_of_getElem? (i := 1) rfl) (by decide +kernel)⟩, fun _ h => absurd h List.not_mem_nil⟩) (by decide) (by decide) (hg _ w444) (va_Nw.use rfl (hE.1.2.2.2.2.1 _ (List.mem_of_getElem? (i := 2) rfl))) hce hcv hcl ?_
        refine W.eq (g2 := F0 m 15 ls [.ref q9]) rfl ?_
        refine lv_astore_n (lv' := [(3, .ref q9), (0, .ref (a 0)), (1, .int p1), (2, .ref (a 24))]) hx hb dL_tick_15 rfl hl (by decide) rfl (fun ls hl => ?_)
        refine lv_iconst (v := 2) hx hb dL_tick_16 (by decide) ?_
        obtain rfl := Option.some.inj hf
        refine vx_ret ?_
        exact W.iret (v := 2) hx hb hr (fun t ht hW => ⟨_, rfl, ⟨rfl, by rw [ht]; exact hP, va_K.moved hW.alike hK, hD, hS.F ht⟩⟩) hS.2.2 dL_tick_17 hlocks
      replace hf := if_f hk9 hf
      cases hf
    obtain ⟨r4, hq9, rfl⟩ := rsI_v h5
    replace hf := thr_v hf hq9
    have hP : va_P D vwCl (W_FO cI cV cJ vf a x6) H := by rw [hx6]; exact hP
    have hD : va_D A (W_FO cI cV cJ vf a x6) := by rw [hx6]; exact hD
    refine W.eq (g2 := F0 m 7 ls [.int r4, .int 0, .ref (a 24)]) rfl ?_
    refine lv_i2l (v := (r4).toInt64) hx hb dL_tick_7 rfl ?_
    obtain ⟨hi7, hf⟩ := chk_t hf
    refine va_last hx hb hK hP hD hS 24 2 rfl rfl (inb_in hi7) dL_tick_8 (fun H locs hP hD hS => ?_)
    obtain ⟨x8, hx8⟩ : ∃ z, z = (pO_s x6 (vp_updL (pO x6) (0 : Int32).toNatClampNeg (r4).toInt64)) := ⟨_, rfl⟩
    replace hf := keep_e hf x8 hx8
    have hP : va_P D vwCl (W_FO cI cV cJ vf a x8) H := by rw [hx8]; exact hP
    have hD : va_D A (W_FO cI cV cJ vf a x8) := by rw [hx8]; exact hD
    refine lv_goto (tgt := 18) hx hb dL_tick_9 (by decide) ?_
    refine lv_iconst (v := 0) hx hb dL_tick_18 (by decide) ?_
    obtain rfl := Option.some.inj hf
    refine vx_ret ?_
    exact W.iret (v := 0) hx hb hr (fun t ht hW => ⟨_, rfl, ⟨rfl, by rw [ht]; exact hP, va_K.moved hW.alike hK, hD, hS.F ht⟩⟩) hS.2.2 dL_tick_19 hlocks
  exact M0 s.heap [] ls hf hP hD hS hl
/-! CompactformsLaw.writeOn(LCompactforms;I[J)I -/
def fL_writeOn (k : Nat) (x : POSt) (p1 : Int32) : Option (POSt × Nat × Int32) := (fX7_writeOn k (pF x) p1).bind (fun u1 => keep (pF_s x u1.1) (fun x6 => thr u1.2.2 (fun k3 => if k3 = 1 then some (x6, u1.2.1, 1) else if k3 = 2 then some (x6, u1.2.1, 2) else none) (fun r4 => chk (inb 0 1) (keep (pO_s x6 (vp_updL (pO x6) (0 : Int32).toNatClampNeg (r4).toInt64)) (fun x8 => some (x8, u1.2.1, 0))))))
set_option maxHeartbeats 4000000 in
set_option maxRecDepth 100000 in
theorem met_L_writeOn {D : va_G} {cI cV cJ cD : ClassId} (l : Launch) (hlt : l.stackTraces = false) (k : Nat) (vf : Nat → Option Nat) (a : Nat → Nat) (hvf : vf k = some (a 6)) (x : POSt) (p1 : Int32) (res : POSt × Nat × Int32) (hf : fL_writeOn k x p1 = some res) : MXW l yL_writeOn cL_writeOn 4 (some .int) [(0, 9, 12, 15), (0, 9, 15, 17)] { frames := 8, cells := 2, slots := 12, locals := 144 } D (TY cI cV cJ cD) (W_FxO cI cV cJ vf a 2 4 x) (W_FxO cI cV cJ vf a res.2.1 (6 - res.2.1) res.1) [.ref (a 0), .int p1, .ref (a 24)] (.inl (some (.int res.2.2))) := by
  intro sz
  refine vx_ofWH (cc := cL_writeOn) (maxL := 4) (ret := (some .int)) (hh := [(0, 9, 12, 15), (0, 9, 15, 17)]) (by decide +kernel) rfl ?_
  intro p e s m args below meth c s₁ B hml hv
  obtain ⟨rfl, hsz, hP, hK, hD0, hE⟩ := hv
  have hx := B.exec
  have hb := B.bytes
  have hr := B.returns
  have hts := atoms_spec (ws := .codeWith yL_writeOn cL_writeOn 4 (some .int) [(0, 9, 12, 15), (0, 9, 15, 17)] :: GW) B.pre
  have hg : ∀ w ∈ GW, w.before (([.ref (a 0), .int p1, .ref (a 24)] : List Value).toArray) s = true := fun w h => hts w (List.mem_cons_of_mem _ h)
  have hown : s.vm.findClass RL = some m.cls := findClass_of_methodNamed B.named
  have hlocks := B.notSynchronized
  have htab : c.exceptionTable.toList = [⟨0, 9, 12, 15⟩, ⟨0, 9, 15, 17⟩] := vx_table (x := yL_writeOn) B (hts _ List.mem_cons_self)
  subst hsz
  have hD := hD0.self (sz := s.heap.size)
  generalize hAe : va_A (W_FxO cI cV cJ vf a 2 4 x) s.heap.size = A at hD hE ⊢
  have hA : ∀ q : Nat, s.heap.size ≤ q → A q := fun q h => by rw [← hAe]; exact Or.inr h
  have hS : va_S A s.heap s.heap [] := va_S.rf
  have hl := lv_entry ([.ref (a 0), .int p1, .ref (a 24)]) (n := 4) (Nat.le_of_ble_eq_true rfl)
  rw [lg_entry_eq]
  generalize (lg_sl ([.ref (a 0), .int p1, .ref (a 24)]) ++ List.replicate (4 - (lg_sl ([.ref (a 0), .int p1, .ref (a 24)])).length) Slot.unset).toArray = ls at hl ⊢
  have hl : lv_has ls 4 [(0, .ref (a 0)), (1, .int p1), (2, .ref (a 24))] := hl
  have M0 : ∀ (H : Heap) (locs : List Loc) (ls : Array Slot), fL_writeOn k x p1 = some res → va_P D vwCl (W_FxO cI cV cJ vf a 2 4 x) H → va_D A (W_FxO cI cV cJ vf a 2 4 x) → va_S A s.heap H locs → lv_has ls 4 [(0, .ref (a 0)), (1, .int p1), (2, .ref (a 24))] → W p l e ({ frames := 8, cells := 2, slots := 12, locals := 144 } : Room) s m ([.ref (a 0), .int p1, .ref (a 24)] : List Value).toArray below meth c H locs 0 0 (vx_MQ below (QR D (TY cI cV cJ cD) (W_FxO cI cV cJ vf a res.2.1 (6 - res.2.1) res.1) A (.inl (some (.int res.2.2)))) (XR D (TY cI cV cJ cD) (W_FxO cI cV cJ vf a res.2.1 (6 - res.2.1) res.1) A (.inl (some (.int res.2.2)))) (([.ref (a 0), .int p1, .ref (a 24)] : List Value).toArray) s 2 12 A) (F0 m 0 ls []) := by
    intro H locs ls hf hP hD hS hl
    dsimp only [fL_writeOn] at hf
    refine lv_aload_n hx hb dL_writeOn_0 rfl (lv_at hl 2 rfl) ?_
    refine lv_iconst (v := 0) hx hb dL_writeOn_1 (by decide) ?_
    refine lv_aload_n hx hb dL_writeOn_2 rfl (lv_at hl 0 rfl) ?_
    refine lv_iload_n hx hb dL_writeOn_3 rfl (lv_at hl 1 rfl) ?_
    obtain ⟨u1, hc2, hf⟩ := bind_t hf
    try dsimp only at hf
    obtain ⟨x6, hx6⟩ : ∃ z, z = (pF_s x u1.1) := ⟨_, rfl⟩
    replace hf := keep_e hf x6 hx6
    refine k_VX (As := [.int p1]) (rest := [.int 0, .ref (a 24)]) (n := 1) ⟨hx, hb, hml, hown, hts⟩ (met_X7_writeOn l hlt k vf a hvf (pF x) p1 u1 hc2) w711 w712 w713 w1 w714 ⟨rfl, by decide +kernel, by decide +kernel, by decide +kernel⟩ ⟨Nat.le_of_ble_eq_true rfl, Nat.le_of_ble_eq_true rfl⟩ hK hE hP hD hS hA (isC := [0, 1, 2, 3, 4, 5, 6, 7, 8, 9, 10, 11, 12, 13, 14, 15, 16, 17, 18, 19, 20, 21, 22, 23]) (isR := [24]) (isB := [1, 2, 3, 4, 5, 6, 7, 8, 9, 10, 11, 12, 13, 14, 15, 16, 17, 18, 19, 20, 21, 22, 23, 24, 0]) (ws' := W_FxO cI cV cJ vf a u1.2.1 (6 - u1.2.1) (pF_s x u1.1)) ⟨([24] : List Nat).filterMap (fun i : Nat => (W_FxO cI cV cJ vf a 2 4 x : va_W)[i]?), rfl, rfl, rfl, rfl, by decide, rfl, rfl⟩ 0 6 rfl rfl rfl rfl hl.1 rfl (Nat.le_of_ble_eq_true rfl) dL_writeOn_4 ⟨Nat.le_of_ble_eq_true rfl, Nat.le_of_ble_eq_true rfl⟩ (fun E ce q9 H locs h5 hP hD hS hce hcv hcl => ?_) (fun rv9 H locs h5 hP hD hS => ?_)
    · obtain ⟨k3, hq9, hE9⟩ := rsI_x h5
      replace hf := thr_x hf hq9
      by_cases hk9 : k3 = 1
      · subst hk9
        replace hf := if_t rfl hf
        have hP : va_P D vwCl (W_FxO cI cV cJ vf a u1.2.1 (6 - u1.2.1) x6) H := by rw [hx6]; exact hP
        have hD : va_D A (W_FxO cI cV cJ vf a u1.2.1 (6 - u1.2.1) x6) := by rw [hx6]; exact hD
        have hE9 : E = "java/lang/IllegalArgumentException" := hE9
        subst hE9
        refine vx_catch (own := RL) (name := "java/lang/IllegalArgumentException") hown [] ⟨0, 9, 12, 15⟩ [⟨0, 9, 15, 17⟩] htab (fun _ h => absurd h List.not_mem_nil) (by decide) (by decide) (hg _ w443) (va_Nw.use rfl (hE.1.2.2.2.2.1 _ (List.mem_of_getElem? (i := 1) rfl))) hce hcv hcl ?_
        refine W.eq (g2 := F0 m 12 ls [.ref q9]) rfl ?_
        refine lv_astore_n (lv' := [(3, .ref q9), (0, .ref (a 0)), (1, .int p1), (2, .ref (a 24))]) hx hb dL_writeOn_12 rfl hl (by decide) rfl (fun ls hl => ?_)
        refine lv_iconst (v := 1) hx hb dL_writeOn_13 (by decide) ?_
        obtain rfl := Option.some.inj hf
        refine vx_ret ?_
        exact W.iret (v := 1) hx hb hr (fun t ht hW => ⟨_, rfl, ⟨rfl, by rw [ht]; exact hP, va_K.moved hW.alike hK, hD, hS.F ht⟩⟩) hS.2.2 dL_writeOn_14 hlocks
      replace hf := if_f hk9 hf
      by_cases hk9 : k3 = 2
      · subst hk9
        replace hf := if_t rfl hf
        have hP : va_P D vwCl (W_FxO cI cV cJ vf a u1.2.1 (6 - u1.2.1) x6) H := by rw [hx6]; exact hP
        have hD : va_D A (W_FxO cI cV cJ vf a u1.2.1 (6 - u1.2.1) x6) := by rw [hx6]; exact hD
        have hE9 : E = "java/lang/IllegalStateException" := hE9
        subst hE9
        refine vx_catch (own := RL) (name := "java/lang/IllegalStateException") hown [⟨0, 9, 12, 15⟩] ⟨0, 9, 15, 17⟩ [] htab (List.forall_mem_cons.mpr ⟨Or.inr ⟨by decide, "java/lang/IllegalArgumentException", hg _ w443, hE.1.2.2.2.2.2.1 _ (List.mem_of_getElem? (i := 2) rfl) _ (List.mem_of_getElem? (i := 1) rfl) (by decide +kernel)⟩, fun _ h => absurd h List.not_mem_nil⟩) (by decide) (by decide) (hg _ w444) (va_Nw.use rfl (hE.1.2.2.2.2.1 _ (List.mem_of_getElem? (i := 2) rfl))) hce hcv hcl ?_
        refine W.eq (g2 := F0 m 15 ls [.ref q9]) rfl ?_
        refine lv_astore_n (lv' := [(3, .ref q9), (0, .ref (a 0)), (1, .int p1), (2, .ref (a 24))]) hx hb dL_writeOn_15 rfl hl (by decide) rfl (fun ls hl => ?_)
        refine lv_iconst (v := 2) hx hb dL_writeOn_16 (by decide) ?_
        obtain rfl := Option.some.inj hf
        refine vx_ret ?_
        exact W.iret (v := 2) hx hb hr (fun t ht hW => ⟨_, rfl, ⟨rfl, by rw [ht]; exact hP, va_K.moved hW.alike hK, hD, hS.F ht⟩⟩) hS.2.2 dL_writeOn_17 hlocks
      replace hf := if_f hk9 hf
      cases hf
    obtain ⟨r4, hq9, rfl⟩ := rsI_v h5
    replace hf := thr_v hf hq9
    have hP : va_P D vwCl (W_FxO cI cV cJ vf a u1.2.1 (6 - u1.2.1) x6) H := by rw [hx6]; exact hP
    have hD : va_D A (W_FxO cI cV cJ vf a u1.2.1 (6 - u1.2.1) x6) := by rw [hx6]; exact hD
    refine W.eq (g2 := F0 m 7 ls [.int r4, .int 0, .ref (a 24)]) rfl ?_
    refine lv_i2l (v := (r4).toInt64) hx hb dL_writeOn_7 rfl ?_
    obtain ⟨hi7, hf⟩ := chk_t hf
    refine va_last hx hb hK hP hD hS 24 2 rfl rfl (inb_in hi7) dL_writeOn_8 (fun H locs hP hD hS => ?_)
    obtain ⟨x8, hx8⟩ : ∃ z, z = (pO_s x6 (vp_updL (pO x6) (0 : Int32).toNatClampNeg (r4).toInt64)) := ⟨_, rfl⟩
    replace hf := keep_e hf x8 hx8
    have hP : va_P D vwCl (W_FxO cI cV cJ vf a u1.2.1 (6 - u1.2.1) x8) H := by rw [hx8]; exact hP
    have hD : va_D A (W_FxO cI cV cJ vf a u1.2.1 (6 - u1.2.1) x8) := by rw [hx8]; exact hD
    refine lv_goto (tgt := 18) hx hb dL_writeOn_9 (by decide) ?_
    refine lv_iconst (v := 0) hx hb dL_writeOn_18 (by decide) ?_
    obtain rfl := Option.some.inj hf
    refine vx_ret ?_
    exact W.iret (v := 0) hx hb hr (fun t ht hW => ⟨_, rfl, ⟨rfl, by rw [ht]; exact hP, va_K.moved hW.alike hK, hD, hS.F ht⟩⟩) hS.2.2 dL_writeOn_19 hlocks
  exact M0 s.heap [] ls hf hP hD hS hl
/-! CompactformsLaw.typeOf(LCompactforms;I[J)I -/
def fL_typeOf (k : Nat) (x : POSt) (p1 : Int32) : Option (POSt × Int32) := (fX7_typeOf k (pF x) p1).bind (fun u1 => thr u1 (fun k3 => if k3 = 0 then some (x, 1) else none) (fun r4 => chk (inb 0 1) (keep (pO_s x (vp_updL (pO x) (0 : Int32).toNatClampNeg (r4).toInt64)) (fun x7 => some (x7, 0)))))
set_option maxHeartbeats 4000000 in
set_option maxRecDepth 100000 in
theorem met_L_typeOf {D : va_G} {cI cV cJ cD : ClassId} (l : Launch) (hlt : l.stackTraces = false) (k : Nat) (vf : Nat → Option Nat) (a : Nat → Nat) (hvf : vf k = some (a 6)) (x : POSt) (p1 : Int32) (res : POSt × Int32) (hf : fL_typeOf k x p1 = some res) : MXW l yL_typeOf cL_typeOf 4 (some .int) [(0, 9, 12, 13)] { frames := 8, cells := 1, slots := 6, locals := 141 } D (TY cI cV cJ cD) (W_FO cI cV cJ vf a x) (W_FO cI cV cJ vf a res.1) [.ref (a 0), .int p1, .ref (a 24)] (.inl (some (.int res.2))) := by
  intro sz
  refine vx_ofWH (cc := cL_typeOf) (maxL := 4) (ret := (some .int)) (hh := [(0, 9, 12, 13)]) (by decide +kernel) rfl ?_
  intro p e s m args below meth c s₁ B hml hv
  obtain ⟨rfl, hsz, hP, hK, hD0, hE⟩ := hv
  have hx := B.exec
  have hb := B.bytes
  have hr := B.returns
  have hts := atoms_spec (ws := .codeWith yL_typeOf cL_typeOf 4 (some .int) [(0, 9, 12, 13)] :: GW) B.pre
  have hg : ∀ w ∈ GW, w.before (([.ref (a 0), .int p1, .ref (a 24)] : List Value).toArray) s = true := fun w h => hts w (List.mem_cons_of_mem _ h)
  have hown : s.vm.findClass RL = some m.cls := findClass_of_methodNamed B.named
  have hlocks := B.notSynchronized
  have htab : c.exceptionTable.toList = [⟨0, 9, 12, 13⟩] := vx_table (x := yL_typeOf) B (hts _ List.mem_cons_self)
  subst hsz
  have hD := hD0.self (sz := s.heap.size)
  generalize hAe : va_A (W_FO cI cV cJ vf a x) s.heap.size = A at hD hE ⊢
  have hA : ∀ q : Nat, s.heap.size ≤ q → A q := fun q h => by rw [← hAe]; exact Or.inr h
  have hS : va_S A s.heap s.heap [] := va_S.rf
  have hl := lv_entry ([.ref (a 0), .int p1, .ref (a 24)]) (n := 4) (Nat.le_of_ble_eq_true rfl)
  rw [lg_entry_eq]
  generalize (lg_sl ([.ref (a 0), .int p1, .ref (a 24)]) ++ List.replicate (4 - (lg_sl ([.ref (a 0), .int p1, .ref (a 24)])).length) Slot.unset).toArray = ls at hl ⊢
  have hl : lv_has ls 4 [(0, .ref (a 0)), (1, .int p1), (2, .ref (a 24))] := hl
  have M0 : ∀ (H : Heap) (locs : List Loc) (ls : Array Slot), fL_typeOf k x p1 = some res → va_P D vwCl (W_FO cI cV cJ vf a x) H → va_D A (W_FO cI cV cJ vf a x) → va_S A s.heap H locs → lv_has ls 4 [(0, .ref (a 0)), (1, .int p1), (2, .ref (a 24))] → W p l e ({ frames := 8, cells := 1, slots := 6, locals := 141 } : Room) s m ([.ref (a 0), .int p1, .ref (a 24)] : List Value).toArray below meth c H locs 0 0 (vx_MQ below (QR D (TY cI cV cJ cD) (W_FO cI cV cJ vf a res.1) A (.inl (some (.int res.2)))) (XR D (TY cI cV cJ cD) (W_FO cI cV cJ vf a res.1) A (.inl (some (.int res.2)))) (([.ref (a 0), .int p1, .ref (a 24)] : List Value).toArray) s 1 6 A) (F0 m 0 ls []) := by
    intro H locs ls hf hP hD hS hl
    dsimp only [fL_typeOf] at hf
    refine lv_aload_n hx hb dL_typeOf_0 rfl (lv_at hl 2 rfl) ?_
    refine lv_iconst (v := 0) hx hb dL_typeOf_1 (by decide) ?_
    refine lv_aload_n hx hb dL_typeOf_2 rfl (lv_at hl 0 rfl) ?_
    refine lv_iload_n hx hb dL_typeOf_3 rfl (lv_at hl 1 rfl) ?_
    obtain ⟨u1, hc2, hf⟩ := bind_t hf
    refine k_VX (As := [.int p1]) (rest := [.int 0, .ref (a 24)]) (n := 1) ⟨hx, hb, hml, hown, hts⟩ (met_X7_typeOf l hlt k vf a hvf (pF x) p1 u1 hc2) w719 w720 w721 w1 w722 ⟨rfl, by decide +kernel, by decide +kernel, by decide +kernel⟩ ⟨Nat.le_of_ble_eq_true rfl, Nat.le_of_ble_eq_true rfl⟩ hK hE hP hD hS hA (isC := [0, 1, 2, 3, 4, 5, 6, 7, 8, 9, 10, 11, 12, 13, 14, 15, 16, 17, 18, 19, 20, 21, 22, 23]) (isR := [24]) (isB := [1, 2, 3, 4, 5, 6, 7, 8, 9, 10, 11, 12, 13, 14, 15, 16, 17, 18, 19, 20, 21, 22, 23, 24, 0]) (ws' := W_FO cI cV cJ vf a x) ⟨([24] : List Nat).filterMap (fun i : Nat => (W_FO cI cV cJ vf a x : va_W)[i]?), rfl, rfl, rfl, rfl, by decide, rfl, rfl⟩ 0 6 rfl rfl rfl rfl hl.1 rfl (Nat.le_of_ble_eq_true rfl) dL_typeOf_4 ⟨Nat.le_of_ble_eq_true rfl, Nat.le_of_ble_eq_true rfl⟩ (fun E ce q9 H locs h5 hP hD hS hce hcv hcl => ?_) (fun rv9 H locs h5 hP hD hS => ?_)
    · obtain ⟨k3, hq9, hE9⟩ := rsI_x h5
      replace hf := thr_x hf hq9
      by_cases hk9 : k3 = 0
      · subst hk9
        replace hf := if_t rfl hf
        have hE9 : E = "java/lang/IndexOutOfBoundsException" := hE9
        subst hE9
        refine vx_catch (own := RL) (name := "java/lang/IndexOutOfBoundsException") hown [] ⟨0, 9, 12, 13⟩ [] htab (fun _ h => absurd h List.not_mem_nil) (by decide) (by decide) (hg _ w442) (va_Nw.use rfl (hE.1.2.2.2.2.1 _ (List.mem_of_getElem? (i := 0) rfl))) hce hcv hcl ?_
        refine W.eq (g2 := F0 m 12 ls [.ref q9]) rfl ?_
        refine lv_astore_n (lv' := [(3, .ref q9), (0, .ref (a 0)), (1, .int p1), (2, .ref (a 24))]) hx hb dL_typeOf_12 rfl hl (by decide) rfl (fun ls hl => ?_)
        refine lv_iconst (v := 1) hx hb dL_typeOf_13 (by decide) ?_
        obtain rfl := Option.some.inj hf
        refine vx_ret ?_
        exact W.iret (v := 1) hx hb hr (fun t ht hW => ⟨_, rfl, ⟨rfl, by rw [ht]; exact hP, va_K.moved hW.alike hK, hD, hS.F ht⟩⟩) hS.2.2 dL_typeOf_14 hlocks
      replace hf := if_f hk9 hf
      cases hf
    obtain ⟨r4, hq9, rfl⟩ := rsI_v h5
    replace hf := thr_v hf hq9
    refine W.eq (g2 := F0 m 7 ls [.int r4, .int 0, .ref (a 24)]) rfl ?_
    refine lv_i2l (v := (r4).toInt64) hx hb dL_typeOf_7 rfl ?_
    obtain ⟨hi6, hf⟩ := chk_t hf
    refine va_last hx hb hK hP hD hS 24 2 rfl rfl (inb_in hi6) dL_typeOf_8 (fun H locs hP hD hS => ?_)
    obtain ⟨x7, hx7⟩ : ∃ z, z = (pO_s x (vp_updL (pO x) (0 : Int32).toNatClampNeg (r4).toInt64)) := ⟨_, rfl⟩
    replace hf := keep_e hf x7 hx7
    have hP : va_P D vwCl (W_FO cI cV cJ vf a x7) H := by rw [hx7]; exact hP
    have hD : va_D A (W_FO cI cV cJ vf a x7) := by rw [hx7]; exact hD
    refine lv_goto (tgt := 15) hx hb dL_typeOf_9 (by decide) ?_
    refine lv_iconst (v := 0) hx hb dL_typeOf_15 (by decide) ?_
    obtain rfl := Option.some.inj hf
    refine vx_ret ?_
    exact W.iret (v := 0) hx hb hr (fun t ht hW => ⟨_, rfl, ⟨rfl, by rw [ht]; exact hP, va_K.moved hW.alike hK, hD, hS.F ht⟩⟩) hS.2.2 dL_typeOf_16 hlocks
  exact M0 s.heap [] ls hf hP hD hS hl
/-! CompactformsLaw.formOf(LCompactforms;I[J)I -/
def fL_formOf (k : Nat) (x : POSt) (p1 : Int32) : Option (POSt × Int32) := (fX7_formOf k (pF x) p1).bind (fun u1 => thr u1 (fun k3 => if k3 = 0 then some (x, 1) else none) (fun r4 => chk (inb 0 1) (keep (pO_s x (vp_updL (pO x) (0 : Int32).toNatClampNeg (r4).toInt64)) (fun x7 => some (x7, 0)))))
set_option maxHeartbeats 4000000 in
set_option maxRecDepth 100000 in
theorem met_L_formOf {D : va_G} {cI cV cJ cD : ClassId} (l : Launch) (hlt : l.stackTraces = false) (k : Nat) (vf : Nat → Option Nat) (a : Nat → Nat) (hvf : vf k = some (a 6)) (x : POSt) (p1 : Int32) (res : POSt × Int32) (hf : fL_formOf k x p1 = some res) : MXW l yL_formOf cL_formOf 4 (some .int) [(0, 9, 12, 13)] { frames := 8, cells := 1, slots := 6, locals := 141 } D (TY cI cV cJ cD) (W_FO cI cV cJ vf a x) (W_FO cI cV cJ vf a res.1) [.ref (a 0), .int p1, .ref (a 24)] (.inl (some (.int res.2))) := by
  intro sz
  refine vx_ofWH (cc := cL_formOf) (maxL := 4) (ret := (some .int)) (hh := [(0, 9, 12, 13)]) (by decide +kernel) rfl ?_
  intro p e s m args below meth c s₁ B hml hv
  obtain ⟨rfl, hsz, hP, hK, hD0, hE⟩ := hv
  have hx := B.exec
  have hb := B.bytes
  have hr := B.returns
  have hts := atoms_spec (ws := .codeWith yL_formOf cL_formOf 4 (some .int) [(0, 9, 12, 13)] :: GW) B.pre
  have hg : ∀ w ∈ GW, w.before (([.ref (a 0), .int p1, .ref (a 24)] : List Value).toArray) s = true := fun w h => hts w (List.mem_cons_of_mem _ h)
  have hown : s.vm.findClass RL = some m.cls := findClass_of_methodNamed B.named
  have hlocks := B.notSynchronized
  have htab : c.exceptionTable.toList = [⟨0, 9, 12, 13⟩] := vx_table (x := yL_formOf) B (hts _ List.mem_cons_self)
  subst hsz
  have hD := hD0.self (sz := s.heap.size)
  generalize hAe : va_A (W_FO cI cV cJ vf a x) s.heap.size = A at hD hE ⊢
  have hA : ∀ q : Nat, s.heap.size ≤ q → A q := fun q h => by rw [← hAe]; exact Or.inr h
  have hS : va_S A s.heap s.heap [] := va_S.rf
  have hl := lv_entry ([.ref (a 0), .int p1, .ref (a 24)]) (n := 4) (Nat.le_of_ble_eq_true rfl)
  rw [lg_entry_eq]
  generalize (lg_sl ([.ref (a 0), .int p1, .ref (a 24)]) ++ List.replicate (4 - (lg_sl ([.ref (a 0), .int p1, .ref (a 24)])).length) Slot.unset).toArray = ls at hl ⊢
  have hl : lv_has ls 4 [(0, .ref (a 0)), (1, .int p1), (2, .ref (a 24))] := hl
  have M0 : ∀ (H : Heap) (locs : List Loc) (ls : Array Slot), fL_formOf k x p1 = some res → va_P D vwCl (W_FO cI cV cJ vf a x) H → va_D A (W_FO cI cV cJ vf a x) → va_S A s.heap H locs → lv_has ls 4 [(0, .ref (a 0)), (1, .int p1), (2, .ref (a 24))] → W p l e ({ frames := 8, cells := 1, slots := 6, locals := 141 } : Room) s m ([.ref (a 0), .int p1, .ref (a 24)] : List Value).toArray below meth c H locs 0 0 (vx_MQ below (QR D (TY cI cV cJ cD) (W_FO cI cV cJ vf a res.1) A (.inl (some (.int res.2)))) (XR D (TY cI cV cJ cD) (W_FO cI cV cJ vf a res.1) A (.inl (some (.int res.2)))) (([.ref (a 0), .int p1, .ref (a 24)] : List Value).toArray) s 1 6 A) (F0 m 0 ls []) := by
    intro H locs ls hf hP hD hS hl
    dsimp only [fL_formOf] at hf
    refine lv_aload_n hx hb dL_formOf_0 rfl (lv_at hl 2 rfl) ?_
    refine lv_iconst (v := 0) hx hb dL_formOf_1 (by decide) ?_
    refine lv_aload_n hx hb dL_formOf_2 rfl (lv_at hl 0 rfl) ?_
    refine lv_iload_n hx hb dL_formOf_3 rfl (lv_at hl 1 rfl) ?_
    obtain ⟨u1, hc2, hf⟩ := bind_t hf
    refine k_VX (As := [.int p1]) (rest := [.int 0, .ref (a 24)]) (n := 1) ⟨hx, hb, hml, hown, hts⟩ (met_X7_formOf l hlt k vf a hvf (pF x) p1 u1 hc2) w726 w727 w728 w1 w729 ⟨rfl, by decide +kernel, by decide +kernel, by decide +kernel⟩ ⟨Nat.le_of_ble_eq_true rfl, Nat.le_of_ble_eq_true rfl⟩ hK hE hP hD hS hA (isC := [0, 1, 2, 3, 4, 5, 6, 7, 8, 9, 10, 11, 12, 13, 14, 15, 16, 17, 18, 19, 20, 21, 22, 23]) (isR := [24]) (isB := [1, 2, 3, 4, 5, 6, 7, 8, 9, 10, 11, 12, 13, 14, 15, 16, 17, 18, 19, 20, 21, 22, 23, 24, 0]) (ws' := W_FO cI cV cJ vf a x) ⟨([24] : List Nat).filterMap (fun i : Nat => (W_FO cI cV cJ vf a x : va_W)[i]?), rfl, rfl, rfl, rfl, by decide, rfl, rfl⟩ 0 6 rfl rfl rfl rfl hl.1 rfl (Nat.le_of_ble_eq_true rfl) dL_formOf_4 ⟨Nat.le_of_ble_eq_true rfl, Nat.le_of_ble_eq_true rfl⟩ (fun E ce q9 H locs h5 hP hD hS hce hcv hcl => ?_) (fun rv9 H locs h5 hP hD hS => ?_)
    · obtain ⟨k3, hq9, hE9⟩ := rsI_x h5
      replace hf := thr_x hf hq9
      by_cases hk9 : k3 = 0
      · subst hk9
        replace hf := if_t rfl hf
        have hE9 : E = "java/lang/IndexOutOfBoundsException" := hE9
        subst hE9
        refine vx_catch (own := RL) (name := "java/lang/IndexOutOfBoundsException") hown [] ⟨0, 9, 12, 13⟩ [] htab (fun _ h => absurd h List.not_mem_nil) (by decide) (by decide) (hg _ w442) (va_Nw.use rfl (hE.1.2.2.2.2.1 _ (List.mem_of_getElem? (i := 0) rfl))) hce hcv hcl ?_
        refine W.eq (g2 := F0 m 12 ls [.ref q9]) rfl ?_
        refine lv_astore_n (lv' := [(3, .ref q9), (0, .ref (a 0)), (1, .int p1), (2, .ref (a 24))]) hx hb dL_formOf_12 rfl hl (by decide) rfl (fun ls hl => ?_)
        refine lv_iconst (v := 1) hx hb dL_formOf_13 (by decide) ?_
        obtain rfl := Option.some.inj hf
        refine vx_ret ?_
        exact W.iret (v := 1) hx hb hr (fun t ht hW => ⟨_, rfl, ⟨rfl, by rw [ht]; exact hP, va_K.moved hW.alike hK, hD, hS.F ht⟩⟩) hS.2.2 dL_formOf_14 hlocks
      replace hf := if_f hk9 hf
      cases hf
    obtain ⟨r4, hq9, rfl⟩ := rsI_v h5
    replace hf := thr_v hf hq9
    refine W.eq (g2 := F0 m 7 ls [.int r4, .int 0, .ref (a 24)]) rfl ?_
    refine lv_i2l (v := (r4).toInt64) hx hb dL_formOf_7 rfl ?_
    obtain ⟨hi6, hf⟩ := chk_t hf
    refine va_last hx hb hK hP hD hS 24 2 rfl rfl (inb_in hi6) dL_formOf_8 (fun H locs hP hD hS => ?_)
    obtain ⟨x7, hx7⟩ : ∃ z, z = (pO_s x (vp_updL (pO x) (0 : Int32).toNatClampNeg (r4).toInt64)) := ⟨_, rfl⟩
    replace hf := keep_e hf x7 hx7
    have hP : va_P D vwCl (W_FO cI cV cJ vf a x7) H := by rw [hx7]; exact hP
    have hD : va_D A (W_FO cI cV cJ vf a x7) := by rw [hx7]; exact hD
    refine lv_goto (tgt := 15) hx hb dL_formOf_9 (by decide) ?_
    refine lv_iconst (v := 0) hx hb dL_formOf_15 (by decide) ?_
    obtain rfl := Option.some.inj hf
    refine vx_ret ?_
    exact W.iret (v := 0) hx hb hr (fun t ht hW => ⟨_, rfl, ⟨rfl, by rw [ht]; exact hP, va_K.moved hW.alike hK, hD, hS.F ht⟩⟩) hS.2.2 dL_formOf_16 hlocks
  exact M0 s.heap [] ls hf hP hD hS hl
/-! CompactformsLaw.size(LCompactforms;I[J)I -/
def fL_size (k : Nat) (x : POSt) (p1 : Int32) : Option (POSt × Int32) := (fX7_size k (pF x) p1).bind (fun u1 => thr u1 (fun k3 => if k3 = 0 then some (x, 1) else none) (fun r4 => chk (inb 0 1) (keep (pO_s x (vp_updL (pO x) (0 : Int32).toNatClampNeg (r4).toInt64)) (fun x7 => some (x7, 0)))))
set_option maxHeartbeats 4000000 in
set_option maxRecDepth 100000 in
theorem met_L_size {D : va_G} {cI cV cJ cD : ClassId} (l : Launch) (hlt : l.stackTraces = false) (k : Nat) (vf : Nat → Option Nat) (a : Nat → Nat) (hvf : vf k = some (a 6)) (x : POSt) (p1 : Int32) (res : POSt × Int32) (hf : fL_size k x p1 = some res) : MXW l yL_size cL_size 4 (some .int) [(0, 9, 12, 13)] { frames := 8, cells := 1, slots := 6, locals := 141 } D (TY cI cV cJ cD) (W_FO cI cV cJ vf a x) (W_FO cI cV cJ vf a res.1) [.ref (a 0), .int p1, .ref (a 24)] (.inl (some (.int res.2))) := by
  intro sz
  refine vx_ofWH (cc := cL_size) (maxL := 4) (ret := (some .int)) (hh := [(0, 9, 12, 13)]) (by decide +kernel) rfl ?_
  intro p e s m args below meth c s₁ B hml hv
  obtain ⟨rfl, hsz, hP, hK, hD0, hE⟩ := hv
  have hx := B.exec
  have hb := B.bytes
  have hr := B.returns
  have hts := atoms_spec (ws := .codeWith yL_size cL_size 4 (some .int) [(0, 9, 12, 13)] :: GW) B.pre
  have hg : ∀ w ∈ GW, w.before (([.ref (a 0), .int p1, .ref (a 24)] : List Value).toArray) s = true := fun w h => hts w (List.mem_cons_of_mem _ h)
  have hown : s.vm.findClass RL = some m.cls := findClass_of_methodNamed B.named
  have hlocks := B.notSynchronized
  have htab : c.exceptionTable.toList = [⟨0, 9, 12, 13⟩] := vx_table (x := yL_size) B (hts _ List.mem_cons_self)
  subst hsz
  have hD := hD0.self (sz := s.heap.size)
  generalize hAe : va_A (W_FO cI cV cJ vf a x) s.heap.size = A at hD hE ⊢
  have hA : ∀ q : Nat, s.heap.size ≤ q → A q := fun q h => by rw [← hAe]; exact Or.inr h
  have hS : va_S A s.heap s.heap [] := va_S.rf
  have hl := lv_entry ([.ref (a 0), .int p1, .ref (a 24)]) (n := 4) (Nat.le_of_ble_eq_true rfl)
  rw [lg_entry_eq]
  generalize (lg_sl ([.ref (a 0), .int p1, .ref (a 24)]) ++ List.replicate (4 - (lg_sl ([.ref (a 0), .int p1, .ref (a 24)])).length) Slot.unset).toArray = ls at hl ⊢
  have hl : lv_has ls 4 [(0, .ref (a 0)), (1, .int p1), (2, .ref (a 24))] := hl
  have M0 : ∀ (H : Heap) (locs : List Loc) (ls : Array Slot), fL_size k x p1 = some res → va_P D vwCl (W_FO cI cV cJ vf a x) H → va_D A (W_FO cI cV cJ vf a x) → va_S A s.heap H locs → lv_has ls 4 [(0, .ref (a 0)), (1, .int p1), (2, .ref (a 24))] → W p l e ({ frames := 8, cells := 1, slots := 6, locals := 141 } : Room) s m ([.ref (a 0), .int p1, .ref (a 24)] : List Value).toArray below meth c H locs 0 0 (vx_MQ below (QR D (TY cI cV cJ cD) (W_FO cI cV cJ vf a res.1) A (.inl (some (.int res.2)))) (XR D (TY cI cV cJ cD) (W_FO cI cV cJ vf a res.1) A (.inl (some (.int res.2)))) (([.ref (a 0), .int p1, .ref (a 24)] : List Value).toArray) s 1 6 A) (F0 m 0 ls []) := by
    intro H locs ls hf hP hD hS hl
    dsimp only [fL_size] at hf
    refine lv_aload_n hx hb dL_size_0 rfl (lv_at hl 2 rfl) ?_
    refine lv_iconst (v := 0) hx hb dL_size_1 (by decide) ?_
    refine lv_aload_n hx hb dL_size_2 rfl (lv_at hl 0 rfl) ?_
    refine lv_iload_n hx hb dL_size_3 rfl (lv_at hl 1 rfl) ?_
    obtain ⟨u1, hc2, hf⟩ := bind_t hf
    refine k_VX (As := [.int p1]) (rest := [.int 0, .ref (a 24)]) (n := 1) ⟨hx, hb, hml, hown, hts⟩ (met_X7_size l hlt k vf a hvf (pF x) p1 u1 hc2) w737 w738 w739 w1 w740 ⟨rfl, by decide +kernel, by decide +kernel, by decide +kernel⟩ ⟨Nat.le_of_ble_eq_true rfl, Nat.le_of_ble_eq_true rfl⟩ hK hE hP hD hS hA (isC := [0, 1, 2, 3, 4, 5, 6, 7, 8, 9, 10, 11, 12, 13, 14, 15, 16, 17, 18, 19, 20, 21, 22, 23]) (isR := [24]) (isB := [1, 2, 3, 4, 5, 6, 7, 8, 9, 10, 11, 12, 13, 14, 15, 16, 17, 18, 19, 20, 21, 22, 23, 24, 0]) (ws' := W_FO cI cV cJ vf a x) ⟨([24] : List Nat).filterMap (fun i : Nat => (W_FO cI cV cJ vf a x : va_W)[i]?), rfl, rfl, rfl, rfl, by decide, rfl, rfl⟩ 0 6 rfl rfl rfl rfl hl.1 rfl (Nat.le_of_ble_eq_true rfl) dL_size_4 ⟨Nat.le_of_ble_eq_true rfl, Nat.le_of_ble_eq_true rfl⟩ (fun E ce q9 H locs h5 hP hD hS hce hcv hcl => ?_) (fun rv9 H locs h5 hP hD hS => ?_)
    · obtain ⟨k3, hq9, hE9⟩ := rsI_x h5
      replace hf := thr_x hf hq9
      by_cases hk9 : k3 = 0
      · subst hk9
        replace hf := if_t rfl hf
        have hE9 : E = "java/lang/IndexOutOfBoundsException" := hE9
        subst hE9
        refine vx_catch (own := RL) (name := "java/lang/IndexOutOfBoundsException") hown [] ⟨0, 9, 12, 13⟩ [] htab (fun _ h => absurd h List.not_mem_nil) (by decide) (by decide) (hg _ w442) (va_Nw.use rfl (hE.1.2.2.2.2.1 _ (List.mem_of_getElem? (i := 0) rfl))) hce hcv hcl ?_
        refine W.eq (g2 := F0 m 12 ls [.ref q9]) rfl ?_
        refine lv_astore_n (lv' := [(3, .ref q9), (0, .ref (a 0)), (1, .int p1), (2, .ref (a 24))]) hx hb dL_size_12 rfl hl (by decide) rfl (fun ls hl => ?_)
        refine lv_iconst (v := 1) hx hb dL_size_13 (by decide) ?_
        obtain rfl := Option.some.inj hf
        refine vx_ret ?_
        exact W.iret (v := 1) hx hb hr (fun t ht hW => ⟨_, rfl, ⟨rfl, by rw [ht]; exact hP, va_K.moved hW.alike hK, hD, hS.F ht⟩⟩) hS.2.2 dL_size_14 hlocks
      replace hf := if_f hk9 hf
      cases hf
    obtain ⟨r4, hq9, rfl⟩ := rsI_v h5
    replace hf := thr_v hf hq9
    refine W.eq (g2 := F0 m 7 ls [.int r4, .int 0, .ref (a 24)]) rfl ?_
    refine lv_i2l (v := (r4).toInt64) hx hb dL_size_7 rfl ?_
    obtain ⟨hi6, hf⟩ := chk_t hf
    refine va_last hx hb hK hP hD hS 24 2 rfl rfl (inb_in hi6) dL_size_8 (fun H locs hP hD hS => ?_)
    obtain ⟨x7, hx7⟩ : ∃ z, z = (pO_s x (vp_updL (pO x) (0 : Int32).toNatClampNeg (r4).toInt64)) := ⟨_, rfl⟩
    replace hf := keep_e hf x7 hx7
    have hP : va_P D vwCl (W_FO cI cV cJ vf a x7) H := by rw [hx7]; exact hP
    have hD : va_D A (W_FO cI cV cJ vf a x7) := by rw [hx7]; exact hD
    refine lv_goto (tgt := 15) hx hb dL_size_9 (by decide) ?_
    refine lv_iconst (v := 0) hx hb dL_size_15 (by decide) ?_
    obtain rfl := Option.some.inj hf
    refine vx_ret ?_
    exact W.iret (v := 0) hx hb hr (fun t ht hW => ⟨_, rfl, ⟨rfl, by rw [ht]; exact hP, va_K.moved hW.alike hK, hD, hS.F ht⟩⟩) hS.2.2 dL_size_16 hlocks
  exact M0 s.heap [] ls hf hP hD hS hl
/-! CompactformsLaw.at(LCompactforms;II[J)I -/
def fL_at (k : Nat) (x : POSt) (p1 : Int32) (p2 : Int32) : Option (POSt × Int32) := (fX7_at k (pF x) p1 p2).bind (fun u1 => thr u1 (fun k3 => if k3 = 0 then some (x, 1) else none) (fun r4 => chk (inb 0 1) (keep (pO_s x (vp_updL (pO x) (0 : Int32).toNatClampNeg (r4).toInt64)) (fun x7 => some (x7, 0)))))
set_option maxHeartbeats 4000000 in
set_option maxRecDepth 100000 in
theorem met_L_at {D : va_G} {cI cV cJ cD : ClassId} (l : Launch) (hlt : l.stackTraces = false) (k : Nat) (vf : Nat → Option Nat) (a : Nat → Nat) (hvf : vf k = some (a 6)) (x : POSt) (p1 : Int32) (p2 : Int32) (res : POSt × Int32) (hf : fL_at k x p1 p2 = some res) : MXW l yL_at cL_at 5 (some .int) [(0, 10, 13, 13)] { frames := 8, cells := 2, slots := 12, locals := 144 } D (TY cI cV cJ cD) (W_FO cI cV cJ vf a x) (W_FO cI cV cJ vf a res.1) [.ref (a 0), .int p1, .int p2, .ref (a 24)] (.inl (some (.int res.2))) := by
  intro sz
  refine vx_ofWH (cc := cL_at) (maxL := 5) (ret := (some .int)) (hh := [(0, 10, 13, 13)]) (by decide +kernel) rfl ?_
  intro p e s m args below meth c s₁ B hml hv
  obtain ⟨rfl, hsz, hP, hK, hD0, hE⟩ := hv
  have hx := B.exec
  have hb := B.bytes
  have hr := B.returns
  have hts := atoms_spec (ws := .codeWith yL_at cL_at 5 (some .int) [(0, 10, 13, 13)] :: GW) B.pre
  have hg : ∀ w ∈ GW, w.before (([.ref (a 0), .int p1, .int p2, .ref (a 24)] : List Value).toArray) s = true := fun w h => hts w (List.mem_cons_of_mem _ h)
  have hown : s.vm.findClass RL = some m.cls := findClass_of_methodNamed B.named
  have hlocks := B.notSynchronized
  have htab : c.exceptionTable.toList = [⟨0, 10, 13, 13⟩] := vx_table (x := yL_at) B (hts _ List.mem_cons_self)
  subst hsz
  have hD := hD0.self (sz := s.heap.size)
  generalize hAe : va_A (W_FO cI cV cJ vf a x) s.heap.size = A at hD hE ⊢
  have hA : ∀ q : Nat, s.heap.size ≤ q → A q := fun q h => by rw [← hAe]; exact Or.inr h
  have hS : va_S A s.heap s.heap [] := va_S.rf
  have hl := lv_entry ([.ref (a 0), .int p1, .int p2, .ref (a 24)]) (n := 5) (Nat.le_of_ble_eq_true rfl)
  rw [lg_entry_eq]
  generalize (lg_sl ([.ref (a 0), .int p1, .int p2, .ref (a 24)]) ++ List.replicate (5 - (lg_sl ([.ref (a 0), .int p1, .int p2, .ref (a 24)])).length) Slot.unset).toArray = ls at hl ⊢
  have hl : lv_has ls 5 [(0, .ref (a 0)), (1, .int p1), (2, .int p2), (3, .ref (a 24))] := hl
  have M0 : ∀ (H : Heap) (locs : List Loc) (ls : Array Slot), fL_at k x p1 p2 = some res → va_P D vwCl (W_FO cI cV cJ vf a x) H → va_D A (W_FO cI cV cJ vf a x) → va_S A s.heap H locs → lv_has ls 5 [(0, .ref (a 0)), (1, .int p1), (2, .int p2), (3, .ref (a 24))] → W p l e ({ frames := 8, cells := 2, slots := 12, locals := 144 } : Room) s m ([.ref (a 0), .int p1, .int p2, .ref (a 24)] : List Value).toArray below meth c H locs 0 0 (vx_MQ below (QR D (TY cI cV cJ cD) (W_FO cI cV cJ vf a res.1) A (.inl (some (.int res.2)))) (XR D (TY cI cV cJ cD) (W_FO cI cV cJ vf a res.1) A (.inl (some (.int res.2)))) (([.ref (a 0), .int p1, .int p2, .ref (a 24)] : List Value).toArray) s 2 12 A) (F0 m 0 ls []) := by
    intro H locs ls hf hP hD hS hl
    dsimp only [fL_at] at hf
    refine lv_aload_n hx hb dL_at_0 rfl (lv_at hl 3 rfl) ?_
    refine lv_iconst (v := 0) hx hb dL_at_1 (by decide) ?_
    refine lv_aload_n hx hb dL_at_2 rfl (lv_at hl 0 rfl) ?_
    refine lv_iload_n hx hb dL_at_3 rfl (lv_at hl 1 rfl) ?_
    refine lv_iload_n hx hb dL_at_4 rfl (lv_at hl 2 rfl) ?_
    obtain ⟨u1, hc2, hf⟩ := bind_t hf
    refine k_VX (As := [.int p1, .int p2]) (rest := [.int 0, .ref (a 24)]) (n := 2) ⟨hx, hb, hml, hown, hts⟩ (met_X7_at l hlt k vf a hvf (pF x) p1 p2 u1 hc2) w744 w745 w746 w1 w747 ⟨rfl, by decide +kernel, by decide +kernel, by decide +kernel⟩ ⟨Nat.le_of_ble_eq_true rfl, Nat.le_of_ble_eq_true rfl⟩ hK hE hP hD hS hA (isC := [0, 1, 2, 3, 4, 5, 6, 7, 8, 9, 10, 11, 12, 13, 14, 15, 16, 17, 18, 19, 20, 21, 22, 23]) (isR := [24]) (isB := [1, 2, 3, 4, 5, 6, 7, 8, 9, 10, 11, 12, 13, 14, 15, 16, 17, 18, 19, 20, 21, 22, 23, 24, 0]) (ws' := W_FO cI cV cJ vf a x) ⟨([24] : List Nat).filterMap (fun i : Nat => (W_FO cI cV cJ vf a x : va_W)[i]?), rfl, rfl, rfl, rfl, by decide, rfl, rfl⟩ 0 6 rfl rfl rfl rfl hl.1 rfl (Nat.le_of_ble_eq_true rfl) dL_at_5 ⟨Nat.le_of_ble_eq_true rfl, Nat.le_of_ble_eq_true rfl⟩ (fun E ce q9 H locs h5 hP hD hS hce hcv hcl => ?_) (fun rv9 H locs h5 hP hD hS => ?_)
    · obtain ⟨k3, hq9, hE9⟩ := rsI_x h5
      replace hf := thr_x hf hq9
      by_cases hk9 : k3 = 0
      · subst hk9
        replace hf := if_t rfl hf
        have hE9 : E = "java/lang/IndexOutOfBoundsException" := hE9
        subst hE9
        refine vx_catch (own := RL) (name := "java/lang/IndexOutOfBoundsException") hown [] ⟨0, 10, 13, 13⟩ [] htab (fun _ h => absurd h List.not_mem_nil) (by decide) (by decide) (hg _ w442) (va_Nw.use rfl (hE.1.2.2.2.2.1 _ (List.mem_of_getElem? (i := 0) rfl))) hce hcv hcl ?_
        refine W.eq (g2 := F0 m 13 ls [.ref q9]) rfl ?_
        refine lv_astore (lv' := [(4, .ref q9), (0, .ref (a 0)), (1, .int p1), (2, .int p2), (3, .ref (a 24))]) hx hb dL_at_13 hl (by decide) rfl (fun ls hl => ?_)
        refine lv_iconst (v := 1) hx hb dL_at_15 (by decide) ?_
        obtain rfl := Option.some.inj hf
        refine vx_ret ?_
        exact W.iret (v := 1) hx hb hr (fun t ht hW => ⟨_, rfl, ⟨rfl, by rw [ht]; exact hP, va_K.moved hW.alike hK, hD, hS.F ht⟩⟩) hS.2.2 dL_at_16 hlocks
      replace hf := if_f hk9 hf
      cases hf
    obtain ⟨r4, hq9, rfl⟩ := rsI_v h5
    replace hf := thr_v hf hq9
    refine W.eq (g2 := F0 m 8 ls [.int r4, .int 0, .ref (a 24)]) rfl ?_
    refine lv_i2l (v := (r4).toInt64) hx hb dL_at_8 rfl ?_
    obtain ⟨hi6, hf⟩ := chk_t hf
    refine va_last hx hb hK hP hD hS 24 2 rfl rfl (inb_in hi6) dL_at_9 (fun H locs hP hD hS => ?_)
    obtain ⟨x7, hx7⟩ : ∃ z, z = (pO_s x (vp_updL (pO x) (0 : Int32).toNatClampNeg (r4).toInt64)) := ⟨_, rfl⟩
    replace hf := keep_e hf x7 hx7
    have hP : va_P D vwCl (W_FO cI cV cJ vf a x7) H := by rw [hx7]; exact hP
    have hD : va_D A (W_FO cI cV cJ vf a x7) := by rw [hx7]; exact hD
    refine lv_goto (tgt := 17) hx hb dL_at_10 (by decide) ?_
    refine lv_iconst (v := 0) hx hb dL_at_17 (by decide) ?_
    obtain rfl := Option.some.inj hf
    refine vx_ret ?_
    exact W.iret (v := 0) hx hb hr (fun t ht hW => ⟨_, rfl, ⟨rfl, by rw [ht]; exact hP, va_K.moved hW.alike hK, hD, hS.F ht⟩⟩) hS.2.2 dL_at_18 hlocks
  exact M0 s.heap [] ls hf hP hD hS hl
/-! CompactformsLaw.atByPlain(LCompactforms;II[J)I -/
def fL_atByPlain (k : Nat) (x : POSt) (p1 : Int32) (p2 : Int32) : Option (POSt × Int32) := (fX7_atByPlain k (pF x) p1 p2).bind (fun u1 => thr u1 (fun k3 => if k3 = 0 then some (x, 1) else none) (fun r4 => chk (inb 0 1) (keep (pO_s x (vp_updL (pO x) (0 : Int32).toNatClampNeg (r4).toInt64)) (fun x7 => some (x7, 0)))))
set_option maxHeartbeats 4000000 in
set_option maxRecDepth 100000 in
theorem met_L_atByPlain {D : va_G} {cI cV cJ cD : ClassId} (l : Launch) (hlt : l.stackTraces = false) (k : Nat) (vf : Nat → Option Nat) (a : Nat → Nat) (hvf : vf k = some (a 6)) (x : POSt) (p1 : Int32) (p2 : Int32) (res : POSt × Int32) (hf : fL_atByPlain k x p1 p2 = some res) : MXW l yL_atByPlain cL_atByPlain 5 (some .int) [(0, 10, 13, 13)] { frames := 8, cells := 2, slots := 12, locals := 144 } D (TY cI cV cJ cD) (W_FO cI cV cJ vf a x) (W_FO cI cV cJ vf a res.1) [.ref (a 0), .int p1, .int p2, .ref (a 24)] (.inl (some (.int res.2))) := by
  intro sz
  refine vx_ofWH (cc := cL_atByPlain) (maxL := 5) (ret := (some .int)) (hh := [(0, 10, 13, 13)]) (by decide +kernel) rfl ?_
  intro p e s m args below meth c s₁ B hml hv
  obtain ⟨rfl, hsz, hP, hK, hD0, hE⟩ := hv
  have hx := B.exec
  have hb := B.bytes
  have hr := B.returns
  have hts := atoms_spec (ws := .codeWith yL_atByPlain cL_atByPlain 5 (some .int) [(0, 10, 13, 13)] :: GW) B.pre
  have hg : ∀ w ∈ GW, w.before (([.ref (a 0), .int p1, .int p2, .ref (a 24)] : List Value).toArray) s = true := fun w h => hts w (List.mem_cons_of_mem _ h)
  have hown : s.vm.findClass RL = some m.cls := findClass_of_methodNamed B.named
  have hlocks := B.notSynchronized
  have htab : c.exceptionTable.toList = [⟨0, 10, 13, 13⟩] := vx_table (x := yL_atByPlain) B (hts _ List.mem_cons_self)
  subst hsz
  have hD := hD0.self (sz := s.heap.size)
  generalize hAe : va_A (W_FO cI cV cJ vf a x) s.heap.size = A at hD hE ⊢
  have hA : ∀ q : Nat, s.heap.size ≤ q → A q := fun q h => by rw [← hAe]; exact Or.inr h
  have hS : va_S A s.heap s.heap [] := va_S.rf
  have hl := lv_entry ([.ref (a 0), .int p1, .int p2, .ref (a 24)]) (n := 5) (Nat.le_of_ble_eq_true rfl)
  rw [lg_entry_eq]
  generalize (lg_sl ([.ref (a 0), .int p1, .int p2, .ref (a 24)]) ++ List.replicate (5 - (lg_sl ([.ref (a 0), .int p1, .int p2, .ref (a 24)])).length) Slot.unset).toArray = ls at hl ⊢
  have hl : lv_has ls 5 [(0, .ref (a 0)), (1, .int p1), (2, .int p2), (3, .ref (a 24))] := hl
  have M0 : ∀ (H : Heap) (locs : List Loc) (ls : Array Slot), fL_atByPlain k x p1 p2 = some res → va_P D vwCl (W_FO cI cV cJ vf a x) H → va_D A (W_FO cI cV cJ vf a x) → va_S A s.heap H locs → lv_has ls 5 [(0, .ref (a 0)), (1, .int p1), (2, .int p2), (3, .ref (a 24))] → W p l e ({ frames := 8, cells := 2, slots := 12, locals := 144 } : Room) s m ([.ref (a 0), .int p1, .int p2, .ref (a 24)] : List Value).toArray below meth c H locs 0 0 (vx_MQ below (QR D (TY cI cV cJ cD) (W_FO cI cV cJ vf a res.1) A (.inl (some (.int res.2)))) (XR D (TY cI cV cJ cD) (W_FO cI cV cJ vf a res.1) A (.inl (some (.int res.2)))) (([.ref (a 0), .int p1, .int p2, .ref (a 24)] : List Value).toArray) s 2 12 A) (F0 m 0 ls []) := by
    intro H locs ls hf hP hD hS hl
    dsimp only [fL_atByPlain] at hf
    refine lv_aload_n hx hb dL_atByPlain_0 rfl (lv_at hl 3 rfl) ?_
    refine lv_iconst (v := 0) hx hb dL_atByPlain_1 (by decide) ?_
    refine lv_aload_n hx hb dL_atByPlain_2 rfl (lv_at hl 0 rfl) ?_
    refine lv_iload_n hx hb dL_atByPlain_3 rfl (lv_at hl 1 rfl) ?_
    refine lv_iload_n hx hb dL_atByPlain_4 rfl (lv_at hl 2 rfl) ?_
    obtain ⟨u1, hc2, hf⟩ := bind_t hf
    refine k_VX (As := [.int p1, .int p2]) (rest := [.int 0, .ref (a 24)]) (n := 2) ⟨hx, hb, hml, hown, hts⟩ (met_X7_atByPlain l hlt k vf a hvf (pF x) p1 p2 u1 hc2) w757 w758 w759 w1 w760 ⟨rfl, by decide +kernel, by decide +kernel, by decide +kernel⟩ ⟨Nat.le_of_ble_eq_true rfl, Nat.le_of_ble_eq_true rfl⟩ hK hE hP hD hS hA (isC := [0, 1, 2, 3, 4, 5, 6, 7, 8, 9, 10, 11, 12, 13, 14, 15, 16, 17, 18, 19, 20, 21, 22, 23]) (isR := [24]) (isB := [1, 2, 3, 4, 5, 6, 7, 8, 9, 10, 11, 12, 13, 14, 15, 16, 17, 18, 19, 20, 21, 22, 23, 24, 0]) (ws' := W_FO cI cV cJ vf a x) ⟨([24] : List Nat).filterMap (fun i : Nat => (W_FO cI cV cJ vf a x : va_W)[i]?), rfl, rfl, rfl, rfl, by decide, rfl, rfl⟩ 0 6 rfl rfl rfl rfl hl.1 rfl (Nat.le_of_ble_eq_true rfl) dL_atByPlain_5 ⟨Nat.le_of_ble_eq_true rfl, Nat.le_of_ble_eq_true rfl⟩ (fun E ce q9 H locs h5 hP hD hS hce hcv hcl => ?_) (fun rv9 H locs h5 hP hD hS => ?_)
    · obtain ⟨k3, hq9, hE9⟩ := rsI_x h5
      replace hf := thr_x hf hq9
      by_cases hk9 : k3 = 0
      · subst hk9
        replace hf := if_t rfl hf
        have hE9 : E = "java/lang/IndexOutOfBoundsException" := hE9
        subst hE9
        refine vx_catch (own := RL) (name := "java/lang/IndexOutOfBoundsException") hown [] ⟨0, 10, 13, 13⟩ [] htab (fun _ h => absurd h List.not_mem_nil) (by decide) (by decide) (hg _ w442) (va_Nw.use rfl (hE.1.2.2.2.2.1 _ (List.mem_of_getElem? (i := 0) rfl))) hce hcv hcl ?_
        refine W.eq (g2 := F0 m 13 ls [.ref q9]) rfl ?_
        refine lv_astore (lv' := [(4, .ref q9), (0, .ref (a 0)), (1, .int p1), (2, .int p2), (3, .ref (a 24))]) hx hb dL_atByPlain_13 hl (by decide) rfl (fun ls hl => ?_)
        refine lv_iconst (v := 1) hx hb dL_atByPlain_15 (by decide) ?_
        obtain rfl := Option.some.inj hf
        refine vx_ret ?_
        exact W.iret (v := 1) hx hb hr (fun t ht hW => ⟨_, rfl, ⟨rfl, by rw [ht]; exact hP, va_K.moved hW.alike hK, hD, hS.F ht⟩⟩) hS.2.2 dL_atByPlain_16 hlocks
      replace hf := if_f hk9 hf
      cases hf
    obtain ⟨r4, hq9, rfl⟩ := rsI_v h5
    replace hf := thr_v hf hq9
    refine W.eq (g2 := F0 m 8 ls [.int r4, .int 0, .ref (a 24)]) rfl ?_
    refine lv_i2l (v := (r4).toInt64) hx hb dL_atByPlain_8 rfl ?_
    obtain ⟨hi6, hf⟩ := chk_t hf
    refine va_last hx hb hK hP hD hS 24 2 rfl rfl (inb_in hi6) dL_atByPlain_9 (fun H locs hP hD hS => ?_)
    obtain ⟨x7, hx7⟩ : ∃ z, z = (pO_s x (vp_updL (pO x) (0 : Int32).toNatClampNeg (r4).toInt64)) := ⟨_, rfl⟩
    replace hf := keep_e hf x7 hx7
    have hP : va_P D vwCl (W_FO cI cV cJ vf a x7) H := by rw [hx7]; exact hP
    have hD : va_D A (W_FO cI cV cJ vf a x7) := by rw [hx7]; exact hD
    refine lv_goto (tgt := 17) hx hb dL_atByPlain_10 (by decide) ?_
    refine lv_iconst (v := 0) hx hb dL_atByPlain_17 (by decide) ?_
    obtain rfl := Option.some.inj hf
    refine vx_ret ?_
    exact W.iret (v := 0) hx hb hr (fun t ht hW => ⟨_, rfl, ⟨rfl, by rw [ht]; exact hP, va_K.moved hW.alike hK, hD, hS.F ht⟩⟩) hS.2.2 dL_atByPlain_18 hlocks
  exact M0 s.heap [] ls hf hP hD hS hl
/-! CompactformsLaw.indexOf(LCompactforms;II[J)I -/
def fL_indexOf (k : Nat) (x : POSt) (p1 : Int32) (p2 : Int32) : Option (POSt × Int32) := (fX7_indexOf k (pF x) p1 p2).bind (fun u1 => thr u1 (fun k3 => if k3 = 0 then some (x, 1) else if k3 = 1 then some (x, 2) else none) (fun r4 => chk (inb 0 1) (keep (pO_s x (vp_updL (pO x) (0 : Int32).toNatClampNeg (r4).toInt64)) (fun x7 => some (x7, 0)))))
set_option maxHeartbeats 4000000 in
set_option maxRecDepth 100000 in
theorem met_L_indexOf {D : va_G} {cI cV cJ cD : ClassId} (l : Launch) (hlt : l.stackTraces = false) (k : Nat) (vf : Nat → Option Nat) (a : Nat → Nat) (hvf : vf k = some (a 6)) (x : POSt) (p1 : Int32) (p2 : Int32) (res : POSt × Int32) (hf : fL_indexOf k x p1 p2 = some res) : MXW l yL_indexOf cL_indexOf 5 (some .int) [(0, 10, 13, 13), (0, 10, 17, 15)] { frames := 9, cells := 2, slots := 12, locals := 164 } D (TY cI cV cJ cD) (W_FO cI cV cJ vf a x) (W_FO cI cV cJ vf a res.1) [.ref (a 0), .int p1, .int p2, .ref (a 24)] (.inl (some (.int res.2))) := by
  intro sz
  refine vx_ofWH (cc := cL_indexOf) (maxL := 5) (ret := (some .int)) (hh := [(0, 10, 13, 13), (0, 10, 17, 15)]) (by decide +kernel) rfl ?_
  intro p e s m args below meth c s₁ B hml hv
  obtain ⟨rfl, hsz, hP, hK, hD0, hE⟩ := hv
  have hx := B.exec
  have hb := B.bytes
  have hr := B.returns
  have hts := atoms_spec (ws := .codeWith yL_indexOf cL_indexOf 5 (some .int) [(0, 10, 13, 13), (0, 10, 17, 15)] :: GW) B.pre
  have hg : ∀ w ∈ GW, w.before (([.ref (a 0), .int p1, .int p2, .ref (a 24)] : List Value).toArray) s = true := fun w h => hts w (List.mem_cons_of_mem _ h)
  have hown : s.vm.findClass RL = some m.cls := findClass_of_methodNamed B.named
  have hlocks := B.notSynchronized
  have htab : c.exceptionTable.toList = [⟨0, 10, 13, 13⟩, ⟨0, 10, 17, 15⟩] := vx_table (x := yL_indexOf) B (hts _ List.mem_cons_self)
  subst hsz
  have hD := hD0.self (sz := s.heap.size)
  generalize hAe : va_A (W_FO cI cV cJ vf a x) s.heap.size = A at hD hE ⊢
  have hA : ∀ q : Nat, s.heap.size ≤ q → A q := fun q h => by rw [← hAe]; exact Or.inr h
  have hS : va_S A s.heap s.heap [] := va_S.rf
  have hl := lv_entry ([.ref (a 0), .int p1, .int p2, .ref (a 24)]) (n := 5) (Nat.le_of_ble_eq_true rfl)
  rw [lg_entry_eq]
  generalize (lg_sl ([.ref (a 0), .int p1, .int p2, .ref (a 24)]) ++ List.replicate (5 - (lg_sl ([.ref (a 0), .int p1, .int p2, .ref (a 24)])).length) Slot.unset).toArray = ls at hl ⊢
  have hl : lv_has ls 5 [(0, .ref (a 0)), (1, .int p1), (2, .int p2), (3, .ref (a 24))] := hl
  have M0 : ∀ (H : Heap) (locs : List Loc) (ls : Array Slot), fL_indexOf k x p1 p2 = some res → va_P D vwCl (W_FO cI cV cJ vf a x) H → va_D A (W_FO cI cV cJ vf a x) → va_S A s.heap H locs → lv_has ls 5 [(0, .ref (a 0)), (1, .int p1), (2, .int p2), (3, .ref (a 24))] → W p l e ({ frames := 9, cells := 2, slots := 12, locals := 164 } : Room) s m ([.ref (a 0), .int p1, .int p2, .ref (a 24)] : List Value).toArray below meth c H locs 0 0 (vx_MQ below (QR D (TY cI cV cJ cD) (W_FO cI cV cJ vf a res.1) A (.inl (some (.int res.2)))) (XR D (TY cI cV cJ cD) (W_FO cI cV cJ vf a res.1) A (.inl (some (.int res.2)))) (([.ref (a 0), .int p1, .int p2, .ref (a 24)] : List Value).toArray) s 2 12 A) (F0 m 0 ls []) := by
    intro H locs ls hf hP hD hS hl
    dsimp only [fL_indexOf] at hf
    refine lv_aload_n hx hb dL_indexOf_0 rfl (lv_at hl 3 rfl) ?_
    refine lv_iconst (v := 0) hx hb dL_indexOf_1 (by decide) ?_
    refine lv_aload_n hx hb dL_indexOf_2 rfl (lv_at hl 0 rfl) ?_
    refine lv_iload_n hx hb dL_indexOf_3 rfl (lv_at hl 1 rfl) ?_
    refine lv_iload_n hx hb dL_indexOf_4 rfl (lv_at hl 2 rfl) ?_
    obtain ⟨u1, hc2, hf⟩ := bind_t hf
    refine k_VX (As := [.int p1, .int p2]) (rest := [.int 0, .ref (a 24)]) (n := 2) ⟨hx, hb, hml, hown, hts⟩ (met_X7_indexOf l hlt k vf a hvf (pF x) p1 p2 u1 hc2) w764 w765 w766 w1 w767 ⟨rfl, by decide +kernel, by decide +kernel, by decide +kernel⟩ ⟨Nat.le_of_ble_eq_true rfl, Nat.le_of_ble_eq_true rfl⟩ hK hE hP hD hS hA (isC := [0, 1, 2, 3, 4, 5, 6, 7, 8, 9, 10, 11, 12, 13, 14, 15, 16, 17, 18, 19, 20, 21, 22, 23]) (isR := [24]) (isB := [1, 2, 3, 4, 5, 6, 7, 8, 9, 10, 11, 12, 13, 14, 15, 16, 17, 18, 19, 20, 21, 22, 23, 24, 0]) (ws' := W_FO cI cV cJ vf a x) ⟨([24] : List Nat).filterMap (fun i : Nat => (W_FO cI cV cJ vf a x : va_W)[i]?), rfl, rfl, rfl, rfl, by decide, rfl, rfl⟩ 0 6 rfl rfl rfl rfl hl.1 rfl (Nat.le_of_ble_eq_true rfl) dL_indexOf_5 ⟨Nat.le_of_ble_eq_true rfl, Nat.le_of_ble_eq_true rfl⟩ (fun E ce q9 H locs h5 hP hD hS hce hcv hcl => ?_) (fun rv9 H locs h5 hP hD hS => ?_)
    · obtain ⟨k3, hq9, hE9⟩ := rsI_x h5
      replace hf := thr_x hf hq9
      by_cases hk9 : k3 = 0
      · subst hk9
        replace hf := if_t rfl hf
        have hE9 : E = "java/lang/IndexOutOfBoundsException" := hE9
        subst hE9
        refine vx_catch (own := RL) (name := "java/lang/IndexOutOfBoundsException") hown [] ⟨0, 10, 13, 13⟩ [⟨0, 10, 17, 15⟩] htab (fun _ h => absurd h List.not_mem_nil) (by decide) (by decide) (hg _ w442) (va_Nw.use rfl (hE.1.2.2.2.2.1 _ (List.mem_of_getElem? (i := 0) rfl))) hce hcv hcl ?_
        refine W.eq (g2 := F0 m 13 ls [.ref q9]) rfl ?_
        refine lv_astore (lv' := [(4, .ref q9), (0, .ref (a 0)), (1, .int p1), (2, .int p2), (3, .ref (a 24))]) hx hb dL_indexOf_13 hl (by decide) rfl (fun ls hl => ?_)
        refine lv_iconst (v := 1) hx hb dL_indexOf_15 (by decide) ?_
        obtain rfl := Option.some.inj hf
        refine vx_ret ?_
        exact W.iret (v := 1) hx hb hr (fun t ht hW => ⟨_, rfl, ⟨rfl, by rw [ht]; exact hP, va_K.moved hW.alike hK, hD, hS.F ht⟩⟩) hS.2.2 dL_indexOf_16 hlocks
      replace hf := if_f hk9 hf
      by_cases hk9 : k3 = 1
      · subst hk9
        replace hf := if_t rfl hf
        have hE9 : E = "java/lang/IllegalArgumentException" := hE9
        subst hE9
        refine vx_catch (own := RL) (name := "java/lang/IllegalArgumentException") hown [⟨0, 10, 13, 13⟩] ⟨0, 10, 17, 15⟩ [] htab (List.forall_mem_cons.mpr ⟨Or.inr ⟨by decide, "java/lang/IndexOutOfBoundsException", hg _ w442, hE.1.2.2.2.2.2.1 _ (List.mem_of_getElem? (i := 1) rfl) _ (List.mem_of_getElem? (i := 0) rfl) (by decide +kernel)⟩, fun _ h => absurd h List.not_mem_nil⟩) (by decide) (by decide) (hg _ w443) (va_Nw.use rfl (hE.1.2.2.2.2.1 _ (List.mem_of_getElem? (i := 1) rfl))) hce hcv hcl ?_
        refine W.eq (g2 := F0 m 17 ls [.ref q9]) rfl ?_
        refine lv_astore (lv' := [(4, .ref q9), (0, .ref (a 0)), (1, .int p1), (2, .int p2), (3, .ref (a 24))]) hx hb dL_indexOf_17 hl (by decide) rfl (fun ls hl => ?_)
        refine lv_iconst (v := 2) hx hb dL_indexOf_19 (by decide) ?_
        obtain rfl := Option.some.inj hf
        refine vx_ret ?_
        exact W.iret (v := 2) hx hb hr (fun t ht hW => ⟨_, rfl, ⟨rfl, by rw [ht]; exact hP, va_K.moved hW.alike hK, hD, hS.F ht⟩⟩) hS.2.2 dL_indexOf_20 hlocks
      replace hf := if_f hk9 hf
      cases hf
    obtain ⟨r4, hq9, rfl⟩ := rsI_v h5
    replace hf := thr_v hf hq9
    refine W.eq (g2 := F0 m 8 ls [.int r4, .int 0, .ref (a 24)]) rfl ?_
    refine lv_i2l (v := (r4).toInt64) hx hb dL_indexOf_8 rfl ?_
    obtain ⟨hi6, hf⟩ := chk_t hf
    refine va_last hx hb hK hP hD hS 24 2 rfl rfl (inb_in hi6) dL_indexOf_9 (fun H locs hP hD hS => ?_)
    obtain ⟨x7, hx7⟩ : ∃ z, z = (pO_s x (vp_updL (pO x) (0 : Int32).toNatClampNeg (r4).toInt64)) := ⟨_, rfl⟩
    replace hf := keep_e hf x7 hx7
    have hP : va_P D vwCl (W_FO cI cV cJ vf a x7) H := by rw [hx7]; exact hP
    have hD : va_D A (W_FO cI cV cJ vf a x7) := by rw [hx7]; exact hD
    refine lv_goto (tgt := 21) hx hb dL_indexOf_10 (by decide) ?_
    refine lv_iconst (v := 0) hx hb dL_indexOf_21 (by decide) ?_
    obtain rfl := Option.some.inj hf
    refine vx_ret ?_
    exact W.iret (v := 0) hx hb hr (fun t ht hW => ⟨_, rfl, ⟨rfl, by rw [ht]; exact hP, va_K.moved hW.alike hK, hD, hS.F ht⟩⟩) hS.2.2 dL_indexOf_22 hlocks
  exact M0 s.heap [] ls hf hP hD hS hl
/-! CompactformsLaw.points(LCompactforms;II[D)I -/
def fL_points (k : Nat) (x : PDSt) (p1 : Int32) (p2 : Int32) : Option (PDSt × Int32) := (fX7_points k (dF x) p1 p2).bind (fun u1 => thr u1 (fun k3 => if k3 = 0 then some (x, 1) else if k3 = 1 then some (x, 2) else if k3 = 2 then some (x, 3) else none) (fun r4 => chk (n64 (FP.f2d r4)) (chk (inb 0 1) (keep (dO_s x (vf_upd (dO x) (0 : Int32).toNatClampNeg (FP.f2d r4))) (fun x8 => some (x8, 0))))))
set_option maxHeartbeats 4000000 in
set_option maxRecDepth 100000 in
theorem met_L_points {D : va_G} {cI cV cJ cD : ClassId} (l : Launch) (hlt : l.stackTraces = false) (k : Nat) (vf : Nat → Option Nat) (a : Nat → Nat) (hvf : vf k = some (a 6)) (x : PDSt) (p1 : Int32) (p2 : Int32) (res : PDSt × Int32) (hf : fL_points k x p1 p2 = some res) : MXW l yL_points cL_points 5 (some .int) [(0, 10, 13, 13), (0, 10, 17, 15), (0, 10, 21, 17)] { frames := 9, cells := 4, slots := 24, locals := 165 } D (TY cI cV cJ cD) (W_FD cI cV cD vf a x) (W_FD cI cV cD vf a res.1) [.ref (a 0), .int p1, .int p2, .ref (a 24)] (.inl (some (.int res.2))) := by
  intro sz
  refine vx_ofWH (cc := cL_points) (maxL := 5) (ret := (some .int)) (hh := [(0, 10, 13, 13), (0, 10, 17, 15), (0, 10, 21, 17)]) (by decide +kernel) rfl ?_
  intro p e s m args below meth c s₁ B hml hv
  obtain ⟨rfl, hsz, hP, hK, hD0, hE⟩ := hv
  have hx := B.exec
  have hb := B.bytes
  have hr := B.returns
  have hts := atoms_spec (ws := .codeWith yL_points cL_points 5 (some .int) [(0, 10, 13, 13), (0, 10, 17, 15), (0, 10, 21, 17)] :: GW) B.pre
  have hg : ∀ w ∈ GW, w.before (([.ref (a 0), .int p1, .int p2, .ref (a 24)] : List Value).toArray) s = true := fun w h => hts w (List.mem_cons_of_mem _ h)
  have hown : s.vm.findClass RL = some m.cls := findClass_of_methodNamed B.named
  have hlocks := B.notSynchronized
  have htab : c.exceptionTable.toList = [⟨0, 10, 13, 13⟩, ⟨0, 10, 17, 15⟩, ⟨0, 10, 21, 17⟩] := vx_table (x := yL_points) B (hts _ List.mem_cons_self)
  subst hsz
  have hD := hD0.self (sz := s.heap.size)
  generalize hAe : va_A (W_FD cI cV cD vf a x) s.heap.size = A at hD hE ⊢
  have hA : ∀ q : Nat, s.heap.size ≤ q → A q := fun q h => by rw [← hAe]; exact Or.inr h
  have hS : va_S A s.heap s.heap [] := va_S.rf
  have hl := lv_entry ([.ref (a 0), .int p1, .int p2, .ref (a 24)]) (n := 5) (Nat.le_of_ble_eq_true rfl)
  rw [lg_entry_eq]
  generalize (lg_sl ([.ref (a 0), .int p1, .int p2, .ref (a 24)]) ++ List.replicate (5 - (lg_sl ([.ref (a 0), .int p1, .int p2, .ref (a 24)])).length) Slot.unset).toArray = ls at hl ⊢
  have hl : lv_has ls 5 [(0, .ref (a 0)), (1, .int p1), (2, .int p2), (3, .ref (a 24))] := hl
  have M0 : ∀ (H : Heap) (locs : List Loc) (ls : Array Slot), fL_points k x p1 p2 = some res → va_P D vwCl (W_FD cI cV cD vf a x) H → va_D A (W_FD cI cV cD vf a x) → va_S A s.heap H locs → lv_has ls 5 [(0, .ref (a 0)), (1, .int p1), (2, .int p2), (3, .ref (a 24))] → W p l e ({ frames := 9, cells := 4, slots := 24, locals := 165 } : Room) s m ([.ref (a 0), .int p1, .int p2, .ref (a 24)] : List Value).toArray below meth c H locs 0 0 (vx_MQ below (QR D (TY cI cV cJ cD) (W_FD cI cV cD vf a res.1) A (.inl (some (.int res.2)))) (XR D (TY cI cV cJ cD) (W_FD cI cV cD vf a res.1) A (.inl (some (.int res.2)))) (([.ref (a 0), .int p1, .int p2, .ref (a 24)] : List Value).toArray) s 4 24 A) (F0 m 0 ls []) := by
    intro H locs ls hf hP hD hS hl
    dsimp only [fL_points] at hf
    refine lv_aload_n hx hb dL_points_0 rfl (lv_at hl 3 rfl) ?_
    refine lv_iconst (v := 0) hx hb dL_points_1 (by decide) ?_
    refine lv_aload_n hx hb dL_points_2 rfl (lv_at hl 0 rfl) ?_
    refine lv_iload_n hx hb dL_points_3 rfl (lv_at hl 1 rfl) ?_
    refine lv_iload_n hx hb dL_points_4 rfl (lv_at hl 2 rfl) ?_
    obtain ⟨u1, hc2, hf⟩ := bind_t hf
    refine k_VX (As := [.int p1, .int p2]) (rest := [.int 0, .ref (a 24)]) (n := 2) ⟨hx, hb, hml, hown, hts⟩ (met_X7_points l hlt k vf a hvf (dF x) p1 p2 u1 hc2) w771 w772 w773 w1 w774 ⟨rfl, by decide +kernel, by decide +kernel, by decide +kernel⟩ ⟨Nat.le_of_ble_eq_true rfl, Nat.le_of_ble_eq_true rfl⟩ hK hE hP hD hS hA (isC := [0, 1, 2, 3, 4, 5, 6, 7, 8, 9, 10, 11, 12, 13, 14, 15, 16, 17, 18, 19, 20, 21, 22, 23]) (isR := [24]) (isB := [1, 2, 3, 4, 5, 6, 7, 8, 9, 10, 11, 12, 13, 14, 15, 16, 17, 18, 19, 20, 21, 22, 23, 24, 0]) (ws' := W_FD cI cV cD vf a x) ⟨([24] : List Nat).filterMap (fun i : Nat => (W_FD cI cV cD vf a x : va_W)[i]?), rfl, rfl, rfl, rfl, by decide, rfl, rfl⟩ 0 6 rfl rfl rfl rfl hl.1 rfl (Nat.le_of_ble_eq_true rfl) dL_points_5 ⟨Nat.le_of_ble_eq_true rfl, Nat.le_of_ble_eq_true rfl⟩ (fun E ce q9 H locs h5 hP hD hS hce hcv hcl => ?_) (fun rv9 H locs h5 hP hD hS => ?_)
    · obtain ⟨k3, hq9, hE9⟩ := rsF_x h5
      replace hf := thr_x hf hq9
      by_cases hk9 : k3 = 0
      · subst hk9
        replace hf := if_t rfl hf
        have hE9 : E = "java/lang/IndexOutOfBoundsException" := hE9
        subst hE9
        refine vx_catch (own := RL) (name := "java/lang/IndexOutOfBoundsException") hown [] ⟨0, 10, 13, 13⟩ [⟨0, 10, 17, 15⟩, ⟨0, 10, 21, 17⟩] htab (fun _ h => absurd h List.not_mem_nil) (by decide) (by decide) (hg _ w442) (va_Nw.use rfl (hE.1.2.2.2.2.1 _ (List.mem_of_getElem? (i := 0) rfl))) hce hcv hcl ?_
        refine W.eq (g2 := F0 m 13 ls [.ref q9]) rfl ?_
        refine lv_astore (lv' := [(4, .ref q9), (0, .ref (a 0)), (1, .int p1), (2, .int p2), (3, .ref (a 24))]) hx hb dL_points_13 hl (by decide) rfl (fun ls hl => ?_)
        refine lv_iconst (v := 1) hx hb dL_points_15 (by decide) ?_
        obtain rfl := Option.some.inj hf
        refine vx_ret ?_
        exact W.iret (v := 1) hx hb hr (fun t ht hW => ⟨_, rfl, ⟨rfl, by rw [ht]; exact hP, va_K.moved hW.alike hK, hD, hS.F ht⟩⟩) hS.2.2 dL_points_16 hlocks
      replace hf := if_f hk9 hf
      by_cases hk9 : k3 = 1
      · subst hk9
        replace hf := if_t rfl hf
        have hE9 : E = "java/lang/IllegalArgumentException" := hE9
        subst hE9
        refine vx_catch (own := RL) (name := "java/lang/IllegalArgumentException") hown [⟨0, 10, 13, 13⟩] ⟨0, 10, 17, 15⟩ [⟨0, 10, 21, 17⟩] htab (List.forall_mem_cons.mpr ⟨Or.inr ⟨by decide, "java/lang/IndexOutOfBoundsException", hg _ w442, hE.1.2.2.2.2.2.1 _ (List.mem_of_getElem? (i := 1) rfl) _ (List.mem_of_getElem? (i := 0) rfl) (by decide +kernel)⟩, fun _ h => absurd h List.not_mem_nil⟩) (by decide) (by decide) (hg _ w443) (va_Nw.use rfl (hE.1.2.2.2.2.1 _ (List.mem_of_getElem? (i := 1) rfl))) hce hcv hcl ?_
        refine W.eq (g2 := F0 m 17 ls [.ref q9]) rfl ?_
        refine lv_astore (lv' := [(4, .ref q9), (0, .ref (a 0)), (1, .int p1), (2, .int p2), (3, .ref (a 24))]) hx hb dL_points_17 hl (by decide) rfl (fun ls hl => ?_)
        refine lv_iconst (v := 2) hx hb dL_points_19 (by decide) ?_
        obtain rfl := Option.some.inj hf
        refine vx_ret ?_
        exact W.iret (v := 2) hx hb hr (fun t ht hW => ⟨_, rfl, ⟨rfl, by rw [ht]; exact hP, va_K.moved hW.alike hK, hD, hS.F ht⟩⟩) hS.2.2 dL_points_20 hlocks
      replace hf := if_f hk9 hf
      by_cases hk9 : k3 = 2
      · subst hk9
        replace hf := if_t rfl hf
        have hE9 : E = "java/lang/IllegalStateException" := hE9
        subst hE9
        refine vx_catch (own := RL) (name := "java/lang/IllegalStateException") hown [⟨0, 10, 13, 13⟩, ⟨0, 10, 17, 15⟩] ⟨0, 10, 21, 17⟩ [] htab (List.forall_mem_cons.mpr ⟨Or.inr ⟨by decide, "java/lang/IndexOutOfBoundsException", hg _ w442, hE.1.2.2.2.2.2.1 _ (List.mem_of_getElem? (i := 2) rfl) _ (List.mem_of_getElem? (i := 0) rfl) (by decide +kernel)⟩, List.forall_mem_cons.mpr ⟨Or.inr ⟨by decide, "java/lang/IllegalArgumentException", hg _ w443, hE.1.2.2.2.2.2.1 _ (List.mem_of_getElem? (i := 2) rfl) _ (List.mem_of_getElem? (i := 1) rfl) (by decide +kernel)⟩, fun _ h => absurd h List.not_mem_nil⟩⟩) (by decide) (by decide) (hg _ w444) (va_Nw.use rfl (hE.1.2.2.2.2.1 _ (List.mem_of_getElem? (i := 2) rfl))) hce hcv hcl ?_
        refine W.eq (g2 := F0 m 21 ls [.ref q9]) rfl ?_
        refine lv_astore (lv' := [(4, .ref q9), (0, .ref (a 0)), (1, .int p1), (2, .int p2), (3, .ref (a 24))]) hx hb dL_points_21 hl (by decide) rfl (fun ls hl => ?_)
        refine lv_iconst (v := 3) hx hb dL_points_23 (by decide) ?_
        obtain rfl := Option.some.inj hf
        refine vx_ret ?_
        exact W.iret (v := 3) hx hb hr (fun t ht hW => ⟨_, rfl, ⟨rfl, by rw [ht]; exact hP, va_K.moved hW.alike hK, hD, hS.F ht⟩⟩) hS.2.2 dL_points_24 hlocks
      replace hf := if_f hk9 hf
      cases hf
    obtain ⟨r4, hq9, rfl⟩ := rsF_v h5
    replace hf := thr_v hf hq9
    refine W.eq (g2 := F0 m 8 ls [.float r4, .int 0, .ref (a 24)]) rfl ?_
    obtain ⟨hz6, hf⟩ := chk_t hf
    refine lv_f2d hx hb dL_points_8 (n64_t hz6) ?_
    obtain ⟨hi7, hf⟩ := chk_t hf
    refine va_dast hx hb hK hP hD hS 24 3 rfl rfl (inb_in hi7) dL_points_9 (fun H locs hP hD hS => ?_)
    obtain ⟨x8, hx8⟩ : ∃ z, z = (dO_s x (vf_upd (dO x) (0 : Int32).toNatClampNeg (FP.f2d r4))) := ⟨_, rfl⟩
    replace hf := keep_e hf x8 hx8
    have hP : va_P D vwCl (W_FD cI cV cD vf a x8) H := by rw [hx8]; exact hP
    have hD : va_D A (W_FD cI cV cD vf a x8) := by rw [hx8]; exact hD
    refine lv_goto (tgt := 25) hx hb dL_points_10 (by decide) ?_
    refine lv_iconst (v := 0) hx hb dL_points_25 (by decide) ?_
    obtain rfl := Option.some.inj hf
    refine vx_ret ?_
    exact W.iret (v := 0) hx hb hr (fun t ht hW => ⟨_, rfl, ⟨rfl, by rw [ht]; exact hP, va_K.moved hW.alike hK, hD, hS.F ht⟩⟩) hS.2.2 dL_points_26 hlocks
  exact M0 s.heap [] ls hf hP hD hS hl
/-! CompactformsLaw.next(LCompactforms;II[J)I -/
def fL_next (k : Nat) (x : POSt) (p1 : Int32) (p2 : Int32) : Option (POSt × Int32) := (fX7_next k (pF x) p1 p2).bind (fun u1 => thr u1 (fun k3 => if k3 = 0 then some (x, 1) else if k3 = 1 then some (x, 2) else if k3 = 2 then some (x, 3) else none) (fun r4 => chk (inb 0 1) (keep (pO_s x (vp_updL (pO x) (0 : Int32).toNatClampNeg (r4).toInt64)) (fun x7 => some (x7, 0)))))
set_option maxHeartbeats 4000000 in
set_option maxRecDepth 100000 in
theorem met_L_next {D : va_G} {cI cV cJ cD : ClassId} (l : Launch) (hlt : l.stackTraces = false) (k : Nat) (vf : Nat → Option Nat) (a : Nat → Nat) (hvf : vf k = some (a 6)) (x : POSt) (p1 : Int32) (p2 : Int32) (res : POSt × Int32) (hf : fL_next k x p1 p2 = some res) : MXW l yL_next cL_next 5 (some .int) [(0, 10, 13, 13), (0, 10, 17, 15), (0, 10, 21, 17)] { frames := 8, cells := 3, slots := 18, locals := 144 } D (TY cI cV cJ cD) (W_FO cI cV cJ vf a x) (W_FO cI cV cJ vf a res.1) [.ref (a 0), .int p1, .int p2, .ref (a 24)] (.inl (some (.int res.2))) := by
  intro sz
  refine vx_ofWH (cc := cL_next) (maxL := 5) (ret := (some .int)) (hh := [(0, 10, 13, 13), (0, 10, 17, 15), (0, 10, 21, 17)]) (by decide +kernel) rfl ?_
  intro p e s m args below meth c s₁ B hml hv
  obtain ⟨rfl, hsz, hP, hK, hD0, hE⟩ := hv
  have hx := B.exec
  have hb := B.bytes
  have hr := B.returns
  have hts := atoms_spec (ws := .codeWith yL_next cL_next 5 (some .int) [(0, 10, 13, 13), (0, 10, 17, 15), (0, 10, 21, 17)] :: GW) B.pre
  have hg : ∀ w ∈ GW, w.before (([.ref (a 0), .int p1, .int p2, .ref (a 24)] : List Value).toArray) s = true := fun w h => hts w (List.mem_cons_of_mem _ h)
  have hown : s.vm.findClass RL = some m.cls := findClass_of_methodNamed B.named
  have hlocks := B.notSynchronized
  have htab : c.exceptionTable.toList = [⟨0, 10, 13, 13⟩, ⟨0, 10, 17, 15⟩, ⟨0, 10, 21, 17⟩] := vx_table (x := yL_next) B (hts _ List.mem_cons_self)
  subst hsz
  have hD := hD0.self (sz := s.heap.size)
  generalize hAe : va_A (W_FO cI cV cJ vf a x) s.heap.size = A at hD hE ⊢
  have hA : ∀ q : Nat, s.heap.size ≤ q → A q := fun q h => by rw [← hAe]; exact Or.inr h
  have hS : va_S A s.heap s.heap [] := va_S.rf
  have hl := lv_entry ([.ref (a 0), .int p1, .int p2, .ref (a 24)]) (n := 5) (Nat.le_of_ble_eq_true rfl)
  rw [lg_entry_eq]
  generalize (lg_sl ([.ref (a 0), .int p1, .int p2, .ref (a 24)]) ++ List.replicate (5 - (lg_sl ([.ref (a 0), .int p1, .int p2, .ref (a 24)])).length) Slot.unset).toArray = ls at hl ⊢
  have hl : lv_has ls 5 [(0, .ref (a 0)), (1, .int p1), (2, .int p2), (3, .ref (a 24))] := hl
  have M0 : ∀ (H : Heap) (locs : List Loc) (ls : Array Slot), fL_next k x p1 p2 = some res → va_P D vwCl (W_FO cI cV cJ vf a x) H → va_D A (W_FO cI cV cJ vf a x) → va_S A s.heap H locs → lv_has ls 5 [(0, .ref (a 0)), (1, .int p1), (2, .int p2), (3, .ref (a 24))] → W p l e ({ frames := 8, cells := 3, slots := 18, locals := 144 } : Room) s m ([.ref (a 0), .int p1, .int p2, .ref (a 24)] : List Value).toArray below meth c H locs 0 0 (vx_MQ below (QR D (TY cI cV cJ cD) (W_FO cI cV cJ vf a res.1) A (.inl (some (.int res.2)))) (XR D (TY cI cV cJ cD) (W_FO cI cV cJ vf a res.1) A (.inl (some (.int res.2)))) (([.ref (a 0), .int p1, .int p2, .ref (a 24)] : List Value).toArray) s 3 18 A) (F0 m 0 ls []) := by
    intro H locs ls hf hP hD hS hl
    dsimp only [fL_next] at hf
    refine lv_aload_n hx hb dL_next_0 rfl (lv_at hl 3 rfl) ?_
    refine lv_iconst (v := 0) hx hb dL_next_1 (by decide) ?_
    refine lv_aload_n hx hb dL_next_2 rfl (lv_at hl 0 rfl) ?_
    refine lv_iload_n hx hb dL_next_3 rfl (lv_at hl 1 rfl) ?_
    refine lv_iload_n hx hb dL_next_4 rfl (lv_at hl 2 rfl) ?_
    obtain ⟨u1, hc2, hf⟩ := bind_t hf
    refine k_VX (As := [.int p1, .int p2]) (rest := [.int 0, .ref (a 24)]) (n := 2) ⟨hx, hb, hml, hown, hts⟩ (met_X7_next l hlt k vf a hvf (pF x) p1 p2 u1 hc2) w796 w797 w798 w1 w799 ⟨rfl, by decide +kernel, by decide +kernel, by decide +kernel⟩ ⟨Nat.le_of_ble_eq_true rfl, Nat.le_of_ble_eq_true rfl⟩ hK hE hP hD hS hA (isC := [0, 1, 2, 3, 4, 5, 6, 7, 8, 9, 10, 11, 12, 13, 14, 15, 16, 17, 18, 19, 20, 21, 22, 23]) (isR := [24]) (isB := [1, 2, 3, 4, 5, 6, 7, 8, 9, 10, 11, 12, 13, 14, 15, 16, 17, 18, 19, 20, 21, 22, 23, 24, 0]) (ws' := W_FO cI cV cJ vf a x) ⟨([24] : List Nat).filterMap (fun i : Nat => (W_FO cI cV cJ vf a x : va_W)[i]?), rfl, rfl, rfl, rfl, by decide, rfl, rfl⟩ 0 6 rfl rfl rfl rfl hl.1 rfl (Nat.le_of_ble_eq_true rfl) dL_next_5 ⟨Nat.le_of_ble_eq_true rfl, Nat.le_of_ble_eq_true rfl⟩ (fun E ce q9 H locs h5 hP hD hS hce hcv hcl => ?_) (fun rv9 H locs h5 hP hD hS => ?_)
    · obtain ⟨k3, hq9, hE9⟩ := rsI_x h5
      replace hf := thr_x hf hq9
      by_cases hk9 : k3 = 0
      · subst hk9
        replace hf := if_t rfl hf
        have hE9 : E = "java/lang/IndexOutOfBoundsException" := hE9
        subst hE9
        refine vx_catch (own := RL) (name := "java/lang/IndexOutOfBoundsException") hown [] ⟨0, 10, 13, 13⟩ [⟨0, 10, 17, 15⟩, ⟨0, 10, 21, 17⟩] htab (fun _ h => absurd h List.not_mem_nil) (by decide) (by decide) (hg _ w442) (va_Nw.use rfl (hE.1.2.2.2.2.1 _ (List.mem_of_getElem? (i := 0) rfl))) hce hcv hcl ?_
        refine W.eq (g2 := F0 m 13 ls [.ref q9]) rfl ?_
        refine lv_astore (lv' := [(4, .ref q9), (0, .ref (a 0)), (1, .int p1), (2, .int p2), (3, .ref (a 24))]) hx hb dL_next_13 hl (by decide) rfl (fun ls hl => ?_)
        refine lv_iconst (v := 1) hx hb dL_next_15 (by decide) ?_
        obtain rfl := Option.some.inj hf
        refine vx_ret ?_
        exact W.iret (v := 1) hx hb hr (fun t ht hW => ⟨_, rfl, ⟨rfl, by rw [ht]; exact hP, va_K.moved hW.alike hK, hD, hS.F ht⟩⟩) hS.2.2 dL_next_16 hlocks
      replace hf := if_f hk9 hf
      by_cases hk9 : k3 = 1
      · subst hk9
        replace hf := if_t rfl hf
        have hE9 : E = "java/lang/IllegalArgumentException" := hE9
        subst hE9
        refine vx_catch (own := RL) (name := "java/lang/IllegalArgumentException") hown [⟨0, 10, 13, 13⟩] ⟨0, 10, 17, 15⟩ [⟨0, 10, 21, 17⟩] htab (List.forall_mem_cons.mpr ⟨Or.inr ⟨by decide, "java/lang/IndexOutOfBoundsException", hg _ w442, hE.1.2.2.2.2.2.1 _ (List.mem_of_getElem? (i := 1) rfl) _ (List.mem_of_getElem? (i := 0) rfl) (by decide +kernel)⟩, fun _ h => absurd h List.not_mem_nil⟩) (by decide) (by decide) (hg _ w443) (va_Nw.use rfl (hE.1.2.2.2.2.1 _ (List.mem_of_getElem? (i := 1) rfl))) hce hcv hcl ?_
        refine W.eq (g2 := F0 m 17 ls [.ref q9]) rfl ?_
        refine lv_astore (lv' := [(4, .ref q9), (0, .ref (a 0)), (1, .int p1), (2, .int p2), (3, .ref (a 24))]) hx hb dL_next_17 hl (by decide) rfl (fun ls hl => ?_)
        refine lv_iconst (v := 2) hx hb dL_next_19 (by decide) ?_
        obtain rfl := Option.some.inj hf
        refine vx_ret ?_
        exact W.iret (v := 2) hx hb hr (fun t ht hW => ⟨_, rfl, ⟨rfl, by rw [ht]; exact hP, va_K.moved hW.alike hK, hD, hS.F ht⟩⟩) hS.2.2 dL_next_20 hlocks
      replace hf := if_f hk9 hf
      by_cases hk9 : k3 = 2
      · subst hk9
        replace hf := if_t rfl hf
        have hE9 : E = "java/lang/IllegalStateException" := hE9
        subst hE9
        refine vx_catch (own := RL) (name := "java/lang/IllegalStateException") hown [⟨0, 10, 13, 13⟩, ⟨0, 10, 17, 15⟩] ⟨0, 10, 21, 17⟩ [] htab (List.forall_mem_cons.mpr ⟨Or.inr ⟨by decide, "java/lang/IndexOutOfBoundsException", hg _ w442, hE.1.2.2.2.2.2.1 _ (List.mem_of_getElem? (i := 2) rfl) _ (List.mem_of_getElem? (i := 0) rfl) (by decide +kernel)⟩, List.forall_mem_cons.mpr ⟨Or.inr ⟨by decide, "java/lang/IllegalArgumentException", hg _ w443, hE.1.2.2.2.2.2.1 _ (List.mem_of_getElem? (i := 2) rfl) _ (List.mem_of_getElem? (i := 1) rfl) (by decide +kernel)⟩, fun _ h => absurd h List.not_mem_nil⟩⟩) (by decide) (by decide) (hg _ w444) (va_Nw.use rfl (hE.1.2.2.2.2.1 _ (List.mem_of_getElem? (i := 2) rfl))) hce hcv hcl ?_
        refine W.eq (g2 := F0 m 21 ls [.ref q9]) rfl ?_
        refine lv_astore (lv' := [(4, .ref q9), (0, .ref (a 0)), (1, .int p1), (2, .int p2), (3, .ref (a 24))]) hx hb dL_next_21 hl (by decide) rfl (fun ls hl => ?_)
        refine lv_iconst (v := 3) hx hb dL_next_23 (by decide) ?_
        obtain rfl := Option.some.inj hf
        refine vx_ret ?_
        exact W.iret (v := 3) hx hb hr (fun t ht hW => ⟨_, rfl, ⟨rfl, by rw [ht]; exact hP, va_K.moved hW.alike hK, hD, hS.F ht⟩⟩) hS.2.2 dL_next_24 hlocks
      replace hf := if_f hk9 hf
      cases hf
    obtain ⟨r4, hq9, rfl⟩ := rsI_v h5
    replace hf := thr_v hf hq9
    refine W.eq (g2 := F0 m 8 ls [.int r4, .int 0, .ref (a 24)]) rfl ?_
    refine lv_i2l (v := (r4).toInt64) hx hb dL_next_8 rfl ?_
    obtain ⟨hi6, hf⟩ := chk_t hf
    refine va_last hx hb hK hP hD hS 24 2 rfl rfl (inb_in hi6) dL_next_9 (fun H locs hP hD hS => ?_)
    obtain ⟨x7, hx7⟩ : ∃ z, z = (pO_s x (vp_updL (pO x) (0 : Int32).toNatClampNeg (r4).toInt64)) := ⟨_, rfl⟩
    replace hf := keep_e hf x7 hx7
    have hP : va_P D vwCl (W_FO cI cV cJ vf a x7) H := by rw [hx7]; exact hP
    have hD : va_D A (W_FO cI cV cJ vf a x7) := by rw [hx7]; exact hD
    refine lv_goto (tgt := 25) hx hb dL_next_10 (by decide) ?_
    refine lv_iconst (v := 0) hx hb dL_next_25 (by decide) ?_
    obtain rfl := Option.some.inj hf
    refine vx_ret ?_
    exact W.iret (v := 0) hx hb hr (fun t ht hW => ⟨_, rfl, ⟨rfl, by rw [ht]; exact hP, va_K.moved hW.alike hK, hD, hS.F ht⟩⟩) hS.2.2 dL_next_26 hlocks
  exact M0 s.heap [] ls hf hP hD hS hl
/-! CompactformsLaw.scanned(LCompactforms;III[J)I -/
def fL_scanned (k : Nat) (x : POSt) (p1 : Int32) (p2 : Int32) (p3 : Int32) : Option (POSt × Int32) := (fX7_scanned k (pF x) p1 p2 p3).bind (fun u1 => thr u1 (fun k3 => if k3 = 0 then some (x, 1) else if k3 = 1 then some (x, 2) else if k3 = 2 then some (x, 3) else none) (fun r4 => chk (inb 0 1) (keep (pO_s x (vp_updL (pO x) (0 : Int32).toNatClampNeg (r4).toInt64)) (fun x7 => some (x7, 0)))))
set_option maxHeartbeats 4000000 in
set_option maxRecDepth 100000 in
theorem met_L_scanned {D : va_G} {cI cV cJ cD : ClassId} (l : Launch) (hlt : l.stackTraces = false) (k : Nat) (vf : Nat → Option Nat) (a : Nat → Nat) (hvf : vf k = some (a 6)) (x : POSt) (p1 : Int32) (p2 : Int32) (p3 : Int32) (res : POSt × Int32) (hf : fL_scanned k x p1 p2 p3 = some res) : MXW l yL_scanned cL_scanned 6 (some .int) [(0, 12, 15, 13), (0, 12, 19, 15), (0, 12, 23, 17)] { frames := 8, cells := 3, slots := 18, locals := 146 } D (TY cI cV cJ cD) (W_FO cI cV cJ vf a x) (W_FO cI cV cJ vf a res.1) [.ref (a 0), .int p1, .int p2, .int p3, .ref (a 24)] (.inl (some (.int res.2))) := by
  intro sz
  refine vx_ofWH (cc := cL_scanned) (maxL := 6) (ret := (some .int)) (hh := [(0, 12, 15, 13), (0, 12, 19, 15), (0, 12, 23, 17)]) (by decide +kernel) rfl ?_
  intro p e s m args below meth c s₁ B hml hv
  obtain ⟨rfl, hsz, hP, hK, hD0, hE⟩ := hv
  have hx := B.exec
  have hb := B.bytes
  have hr := B.returns
  have hts := atoms_spec (ws := .codeWith yL_scanned cL_scanned 6 (some .int) [(0, 12, 15, 13), (0, 12, 19, 15), (0, 12, 23, 17)] :: GW) B.pre
  have hg : ∀ w ∈ GW, w.before (([.ref (a 0), .int p1, .int p2, .int p3, .ref (a 24)] : List Value).toArray) s = true := fun w h => hts w (List.mem_cons_of_mem _ h)
  have hown : s.vm.findClass RL = some m.cls := findClass_of_methodNamed B.named
  have hlocks := B.notSynchronized
  have htab : c.exceptionTable.toList = [⟨0, 12, 15, 13⟩, ⟨0, 12, 19, 15⟩, ⟨0, 12, 23, 17⟩] := vx_table (x := yL_scanned) B (hts _ List.mem_cons_self)
  subst hsz
  have hD := hD0.self (sz := s.heap.size)
  generalize hAe : va_A (W_FO cI cV cJ vf a x) s.heap.size = A at hD hE ⊢
  have hA : ∀ q : Nat, s.heap.size ≤ q → A q := fun q h => by rw [← hAe]; exact Or.inr h
  have hS : va_S A s.heap s.heap [] := va_S.rf
  have hl := lv_entry ([.ref (a 0), .int p1, .int p2, .int p3, .ref (a 24)]) (n := 6) (Nat.le_of_ble_eq_true rfl)
  rw [lg_entry_eq]
  generalize (lg_sl ([.ref (a 0), .int p1, .int p2, .int p3, .ref (a 24)]) ++ List.replicate (6 - (lg_sl ([.ref (a 0), .int p1, .int p2, .int p3, .ref (a 24)])).length) Slot.unset).toArray = ls at hl ⊢
  have hl : lv_has ls 6 [(0, .ref (a 0)), (1, .int p1), (2, .int p2), (3, .int p3), (4, .ref (a 24))] := hl
  have M0 : ∀ (H : Heap) (locs : List Loc) (ls : Array Slot), fL_scanned k x p1 p2 p3 = some res → va_P D vwCl (W_FO cI cV cJ vf a x) H → va_D A (W_FO cI cV cJ vf a x) → va_S A s.heap H locs → lv_has ls 6 [(0, .ref (a 0)), (1, .int p1), (2, .int p2), (3, .int p3), (4, .ref (a 24))] → W p l e ({ frames := 8, cells := 3, slots := 18, locals := 146 } : Room) s m ([.ref (a 0), .int p1, .int p2, .int p3, .ref (a 24)] : List Value).toArray below meth c H locs 0 0 (vx_MQ below (QR D (TY cI cV cJ cD) (W_FO cI cV cJ vf a res.1) A (.inl (some (.int res.2)))) (XR D (TY cI cV cJ cD) (W_FO cI cV cJ vf a res.1) A (.inl (some (.int res.2)))) (([.ref (a 0), .int p1, .int p2, .int p3, .ref (a 24)] : List Value).toArray) s 3 18 A) (F0 m 0 ls []) := by
    intro H locs ls hf hP hD hS hl
    dsimp only [fL_scanned] at hf
    refine lv_aload hx hb dL_scanned_0 (lv_at hl 4 rfl) ?_
    refine lv_iconst (v := 0) hx hb dL_scanned_2 (by decide) ?_
    refine lv_aload_n hx hb dL_scanned_3 rfl (lv_at hl 0 rfl) ?_
    refine lv_iload_n hx hb dL_scanned_4 rfl (lv_at hl 1 rfl) ?_
    refine lv_iload_n hx hb dL_scanned_5 rfl (lv_at hl 2 rfl) ?_
    refine lv_iload_n hx hb dL_scanned_6 rfl (lv_at hl 3 rfl) ?_
    obtain ⟨u1, hc2, hf⟩ := bind_t hf
    refine k_VX (As := [.int p1, .int p2, .int p3]) (rest := [.int 0, .ref (a 24)]) (n := 3) ⟨hx, hb, hml, hown, hts⟩ (met_X7_scanned l hlt k vf a hvf (pF x) p1 p2 p3 u1 hc2) w811 w812 w813 w1 w814 ⟨rfl, by decide +kernel, by decide +kernel, by decide +kernel⟩ ⟨Nat.le_of_ble_eq_true rfl, Nat.le_of_ble_eq_true rfl⟩ hK hE hP hD hS hA (isC := [0, 1, 2, 3, 4, 5, 6, 7, 8, 9, 10, 11, 12, 13, 14, 15, 16, 17, 18, 19, 20, 21, 22, 23]) (isR := [24]) (isB := [1, 2, 3, 4, 5, 6, 7, 8, 9, 10, 11, 12, 13, 14, 15, 16, 17, 18, 19, 20, 21, 22, 23, 24, 0]) (ws' := W_FO cI cV cJ vf a x) ⟨([24] : List Nat).filterMap (fun i : Nat => (W_FO cI cV cJ vf a x : va_W)[i]?), rfl, rfl, rfl, rfl, by decide, rfl, rfl⟩ 0 6 rfl rfl rfl rfl hl.1 rfl (Nat.le_of_ble_eq_true rfl) dL_scanned_7 ⟨Nat.le_of_ble_eq_true rfl, Nat.le_of_ble_eq_true rfl⟩ (fun E ce q9 H locs h5 hP hD hS hce hcv hcl => ?_) (fun rv9 H locs h5 hP hD hS => ?_)
    · obtain ⟨k3, hq9, hE9⟩ := rsI_x h5
      replace hf := thr_x hf hq9
      by_cases hk9 : k3 = 0
      · subst hk9
        replace hf := if_t rfl hf
        have hE9 : E = "java/lang/IndexOutOfBoundsException" := hE9
        subst hE9
        refine vx_catch (own := RL) (name := "java/lang/IndexOutOfBoundsException") hown [] ⟨0, 12, 15, 13⟩ [⟨0, 12, 19, 15⟩, ⟨0, 12, 23, 17⟩] htab (fun _ h => absurd h List.not_mem_nil) (by decide) (by decide) (hg _ w442) (va_Nw.use rfl (hE.1.2.2.2.2.1 _ (List.mem_of_getElem? (i := 0) rfl))) hce hcv hcl ?_
        refine W.eq (g2 := F0 m 15 ls [.ref q9]) rfl ?_
        refine lv_astore (lv' := [(5, .ref q9), (0, .ref (a 0)), (1, .int p1), (2, .int p2), (3, .int p3), (4, .ref (a 24))]) hx hb dL_scanned_15 hl (by decide) rfl (fun ls hl => ?_)
        refine lv_iconst (v := 1) hx hb dL_scanned_17 (by decide) ?_
        obtain rfl := Option.some.inj hf
        refine vx_ret ?_
        exact W.iret (v := 1) hx hb hr (fun t ht hW => ⟨_, rfl, ⟨rfl, by rw [ht]; exact hP, va_K.moved hW.alike hK, hD, hS.F ht⟩⟩) hS.2.2 dL_scanned_18 hlocks
      replace hf := if_f hk9 hf
      by_cases hk9 : k3 = 1
      · subst hk9
        replace hf := if_t rfl hf
        have hE9 : E = "java/lang/IllegalArgumentException" := hE9
        subst hE9
        refine vx_catch (own := RL) (name := "java/lang/IllegalArgumentException") hown [⟨0, 12, 15, 13⟩] ⟨0, 12, 19, 15⟩ [⟨0, 12, 23, 17⟩] htab (List.forall_mem_cons.mpr ⟨Or.inr ⟨by decide, "java/lang/IndexOutOfBoundsException", hg _ w442, hE.1.2.2.2.2.2.1 _ (List.mem_of_getElem? (i := 1) rfl) _ (List.mem_of_getElem? (i := 0) rfl) (by decide +kernel)⟩, fun _ h => absurd h List.not_mem_nil⟩) (by decide) (by decide) (hg _ w443) (va_Nw.use rfl (hE.1.2.2.2.2.1 _ (List.mem_of_getElem? (i := 1) rfl))) hce hcv hcl ?_
        refine W.eq (g2 := F0 m 19 ls [.ref q9]) rfl ?_
        refine lv_astore (lv' := [(5, .ref q9), (0, .ref (a 0)), (1, .int p1), (2, .int p2), (3, .int p3), (4, .ref (a 24))]) hx hb dL_scanned_19 hl (by decide) rfl (fun ls hl => ?_)
        refine lv_iconst (v := 2) hx hb dL_scanned_21 (by decide) ?_
        obtain rfl := Option.some.inj hf
        refine vx_ret ?_
        exact W.iret (v := 2) hx hb hr (fun t ht hW => ⟨_, rfl, ⟨rfl, by rw [ht]; exact hP, va_K.moved hW.alike hK, hD, hS.F ht⟩⟩) hS.2.2 dL_scanned_22 hlocks
      replace hf := if_f hk9 hf
      by_cases hk9 : k3 = 2
      · subst hk9
        replace hf := if_t rfl hf
        have hE9 : E = "java/lang/IllegalStateException" := hE9
        subst hE9
        refine vx_catch (own := RL) (name := "java/lang/IllegalStateException") hown [⟨0, 12, 15, 13⟩, ⟨0, 12, 19, 15⟩] ⟨0, 12, 23, 17⟩ [] htab (List.forall_mem_cons.mpr ⟨Or.inr ⟨by decide, "java/lang/IndexOutOfBoundsException", hg _ w442, hE.1.2.2.2.2.2.1 _ (List.mem_of_getElem? (i := 2) rfl) _ (List.mem_of_getElem? (i := 0) rfl) (by decide +kernel)⟩, List.forall_mem_cons.mpr ⟨Or.inr ⟨by decide, "java/lang/IllegalArgumentException", hg _ w443, hE.1.2.2.2.2.2.1 _ (List.mem_of_getElem? (i := 2) rfl) _ (List.mem_of_getElem? (i := 1) rfl) (by decide +kernel)⟩, fun _ h => absurd h List.not_mem_nil⟩⟩) (by decide) (by decide) (hg _ w444) (va_Nw.use rfl (hE.1.2.2.2.2.1 _ (List.mem_of_getElem? (i := 2) rfl))) hce hcv hcl ?_
        refine W.eq (g2 := F0 m 23 ls [.ref q9]) rfl ?_
        refine lv_astore (lv' := [(5, .ref q9), (0, .ref (a 0)), (1, .int p1), (2, .int p2), (3, .int p3), (4, .ref (a 24))]) hx hb dL_scanned_23 hl (by decide) rfl (fun ls hl => ?_)
        refine lv_iconst (v := 3) hx hb dL_scanned_25 (by decide) ?_
        obtain rfl := Option.some.inj hf
        refine vx_ret ?_
        exact W.iret (v := 3) hx hb hr (fun t ht hW => ⟨_, rfl, ⟨rfl, by rw [ht]; exact hP, va_K.moved hW.alike hK, hD, hS.F ht⟩⟩) hS.2.2 dL_scanned_26 hlocks
      replace hf := if_f hk9 hf
      cases hf
    obtain ⟨r4, hq9, rfl⟩ := rsI_v h5
    replace hf := thr_v hf hq9
    refine W.eq (g2 := F0 m 10 ls [.int r4, .int 0, .ref (a 24)]) rfl ?_
    refine lv_i2l (v := (r4).toInt64) hx hb dL_scanned_10 rfl ?_
    obtain ⟨hi6, hf⟩ := chk_t hf
    refine va_last hx hb hK hP hD hS 24 2 rfl rfl (inb_in hi6) dL_scanned_11 (fun H locs hP hD hS => ?_)
    obtain ⟨x7, hx7⟩ : ∃ z, z = (pO_s x (vp_updL (pO x) (0 : Int32).toNatClampNeg (r4).toInt64)) := ⟨_, rfl⟩
    replace hf := keep_e hf x7 hx7
    have hP : va_P D vwCl (W_FO cI cV cJ vf a x7) H := by rw [hx7]; exact hP
    have hD : va_D A (W_FO cI cV cJ vf a x7) := by rw [hx7]; exact hD
    refine lv_goto (tgt := 27) hx hb dL_scanned_12 (by decide) ?_
    refine lv_iconst (v := 0) hx hb dL_scanned_27 (by decide) ?_
    obtain rfl := Option.some.inj hf
    refine vx_ret ?_
    exact W.iret (v := 0) hx hb hr (fun t ht hW => ⟨_, rfl, ⟨rfl, by rw [ht]; exact hP, va_K.moved hW.alike hK, hD, hS.F ht⟩⟩) hS.2.2 dL_scanned_28 hlocks
  exact M0 s.heap [] ls hf hP hD hS hl

/-! CompactformsLaw.push(LCompactforms;IIZ[J)I -/
def fL_push (k : Nat) (x : POSt) (p1 : Int32) (p2 : Int32) (p3 : Int32) : Option (POSt × Int32) := (fX7_push k (pF x) p1 p2 p3).bind (fun u1 => keep (pF_s x u1.1) (fun x6 => thr u1.2 (fun k3 => if k3 = 0 then some (x6, 1) else if k3 = 1 then some (x6, 2) else if k3 = 2 then some (x6, 3) else none) (fun r4 => chk (inb 0 1) (keep (pO_s x6 (vp_updL (pO x6) (0 : Int32).toNatClampNeg (r4).toInt64)) (fun x8 => some (x8, 0))))))
set_option maxHeartbeats 4000000 in
set_option maxRecDepth 100000 in
theorem met_L_push {D : va_G} {cI cV cJ cD : ClassId} (l : Launch) (hlt : l.stackTraces = false) (k : Nat) (vf : Nat → Option Nat) (a : Nat → Nat) (hvf : vf k = some (a 6)) (x : POSt) (p1 : Int32) (p2 : Int32) (p3 : Int32) (res : POSt × Int32) (hf : fL_push k x p1 p2 p3 = some res) : MXW l yL_push cL_push 6 (some .int) [(0, 12, 15, 13), (0, 12, 19, 15), (0, 12, 23, 17)] { frames := 9, cells := 5, slots := 30, locals := 203 } D (TY cI cV cJ cD) (W_FO cI cV cJ vf a x) (W_FO cI cV cJ vf a res.1) [.ref (a 0), .int p1, .int p2, .int p3, .ref (a 24)] (.inl (some (.int res.2))) := by
  intro sz
  refine vx_ofWH (cc := cL_push) (maxL := 6) (ret := (some .int)) (hh := [(0, 12, 15, 13), (0, 12, 19, 15), (0, 12, 23, 17)]) (by decide +kernel) rfl ?_
  intro p e s m args below meth c s₁ B hml hv
  obtain ⟨rfl, hsz, hP, hK, hD0, hE⟩ := hv
  have hx := B.exec
  have hb := B.bytes
  have hr := B.returns
  have hts := atoms_spec (ws := .codeWith yL_push cL_push 6 (some .int) [(0, 12, 15, 13), (0, 12, 19, 15), (0, 12, 23, 17)] :: GW) B.pre
  have hg : ∀ w ∈ GW, w.before (([.ref (a 0), .int p1, .int p2, .int p3, .ref (a 24)] : List Value).toArray) s = true := fun w h => hts w (List.mem_cons_of_mem _ h)
  have hown : s.vm.findClass RL = some m.cls := findClass_of_methodNamed B.named
  have hlocks := B.notSynchronized
  have htab : c.exceptionTable.toList = [⟨0, 12, 15, 13⟩, ⟨0, 12, 19, 15⟩, ⟨0, 12, 23, 17⟩] := vx_table (x := yL_push) B (hts _ List.mem_cons_self)
  subst hsz
  have hD := hD0.self (sz := s.heap.size)
  generalize hAe : va_A (W_FO cI cV cJ vf a x) s.heap.size = A at hD hE ⊢
  have hA : ∀ q : Nat, s.heap.size ≤ q → A q := fun q h => by rw [← hAe]; exact Or.inr h
  have hS : va_S A s.heap s.heap [] := va_S.rf
  have hl := lv_entry ([.ref (a 0), .int p1, .int p2, .int p3, .ref (a 24)]) (n := 6) (Nat.le_of_ble_eq_true rfl)
  rw [lg_entry_eq]
  generalize (lg_sl ([.ref (a 0), .int p1, .int p2, .int p3, .ref (a 24)]) ++ List.replicate (6 - (lg_sl ([.ref (a 0), .int p1, .int p2, .int p3, .ref (a 24)])).length) Slot.unset).toArray = ls at hl ⊢
  have hl : lv_has ls 6 [(0, .ref (a 0)), (1, .int p1), (2, .int p2), (3, .int p3), (4, .ref (a 24))] := hl
  have M0 : ∀ (H : Heap) (locs : List Loc) (ls : Array Slot), fL_push k x p1 p2 p3 = some res → va_P D vwCl (W_FO cI cV cJ vf a x) H → va_D A (W_FO cI cV cJ vf a x) → va_S A s.heap H locs → lv_has ls 6 [(0, .ref (a 0)), (1, .int p1), (2, .int p2), (3, .int p3), (4, .ref (a 24))] → W p l e ({ frames := 9, cells := 5, slots := 30, locals := 203 } : Room) s m ([.ref (a 0), .int p1, .int p2, .int p3, .ref (a 24)] : List Value).toArray below meth c H locs 0 0 (vx_MQ below (QR D (TY cI cV cJ cD) (W_FO cI cV cJ vf a res.1) A (.inl (some (.int res.2)))) (XR D (TY cI cV cJ cD) (W_FO cI cV cJ vf a res.1) A (.inl (some (.int res.2)))) (([.ref (a 0), .int p1, .int p2, .int p3, .ref (a 24)] : List Value).toArray) s 5 30 A) (F0 m 0 ls []) := by
    intro H locs ls hf hP hD hS hl
    dsimp only [fL_push] at hf
    refine lv_aload hx hb dL_push_0 (lv_at hl 4 rfl) ?_
    refine lv_iconst (v := 0) hx hb dL_push_2 (by decide) ?_
    refine lv_aload_n hx hb dL_push_3 rfl (lv_at hl 0 rfl) ?_
    refine lv_iload_n hx hb dL_push_4 rfl (lv_at hl 1 rfl) ?_
    refine lv_iload_n hx hb dL_push_5 rfl (lv_at hl 2 rfl) ?_
    refine lv_iload_n hx hb dL_push_6 rfl (lv_at hl 3 rfl) ?_
    obtain ⟨u1, hc2, hf⟩ := bind_t hf
    try dsimp only at hf
    obtain ⟨x6, hx6⟩ : ∃ z, z = (pF_s x u1.1) := ⟨_, rfl⟩
    replace hf := keep_e hf x6 hx6
    refine k_VX (As := [.int p1, .int p2, .int p3]) (rest := [.int 0, .ref (a 24)]) (n := 3) ⟨hx, hb, hml, hown, hts⟩ (met_X7_push l hlt k vf a hvf (pF x) p1 p2 p3 u1 hc2) w445 w446 w447 w1 w448 ⟨rfl, by decide +kernel, by decide +kernel, by decide +kernel⟩ ⟨Nat.le_of_ble_eq_true rfl, Nat.le_of_ble_eq_true rfl⟩ hK hE hP hD hS hA (isC := [0, 1, 2, 3, 4, 5, 6, 7, 8, 9, 10, 11, 12, 13, 14, 15, 16, 17, 18, 19, 20, 21, 22, 23]) (isR := [24]) (isB := [1, 2, 3, 4, 5, 6, 7, 8, 9, 10, 11, 12, 13, 14, 15, 16, 17, 18, 19, 20, 21, 22, 23, 24, 0]) (ws' := W_FO cI cV cJ vf a (pF_s x u1.1)) ⟨([24] : List Nat).filterMap (fun i : Nat => (W_FO cI cV cJ vf a x : va_W)[i]?), rfl, rfl, rfl, rfl, by decide, rfl, rfl⟩ 0 6 rfl rfl rfl rfl hl.1 rfl (Nat.le_of_ble_eq_true rfl) dL_push_7 ⟨Nat.le_of_ble_eq_true rfl, Nat.le_of_ble_eq_true rfl⟩ (fun E ce q9 H locs h5 hP hD hS hce hcv hcl => ?_) (fun rv9 H locs h5 hP hD hS => ?_)
    · obtain ⟨k3, hq9, hE9⟩ := rsI_x h5
      replace hf := thr_x hf hq9
      by_cases hk9 : k3 = 0
      · subst hk9
        replace hf := if_t rfl hf
        have hP : va_P D vwCl (W_FO cI cV cJ vf a x6) H := by rw [hx6]; exact hP
        have hD : va_D A (W_FO cI cV cJ vf a x6) := by rw [hx6]; exact hD
        have hE9 : E = "java/lang/IndexOutOfBoundsException" := hE9
        subst hE9
        refine vx_catch (own := RL) (name := "java/lang/IndexOutOfBoundsException") hown [] ⟨0, 12, 15, 13⟩ [⟨0, 12, 19, 15⟩, ⟨0, 12, 23, 17⟩] htab (fun _ h => absurd h List.not_mem_nil) (by decide) (by decide) (hg _ w442) (va_Nw.use rfl (hE.1.2.2.2.2.1 _ (List.mem_of_getElem? (i := 0) rfl))) hce hcv hcl ?_
        refine W.eq (g2 := F0 m 15 ls [.ref q9]) rfl ?_
        refine lv_astore (lv' := [(5, .ref q9), (0, .ref (a 0)), (1, .int p1), (2, .int p2), (3, .int p3), (4, .ref (a 24))]) hx hb dL_push_15 hl (by decide) rfl (fun ls hl => ?_)
        refine lv_iconst (v := 1) hx hb dL_push_17 (by decide) ?_
        obtain rfl := Option.some.inj hf
        refine vx_ret ?_
        exact W.iret (v := 1) hx hb hr (fun t ht hW => ⟨_, rfl, ⟨rfl, by rw [ht]; exact hP, va_K.moved hW.alike hK, hD, hS.F ht⟩⟩) hS.2.2 dL_push_18 hlocks
      replace hf := if_f hk9 hf
      by_cases hk9 : k3 = 1
      · subst hk9
        replace hf := if_t rfl hf
        have hP : va_P D vwCl (W_FO cI cV cJ vf a x6) H := by rw [hx6]; exact hP
        have hD : va_D A (W_FO cI cV cJ vf a x6) := by rw [hx6]; exact hD
        have hE9 : E = "java/lang/IllegalArgumentException" := hE9
        subst hE9
        refine vx_catch (own := RL) (name := "java/lang/IllegalArgumentException") hown [⟨0, 12, 15, 13⟩] ⟨0, 12, 19, 15⟩ [⟨0, 12, 23, 17⟩] htab (List.forall_mem_cons.mpr ⟨Or.inr ⟨by decide, "java/lang/IndexOutOfBoundsException", hg _ w442, hE.1.2.2.2.2.2.1 _ (List.mem_of_getElem? (i := 1) rfl) _ (List.mem_of_getElem? (i := 0) rfl) (by decide +kernel)⟩, fun _ h => absurd h List.not_mem_nil⟩) (by decide) (by decide) (hg _ w443) (va_Nw.use rfl (hE.1.2.2.2.2.1 _ (List.mem_of_getElem? (i := 1) rfl))) hce hcv hcl ?_
        refine W.eq (g2 := F0 m 19 ls [.ref q9]) rfl ?_
        refine lv_astore (lv' := [(5, .ref q9), (0, .ref (a 0)), (1, .int p1), (2, .int p2), (3, .int p3), (4, .ref (a 24))]) hx hb dL_push_19 hl (by decide) rfl (fun ls hl => ?_)
        refine lv_iconst (v := 2) hx hb dL_push_21 (by decide) ?_
        obtain rfl := Option.some.inj hf
        refine vx_ret ?_
        exact W.iret (v := 2) hx hb hr (fun t ht hW => ⟨_, rfl, ⟨rfl, by rw [ht]; exact hP, va_K.moved hW.alike hK, hD, hS.F ht⟩⟩) hS.2.2 dL_push_22 hlocks
      replace hf := if_f hk9 hf
      by_cases hk9 : k3 = 2
      · subst hk9
        replace hf := if_t rfl hf
        have hP : va_P D vwCl (W_FO cI cV cJ vf a x6) H := by rw [hx6]; exact hP
        have hD : va_D A (W_FO cI cV cJ vf a x6) := by rw [hx6]; exact hD
        have hE9 : E = "java/lang/IllegalStateException" := hE9
        subst hE9
        refine vx_catch (own := RL) (name := "java/lang/IllegalStateException") hown [⟨0, 12, 15, 13⟩, ⟨0, 12, 19, 15⟩] ⟨0, 12, 23, 17⟩ [] htab (List.forall_mem_cons.mpr ⟨Or.inr ⟨by decide, "java/lang/IndexOutOfBoundsException", hg _ w442, hE.1.2.2.2.2.2.1 _ (List.mem_of_getElem? (i := 2) rfl) _ (List.mem_of_getElem? (i := 0) rfl) (by decide +kernel)⟩, List.forall_mem_cons.mpr ⟨Or.inr ⟨by decide, "java/lang/IllegalArgumentException", hg _ w443, hE.1.2.2.2.2.2.1 _ (List.mem_of_getElem? (i := 2) rfl) _ (List.mem_of_getElem? (i := 1) rfl) (by decide +kernel)⟩, fun _ h => absurd h List.not_mem_nil⟩⟩) (by decide) (by decide) (hg _ w444) (va_Nw.use rfl (hE.1.2.2.2.2.1 _ (List.mem_of_getElem? (i := 2) rfl))) hce hcv hcl ?_
        refine W.eq (g2 := F0 m 23 ls [.ref q9]) rfl ?_
        refine lv_astore (lv' := [(5, .ref q9), (0, .ref (a 0)), (1, .int p1), (2, .int p2), (3, .int p3), (4, .ref (a 24))]) hx hb dL_push_23 hl (by decide) rfl (fun ls hl => ?_)
        refine lv_iconst (v := 3) hx hb dL_push_25 (by decide) ?_
        obtain rfl := Option.some.inj hf
        refine vx_ret ?_
        exact W.iret (v := 3) hx hb hr (fun t ht hW => ⟨_, rfl, ⟨rfl, by rw [ht]; exact hP, va_K.moved hW.alike hK, hD, hS.F ht⟩⟩) hS.2.2 dL_push_26 hlocks
      replace hf := if_f hk9 hf
      cases hf
    obtain ⟨r4, hq9, rfl⟩ := rsI_v h5
    replace hf := thr_v hf hq9
    have hP : va_P D vwCl (W_FO cI cV cJ vf a x6) H := by rw [hx6]; exact hP
    have hD : va_D A (W_FO cI cV cJ vf a x6) := by rw [hx6]; exact hD
    refine W.eq (g2 := F0 m 10 ls [.int r4, .int 0, .ref (a 24)]) rfl ?_
    refine lv_i2l (v := (r4).toInt64) hx hb dL_push_10 rfl ?_
    obtain ⟨hi7, hf⟩ := chk_t hf
    refine va_last hx hb hK hP hD hS 24 2 rfl rfl (inb_in hi7) dL_push_11 (fun H locs hP hD hS => ?_)
    obtain ⟨x8, hx8⟩ : ∃ z, z = (pO_s x6 (vp_updL (pO x6) (0 : Int32).toNatClampNeg (r4).toInt64)) := ⟨_, rfl⟩
    replace hf := keep_e hf x8 hx8
    have hP : va_P D vwCl (W_FO cI cV cJ vf a x8) H := by rw [hx8]; exact hP
    have hD : va_D A (W_FO cI cV cJ vf a x8) := by rw [hx8]; exact hD
    refine lv_goto (tgt := 27) hx hb dL_push_12 (by decide) ?_
    refine lv_iconst (v := 0) hx hb dL_push_27 (by decide) ?_
    obtain rfl := Option.some.inj hf
    refine vx_ret ?_
    exact W.iret (v := 0) hx hb hr (fun t ht hW => ⟨_, rfl, ⟨rfl, by rw [ht]; exact hP, va_K.moved hW.alike hK, hD, hS.F ht⟩⟩) hS.2.2 dL_push_28 hlocks
  exact M0 s.heap [] ls hf hP hD hS hl
/-! CompactformsLaw.pop(LCompactforms;IZ[J)I -/
def fL_pop (k : Nat) (x : POSt) (p1 : Int32) (p2 : Int32) : Option (POSt × Int32) := (fX7_pop k (pF x) p1 p2).bind (fun u1 => keep (pF_s x u1.1) (fun x6 => thr u1.2 (fun k3 => if k3 = 0 then some (x6, 1) else if k3 = 2 then some (x6, 2) else none) (fun r4 => chk (inb 0 1) (keep (pO_s x6 (vp_updL (pO x6) (0 : Int32).toNatClampNeg (r4).toInt64)) (fun x8 => some (x8, 0))))))
set_option maxHeartbeats 4000000 in
set_option maxRecDepth 100000 in
theorem met_L_pop {D : va_G} {cI cV cJ cD : ClassId} (l : Launch) (hlt : l.stackTraces = false) (k : Nat) (vf : Nat → Option Nat) (a : Nat → Nat) (hvf : vf k = some (a 6)) (x : POSt) (p1 : Int32) (p2 : Int32) (res : POSt × Int32) (hf : fL_pop k x p1 p2 = some res) : MXW l yL_pop cL_pop 5 (some .int) [(0, 10, 13, 13), (0, 10, 17, 17)] { frames := 8, cells := 3, slots := 18, locals := 202 } D (TY cI cV cJ cD) (W_FO cI cV cJ vf a x) (W_FO cI cV cJ vf a res.1) [.ref (a 0), .int p1, .int p2, .ref (a 24)] (.inl (some (.int res.2))) := by
  intro sz
  refine vx_ofWH (cc := cL_pop) (maxL := 5) (ret := (some .int)) (hh := [(0, 10, 13, 13), (0, 10, 17, 17)]) (by decide +kernel) rfl ?_
  intro p e s m args below meth c s₁ B hml hv
  obtain ⟨rfl, hsz, hP, hK, hD0, hE⟩ := hv
  have hx := B.exec
  have hb := B.bytes
  have hr := B.returns
  have hts := atoms_spec (ws := .codeWith yL_pop cL_pop 5 (some .int) [(0, 10, 13, 13), (0, 10, 17, 17)] :: GW) B.pre
  have hg : ∀ w ∈ GW, w.before (([.ref (a 0), .int p1, .int p2, .ref (a 24)] : List Value).toArray) s = true := fun w h => hts w (List.mem_cons_of_mem _ h)
  have hown : s.vm.findClass RL = some m.cls := findClass_of_methodNamed B.named
  have hlocks := B.notSynchronized
  have htab : c.exceptionTable.toList = [⟨0, 10, 13, 13⟩, ⟨0, 10, 17, 17⟩] := vx_table (x := yL_pop) B (hts _ List.mem_cons_self)
  subst hsz
  have hD := hD0.self (sz := s.heap.size)
  generalize hAe : va_A (W_FO cI cV cJ vf a x) s.heap.size = A at hD hE ⊢
  have hA : ∀ q : Nat, s.heap.size ≤ q → A q := fun q h => by rw [← hAe]; exact Or.inr h
  have hS : va_S A s.heap s.heap [] := va_S.rf
  have hl := lv_entry ([.ref (a 0), .int p1, .int p2, .ref (a 24)]) (n := 5) (Nat.le_of_ble_eq_true rfl)
  rw [lg_entry_eq]
  generalize (lg_sl ([.ref (a 0), .int p1, .int p2, .ref (a 24)]) ++ List.replicate (5 - (lg_sl ([.ref (a 0), .int p1, .int p2, .ref (a 24)])).length) Slot.unset).toArray = ls at hl ⊢
  have hl : lv_has ls 5 [(0, .ref (a 0)), (1, .int p1), (2, .int p2), (3, .ref (a 24))] := hl
  have M0 : ∀ (H : Heap) (locs : List Loc) (ls : Array Slot), fL_pop k x p1 p2 = some res → va_P D vwCl (W_FO cI cV cJ vf a x) H → va_D A (W_FO cI cV cJ vf a x) → va_S A s.heap H locs → lv_has ls 5 [(0, .ref (a 0)), (1, .int p1), (2, .int p2), (3, .ref (a 24))] → W p l e ({ frames := 8, cells := 3, slots := 18, locals := 202 } : Room) s m ([.ref (a 0), .int p1, .int p2, .ref (a 24)] : List Value).toArray below meth c H locs 0 0 (vx_MQ below (QR D (TY cI cV cJ cD) (W_FO cI cV cJ vf a res.1) A (.inl (some (.int res.2)))) (XR D (TY cI cV cJ cD) (W_FO cI cV cJ vf a res.1) A (.inl (some (.int res.2)))) (([.ref (a 0), .int p1, .int p2, .ref (a 24)] : List Value).toArray) s 3 18 A) (F0 m 0 ls []) := by
    intro H locs ls hf hP hD hS hl
    dsimp only [fL_pop] at hf
    refine lv_aload_n hx hb dL_pop_0 rfl (lv_at hl 3 rfl) ?_
    refine lv_iconst (v := 0) hx hb dL_pop_1 (by decide) ?_
    refine lv_aload_n hx hb dL_pop_2 rfl (lv_at hl 0 rfl) ?_
    refine lv_iload_n hx hb dL_pop_3 rfl (lv_at hl 1 rfl) ?_
    refine lv_iload_n hx hb dL_pop_4 rfl (lv_at hl 2 rfl) ?_
    obtain ⟨u1, hc2, hf⟩ := bind_t hf
    try dsimp only at hf
    obtain ⟨x6, hx6⟩ : ∃ z, z = (pF_s x u1.1) := ⟨_, rfl⟩
    replace hf := keep_e hf x6 hx6
    refine k_VX (As := [.int p1, .int p2]) (rest := [.int 0, .ref (a 24)]) (n := 2) ⟨hx, hb, hml, hown, hts⟩ (met_X7_pop l hlt k vf a hvf (pF x) p1 p2 u1 hc2) w591 w592 w593 w1 w594 ⟨rfl, by decide +kernel, by decide +kernel, by decide +kernel⟩ ⟨Nat.le_of_ble_eq_true rfl, Nat.le_of_ble_eq_true rfl⟩ hK hE hP hD hS hA (isC := [0, 1, 2, 3, 4, 5, 6, 7, 8, 9, 10, 11, 12, 13, 14, 15, 16, 17, 18, 19, 20, 21, 22, 23]) (isR := [24]) (isB := [1, 2, 3, 4, 5, 6, 7, 8, 9, 10, 11, 12, 13, 14, 15, 16, 17, 18, 19, 20, 21, 22, 23, 24, 0]) (ws' := W_FO cI cV cJ vf a (pF_s x u1.1)) ⟨([24] : List Nat).filterMap (fun i : Nat => (W_FO cI cV cJ vf a x : va_W)[i]?), rfl, rfl, rfl, rfl, by decide, rfl, rfl⟩ 0 6 rfl rfl rfl rfl hl.1 rfl (Nat.le_of_ble_eq_true rfl) dL_pop_5 ⟨Nat.le_of_ble_eq_true rfl, Nat.le_of_ble_eq_true rfl⟩ (fun E ce q9 H locs h5 hP hD hS hce hcv hcl => ?_) (fun rv9 H locs h5 hP hD hS => ?_)
    · obtain ⟨k3, hq9, hE9⟩ := rsI_x h5
      replace hf := thr_x hf hq9
      by_cases hk9 : k3 = 0
      · subst hk9
        replace hf := if_t rfl hf
        have hP : va_P D vwCl (W_FO cI cV cJ vf a x6) H := by rw [hx6]; exact hP
        have hD : va_D A (W_FO cI cV cJ vf a x6) := by rw [hx6]; exact hD
        have hE9 : E = "java/lang/IndexOutOfBoundsException" := hE9
        subst hE9
        refine vx_catch (own := RL) (name := "java/lang/IndexOutOfBoundsException") hown [] ⟨0, 10, 13, 13⟩ [⟨0, 10, 17, 17⟩] htab (fun _ h => absurd h List.not_mem_nil) (by decide) (by decide) (hg _ w442) (va_Nw.use rfl (hE.1.2.2.2.2.1 _ (List.mem_of_getElem? (i := 0) rfl))) hce hcv hcl ?_
        refine W.eq (g2 := F0 m 13 ls [.ref q9]) rfl ?_
        refine lv_astore (lv' := [(4, .ref q9), (0, .ref (a 0)), (1, .int p1), (2, .int p2), (3, .ref (a 24))]) hx hb dL_pop_13 hl (by decide) rfl (fun ls hl => ?_)
        refine lv_iconst (v := 1) hx hb dL_pop_15 (by decide) ?_
        obtain rfl := Option.some.inj hf
        refine vx_ret ?_
        exact W.iret (v := 1) hx hb hr (fun t ht hW => ⟨_, rfl, ⟨rfl, by rw [ht]; exact hP, va_K.moved hW.alike hK, hD, hS.F ht⟩⟩) hS.2.2 dL_pop_16 hlocks
      replace hf := if_f hk9 hf
      by_cases hk9 : k3 = 2
      · subst hk9
        replace hf := if_t rfl hf
        have hP : va_P D vwCl (W_FO cI cV cJ vf a x6) H := by rw [hx6]; exact hP
        have hD : va_D A (W_FO cI cV cJ vf a x6) := by rw [hx6]; exact hD
        have hE9 : E = "java/lang/IllegalStateException" := hE9
        subst hE9
        refine vx_catch (own := RL) (name := "java/lang/IllegalStateException") hown [⟨0, 10, 13, 13⟩] ⟨0, 10, 17, 17⟩ [] htab (List.forall_mem_cons.mpr ⟨Or.inr ⟨by decide, "java/lang/IndexOutOfBoundsException", hg _ w442, hE.1.2.2.2.2.2.1 _ (List.mem_of_getElem? (i := 2) rfl) _ (List.mem_of_getElem? (i := 0) rfl) (by decide +kernel)⟩, fun _ h => absurd h List.not_mem_nil⟩) (by decide) (by decide) (hg _ w444) (va_Nw.use rfl (hE.1.2.2.2.2.1 _ (List.mem_of_getElem? (i := 2) rfl))) hce hcv hcl ?_
        refine W.eq (g2 := F0 m 17 ls [.ref q9]) rfl ?_
        refine lv_astore (lv' := [(4, .ref q9), (0, .ref (a 0)), (1, .int p1), (2, .int p2), (3, .ref (a 24))]) hx hb dL_pop_17 hl (by decide) rfl (fun ls hl => ?_)
        refine lv_iconst (v := 2) hx hb dL_pop_19 (by decide) ?_
        obtain rfl := Option.some.inj hf
        refine vx_ret ?_
        exact W.iret (v := 2) hx hb hr (fun t ht hW => ⟨_, rfl, ⟨rfl, by rw [ht]; exact hP, va_K.moved hW.alike hK, hD, hS.F ht⟩⟩) hS.2.2 dL_pop_20 hlocks
      replace hf := if_f hk9 hf
      cases hf
    obtain ⟨r4, hq9, rfl⟩ := rsI_v h5
    replace hf := thr_v hf hq9
    have hP : va_P D vwCl (W_FO cI cV cJ vf a x6) H := by rw [hx6]; exact hP
    have hD : va_D A (W_FO cI cV cJ vf a x6) := by rw [hx6]; exact hD
    refine W.eq (g2 := F0 m 8 ls [.int r4, .int 0, .ref (a 24)]) rfl ?_
    refine lv_i2l (v := (r4).toInt64) hx hb dL_pop_8 rfl ?_
    obtain ⟨hi7, hf⟩ := chk_t hf
    refine va_last hx hb hK hP hD hS 24 2 rfl rfl (inb_in hi7) dL_pop_9 (fun H locs hP hD hS => ?_)
    obtain ⟨x8, hx8⟩ : ∃ z, z = (pO_s x6 (vp_updL (pO x6) (0 : Int32).toNatClampNeg (r4).toInt64)) := ⟨_, rfl⟩
    replace hf := keep_e hf x8 hx8
    have hP : va_P D vwCl (W_FO cI cV cJ vf a x8) H := by rw [hx8]; exact hP
    have hD : va_D A (W_FO cI cV cJ vf a x8) := by rw [hx8]; exact hD
    refine lv_goto (tgt := 21) hx hb dL_pop_10 (by decide) ?_
    refine lv_iconst (v := 0) hx hb dL_pop_21 (by decide) ?_
    obtain rfl := Option.some.inj hf
    refine vx_ret ?_
    exact W.iret (v := 0) hx hb hr (fun t ht hW => ⟨_, rfl, ⟨rfl, by rw [ht]; exact hP, va_K.moved hW.alike hK, hD, hS.F ht⟩⟩) hS.2.2 dL_pop_22 hlocks
  exact M0 s.heap [] ls hf hP hD hS hl
/-! CompactformsLaw.add(LCompactforms;II[J)I -/
def fL_add_16 (k : Nat) (x : POSt) (s0 : Int64) (s1 : Int32) : Option (POSt × Int32) := chk (inb s1 1) (keep (pO_s x (vp_updL (pO x) (s1 : Int32).toNatClampNeg s0)) (fun x2 => some (x2, 0)))
def fL_add (k : Nat) (x : POSt) (p1 : Int32) (p2 : Int32) : Option (POSt × Int32) := (fX7_add k (pF x) p1 p2).bind (fun u3 => keep (pF_s x u3.1) (fun x8 => thr u3.2 (fun k5 => if k5 = 0 then some (x8, 1) else if k5 = 1 then some (x8, 2) else if k5 = 2 then some (x8, 3) else none) (fun r6 => (if r6 = 0 then fL_add_16 k x8 0 0 else fL_add_16 k x8 1 0))))
set_option maxHeartbeats 4000000 in
set_option maxRecDepth 100000 in
theorem met_L_add {D : va_G} {cI cV cJ cD : ClassId} (l : Launch) (hlt : l.stackTraces = false) (k : Nat) (vf : Nat → Option Nat) (a : Nat → Nat) (hvf : vf k = some (a 6)) (x : POSt) (p1 : Int32) (p2 : Int32) (res : POSt × Int32) (hf : fL_add k x p1 p2 = some res) : MXW l yL_add cL_add 5 (some .int) [(0, 17, 20, 13), (0, 17, 24, 15), (0, 17, 28, 17)] { frames := 9, cells := 5, slots := 30, locals := 202 } D (TY cI cV cJ cD) (W_FO cI cV cJ vf a x) (W_FO cI cV cJ vf a res.1) [.ref (a 0), .int p1, .int p2, .ref (a 24)] (.inl (some (.int res.2))) := by
  intro sz
  refine vx_ofWH (cc := cL_add) (maxL := 5) (ret := (some .int)) (hh := [(0, 17, 20, 13), (0, 17, 24, 15), (0, 17, 28, 17)]) (by decide +kernel) rfl ?_
  intro p e s m args below meth c s₁ B hml hv
  obtain ⟨rfl, hsz, hP, hK, hD0, hE⟩ := hv
  have hx := B.exec
  have hb := B.bytes
  have hr := B.returns
  have hts := atoms_spec (ws := .codeWith yL_add cL_add 5 (some .int) [(0, 17, 20, 13), (0, 17, 24, 15), (0, 17, 28, 17)] :: GW) B.pre
  have hg : ∀ w ∈ GW, w.before (([.ref (a 0), .int p1, .int p2, .ref (a 24)] : List Value).toArray) s = true := fun w h => hts w (List.mem_cons_of_mem _ h)
  have hown : s.vm.findClass RL = some m.cls := findClass_of_methodNamed B.named
  have hlocks := B.notSynchronized
  have htab : c.exceptionTable.toList = [⟨0, 17, 20, 13⟩, ⟨0, 17, 24, 15⟩, ⟨0, 17, 28, 17⟩] := vx_table (x := yL_add) B (hts _ List.mem_cons_self)
  subst hsz
  have hD := hD0.self (sz := s.heap.size)
  generalize hAe : va_A (W_FO cI cV cJ vf a x) s.heap.size = A at hD hE ⊢
  have hA : ∀ q : Nat, s.heap.size ≤ q → A q := fun q h => by rw [← hAe]; exact Or.inr h
  have hS : va_S A s.heap s.heap [] := va_S.rf
  have hl := lv_entry ([.ref (a 0), .int p1, .int p2, .ref (a 24)]) (n := 5) (Nat.le_of_ble_eq_true rfl)
  rw [lg_entry_eq]
  generalize (lg_sl ([.ref (a 0), .int p1, .int p2, .ref (a 24)]) ++ List.replicate (5 - (lg_sl ([.ref (a 0), .int p1, .int p2, .ref (a 24)])).length) Slot.unset).toArray = ls at hl ⊢
  have hl : lv_has ls 5 [(0, .ref (a 0)), (1, .int p1), (2, .int p2), (3, .ref (a 24))] := hl
  have L16 : ∀ (x : POSt) (s0 : Int64) (s1 : Int32) (H : Heap) (locs : List Loc) (ls : Array Slot), fL_add_16 k x s0 s1  = some res → va_P D vwCl (W_FO cI cV cJ vf a x) H → va_D A (W_FO cI cV cJ vf a x) → va_S A s.heap H locs → lv_has ls 5 [] → W p l e ({ frames := 9, cells := 5, slots := 30, locals := 202 } : Room) s m ([.ref (a 0), .int p1, .int p2, .ref (a 24)] : List Value).toArray below meth c H locs 5 30 (vx_MQ below (QR D (TY cI cV cJ cD) (W_FO cI cV cJ vf a res.1) A (.inl (some (.int res.2)))) (XR D (TY cI cV cJ cD) (W_FO cI cV cJ vf a res.1) A (.inl (some (.int res.2)))) (([.ref (a 0), .int p1, .int p2, .ref (a 24)] : List Value).toArray) s 5 30 A) (F0 m 16 ls [.long s0, .int s1, .ref (a 24)]) := by
    intro x s0 s1 H locs ls hf hP hD hS hl
    dsimp only [fL_add_16] at hf
    obtain ⟨hi1, hf⟩ := chk_t hf
    refine va_last hx hb hK hP hD hS 24 2 rfl rfl (inb_in hi1) dL_add_16 (fun H locs hP hD hS => ?_)
    obtain ⟨x2, hx2⟩ : ∃ z, z = (pO_s x (vp_updL (pO x) (s1 : Int32).toNatClampNeg s0)) := ⟨_, rfl⟩
    replace hf := keep_e hf x2 hx2
    have hP : va_P D vwCl (W_FO cI cV cJ vf a x2) H := by rw [hx2]; exact hP
    have hD : va_D A (W_FO cI cV cJ vf a x2) := by rw [hx2]; exact hD
    refine lv_goto (tgt := 32) hx hb dL_add_17 (by decide) ?_
    refine lv_iconst (v := 0) hx hb dL_add_32 (by decide) ?_
    obtain rfl := Option.some.inj hf
    refine vx_ret ?_
    exact W.iret (v := 0) hx hb hr (fun t ht hW => ⟨_, rfl, ⟨rfl, by rw [ht]; exact hP, va_K.moved hW.alike hK, hD, hS.F ht⟩⟩) hS.2.2 dL_add_33 hlocks
  have M0 : ∀ (H : Heap) (locs : List Loc) (ls : Array Slot), fL_add k x p1 p2 = some res → va_P D vwCl (W_FO cI cV cJ vf a x) H → va_D A (W_FO cI cV cJ vf a x) → va_S A s.heap H locs → lv_has ls 5 [(0, .ref (a 0)), (1, .int p1), (2, .int p2), (3, .ref (a 24))] → W p l e ({ frames := 9, cells := 5, slots := 30, locals := 202 } : Room) s m ([.ref (a 0), .int p1, .int p2, .ref (a 24)] : List Value).toArray below meth c H locs 0 0 (vx_MQ below (QR D (TY cI cV cJ cD) (W_FO cI cV cJ vf a res.1) A (.inl (some (.int res.2)))) (XR D (TY cI cV cJ cD) (W_FO cI cV cJ vf a res.1) A (.inl (some (.int res.2)))) (([.ref (a 0), .int p1, .int p2, .ref (a 24)] : List Value).toArray) s 5 30 A) (F0 m 0 ls []) := by
    intro H locs ls hf hP hD hS hl
    dsimp only [fL_add] at hf
    refine lv_aload_n hx hb dL_add_0 rfl (lv_at hl 3 rfl) ?_
    refine lv_iconst (v := 0) hx hb dL_add_1 (by decide) ?_
    refine lv_aload_n hx hb dL_add_2 rfl (lv_at hl 0 rfl) ?_
    refine lv_iload_n hx hb dL_add_3 rfl (lv_at hl 1 rfl) ?_
    refine lv_iload_n hx hb dL_add_4 rfl (lv_at hl 2 rfl) ?_
    obtain ⟨u3, hc4, hf⟩ := bind_t hf
    try dsimp only at hf
    obtain ⟨x8, hx8⟩ : ∃ z, z = (pF_s x u3.1) := ⟨_, rfl⟩
    replace hf := keep_e hf x8 hx8
    refine k_VX (As := [.int p1, .int p2]) (rest := [.int 0, .ref (a 24)]) (n := 2) ⟨hx, hb, hml, hown, hts⟩ (met_X7_add l hlt k vf a hvf (pF x) p1 p2 u3 hc4) w598 w599 w600 w1 w601 ⟨rfl, by decide +kernel, by decide +kernel, by decide +kernel⟩ ⟨Nat.le_of_ble_eq_true rfl, Nat.le_of_ble_eq_true rfl⟩ hK hE hP hD hS hA (isC := [0, 1, 2, 3, 4, 5, 6, 7, 8, 9, 10, 11, 12, 13, 14, 15, 16, 17, 18, 19, 20, 21, 22, 23]) (isR := [24]) (isB := [1, 2, 3, 4, 5, 6, 7, 8, 9, 10, 11, 12, 13, 14, 15, 16, 17, 18, 19, 20, 21, 22, 23, 24, 0]) (ws' := W_FO cI cV cJ vf a (pF_s x u3.1)) ⟨([24] : List Nat).filterMap (fun i : Nat => (W_FO cI cV cJ vf a x : va_W)[i]?), rfl, rfl, rfl, rfl, by decide, rfl, rfl⟩ 0 6 rfl rfl rfl rfl hl.1 rfl (Nat.le_of_ble_eq_true rfl) dL_add_5 ⟨Nat.le_of_ble_eq_true rfl, Nat.le_of_ble_eq_true rfl⟩ (fun E ce q9 H locs h7 hP hD hS hce hcv hcl => ?_) (fun rv9 H locs h7 hP hD hS => ?_)
    · obtain ⟨k5, hq9, hE9⟩ := rsI_x h7
      replace hf := thr_x hf hq9
      by_cases hk9 : k5 = 0
      · subst hk9
        replace hf := if_t rfl hf
        have hP : va_P D vwCl (W_FO cI cV cJ vf a x8) H := by rw [hx8]; exact hP
        have hD : va_D A (W_FO cI cV cJ vf a x8) := by rw [hx8]; exact hD
        have hE9 : E = "java/lang/IndexOutOfBoundsException" := hE9
        subst hE9
        refine vx_catch (own := RL) (name := "java/lang/IndexOutOfBoundsException") hown [] ⟨0, 17, 20, 13⟩ [⟨0, 17, 24, 15⟩, ⟨0, 17, 28, 17⟩] htab (fun _ h => absurd h List.not_mem_nil) (by decide) (by decide) (hg _ w442) (va_Nw.use rfl (hE.1.2.2.2.2.1 _ (List.mem_of_getElem? (i := 0) rfl))) hce hcv hcl ?_
        refine W.eq (g2 := F0 m 20 ls [.ref q9]) rfl ?_
        refine lv_astore (lv' := [(4, .ref q9), (0, .ref (a 0)), (1, .int p1), (2, .int p2), (3, .ref (a 24))]) hx hb dL_add_20 hl (by decide) rfl (fun ls hl => ?_)
        refine lv_iconst (v := 1) hx hb dL_add_22 (by decide) ?_
        obtain rfl := Option.some.inj hf
        refine vx_ret ?_
        exact W.iret (v := 1) hx hb hr (fun t ht hW => ⟨_, rfl, ⟨rfl, by rw [ht]; exact hP, va_K.moved hW.alike hK, hD, hS.F ht⟩⟩) hS.2.2 dL_add_23 hlocks
      replace hf := if_f hk9 hf
      by_cases hk9 : k5 = 1
      · subst hk9
        replace hf := if_t rfl hf
        have hP : va_P D vwCl (W_FO cI cV cJ vf a x8) H := by rw [hx8]; exact hP
        have hD : va_D A (W_FO cI cV cJ vf a x8) := by rw [hx8]; exact hD
        have hE9 : E = "java/lang/IllegalArgumentException" := hE9
        subst hE9
        refine vx_catch (own := RL) (name := "java/lang/IllegalArgumentException") hown [⟨0, 17, 20, 13⟩] ⟨0, 17, 24, 15⟩ [⟨0, 17, 28, 17⟩] htab (List.forall_mem_cons.mpr ⟨Or.inr ⟨by decide, "java/lang/IndexOutOfBoundsException", hg _ w442, hE.1.2.2.2.2.2.1 _ (List.mem_of_getElem? (i := 1) rfl) _ (List.mem_of_getElem? (i := 0) rfl) (by decide +kernel)⟩, fun _ h => absurd h List.not_mem_nil⟩) (by decide) (by decide) (hg _ w443) (va_Nw.use rfl (hE.1.2.2.2.2.1 _ (List.mem_of_getElem? (i := 1) rfl))) hce hcv hcl ?_
        refine W.eq (g2 := F0 m 24 ls [.ref q9]) rfl ?_
        refine lv_astore (lv' := [(4, .ref q9), (0, .ref (a 0)), (1, .int p1), (2, .int p2), (3, .ref (a 24))]) hx hb dL_add_24 hl (by decide) rfl (fun ls hl => ?_)
        refine lv_iconst (v := 2) hx hb dL_add_26 (by decide) ?_
        obtain rfl := Option.some.inj hf
        refine vx_ret ?_
        exact W.iret (v := 2) hx hb hr (fun t ht hW => ⟨_, rfl, ⟨rfl, by rw [ht]; exact hP, va_K.moved hW.alike hK, hD, hS.F ht⟩⟩) hS.2.2 dL_add_27 hlocks
      replace hf := if_f hk9 hf
      by_cases hk9 : k5 = 2
      · subst hk9
        replace hf := if_t rfl hf
        have hP : va_P D vwCl (W_FO cI cV cJ vf a x8) H := by rw [hx8]; exact hP
        have hD : va_D A (W_FO cI cV cJ vf a x8) := by rw [hx8]; exact hD
        have hE9 : E = "java/lang/IllegalStateException" := hE9
        subst hE9
        refine vx_catch (own := RL) (name := "java/lang/IllegalStateException") hown [⟨0, 17, 20, 13⟩, ⟨0, 17, 24, 15⟩] ⟨0, 17, 28, 17⟩ [] htab (List.forall_mem_cons.mpr ⟨Or.inr ⟨by decide, "java/lang/IndexOutOfBoundsException", hg _ w442, hE.1.2.2.2.2.2.1 _ (List.mem_of_getElem? (i := 2) rfl) _ (List.mem_of_getElem? (i := 0) rfl) (by decide +kernel)⟩, List.forall_mem_cons.mpr ⟨Or.inr ⟨by decide, "java/lang/IllegalArgumentException", hg _ w443, hE.1.2.2.2.2.2.1 _ (List.mem_of_getElem? (i := 2) rfl) _ (List.mem_of_getElem? (i := 1) rfl) (by decide +kernel)⟩, fun _ h => absurd h List.not_mem_nil⟩⟩) (by decide) (by decide) (hg _ w444) (va_Nw.use rfl (hE.1.2.2.2.2.1 _ (List.mem_of_getElem? (i := 2) rfl))) hce hcv hcl ?_
        refine W.eq (g2 := F0 m 28 ls [.ref q9]) rfl ?_
        refine lv_astore (lv' := [(4, .ref q9), (0, .ref (a 0)), (1, .int p1), (2, .int p2), (3, .ref (a 24))]) hx hb dL_add_28 hl (by decide) rfl (fun ls hl => ?_)
        refine lv_iconst (v := 3) hx hb dL_add_30 (by decide) ?_
        obtain rfl := Option.some.inj hf
        refine vx_ret ?_
        exact W.iret (v := 3) hx hb hr (fun t ht hW => ⟨_, rfl, ⟨rfl, by rw [ht]; exact hP, va_K.moved hW.alike hK, hD, hS.F ht⟩⟩) hS.2.2 dL_add_31 hlocks
      replace hf := if_f hk9 hf
      cases hf
    obtain ⟨r6, hq9, rfl⟩ := rsI_v h7
    replace hf := thr_v hf hq9
    have hP : va_P D vwCl (W_FO cI cV cJ vf a x8) H := by rw [hx8]; exact hP
    have hD : va_D A (W_FO cI cV cJ vf a x8) := by rw [hx8]; exact hD
    refine W.eq (g2 := F0 m 8 ls [.int r6, .int 0, .ref (a 24)]) rfl ?_
    refine lv_if_eq (tgt := 15) hx hb dL_add_8 (by decide) (fun c9 => ?_) (fun c9 => ?_)
    · replace hf := if_t c9 hf
      refine lv_lconst (v := 0) hx hb dL_add_15 (by decide) ?_
      exact L16 x8 0 0 H locs ls hf hP hD hS (lv_sub hl [] rfl)
    · replace hf := if_f c9 hf
      refine lv_lconst (v := 1) hx hb dL_add_11 (by decide) ?_
      refine lv_goto (tgt := 16) hx hb dL_add_12 (by decide) ?_
      exact L16 x8 1 0 H locs ls hf hP hD hS (lv_sub hl [] rfl)
  exact M0 s.heap [] ls hf hP hD hS hl
/-! CompactformsLaw.take(LCompactforms;II[J)I -/
def fL_take_16 (k : Nat) (x : POSt) (s0 : Int64) (s1 : Int32) : Option (POSt × Int32) := chk (inb s1 1) (keep (pO_s x (vp_updL (pO x) (s1 : Int32).toNatClampNeg s0)) (fun x2 => some (x2, 0)))
def fL_take (k : Nat) (x : POSt) (p1 : Int32) (p2 : Int32) : Option (POSt × Int32) := (fX7_take k (pF x) p1 p2).bind (fun u3 => keep (pF_s x u3.1) (fun x8 => thr u3.2 (fun k5 => if k5 = 0 then some (x8, 1) else if k5 = 1 then some (x8, 2) else if k5 = 2 then some (x8, 3) else none) (fun r6 => (if r6 = 0 then fL_take_16 k x8 0 0 else fL_take_16 k x8 1 0))))
set_option maxHeartbeats 4000000 in
set_option maxRecDepth 100000 in
theorem met_L_take {D : va_G} {cI cV cJ cD : ClassId} (l : Launch) (hlt : l.stackTraces = false) (k : Nat) (vf : Nat → Option Nat) (a : Nat → Nat) (hvf : vf k = some (a 6)) (x : POSt) (p1 : Int32) (p2 : Int32) (res : POSt × Int32) (hf : fL_take k x p1 p2 = some res) : MXW l yL_take cL_take 5 (some .int) [(0, 17, 20, 13), (0, 17, 24, 15), (0, 17, 28, 17)] { frames := 9, cells := 4, slots := 24, locals := 202 } D (TY cI cV cJ cD) (W_FO cI cV cJ vf a x) (W_FO cI cV cJ vf a res.1) [.ref (a 0), .int p1, .int p2, .ref (a 24)] (.inl (some (.int res.2))) := by
  intro sz
  refine vx_ofWH (cc := cL_take) (maxL := 5) (ret := (some .int)) (hh := [(0, 17, 20, 13), (0, 17, 24, 15), (0, 17, 28, 17)]) (by decide +kernel) rfl ?_
  intro p e s m args below meth c s₁ B hml hv
  obtain ⟨rfl, hsz, hP, hK, hD0, hE⟩ := hv
  have hx := B.exec
  have hb := B.bytes
  have hr := B.returns
  have hts := atoms_spec (ws := .codeWith yL_take cL_take 5 (some .int) [(0, 17, 20, 13), (0, 17, 24, 15), (0, 17, 28, 17)] :: GW) B.pre
  have hg : ∀ w ∈ GW, w.before (([.ref (a 0), .int p1, .int p2, .ref (a 24)] : List Value).toArray) s = true := fun w h => hts w (List.mem_cons_of_mem _ h)
  have hown : s.vm.findClass RL = some m.cls := findClass_of_methodNamed B.named
  have hlocks := B.notSynchronized
  have htab : c.exceptionTable.toList = [⟨0, 17, 20, 13⟩, ⟨0, 17, 24, 15⟩, ⟨0, 17, 28, 17⟩] := vx_table (x := yL_take) B (hts _ List.mem_cons_self)
  subst hsz
  have hD := hD0.self (sz := s.heap.size)
  generalize hAe : va_A (W_FO cI cV cJ vf a x) s.heap.size = A at hD hE ⊢
  have hA : ∀ q : Nat, s.heap.size ≤ q → A q := fun q h => by rw [← hAe]; exact Or.inr h
  have hS : va_S A s.heap s.heap [] := va_S.rf
  have hl := lv_entry ([.ref (a 0), .int p1, .int p2, .ref (a 24)]) (n := 5) (Nat.le_of_ble_eq_true rfl)
  rw [lg_entry_eq]
  generalize (lg_sl ([.ref (a 0), .int p1, .int p2, .ref (a 24)]) ++ List.replicate (5 - (lg_sl ([.ref (a 0), .int p1, .int p2, .ref (a 24)])).length) Slot.unset).toArray = ls at hl ⊢
  have hl : lv_has ls 5 [(0, .ref (a 0)), (1, .int p1), (2, .int p2), (3, .ref (a 24))] := hl
  have L16 : ∀ (x : POSt) (s0 : Int64) (s1 : Int32) (H : Heap) (locs : List Loc) (ls : Array Slot), fL_take_16 k x s0 s1  = some res → va_P D vwCl (W_FO cI cV cJ vf a x) H → va_D A (W_FO cI cV cJ vf a x) → va_S A s.heap H locs → lv_has ls 5 [] → W p l e ({ frames := 9, cells := 4, slots := 24, locals := 202 } : Room) s m ([.ref (a 0), .int p1, .int p2, .ref (a 24)] : List Value).toArray below meth c H locs 4 24 (vx_MQ below (QR D (TY cI cV cJ cD) (W_FO cI cV cJ vf a res.1) A (.inl (some (.int res.2)))) (XR D (TY cI cV cJ cD) (W_FO cI cV cJ vf a res.1) A (.inl (some (.int res.2)))) (([.ref (a 0), .int p1, .int p2, .ref (a 24)] : List Value).toArray) s 4 24 A) (F0 m 16 ls [.long s0, .int s1, .ref (a 24)]) := by
    intro x s0 s1 H locs ls hf hP hD hS hl
    dsimp only [fL_take_16] at hf
    obtain ⟨hi1, hf⟩ := chk_t hf
    refine va_last hx hb hK hP hD hS 24 2 rfl rfl (inb_in hi1) dL_take_16 (fun H locs hP hD hS => ?_)
    obtain ⟨x2, hx2⟩ : ∃ z, z = (pO_s x (vp_updL (pO x) (s1 : Int32).toNatClampNeg s0)) := ⟨_, rfl⟩
    replace hf := keep_e hf x2 hx2
    have hP : va_P D vwCl (W_FO cI cV cJ vf a x2) H := by rw [hx2]; exact hP
    have hD : va_D A (W_FO cI cV cJ vf a x2) := by rw [hx2]; exact hD
    refine lv_goto (tgt := 32) hx hb dL_take_17 (by decide) ?_
    refine lv_iconst (v := 0) hx hb dL_take_32 (by decide) ?_
    obtain rfl := Option.some.inj hf
    refine vx_ret ?_
    exact W.iret (v := 0) hx hb hr (fun t ht hW => ⟨_, rfl, ⟨rfl, by rw [ht]; exact hP, va_K.moved hW.alike hK, hD, hS.F ht⟩⟩) hS.2.2 dL_take_33 hlocks
  have M0 : ∀ (H : Heap) (locs : List Loc) (ls : Array Slot), fL_take k x p1 p2 = some res → va_P D vwCl (W_FO cI cV cJ vf a x) H → va_D A (W_FO cI cV cJ vf a x) → va_S A s.heap H locs → lv_has ls 5 [(0, .ref (a 0)), (1, .int p1), (2, .int p2), (3, .ref (a 24))] → W p l e ({ frames := 9, cells := 4, slots := 24, locals := 202 } : Room) s m ([.ref (a 0), .int p1, .int p2, .ref (a 24)] : List Value).toArray below meth c H locs 0 0 (vx_MQ below (QR D (TY cI cV cJ cD) (W_FO cI cV cJ vf a res.1) A (.inl (some (.int res.2)))) (XR D (TY cI cV cJ cD) (W_FO cI cV cJ vf a res.1) A (.inl (some (.int res.2)))) (([.ref (a 0), .int p1, .int p2, .ref (a 24)] : List Value).toArray) s 4 24 A) (F0 m 0 ls []) := by
    intro H locs ls hf hP hD hS hl
    dsimp only [fL_take] at hf
    refine lv_aload_n hx hb dL_take_0 rfl (lv_at hl 3 rfl) ?_
    refine lv_iconst (v := 0) hx hb dL_take_1 (by decide) ?_
    refine lv_aload_n hx hb dL_take_2 rfl (lv_at hl 0 rfl) ?_
    refine lv_iload_n hx hb dL_take_3 rfl (lv_at hl 1 rfl) ?_
    refine lv_iload_n hx hb dL_take_4 rfl (lv_at hl 2 rfl) ?_
    obtain ⟨u3, hc4, hf⟩ := bind_t hf
    try dsimp only at hf
    obtain ⟨x8, hx8⟩ : ∃ z, z = (pF_s x u3.1) := ⟨_, rfl⟩
    replace hf := keep_e hf x8 hx8
    refine k_VX (As := [.int p1, .int p2]) (rest := [.int 0, .ref (a 24)]) (n := 2) ⟨hx, hb, hml, hown, hts⟩ (met_X7_take l hlt k vf a hvf (pF x) p1 p2 u3 hc4) w609 w610 w611 w1 w612 ⟨rfl, by decide +kernel, by decide +kernel, by decide +kernel⟩ ⟨Nat.le_of_ble_eq_true rfl, Nat.le_of_ble_eq_true rfl⟩ hK hE hP hD hS hA (isC := [0, 1, 2, 3, 4, 5, 6, 7, 8, 9, 10, 11, 12, 13, 14, 15, 16, 17, 18, 19, 20, 21, 22, 23]) (isR := [24]) (isB := [1, 2, 3, 4, 5, 6, 7, 8, 9, 10, 11, 12, 13, 14, 15, 16, 17, 18, 19, 20, 21, 22, 23, 24, 0]) (ws' := W_FO cI cV cJ vf a (pF_s x u3.1)) ⟨([24] : List Nat).filterMap (fun i : Nat => (W_FO cI cV cJ vf a x : va_W)[i]?), rfl, rfl, rfl, rfl, by decide, rfl, rfl⟩ 0 6 rfl rfl rfl rfl hl.1 rfl (Nat.le_of_ble_eq_true rfl) dL_take_5 ⟨Nat.le_of_ble_eq_true rfl, Nat.le_of_ble_eq_true rfl⟩ (fun E ce q9 H locs h7 hP hD hS hce hcv hcl => ?_) (fun rv9 H locs h7 hP hD hS => ?_)
    · obtain ⟨k5, hq9, hE9⟩ := rsI_x h7
      replace hf := thr_x hf hq9
      by_cases hk9 : k5 = 0
      · subst hk9
        replace hf := if_t rfl hf
        have hP : va_P D vwCl (W_FO cI cV cJ vf a x8) H := by rw [hx8]; exact hP
        have hD : va_D A (W_FO cI cV cJ vf a x8) := by rw [hx8]; exact hD
        have hE9 : E = "java/lang/IndexOutOfBoundsException" := hE9
        subst hE9
        refine vx_catch (own := RL) (name := "java/lang/IndexOutOfBoundsException") hown [] ⟨0, 17, 20, 13⟩ [⟨0, 17, 24, 15⟩, ⟨0, 17, 28, 17⟩] htab (fun _ h => absurd h List.not_mem_nil) (by decide) (by decide) (hg _ w442) (va_Nw.use rfl (hE.1.2.2.2.2.1 _ (List.mem_of_getElem? (i := 0) rfl))) hce hcv hcl ?_
        refine W.eq (g2 := F0 m 20 ls [.ref q9]) rfl ?_
        refine lv_astore (lv' := [(4, .ref q9), (0, .ref (a 0)), (1, .int p1), (2, .int p2), (3, .ref (a 24))]) hx hb dL_take_20 hl (by decide) rfl (fun ls hl => ?_)
        refine lv_iconst (v := 1) hx hb dL_take_22 (by decide) ?_
        obtain rfl := Option.some.inj hf
        refine vx_ret ?_
        exact W.iret (v := 1) hx hb hr (fun t ht hW => ⟨_, rfl, ⟨rfl, by rw [ht]; exact hP, va_K.moved hW.alike hK, hD, hS.F ht⟩⟩) hS.2.2 dL_take_23 hlocks
      replace hf := if_f hk9 hf
      by_cases hk9 : k5 = 1
      · subst hk9
        replace hf := if_t rfl hf
        have hP : va_P D vwCl (W_FO cI cV cJ vf a x8) H := by rw [hx8]; exact hP
        have hD : va_D A (W_FO cI cV cJ vf a x8) := by rw [hx8]; exact hD
        have hE9 : E = "java/lang/IllegalArgumentException" := hE9
        subst hE9
        refine vx_catch (own := RL) (name := "java/lang/IllegalArgumentException") hown [⟨0, 17, 20, 13⟩] ⟨0, 17, 24, 15⟩ [⟨0, 17, 28, 17⟩] htab (List.forall_mem_cons.mpr ⟨Or.inr ⟨by decide, "java/lang/IndexOutOfBoundsException", hg _ w442, hE.1.2.2.2.2.2.1 _ (List.mem_of_getElem? (i := 1) rfl) _ (List.mem_of_getElem? (i := 0) rfl) (by decide +kernel)⟩, fun _ h => absurd h List.not_mem_nil⟩) (by decide) (by decide) (hg _ w443) (va_Nw.use rfl (hE.1.2.2.2.2.1 _ (List.mem_of_getElem? (i := 1) rfl))) hce hcv hcl ?_
        refine W.eq (g2 := F0 m 24 ls [.ref q9]) rfl ?_
        refine lv_astore (lv' := [(4, .ref q9), (0, .ref (a 0)), (1, .int p1), (2, .int p2), (3, .ref (a 24))]) hx hb dL_take_24 hl (by decide) rfl (fun ls hl => ?_)
        refine lv_iconst (v := 2) hx hb dL_take_26 (by decide) ?_
        obtain rfl := Option.some.inj hf
        refine vx_ret ?_
        exact W.iret (v := 2) hx hb hr (fun t ht hW => ⟨_, rfl, ⟨rfl, by rw [ht]; exact hP, va_K.moved hW.alike hK, hD, hS.F ht⟩⟩) hS.2.2 dL_take_27 hlocks
      replace hf := if_f hk9 hf
      by_cases hk9 : k5 = 2
      · subst hk9
        replace hf := if_t rfl hf
        have hP : va_P D vwCl (W_FO cI cV cJ vf a x8) H := by rw [hx8]; exact hP
        have hD : va_D A (W_FO cI cV cJ vf a x8) := by rw [hx8]; exact hD
        have hE9 : E = "java/lang/IllegalStateException" := hE9
        subst hE9
        refine vx_catch (own := RL) (name := "java/lang/IllegalStateException") hown [⟨0, 17, 20, 13⟩, ⟨0, 17, 24, 15⟩] ⟨0, 17, 28, 17⟩ [] htab (List.forall_mem_cons.mpr ⟨Or.inr ⟨by decide, "java/lang/IndexOutOfBoundsException", hg _ w442, hE.1.2.2.2.2.2.1 _ (List.mem_of_getElem? (i := 2) rfl) _ (List.mem_of_getElem? (i := 0) rfl) (by decide +kernel)⟩, List.forall_mem_cons.mpr ⟨Or.inr ⟨by decide, "java/lang/IllegalArgumentException", hg _ w443, hE.1.2.2.2.2.2.1 _ (List.mem_of_getElem? (i := 2) rfl) _ (List.mem_of_getElem? (i := 1) rfl) (by decide +kernel)⟩, fun _ h => absurd h List.not_mem_nil⟩⟩) (by decide) (by decide) (hg _ w444) (va_Nw.use rfl (hE.1.2.2.2.2.1 _ (List.mem_of_getElem? (i := 2) rfl))) hce hcv hcl ?_
        refine W.eq (g2 := F0 m 28 ls [.ref q9]) rfl ?_
        refine lv_astore (lv' := [(4, .ref q9), (0, .ref (a 0)), (1, .int p1), (2, .int p2), (3, .ref (a 24))]) hx hb dL_take_28 hl (by decide) rfl (fun ls hl => ?_)
        refine lv_iconst (v := 3) hx hb dL_take_30 (by decide) ?_
        obtain rfl := Option.some.inj hf
        refine vx_ret ?_
        exact W.iret (v := 3) hx hb hr (fun t ht hW => ⟨_, rfl, ⟨rfl, by rw [ht]; exact hP, va_K.moved hW.alike hK, hD, hS.F ht⟩⟩) hS.2.2 dL_take_31 hlocks
      replace hf := if_f hk9 hf
      cases hf
    obtain ⟨r6, hq9, rfl⟩ := rsI_v h7
    replace hf := thr_v hf hq9
    have hP : va_P D vwCl (W_FO cI cV cJ vf a x8) H := by rw [hx8]; exact hP
    have hD : va_D A (W_FO cI cV cJ vf a x8) := by rw [hx8]; exact hD
    refine W.eq (g2 := F0 m 8 ls [.int r6, .int 0, .ref (a 24)]) rfl ?_
    refine lv_if_eq (tgt := 15) hx hb dL_take_8 (by decide) (fun c9 => ?_) (fun c9 => ?_)
    · replace hf := if_t c9 hf
      refine lv_lconst (v := 0) hx hb dL_take_15 (by decide) ?_
      exact L16 x8 0 0 H locs ls hf hP hD hS (lv_sub hl [] rfl)
    · replace hf := if_f c9 hf
      refine lv_lconst (v := 1) hx hb dL_take_11 (by decide) ?_
      refine lv_goto (tgt := 16) hx hb dL_take_12 (by decide) ?_
      exact L16 x8 1 0 H locs ls hf hP hD hS (lv_sub hl [] rfl)
  exact M0 s.heap [] ls hf hP hD hS hl
/-! CompactformsLaw.rate(LCompactforms;III[J)I -/
def fL_rate (k : Nat) (x : POSt) (p1 : Int32) (p2 : Int32) (p3 : Int32) : Option (POSt × Int32) := (fX7_rate k (pF x) p1 p2 p3).bind (fun u1 => keep (pF_s x u1.1) (fun x6 => thr u1.2 (fun k3 => if k3 = 0 then some (x6, 1) else if k3 = 1 then some (x6, 2) else if k3 = 2 then some (x6, 3) else none) (fun r4 => chk (inb 0 1) (keep (pO_s x6 (vp_updL (pO x6) (0 : Int32).toNatClampNeg (r4).toInt64)) (fun x8 => some (x8, 0))))))
set_option maxHeartbeats 4000000 in
set_option maxRecDepth 100000 in
theorem met_L_rate {D : va_G} {cI cV cJ cD : ClassId} (l : Launch) (hlt : l.stackTraces = false) (k : Nat) (vf : Nat → Option Nat) (a : Nat → Nat) (hvf : vf k = some (a 6)) (x : POSt) (p1 : Int32) (p2 : Int32) (p3 : Int32) (res : POSt × Int32) (hf : fL_rate k x p1 p2 p3 = some res) : MXW l yL_rate cL_rate 6 (some .int) [(0, 12, 15, 13), (0, 12, 19, 15), (0, 12, 23, 17)] { frames := 9, cells := 5, slots := 30, locals := 203 } D (TY cI cV cJ cD) (W_FO cI cV cJ vf a x) (W_FO cI cV cJ vf a res.1) [.ref (a 0), .int p1, .int p2, .int p3, .ref (a 24)] (.inl (some (.int res.2))) := by
  intro sz
  refine vx_ofWH (cc := cL_rate) (maxL := 6) (ret := (some .int)) (hh := [(0, 12, 15, 13), (0, 12, 19, 15), (0, 12, 23, 17)]) (by decide +kernel) rfl ?_
  intro p e s m args below meth c s₁ B hml hv
  obtain ⟨rfl, hsz, hP, hK, hD0, hE⟩ := hv
  have hx := B.exec
  have hb := B.bytes
  have hr := B.returns
  have hts := atoms_spec (ws := .codeWith yL_rate cL_rate 6 (some .int) [(0, 12, 15, 13), (0, 12, 19, 15), (0, 12, 23, 17)] :: GW) B.pre
  have hg : ∀ w ∈ GW, w.before (([.ref (a 0), .int p1, .int p2, .int p3, .ref (a 24)] : List Value).toArray) s = true := fun w h => hts w (List.mem_cons_of_mem _ h)
  have hown : s.vm.findClass RL = some m.cls := findClass_of_methodNamed B.named
  have hlocks := B.notSynchronized
  have htab : c.exceptionTable.toList = [⟨0, 12, 15, 13⟩, ⟨0, 12, 19, 15⟩, ⟨0, 12, 23, 17⟩] := vx_table (x := yL_rate) B (hts _ List.mem_cons_self)
  subst hsz
  have hD := hD0.self (sz := s.heap.size)
  generalize hAe : va_A (W_FO cI cV cJ vf a x) s.heap.size = A at hD hE ⊢
  have hA : ∀ q : Nat, s.heap.size ≤ q → A q := fun q h => by rw [← hAe]; exact Or.inr h
  have hS : va_S A s.heap s.heap [] := va_S.rf
  have hl := lv_entry ([.ref (a 0), .int p1, .int p2, .int p3, .ref (a 24)]) (n := 6) (Nat.le_of_ble_eq_true rfl)
  rw [lg_entry_eq]
  generalize (lg_sl ([.ref (a 0), .int p1, .int p2, .int p3, .ref (a 24)]) ++ List.replicate (6 - (lg_sl ([.ref (a 0), .int p1, .int p2, .int p3, .ref (a 24)])).length) Slot.unset).toArray = ls at hl ⊢
  have hl : lv_has ls 6 [(0, .ref (a 0)), (1, .int p1), (2, .int p2), (3, .int p3), (4, .ref (a 24))] := hl
  have M0 : ∀ (H : Heap) (locs : List Loc) (ls : Array Slot), fL_rate k x p1 p2 p3 = some res → va_P D vwCl (W_FO cI cV cJ vf a x) H → va_D A (W_FO cI cV cJ vf a x) → va_S A s.heap H locs → lv_has ls 6 [(0, .ref (a 0)), (1, .int p1), (2, .int p2), (3, .int p3), (4, .ref (a 24))] → W p l e ({ frames := 9, cells := 5, slots := 30, locals := 203 } : Room) s m ([.ref (a 0), .int p1, .int p2, .int p3, .ref (a 24)] : List Value).toArray below meth c H locs 0 0 (vx_MQ below (QR D (TY cI cV cJ cD) (W_FO cI cV cJ vf a res.1) A (.inl (some (.int res.2)))) (XR D (TY cI cV cJ cD) (W_FO cI cV cJ vf a res.1) A (.inl (some (.int res.2)))) (([.ref (a 0), .int p1, .int p2, .int p3, .ref (a 24)] : List Value).toArray) s 5 30 A) (F0 m 0 ls []) := by
    intro H locs ls hf hP hD hS hl
    dsimp only [fL_rate] at hf
    refine lv_aload hx hb dL_rate_0 (lv_at hl 4 rfl) ?_
    refine lv_iconst (v := 0) hx hb dL_rate_2 (by decide) ?_
    refine lv_aload_n hx hb dL_rate_3 rfl (lv_at hl 0 rfl) ?_
    refine lv_iload_n hx hb dL_rate_4 rfl (lv_at hl 1 rfl) ?_
    refine lv_iload_n hx hb dL_rate_5 rfl (lv_at hl 2 rfl) ?_
    refine lv_iload_n hx hb dL_rate_6 rfl (lv_at hl 3 rfl) ?_
    obtain ⟨u1, hc2, hf⟩ := bind_t hf
    try dsimp only at hf
    obtain ⟨x6, hx6⟩ : ∃ z, z = (pF_s x u1.1) := ⟨_, rfl⟩
    replace hf := keep_e hf x6 hx6
    refine k_VX (As := [.int p1, .int p2, .int p3]) (rest := [.int 0, .ref (a 24)]) (n := 3) ⟨hx, hb, hml, hown, hts⟩ (met_X7_rate l hlt k vf a hvf (pF x) p1 p2 p3 u1 hc2) w616 w617 w618 w1 w619 ⟨rfl, by decide +kernel, by decide +kernel, by decide +kernel⟩ ⟨Nat.le_of_ble_eq_true rfl, Nat.le_of_ble_eq_true rfl⟩ hK hE hP hD hS hA (isC := [0, 1, 2, 3, 4, 5, 6, 7, 8, 9, 10, 11, 12, 13, 14, 15, 16, 17, 18, 19, 20, 21, 22, 23]) (isR := [24]) (isB := [1, 2, 3, 4, 5, 6, 7, 8, 9, 10, 11, 12, 13, 14, 15, 16, 17, 18, 19, 20, 21, 22, 23, 24, 0]) (ws' := W_FO cI cV cJ vf a (pF_s x u1.1)) ⟨([24] : List Nat).filterMap (fun i : Nat => (W_FO cI cV cJ vf a x : va_W)[i]?), rfl, rfl, rfl, rfl, by decide, rfl, rfl⟩ 0 6 rfl rfl rfl rfl hl.1 rfl (Nat.le_of_ble_eq_true rfl) dL_rate_7 ⟨Nat.le_of_ble_eq_true rfl, Nat.le_of_ble_eq_true rfl⟩ (fun E ce q9 H locs h5 hP hD hS hce hcv hcl => ?_) (fun rv9 H locs h5 hP hD hS => ?_)
    · obtain ⟨k3, hq9, hE9⟩ := rsI_x h5
      replace hf := thr_x hf hq9
      by_cases hk9 : k3 = 0
      · subst hk9
        replace hf := if_t rfl hf
        have hP : va_P D vwCl (W_FO cI cV cJ vf a x6) H := by rw [hx6]; exact hP
        have hD : va_D A (W_FO cI cV cJ vf a x6) := by rw [hx6]; exact hD
        have hE9 : E = "java/lang/IndexOutOfBoundsException" := hE9
        subst hE9
        refine vx_catch (own := RL) (name := "java/lang/IndexOutOfBoundsException") hown [] ⟨0, 12, 15, 13⟩ [⟨0, 12, 19, 15⟩, ⟨0, 12, 23, 17⟩] htab (fun _ h => absurd h List.not_mem_nil) (by decide) (by decide) (hg _ w442) (va_Nw.use rfl (hE.1.2.2.2.2.1 _ (List.mem_of_getElem? (i := 0) rfl))) hce hcv hcl ?_
        refine W.eq (g2 := F0 m 15 ls [.ref q9]) rfl ?_
        refine lv_astore (lv' := [(5, .ref q9), (0, .ref (a 0)), (1, .int p1), (2, .int p2), (3, .int p3), (4, .ref (a 24))]) hx hb dL_rate_15 hl (by decide) rfl (fun ls hl => ?_)
        refine lv_iconst (v := 1) hx hb dL_rate_17 (by decide) ?_
        obtain rfl := Option.some.inj hf
        refine vx_ret ?_
        exact W.iret (v := 1) hx hb hr (fun t ht hW => ⟨_, rfl, ⟨rfl, by rw [ht]; exact hP, va_K.moved hW.alike hK, hD, hS.F ht⟩⟩) hS.2.2 dL_rate_18 hlocks
      replace hf := if_f hk9 hf
      by_cases hk9 : k3 = 1
      · subst hk9
        replace hf := if_t rfl hf
        have hP : va_P D vwCl (W_FO cI cV cJ vf a x6) H := by rw [hx6]; exact hP
        have hD : va_D A (W_FO cI cV cJ vf a x6) := by rw [hx6]; exact hD
        have hE9 : E = "java/lang/IllegalArgumentException" := hE9
        subst hE9
        refine vx_catch (own := RL) (name := "java/lang/IllegalArgumentException") hown [⟨0, 12, 15, 13⟩] ⟨0, 12, 19, 15⟩ [⟨0, 12, 23, 17⟩] htab (List.forall_mem_cons.mpr ⟨Or.inr ⟨by decide, "java/lang/IndexOutOfBoundsException", hg _ w442, hE.1.2.2.2.2.2.1 _ (List.mem_of_getElem? (i := 1) rfl) _ (List.mem_of_getElem? (i := 0) rfl) (by decide +kernel)⟩, fun _ h => absurd h List.not_mem_nil⟩) (by decide) (by decide) (hg _ w443) (va_Nw.use rfl (hE.1.2.2.2.2.1 _ (List.mem_of_getElem? (i := 1) rfl))) hce hcv hcl ?_
        refine W.eq (g2 := F0 m 19 ls [.ref q9]) rfl ?_
        refine lv_astore (lv' := [(5, .ref q9), (0, .ref (a 0)), (1, .int p1), (2, .int p2), (3, .int p3), (4, .ref (a 24))]) hx hb dL_rate_19 hl (by decide) rfl (fun ls hl => ?_)
        refine lv_iconst (v := 2) hx hb dL_rate_21 (by decide) ?_
        obtain rfl := Option.some.inj hf
        refine vx_ret ?_
        exact W.iret (v := 2) hx hb hr (fun t ht hW => ⟨_, rfl, ⟨rfl, by rw [ht]; exact hP, va_K.moved hW.alike hK, hD, hS.F ht⟩⟩) hS.2.2 dL_rate_22 hlocks
      replace hf := if_f hk9 hf
      by_cases hk9 : k3 = 2
      · subst hk9
        replace hf := if_t rfl hf
        have hP : va_P D vwCl (W_FO cI cV cJ vf a x6) H := by rw [hx6]; exact hP
        have hD : va_D A (W_FO cI cV cJ vf a x6) := by rw [hx6]; exact hD
        have hE9 : E = "java/lang/IllegalStateException" := hE9
        subst hE9
        refine vx_catch (own := RL) (name := "java/lang/IllegalStateException") hown [⟨0, 12, 15, 13⟩, ⟨0, 12, 19, 15⟩] ⟨0, 12, 23, 17⟩ [] htab (List.forall_mem_cons.mpr ⟨Or.inr ⟨by decide, "java/lang/IndexOutOfBoundsException", hg _ w442, hE.1.2.2.2.2.2.1 _ (List.mem_of_getElem? (i := 2) rfl) _ (List.mem_of_getElem? (i := 0) rfl) (by decide +kernel)⟩, List.forall_mem_cons.mpr ⟨Or.inr ⟨by decide, "java/lang/IllegalArgumentException", hg _ w443, hE.1.2.2.2.2.2.1 _ (List.mem_of_getElem? (i := 2) rfl) _ (List.mem_of_getElem? (i := 1) rfl) (by decide +kernel)⟩, fun _ h => absurd h List.not_mem_nil⟩⟩) (by decide) (by decide) (hg _ w444) (va_Nw.use rfl (hE.1.2.2.2.2.1 _ (List.mem_of_getElem? (i := 2) rfl))) hce hcv hcl ?_
        refine W.eq (g2 := F0 m 23 ls [.ref q9]) rfl ?_
        refine lv_astore (lv' := [(5, .ref q9), (0, .ref (a 0)), (1, .int p1), (2, .int p2), (3, .int p3), (4, .ref (a 24))]) hx hb dL_rate_23 hl (by decide) rfl (fun ls hl => ?_)
        refine lv_iconst (v := 3) hx hb dL_rate_25 (by decide) ?_
        obtain rfl := Option.some.inj hf
        refine vx_ret ?_
        exact W.iret (v := 3) hx hb hr (fun t ht hW => ⟨_, rfl, ⟨rfl, by rw [ht]; exact hP, va_K.moved hW.alike hK, hD, hS.F ht⟩⟩) hS.2.2 dL_rate_26 hlocks
      replace hf := if_f hk9 hf
      cases hf
    obtain ⟨r4, hq9, rfl⟩ := rsI_v h5
    replace hf := thr_v hf hq9
    have hP : va_P D vwCl (W_FO cI cV cJ vf a x6) H := by rw [hx6]; exact hP
    have hD : va_D A (W_FO cI cV cJ vf a x6) := by rw [hx6]; exact hD
    refine W.eq (g2 := F0 m 10 ls [.int r4, .int 0, .ref (a 24)]) rfl ?_
    refine lv_i2l (v := (r4).toInt64) hx hb dL_rate_10 rfl ?_
    obtain ⟨hi7, hf⟩ := chk_t hf
    refine va_last hx hb hK hP hD hS 24 2 rfl rfl (inb_in hi7) dL_rate_11 (fun H locs hP hD hS => ?_)
    obtain ⟨x8, hx8⟩ : ∃ z, z = (pO_s x6 (vp_updL (pO x6) (0 : Int32).toNatClampNeg (r4).toInt64)) := ⟨_, rfl⟩
    replace hf := keep_e hf x8 hx8
    have hP : va_P D vwCl (W_FO cI cV cJ vf a x8) H := by rw [hx8]; exact hP
    have hD : va_D A (W_FO cI cV cJ vf a x8) := by rw [hx8]; exact hD
    refine lv_goto (tgt := 27) hx hb dL_rate_12 (by decide) ?_
    refine lv_iconst (v := 0) hx hb dL_rate_27 (by decide) ?_
    obtain rfl := Option.some.inj hf
    refine vx_ret ?_
    exact W.iret (v := 0) hx hb hr (fun t ht hW => ⟨_, rfl, ⟨rfl, by rw [ht]; exact hP, va_K.moved hW.alike hK, hD, hS.F ht⟩⟩) hS.2.2 dL_rate_28 hlocks
  exact M0 s.heap [] ls hf hP hD hS hl
/-! CompactformsLaw.append(LCompactforms;II[J)I -/
def fL_append (k : Nat) (x : POSt) (p1 : Int32) (p2 : Int32) : Option (POSt × Int32) := (fX7_append k (pF x) p1 p2).bind (fun u1 => keep (pF_s x u1.1) (fun x6 => thr u1.2 (fun k3 => if k3 = 0 then some (x6, 1) else if k3 = 1 then some (x6, 2) else if k3 = 2 then some (x6, 3) else none) (fun r4 => chk (inb 0 1) (keep (pO_s x6 (vp_updL (pO x6) (0 : Int32).toNatClampNeg (r4).toInt64)) (fun x8 => some (x8, 0))))))
set_option maxHeartbeats 4000000 in
set_option maxRecDepth 100000 in
theorem met_L_append {D : va_G} {cI cV cJ cD : ClassId} (l : Launch) (hlt : l.stackTraces = false) (k : Nat) (vf : Nat → Option Nat) (a : Nat → Nat) (hvf : vf k = some (a 6)) (x : POSt) (p1 : Int32) (p2 : Int32) (res : POSt × Int32) (hf : fL_append k x p1 p2 = some res) : MXW l yL_append cL_append 5 (some .int) [(0, 10, 13, 13), (0, 10, 17, 15), (0, 10, 21, 17)] { frames := 9, cells := 5, slots := 30, locals := 202 } D (TY cI cV cJ cD) (W_FO cI cV cJ vf a x) (W_FO cI cV cJ vf a res.1) [.ref (a 0), .int p1, .int p2, .ref (a 24)] (.inl (some (.int res.2))) := by
  intro sz
  refine vx_ofWH (cc := cL_append) (maxL := 5) (ret := (some .int)) (hh := [(0, 10, 13, 13), (0, 10, 17, 15), (0, 10, 21, 17)]) (by decide +kernel) rfl ?_
  intro p e s m args below meth c s₁ B hml hv
  obtain ⟨rfl, hsz, hP, hK, hD0, hE⟩ := hv
  have hx := B.exec
  have hb := B.bytes
  have hr := B.returns
  have hts := atoms_spec (ws := .codeWith yL_append cL_append 5 (some .int) [(0, 10, 13, 13), (0, 10, 17, 15), (0, 10, 21, 17)] :: GW) B.pre
  have hg : ∀ w ∈ GW, w.before (([.ref (a 0), .int p1, .int p2, .ref (a 24)] : List Value).toArray) s = true := fun w h => hts w (List.mem_cons_of_mem _ h)
  have hown : s.vm.findClass RL = some m.cls := findClass_of_methodNamed B.named
  have hlocks := B.notSynchronized
  have htab : c.exceptionTable.toList = [⟨0, 10, 13, 13⟩, ⟨0, 10, 17, 15⟩, ⟨0, 10, 21, 17⟩] := vx_table (x := yL_append) B (hts _ List.mem_cons_self)
  subst hsz
  have hD := hD0.self (sz := s.heap.size)
  generalize hAe : va_A (W_FO cI cV cJ vf a x) s.heap.size = A at hD hE ⊢
  have hA : ∀ q : Nat, s.heap.size ≤ q → A q := fun q h => by rw [← hAe]; exact Or.inr h
  have hS : va_S A s.heap s.heap [] := va_S.rf
  have hl := lv_entry ([.ref (a 0), .int p1, .int p2, .ref (a 24)]) (n := 5) (Nat.le_of_ble_eq_true rfl)
  rw [lg_entry_eq]
  generalize (lg_sl ([.ref (a 0), .int p1, .int p2, .ref (a 24)]) ++ List.replicate (5 - (lg_sl ([.ref (a 0), .int p1, .int p2, .ref (a 24)])).length) Slot.unset).toArray = ls at hl ⊢
  have hl : lv_has ls 5 [(0, .ref (a 0)), (1, .int p1), (2, .int p2), (3, .ref (a 24))] := hl
  have M0 : ∀ (H : Heap) (locs : List Loc) (ls : Array Slot), fL_append k x p1 p2 = some res → va_P D vwCl (W_FO cI cV cJ vf a x) H → va_D A (W_FO cI cV cJ vf a x) → va_S A s.heap H locs → lv_has ls 5 [(0, .ref (a 0)), (1, .int p1), (2, .int p2), (3, .ref (a 24))] → W p l e ({ frames := 9, cells := 5, slots := 30, locals := 202 } : Room) s m ([.ref (a 0), .int p1, .int p2, .ref (a 24)] : List Value).toArray below meth c H locs 0 0 (vx_MQ below (QR D (TY cI cV cJ cD) (W_FO cI cV cJ vf a res.1) A (.inl (some (.int res.2)))) (XR D (TY cI cV cJ cD) (W_FO cI cV cJ vf a res.1) A (.inl (some (.int res.2)))) (([.ref (a 0), .int p1, .int p2, .ref (a 24)] : List Value).toArray) s 5 30 A) (F0 m 0 ls []) := by
    intro H locs ls hf hP hD hS hl
    dsimp only [fL_append] at hf
    refine lv_aload_n hx hb dL_append_0 rfl (lv_at hl 3 rfl) ?_
    refine lv_iconst (v := 0) hx hb dL_append_1 (by decide) ?_
    refine lv_aload_n hx hb dL_append_2 rfl (lv_at hl 0 rfl) ?_
    refine lv_iload_n hx hb dL_append_3 rfl (lv_at hl 1 rfl) ?_
    refine lv_iload_n hx hb dL_append_4 rfl (lv_at hl 2 rfl) ?_
    obtain ⟨u1, hc2, hf⟩ := bind_t hf
    try dsimp only at hf
    obtain ⟨x6, hx6⟩ : ∃ z, z = (pF_s x u1.1) := ⟨_, rfl⟩
    replace hf := keep_e hf x6 hx6
    refine k_VX (As := [.int p1, .int p2]) (rest := [.int 0, .ref (a 24)]) (n := 2) ⟨hx, hb, hml, hown, hts⟩ (met_X7_append l hlt k vf a hvf (pF x) p1 p2 u1 hc2) w626 w627 w628 w1 w629 ⟨rfl, by decide +kernel, by decide +kernel, by decide +kernel⟩ ⟨Nat.le_of_ble_eq_true rfl, Nat.le_of_ble_eq_true rfl⟩ hK hE hP hD hS hA (isC := [0, 1, 2, 3, 4, 5, 6, 7, 8, 9, 10, 11, 12, 13, 14, 15, 16, 17, 18, 19, 20, 21, 22, 23]) (isR := [24]) (isB := [1, 2, 3, 4, 5, 6, 7, 8, 9, 10, 11, 12, 13, 14, 15, 16, 17, 18, 19, 20, 21, 22, 23, 24, 0]) (ws' := W_FO cI cV cJ vf a (pF_s x u1.1)) ⟨([24] : List Nat).filterMap (fun i : Nat => (W_FO cI cV cJ vf a x : va_W)[i]?), rfl, rfl, rfl, rfl, by decide, rfl, rfl⟩ 0 6 rfl rfl rfl rfl hl.1 rfl (Nat.le_of_ble_eq_true rfl) dL_append_5 ⟨Nat.le_of_ble_eq_true rfl, Nat.le_of_ble_eq_true rfl⟩ (fun E ce q9 H locs h5 hP hD hS hce hcv hcl => ?_) (fun rv9 H locs h5 hP hD hS => ?_)
    · obtain ⟨k3, hq9, hE9⟩ := rsI_x h5
      replace hf := thr_x hf hq9
      by_cases hk9 : k3 = 0
      · subst hk9
        replace hf := if_t rfl hf
        have hP : va_P D vwCl (W_FO cI cV cJ vf a x6) H := by rw [hx6]; exact hP
        have hD : va_D A (W_FO cI cV cJ vf a x6) := by rw [hx6]; exact hD
        have hE9 : E = "java/lang/IndexOutOfBoundsException" := hE9
        subst hE9
        refine vx_catch (own := RL) (name := "java/lang/IndexOutOfBoundsException") hown [] ⟨0, 10, 13, 13⟩ [⟨0, 10, 17, 15⟩, ⟨0, 10, 21, 17⟩] htab (fun _ h => absurd h List.not_mem_nil) (by decide) (by decide) (hg _ w442) (va_Nw.use rfl (hE.1.2.2.2.2.1 _ (List.mem_of_getElem? (i := 0) rfl))) hce hcv hcl ?_
        refine W.eq (g2 := F0 m 13 ls [.ref q9]) rfl ?_
        refine lv_astore (lv' := [(4, .ref q9), (0, .ref (a 0)), (1, .int p1), (2, .int p2), (3, .ref (a 24))]) hx hb dL_append_13 hl (by decide) rfl (fun ls hl => ?_)
        refine lv_iconst (v := 1) hx hb dL_append_15 (by decide) ?_
        obtain rfl := Option.some.inj hf
        refine vx_ret ?_
        exact W.iret (v := 1) hx hb hr (fun t ht hW => ⟨_, rfl, ⟨rfl, by rw [ht]; exact hP, va_K.moved hW.alike hK, hD, hS.F ht⟩⟩) hS.2.2 dL_append_16 hlocks
      replace hf := if_f hk9 hf
      by_cases hk9 : k3 = 1
      · subst hk9
        replace hf := if_t rfl hf
        have hP : va_P D vwCl (W_FO cI cV cJ vf a x6) H := by rw [hx6]; exact hP
        have hD : va_D A (W_FO cI cV cJ vf a x6) := by rw [hx6]; exact hD
        have hE9 : E = "java/lang/IllegalArgumentException" := hE9
        subst hE9
        refine vx_catch (own := RL) (name := "java/lang/IllegalArgumentException") hown [⟨0, 10, 13, 13⟩] ⟨0, 10, 17, 15⟩ [⟨0, 10, 21, 17⟩] htab (List.forall_mem_cons.mpr ⟨Or.inr ⟨by decide, "java/lang/IndexOutOfBoundsException", hg _ w442, hE.1.2.2.2.2.2.1 _ (List.mem_of_getElem? (i := 1) rfl) _ (List.mem_of_getElem? (i := 0) rfl) (by decide +kernel)⟩, fun _ h => absurd h List.not_mem_nil⟩) (by decide) (by decide) (hg _ w443) (va_Nw.use rfl (hE.1.2.2.2.2.1 _ (List.mem_of_getElem? (i := 1) rfl))) hce hcv hcl ?_
        refine W.eq (g2 := F0 m 17 ls [.ref q9]) rfl ?_
        refine lv_astore (lv' := [(4, .ref q9), (0, .ref (a 0)), (1, .int p1), (2, .int p2), (3, .ref (a 24))]) hx hb dL_append_17 hl (by decide) rfl (fun ls hl => ?_)
        refine lv_iconst (v := 2) hx hb dL_append_19 (by decide) ?_
        obtain rfl := Option.some.inj hf
        refine vx_ret ?_
        exact W.iret (v := 2) hx hb hr (fun t ht hW => ⟨_, rfl, ⟨rfl, by rw [ht]; exact hP, va_K.moved hW.alike hK, hD, hS.F ht⟩⟩) hS.2.2 dL_append_20 hlocks
      replace hf := if_f hk9 hf
      by_cases hk9 : k3 = 2
      · subst hk9
        replace hf := if_t rfl hf
        have hP : va_P D vwCl (W_FO cI cV cJ vf a x6) H := by rw [hx6]; exact hP
        have hD : va_D A (W_FO cI cV cJ vf a x6) := by rw [hx6]; exact hD
        have hE9 : E = "java/lang/IllegalStateException" := hE9
        subst hE9
        refine vx_catch (own := RL) (name := "java/lang/IllegalStateException") hown [⟨0, 10, 13, 13⟩, ⟨0, 10, 17, 15⟩] ⟨0, 10, 21, 17⟩ [] htab (List.forall_mem_cons.mpr ⟨Or.inr ⟨by decide, "java/lang/IndexOutOfBoundsException", hg _ w442, hE.1.2.2.2.2.2.1 _ (List.mem_of_getElem? (i := 2) rfl) _ (List.mem_of_getElem? (i := 0) rfl) (by decide +kernel)⟩, List.forall_mem_cons.mpr ⟨Or.inr ⟨by decide, "java/lang/IllegalArgumentException", hg _ w443, hE.1.2.2.2.2.2.1 _ (List.mem_of_getElem? (i := 2) rfl) _ (List.mem_of_getElem? (i := 1) rfl) (by decide +kernel)⟩, fun _ h => absurd h List.not_mem_nil⟩⟩) (by decide) (by decide) (hg _ w444) (va_Nw.use rfl (hE.1.2.2.2.2.1 _ (List.mem_of_getElem? (i := 2) rfl))) hce hcv hcl ?_
        refine W.eq (g2 := F0 m 21 ls [.ref q9]) rfl ?_
        refine lv_astore (lv' := [(4, .ref q9), (0, .ref (a 0)), (1, .int p1), (2, .int p2), (3, .ref (a 24))]) hx hb dL_append_21 hl (by decide) rfl (fun ls hl => ?_)
        refine lv_iconst (v := 3) hx hb dL_append_23 (by decide) ?_
        obtain rfl := Option.some.inj hf
        refine vx_ret ?_
        exact W.iret (v := 3) hx hb hr (fun t ht hW => ⟨_, rfl, ⟨rfl, by rw [ht]; exact hP, va_K.moved hW.alike hK, hD, hS.F ht⟩⟩) hS.2.2 dL_append_24 hlocks
      replace hf := if_f hk9 hf
      cases hf
    obtain ⟨r4, hq9, rfl⟩ := rsI_v h5
    replace hf := thr_v hf hq9
    have hP : va_P D vwCl (W_FO cI cV cJ vf a x6) H := by rw [hx6]; exact hP
    have hD : va_D A (W_FO cI cV cJ vf a x6) := by rw [hx6]; exact hD
    refine W.eq (g2 := F0 m 8 ls [.int r4, .int 0, .ref (a 24)]) rfl ?_
    refine lv_i2l (v := (r4).toInt64) hx hb dL_append_8 rfl ?_
    obtain ⟨hi7, hf⟩ := chk_t hf
    refine va_last hx hb hK hP hD hS 24 2 rfl rfl (inb_in hi7) dL_append_9 (fun H locs hP hD hS => ?_)
    obtain ⟨x8, hx8⟩ : ∃ z, z = (pO_s x6 (vp_updL (pO x6) (0 : Int32).toNatClampNeg (r4).toInt64)) := ⟨_, rfl⟩
    replace hf := keep_e hf x8 hx8
    have hP : va_P D vwCl (W_FO cI cV cJ vf a x8) H := by rw [hx8]; exact hP
    have hD : va_D A (W_FO cI cV cJ vf a x8) := by rw [hx8]; exact hD
    refine lv_goto (tgt := 25) hx hb dL_append_10 (by decide) ?_
    refine lv_iconst (v := 0) hx hb dL_append_25 (by decide) ?_
    obtain rfl := Option.some.inj hf
    refine vx_ret ?_
    exact W.iret (v := 0) hx hb hr (fun t ht hW => ⟨_, rfl, ⟨rfl, by rw [ht]; exact hP, va_K.moved hW.alike hK, hD, hS.F ht⟩⟩) hS.2.2 dL_append_26 hlocks
  exact M0 s.heap [] ls hf hP hD hS hl
/-! CompactformsLaw.read(LCompactforms;III[J)I -/
def fL_read (k : Nat) (x : POSt) (p1 : Int32) (p2 : Int32) (p3 : Int32) : Option (POSt × Int32) := (fX7_read k (pF x) p1 p2 p3).bind (fun u1 => keep (pF_s x u1.1) (fun x6 => thr u1.2 (fun k3 => if k3 = 0 then some (x6, 1) else if k3 = 2 then some (x6, 2) else none) (fun r4 => chk (inb 0 1) (keep (pO_s x6 (vp_updL (pO x6) (0 : Int32).toNatClampNeg (r4).toInt64)) (fun x8 => some (x8, 0))))))
set_option maxHeartbeats 4000000 in
set_option maxRecDepth 100000 in
theorem met_L_read {D : va_G} {cI cV cJ cD : ClassId} (l : Launch) (hlt : l.stackTraces = false) (k : Nat) (vf : Nat → Option Nat) (a : Nat → Nat) (hvf : vf k = some (a 6)) (x : POSt) (p1 : Int32) (p2 : Int32) (p3 : Int32) (res : POSt × Int32) (hf : fL_read k x p1 p2 p3 = some res) : MXW l yL_read cL_read 6 (some .int) [(0, 12, 15, 13), (0, 12, 19, 17)] { frames := 8, cells := 5, slots := 30, locals := 203 } D (TY cI cV cJ cD) (W_FO cI cV cJ vf a x) (W_FO cI cV cJ vf a res.1) [.ref (a 0), .int p1, .int p2, .int p3, .ref (a 24)] (.inl (some (.int res.2))) := by
  intro sz
  refine vx_ofWH (cc := cL_read) (maxL := 6) (ret := (some .int)) (hh := [(0, 12, 15, 13), (0, 12, 19, 17)]) (by decide +kernel) rfl ?_
  intro p e s m args below meth c s₁ B hml hv
  obtain ⟨rfl, hsz, hP, hK, hD0, hE⟩ := hv
  have hx := B.exec
  have hb := B.bytes
  have hr := B.returns
  have hts := atoms_spec (ws := .codeWith yL_read cL_read 6 (some .int) [(0, 12, 15, 13), (0, 12, 19, 17)] :: GW) B.pre
  have hg : ∀ w ∈ GW, w.before (([.ref (a 0), .int p1, .int p2, .int p3, .ref (a 24)] : List Value).toArray) s = true := fun w h => hts w (List.mem_cons_of_mem _ h)
  have hown : s.vm.findClass RL = some m.cls := findClass_of_methodNamed B.named
  have hlocks := B.notSynchronized
  have htab : c.exceptionTable.toList = [⟨0, 12, 15, 13⟩, ⟨0, 12, 19, 17⟩] := vx_table (x := yL_read) B (hts _ List.mem_cons_self)
  subst hsz
  have hD := hD0.self (sz := s.heap.size)
  generalize hAe : va_A (W_FO cI cV cJ vf a x) s.heap.size = A at hD hE ⊢
  have hA : ∀ q : Nat, s.heap.size ≤ q → A q := fun q h => by rw [← hAe]; exact Or.inr h
  have hS : va_S A s.heap s.heap [] := va_S.rf
  have hl := lv_entry ([.ref (a 0), .int p1, .int p2, .int p3, .ref (a 24)]) (n := 6) (Nat.le_of_ble_eq_true rfl)
  rw [lg_entry_eq]
  generalize (lg_sl ([.ref (a 0), .int p1, .int p2, .int p3, .ref (a 24)]) ++ List.replicate (6 - (lg_sl ([.ref (a 0), .int p1, .int p2, .int p3, .ref (a 24)])).length) Slot.unset).toArray = ls at hl ⊢
  have hl : lv_has ls 6 [(0, .ref (a 0)), (1, .int p1), (2, .int p2), (3, .int p3), (4, .ref (a 24))] := hl
  have M0 : ∀ (H : Heap) (locs : List Loc) (ls : Array Slot), fL_read k x p1 p2 p3 = some res → va_P D vwCl (W_FO cI cV cJ vf a x) H → va_D A (W_FO cI cV cJ vf a x) → va_S A s.heap H locs → lv_has ls 6 [(0, .ref (a 0)), (1, .int p1), (2, .int p2), (3, .int p3), (4, .ref (a 24))] → W p l e ({ frames := 8, cells := 5, slots := 30, locals := 203 } : Room) s m ([.ref (a 0), .int p1, .int p2, .int p3, .ref (a 24)] : List Value).toArray below meth c H locs 0 0 (vx_MQ below (QR D (TY cI cV cJ cD) (W_FO cI cV cJ vf a res.1) A (.inl (some (.int res.2)))) (XR D (TY cI cV cJ cD) (W_FO cI cV cJ vf a res.1) A (.inl (some (.int res.2)))) (([.ref (a 0), .int p1, .int p2, .int p3, .ref (a 24)] : List Value).toArray) s 5 30 A) (F0 m 0 ls []) := by
    intro H locs ls hf hP hD hS hl
    dsimp only [fL_read] at hf
    refine lv_aload hx hb dL_read_0 (lv_at hl 4 rfl) ?_
    refine lv_iconst (v := 0) hx hb dL_read_2 (by decide) ?_
    refine lv_aload_n hx hb dL_read_3 rfl (lv_at hl 0 rfl) ?_
    refine lv_iload_n hx hb dL_read_4 rfl (lv_at hl 1 rfl) ?_
    refine lv_iload_n hx hb dL_read_5 rfl (lv_at hl 2 rfl) ?_
    refine lv_iload_n hx hb dL_read_6 rfl (lv_at hl 3 rfl) ?_
    obtain ⟨u1, hc2, hf⟩ := bind_t hf
    try dsimp only at hf
    obtain ⟨x6, hx6⟩ : ∃ z, z = (pF_s x u1.1) := ⟨_, rfl⟩
    replace hf := keep_e hf x6 hx6
    refine k_VX (As := [.int p1, .int p2, .int p3]) (rest := [.int 0, .ref (a 24)]) (n := 3) ⟨hx, hb, hml, hown, hts⟩ (met_X7_read l hlt k vf a hvf (pF x) p1 p2 p3 u1 hc2) w633 w634 w635 w1 w636 ⟨rfl, by decide +kernel, by decide +kernel, by decide +kernel⟩ ⟨Nat.le_of_ble_eq_true rfl, Nat.le_of_ble_eq_true rfl⟩ hK hE hP hD hS hA (isC := [0, 1, 2, 3, 4, 5, 6, 7, 8, 9, 10, 11, 12, 13, 14, 15, 16, 17, 18, 19, 20, 21, 22, 23]) (isR := [24]) (isB := [1, 2, 3, 4, 5, 6, 7, 8, 9, 10, 11, 12, 13, 14, 15, 16, 17, 18, 19, 20, 21, 22, 23, 24, 0]) (ws' := W_FO cI cV cJ vf a (pF_s x u1.1)) ⟨([24] : List Nat).filterMap (fun i : Nat => (W_FO cI cV cJ vf a x : va_W)[i]?), rfl, rfl, rfl, rfl, by decide, rfl, rfl⟩ 0 6 rfl rfl rfl rfl hl.1 rfl (Nat.le_of_ble_eq_true rfl) dL_read_7 ⟨Nat.le_of_ble_eq_true rfl, Nat.le_of_ble_eq_true rfl⟩ (fun E ce q9 H locs h5 hP hD hS hce hcv hcl => ?_) (fun rv9 H locs h5 hP hD hS => ?_)
    · obtain ⟨k3, hq9, hE9⟩ := rsI_x h5
      replace hf := thr_x hf hq9
      by_cases hk9 : k3 = 0
      · subst hk9
        replace hf := if_t rfl hf
        have hP : va_P D vwCl (W_FO cI cV cJ vf a x6) H := by rw [hx6]; exact hP
        have hD : va_D A (W_FO cI cV cJ vf a x6) := by rw [hx6]; exact hD
        have hE9 : E = "java/lang/IndexOutOfBoundsException" := hE9
        subst hE9
        refine vx_catch (own := RL) (name := "java/lang/IndexOutOfBoundsException") hown [] ⟨0, 12, 15, 13⟩ [⟨0, 12, 19, 17⟩] htab (fun _ h => absurd h List.not_mem_nil) (by decide) (by decide) (hg _ w442) (va_Nw.use rfl (hE.1.2.2.2.2.1 _ (List.mem_of_getElem? (i := 0) rfl))) hce hcv hcl ?_
        refine W.eq (g2 := F0 m 15 ls [.ref q9]) rfl ?_
        refine lv_astore (lv' := [(5, .ref q9), (0, .ref (a 0)), (1, .int p1), (2, .int p2), (3, .int p3), (4, .ref (a 24))]) hx hb dL_read_15 hl (by decide) rfl (fun ls hl => ?_)
        refine lv_iconst (v := 1) hx hb dL_read_17 (by decide) ?_
        obtain rfl := Option.some.inj hf
        refine vx_ret ?_
        exact W.iret (v := 1) hx hb hr (fun t ht hW => ⟨_, rfl, ⟨rfl, by rw [ht]; exact hP, va_K.moved hW.alike hK, hD, hS.F ht⟩⟩) hS.2.2 dL_read_18 hlocks
      replace hf := if_f hk9 hf
      by_cases hk9 : k3 = 2
      · subst hk9
        replace hf := if_t rfl hf
        have hP : va_P D vwCl (W_FO cI cV cJ vf a x6) H := by rw [hx6]; exact hP
        have hD : va_D A (W_FO cI cV cJ vf a x6) := by rw [hx6]; exact hD
        have hE9 : E = "java/lang/IllegalStateException" := hE9
        subst hE9
        refine vx_catch (own := RL) (name := "java/lang/IllegalStateException") hown [⟨0, 12, 15, 13⟩] ⟨0, 12, 19, 17⟩ [] htab (List.forall_mem_cons.mpr ⟨Or.inr ⟨by decide, "java/lang/IndexOutOfBoundsException", hg _ w442, hE.1.2.2.2.2.2.1 _ (List.mem_of_getElem? (i := 2) rfl) _ (List.mem_of_getElem? (i := 0) rfl) (by decide +kernel)⟩, fun _ h => absurd h List.not_mem_nil⟩) (by decide) (by decide) (hg _ w444) (va_Nw.use rfl (hE.1.2.2.2.2.1 _ (List.mem_of_getElem? (i := 2) rfl))) hce hcv hcl ?_
        refine W.eq (g2 := F0 m 19 ls [.ref q9]) rfl ?_
        refine lv_astore (lv' := [(5, .ref q9), (0, .ref (a 0)), (1, .int p1), (2, .int p2), (3, .int p3), (4, .ref (a 24))]) hx hb dL_read_19 hl (by decide) rfl (fun ls hl => ?_)
        refine lv_iconst (v := 2) hx hb dL_read_21 (by decide) ?_
        obtain rfl := Option.some.inj hf
        refine vx_ret ?_
        exact W.iret (v := 2) hx hb hr (fun t ht hW => ⟨_, rfl, ⟨rfl, by rw [ht]; exact hP, va_K.moved hW.alike hK, hD, hS.F ht⟩⟩) hS.2.2 dL_read_22 hlocks
      replace hf := if_f hk9 hf
      cases hf
    obtain ⟨r4, hq9, rfl⟩ := rsI_v h5
    replace hf := thr_v hf hq9
    have hP : va_P D vwCl (W_FO cI cV cJ vf a x6) H := by rw [hx6]; exact hP
    have hD : va_D A (W_FO cI cV cJ vf a x6) := by rw [hx6]; exact hD
    refine W.eq (g2 := F0 m 10 ls [.int r4, .int 0, .ref (a 24)]) rfl ?_
    refine lv_i2l (v := (r4).toInt64) hx hb dL_read_10 rfl ?_
    obtain ⟨hi7, hf⟩ := chk_t hf
    refine va_last hx hb hK hP hD hS 24 2 rfl rfl (inb_in hi7) dL_read_11 (fun H locs hP hD hS => ?_)
    obtain ⟨x8, hx8⟩ : ∃ z, z = (pO_s x6 (vp_updL (pO x6) (0 : Int32).toNatClampNeg (r4).toInt64)) := ⟨_, rfl⟩
    replace hf := keep_e hf x8 hx8
    have hP : va_P D vwCl (W_FO cI cV cJ vf a x8) H := by rw [hx8]; exact hP
    have hD : va_D A (W_FO cI cV cJ vf a x8) := by rw [hx8]; exact hD
    refine lv_goto (tgt := 23) hx hb dL_read_12 (by decide) ?_
    refine lv_iconst (v := 0) hx hb dL_read_23 (by decide) ?_
    obtain rfl := Option.some.inj hf
    refine vx_ret ?_
    exact W.iret (v := 0) hx hb hr (fun t ht hW => ⟨_, rfl, ⟨rfl, by rw [ht]; exact hP, va_K.moved hW.alike hK, hD, hS.F ht⟩⟩) hS.2.2 dL_read_24 hlocks
  exact M0 s.heap [] ls hf hP hD hS hl
/-! CompactformsLaw.done(LCompactforms;III[J)I -/
def fL_done_18 (k : Nat) (x : POSt) (s0 : Int64) (s1 : Int32) : Option (POSt × Int32) := chk (inb s1 1) (keep (pO_s x (vp_updL (pO x) (s1 : Int32).toNatClampNeg s0)) (fun x2 => some (x2, 0)))
def fL_done (k : Nat) (x : POSt) (p1 : Int32) (p2 : Int32) (p3 : Int32) : Option (POSt × Int32) := (fX7_done k (pF x) p1 p2 p3).bind (fun u3 => keep (pF_s x u3.1) (fun x8 => thr u3.2 (fun k5 => if k5 = 0 then some (x8, 1) else if k5 = 2 then some (x8, 2) else none) (fun r6 => (if r6 = 0 then fL_done_18 k x8 0 0 else fL_done_18 k x8 1 0))))
set_option maxHeartbeats 4000000 in
set_option maxRecDepth 100000 in
theorem met_L_done {D : va_G} {cI cV cJ cD : ClassId} (l : Launch) (hlt : l.stackTraces = false) (k : Nat) (vf : Nat → Option Nat) (a : Nat → Nat) (hvf : vf k = some (a 6)) (x : POSt) (p1 : Int32) (p2 : Int32) (p3 : Int32) (res : POSt × Int32) (hf : fL_done k x p1 p2 p3 = some res) : MXW l yL_done cL_done 6 (some .int) [(0, 19, 22, 13), (0, 19, 26, 17)] { frames := 8, cells := 4, slots := 24, locals := 203 } D (TY cI cV cJ cD) (W_FO cI cV cJ vf a x) (W_FO cI cV cJ vf a res.1) [.ref (a 0), .int p1, .int p2, .int p3, .ref (a 24)] (.inl (some (.int res.2))) := by
  intro sz
  refine vx_ofWH (cc := cL_done) (maxL := 6) (ret := (some .int)) (hh := [(0, 19, 22, 13), (0, 19, 26, 17)]) (by decide +kernel) rfl ?_
  intro p e s m args below meth c s₁ B hml hv
  obtain ⟨rfl, hsz, hP, hK, hD0, hE⟩ := hv
  have hx := B.exec
  have hb := B.bytes
  have hr := B.returns
  have hts := atoms_spec (ws := .codeWith yL_done cL_done 6 (some .int) [(0, 19, 22, 13), (0, 19, 26, 17)] :: GW) B.pre
  have hg : ∀ w ∈ GW, w.before (([.ref (a 0), .int p1, .int p2, .int p3, .ref (a 24)] : List Value).toArray) s = true := fun w h => hts w (List.mem_cons_of_mem _ h)
  have hown : s.vm.findClass RL = some m.cls := findClass_of_methodNamed B.named
  have hlocks := B.notSynchronized
  have htab : c.exceptionTable.toList = [⟨0, 19, 22, 13⟩, ⟨0, 19, 26, 17⟩] := vx_table (x := yL_done) B (hts _ List.mem_cons_self)
  subst hsz
  have hD := hD0.self (sz := s.heap.size)
  generalize hAe : va_A (W_FO cI cV cJ vf a x) s.heap.size = A at hD hE ⊢
  have hA : ∀ q : Nat, s.heap.size ≤ q → A q := fun q h => by rw [← hAe]; exact Or.inr h
  have hS : va_S A s.heap s.heap [] := va_S.rf
  have hl := lv_entry ([.ref (a 0), .int p1, .int p2, .int p3, .ref (a 24)]) (n := 6) (Nat.le_of_ble_eq_true rfl)
  rw [lg_entry_eq]
  generalize (lg_sl ([.ref (a 0), .int p1, .int p2, .int p3, .ref (a 24)]) ++ List.replicate (6 - (lg_sl ([.ref (a 0), .int p1, .int p2, .int p3, .ref (a 24)])).length) Slot.unset).toArray = ls at hl ⊢
  have hl : lv_has ls 6 [(0, .ref (a 0)), (1, .int p1), (2, .int p2), (3, .int p3), (4, .ref (a 24))] := hl
  have L18 : ∀ (x : POSt) (s0 : Int64) (s1 : Int32) (H : Heap) (locs : List Loc) (ls : Array Slot), fL_done_18 k x s0 s1  = some res → va_P D vwCl (W_FO cI cV cJ vf a x) H → va_D A (W_FO cI cV cJ vf a x) → va_S A s.heap H locs → lv_has ls 6 [] → W p l e ({ frames := 8, cells := 4, slots := 24, locals := 203 } : Room) s m ([.ref (a 0), .int p1, .int p2, .int p3, .ref (a 24)] : List Value).toArray below meth c H locs 4 24 (vx_MQ below (QR D (TY cI cV cJ cD) (W_FO cI cV cJ vf a res.1) A (.inl (some (.int res.2)))) (XR D (TY cI cV cJ cD) (W_FO cI cV cJ vf a res.1) A (.inl (some (.int res.2)))) (([.ref (a 0), .int p1, .int p2, .int p3, .ref (a 24)] : List Value).toArray) s 4 24 A) (F0 m 18 ls [.long s0, .int s1, .ref (a 24)]) := by
    intro x s0 s1 H locs ls hf hP hD hS hl
    dsimp only [fL_done_18] at hf
    obtain ⟨hi1, hf⟩ := chk_t hf
    refine va_last hx hb hK hP hD hS 24 2 rfl rfl (inb_in hi1) dL_done_18 (fun H locs hP hD hS => ?_)
    obtain ⟨x2, hx2⟩ : ∃ z, z = (pO_s x (vp_updL (pO x) (s1 : Int32).toNatClampNeg s0)) := ⟨_, rfl⟩
    replace hf := keep_e hf x2 hx2
    have hP : va_P D vwCl (W_FO cI cV cJ vf a x2) H := by rw [hx2]; exact hP
    have hD : va_D A (W_FO cI cV cJ vf a x2) := by rw [hx2]; exact hD
    refine lv_goto (tgt := 30) hx hb dL_done_19 (by decide) ?_
    refine lv_iconst (v := 0) hx hb dL_done_30 (by decide) ?_
    obtain rfl := Option.some.inj hf
    refine vx_ret ?_
    exact W.iret (v := 0) hx hb hr (fun t ht hW => ⟨_, rfl, ⟨rfl, by rw [ht]; exact hP, va_K.moved hW.alike hK, hD, hS.F ht⟩⟩) hS.2.2 dL_done_31 hlocks
  have M0 : ∀ (H : Heap) (locs : List Loc) (ls : Array Slot), fL_done k x p1 p2 p3 = some res → va_P D vwCl (W_FO cI cV cJ vf a x) H → va_D A (W_FO cI cV cJ vf a x) → va_S A s.heap H locs → lv_has ls 6 [(0, .ref (a 0)), (1, .int p1), (2, .int p2), (3, .int p3), (4, .ref (a 24))] → W p l e ({ frames := 8, cells := 4, slots := 24, locals := 203 } : Room) s m ([.ref (a 0), .int p1, .int p2, .int p3, .ref (a 24)] : List Value).toArray below meth c H locs 0 0 (vx_MQ below (QR D (TY cI cV cJ cD) (W_FO cI cV cJ vf a res.1) A (.inl (some (.int res.2)))) (XR D (TY cI cV cJ cD) (W_FO cI cV cJ vf a res.1) A (.inl (some (.int res.2)))) (([.ref (a 0), .int p1, .int p2, .int p3, .ref (a 24)] : List Value).toArray) s 4 24 A) (F0 m 0 ls []) := by
    intro H locs ls hf hP hD hS hl
    dsimp only [fL_done] at hf
    refine lv_aload hx hb dL_done_0 (lv_at hl 4 rfl) ?_
    refine lv_iconst (v := 0) hx hb dL_done_2 (by decide) ?_
    refine lv_aload_n hx hb dL_done_3 rfl (lv_at hl 0 rfl) ?_
    refine lv_iload_n hx hb dL_done_4 rfl (lv_at hl 1 rfl) ?_
    refine lv_iload_n hx hb dL_done_5 rfl (lv_at hl 2 rfl) ?_
    refine lv_iload_n hx hb dL_done_6 rfl (lv_at hl 3 rfl) ?_
    obtain ⟨u3, hc4, hf⟩ := bind_t hf
    try dsimp only at hf
    obtain ⟨x8, hx8⟩ : ∃ z, z = (pF_s x u3.1) := ⟨_, rfl⟩
    replace hf := keep_e hf x8 hx8
    refine k_VX (As := [.int p1, .int p2, .int p3]) (rest := [.int 0, .ref (a 24)]) (n := 3) ⟨hx, hb, hml, hown, hts⟩ (met_X7_done l hlt k vf a hvf (pF x) p1 p2 p3 u3 hc4) w649 w650 w651 w1 w652 ⟨rfl, by decide +kernel, by decide +kernel, by decide +kernel⟩ ⟨Nat.le_of_ble_eq_true rfl, Nat.le_of_ble_eq_true rfl⟩ hK hE hP hD hS hA (isC := [0, 1, 2, 3, 4, 5, 6, 7, 8, 9, 10, 11, 12, 13, 14, 15, 16, 17, 18, 19, 20, 21, 22, 23]) (isR := [24]) (isB := [1, 2, 3, 4, 5, 6, 7, 8, 9, 10, 11, 12, 13, 14, 15, 16, 17, 18, 19, 20, 21, 22, 23, 24, 0]) (ws' := W_FO cI cV cJ vf a (pF_s x u3.1)) ⟨([24] : List Nat).filterMap (fun i : Nat => (W_FO cI cV cJ vf a x : va_W)[i]?), rfl, rfl, rfl, rfl, by decide, rfl, rfl⟩ 0 6 rfl rfl rfl rfl hl.1 rfl (Nat.le_of_ble_eq_true rfl) dL_done_7 ⟨Nat.le_of_ble_eq_true rfl, Nat.le_of_ble_eq_true rfl⟩ (fun E ce q9 H locs h7 hP hD hS hce hcv hcl => ?_) (fun rv9 H locs h7 hP hD hS => ?_)
    · obtain ⟨k5, hq9, hE9⟩ := rsI_x h7
      replace hf := thr_x hf hq9
      by_cases hk9 : k5 = 0
      · subst hk9
        replace hf := if_t rfl hf
        have hP : va_P D vwCl (W_FO cI cV cJ vf a x8) H := by rw [hx8]; exact hP
        have hD : va_D A (W_FO cI cV cJ vf a x8) := by rw [hx8]; exact hD
        have hE9 : E = "java/lang/IndexOutOfBoundsException" := hE9
        subst hE9
        refine vx_catch (own := RL) (name := "java/lang/IndexOutOfBoundsException") hown [] ⟨0, 19, 22, 13⟩ [⟨0, 19, 26, 17⟩] htab (fun _ h => absurd h List.not_mem_nil) (by decide) (by decide) (hg _ w442) (va_Nw.use rfl (hE.1.2.2.2.2.1 _ (List.mem_of_getElem? (i := 0) rfl))) hce hcv hcl ?_
        refine W.eq (g2 := F0 m 22 ls [.ref q9]) rfl ?_
        refine lv_astore (lv' := [(5, .ref q9), (0, .ref (a 0)), (1, .int p1), (2, .int p2), (3, .int p3), (4, .ref (a 24))]) hx hb dL_done_22 hl (by decide) rfl (fun ls hl => ?_)
        refine lv_iconst (v := 1) hx hb dL_done_24 (by decide) ?_
        obtain rfl := Option.some.inj hf
        refine vx_ret ?_
        exact W.iret (v := 1) hx hb hr (fun t ht hW => ⟨_, rfl, ⟨rfl, by rw [ht]; exact hP, va_K.moved hW.alike hK, hD, hS.F ht⟩⟩) hS.2.2 dL_done_25 hlocks
      replace hf := if_f hk9 hf
      by_cases hk9 : k5 = 2
      · subst hk9
        replace hf := if_t rfl hf
        have hP : va_P D vwCl (W_FO cI cV cJ vf a x8) H := by rw [hx8]; exact hP
        have hD : va_D A (W_FO cI cV cJ vf a x8) := by rw [hx8]; exact hD
        have hE9 : E = "java/lang/IllegalStateException" := hE9
        subst hE9
        refine vx_catch (own := RL) (name := "java/lang/IllegalStateException") hown [⟨0, 19, 22, 13⟩] ⟨0, 19, 26, 17⟩ [] htab (List.forall_mem_cons.mpr ⟨Or.inr ⟨by decide, "java/lang/IndexOutOfBoundsException", hg _ w442, hE.1.2.2.2.2.2.1 _ (List.mem_of_getElem? (i := 2) rfl) _ (List.mem_of_getElem? (i := 0) rfl) (by decide +kernel)⟩, fun _ h => absurd h List.not_mem_nil⟩) (by decide) (by decide) (hg _ w444) (va_Nw.use rfl (hE.1.2.2.2.2.1 _ (List.mem_of_getElem? (i := 2) rfl))) hce hcv hcl ?_
        refine W.eq (g2 := F0 m 26 ls [.ref q9]) rfl ?_
        refine lv_astore (lv' := [(5, .ref q9), (0, .ref (a 0)), (1, .int p1), (2, .int p2), (3, .int p3), (4, .ref (a 24))]) hx hb dL_done_26 hl (by decide) rfl (fun ls hl => ?_)
        refine lv_iconst (v := 2) hx hb dL_done_28 (by decide) ?_
        obtain rfl := Option.some.inj hf
        refine vx_ret ?_
        exact W.iret (v := 2) hx hb hr (fun t ht hW => ⟨_, rfl, ⟨rfl, by rw [ht]; exact hP, va_K.moved hW.alike hK, hD, hS.F ht⟩⟩) hS.2.2 dL_done_29 hlocks
      replace hf := if_f hk9 hf
      cases hf
    obtain ⟨r6, hq9, rfl⟩ := rsI_v h7
    replace hf := thr_v hf hq9
    have hP : va_P D vwCl (W_FO cI cV cJ vf a x8) H := by rw [hx8]; exact hP
    have hD : va_D A (W_FO cI cV cJ vf a x8) := by rw [hx8]; exact hD
    refine W.eq (g2 := F0 m 10 ls [.int r6, .int 0, .ref (a 24)]) rfl ?_
    refine lv_if_eq (tgt := 17) hx hb dL_done_10 (by decide) (fun c9 => ?_) (fun c9 => ?_)
    · replace hf := if_t c9 hf
      refine lv_lconst (v := 0) hx hb dL_done_17 (by decide) ?_
      exact L18 x8 0 0 H locs ls hf hP hD hS (lv_sub hl [] rfl)
    · replace hf := if_f c9 hf
      refine lv_lconst (v := 1) hx hb dL_done_13 (by decide) ?_
      refine lv_goto (tgt := 18) hx hb dL_done_14 (by decide) ?_
      exact L18 x8 1 0 H locs ls hf hP hD hS (lv_sub hl [] rfl)
  exact M0 s.heap [] ls hf hP hD hS hl
/-! CompactformsLaw.claim(LCompactforms;IIII[J)I -/
def fL_claim (k : Nat) (x : POSt) (p1 : Int32) (p2 : Int32) (p3 : Int32) (p4 : Int32) : Option (POSt × Int32) := (fX7_claim k (pF x) p1 p2 p3 p4).bind (fun u1 => keep (pF_s x u1.1) (fun x6 => thr u1.2 (fun k3 => if k3 = 0 then some (x6, 1) else if k3 = 1 then some (x6, 2) else if k3 = 2 then some (x6, 3) else none) (fun r4 => chk (inb 0 1) (keep (pO_s x6 (vp_updL (pO x6) (0 : Int32).toNatClampNeg (r4).toInt64)) (fun x8 => some (x8, 0))))))
set_option maxHeartbeats 4000000 in
set_option maxRecDepth 100000 in
theorem met_L_claim {D : va_G} {cI cV cJ cD : ClassId} (l : Launch) (hlt : l.stackTraces = false) (k : Nat) (vf : Nat → Option Nat) (a : Nat → Nat) (hvf : vf k = some (a 6)) (x : POSt) (p1 : Int32) (p2 : Int32) (p3 : Int32) (p4 : Int32) (res : POSt × Int32) (hf : fL_claim k x p1 p2 p3 p4 = some res) : MXW l yL_claim cL_claim 7 (some .int) [(0, 14, 17, 13), (0, 14, 21, 15), (0, 14, 25, 17)] { frames := 8, cells := 6, slots := 36, locals := 204 } D (TY cI cV cJ cD) (W_FO cI cV cJ vf a x) (W_FO cI cV cJ vf a res.1) [.ref (a 0), .int p1, .int p2, .int p3, .int p4, .ref (a 24)] (.inl (some (.int res.2))) := by
  intro sz
  refine vx_ofWH (cc := cL_claim) (maxL := 7) (ret := (some .int)) (hh := [(0, 14, 17, 13), (0, 14, 21, 15), (0, 14, 25, 17)]) (by decide +kernel) rfl ?_
  intro p e s m args below meth c s₁ B hml hv
  obtain ⟨rfl, hsz, hP, hK, hD0, hE⟩ := hv
  have hx := B.exec
  have hb := B.bytes
  have hr := B.returns
  have hts := atoms_spec (ws := .codeWith yL_claim cL_claim 7 (some .int) [(0, 14, 17, 13), (0, 14, 21, 15), (0, 14, 25, 17)] :: GW) B.pre
  have hg : ∀ w ∈ GW, w.before (([.ref (a 0), .int p1, .int p2, .int p3, .int p4, .ref (a 24)] : List Value).toArray) s = true := fun w h => hts w (List.mem_cons_of_mem _ h)
  have hown : s.vm.findClass RL = some m.cls := findClass_of_methodNamed B.named
  have hlocks := B.notSynchronized
  have htab : c.exceptionTable.toList = [⟨0, 14, 17, 13⟩, ⟨0, 14, 21, 15⟩, ⟨0, 14, 25, 17⟩] := vx_table (x := yL_claim) B (hts _ List.mem_cons_self)
  subst hsz
  have hD := hD0.self (sz := s.heap.size)
  generalize hAe : va_A (W_FO cI cV cJ vf a x) s.heap.size = A at hD hE ⊢
  have hA : ∀ q : Nat, s.heap.size ≤ q → A q := fun q h => by rw [← hAe]; exact Or.inr h
  have hS : va_S A s.heap s.heap [] := va_S.rf
  have hl := lv_entry ([.ref (a 0), .int p1, .int p2, .int p3, .int p4, .ref (a 24)]) (n := 7) (Nat.le_of_ble_eq_true rfl)
  rw [lg_entry_eq]
  generalize (lg_sl ([.ref (a 0), .int p1, .int p2, .int p3, .int p4, .ref (a 24)]) ++ List.replicate (7 - (lg_sl ([.ref (a 0), .int p1, .int p2, .int p3, .int p4, .ref (a 24)])).length) Slot.unset).toArray = ls at hl ⊢
  have hl : lv_has ls 7 [(0, .ref (a 0)), (1, .int p1), (2, .int p2), (3, .int p3), (4, .int p4), (5, .ref (a 24))] := hl
  have M0 : ∀ (H : Heap) (locs : List Loc) (ls : Array Slot), fL_claim k x p1 p2 p3 p4 = some res → va_P D vwCl (W_FO cI cV cJ vf a x) H → va_D A (W_FO cI cV cJ vf a x) → va_S A s.heap H locs → lv_has ls 7 [(0, .ref (a 0)), (1, .int p1), (2, .int p2), (3, .int p3), (4, .int p4), (5, .ref (a 24))] → W p l e ({ frames := 8, cells := 6, slots := 36, locals := 204 } : Room) s m ([.ref (a 0), .int p1, .int p2, .int p3, .int p4, .ref (a 24)] : List Value).toArray below meth c H locs 0 0 (vx_MQ below (QR D (TY cI cV cJ cD) (W_FO cI cV cJ vf a res.1) A (.inl (some (.int res.2)))) (XR D (TY cI cV cJ cD) (W_FO cI cV cJ vf a res.1) A (.inl (some (.int res.2)))) (([.ref (a 0), .int p1, .int p2, .int p3, .int p4, .ref (a 24)] : List Value).toArray) s 6 36 A) (F0 m 0 ls []) := by
    intro H locs ls hf hP hD hS hl
    dsimp only [fL_claim] at hf
    refine lv_aload hx hb dL_claim_0 (lv_at hl 5 rfl) ?_
    refine lv_iconst (v := 0) hx hb dL_claim_2 (by decide) ?_
    refine lv_aload_n hx hb dL_claim_3 rfl (lv_at hl 0 rfl) ?_
    refine lv_iload_n hx hb dL_claim_4 rfl (lv_at hl 1 rfl) ?_
    refine lv_iload_n hx hb dL_claim_5 rfl (lv_at hl 2 rfl) ?_
    refine lv_iload_n hx hb dL_claim_6 rfl (lv_at hl 3 rfl) ?_
    refine lv_iload hx hb dL_claim_7 (lv_at hl 4 rfl) ?_
    obtain ⟨u1, hc2, hf⟩ := bind_t hf
    try dsimp only at hf
    obtain ⟨x6, hx6⟩ : ∃ z, z = (pF_s x u1.1) := ⟨_, rfl⟩
    replace hf := keep_e hf x6 hx6
    refine k_VX (As := [.int p1, .int p2, .int p3, .int p4]) (rest := [.int 0, .ref (a 24)]) (n := 4) ⟨hx, hb, hml, hown, hts⟩ (met_X7_claim l hlt k vf a hvf (pF x) p1 p2 p3 p4 u1 hc2) w656 w657 w658 w1 w659 ⟨rfl, by decide +kernel, by decide +kernel, by decide +kernel⟩ ⟨Nat.le_of_ble_eq_true rfl, Nat.le_of_ble_eq_true rfl⟩ hK hE hP hD hS hA (isC := [0, 1, 2, 3, 4, 5, 6, 7, 8, 9, 10, 11, 12, 13, 14, 15, 16, 17, 18, 19, 20, 21, 22, 23]) (isR := [24]) (isB := [1, 2, 3, 4, 5, 6, 7, 8, 9, 10, 11, 12, 13, 14, 15, 16, 17, 18, 19, 20, 21, 22, 23, 24, 0]) (ws' := W_FO cI cV cJ vf a (pF_s x u1.1)) ⟨([24] : List Nat).filterMap (fun i : Nat => (W_FO cI cV cJ vf a x : va_W)[i]?), rfl, rfl, rfl, rfl, by decide, rfl, rfl⟩ 0 6 rfl rfl rfl rfl hl.1 rfl (Nat.le_of_ble_eq_true rfl) dL_claim_9 ⟨Nat.le_of_ble_eq_true rfl, Nat.le_of_ble_eq_true rfl⟩ (fun E ce q9 H locs h5 hP hD hS hce hcv hcl => ?_) (fun rv9 H locs h5 hP hD hS => ?_)
    · obtain ⟨k3, hq9, hE9⟩ := rsI_x h5
      replace hf := thr_x hf hq9
      by_cases hk9 : k3 = 0
      · subst hk9
        replace hf := if_t rfl hf
        have hP : va_P D vwCl (W_FO cI cV cJ vf a x6) H := by rw [hx6]; exact hP
        have hD : va_D A (W_FO cI cV cJ vf a x6) := by rw [hx6]; exact hD
        have hE9 : E = "java/lang/IndexOutOfBoundsException" := hE9
        subst hE9
        refine vx_catch (own := RL) (name := "java/lang/IndexOutOfBoundsException") hown [] ⟨0, 14, 17, 13⟩ [⟨0, 14, 21, 15⟩, ⟨0, 14, 25, 17⟩] htab (fun _ h => absurd h List.not_mem_nil) (by decide) (by decide) (hg _ w442) (va_Nw.use rfl (hE.1.2.2.2.2.1 _ (List.mem_of_getElem? (i := 0) rfl))) hce hcv hcl ?_
        refine W.eq (g2 := F0 m 17 ls [.ref q9]) rfl ?_
        refine lv_astore (lv' := [(6, .ref q9), (0, .ref (a 0)), (1, .int p1), (2, .int p2), (3, .int p3), (4, .int p4), (5, .ref (a 24))]) hx hb dL_claim_17 hl (by decide) rfl (fun ls hl => ?_)
        refine lv_iconst (v := 1) hx hb dL_claim_19 (by decide) ?_
        obtain rfl := Option.some.inj hf
        refine vx_ret ?_
        exact W.iret (v := 1) hx hb hr (fun t ht hW => ⟨_, rfl, ⟨rfl, by rw [ht]; exact hP, va_K.moved hW.alike hK, hD, hS.F ht⟩⟩) hS.2.2 dL_claim_20 hlocks
      replace hf := if_f hk9 hf
      by_cases hk9 : k3 = 1
      · subst hk9
        replace hf := if_t rfl hf
        have hP : va_P D vwCl (W_FO cI cV cJ vf a x6) H := by rw [hx6]; exact hP
        have hD : va_D A (W_FO cI cV cJ vf a x6) := by rw [hx6]; exact hD
        have hE9 : E = "java/lang/IllegalArgumentException" := hE9
        subst hE9
        refine vx_catch (own := RL) (name := "java/lang/IllegalArgumentException") hown [⟨0, 14, 17, 13⟩] ⟨0, 14, 21, 15⟩ [⟨0, 14, 25, 17⟩] htab (List.forall_mem_cons.mpr ⟨Or.inr ⟨by decide, "java/lang/IndexOutOfBoundsException", hg _ w442, hE.1.2.2.2.2.2.1 _ (List.mem_of_getElem? (i := 1) rfl) _ (List.mem_of_getElem? (i := 0) rfl) (by decide +kernel)⟩, fun _ h => absurd h List.not_mem_nil⟩) (by decide) (by decide) (hg _ w443) (va_Nw.use rfl (hE.1.2.2.2.2.1 _ (List.mem_of_getElem? (i := 1) rfl))) hce hcv hcl ?_
        refine W.eq (g2 := F0 m 21 ls [.ref q9]) rfl ?_
        refine lv_astore (lv' := [(6, .ref q9), (0, .ref (a 0)), (1, .int p1), (2, .int p2), (3, .int p3), (4, .int p4), (5, .ref (a 24))]) hx hb dL_claim_21 hl (by decide) rfl (fun ls hl => ?_)
        refine lv_iconst (v := 2) hx hb dL_claim_23 (by decide) ?_
        obtain rfl := Option.some.inj hf
        refine vx_ret ?_
        exact W.iret (v := 2) hx hb hr (fun t ht hW => ⟨_, rfl, ⟨rfl, by rw [ht]; exact hP, va_K.moved hW.alike hK, hD, hS.F ht⟩⟩) hS.2.2 dL_claim_24 hlocks
      replace hf := if_f hk9 hf
      by_cases hk9 : k3 = 2
      · subst hk9
        replace hf := if_t rfl hf
        have hP : va_P D vwCl (W_FO cI cV cJ vf a x6) H := by rw [hx6]; exact hP
        have hD : va_D A (W_FO cI cV cJ vf a x6) := by rw [hx6]; exact hD
        have hE9 : E = "java/lang/IllegalStateException" := hE9
        subst hE9
        refine vx_catch (own := RL) (name := "java/lang/IllegalStateException") hown [⟨0, 14, 17, 13⟩, ⟨0, 14, 21, 15⟩] ⟨0, 14, 25, 17⟩ [] htab (List.forall_mem_cons.mpr ⟨Or.inr ⟨by decide, "java/lang/IndexOutOfBoundsException", hg _ w442, hE.1.2.2.2.2.2.1 _ (List.mem_of_getElem? (i := 2) rfl) _ (List.mem_of_getElem? (i := 0) rfl) (by decide +kernel)⟩, List.forall_mem_cons.mpr ⟨Or.inr ⟨by decide, "java/lang/IllegalArgumentException", hg _ w443, hE.1.2.2.2.2.2.1 _ (List.mem_of_getElem? (i := 2) rfl) _ (List.mem_of_getElem? (i := 1) rfl) (by decide +kernel)⟩, fun _ h => absurd h List.not_mem_nil⟩⟩) (by decide) (by decide) (hg _ w444) (va_Nw.use rfl (hE.1.2.2.2.2.1 _ (List.mem_of_getElem? (i := 2) rfl))) hce hcv hcl ?_
        refine W.eq (g2 := F0 m 25 ls [.ref q9]) rfl ?_
        refine lv_astore (lv' := [(6, .ref q9), (0, .ref (a 0)), (1, .int p1), (2, .int p2), (3, .int p3), (4, .int p4), (5, .ref (a 24))]) hx hb dL_claim_25 hl (by decide) rfl (fun ls hl => ?_)
        refine lv_iconst (v := 3) hx hb dL_claim_27 (by decide) ?_
        obtain rfl := Option.some.inj hf
        refine vx_ret ?_
        exact W.iret (v := 3) hx hb hr (fun t ht hW => ⟨_, rfl, ⟨rfl, by rw [ht]; exact hP, va_K.moved hW.alike hK, hD, hS.F ht⟩⟩) hS.2.2 dL_claim_28 hlocks
      replace hf := if_f hk9 hf
      cases hf
    obtain ⟨r4, hq9, rfl⟩ := rsI_v h5
    replace hf := thr_v hf hq9
    have hP : va_P D vwCl (W_FO cI cV cJ vf a x6) H := by rw [hx6]; exact hP
    have hD : va_D A (W_FO cI cV cJ vf a x6) := by rw [hx6]; exact hD
    refine W.eq (g2 := F0 m 12 ls [.int r4, .int 0, .ref (a 24)]) rfl ?_
    refine lv_i2l (v := (r4).toInt64) hx hb dL_claim_12 rfl ?_
    obtain ⟨hi7, hf⟩ := chk_t hf
    refine va_last hx hb hK hP hD hS 24 2 rfl rfl (inb_in hi7) dL_claim_13 (fun H locs hP hD hS => ?_)
    obtain ⟨x8, hx8⟩ : ∃ z, z = (pO_s x6 (vp_updL (pO x6) (0 : Int32).toNatClampNeg (r4).toInt64)) := ⟨_, rfl⟩
    replace hf := keep_e hf x8 hx8
    have hP : va_P D vwCl (W_FO cI cV cJ vf a x8) H := by rw [hx8]; exact hP
    have hD : va_D A (W_FO cI cV cJ vf a x8) := by rw [hx8]; exact hD
    refine lv_goto (tgt := 29) hx hb dL_claim_14 (by decide) ?_
    refine lv_iconst (v := 0) hx hb dL_claim_29 (by decide) ?_
    obtain rfl := Option.some.inj hf
    refine vx_ret ?_
    exact W.iret (v := 0) hx hb hr (fun t ht hW => ⟨_, rfl, ⟨rfl, by rw [ht]; exact hP, va_K.moved hW.alike hK, hD, hS.F ht⟩⟩) hS.2.2 dL_claim_30 hlocks
  exact M0 s.heap [] ls hf hP hD hS hl
/-! CompactformsLaw.waiting(LCompactforms;III[J)I -/
def fL_waiting (k : Nat) (x : POSt) (p1 : Int32) (p2 : Int32) (p3 : Int32) : Option (POSt × Int32) := (fX7_waiting k (pF x) p1 p2 p3).bind (fun u1 => thr u1 (fun k3 => if k3 = 0 then some (x, 1) else none) (fun r4 => chk (inb 0 1) (keep (pO_s x (vp_updL (pO x) (0 : Int32).toNatClampNeg (r4).toInt64)) (fun x7 => some (x7, 0)))))
set_option maxHeartbeats 4000000 in
set_option maxRecDepth 100000 in
theorem met_L_waiting {D : va_G} {cI cV cJ cD : ClassId} (l : Launch) (hlt : l.stackTraces = false) (k : Nat) (vf : Nat → Option Nat) (a : Nat → Nat) (hvf : vf k = some (a 6)) (x : POSt) (p1 : Int32) (p2 : Int32) (p3 : Int32) (res : POSt × Int32) (hf : fL_waiting k x p1 p2 p3 = some res) : MXW l yL_waiting cL_waiting 6 (some .int) [(0, 12, 15, 13)] { frames := 8, cells := 3, slots := 18, locals := 143 } D (TY cI cV cJ cD) (W_FO cI cV cJ vf a x) (W_FO cI cV cJ vf a res.1) [.ref (a 0), .int p1, .int p2, .int p3, .ref (a 24)] (.inl (some (.int res.2))) := by
  intro sz
  refine vx_ofWH (cc := cL_waiting) (maxL := 6) (ret := (some .int)) (hh := [(0, 12, 15, 13)]) (by decide +kernel) rfl ?_
  intro p e s m args below meth c s₁ B hml hv
  obtain ⟨rfl, hsz, hP, hK, hD0, hE⟩ := hv
  have hx := B.exec
  have hb := B.bytes
  have hr := B.returns
  have hts := atoms_spec (ws := .codeWith yL_waiting cL_waiting 6 (some .int) [(0, 12, 15, 13)] :: GW) B.pre
  have hg : ∀ w ∈ GW, w.before (([.ref (a 0), .int p1, .int p2, .int p3, .ref (a 24)] : List Value).toArray) s = true := fun w h => hts w (List.mem_cons_of_mem _ h)
  have hown : s.vm.findClass RL = some m.cls := findClass_of_methodNamed B.named
  have hlocks := B.notSynchronized
  have htab : c.exceptionTable.toList = [⟨0, 12, 15, 13⟩] := vx_table (x := yL_waiting) B (hts _ List.mem_cons_self)
  subst hsz
  have hD := hD0.self (sz := s.heap.size)
  generalize hAe : va_A (W_FO cI cV cJ vf a x) s.heap.size = A at hD hE ⊢
  have hA : ∀ q : Nat, s.heap.size ≤ q → A q := fun q h => by rw [← hAe]; exact Or.inr h
  have hS : va_S A s.heap s.heap [] := va_S.rf
  have hl := lv_entry ([.ref (a 0), .int p1, .int p2, .int p3, .ref (a 24)]) (n := 6) (Nat.le_of_ble_eq_true rfl)
  rw [lg_entry_eq]
  generalize (lg_sl ([.ref (a 0), .int p1, .int p2, .int p3, .ref (a 24)]) ++ List.replicate (6 - (lg_sl ([.ref (a 0), .int p1, .int p2, .int p3, .ref (a 24)])).length) Slot.unset).toArray = ls at hl ⊢
  have hl : lv_has ls 6 [(0, .ref (a 0)), (1, .int p1), (2, .int p2), (3, .int p3), (4, .ref (a 24))] := hl
  have M0 : ∀ (H : Heap) (locs : List Loc) (ls : Array Slot), fL_waiting k x p1 p2 p3 = some res → va_P D vwCl (W_FO cI cV cJ vf a x) H → va_D A (W_FO cI cV cJ vf a x) → va_S A s.heap H locs → lv_has ls 6 [(0, .ref (a 0)), (1, .int p1), (2, .int p2), (3, .int p3), (4, .ref (a 24))] → W p l e ({ frames := 8, cells := 3, slots := 18, locals := 143 } : Room) s m ([.ref (a 0), .int p1, .int p2, .int p3, .ref (a 24)] : List Value).toArray below meth c H locs 0 0 (vx_MQ below (QR D (TY cI cV cJ cD) (W_FO cI cV cJ vf a res.1) A (.inl (some (.int res.2)))) (XR D (TY cI cV cJ cD) (W_FO cI cV cJ vf a res.1) A (.inl (some (.int res.2)))) (([.ref (a 0), .int p1, .int p2, .int p3, .ref (a 24)] : List Value).toArray) s 3 18 A) (F0 m 0 ls []) := by
    intro H locs ls hf hP hD hS hl
    dsimp only [fL_waiting] at hf
    refine lv_aload hx hb dL_waiting_0 (lv_at hl 4 rfl) ?_
    refine lv_iconst (v := 0) hx hb dL_waiting_2 (by decide) ?_
    refine lv_aload_n hx hb dL_waiting_3 rfl (lv_at hl 0 rfl) ?_
    refine lv_iload_n hx hb dL_waiting_4 rfl (lv_at hl 1 rfl) ?_
    refine lv_iload_n hx hb dL_waiting_5 rfl (lv_at hl 2 rfl) ?_
    refine lv_iload_n hx hb dL_waiting_6 rfl (lv_at hl 3 rfl) ?_
    obtain ⟨u1, hc2, hf⟩ := bind_t hf
    refine k_VX (As := [.int p1, .int p2, .int p3]) (rest := [.int 0, .ref (a 24)]) (n := 3) ⟨hx, hb, hml, hown, hts⟩ (met_X7_waiting l hlt k vf a hvf (pF x) p1 p2 p3 u1 hc2) w663 w664 w665 w1 w666 ⟨rfl, by decide +kernel, by decide +kernel, by decide +kernel⟩ ⟨Nat.le_of_ble_eq_true rfl, Nat.le_of_ble_eq_true rfl⟩ hK hE hP hD hS hA (isC := [0, 1, 2, 3, 4, 5, 6, 7, 8, 9, 10, 11, 12, 13, 14, 15, 16, 17, 18, 19, 20, 21, 22, 23]) (isR := [24]) (isB := [1, 2, 3, 4, 5, 6, 7, 8, 9, 10, 11, 12, 13, 14, 15, 16, 17, 18, 19, 20, 21, 22, 23, 24, 0]) (ws' := W_FO cI cV cJ vf a x) ⟨([24] : List Nat).filterMap (fun i : Nat => (W_FO cI cV cJ vf a x : va_W)[i]?), rfl, rfl, rfl, rfl, by decide, rfl, rfl⟩ 0 6 rfl rfl rfl rfl hl.1 rfl (Nat.le_of_ble_eq_true rfl) dL_waiting_7 ⟨Nat.le_of_ble_eq_true rfl, Nat.le_of_ble_eq_true rfl⟩ (fun E ce q9 H locs h5 hP hD hS hce hcv hcl => ?_) (fun rv9 H locs h5 hP hD hS => ?_)
    · obtain ⟨k3, hq9, hE9⟩ := rsI_x h5
      replace hf := thr_x hf hq9
      by_cases hk9 : k3 = 0
      · subst hk9
        replace hf := if_t rfl hf
        have hE9 : E = "java/lang/IndexOutOfBoundsException" := hE9
        subst hE9
        refine vx_catch (own := RL) (name := "java/lang/IndexOutOfBoundsException") hown [] ⟨0, 12, 15, 13⟩ [] htab (fun _ h => absurd h List.not_mem_nil) (by decide) (by decide) (hg _ w442) (va_Nw.use rfl (hE.1.2.2.2.2.1 _ (List.mem_of_getElem? (i := 0) rfl))) hce hcv hcl ?_
        refine W.eq (g2 := F0 m 15 ls [.ref q9]) rfl ?_
        refine lv_astore (lv' := [(5, .ref q9), (0, .ref (a 0)), (1, .int p1), (2, .int p2), (3, .int p3), (4, .ref (a 24))]) hx hb dL_waiting_15 hl (by decide) rfl (fun ls hl => ?_)
        refine lv_iconst (v := 1) hx hb dL_waiting_17 (by decide) ?_
        obtain rfl := Option.some.inj hf
        refine vx_ret ?_
        exact W.iret (v := 1) hx hb hr (fun t ht hW => ⟨_, rfl, ⟨rfl, by rw [ht]; exact hP, va_K.moved hW.alike hK, hD, hS.F ht⟩⟩) hS.2.2 dL_waiting_18 hlocks
      replace hf := if_f hk9 hf
      cases hf
    obtain ⟨r4, hq9, rfl⟩ := rsI_v h5
    replace hf := thr_v hf hq9
    refine W.eq (g2 := F0 m 10 ls [.int r4, .int 0, .ref (a 24)]) rfl ?_
    refine lv_i2l (v := (r4).toInt64) hx hb dL_waiting_10 rfl ?_
    obtain ⟨hi6, hf⟩ := chk_t hf
    refine va_last hx hb hK hP hD hS 24 2 rfl rfl (inb_in hi6) dL_waiting_11 (fun H locs hP hD hS => ?_)
    obtain ⟨x7, hx7⟩ : ∃ z, z = (pO_s x (vp_updL (pO x) (0 : Int32).toNatClampNeg (r4).toInt64)) := ⟨_, rfl⟩
    replace hf := keep_e hf x7 hx7
    have hP : va_P D vwCl (W_FO cI cV cJ vf a x7) H := by rw [hx7]; exact hP
    have hD : va_D A (W_FO cI cV cJ vf a x7) := by rw [hx7]; exact hD
    refine lv_goto (tgt := 19) hx hb dL_waiting_12 (by decide) ?_
    refine lv_iconst (v := 0) hx hb dL_waiting_19 (by decide) ?_
    obtain rfl := Option.some.inj hf
    refine vx_ret ?_
    exact W.iret (v := 0) hx hb hr (fun t ht hW => ⟨_, rfl, ⟨rfl, by rw [ht]; exact hP, va_K.moved hW.alike hK, hD, hS.F ht⟩⟩) hS.2.2 dL_waiting_20 hlocks
  exact M0 s.heap [] ls hf hP hD hS hl
/-! CompactformsLaw.remove(LCompactforms;I[J)I -/
def fL_remove_15 (k : Nat) (x : POSt) (s0 : Int64) (s1 : Int32) : Option (POSt × Int32) := chk (inb s1 1) (keep (pO_s x (vp_updL (pO x) (s1 : Int32).toNatClampNeg s0)) (fun x2 => some (x2, 0)))
def fL_remove (k : Nat) (x : POSt) (p1 : Int32) : Option (POSt × Int32) := (fX7_remove k (pF x) p1).bind (fun u3 => keep (pF_s x u3.1) (fun x8 => thr u3.2 (fun k5 => if k5 = 0 then some (x8, 1) else if k5 = 2 then some (x8, 2) else none) (fun r6 => (if r6 = 0 then fL_remove_15 k x8 0 0 else fL_remove_15 k x8 1 0))))
set_option maxHeartbeats 4000000 in
set_option maxRecDepth 100000 in
theorem met_L_remove {D : va_G} {cI cV cJ cD : ClassId} (l : Launch) (hlt : l.stackTraces = false) (k : Nat) (vf : Nat → Option Nat) (a : Nat → Nat) (hvf : vf k = some (a 6)) (x : POSt) (p1 : Int32) (res : POSt × Int32) (hf : fL_remove k x p1 = some res) : MXW l yL_remove cL_remove 4 (some .int) [(0, 16, 19, 13), (0, 16, 22, 17)] { frames := 8, cells := 2, slots := 12, locals := 201 } D (TY cI cV cJ cD) (W_FO cI cV cJ vf a x) (W_FO cI cV cJ vf a res.1) [.ref (a 0), .int p1, .ref (a 24)] (.inl (some (.int res.2))) := by
  intro sz
  refine vx_ofWH (cc := cL_remove) (maxL := 4) (ret := (some .int)) (hh := [(0, 16, 19, 13), (0, 16, 22, 17)]) (by decide +kernel) rfl ?_
  intro p e s m args below meth c s₁ B hml hv
  obtain ⟨rfl, hsz, hP, hK, hD0, hE⟩ := hv
  have hx := B.exec
  have hb := B.bytes
  have hr := B.returns
  have hts := atoms_spec (ws := .codeWith yL_remove cL_remove 4 (some .int) [(0, 16, 19, 13), (0, 16, 22, 17)] :: GW) B.pre
  have hg : ∀ w ∈ GW, w.before (([.ref (a 0), .int p1, .ref (a 24)] : List Value).toArray) s = true := fun w h => hts w (List.mem_cons_of_mem _ h)
  have hown : s.vm.findClass RL = some m.cls := findClass_of_methodNamed B.named
  have hlocks := B.notSynchronized
  have htab : c.exceptionTable.toList = [⟨0, 16, 19, 13⟩, ⟨0, 16, 22, 17⟩] := vx_table (x := yL_remove) B (hts _ List.mem_cons_self)
  subst hsz
  have hD := hD0.self (sz := s.heap.size)
  generalize hAe : va_A (W_FO cI cV cJ vf a x) s.heap.size = A at hD hE ⊢
  have hA : ∀ q : Nat, s.heap.size ≤ q → A q := fun q h => by rw [← hAe]; exact Or.inr h
  have hS : va_S A s.heap s.heap [] := va_S.rf
  have hl := lv_entry ([.ref (a 0), .int p1, .ref (a 24)]) (n := 4) (Nat.le_of_ble_eq_true rfl)
  rw [lg_entry_eq]
  generalize (lg_sl ([.ref (a 0), .int p1, .ref (a 24)]) ++ List.replicate (4 - (lg_sl ([.ref (a 0), .int p1, .ref (a 24)])).length) Slot.unset).toArray = ls at hl ⊢
  have hl : lv_has ls 4 [(0, .ref (a 0)), (1, .int p1), (2, .ref (a 24))] := hl
  have L15 : ∀ (x : POSt) (s0 : Int64) (s1 : Int32) (H : Heap) (locs : List Loc) (ls : Array Slot), fL_remove_15 k x s0 s1  = some res → va_P D vwCl (W_FO cI cV cJ vf a x) H → va_D A (W_FO cI cV cJ vf a x) → va_S A s.heap H locs → lv_has ls 4 [] → W p l e ({ frames := 8, cells := 2, slots := 12, locals := 201 } : Room) s m ([.ref (a 0), .int p1, .ref (a 24)] : List Value).toArray below meth c H locs 2 12 (vx_MQ below (QR D (TY cI cV cJ cD) (W_FO cI cV cJ vf a res.1) A (.inl (some (.int res.2)))) (XR D (TY cI cV cJ cD) (W_FO cI cV cJ vf a res.1) A (.inl (some (.int res.2)))) (([.ref (a 0), .int p1, .ref (a 24)] : List Value).toArray) s 2 12 A) (F0 m 15 ls [.long s0, .int s1, .ref (a 24)]) := by
    intro x s0 s1 H locs ls hf hP hD hS hl
    dsimp only [fL_remove_15] at hf
    obtain ⟨hi1, hf⟩ := chk_t hf
    refine va_last hx hb hK hP hD hS 24 2 rfl rfl (inb_in hi1) dL_remove_15 (fun H locs hP hD hS => ?_)
    obtain ⟨x2, hx2⟩ : ∃ z, z = (pO_s x (vp_updL (pO x) (s1 : Int32).toNatClampNeg s0)) := ⟨_, rfl⟩
    replace hf := keep_e hf x2 hx2
    have hP : va_P D vwCl (W_FO cI cV cJ vf a x2) H := by rw [hx2]; exact hP
    have hD : va_D A (W_FO cI cV cJ vf a x2) := by rw [hx2]; exact hD
    refine lv_goto (tgt := 25) hx hb dL_remove_16 (by decide) ?_
    refine lv_iconst (v := 0) hx hb dL_remove_25 (by decide) ?_
    obtain rfl := Option.some.inj hf
    refine vx_ret ?_
    exact W.iret (v := 0) hx hb hr (fun t ht hW => ⟨_, rfl, ⟨rfl, by rw [ht]; exact hP, va_K.moved hW.alike hK, hD, hS.F ht⟩⟩) hS.2.2 dL_remove_26 hlocks
  have M0 : ∀ (H : Heap) (locs : List Loc) (ls : Array Slot), fL_remove k x p1 = some res → va_P D vwCl (W_FO cI cV cJ vf a x) H → va_D A (W_FO cI cV cJ vf a x) → va_S A s.heap H locs → lv_has ls 4 [(0, .ref (a 0)), (1, .int p1), (2, .ref (a 24))] → W p l e ({ frames := 8, cells := 2, slots := 12, locals := 201 } : Room) s m ([.ref (a 0), .int p1, .ref (a 24)] : List Value).toArray below meth c H locs 0 0 (vx_MQ below (QR D (TY cI cV cJ cD) (W_FO cI cV cJ vf a res.1) A (.inl (some (.int res.2)))) (XR D (TY cI cV cJ cD) (W_FO cI cV cJ vf a res.1) A (.inl (some (.int res.2)))) (([.ref (a 0), .int p1, .ref (a 24)] : List Value).toArray) s 2 12 A) (F0 m 0 ls []) := by
    intro H locs ls hf hP hD hS hl
    dsimp only [fL_remove] at hf
    refine lv_aload_n hx hb dL_remove_0 rfl (lv_at hl 2 rfl) ?_
    refine lv_iconst (v := 0) hx hb dL_remove_1 (by decide) ?_
    refine lv_aload_n hx hb dL_remove_2 rfl (lv_at hl 0 rfl) ?_
    refine lv_iload_n hx hb dL_remove_3 rfl (lv_at hl 1 rfl) ?_
    obtain ⟨u3, hc4, hf⟩ := bind_t hf
    try dsimp only at hf
    obtain ⟨x8, hx8⟩ : ∃ z, z = (pF_s x u3.1) := ⟨_, rfl⟩
    replace hf := keep_e hf x8 hx8
    refine k_VX (As := [.int p1]) (rest := [.int 0, .ref (a 24)]) (n := 1) ⟨hx, hb, hml, hown, hts⟩ (met_X7_remove l hlt k vf a hvf (pF x) p1 u3 hc4) w674 w675 w676 w1 w677 ⟨rfl, by decide +kernel, by decide +kernel, by decide +kernel⟩ ⟨Nat.le_of_ble_eq_true rfl, Nat.le_of_ble_eq_true rfl⟩ hK hE hP hD hS hA (isC := [0, 1, 2, 3, 4, 5, 6, 7, 8, 9, 10, 11, 12, 13, 14, 15, 16, 17, 18, 19, 20, 21, 22, 23]) (isR := [24]) (isB := [1, 2, 3, 4, 5, 6, 7, 8, 9, 10, 11, 12, 13, 14, 15, 16, 17, 18, 19, 20, 21, 22, 23, 24, 0]) (ws' := W_FO cI cV cJ vf a (pF_s x u3.1)) ⟨([24] : List Nat).filterMap (fun i : Nat => (W_FO cI cV cJ vf a x : va_W)[i]?), rfl, rfl, rfl, rfl, by decide, rfl, rfl⟩ 0 6 rfl rfl rfl rfl hl.1 rfl (Nat.le_of_ble_eq_true rfl) dL_remove_4 ⟨Nat.le_of_ble_eq_true rfl, Nat.le_of_ble_eq_true rfl⟩ (fun E ce q9 H locs h7 hP hD hS hce hcv hcl => ?_) (fun rv9 H locs h7 hP hD hS => ?_)
    · obtain ⟨k5, hq9, hE9⟩ := rsI_x h7
      replace hf := thr_x hf hq9
      by_cases hk9 : k5 = 0
      · subst hk9
        replace hf := if_t rfl hf
        have hP : va_P D vwCl (W_FO cI cV cJ vf a x8) H := by rw [hx8]; exact hP
        have hD : va_D A (W_FO cI cV cJ vf a x8) := by rw [hx8]; exact hD
        have hE9 : E = "java/lang/IndexOutOfBoundsException" := hE9
        subst hE9
        refine vx_catch (own := RL) (name := "java/lang/IndexOutOfBoundsException") hown [] ⟨0, 16, 19, 13⟩ [⟨0, 16, 22, 17⟩] htab (fun _ h => absurd h List.not_mem_nil) (by decide) (by decide) (hg _ w442) (va_Nw.use rfl (hE.1.2.2.2.2.1 _ (List.mem_of_getElem? (i := 0) rfl))) hce hcv hcl ?_
        refine W.eq (g2 := F0 m 19 ls [.ref q9]) rfl ?_
        refine lv_astore_n (lv' := [(3, .ref q9), (0, .ref (a 0)), (1, .int p1), (2, .ref (a 24))]) hx hb dL_remove_19 rfl hl (by decide) rfl (fun ls hl => ?_)
        refine lv_iconst (v := 1) hx hb dL_remove_20 (by decide) ?_
        obtain rfl := Option.some.inj hf
        refine vx_ret ?_
        exact W.iret (v := 1) hx hb hr (fun t ht hW => ⟨_, rfl, ⟨rfl, by rw [ht]; exact hP, va_K.moved hW.alike hK, hD, hS.F ht⟩⟩) hS.2.2 dL_remove_21 hlocks
      replace hf := if_f hk9 hf
      by_cases hk9 : k5 = 2
      · subst hk9
        replace hf := if_t rfl hf
        have hP : va_P D vwCl (W_FO cI cV cJ vf a x8) H := by rw [hx8]; exact hP
        have hD : va_D A (W_FO cI cV cJ vf a x8) := by rw [hx8]; exact hD
        have hE9 : E = "java/lang/IllegalStateException" := hE9
        subst hE9
        refine vx_catch (own := RL) (name := "java/lang/IllegalStateException") hown [⟨0, 16, 19, 13⟩] ⟨0, 16, 22, 17⟩ [] htab (List.forall_mem_cons.mpr ⟨Or.inr ⟨by decide, "java/lang/IndexOutOfBoundsException", hg _ w442, hE.1.2.2.2.2.2.1 _ (List.mem_of_getElem? (i := 2) rfl) _ (List.mem_of_getElem? (i := 0) rfl) (by decide +kernel)⟩, fun _ h => absurd h List.not_mem_nil⟩) (by decide) (by decide) (hg _ w444) (va_Nw.use rfl (hE.1.2.2.2.2.1 _ (List.mem_of_getElem? (i := 2) rfl))) hce hcv hcl ?_
        refine W.eq (g2 := F0 m 22 ls [.ref q9]) rfl ?_
        refine lv_astore_n (lv' := [(3, .ref q9), (0, .ref (a 0)), (1, .int p1), (2, .ref (a 24))]) hx hb dL_remove_22 rfl hl (by decide) rfl (fun ls hl => ?_)
        refine lv_iconst (v := 2) hx hb dL_remove_23 (by decide) ?_
        obtain rfl := Option.some.inj hf
        refine vx_ret ?_
        exact W.iret (v := 2) hx hb hr (fun t ht hW => ⟨_, rfl, ⟨rfl, by rw [ht]; exact hP, va_K.moved hW.alike hK, hD, hS.F ht⟩⟩) hS.2.2 dL_remove_24 hlocks
      replace hf := if_f hk9 hf
      cases hf
    obtain ⟨r6, hq9, rfl⟩ := rsI_v h7
    replace hf := thr_v hf hq9
    have hP : va_P D vwCl (W_FO cI cV cJ vf a x8) H := by rw [hx8]; exact hP
    have hD : va_D A (W_FO cI cV cJ vf a x8) := by rw [hx8]; exact hD
    refine W.eq (g2 := F0 m 7 ls [.int r6, .int 0, .ref (a 24)]) rfl ?_
    refine lv_if_eq (tgt := 14) hx hb dL_remove_7 (by decide) (fun c9 => ?_) (fun c9 => ?_)
    · replace hf := if_t c9 hf
      refine lv_lconst (v := 0) hx hb dL_remove_14 (by decide) ?_
      exact L15 x8 0 0 H locs ls hf hP hD hS (lv_sub hl [] rfl)
    · replace hf := if_f c9 hf
      refine lv_lconst (v := 1) hx hb dL_remove_10 (by decide) ?_
      refine lv_goto (tgt := 15) hx hb dL_remove_11 (by decide) ?_
      exact L15 x8 1 0 H locs ls hf hP hD hS (lv_sub hl [] rfl)
  exact M0 s.heap [] ls hf hP hD hS hl
/-! CompactformsLaw.expire(LCompactforms;II[J)I -/
def fL_expire_16 (k : Nat) (x : POSt) (s0 : Int64) (s1 : Int32) : Option (POSt × Int32) := chk (inb s1 1) (keep (pO_s x (vp_updL (pO x) (s1 : Int32).toNatClampNeg s0)) (fun x2 => some (x2, 0)))
def fL_expire (k : Nat) (x : POSt) (p1 : Int32) (p2 : Int32) : Option (POSt × Int32) := (fX7_expire k (pF x) p1 p2).bind (fun u3 => keep (pF_s x u3.1) (fun x8 => thr u3.2 (fun k5 => if k5 = 0 then some (x8, 1) else if k5 = 1 then some (x8, 2) else if k5 = 2 then some (x8, 3) else none) (fun r6 => (if r6 = 0 then fL_expire_16 k x8 0 0 else fL_expire_16 k x8 1 0))))
set_option maxHeartbeats 4000000 in
set_option maxRecDepth 100000 in
theorem met_L_expire {D : va_G} {cI cV cJ cD : ClassId} (l : Launch) (hlt : l.stackTraces = false) (k : Nat) (vf : Nat → Option Nat) (a : Nat → Nat) (hvf : vf k = some (a 6)) (x : POSt) (p1 : Int32) (p2 : Int32) (res : POSt × Int32) (hf : fL_expire k x p1 p2 = some res) : MXW l yL_expire cL_expire 5 (some .int) [(0, 17, 20, 13), (0, 17, 24, 15), (0, 17, 28, 17)] { frames := 8, cells := 3, slots := 18, locals := 202 } D (TY cI cV cJ cD) (W_FO cI cV cJ vf a x) (W_FO cI cV cJ vf a res.1) [.ref (a 0), .int p1, .int p2, .ref (a 24)] (.inl (some (.int res.2))) := by
  intro sz
  refine vx_ofWH (cc := cL_expire) (maxL := 5) (ret := (some .int)) (hh := [(0, 17, 20, 13), (0, 17, 24, 15), (0, 17, 28, 17)]) (by decide +kernel) rfl ?_
  intro p e s m args below meth c s₁ B hml hv
  obtain ⟨rfl, hsz, hP, hK, hD0, hE⟩ := hv
  have hx := B.exec
  have hb := B.bytes
  have hr := B.returns
  have hts := atoms_spec (ws := .codeWith yL_expire cL_expire 5 (some .int) [(0, 17, 20, 13), (0, 17, 24, 15), (0, 17, 28, 17)] :: GW) B.pre
  have hg : ∀ w ∈ GW, w.before (([.ref (a 0), .int p1, .int p2, .ref (a 24)] : List Value).toArray) s = true := fun w h => hts w (List.mem_cons_of_mem _ h)
  have hown : s.vm.findClass RL = some m.cls := findClass_of_methodNamed B.named
  have hlocks := B.notSynchronized
  have htab : c.exceptionTable.toList = [⟨0, 17, 20, 13⟩, ⟨0, 17, 24, 15⟩, ⟨0, 17, 28, 17⟩] := vx_table (x := yL_expire) B (hts _ List.mem_cons_self)
  subst hsz
  have hD := hD0.self (sz := s.heap.size)
  generalize hAe : va_A (W_FO cI cV cJ vf a x) s.heap.size = A at hD hE ⊢
  have hA : ∀ q : Nat, s.heap.size ≤ q → A q := fun q h => by rw [← hAe]; exact Or.inr h
  have hS : va_S A s.heap s.heap [] := va_S.rf
  have hl := lv_entry ([.ref (a 0), .int p1, .int p2, .ref (a 24)]) (n := 5) (Nat.le_of_ble_eq_true rfl)
  rw [lg_entry_eq]
  generalize (lg_sl ([.ref (a 0), .int p1, .int p2, .ref (a 24)]) ++ List.replicate (5 - (lg_sl ([.ref (a 0), .int p1, .int p2, .ref (a 24)])).length) Slot.unset).toArray = ls at hl ⊢
  have hl : lv_has ls 5 [(0, .ref (a 0)), (1, .int p1), (2, .int p2), (3, .ref (a 24))] := hl
  have L16 : ∀ (x : POSt) (s0 : Int64) (s1 : Int32) (H : Heap) (locs : List Loc) (ls : Array Slot), fL_expire_16 k x s0 s1  = some res → va_P D vwCl (W_FO cI cV cJ vf a x) H → va_D A (W_FO cI cV cJ vf a x) → va_S A s.heap H locs → lv_has ls 5 [] → W p l e ({ frames := 8, cells := 3, slots := 18, locals := 202 } : Room) s m ([.ref (a 0), .int p1, .int p2, .ref (a 24)] : List Value).toArray below meth c H locs 3 18 (vx_MQ below (QR D (TY cI cV cJ cD) (W_FO cI cV cJ vf a res.1) A (.inl (some (.int res.2)))) (XR D (TY cI cV cJ cD) (W_FO cI cV cJ vf a res.1) A (.inl (some (.int res.2)))) (([.ref (a 0), .int p1, .int p2, .ref (a 24)] : List Value).toArray) s 3 18 A) (F0 m 16 ls [.long s0, .int s1, .ref (a 24)]) := by
    intro x s0 s1 H locs ls hf hP hD hS hl
    dsimp only [fL_expire_16] at hf
    obtain ⟨hi1, hf⟩ := chk_t hf
    refine va_last hx hb hK hP hD hS 24 2 rfl rfl (inb_in hi1) dL_expire_16 (fun H locs hP hD hS => ?_)
    obtain ⟨x2, hx2⟩ : ∃ z, z = (pO_s x (vp_updL (pO x) (s1 : Int32).toNatClampNeg s0)) := ⟨_, rfl⟩
    replace hf := keep_e hf x2 hx2
    have hP : va_P D vwCl (W_FO cI cV cJ vf a x2) H := by rw [hx2]; exact hP
    have hD : va_D A (W_FO cI cV cJ vf a x2) := by rw [hx2]; exact hD
    refine lv_goto (tgt := 32) hx hb dL_expire_17 (by decide) ?_
    refine lv_iconst (v := 0) hx hb dL_expire_32 (by decide) ?_
    obtain rfl := Option.some.inj hf
    refine vx_ret ?_
    exact W.iret (v := 0) hx hb hr (fun t ht hW => ⟨_, rfl, ⟨rfl, by rw [ht]; exact hP, va_K.moved hW.alike hK, hD, hS.F ht⟩⟩) hS.2.2 dL_expire_33 hlocks
  have M0 : ∀ (H : Heap) (locs : List Loc) (ls : Array Slot), fL_expire k x p1 p2 = some res → va_P D vwCl (W_FO cI cV cJ vf a x) H → va_D A (W_FO cI cV cJ vf a x) → va_S A s.heap H locs → lv_has ls 5 [(0, .ref (a 0)), (1, .int p1), (2, .int p2), (3, .ref (a 24))] → W p l e ({ frames := 8, cells := 3, slots := 18, locals := 202 } : Room) s m ([.ref (a 0), .int p1, .int p2, .ref (a 24)] : List Value).toArray below meth c H locs 0 0 (vx_MQ below (QR D (TY cI cV cJ cD) (W_FO cI cV cJ vf a res.1) A (.inl (some (.int res.2)))) (XR D (TY cI cV cJ cD) (W_FO cI cV cJ vf a res.1) A (.inl (some (.int res.2)))) (([.ref (a 0), .int p1, .int p2, .ref (a 24)] : List Value).toArray) s 3 18 A) (F0 m 0 ls []) := by
    intro H locs ls hf hP hD hS hl
    dsimp only [fL_expire] at hf
    refine lv_aload_n hx hb dL_expire_0 rfl (lv_at hl 3 rfl) ?_
    refine lv_iconst (v := 0) hx hb dL_expire_1 (by decide) ?_
    refine lv_aload_n hx hb dL_expire_2 rfl (lv_at hl 0 rfl) ?_
    refine lv_iload_n hx hb dL_expire_3 rfl (lv_at hl 1 rfl) ?_
    refine lv_iload_n hx hb dL_expire_4 rfl (lv_at hl 2 rfl) ?_
    obtain ⟨u3, hc4, hf⟩ := bind_t hf
    try dsimp only at hf
    obtain ⟨x8, hx8⟩ : ∃ z, z = (pF_s x u3.1) := ⟨_, rfl⟩
    replace hf := keep_e hf x8 hx8
    refine k_VX (As := [.int p1, .int p2]) (rest := [.int 0, .ref (a 24)]) (n := 2) ⟨hx, hb, hml, hown, hts⟩ (met_X7_expire l hlt k vf a hvf (pF x) p1 p2 u3 hc4) w681 w682 w683 w1 w684 ⟨rfl, by decide +kernel, by decide +kernel, by decide +kernel⟩ ⟨Nat.le_of_ble_eq_true rfl, Nat.le_of_ble_eq_true rfl⟩ hK hE hP hD hS hA (isC := [0, 1, 2, 3, 4, 5, 6, 7, 8, 9, 10, 11, 12, 13, 14, 15, 16, 17, 18, 19, 20, 21, 22, 23]) (isR := [24]) (isB := [1, 2, 3, 4, 5, 6, 7, 8, 9, 10, 11, 12, 13, 14, 15, 16, 17, 18, 19, 20, 21, 22, 23, 24, 0]) (ws' := W_FO cI cV cJ vf a (pF_s x u3.1)) ⟨([24] : List Nat).filterMap (fun i : Nat => (W_FO cI cV cJ vf a x : va_W)[i]?), rfl, rfl, rfl, rfl, by decide, rfl, rfl⟩ 0 6 rfl rfl rfl rfl hl.1 rfl (Nat.le_of_ble_eq_true rfl) dL_expire_5 ⟨Nat.le_of_ble_eq_true rfl, Nat.le_of_ble_eq_true rfl⟩ (fun E ce q9 H locs h7 hP hD hS hce hcv hcl => ?_) (fun rv9 H locs h7 hP hD hS => ?_)
    · obtain ⟨k5, hq9, hE9⟩ := rsI_x h7
      replace hf := thr_x hf hq9
      by_cases hk9 : k5 = 0
      · subst hk9
        replace hf := if_t rfl hf
        have hP : va_P D vwCl (W_FO cI cV cJ vf a x8) H := by rw [hx8]; exact hP
        have hD : va_D A (W_FO cI cV cJ vf a x8) := by rw [hx8]; exact hD
        have hE9 : E = "java/lang/IndexOutOfBoundsException" := hE9
        subst hE9
        refine vx_catch (own := RL) (name := "java/lang/IndexOutOfBoundsException") hown [] ⟨0, 17, 20, 13⟩ [⟨0, 17, 24, 15⟩, ⟨0, 17, 28, 17⟩] htab (fun _ h => absurd h List.not_mem_nil) (by decide) (by decide) (hg _ w442) (va_Nw.use rfl (hE.1.2.2.2.2.1 _ (List.mem_of_getElem? (i := 0) rfl))) hce hcv hcl ?_
        refine W.eq (g2 := F0 m 20 ls [.ref q9]) rfl ?_
        refine lv_astore (lv' := [(4, .ref q9), (0, .ref (a 0)), (1, .int p1), (2, .int p2), (3, .ref (a 24))]) hx hb dL_expire_20 hl (by decide) rfl (fun ls hl => ?_)
        refine lv_iconst (v := 1) hx hb dL_expire_22 (by decide) ?_
        obtain rfl := Option.some.inj hf
        refine vx_ret ?_
        exact W.iret (v := 1) hx hb hr (fun t ht hW => ⟨_, rfl, ⟨rfl, by rw [ht]; exact hP, va_K.moved hW.alike hK, hD, hS.F ht⟩⟩) hS.2.2 dL_expire_23 hlocks
      replace hf := if_f hk9 hf
      by_cases hk9 : k5 = 1
      · subst hk9
        replace hf := if_t rfl hf
        have hP : va_P D vwCl (W_FO cI cV cJ vf a x8) H := by rw [hx8]; exact hP
        have hD : va_D A (W_FO cI cV cJ vf a x8) := by rw [hx8]; exact hD
        have hE9 : E = "java/lang/IllegalArgumentException" := hE9
        subst hE9
        refine vx_catch (own := RL) (name := "java/lang/IllegalArgumentException") hown [⟨0, 17, 20, 13⟩] ⟨0, 17, 24, 15⟩ [⟨0, 17, 28, 17⟩] htab (List.forall_mem_cons.mpr ⟨Or.inr ⟨by decide, "java/lang/IndexOutOfBoundsException", hg _ w442, hE.1.2.2.2.2.2.1 _ (List.mem_of_getElem? (i := 1) rfl) _ (List.mem_of_getElem? (i := 0) rfl) (by decide +kernel)⟩, fun _ h => absurd h List.not_mem_nil⟩) (by decide) (by decide) (hg _ w443) (va_Nw.use rfl (hE.1.2.2.2.2.1 _ (List.mem_of_getElem? (i := 1) rfl))) hce hcv hcl ?_
        refine W.eq (g2 := F0 m 24 ls [.ref q9]) rfl ?_
        refine lv_astore (lv' := [(4, .ref q9), (0, .ref (a 0)), (1, .int p1), (2, .int p2), (3, .ref (a 24))]) hx hb dL_expire_24 hl (by decide) rfl (fun ls hl => ?_)
        refine lv_iconst (v := 2) hx hb dL_expire_26 (by decide) ?_
        obtain rfl := Option.some.inj hf
        refine vx_ret ?_
        exact W.iret (v := 2) hx hb hr (fun t ht hW => ⟨_, rfl, ⟨rfl, by rw [ht]; exact hP, va_K.moved hW.alike hK, hD, hS.F ht⟩⟩) hS.2.2 dL_expire_27 hlocks
      replace hf := if_f hk9 hf
      by_cases hk9 : k5 = 2
      · subst hk9
        replace hf := if_t rfl hf
        have hP : va_P D vwCl (W_FO cI cV cJ vf a x8) H := by rw [hx8]; exact hP
        have hD : va_D A (W_FO cI cV cJ vf a x8) := by rw [hx8]; exact hD
        have hE9 : E = "java/lang/IllegalStateException" := hE9
        subst hE9
        refine vx_catch (own := RL) (name := "java/lang/IllegalStateException") hown [⟨0, 17, 20, 13⟩, ⟨0, 17, 24, 15⟩] ⟨0, 17, 28, 17⟩ [] htab (List.forall_mem_cons.mpr ⟨Or.inr ⟨by decide, "java/lang/IndexOutOfBoundsException", hg _ w442, hE.1.2.2.2.2.2.1 _ (List.mem_of_getElem? (i := 2) rfl) _ (List.mem_of_getElem? (i := 0) rfl) (by decide +kernel)⟩, List.forall_mem_cons.mpr ⟨Or.inr ⟨by decide, "java/lang/IllegalArgumentException", hg _ w443, hE.1.2.2.2.2.2.1 _ (List.mem_of_getElem? (i := 2) rfl) _ (List.mem_of_getElem? (i := 1) rfl) (by decide +kernel)⟩, fun _ h => absurd h List.not_mem_nil⟩⟩) (by decide) (by decide) (hg _ w444) (va_Nw.use rfl (hE.1.2.2.2.2.1 _ (List.mem_of_getElem? (i := 2) rfl))) hce hcv hcl ?_
        refine W.eq (g2 := F0 m 28 ls [.ref q9]) rfl ?_
        refine lv_astore (lv' := [(4, .ref q9), (0, .ref (a 0)), (1, .int p1), (2, .int p2), (3, .ref (a 24))]) hx hb dL_expire_28 hl (by decide) rfl (fun ls hl => ?_)
        refine lv_iconst (v := 3) hx hb dL_expire_30 (by decide) ?_
        obtain rfl := Option.some.inj hf
        refine vx_ret ?_
        exact W.iret (v := 3) hx hb hr (fun t ht hW => ⟨_, rfl, ⟨rfl, by rw [ht]; exact hP, va_K.moved hW.alike hK, hD, hS.F ht⟩⟩) hS.2.2 dL_expire_31 hlocks
      replace hf := if_f hk9 hf
      cases hf
    obtain ⟨r6, hq9, rfl⟩ := rsI_v h7
    replace hf := thr_v hf hq9
    have hP : va_P D vwCl (W_FO cI cV cJ vf a x8) H := by rw [hx8]; exact hP
    have hD : va_D A (W_FO cI cV cJ vf a x8) := by rw [hx8]; exact hD
    refine W.eq (g2 := F0 m 8 ls [.int r6, .int 0, .ref (a 24)]) rfl ?_
    refine lv_if_eq (tgt := 15) hx hb dL_expire_8 (by decide) (fun c9 => ?_) (fun c9 => ?_)
    · replace hf := if_t c9 hf
      refine lv_lconst (v := 0) hx hb dL_expire_15 (by decide) ?_
      exact L16 x8 0 0 H locs ls hf hP hD hS (lv_sub hl [] rfl)
    · replace hf := if_f c9 hf
      refine lv_lconst (v := 1) hx hb dL_expire_11 (by decide) ?_
      refine lv_goto (tgt := 16) hx hb dL_expire_12 (by decide) ?_
      exact L16 x8 1 0 H locs ls hf hP hD hS (lv_sub hl [] rfl)
  exact M0 s.heap [] ls hf hP hD hS hl
/-! CompactformsLaw.left(LCompactforms;I[J)I -/
def fL_left (k : Nat) (x : POSt) (p1 : Int32) : Option (POSt × Int32) := (fX7_left k (pF x) p1).bind (fun u1 => thr u1 (fun k3 => if k3 = 0 then some (x, 1) else none) (fun r4 => chk (inb 0 1) (keep (pO_s x (vp_updL (pO x) (0 : Int32).toNatClampNeg (r4).toInt64)) (fun x7 => some (x7, 0)))))
set_option maxHeartbeats 4000000 in
set_option maxRecDepth 100000 in
theorem met_L_left {D : va_G} {cI cV cJ cD : ClassId} (l : Launch) (hlt : l.stackTraces = false) (k : Nat) (vf : Nat → Option Nat) (a : Nat → Nat) (hvf : vf k = some (a 6)) (x : POSt) (p1 : Int32) (res : POSt × Int32) (hf : fL_left k x p1 = some res) : MXW l yL_left cL_left 4 (some .int) [(0, 9, 12, 13)] { frames := 8, cells := 1, slots := 6, locals := 142 } D (TY cI cV cJ cD) (W_FO cI cV cJ vf a x) (W_FO cI cV cJ vf a res.1) [.ref (a 0), .int p1, .ref (a 24)] (.inl (some (.int res.2))) := by
  intro sz
  refine vx_ofWH (cc := cL_left) (maxL := 4) (ret := (some .int)) (hh := [(0, 9, 12, 13)]) (by decide +kernel) rfl ?_
  intro p e s m args below meth c s₁ B hml hv
  obtain ⟨rfl, hsz, hP, hK, hD0, hE⟩ := hv
  have hx := B.exec
  have hb := B.bytes
  have hr := B.returns
  have hts := atoms_spec (ws := .codeWith yL_left cL_left 4 (some .int) [(0, 9, 12, 13)] :: GW) B.pre
  have hg : ∀ w ∈ GW, w.before (([.ref (a 0), .int p1, .ref (a 24)] : List Value).toArray) s = true := fun w h => hts w (List.mem_cons_of_mem _ h)
  have hown : s.vm.findClass RL = some m.cls := findClass_of_methodNamed B.named
  have hlocks := B.notSynchronized
  have htab : c.exceptionTable.toList = [⟨0, 9, 12, 13⟩] := vx_table (x := yL_left) B (hts _ List.mem_cons_self)
  subst hsz
  have hD := hD0.self (sz := s.heap.size)
  generalize hAe : va_A (W_FO cI cV cJ vf a x) s.heap.size = A at hD hE ⊢
  have hA : ∀ q : Nat, s.heap.size ≤ q → A q := fun q h => by rw [← hAe]; exact Or.inr h
  have hS : va_S A s.heap s.heap [] := va_S.rf
  have hl := lv_entry ([.ref (a 0), .int p1, .ref (a 24)]) (n := 4) (Nat.le_of_ble_eq_true rfl)
  rw [lg_entry_eq]
  generalize (lg_sl ([.ref (a 0), .int p1, .ref (a 24)]) ++ List.replicate (4 - (lg_sl ([.ref (a 0), .int p1, .ref (a 24)])).length) Slot.unset).toArray = ls at hl ⊢
  have hl : lv_has ls 4 [(0, .ref (a 0)), (1, .int p1), (2, .ref (a 24))] := hl
  have M0 : ∀ (H : Heap) (locs : List Loc) (ls : Array Slot), fL_left k x p1 = some res → va_P D vwCl (W_FO cI cV cJ vf a x) H → va_D A (W_FO cI cV cJ vf a x) → va_S A s.heap H locs → lv_has ls 4 [(0, .ref (a 0)), (1, .int p1), (2, .ref (a 24))] → W p l e ({ frames := 8, cells := 1, slots := 6, locals := 142 } : Room) s m ([.ref (a 0), .int p1, .ref (a 24)] : List Value).toArray below meth c H locs 0 0 (vx_MQ below (QR D (TY cI cV cJ cD) (W_FO cI cV cJ vf a res.1) A (.inl (some (.int res.2)))) (XR D (TY cI cV cJ cD) (W_FO cI cV cJ vf a res.1) A (.inl (some (.int res.2)))) (([.ref (a 0), .int p1, .ref (a 24)] : List Value).toArray) s 1 6 A) (F0 m 0 ls []) := by
    intro H locs ls hf hP hD hS hl
    dsimp only [fL_left] at hf
    refine lv_aload_n hx hb dL_left_0 rfl (lv_at hl 2 rfl) ?_
    refine lv_iconst (v := 0) hx hb dL_left_1 (by decide) ?_
    refine lv_aload_n hx hb dL_left_2 rfl (lv_at hl 0 rfl) ?_
    refine lv_iload_n hx hb dL_left_3 rfl (lv_at hl 1 rfl) ?_
    obtain ⟨u1, hc2, hf⟩ := bind_t hf
    refine k_VX (As := [.int p1]) (rest := [.int 0, .ref (a 24)]) (n := 1) ⟨hx, hb, hml, hown, hts⟩ (met_X7_left l hlt k vf a hvf (pF x) p1 u1 hc2) w688 w689 w690 w1 w691 ⟨rfl, by decide +kernel, by decide +kernel, by decide +kernel⟩ ⟨Nat.le_of_ble_eq_true rfl, Nat.le_of_ble_eq_true rfl⟩ hK hE hP hD hS hA (isC := [0, 1, 2, 3, 4, 5, 6, 7, 8, 9, 10, 11, 12, 13, 14, 15, 16, 17, 18, 19, 20, 21, 22, 23]) (isR := [24]) (isB := [1, 2, 3, 4, 5, 6, 7, 8, 9, 10, 11, 12, 13, 14, 15, 16, 17, 18, 19, 20, 21, 22, 23, 24, 0]) (ws' := W_FO cI cV cJ vf a x) ⟨([24] : List Nat).filterMap (fun i : Nat => (W_FO cI cV cJ vf a x : va_W)[i]?), rfl, rfl, rfl, rfl, by decide, rfl, rfl⟩ 0 6 rfl rfl rfl rfl hl.1 rfl (Nat.le_of_ble_eq_true rfl) dL_left_4 ⟨Nat.le_of_ble_eq_true rfl, Nat.le_of_ble_eq_true rfl⟩ (fun E ce q9 H locs h5 hP hD hS hce hcv hcl => ?_) (fun rv9 H locs h5 hP hD hS => ?_)
    · obtain ⟨k3, hq9, hE9⟩ := rsI_x h5
      replace hf := thr_x hf hq9
      by_cases hk9 : k3 = 0
      · subst hk9
        replace hf := if_t rfl hf
        have hE9 : E = "java/lang/IndexOutOfBoundsException" := hE9
        subst hE9
        refine vx_catch (own := RL) (name := "java/lang/IndexOutOfBoundsException") hown [] ⟨0, 9, 12, 13⟩ [] htab (fun _ h => absurd h List.not_mem_nil) (by decide) (by decide) (hg _ w442) (va_Nw.use rfl (hE.1.2.2.2.2.1 _ (List.mem_of_getElem? (i := 0) rfl))) hce hcv hcl ?_
        refine W.eq (g2 := F0 m 12 ls [.ref q9]) rfl ?_
        refine lv_astore_n (lv' := [(3, .ref q9), (0, .ref (a 0)), (1, .int p1), (2, .ref (a 24))]) hx hb dL_left_12 rfl hl (by decide) rfl (fun ls hl => ?_)
        refine lv_iconst (v := 1) hx hb dL_left_13 (by decide) ?_
        obtain rfl := Option.some.inj hf
        refine vx_ret ?_
        exact W.iret (v := 1) hx hb hr (fun t ht hW => ⟨_, rfl, ⟨rfl, by rw [ht]; exact hP, va_K.moved hW.alike hK, hD, hS.F ht⟩⟩) hS.2.2 dL_left_14 hlocks
      replace hf := if_f hk9 hf
      cases hf
    obtain ⟨r4, hq9, rfl⟩ := rsI_v h5
    replace hf := thr_v hf hq9
    refine W.eq (g2 := F0 m 7 ls [.int r4, .int 0, .ref (a 24)]) rfl ?_
    refine lv_i2l (v := (r4).toInt64) hx hb dL_left_7 rfl ?_
    obtain ⟨hi6, hf⟩ := chk_t hf
    refine va_last hx hb hK hP hD hS 24 2 rfl rfl (inb_in hi6) dL_left_8 (fun H locs hP hD hS => ?_)
    obtain ⟨x7, hx7⟩ : ∃ z, z = (pO_s x (vp_updL (pO x) (0 : Int32).toNatClampNeg (r4).toInt64)) := ⟨_, rfl⟩
    replace hf := keep_e hf x7 hx7
    have hP : va_P D vwCl (W_FO cI cV cJ vf a x7) H := by rw [hx7]; exact hP
    have hD : va_D A (W_FO cI cV cJ vf a x7) := by rw [hx7]; exact hD
    refine lv_goto (tgt := 15) hx hb dL_left_9 (by decide) ?_
    refine lv_iconst (v := 0) hx hb dL_left_15 (by decide) ?_
    obtain rfl := Option.some.inj hf
    refine vx_ret ?_
    exact W.iret (v := 0) hx hb hr (fun t ht hW => ⟨_, rfl, ⟨rfl, by rw [ht]; exact hP, va_K.moved hW.alike hK, hD, hS.F ht⟩⟩) hS.2.2 dL_left_16 hlocks
  exact M0 s.heap [] ls hf hP hD hS hl

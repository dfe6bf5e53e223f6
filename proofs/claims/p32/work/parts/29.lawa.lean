/-! CompactformsLaw.asks(LCompactforms;IIIII)I -/
def fL_asks_39 (k : Nat) (x : FSt) (s0 : Int32) (s1 : Int32) : Option (FSt × Int32) := (fX7_pop k x s1 s0).bind (fun u1 => keep u1.1 (fun x6 => thr u1.2 (fun k3 => if k3 = 0 then some (x6, (-107)) else if k3 = 2 then some (x6, (-108)) else none) (fun r4 => some (x6, r4))))
def fL_asks_17 (k : Nat) (x : FSt) (s0 : Int32) (s1 : Int32) (s2 : Int32) : Option (FSt × Int32) := (fX7_push k x s2 s1 s0).bind (fun u7 => keep u7.1 (fun x12 => thr u7.2 (fun k9 => if k9 = 0 then some (x12, (-107)) else if k9 = 2 then some (x12, (-108)) else none) (fun r10 => some (x12, r10))))
def fL_asks (k : Nat) (x : FSt) (p1 : Int32) (p2 : Int32) (p3 : Int32) (p4 : Int32) (p5 : Int32) : Option (FSt × Int32) := (if p1 = 0 then (if p4 ≤ 0 then fL_asks_17 k x 0 p3 p2 else fL_asks_17 k x 1 p3 p2) else (if p1 = 1 then (if p3 ≤ 0 then fL_asks_39 k x 0 p2 else fL_asks_39 k x 1 p2) else (if p1 = 2 then (fX7_add k x p2 p3).bind (fun u94 => keep u94.1 (fun x99 => thr u94.2 (fun k96 => if k96 = 0 then some (x99, (-107)) else if k96 = 2 then some (x99, (-108)) else none) (fun r97 => (if r97 = 0 then some (x99, 0) else some (x99, 1))))) else (if p1 = 3 then (fX7_take k x p2 p3).bind (fun u87 => keep u87.1 (fun x92 => thr u87.2 (fun k89 => if k89 = 0 then some (x92, (-107)) else if k89 = 2 then some (x92, (-108)) else none) (fun r90 => (if r90 = 0 then some (x92, 0) else some (x92, 1))))) else (if p1 = 4 then (fX7_rate k x p2 p3 p4).bind (fun u81 => keep u81.1 (fun x86 => thr u81.2 (fun k83 => if k83 = 0 then some (x86, (-107)) else if k83 = 2 then some (x86, (-108)) else none) (fun r84 => some (x86, r84)))) else (if p1 = 5 then (fX7_append k x p2 p3).bind (fun u75 => keep u75.1 (fun x80 => thr u75.2 (fun k77 => if k77 = 0 then some (x80, (-107)) else if k77 = 2 then some (x80, (-108)) else none) (fun r78 => some (x80, r78)))) else (if p1 = 6 then (fX7_read k x p2 p3 p4).bind (fun u69 => keep u69.1 (fun x74 => thr u69.2 (fun k71 => if k71 = 0 then some (x74, (-107)) else if k71 = 2 then some (x74, (-108)) else none) (fun r72 => some (x74, r72)))) else (if p1 = 7 then (fX7_done k x p2 p3 p4).bind (fun u62 => keep u62.1 (fun x67 => thr u62.2 (fun k64 => if k64 = 0 then some (x67, (-107)) else if k64 = 2 then some (x67, (-108)) else none) (fun r65 => (if r65 = 0 then some (x67, 0) else some (x67, 1))))) else (if p1 = 8 then (fX7_claim k x p2 p3 p4 p5).bind (fun u56 => keep u56.1 (fun x61 => thr u56.2 (fun k58 => if k58 = 0 then some (x61, (-107)) else if k58 = 2 then some (x61, (-108)) else none) (fun r59 => some (x61, r59)))) else (if p1 = 9 then (fX7_remove k x p2).bind (fun u49 => keep u49.1 (fun x54 => thr u49.2 (fun k51 => if k51 = 0 then some (x54, (-107)) else if k51 = 2 then some (x54, (-108)) else none) (fun r52 => (if r52 = 0 then some (x54, 0) else some (x54, 1))))) else (if p1 = 10 then (fX7_expire k x p2 p3).bind (fun u42 => keep u42.1 (fun x47 => thr u42.2 (fun k44 => if k44 = 0 then some (x47, (-107)) else if k44 = 2 then some (x47, (-108)) else none) (fun r45 => (if r45 = 0 then some (x47, 0) else some (x47, 1))))) else (if p1 = 11 then (fX7_at k x p2 p3).bind (fun u37 => thr u37 (fun k39 => if k39 = 0 then some (x, (-107)) else if k39 = 2 then some (x, (-108)) else none) (fun r40 => some (x, r40))) else (if p1 = 12 then none else (if p1 = 13 then (fX7_next k x p2 p3).bind (fun u32 => thr u32 (fun k34 => if k34 = 0 then some (x, (-107)) else if k34 = 2 then some (x, (-108)) else none) (fun r35 => some (x, r35))) else (fX7_scanned k x p2 p3 p4).bind (fun u27 => thr u27 (fun k29 => if k29 = 0 then some (x, (-107)) else if k29 = 2 then some (x, (-108)) else none) (fun r30 => some (x, r30)))))))))))))))))
set_option maxHeartbeats 4000000 in
set_option maxRecDepth 100000 in
theorem met_L_asks {D : va_G} {cI cV cJ cD : ClassId} (l : Launch) (hlt : l.stackTraces = false) (k : Nat) (vf : Nat → Option Nat) (a : Nat → Nat) (hvf : vf k = some (a 6)) (x : FSt) (p1 : Int32) (p2 : Int32) (p3 : Int32) (p4 : Int32) (p5 : Int32) (res : FSt × Int32) (hf : fL_asks k x p1 p2 p3 p4 p5 = some res) : MXW l yL_asks cL_asks 7 (some .int) [(0, 277, 278, 66), (0, 277, 283, 68)] { frames := 9, cells := 6, slots := 36, locals := 204 } D (TY cI cV cJ cD) (W_F cI cV vf a x) (W_F cI cV vf a res.1) [.ref (a 0), .int p1, .int p2, .int p3, .int p4, .int p5] (.inl (some (.int res.2))) := by
  intro sz
  refine vx_ofWH (cc := cL_asks) (maxL := 7) (ret := (some .int)) (hh := [(0, 277, 278, 66), (0, 277, 283, 68)]) (by decide +kernel) rfl ?_
  intro p e s m args below meth c s₁ B hml hv
  obtain ⟨rfl, hsz, hP, hK, hD0, hE⟩ := hv
  have hx := B.exec
  have hb := B.bytes
  have hr := B.returns
  have hts := atoms_spec (ws := .codeWith yL_asks cL_asks 7 (some .int) [(0, 277, 278, 66), (0, 277, 283, 68)] :: GW) B.pre
  have hg : ∀ w ∈ GW, w.before (([.ref (a 0), .int p1, .int p2, .int p3, .int p4, .int p5] : List Value).toArray) s = true := fun w h => hts w (List.mem_cons_of_mem _ h)
  have hown : s.vm.findClass RL = some m.cls := findClass_of_methodNamed B.named
  have hlocks := B.notSynchronized
  have htab : c.exceptionTable.toList = [⟨0, 277, 278, 66⟩, ⟨0, 277, 283, 68⟩] := vx_table (x := yL_asks) B (hts _ List.mem_cons_self)
  subst hsz
  have hD := hD0.self (sz := s.heap.size)
  generalize hAe : va_A (W_F cI cV vf a x) s.heap.size = A at hD hE ⊢
  have hA : ∀ q : Nat, s.heap.size ≤ q → A q := fun q h => by rw [← hAe]; exact Or.inr h
  have hS : va_S A s.heap s.heap [] := va_S.rf
  have hl := lv_entry ([.ref (a 0), .int p1, .int p2, .int p3, .int p4, .int p5]) (n := 7) (Nat.le_of_ble_eq_true rfl)
  rw [lg_entry_eq]
  generalize (lg_sl ([.ref (a 0), .int p1, .int p2, .int p3, .int p4, .int p5]) ++ List.replicate (7 - (lg_sl ([.ref (a 0), .int p1, .int p2, .int p3, .int p4, .int p5])).length) Slot.unset).toArray = ls at hl ⊢
  have hl : lv_has ls 7 [(0, .ref (a 0)), (1, .int p1), (2, .int p2), (3, .int p3), (4, .int p4), (5, .int p5)] := hl
  have L39 : ∀ (x : FSt) (s0 : Int32) (s1 : Int32) (H : Heap) (locs : List Loc) (ls : Array Slot), fL_asks_39 k x s0 s1  = some res → va_P D vwCl (W_F cI cV vf a x) H → va_D A (W_F cI cV vf a x) → va_S A s.heap H locs → lv_has ls 7 [] → W p l e ({ frames := 9, cells := 6, slots := 36, locals := 204 } : Room) s m ([.ref (a 0), .int p1, .int p2, .int p3, .int p4, .int p5] : List Value).toArray below meth c H locs 0 0 (vx_MQ below (QR D (TY cI cV cJ cD) (W_F cI cV vf a res.1) A (.inl (some (.int res.2)))) (XR D (TY cI cV cJ cD) (W_F cI cV vf a res.1) A (.inl (some (.int res.2)))) (([.ref (a 0), .int p1, .int p2, .int p3, .int p4, .int p5] : List Value).toArray) s 6 36 A) (F0 m 39 ls [.int s0, .int s1, .ref (a 0)]) := by
    intro x s0 s1 H locs ls hf hP hD hS hl
    dsimp only [fL_asks_39] at hf
    obtain ⟨u1, hc2, hf⟩ := bind_t hf
    try dsimp only at hf
    obtain ⟨x6, hx6⟩ : ∃ z, z = u1.1 := ⟨_, rfl⟩
    replace hf := keep_e hf x6 hx6
    refine k_VX (As := [.int s1, .int s0]) (rest := []) (n := 2) ⟨hx, hb, hml, hown, hts⟩ (met_X7_pop l hlt k vf a hvf x s1 s0 u1 hc2) w573 w574 w575 w1 w576 ⟨rfl, by decide +kernel, by decide +kernel, by decide +kernel⟩ ⟨Nat.le_of_ble_eq_true rfl, Nat.le_of_ble_eq_true rfl⟩ hK hE hP hD hS hA (isC := [0, 1, 2, 3, 4, 5, 6, 7, 8, 9, 10, 11, 12, 13, 14, 15, 16, 17, 18, 19, 20, 21, 22, 23]) (isR := []) (isB := [0, 1, 2, 3, 4, 5, 6, 7, 8, 9, 10, 11, 12, 13, 14, 15, 16, 17, 18, 19, 20, 21, 22, 23]) (ws' := W_F cI cV vf a u1.1) ⟨([] : List Nat).filterMap (fun i : Nat => (W_F cI cV vf a x : va_W)[i]?), rfl, rfl, rfl, rfl, by decide, rfl, rfl⟩ 0 6 rfl rfl rfl rfl hl.1 rfl (Nat.le_of_ble_eq_true rfl) dL_asks_39 ⟨Nat.le_of_ble_eq_true rfl, Nat.le_of_ble_eq_true rfl⟩ (fun E ce q9 H locs h5 hP hD hS hce hcv hcl => ?_) (fun rv9 H locs h5 hP hD hS => ?_)
    · obtain ⟨k3, hq9, hE9⟩ := rsI_x h5
      replace hf := thr_x hf hq9
      by_cases hk9 : k3 = 0
      · subst hk9
        replace hf := if_t rfl hf
        have hP : va_P D vwCl (W_F cI cV vf a x6) H := by rw [hx6]; exact hP
        have hD : va_D A (W_F cI cV vf a x6) := by rw [hx6]; exact hD
        have hE9 : E = "java/lang/IndexOutOfBoundsException" := hE9
        subst hE9
        refine vx_catch (own := RL) (name := "java/lang/IndexOutOfBoundsException") hown [] ⟨0, 277, 278, 66⟩ [⟨0, 277, 283, 68⟩] htab (fun _ h => absurd h List.not_mem_nil) (by decide) (by decide) (hg _ w363) (va_Nw.use rfl (hE.1.2.2.2.2.1 _ (List.mem_of_getElem? (i := 0) rfl))) hce hcv hcl ?_
        refine W.eq (g2 := F0 m 278 ls [.ref q9]) rfl ?_
        refine lv_astore (lv' := [(6, .ref q9)]) hx hb dL_asks_278 hl (by decide) rfl (fun ls hl => ?_)
        refine lv_bipush (v := (-107)) hx hb dL_asks_280 (by decide) ?_
        obtain rfl := Option.some.inj hf
        refine W.widen (k := 6) (n := 36) (Nat.le_of_ble_eq_true rfl) (Nat.le_of_ble_eq_true rfl) ?_
        refine vx_ret ?_
        exact W.iret (v := (-107)) hx hb hr (fun t ht hW => ⟨_, rfl, ⟨rfl, by rw [ht]; exact hP, va_K.moved hW.alike hK, hD, hS.F ht⟩⟩) hS.2.2 dL_asks_282 hlocks
      replace hf := if_f hk9 hf
      by_cases hk9 : k3 = 2
      · subst hk9
        replace hf := if_t rfl hf
        have hP : va_P D vwCl (W_F cI cV vf a x6) H := by rw [hx6]; exact hP
        have hD : va_D A (W_F cI cV vf a x6) := by rw [hx6]; exact hD
        have hE9 : E = "java/lang/IllegalStateException" := hE9
        subst hE9
        refine vx_catch (own := RL) (name := "java/lang/IllegalStateException") hown [⟨0, 277, 278, 66⟩] ⟨0, 277, 283, 68⟩ [] htab (List.forall_mem_cons.mpr ⟨Or.inr ⟨by decide, "java/lang/IndexOutOfBoundsException", hg _ w363, hE.1.2.2.2.2.2.1 _ (List.mem_of_getElem? (i := 2) rfl) _ (List.mem_of_getElem? (i := 0) rfl) (by decide +kernel)⟩, fun _ h => absurd h List.not_mem_nil⟩) (by decide) (by decide) (hg _ w364) (va_Nw.use rfl (hE.1.2.2.2.2.1 _ (List.mem_of_getElem? (i := 2) rfl))) hce hcv hcl ?_
        refine W.eq (g2 := F0 m 283 ls [.ref q9]) rfl ?_
        refine lv_astore (lv' := [(6, .ref q9)]) hx hb dL_asks_283 hl (by decide) rfl (fun ls hl => ?_)
        refine lv_bipush (v := (-108)) hx hb dL_asks_285 (by decide) ?_
        obtain rfl := Option.some.inj hf
        refine W.widen (k := 6) (n := 36) (Nat.le_of_ble_eq_true rfl) (Nat.le_of_ble_eq_true rfl) ?_
        refine vx_ret ?_
        exact W.iret (v := (-108)) hx hb hr (fun t ht hW => ⟨_, rfl, ⟨rfl, by rw [ht]; exact hP, va_K.moved hW.alike hK, hD, hS.F ht⟩⟩) hS.2.2 dL_asks_287 hlocks
      replace hf := if_f hk9 hf
      cases hf
    obtain ⟨r4, hq9, rfl⟩ := rsI_v h5
    replace hf := thr_v hf hq9
    have hP : va_P D vwCl (W_F cI cV vf a x6) H := by rw [hx6]; exact hP
    have hD : va_D A (W_F cI cV vf a x6) := by rw [hx6]; exact hD
    refine W.eq (g2 := F0 m 42 ls [.int r4]) rfl ?_
    refine lv_goto (tgt := 277) hx hb dL_asks_42 (by decide) ?_
    obtain rfl := Option.some.inj hf
    refine W.widen (k := 6) (n := 36) (Nat.le_of_ble_eq_true rfl) (Nat.le_of_ble_eq_true rfl) ?_
    refine vx_ret ?_
    exact W.iret (v := r4) hx hb hr (fun t ht hW => ⟨_, rfl, ⟨rfl, by rw [ht]; exact hP, va_K.moved hW.alike hK, hD, hS.F ht⟩⟩) hS.2.2 dL_asks_277 hlocks
  have L17 : ∀ (x : FSt) (s0 : Int32) (s1 : Int32) (s2 : Int32) (H : Heap) (locs : List Loc) (ls : Array Slot), fL_asks_17 k x s0 s1 s2  = some res → va_P D vwCl (W_F cI cV vf a x) H → va_D A (W_F cI cV vf a x) → va_S A s.heap H locs → lv_has ls 7 [] → W p l e ({ frames := 9, cells := 6, slots := 36, locals := 204 } : Room) s m ([.ref (a 0), .int p1, .int p2, .int p3, .int p4, .int p5] : List Value).toArray below meth c H locs 0 0 (vx_MQ below (QR D (TY cI cV cJ cD) (W_F cI cV vf a res.1) A (.inl (some (.int res.2)))) (XR D (TY cI cV cJ cD) (W_F cI cV vf a res.1) A (.inl (some (.int res.2)))) (([.ref (a 0), .int p1, .int p2, .int p3, .int p4, .int p5] : List Value).toArray) s 6 36 A) (F0 m 17 ls [.int s0, .int s1, .int s2, .ref (a 0)]) := by
    intro x s0 s1 s2 H locs ls hf hP hD hS hl
    dsimp only [fL_asks_17] at hf
    obtain ⟨u7, hc8, hf⟩ := bind_t hf
    try dsimp only at hf
    obtain ⟨x12, hx12⟩ : ∃ z, z = u7.1 := ⟨_, rfl⟩
    replace hf := keep_e hf x12 hx12
    refine k_VX (As := [.int s2, .int s1, .int s0]) (rest := []) (n := 3) ⟨hx, hb, hml, hown, hts⟩ (met_X7_push l hlt k vf a hvf x s2 s1 s0 u7 hc8) w365 w366 w367 w1 w368 ⟨rfl, by decide +kernel, by decide +kernel, by decide +kernel⟩ ⟨Nat.le_of_ble_eq_true rfl, Nat.le_of_ble_eq_true rfl⟩ hK hE hP hD hS hA (isC := [0, 1, 2, 3, 4, 5, 6, 7, 8, 9, 10, 11, 12, 13, 14, 15, 16, 17, 18, 19, 20, 21, 22, 23]) (isR := []) (isB := [0, 1, 2, 3, 4, 5, 6, 7, 8, 9, 10, 11, 12, 13, 14, 15, 16, 17, 18, 19, 20, 21, 22, 23]) (ws' := W_F cI cV vf a u7.1) ⟨([] : List Nat).filterMap (fun i : Nat => (W_F cI cV vf a x : va_W)[i]?), rfl, rfl, rfl, rfl, by decide, rfl, rfl⟩ 0 6 rfl rfl rfl rfl hl.1 rfl (Nat.le_of_ble_eq_true rfl) dL_asks_17 ⟨Nat.le_of_ble_eq_true rfl, Nat.le_of_ble_eq_true rfl⟩ (fun E ce q9 H locs h11 hP hD hS hce hcv hcl => ?_) (fun rv9 H locs h11 hP hD hS => ?_)
    · obtain ⟨k9, hq9, hE9⟩ := rsI_x h11
      replace hf := thr_x hf hq9
      by_cases hk9 : k9 = 0
      · subst hk9
        replace hf := if_t rfl hf
        have hP : va_P D vwCl (W_F cI cV vf a x12) H := by rw [hx12]; exact hP
        have hD : va_D A (W_F cI cV vf a x12) := by rw [hx12]; exact hD
        have hE9 : E = "java/lang/IndexOutOfBoundsException" := hE9
        subst hE9
        refine vx_catch (own := RL) (name := "java/lang/IndexOutOfBoundsException") hown [] ⟨0, 277, 278, 66⟩ [⟨0, 277, 283, 68⟩] htab (fun _ h => absurd h List.not_mem_nil) (by decide) (by decide) (hg _ w363) (va_Nw.use rfl (hE.1.2.2.2.2.1 _ (List.mem_of_getElem? (i := 0) rfl))) hce hcv hcl ?_
        refine W.eq (g2 := F0 m 278 ls [.ref q9]) rfl ?_
        refine lv_astore (lv' := [(6, .ref q9)]) hx hb dL_asks_278 hl (by decide) rfl (fun ls hl => ?_)
        refine lv_bipush (v := (-107)) hx hb dL_asks_280 (by decide) ?_
        obtain rfl := Option.some.inj hf
        refine W.widen (k := 6) (n := 36) (Nat.le_of_ble_eq_true rfl) (Nat.le_of_ble_eq_true rfl) ?_
        refine vx_ret ?_
        exact W.iret (v := (-107)) hx hb hr (fun t ht hW => ⟨_, rfl, ⟨rfl, by rw [ht]; exact hP, va_K.moved hW.alike hK, hD, hS.F ht⟩⟩) hS.2.2 dL_asks_282 hlocks
      replace hf := if_f hk9 hf
      by_cases hk9 : k9 = 2
      · subst hk9
        replace hf := if_t rfl hf
        have hP : va_P D vwCl (W_F cI cV vf a x12) H := by rw [hx12]; exact hP
        have hD : va_D A (W_F cI cV vf a x12) := by rw [hx12]; exact hD
        have hE9 : E = "java/lang/IllegalStateException" := hE9
        subst hE9
        refine vx_catch (own := RL) (name := "java/lang/IllegalStateException") hown [⟨0, 277, 278, 66⟩] ⟨0, 277, 283, 68⟩ [] htab (List.forall_mem_cons.mpr ⟨Or.inr ⟨by decide, "java/lang/IndexOutOfBoundsException", hg _ w363, hE.1.2.2.2.2.2.1 _ (List.mem_of_getElem? (i := 2) rfl) _ (List.mem_of_getElem? (i := 0) rfl) (by decide +kernel)⟩, fun _ h => absurd h List.not_mem_nil⟩) (by decide) (by decide) (hg _ w364) (va_Nw.use rfl (hE.1.2.2.2.2.1 _ (List.mem_of_getElem? (i := 2) rfl))) hce hcv hcl ?_
        refine W.eq (g2 := F0 m 283 ls [.ref q9]) rfl ?_
        refine lv_astore (lv' := [(6, .ref q9)]) hx hb dL_asks_283 hl (by decide) rfl (fun ls hl => ?_)
        refine lv_bipush (v := (-108)) hx hb dL_asks_285 (by decide) ?_
        obtain rfl := Option.some.inj hf
        refine W.widen (k := 6) (n := 36) (Nat.le_of_ble_eq_true rfl) (Nat.le_of_ble_eq_true rfl) ?_
        refine vx_ret ?_
        exact W.iret (v := (-108)) hx hb hr (fun t ht hW => ⟨_, rfl, ⟨rfl, by rw [ht]; exact hP, va_K.moved hW.alike hK, hD, hS.F ht⟩⟩) hS.2.2 dL_asks_287 hlocks
      replace hf := if_f hk9 hf
      cases hf
    obtain ⟨r10, hq9, rfl⟩ := rsI_v h11
    replace hf := thr_v hf hq9
    have hP : va_P D vwCl (W_F cI cV vf a x12) H := by rw [hx12]; exact hP
    have hD : va_D A (W_F cI cV vf a x12) := by rw [hx12]; exact hD
    refine W.eq (g2 := F0 m 20 ls [.int r10]) rfl ?_
    refine lv_goto (tgt := 277) hx hb dL_asks_20 (by decide) ?_
    obtain rfl := Option.some.inj hf
    refine W.widen (k := 6) (n := 36) (Nat.le_of_ble_eq_true rfl) (Nat.le_of_ble_eq_true rfl) ?_
    refine vx_ret ?_
    exact W.iret (v := r10) hx hb hr (fun t ht hW => ⟨_, rfl, ⟨rfl, by rw [ht]; exact hP, va_K.moved hW.alike hK, hD, hS.F ht⟩⟩) hS.2.2 dL_asks_277 hlocks
  have M0 : ∀ (H : Heap) (locs : List Loc) (ls : Array Slot), fL_asks k x p1 p2 p3 p4 p5 = some res → va_P D vwCl (W_F cI cV vf a x) H → va_D A (W_F cI cV vf a x) → va_S A s.heap H locs → lv_has ls 7 [(0, .ref (a 0)), (1, .int p1), (2, .int p2), (3, .int p3), (4, .int p4), (5, .int p5)] → W p l e ({ frames := 9, cells := 6, slots := 36, locals := 204 } : Room) s m ([.ref (a 0), .int p1, .int p2, .int p3, .int p4, .int p5] : List Value).toArray below meth c H locs 0 0 (vx_MQ below (QR D (TY cI cV cJ cD) (W_F cI cV vf a res.1) A (.inl (some (.int res.2)))) (XR D (TY cI cV cJ cD) (W_F cI cV vf a res.1) A (.inl (some (.int res.2)))) (([.ref (a 0), .int p1, .int p2, .int p3, .int p4, .int p5] : List Value).toArray) s 6 36 A) (F0 m 0 ls []) := by
    intro H locs ls hf hP hD hS hl
    dsimp only [fL_asks] at hf
    refine lv_iload_n hx hb dL_asks_0 rfl (lv_at hl 1 rfl) ?_
    refine lv_if_ne (tgt := 23) hx hb dL_asks_1 (by decide) (fun c13 => ?_) (fun c13 => ?_)
    · replace hf := if_f c13 hf
      refine lv_iload_n hx hb dL_asks_23 rfl (lv_at hl 1 rfl) ?_
      refine lv_iconst (v := 1) hx hb dL_asks_24 (by decide) ?_
      refine lv_icmp_ne (tgt := 45) hx hb dL_asks_25 (by decide) (fun c14 => ?_) (fun c14 => ?_)
      · replace hf := if_f c14 hf
        refine lv_iload_n hx hb dL_asks_45 rfl (lv_at hl 1 rfl) ?_
        refine lv_iconst (v := 2) hx hb dL_asks_46 (by decide) ?_
        refine lv_icmp_ne (tgt := 67) hx hb dL_asks_47 (by decide) (fun c15 => ?_) (fun c15 => ?_)
        · replace hf := if_f c15 hf
          refine lv_iload_n hx hb dL_asks_67 rfl (lv_at hl 1 rfl) ?_
          refine lv_iconst (v := 3) hx hb dL_asks_68 (by decide) ?_
          refine lv_icmp_ne (tgt := 89) hx hb dL_asks_69 (by decide) (fun c16 => ?_) (fun c16 => ?_)
          · replace hf := if_f c16 hf
            refine lv_iload_n hx hb dL_asks_89 rfl (lv_at hl 1 rfl) ?_
            refine lv_iconst (v := 4) hx hb dL_asks_90 (by decide) ?_
            refine lv_icmp_ne (tgt := 105) hx hb dL_asks_91 (by decide) (fun c17 => ?_) (fun c17 => ?_)
            · replace hf := if_f c17 hf
              refine lv_iload_n hx hb dL_asks_105 rfl (lv_at hl 1 rfl) ?_
              refine lv_iconst (v := 5) hx hb dL_asks_106 (by decide) ?_
              refine lv_icmp_ne (tgt := 119) hx hb dL_asks_107 (by decide) (fun c18 => ?_) (fun c18 => ?_)
              · replace hf := if_f c18 hf
                refine lv_iload_n hx hb dL_asks_119 rfl (lv_at hl 1 rfl) ?_
                refine lv_bipush (v := 6) hx hb dL_asks_120 (by decide) ?_
                refine lv_icmp_ne (tgt := 136) hx hb dL_asks_122 (by decide) (fun c19 => ?_) (fun c19 => ?_)
                · replace hf := if_f c19 hf
                  refine lv_iload_n hx hb dL_asks_136 rfl (lv_at hl 1 rfl) ?_
                  refine lv_bipush (v := 7) hx hb dL_asks_137 (by decide) ?_
                  refine lv_icmp_ne (tgt := 161) hx hb dL_asks_139 (by decide) (fun c20 => ?_) (fun c20 => ?_)
                  · replace hf := if_f c20 hf
                    refine lv_iload_n hx hb dL_asks_161 rfl (lv_at hl 1 rfl) ?_
                    refine lv_bipush (v := 8) hx hb dL_asks_162 (by decide) ?_
                    refine lv_icmp_ne (tgt := 180) hx hb dL_asks_164 (by decide) (fun c21 => ?_) (fun c21 => ?_)
                    · replace hf := if_f c21 hf
                      refine lv_iload_n hx hb dL_asks_180 rfl (lv_at hl 1 rfl) ?_
                      refine lv_bipush (v := 9) hx hb dL_asks_181 (by decide) ?_
                      refine lv_icmp_ne (tgt := 202) hx hb dL_asks_183 (by decide) (fun c22 => ?_) (fun c22 => ?_)
                      · replace hf := if_f c22 hf
                        refine lv_iload_n hx hb dL_asks_202 rfl (lv_at hl 1 rfl) ?_
                        refine lv_bipush (v := 10) hx hb dL_asks_203 (by decide) ?_
                        refine lv_icmp_ne (tgt := 225) hx hb dL_asks_205 (by decide) (fun c23 => ?_) (fun c23 => ?_)
                        · replace hf := if_f c23 hf
                          refine lv_iload_n hx hb dL_asks_225 rfl (lv_at hl 1 rfl) ?_
                          refine lv_bipush (v := 11) hx hb dL_asks_226 (by decide) ?_
                          refine lv_icmp_ne (tgt := 240) hx hb dL_asks_228 (by decide) (fun c24 => ?_) (fun c24 => ?_)
                          · replace hf := if_f c24 hf
                            refine lv_iload_n hx hb dL_asks_240 rfl (lv_at hl 1 rfl) ?_
                            refine lv_bipush (v := 12) hx hb dL_asks_241 (by decide) ?_
                            refine lv_icmp_ne (tgt := 254) hx hb dL_asks_243 (by decide) (fun c25 => ?_) (fun c25 => ?_)
                            · replace hf := if_f c25 hf
                              refine lv_iload_n hx hb dL_asks_254 rfl (lv_at hl 1 rfl) ?_
                              refine lv_bipush (v := 13) hx hb dL_asks_255 (by decide) ?_
                              refine lv_icmp_ne (tgt := 269) hx hb dL_asks_257 (by decide) (fun c26 => ?_) (fun c26 => ?_)
                              · replace hf := if_f c26 hf
                                refine lv_aload_n hx hb dL_asks_269 rfl (lv_at hl 0 rfl) ?_
                                refine lv_iload_n hx hb dL_asks_270 rfl (lv_at hl 2 rfl) ?_
                                refine lv_iload_n hx hb dL_asks_271 rfl (lv_at hl 3 rfl) ?_
                                refine lv_iload hx hb dL_asks_272 (lv_at hl 4 rfl) ?_
                                obtain ⟨u27, hc28, hf⟩ := bind_t hf
                                refine k_VX (As := [.int p2, .int p3, .int p4]) (rest := []) (n := 3) ⟨hx, hb, hml, hown, hts⟩ (met_X7_scanned l hlt k vf a hvf x p2 p3 p4 u27 hc28) w661 w662 w663 w1 w664 ⟨rfl, by decide +kernel, by decide +kernel, by decide +kernel⟩ ⟨Nat.le_of_ble_eq_true rfl, Nat.le_of_ble_eq_true rfl⟩ hK hE hP hD hS hA (isC := [0, 1, 2, 3, 4, 5, 6, 7, 8, 9, 10, 11, 12, 13, 14, 15, 16, 17, 18, 19, 20, 21, 22, 23]) (isR := []) (isB := [0, 1, 2, 3, 4, 5, 6, 7, 8, 9, 10, 11, 12, 13, 14, 15, 16, 17, 18, 19, 20, 21, 22, 23]) (ws' := W_F cI cV vf a x) ⟨([] : List Nat).filterMap (fun i : Nat => (W_F cI cV vf a x : va_W)[i]?), rfl, rfl, rfl, rfl, by decide, rfl, rfl⟩ 0 6 rfl rfl rfl rfl hl.1 rfl (Nat.le_of_ble_eq_true rfl) dL_asks_274 ⟨Nat.le_of_ble_eq_true rfl, Nat.le_of_ble_eq_true rfl⟩ (fun E ce q9 H locs h31 hP hD hS hce hcv hcl => ?_) (fun rv9 H locs h31 hP hD hS => ?_)
                                · obtain ⟨k29, hq9, hE9⟩ := rsI_x h31
                                  replace hf := thr_x hf hq9
                                  by_cases hk9 : k29 = 0
                                  · subst hk9
                                    replace hf := if_t rfl hf
                                    have hE9 : E = "java/lang/IndexOutOfBoundsException" := hE9
                                    subst hE9
                                    refine vx_catch (own := RL) (name := "java/lang/IndexOutOfBoundsException") hown [] ⟨0, 277, 278, 66⟩ [⟨0, 277, 283, 68⟩] htab (fun _ h => absurd h List.not_mem_nil) (by decide) (by decide) (hg _ w363) (va_Nw.use rfl (hE.1.2.2.2.2.1 _ (List.mem_of_getElem? (i := 0) rfl))) hce hcv hcl ?_
                                    refine W.eq (g2 := F0 m 278 ls [.ref q9]) rfl ?_
                                    refine lv_astore (lv' := [(6, .ref q9), (0, .ref (a 0)), (1, .int p1), (2, .int p2), (3, .int p3), (4, .int p4), (5, .int p5)]) hx hb dL_asks_278 hl (by decide) rfl (fun ls hl => ?_)
                                    refine lv_bipush (v := (-107)) hx hb dL_asks_280 (by decide) ?_
                                    obtain rfl := Option.some.inj hf
                                    refine W.widen (k := 6) (n := 36) (Nat.le_of_ble_eq_true rfl) (Nat.le_of_ble_eq_true rfl) ?_
                                    refine vx_ret ?_
                                    exact W.iret (v := (-107)) hx hb hr (fun t ht hW => ⟨_, rfl, ⟨rfl, by rw [ht]; exact hP, va_K.moved hW.alike hK, hD, hS.F ht⟩⟩) hS.2.2 dL_asks_282 hlocks
                                  replace hf := if_f hk9 hf
                                  by_cases hk9 : k29 = 2
                                  · subst hk9
                                    replace hf := if_t rfl hf
                                    have hE9 : E = "java/lang/IllegalStateException" := hE9
                                    subst hE9
                                    refine vx_catch (own := RL) (name := "java/lang/IllegalStateException") hown [⟨0, 277, 278, 66⟩] ⟨0, 277, 283, 68⟩ [] htab (List.forall_mem_cons.mpr ⟨Or.inr ⟨by decide, "java/lang/IndexOutOfBoundsException", hg _ w363, hE.1.2.2.2.2.2.1 _ (List.mem_of_getElem? (i := 2) rfl) _ (List.mem_of_getElem? (i := 0) rfl) (by decide +kernel)⟩, fun _ h => absurd h List.not_mem_nil⟩) (by decide) (by decide) (hg _ w364) (va_Nw.use rfl (hE.1.2.2.2.2.1 _ (List.mem_of_getElem? (i := 2) rfl))) hce hcv hcl ?_
                                    refine W.eq (g2 := F0 m 283 ls [.ref q9]) rfl ?_
                                    refine lv_astore (lv' := [(6, .ref q9), (0, .ref (a 0)), (1, .int p1), (2, .int p2), (3, .int p3), (4, .int p4), (5, .int p5)]) hx hb dL_asks_283 hl (by decide) rfl (fun ls hl => ?_)
                                    refine lv_bipush (v := (-108)) hx hb dL_asks_285 (by decide) ?_
                                    obtain rfl := Option.some.inj hf
                                    refine W.widen (k := 6) (n := 36) (Nat.le_of_ble_eq_true rfl) (Nat.le_of_ble_eq_true rfl) ?_
                                    refine vx_ret ?_
                                    exact W.iret (v := (-108)) hx hb hr (fun t ht hW => ⟨_, rfl, ⟨rfl, by rw [ht]; exact hP, va_K.moved hW.alike hK, hD, hS.F ht⟩⟩) hS.2.2 dL_asks_287 hlocks
                                  replace hf := if_f hk9 hf
                                  cases hf
                                obtain ⟨r30, hq9, rfl⟩ := rsI_v h31
                                replace hf := thr_v hf hq9
                                refine W.eq (g2 := F0 m 277 ls [.int r30]) rfl ?_
                                obtain rfl := Option.some.inj hf
                                refine W.widen (k := 6) (n := 36) (Nat.le_of_ble_eq_true rfl) (Nat.le_of_ble_eq_true rfl) ?_
                                refine vx_ret ?_
                                exact W.iret (v := r30) hx hb hr (fun t ht hW => ⟨_, rfl, ⟨rfl, by rw [ht]; exact hP, va_K.moved hW.alike hK, hD, hS.F ht⟩⟩) hS.2.2 dL_asks_277 hlocks
                              · replace hf := if_t c26 hf
                                refine lv_aload_n hx hb dL_asks_260 rfl (lv_at hl 0 rfl) ?_
                                refine lv_iload_n hx hb dL_asks_261 rfl (lv_at hl 2 rfl) ?_
                                refine lv_iload_n hx hb dL_asks_262 rfl (lv_at hl 3 rfl) ?_
                                obtain ⟨u32, hc33, hf⟩ := bind_t hf
                                refine k_VX (As := [.int p2, .int p3]) (rest := []) (n := 2) ⟨hx, hb, hml, hown, hts⟩ (met_X7_next l hlt k vf a hvf x p2 p3 u32 hc33) w645 w646 w647 w1 w648 ⟨rfl, by decide +kernel, by decide +kernel, by decide +kernel⟩ ⟨Nat.le_of_ble_eq_true rfl, Nat.le_of_ble_eq_true rfl⟩ hK hE hP hD hS hA (isC := [0, 1, 2, 3, 4, 5, 6, 7, 8, 9, 10, 11, 12, 13, 14, 15, 16, 17, 18, 19, 20, 21, 22, 23]) (isR := []) (isB := [0, 1, 2, 3, 4, 5, 6, 7, 8, 9, 10, 11, 12, 13, 14, 15, 16, 17, 18, 19, 20, 21, 22, 23]) (ws' := W_F cI cV vf a x) ⟨([] : List Nat).filterMap (fun i : Nat => (W_F cI cV vf a x : va_W)[i]?), rfl, rfl, rfl, rfl, by decide, rfl, rfl⟩ 0 6 rfl rfl rfl rfl hl.1 rfl (Nat.le_of_ble_eq_true rfl) dL_asks_263 ⟨Nat.le_of_ble_eq_true rfl, Nat.le_of_ble_eq_true rfl⟩ (fun E ce q9 H locs h36 hP hD hS hce hcv hcl => ?_) (fun rv9 H locs h36 hP hD hS => ?_)
                                · obtain ⟨k34, hq9, hE9⟩ := rsI_x h36
                                  replace hf := thr_x hf hq9
                                  by_cases hk9 : k34 = 0
                                  · subst hk9
                                    replace hf := if_t rfl hf
                                    have hE9 : E = "java/lang/IndexOutOfBoundsException" := hE9
                                    subst hE9
                                    refine vx_catch (own := RL) (name := "java/lang/IndexOutOfBoundsException") hown [] ⟨0, 277, 278, 66⟩ [⟨0, 277, 283, 68⟩] htab (fun _ h => absurd h List.not_mem_nil) (by decide) (by decide) (hg _ w363) (va_Nw.use rfl (hE.1.2.2.2.2.1 _ (List.mem_of_getElem? (i := 0) rfl))) hce hcv hcl ?_
                                    refine W.eq (g2 := F0 m 278 ls [.ref q9]) rfl ?_
                                    refine lv_astore (lv' := [(6, .ref q9), (0, .ref (a 0)), (1, .int p1), (2, .int p2), (3, .int p3), (4, .int p4), (5, .int p5)]) hx hb dL_asks_278 hl (by decide) rfl (fun ls hl => ?_)
                                    refine lv_bipush (v := (-107)) hx hb dL_asks_280 (by decide) ?_
                                    obtain rfl := Option.some.inj hf
                                    refine W.widen (k := 6) (n := 36) (Nat.le_of_ble_eq_true rfl) (Nat.le_of_ble_eq_true rfl) ?_
                                    refine vx_ret ?_
                                    exact W.iret (v := (-107)) hx hb hr (fun t ht hW => ⟨_, rfl, ⟨rfl, by rw [ht]; exact hP, va_K.moved hW.alike hK, hD, hS.F ht⟩⟩) hS.2.2 dL_asks_282 hlocks
                                  replace hf := if_f hk9 hf
                                  by_cases hk9 : k34 = 2
                                  · subst hk9
                                    replace hf := if_t rfl hf
                                    have hE9 : E = "java/lang/IllegalStateException" := hE9
                                    subst hE9
                                    refine vx_catch (own := RL) (name := "java/lang/IllegalStateException") hown [⟨0, 277, 278, 66⟩] ⟨0, 277, 283, 68⟩ [] htab (List.forall_mem_cons.mpr ⟨Or.inr ⟨by decide, "java/lang/IndexOutOfBoundsException", hg _ w363, hE.1.2.2.2.2.2.1 _ (List.mem_of_getElem? (i := 2) rfl) _ (List.mem_of_getElem? (i := 0) rfl) (by decide +kernel)⟩, fun _ h => absurd h List.not_mem_nil⟩) (by decide) (by decide) (hg _ w364) (va_Nw.use rfl (hE.1.2.2.2.2.1 _ (List.mem_of_getElem? (i := 2) rfl))) hce hcv hcl ?_
                                    refine W.eq (g2 := F0 m 283 ls [.ref q9]) rfl ?_
                                    refine lv_astore (lv' := [(6, .ref q9), (0, .ref (a 0)), (1, .int p1), (2, .int p2), (3, .int p3), (4, .int p4), (5, .int p5)]) hx hb dL_asks_283 hl (by decide) rfl (fun ls hl => ?_)
                                    refine lv_bipush (v := (-108)) hx hb dL_asks_285 (by decide) ?_
                                    obtain rfl := Option.some.inj hf
                                    refine W.widen (k := 6) (n := 36) (Nat.le_of_ble_eq_true rfl) (Nat.le_of_ble_eq_true rfl) ?_
                                    refine vx_ret ?_
                                    exact W.iret (v := (-108)) hx hb hr (fun t ht hW => ⟨_, rfl, ⟨rfl, by rw [ht]; exact hP, va_K.moved hW.alike hK, hD, hS.F ht⟩⟩) hS.2.2 dL_asks_287 hlocks
                                  replace hf := if_f hk9 hf
                                  cases hf
                                obtain ⟨r35, hq9, rfl⟩ := rsI_v h36
                                replace hf := thr_v hf hq9
                                refine W.eq (g2 := F0 m 266 ls [.int r35]) rfl ?_
                                refine lv_goto (tgt := 277) hx hb dL_asks_266 (by decide) ?_
                                obtain rfl := Option.some.inj hf
                                refine W.widen (k := 6) (n := 36) (Nat.le_of_ble_eq_true rfl) (Nat.le_of_ble_eq_true rfl) ?_
                                refine vx_ret ?_
                                exact W.iret (v := r35) hx hb hr (fun t ht hW => ⟨_, rfl, ⟨rfl, by rw [ht]; exact hP, va_K.moved hW.alike hK, hD, hS.F ht⟩⟩) hS.2.2 dL_asks_277 hlocks
                            · replace hf := if_t c25 hf
                              refine lv_aload_n hx hb dL_asks_246 rfl (lv_at hl 0 rfl) ?_
                              refine lv_iload_n hx hb dL_asks_247 rfl (lv_at hl 2 rfl) ?_
                              cases hf
                          · replace hf := if_t c24 hf
                            refine lv_aload_n hx hb dL_asks_231 rfl (lv_at hl 0 rfl) ?_
                            refine lv_iload_n hx hb dL_asks_232 rfl (lv_at hl 2 rfl) ?_
                            refine lv_iload_n hx hb dL_asks_233 rfl (lv_at hl 3 rfl) ?_
                            obtain ⟨u37, hc38, hf⟩ := bind_t hf
                            refine k_VX (As := [.int p2, .int p3]) (rest := []) (n := 2) ⟨hx, hb, hml, hown, hts⟩ (met_X7_at l hlt k vf a hvf x p2 p3 u37 hc38) w625 w626 w627 w1 w628 ⟨rfl, by decide +kernel, by decide +kernel, by decide +kernel⟩ ⟨Nat.le_of_ble_eq_true rfl, Nat.le_of_ble_eq_true rfl⟩ hK hE hP hD hS hA (isC := [0, 1, 2, 3, 4, 5, 6, 7, 8, 9, 10, 11, 12, 13, 14, 15, 16, 17, 18, 19, 20, 21, 22, 23]) (isR := []) (isB := [0, 1, 2, 3, 4, 5, 6, 7, 8, 9, 10, 11, 12, 13, 14, 15, 16, 17, 18, 19, 20, 21, 22, 23]) (ws' := W_F cI cV vf a x) ⟨([] : List Nat).filterMap (fun i : Nat => (W_F cI cV vf a x : va_W)[i]?), rfl, rfl, rfl, rfl, by decide, rfl, rfl⟩ 0 6 rfl rfl rfl rfl hl.1 rfl (Nat.le_of_ble_eq_true rfl) dL_asks_234 ⟨Nat.le_of_ble_eq_true rfl, Nat.le_of_ble_eq_true rfl⟩ (fun E ce q9 H locs h41 hP hD hS hce hcv hcl => ?_) (fun rv9 H locs h41 hP hD hS => ?_)
                            · obtain ⟨k39, hq9, hE9⟩ := rsI_x h41
                              replace hf := thr_x hf hq9
                              by_cases hk9 : k39 = 0
                              · subst hk9
                                replace hf := if_t rfl hf
                                have hE9 : E = "java/lang/IndexOutOfBoundsException" := hE9
                                subst hE9
                                refine vx_catch (own := RL) (name := "java/lang/IndexOutOfBoundsException") hown [] ⟨0, 277, 278, 66⟩ [⟨0, 277, 283, 68⟩] htab (fun _ h => absurd h List.not_mem_nil) (by decide) (by decide) (hg _ w363) (va_Nw.use rfl (hE.1.2.2.2.2.1 _ (List.mem_of_getElem? (i := 0) rfl))) hce hcv hcl ?_
                                refine W.eq (g2 := F0 m 278 ls [.ref q9]) rfl ?_
                                refine lv_astore (lv' := [(6, .ref q9), (0, .ref (a 0)), (1, .int p1), (2, .int p2), (3, .int p3), (4, .int p4), (5, .int p5)]) hx hb dL_asks_278 hl (by decide) rfl (fun ls hl => ?_)
                                refine lv_bipush (v := (-107)) hx hb dL_asks_280 (by decide) ?_
                                obtain rfl := Option.some.inj hf
                                refine W.widen (k := 6) (n := 36) (Nat.le_of_ble_eq_true rfl) (Nat.le_of_ble_eq_true rfl) ?_
                                refine vx_ret ?_
                                exact W.iret (v := (-107)) hx hb hr (fun t ht hW => ⟨_, rfl, ⟨rfl, by rw [ht]; exact hP, va_K.moved hW.alike hK, hD, hS.F ht⟩⟩) hS.2.2 dL_asks_282 hlocks
                              replace hf := if_f hk9 hf
                              by_cases hk9 : k39 = 2
                              · subst hk9
                                replace hf := if_t rfl hf
                                have hE9 : E = "java/lang/IllegalStateException" := hE9
                                subst hE9
                                refine vx_catch (own := RL) (name := "java/lang/IllegalStateException") hown [⟨0, 277, 278, 66⟩] ⟨0, 277, 283, 68⟩ [] htab (List.forall_mem_cons.mpr ⟨Or.inr ⟨by decide, "java/lang/IndexOutOfBoundsException", hg _ w363, hE.1.2.2.2.2.2.1 _ (List.mem_of_getElem? (i := 2) rfl) _ (List.mem_of_getElem? (i := 0) rfl) (by decide +kernel)⟩, fun _ h => absurd h List.not_mem_nil⟩) (by decide) (by decide) (hg _ w364) (va_Nw.use rfl (hE.1.2.2.2.2.1 _ (List.mem_of_getElem? (i := 2) rfl))) hce hcv hcl ?_
                                refine W.eq (g2 := F0 m 283 ls [.ref q9]) rfl ?_
                                refine lv_astore (lv' := [(6, .ref q9), (0, .ref (a 0)), (1, .int p1), (2, .int p2), (3, .int p3), (4, .int p4), (5, .int p5)]) hx hb dL_asks_283 hl (by decide) rfl (fun ls hl => ?_)
                                refine lv_bipush (v := (-108)) hx hb dL_asks_285 (by decide) ?_
                                obtain rfl := Option.some.inj hf
                                refine W.widen (k := 6) (n := 36) (Nat.le_of_ble_eq_true rfl) (Nat.le_of_ble_eq_true rfl) ?_
                                refine vx_ret ?_
                                exact W.iret (v := (-108)) hx hb hr (fun t ht hW => ⟨_, rfl, ⟨rfl, by rw [ht]; exact hP, va_K.moved hW.alike hK, hD, hS.F ht⟩⟩) hS.2.2 dL_asks_287 hlocks
                              replace hf := if_f hk9 hf
                              cases hf
                            obtain ⟨r40, hq9, rfl⟩ := rsI_v h41
                            replace hf := thr_v hf hq9
                            refine W.eq (g2 := F0 m 237 ls [.int r40]) rfl ?_
                            refine lv_goto (tgt := 277) hx hb dL_asks_237 (by decide) ?_
                            obtain rfl := Option.some.inj hf
                            refine W.widen (k := 6) (n := 36) (Nat.le_of_ble_eq_true rfl) (Nat.le_of_ble_eq_true rfl) ?_
                            refine vx_ret ?_
                            exact W.iret (v := r40) hx hb hr (fun t ht hW => ⟨_, rfl, ⟨rfl, by rw [ht]; exact hP, va_K.moved hW.alike hK, hD, hS.F ht⟩⟩) hS.2.2 dL_asks_277 hlocks
                        · replace hf := if_t c23 hf
                          refine lv_aload_n hx hb dL_asks_208 rfl (lv_at hl 0 rfl) ?_
                          refine lv_iload_n hx hb dL_asks_209 rfl (lv_at hl 2 rfl) ?_
                          refine lv_iload_n hx hb dL_asks_210 rfl (lv_at hl 3 rfl) ?_
                          obtain ⟨u42, hc43, hf⟩ := bind_t hf
                          try dsimp only at hf
                          obtain ⟨x47, hx47⟩ : ∃ z, z = u42.1 := ⟨_, rfl⟩
                          replace hf := keep_e hf x47 hx47
                          refine k_VX (As := [.int p2, .int p3]) (rest := []) (n := 2) ⟨hx, hb, hml, hown, hts⟩ (met_X7_expire l hlt k vf a hvf x p2 p3 u42 hc43) w621 w622 w623 w1 w624 ⟨rfl, by decide +kernel, by decide +kernel, by decide +kernel⟩ ⟨Nat.le_of_ble_eq_true rfl, Nat.le_of_ble_eq_true rfl⟩ hK hE hP hD hS hA (isC := [0, 1, 2, 3, 4, 5, 6, 7, 8, 9, 10, 11, 12, 13, 14, 15, 16, 17, 18, 19, 20, 21, 22, 23]) (isR := []) (isB := [0, 1, 2, 3, 4, 5, 6, 7, 8, 9, 10, 11, 12, 13, 14, 15, 16, 17, 18, 19, 20, 21, 22, 23]) (ws' := W_F cI cV vf a u42.1) ⟨([] : List Nat).filterMap (fun i : Nat => (W_F cI cV vf a x : va_W)[i]?), rfl, rfl, rfl, rfl, by decide, rfl, rfl⟩ 0 6 rfl rfl rfl rfl hl.1 rfl (Nat.le_of_ble_eq_true rfl) dL_asks_211 ⟨Nat.le_of_ble_eq_true rfl, Nat.le_of_ble_eq_true rfl⟩ (fun E ce q9 H locs h46 hP hD hS hce hcv hcl => ?_) (fun rv9 H locs h46 hP hD hS => ?_)
                          · obtain ⟨k44, hq9, hE9⟩ := rsI_x h46
                            replace hf := thr_x hf hq9
                            by_cases hk9 : k44 = 0
                            · subst hk9
                              replace hf := if_t rfl hf
                              have hP : va_P D vwCl (W_F cI cV vf a x47) H := by rw [hx47]; exact hP
                              have hD : va_D A (W_F cI cV vf a x47) := by rw [hx47]; exact hD
                              have hE9 : E = "java/lang/IndexOutOfBoundsException" := hE9
                              subst hE9
                              refine vx_catch (own := RL) (name := "java/lang/IndexOutOfBoundsException") hown [] ⟨0, 277, 278, 66⟩ [⟨0, 277, 283, 68⟩] htab (fun _ h => absurd h List.not_mem_nil) (by decide) (by decide) (hg _ w363) (va_Nw.use rfl (hE.1.2.2.2.2.1 _ (List.mem_of_getElem? (i := 0) rfl))) hce hcv hcl ?_
                              refine W.eq (g2 := F0 m 278 ls [.ref q9]) rfl ?_
                              refine lv_astore (lv' := [(6, .ref q9), (0, .ref (a 0)), (1, .int p1), (2, .int p2), (3, .int p3), (4, .int p4), (5, .int p5)]) hx hb dL_asks_278 hl (by decide) rfl (fun ls hl => ?_)
                              refine lv_bipush (v := (-107)) hx hb dL_asks_280 (by decide) ?_
                              obtain rfl := Option.some.inj hf
                              refine W.widen (k := 6) (n := 36) (Nat.le_of_ble_eq_true rfl) (Nat.le_of_ble_eq_true rfl) ?_
                              refine vx_ret ?_
                              exact W.iret (v := (-107)) hx hb hr (fun t ht hW => ⟨_, rfl, ⟨rfl, by rw [ht]; exact hP, va_K.moved hW.alike hK, hD, hS.F ht⟩⟩) hS.2.2 dL_asks_282 hlocks
                            replace hf := if_f hk9 hf
                            by_cases hk9 : k44 = 2
                            · subst hk9
                              replace hf := if_t rfl hf
                              have hP : va_P D vwCl (W_F cI cV vf a x47) H := by rw [hx47]; exact hP
                              have hD : va_D A (W_F cI cV vf a x47) := by rw [hx47]; exact hD
                              have hE9 : E = "java/lang/IllegalStateException" := hE9
                              subst hE9
                              refine vx_catch (own := RL) (name := "java/lang/IllegalStateException") hown [⟨0, 277, 278, 66⟩] ⟨0, 277, 283, 68⟩ [] htab (List.forall_mem_cons.mpr ⟨Or.inr ⟨by decide, "java/lang/IndexOutOfBoundsException", hg _ w363, hE.1.2.2.2.2.2.1 _ (List.mem_of_getElem? (i := 2) rfl) _ (List.mem_of_getElem? (i := 0) rfl) (by decide +kernel)⟩, fun _ h => absurd h List.not_mem_nil⟩) (by decide) (by decide) (hg _ w364) (va_Nw.use rfl (hE.1.2.2.2.2.1 _ (List.mem_of_getElem? (i := 2) rfl))) hce hcv hcl ?_
                              refine W.eq (g2 := F0 m 283 ls [.ref q9]) rfl ?_
                              refine lv_astore (lv' := [(6, .ref q9), (0, .ref (a 0)), (1, .int p1), (2, .int p2), (3, .int p3), (4, .int p4), (5, .int p5)]) hx hb dL_asks_283 hl (by decide) rfl (fun ls hl => ?_)
                              refine lv_bipush (v := (-108)) hx hb dL_asks_285 (by decide) ?_
                              obtain rfl := Option.some.inj hf
                              refine W.widen (k := 6) (n := 36) (Nat.le_of_ble_eq_true rfl) (Nat.le_of_ble_eq_true rfl) ?_
                              refine vx_ret ?_
                              exact W.iret (v := (-108)) hx hb hr (fun t ht hW => ⟨_, rfl, ⟨rfl, by rw [ht]; exact hP, va_K.moved hW.alike hK, hD, hS.F ht⟩⟩) hS.2.2 dL_asks_287 hlocks
                            replace hf := if_f hk9 hf
                            cases hf
                          obtain ⟨r45, hq9, rfl⟩ := rsI_v h46
                          replace hf := thr_v hf hq9
                          have hP : va_P D vwCl (W_F cI cV vf a x47) H := by rw [hx47]; exact hP
                          have hD : va_D A (W_F cI cV vf a x47) := by rw [hx47]; exact hD
                          refine W.eq (g2 := F0 m 214 ls [.int r45]) rfl ?_
                          refine lv_if_eq (tgt := 221) hx hb dL_asks_214 (by decide) (fun c48 => ?_) (fun c48 => ?_)
                          · replace hf := if_t c48 hf
                            refine lv_iconst (v := 0) hx hb dL_asks_221 (by decide) ?_
                            refine lv_goto (tgt := 277) hx hb dL_asks_222 (by decide) ?_
                            obtain rfl := Option.some.inj hf
                            refine W.widen (k := 6) (n := 36) (Nat.le_of_ble_eq_true rfl) (Nat.le_of_ble_eq_true rfl) ?_
                            refine vx_ret ?_
                            exact W.iret (v := 0) hx hb hr (fun t ht hW => ⟨_, rfl, ⟨rfl, by rw [ht]; exact hP, va_K.moved hW.alike hK, hD, hS.F ht⟩⟩) hS.2.2 dL_asks_277 hlocks
                          · replace hf := if_f c48 hf
                            refine lv_iconst (v := 1) hx hb dL_asks_217 (by decide) ?_
                            refine lv_goto (tgt := 277) hx hb dL_asks_218 (by decide) ?_
                            obtain rfl := Option.some.inj hf
                            refine W.widen (k := 6) (n := 36) (Nat.le_of_ble_eq_true rfl) (Nat.le_of_ble_eq_true rfl) ?_
                            refine vx_ret ?_
                            exact W.iret (v := 1) hx hb hr (fun t ht hW => ⟨_, rfl, ⟨rfl, by rw [ht]; exact hP, va_K.moved hW.alike hK, hD, hS.F ht⟩⟩) hS.2.2 dL_asks_277 hlocks
                      · replace hf := if_t c22 hf
                        refine lv_aload_n hx hb dL_asks_186 rfl (lv_at hl 0 rfl) ?_
                        refine lv_iload_n hx hb dL_asks_187 rfl (lv_at hl 2 rfl) ?_
                        obtain ⟨u49, hc50, hf⟩ := bind_t hf
                        try dsimp only at hf
                        obtain ⟨x54, hx54⟩ : ∃ z, z = u49.1 := ⟨_, rfl⟩
                        replace hf := keep_e hf x54 hx54
                        refine k_VX (As := [.int p2]) (rest := []) (n := 1) ⟨hx, hb, hml, hown, hts⟩ (met_X7_remove l hlt k vf a hvf x p2 u49 hc50) w617 w618 w619 w1 w620 ⟨rfl, by decide +kernel, by decide +kernel, by decide +kernel⟩ ⟨Nat.le_of_ble_eq_true rfl, Nat.le_of_ble_eq_true rfl⟩ hK hE hP hD hS hA (isC := [0, 1, 2, 3, 4, 5, 6, 7, 8, 9, 10, 11, 12, 13, 14, 15, 16, 17, 18, 19, 20, 21, 22, 23]) (isR := []) (isB := [0, 1, 2, 3, 4, 5, 6, 7, 8, 9, 10, 11, 12, 13, 14, 15, 16, 17, 18, 19, 20, 21, 22, 23]) (ws' := W_F cI cV vf a u49.1) ⟨([] : List Nat).filterMap (fun i : Nat => (W_F cI cV vf a x : va_W)[i]?), rfl, rfl, rfl, rfl, by decide, rfl, rfl⟩ 0 6 rfl rfl rfl rfl hl.1 rfl (Nat.le_of_ble_eq_true rfl) dL_asks_188 ⟨Nat.le_of_ble_eq_true rfl, Nat.le_of_ble_eq_true rfl⟩ (fun E ce q9 H locs h53 hP hD hS hce hcv hcl => ?_) (fun rv9 H locs h53 hP hD hS => ?_)
                        · obtain ⟨k51, hq9, hE9⟩ := rsI_x h53
                          replace hf := thr_x hf hq9
                          by_cases hk9 : k51 = 0
                          · subst hk9
                            replace hf := if_t rfl hf
                            have hP : va_P D vwCl (W_F cI cV vf a x54) H := by rw [hx54]; exact hP
                            have hD : va_D A (W_F cI cV vf a x54) := by rw [hx54]; exact hD
                            have hE9 : E = "java/lang/IndexOutOfBoundsException" := hE9
                            subst hE9
                            refine vx_catch (own := RL) (name := "java/lang/IndexOutOfBoundsException") hown [] ⟨0, 277, 278, 66⟩ [⟨0, 277, 283, 68⟩] htab (fun _ h => absurd h List.not_mem_nil) (by decide) (by decide) (hg _ w363) (va_Nw.use rfl (hE.1.2.2.2.2.1 _ (List.mem_of_getElem? (i := 0) rfl))) hce hcv hcl ?_
                            refine W.eq (g2 := F0 m 278 ls [.ref q9]) rfl ?_
                            refine lv_astore (lv' := [(6, .ref q9), (0, .ref (a 0)), (1, .int p1), (2, .int p2), (3, .int p3), (4, .int p4), (5, .int p5)]) hx hb dL_asks_278 hl (by decide) rfl (fun ls hl => ?_)
                            refine lv_bipush (v := (-107)) hx hb dL_asks_280 (by decide) ?_
                            obtain rfl := Option.some.inj hf
                            refine W.widen (k := 6) (n := 36) (Nat.le_of_ble_eq_true rfl) (Nat.le_of_ble_eq_true rfl) ?_
                            refine vx_ret ?_
                            exact W.iret (v := (-107)) hx hb hr (fun t ht hW => ⟨_, rfl, ⟨rfl, by rw [ht]; exact hP, va_K.moved hW.alike hK, hD, hS.F ht⟩⟩) hS.2.2 dL_asks_282 hlocks
                          replace hf := if_f hk9 hf
                          by_cases hk9 : k51 = 2
                          · subst hk9
                            replace hf := if_t rfl hf
                            have hP : va_P D vwCl (W_F cI cV vf a x54) H := by rw [hx54]; exact hP
                            have hD : va_D A (W_F cI cV vf a x54) := by rw [hx54]; exact hD
                            have hE9 : E = "java/lang/IllegalStateException" := hE9
                            subst hE9
                            refine vx_catch (own := RL) (name := "java/lang/IllegalStateException") hown [⟨0, 277, 278, 66⟩] ⟨0, 277, 283, 68⟩ [] htab (List.forall_mem_cons.mpr ⟨Or.inr ⟨by decide, "java/lang/IndexOutOfBoundsException", hg _ w363, hE.1.2.2.2.2.2.1 _ (List.mem_of_getElem? (i := 2) rfl) _ (List.mem_of_getElem? (i := 0) rfl) (by decide +kernel)⟩, fun _ h => absurd h List.not_mem_nil⟩) (by decide) (by decide) (hg _ w364) (va_Nw.use rfl (hE.1.2.2.2.2.1 _ (List.mem_of_getElem? (i := 2) rfl))) hce hcv hcl ?_
                            refine W.eq (g2 := F0 m 283 ls [.ref q9]) rfl ?_
                            refine lv_astore (lv' := [(6, .ref q9), (0, .ref (a 0)), (1, .int p1), (2, .int p2), (3, .int p3), (4, .int p4), (5, .int p5)]) hx hb dL_asks_283 hl (by decide) rfl (fun ls hl => ?_)
                            refine lv_bipush (v := (-108)) hx hb dL_asks_285 (by decide) ?_
                            obtain rfl := Option.some.inj hf
                            refine W.widen (k := 6) (n := 36) (Nat.le_of_ble_eq_true rfl) (Nat.le_of_ble_eq_true rfl) ?_
                            refine vx_ret ?_
                            exact W.iret (v := (-108)) hx hb hr (fun t ht hW => ⟨_, rfl, ⟨rfl, by rw [ht]; exact hP, va_K.moved hW.alike hK, hD, hS.F ht⟩⟩) hS.2.2 dL_asks_287 hlocks
                          replace hf := if_f hk9 hf
                          cases hf
                        obtain ⟨r52, hq9, rfl⟩ := rsI_v h53
                        replace hf := thr_v hf hq9
                        have hP : va_P D vwCl (W_F cI cV vf a x54) H := by rw [hx54]; exact hP
                        have hD : va_D A (W_F cI cV vf a x54) := by rw [hx54]; exact hD
                        refine W.eq (g2 := F0 m 191 ls [.int r52]) rfl ?_
                        refine lv_if_eq (tgt := 198) hx hb dL_asks_191 (by decide) (fun c55 => ?_) (fun c55 => ?_)
                        · replace hf := if_t c55 hf
                          refine lv_iconst (v := 0) hx hb dL_asks_198 (by decide) ?_
                          refine lv_goto (tgt := 277) hx hb dL_asks_199 (by decide) ?_
                          obtain rfl := Option.some.inj hf
                          refine W.widen (k := 6) (n := 36) (Nat.le_of_ble_eq_true rfl) (Nat.le_of_ble_eq_true rfl) ?_
                          refine vx_ret ?_
                          exact W.iret (v := 0) hx hb hr (fun t ht hW => ⟨_, rfl, ⟨rfl, by rw [ht]; exact hP, va_K.moved hW.alike hK, hD, hS.F ht⟩⟩) hS.2.2 dL_asks_277 hlocks
                        · replace hf := if_f c55 hf
                          refine lv_iconst (v := 1) hx hb dL_asks_194 (by decide) ?_
                          refine lv_goto (tgt := 277) hx hb dL_asks_195 (by decide) ?_
                          obtain rfl := Option.some.inj hf
                          refine W.widen (k := 6) (n := 36) (Nat.le_of_ble_eq_true rfl) (Nat.le_of_ble_eq_true rfl) ?_
                          refine vx_ret ?_
                          exact W.iret (v := 1) hx hb hr (fun t ht hW => ⟨_, rfl, ⟨rfl, by rw [ht]; exact hP, va_K.moved hW.alike hK, hD, hS.F ht⟩⟩) hS.2.2 dL_asks_277 hlocks
                    · replace hf := if_t c21 hf
                      refine lv_aload_n hx hb dL_asks_167 rfl (lv_at hl 0 rfl) ?_
                      refine lv_iload_n hx hb dL_asks_168 rfl (lv_at hl 2 rfl) ?_
                      refine lv_iload_n hx hb dL_asks_169 rfl (lv_at hl 3 rfl) ?_
                      refine lv_iload hx hb dL_asks_170 (lv_at hl 4 rfl) ?_
                      refine lv_iload hx hb dL_asks_172 (lv_at hl 5 rfl) ?_
                      obtain ⟨u56, hc57, hf⟩ := bind_t hf
                      try dsimp only at hf
                      obtain ⟨x61, hx61⟩ : ∃ z, z = u56.1 := ⟨_, rfl⟩
                      replace hf := keep_e hf x61 hx61
                      refine k_VX (As := [.int p2, .int p3, .int p4, .int p5]) (rest := []) (n := 4) ⟨hx, hb, hml, hown, hts⟩ (met_X7_claim l hlt k vf a hvf x p2 p3 p4 p5 u56 hc57) w613 w614 w615 w1 w616 ⟨rfl, by decide +kernel, by decide +kernel, by decide +kernel⟩ ⟨Nat.le_of_ble_eq_true rfl, Nat.le_of_ble_eq_true rfl⟩ hK hE hP hD hS hA (isC := [0, 1, 2, 3, 4, 5, 6, 7, 8, 9, 10, 11, 12, 13, 14, 15, 16, 17, 18, 19, 20, 21, 22, 23]) (isR := []) (isB := [0, 1, 2, 3, 4, 5, 6, 7, 8, 9, 10, 11, 12, 13, 14, 15, 16, 17, 18, 19, 20, 21, 22, 23]) (ws' := W_F cI cV vf a u56.1) ⟨([] : List Nat).filterMap (fun i : Nat => (W_F cI cV vf a x : va_W)[i]?), rfl, rfl, rfl, rfl, by decide, rfl, rfl⟩ 0 6 rfl rfl rfl rfl hl.1 rfl (Nat.le_of_ble_eq_true rfl) dL_asks_174 ⟨Nat.le_of_ble_eq_true rfl, Nat.le_of_ble_eq_true rfl⟩ (fun E ce q9 H locs h60 hP hD hS hce hcv hcl => ?_) (fun rv9 H locs h60 hP hD hS => ?_)
                      · obtain ⟨k58, hq9, hE9⟩ := rsI_x h60
                        replace hf := thr_x hf hq9
                        by_cases hk9 : k58 = 0
                        · subst hk9
                          replace hf := if_t rfl hf
                          have hP : va_P D vwCl (W_F cI cV vf a x61) H := by rw [hx61]; exact hP
                          have hD : va_D A (W_F cI cV vf a x61) := by rw [hx61]; exact hD
                          have hE9 : E = "java/lang/IndexOutOfBoundsException" := hE9
                          subst hE9
                          refine vx_catch (own := RL) (name := "java/lang/IndexOutOfBoundsException") hown [] ⟨0, 277, 278, 66⟩ [⟨0, 277, 283, 68⟩] htab (fun _ h => absurd h List.not_mem_nil) (by decide) (by decide) (hg _ w363) (va_Nw.use rfl (hE.1.2.2.2.2.1 _ (List.mem_of_getElem? (i := 0) rfl))) hce hcv hcl ?_
                          refine W.eq (g2 := F0 m 278 ls [.ref q9]) rfl ?_
                          refine lv_astore (lv' := [(6, .ref q9), (0, .ref (a 0)), (1, .int p1), (2, .int p2), (3, .int p3), (4, .int p4), (5, .int p5)]) hx hb dL_asks_278 hl (by decide) rfl (fun ls hl => ?_)
                          refine lv_bipush (v := (-107)) hx hb dL_asks_280 (by decide) ?_
                          obtain rfl := Option.some.inj hf
                          refine vx_ret ?_
                          exact W.iret (v := (-107)) hx hb hr (fun t ht hW => ⟨_, rfl, ⟨rfl, by rw [ht]; exact hP, va_K.moved hW.alike hK, hD, hS.F ht⟩⟩) hS.2.2 dL_asks_282 hlocks
                        replace hf := if_f hk9 hf
                        by_cases hk9 : k58 = 2
                        · subst hk9
                          replace hf := if_t rfl hf
                          have hP : va_P D vwCl (W_F cI cV vf a x61) H := by rw [hx61]; exact hP
                          have hD : va_D A (W_F cI cV vf a x61) := by rw [hx61]; exact hD
                          have hE9 : E = "java/lang/IllegalStateException" := hE9
                          subst hE9
                          refine vx_catch (own := RL) (name := "java/lang/IllegalStateException") hown [⟨0, 277, 278, 66⟩] ⟨0, 277, 283, 68⟩ [] htab (List.forall_mem_cons.mpr ⟨Or.inr ⟨by decide, "java/lang/IndexOutOfBoundsException", hg _ w363, hE.1.2.2.2.2.2.1 _ (List.mem_of_getElem? (i := 2) rfl) _ (List.mem_of_getElem? (i := 0) rfl) (by decide +kernel)⟩, fun _ h => absurd h List.not_mem_nil⟩) (by decide) (by decide) (hg _ w364) (va_Nw.use rfl (hE.1.2.2.2.2.1 _ (List.mem_of_getElem? (i := 2) rfl))) hce hcv hcl ?_
                          refine W.eq (g2 := F0 m 283 ls [.ref q9]) rfl ?_
                          refine lv_astore (lv' := [(6, .ref q9), (0, .ref (a 0)), (1, .int p1), (2, .int p2), (3, .int p3), (4, .int p4), (5, .int p5)]) hx hb dL_asks_283 hl (by decide) rfl (fun ls hl => ?_)
                          refine lv_bipush (v := (-108)) hx hb dL_asks_285 (by decide) ?_
                          obtain rfl := Option.some.inj hf
                          refine vx_ret ?_
                          exact W.iret (v := (-108)) hx hb hr (fun t ht hW => ⟨_, rfl, ⟨rfl, by rw [ht]; exact hP, va_K.moved hW.alike hK, hD, hS.F ht⟩⟩) hS.2.2 dL_asks_287 hlocks
                        replace hf := if_f hk9 hf
                        cases hf
                      obtain ⟨r59, hq9, rfl⟩ := rsI_v h60
                      replace hf := thr_v hf hq9
                      have hP : va_P D vwCl (W_F cI cV vf a x61) H := by rw [hx61]; exact hP
                      have hD : va_D A (W_F cI cV vf a x61) := by rw [hx61]; exact hD
                      refine W.eq (g2 := F0 m 177 ls [.int r59]) rfl ?_
                      refine lv_goto (tgt := 277) hx hb dL_asks_177 (by decide) ?_
                      obtain rfl := Option.some.inj hf
                      refine vx_ret ?_
                      exact W.iret (v := r59) hx hb hr (fun t ht hW => ⟨_, rfl, ⟨rfl, by rw [ht]; exact hP, va_K.moved hW.alike hK, hD, hS.F ht⟩⟩) hS.2.2 dL_asks_277 hlocks
                  · replace hf := if_t c20 hf
                    refine lv_aload_n hx hb dL_asks_142 rfl (lv_at hl 0 rfl) ?_
                    refine lv_iload_n hx hb dL_asks_143 rfl (lv_at hl 2 rfl) ?_
                    refine lv_iload_n hx hb dL_asks_144 rfl (lv_at hl 3 rfl) ?_
                    refine lv_iload hx hb dL_asks_145 (lv_at hl 4 rfl) ?_
                    obtain ⟨u62, hc63, hf⟩ := bind_t hf
                    try dsimp only at hf
                    obtain ⟨x67, hx67⟩ : ∃ z, z = u62.1 := ⟨_, rfl⟩
                    replace hf := keep_e hf x67 hx67
                    refine k_VX (As := [.int p2, .int p3, .int p4]) (rest := []) (n := 3) ⟨hx, hb, hml, hown, hts⟩ (met_X7_done l hlt k vf a hvf x p2 p3 p4 u62 hc63) w609 w610 w611 w1 w612 ⟨rfl, by decide +kernel, by decide +kernel, by decide +kernel⟩ ⟨Nat.le_of_ble_eq_true rfl, Nat.le_of_ble_eq_true rfl⟩ hK hE hP hD hS hA (isC := [0, 1, 2, 3, 4, 5, 6, 7, 8, 9, 10, 11, 12, 13, 14, 15, 16, 17, 18, 19, 20, 21, 22, 23]) (isR := []) (isB := [0, 1, 2, 3, 4, 5, 6, 7, 8, 9, 10, 11, 12, 13, 14, 15, 16, 17, 18, 19, 20, 21, 22, 23]) (ws' := W_F cI cV vf a u62.1) ⟨([] : List Nat).filterMap (fun i : Nat => (W_F cI cV vf a x : va_W)[i]?), rfl, rfl, rfl, rfl, by decide, rfl, rfl⟩ 0 6 rfl rfl rfl rfl hl.1 rfl (Nat.le_of_ble_eq_true rfl) dL_asks_147 ⟨Nat.le_of_ble_eq_true rfl, Nat.le_of_ble_eq_true rfl⟩ (fun E ce q9 H locs h66 hP hD hS hce hcv hcl => ?_) (fun rv9 H locs h66 hP hD hS => ?_)
                    · obtain ⟨k64, hq9, hE9⟩ := rsI_x h66
                      replace hf := thr_x hf hq9
                      by_cases hk9 : k64 = 0
                      · subst hk9
                        replace hf := if_t rfl hf
                        have hP : va_P D vwCl (W_F cI cV vf a x67) H := by rw [hx67]; exact hP
                        have hD : va_D A (W_F cI cV vf a x67) := by rw [hx67]; exact hD
                        have hE9 : E = "java/lang/IndexOutOfBoundsException" := hE9
                        subst hE9
                        refine vx_catch (own := RL) (name := "java/lang/IndexOutOfBoundsException") hown [] ⟨0, 277, 278, 66⟩ [⟨0, 277, 283, 68⟩] htab (fun _ h => absurd h List.not_mem_nil) (by decide) (by decide) (hg _ w363) (va_Nw.use rfl (hE.1.2.2.2.2.1 _ (List.mem_of_getElem? (i := 0) rfl))) hce hcv hcl ?_
                        refine W.eq (g2 := F0 m 278 ls [.ref q9]) rfl ?_
                        refine lv_astore (lv' := [(6, .ref q9), (0, .ref (a 0)), (1, .int p1), (2, .int p2), (3, .int p3), (4, .int p4), (5, .int p5)]) hx hb dL_asks_278 hl (by decide) rfl (fun ls hl => ?_)
                        refine lv_bipush (v := (-107)) hx hb dL_asks_280 (by decide) ?_
                        obtain rfl := Option.some.inj hf
                        refine W.widen (k := 6) (n := 36) (Nat.le_of_ble_eq_true rfl) (Nat.le_of_ble_eq_true rfl) ?_
                        refine vx_ret ?_
                        exact W.iret (v := (-107)) hx hb hr (fun t ht hW => ⟨_, rfl, ⟨rfl, by rw [ht]; exact hP, va_K.moved hW.alike hK, hD, hS.F ht⟩⟩) hS.2.2 dL_asks_282 hlocks
                      replace hf := if_f hk9 hf
                      by_cases hk9 : k64 = 2
                      · subst hk9
                        replace hf := if_t rfl hf
                        have hP : va_P D vwCl (W_F cI cV vf a x67) H := by rw [hx67]; exact hP
                        have hD : va_D A (W_F cI cV vf a x67) := by rw [hx67]; exact hD
                        have hE9 : E = "java/lang/IllegalStateException" := hE9
                        subst hE9
                        refine vx_catch (own := RL) (name := "java/lang/IllegalStateException") hown [⟨0, 277, 278, 66⟩] ⟨0, 277, 283, 68⟩ [] htab (List.forall_mem_cons.mpr ⟨Or.inr ⟨by decide, "java/lang/IndexOutOfBoundsException", hg _ w363, hE.1.2.2.2.2.2.1 _ (List.mem_of_getElem? (i := 2) rfl) _ (List.mem_of_getElem? (i := 0) rfl) (by decide +kernel)⟩, fun _ h => absurd h List.not_mem_nil⟩) (by decide) (by decide) (hg _ w364) (va_Nw.use rfl (hE.1.2.2.2.2.1 _ (List.mem_of_getElem? (i := 2) rfl))) hce hcv hcl ?_
                        refine W.eq (g2 := F0 m 283 ls [.ref q9]) rfl ?_
                        refine lv_astore (lv' := [(6, .ref q9), (0, .ref (a 0)), (1, .int p1), (2, .int p2), (3, .int p3), (4, .int p4), (5, .int p5)]) hx hb dL_asks_283 hl (by decide) rfl (fun ls hl => ?_)
                        refine lv_bipush (v := (-108)) hx hb dL_asks_285 (by decide) ?_
                        obtain rfl := Option.some.inj hf
                        refine W.widen (k := 6) (n := 36) (Nat.le_of_ble_eq_true rfl) (Nat.le_of_ble_eq_true rfl) ?_
                        refine vx_ret ?_
                        exact W.iret (v := (-108)) hx hb hr (fun t ht hW => ⟨_, rfl, ⟨rfl, by rw [ht]; exact hP, va_K.moved hW.alike hK, hD, hS.F ht⟩⟩) hS.2.2 dL_asks_287 hlocks
                      replace hf := if_f hk9 hf
                      cases hf
                    obtain ⟨r65, hq9, rfl⟩ := rsI_v h66
                    replace hf := thr_v hf hq9
                    have hP : va_P D vwCl (W_F cI cV vf a x67) H := by rw [hx67]; exact hP
                    have hD : va_D A (W_F cI cV vf a x67) := by rw [hx67]; exact hD
                    refine W.eq (g2 := F0 m 150 ls [.int r65]) rfl ?_
                    refine lv_if_eq (tgt := 157) hx hb dL_asks_150 (by decide) (fun c68 => ?_) (fun c68 => ?_)
                    · replace hf := if_t c68 hf
                      refine lv_iconst (v := 0) hx hb dL_asks_157 (by decide) ?_
                      refine lv_goto (tgt := 277) hx hb dL_asks_158 (by decide) ?_
                      obtain rfl := Option.some.inj hf
                      refine W.widen (k := 6) (n := 36) (Nat.le_of_ble_eq_true rfl) (Nat.le_of_ble_eq_true rfl) ?_
                      refine vx_ret ?_
                      exact W.iret (v := 0) hx hb hr (fun t ht hW => ⟨_, rfl, ⟨rfl, by rw [ht]; exact hP, va_K.moved hW.alike hK, hD, hS.F ht⟩⟩) hS.2.2 dL_asks_277 hlocks
                    · replace hf := if_f c68 hf
                      refine lv_iconst (v := 1) hx hb dL_asks_153 (by decide) ?_
                      refine lv_goto (tgt := 277) hx hb dL_asks_154 (by decide) ?_
                      obtain rfl := Option.some.inj hf
                      refine W.widen (k := 6) (n := 36) (Nat.le_of_ble_eq_true rfl) (Nat.le_of_ble_eq_true rfl) ?_
                      refine vx_ret ?_
                      exact W.iret (v := 1) hx hb hr (fun t ht hW => ⟨_, rfl, ⟨rfl, by rw [ht]; exact hP, va_K.moved hW.alike hK, hD, hS.F ht⟩⟩) hS.2.2 dL_asks_277 hlocks
                · replace hf := if_t c19 hf
                  refine lv_aload_n hx hb dL_asks_125 rfl (lv_at hl 0 rfl) ?_
                  refine lv_iload_n hx hb dL_asks_126 rfl (lv_at hl 2 rfl) ?_
                  refine lv_iload_n hx hb dL_asks_127 rfl (lv_at hl 3 rfl) ?_
                  refine lv_iload hx hb dL_asks_128 (lv_at hl 4 rfl) ?_
                  obtain ⟨u69, hc70, hf⟩ := bind_t hf
                  try dsimp only at hf
                  obtain ⟨x74, hx74⟩ : ∃ z, z = u69.1 := ⟨_, rfl⟩
                  replace hf := keep_e hf x74 hx74
                  refine k_VX (As := [.int p2, .int p3, .int p4]) (rest := []) (n := 3) ⟨hx, hb, hml, hown, hts⟩ (met_X7_read l hlt k vf a hvf x p2 p3 p4 u69 hc70) w596 w597 w598 w1 w599 ⟨rfl, by decide +kernel, by decide +kernel, by decide +kernel⟩ ⟨Nat.le_of_ble_eq_true rfl, Nat.le_of_ble_eq_true rfl⟩ hK hE hP hD hS hA (isC := [0, 1, 2, 3, 4, 5, 6, 7, 8, 9, 10, 11, 12, 13, 14, 15, 16, 17, 18, 19, 20, 21, 22, 23]) (isR := []) (isB := [0, 1, 2, 3, 4, 5, 6, 7, 8, 9, 10, 11, 12, 13, 14, 15, 16, 17, 18, 19, 20, 21, 22, 23]) (ws' := W_F cI cV vf a u69.1) ⟨([] : List Nat).filterMap (fun i : Nat => (W_F cI cV vf a x : va_W)[i]?), rfl, rfl, rfl, rfl, by decide, rfl, rfl⟩ 0 6 rfl rfl rfl rfl hl.1 rfl (Nat.le_of_ble_eq_true rfl) dL_asks_130 ⟨Nat.le_of_ble_eq_true rfl, Nat.le_of_ble_eq_true rfl⟩ (fun E ce q9 H locs h73 hP hD hS hce hcv hcl => ?_) (fun rv9 H locs h73 hP hD hS => ?_)
                  · obtain ⟨k71, hq9, hE9⟩ := rsI_x h73
                    replace hf := thr_x hf hq9
                    by_cases hk9 : k71 = 0
                    · subst hk9
                      replace hf := if_t rfl hf
                      have hP : va_P D vwCl (W_F cI cV vf a x74) H := by rw [hx74]; exact hP
                      have hD : va_D A (W_F cI cV vf a x74) := by rw [hx74]; exact hD
                      have hE9 : E = "java/lang/IndexOutOfBoundsException" := hE9
                      subst hE9
                      refine vx_catch (own := RL) (name := "java/lang/IndexOutOfBoundsException") hown [] ⟨0, 277, 278, 66⟩ [⟨0, 277, 283, 68⟩] htab (fun _ h => absurd h List.not_mem_nil) (by decide) (by decide) (hg _ w363) (va_Nw.use rfl (hE.1.2.2.2.2.1 _ (List.mem_of_getElem? (i := 0) rfl))) hce hcv hcl ?_
                      refine W.eq (g2 := F0 m 278 ls [.ref q9]) rfl ?_
                      refine lv_astore (lv' := [(6, .ref q9), (0, .ref (a 0)), (1, .int p1), (2, .int p2), (3, .int p3), (4, .int p4), (5, .int p5)]) hx hb dL_asks_278 hl (by decide) rfl (fun ls hl => ?_)
                      refine lv_bipush (v := (-107)) hx hb dL_asks_280 (by decide) ?_
                      obtain rfl := Option.some.inj hf
                      refine W.widen (k := 6) (n := 36) (Nat.le_of_ble_eq_true rfl) (Nat.le_of_ble_eq_true rfl) ?_
                      refine vx_ret ?_
                      exact W.iret (v := (-107)) hx hb hr (fun t ht hW => ⟨_, rfl, ⟨rfl, by rw [ht]; exact hP, va_K.moved hW.alike hK, hD, hS.F ht⟩⟩) hS.2.2 dL_asks_282 hlocks
                    replace hf := if_f hk9 hf
                    by_cases hk9 : k71 = 2
                    · subst hk9
                      replace hf := if_t rfl hf
                      have hP : va_P D vwCl (W_F cI cV vf a x74) H := by rw [hx74]; exact hP
                      have hD : va_D A (W_F cI cV vf a x74) := by rw [hx74]; exact hD
                      have hE9 : E = "java/lang/IllegalStateException" := hE9
                      subst hE9
                      refine vx_catch (own := RL) (name := "java/lang/IllegalStateException") hown [⟨0, 277, 278, 66⟩] ⟨0, 277, 283, 68⟩ [] htab (List.forall_mem_cons.mpr ⟨Or.inr ⟨by decide, "java/lang/IndexOutOfBoundsException", hg _ w363, hE.1.2.2.2.2.2.1 _ (List.mem_of_getElem? (i := 2) rfl) _ (List.mem_of_getElem? (i := 0) rfl) (by decide +kernel)⟩, fun _ h => absurd h List.not_mem_nil⟩) (by decide) (by decide) (hg _ w364) (va_Nw.use rfl (hE.1.2.2.2.2.1 _ (List.mem_of_getElem? (i := 2) rfl))) hce hcv hcl ?_
                      refine W.eq (g2 := F0 m 283 ls [.ref q9]) rfl ?_
                      refine lv_astore (lv' := [(6, .ref q9), (0, .ref (a 0)), (1, .int p1), (2, .int p2), (3, .int p3), (4, .int p4), (5, .int p5)]) hx hb dL_asks_283 hl (by decide) rfl (fun ls hl => ?_)
                      refine lv_bipush (v := (-108)) hx hb dL_asks_285 (by decide) ?_
                      obtain rfl := Option.some.inj hf
                      refine W.widen (k := 6) (n := 36) (Nat.le_of_ble_eq_true rfl) (Nat.le_of_ble_eq_true rfl) ?_
                      refine vx_ret ?_
                      exact W.iret (v := (-108)) hx hb hr (fun t ht hW => ⟨_, rfl, ⟨rfl, by rw [ht]; exact hP, va_K.moved hW.alike hK, hD, hS.F ht⟩⟩) hS.2.2 dL_asks_287 hlocks
                    replace hf := if_f hk9 hf
                    cases hf
                  obtain ⟨r72, hq9, rfl⟩ := rsI_v h73
                  replace hf := thr_v hf hq9
                  have hP : va_P D vwCl (W_F cI cV vf a x74) H := by rw [hx74]; exact hP
                  have hD : va_D A (W_F cI cV vf a x74) := by rw [hx74]; exact hD
                  refine W.eq (g2 := F0 m 133 ls [.int r72]) rfl ?_
                  refine lv_goto (tgt := 277) hx hb dL_asks_133 (by decide) ?_
                  obtain rfl := Option.some.inj hf
                  refine W.widen (k := 6) (n := 36) (Nat.le_of_ble_eq_true rfl) (Nat.le_of_ble_eq_true rfl) ?_
                  refine vx_ret ?_
                  exact W.iret (v := r72) hx hb hr (fun t ht hW => ⟨_, rfl, ⟨rfl, by rw [ht]; exact hP, va_K.moved hW.alike hK, hD, hS.F ht⟩⟩) hS.2.2 dL_asks_277 hlocks
              · replace hf := if_t c18 hf
                refine lv_aload_n hx hb dL_asks_110 rfl (lv_at hl 0 rfl) ?_
                refine lv_iload_n hx hb dL_asks_111 rfl (lv_at hl 2 rfl) ?_
                refine lv_iload_n hx hb dL_asks_112 rfl (lv_at hl 3 rfl) ?_
                obtain ⟨u75, hc76, hf⟩ := bind_t hf
                try dsimp only at hf
                obtain ⟨x80, hx80⟩ : ∃ z, z = u75.1 := ⟨_, rfl⟩
                replace hf := keep_e hf x80 hx80
                refine k_VX (As := [.int p2, .int p3]) (rest := []) (n := 2) ⟨hx, hb, hml, hown, hts⟩ (met_X7_append l hlt k vf a hvf x p2 p3 u75 hc76) w592 w593 w594 w1 w595 ⟨rfl, by decide +kernel, by decide +kernel, by decide +kernel⟩ ⟨Nat.le_of_ble_eq_true rfl, Nat.le_of_ble_eq_true rfl⟩ hK hE hP hD hS hA (isC := [0, 1, 2, 3, 4, 5, 6, 7, 8, 9, 10, 11, 12, 13, 14, 15, 16, 17, 18, 19, 20, 21, 22, 23]) (isR := []) (isB := [0, 1, 2, 3, 4, 5, 6, 7, 8, 9, 10, 11, 12, 13, 14, 15, 16, 17, 18, 19, 20, 21, 22, 23]) (ws' := W_F cI cV vf a u75.1) ⟨([] : List Nat).filterMap (fun i : Nat => (W_F cI cV vf a x : va_W)[i]?), rfl, rfl, rfl, rfl, by decide, rfl, rfl⟩ 0 6 rfl rfl rfl rfl hl.1 rfl (Nat.le_of_ble_eq_true rfl) dL_asks_113 ⟨Nat.le_of_ble_eq_true rfl, Nat.le_of_ble_eq_true rfl⟩ (fun E ce q9 H locs h79 hP hD hS hce hcv hcl => ?_) (fun rv9 H locs h79 hP hD hS => ?_)
                · obtain ⟨k77, hq9, hE9⟩ := rsI_x h79
                  replace hf := thr_x hf hq9
                  by_cases hk9 : k77 = 0
                  · subst hk9
                    replace hf := if_t rfl hf
                    have hP : va_P D vwCl (W_F cI cV vf a x80) H := by rw [hx80]; exact hP
                    have hD : va_D A (W_F cI cV vf a x80) := by rw [hx80]; exact hD
                    have hE9 : E = "java/lang/IndexOutOfBoundsException" := hE9
                    subst hE9
                    refine vx_catch (own := RL) (name := "java/lang/IndexOutOfBoundsException") hown [] ⟨0, 277, 278, 66⟩ [⟨0, 277, 283, 68⟩] htab (fun _ h => absurd h List.not_mem_nil) (by decide) (by decide) (hg _ w363) (va_Nw.use rfl (hE.1.2.2.2.2.1 _ (List.mem_of_getElem? (i := 0) rfl))) hce hcv hcl ?_
                    refine W.eq (g2 := F0 m 278 ls [.ref q9]) rfl ?_
                    refine lv_astore (lv' := [(6, .ref q9), (0, .ref (a 0)), (1, .int p1), (2, .int p2), (3, .int p3), (4, .int p4), (5, .int p5)]) hx hb dL_asks_278 hl (by decide) rfl (fun ls hl => ?_)
                    refine lv_bipush (v := (-107)) hx hb dL_asks_280 (by decide) ?_
                    obtain rfl := Option.some.inj hf
                    refine W.widen (k := 6) (n := 36) (Nat.le_of_ble_eq_true rfl) (Nat.le_of_ble_eq_true rfl) ?_
                    refine vx_ret ?_
                    exact W.iret (v := (-107)) hx hb hr (fun t ht hW => ⟨_, rfl, ⟨rfl, by rw [ht]; exact hP, va_K.moved hW.alike hK, hD, hS.F ht⟩⟩) hS.2.2 dL_asks_282 hlocks
                  replace hf := if_f hk9 hf
                  by_cases hk9 : k77 = 2
                  · subst hk9
                    replace hf := if_t rfl hf
                    have hP : va_P D vwCl (W_F cI cV vf a x80) H := by rw [hx80]; exact hP
                    have hD : va_D A (W_F cI cV vf a x80) := by rw [hx80]; exact hD
                    have hE9 : E = "java/lang/IllegalStateException" := hE9
                    subst hE9
                    refine vx_catch (own := RL) (name := "java/lang/IllegalStateException") hown [⟨0, 277, 278, 66⟩] ⟨0, 277, 283, 68⟩ [] htab (List.forall_mem_cons.mpr ⟨Or.inr ⟨by decide, "java/lang/IndexOutOfBoundsException", hg _ w363, hE.1.2.2.2.2.2.1 _ (List.mem_of_getElem? (i := 2) rfl) _ (List.mem_of_getElem? (i := 0) rfl) (by decide +kernel)⟩, fun _ h => absurd h List.not_mem_nil⟩) (by decide) (by decide) (hg _ w364) (va_Nw.use rfl (hE.1.2.2.2.2.1 _ (List.mem_of_getElem? (i := 2) rfl))) hce hcv hcl ?_
                    refine W.eq (g2 := F0 m 283 ls [.ref q9]) rfl ?_
                    refine lv_astore (lv' := [(6, .ref q9), (0, .ref (a 0)), (1, .int p1), (2, .int p2), (3, .int p3), (4, .int p4), (5, .int p5)]) hx hb dL_asks_283 hl (by decide) rfl (fun ls hl => ?_)
                    refine lv_bipush (v := (-108)) hx hb dL_asks_285 (by decide) ?_
                    obtain rfl := Option.some.inj hf
                    refine W.widen (k := 6) (n := 36) (Nat.le_of_ble_eq_true rfl) (Nat.le_of_ble_eq_true rfl) ?_
                    refine vx_ret ?_
                    exact W.iret (v := (-108)) hx hb hr (fun t ht hW => ⟨_, rfl, ⟨rfl, by rw [ht]; exact hP, va_K.moved hW.alike hK, hD, hS.F ht⟩⟩) hS.2.2 dL_asks_287 hlocks
                  replace hf := if_f hk9 hf
                  cases hf
                obtain ⟨r78, hq9, rfl⟩ := rsI_v h79
                replace hf := thr_v hf hq9
                have hP : va_P D vwCl (W_F cI cV vf a x80) H := by rw [hx80]; exact hP
                have hD : va_D A (W_F cI cV vf a x80) := by rw [hx80]; exact hD
                refine W.eq (g2 := F0 m 116 ls [.int r78]) rfl ?_
                refine lv_goto (tgt := 277) hx hb dL_asks_116 (by decide) ?_
                obtain rfl := Option.some.inj hf
                refine W.widen (k := 6) (n := 36) (Nat.le_of_ble_eq_true rfl) (Nat.le_of_ble_eq_true rfl) ?_
                refine vx_ret ?_
                exact W.iret (v := r78) hx hb hr (fun t ht hW => ⟨_, rfl, ⟨rfl, by rw [ht]; exact hP, va_K.moved hW.alike hK, hD, hS.F ht⟩⟩) hS.2.2 dL_asks_277 hlocks
            · replace hf := if_t c17 hf
              refine lv_aload_n hx hb dL_asks_94 rfl (lv_at hl 0 rfl) ?_
              refine lv_iload_n hx hb dL_asks_95 rfl (lv_at hl 2 rfl) ?_
              refine lv_iload_n hx hb dL_asks_96 rfl (lv_at hl 3 rfl) ?_
              refine lv_iload hx hb dL_asks_97 (lv_at hl 4 rfl) ?_
              obtain ⟨u81, hc82, hf⟩ := bind_t hf
              try dsimp only at hf
              obtain ⟨x86, hx86⟩ : ∃ z, z = u81.1 := ⟨_, rfl⟩
              replace hf := keep_e hf x86 hx86
              refine k_VX (As := [.int p2, .int p3, .int p4]) (rest := []) (n := 3) ⟨hx, hb, hml, hown, hts⟩ (met_X7_rate l hlt k vf a hvf x p2 p3 p4 u81 hc82) w585 w586 w587 w1 w588 ⟨rfl, by decide +kernel, by decide +kernel, by decide +kernel⟩ ⟨Nat.le_of_ble_eq_true rfl, Nat.le_of_ble_eq_true rfl⟩ hK hE hP hD hS hA (isC := [0, 1, 2, 3, 4, 5, 6, 7, 8, 9, 10, 11, 12, 13, 14, 15, 16, 17, 18, 19, 20, 21, 22, 23]) (isR := []) (isB := [0, 1, 2, 3, 4, 5, 6, 7, 8, 9, 10, 11, 12, 13, 14, 15, 16, 17, 18, 19, 20, 21, 22, 23]) (ws' := W_F cI cV vf a u81.1) ⟨([] : List Nat).filterMap (fun i : Nat => (W_F cI cV vf a x : va_W)[i]?), rfl, rfl, rfl, rfl, by decide, rfl, rfl⟩ 0 6 rfl rfl rfl rfl hl.1 rfl (Nat.le_of_ble_eq_true rfl) dL_asks_99 ⟨Nat.le_of_ble_eq_true rfl, Nat.le_of_ble_eq_true rfl⟩ (fun E ce q9 H locs h85 hP hD hS hce hcv hcl => ?_) (fun rv9 H locs h85 hP hD hS => ?_)
              · obtain ⟨k83, hq9, hE9⟩ := rsI_x h85
                replace hf := thr_x hf hq9
                by_cases hk9 : k83 = 0
                · subst hk9
                  replace hf := if_t rfl hf
                  have hP : va_P D vwCl (W_F cI cV vf a x86) H := by rw [hx86]; exact hP
                  have hD : va_D A (W_F cI cV vf a x86) := by rw [hx86]; exact hD
                  have hE9 : E = "java/lang/IndexOutOfBoundsException" := hE9
                  subst hE9
                  refine vx_catch (own := RL) (name := "java/lang/IndexOutOfBoundsException") hown [] ⟨0, 277, 278, 66⟩ [⟨0, 277, 283, 68⟩] htab (fun _ h => absurd h List.not_mem_nil) (by decide) (by decide) (hg _ w363) (va_Nw.use rfl (hE.1.2.2.2.2.1 _ (List.mem_of_getElem? (i := 0) rfl))) hce hcv hcl ?_
                  refine W.eq (g2 := F0 m 278 ls [.ref q9]) rfl ?_
                  refine lv_astore (lv' := [(6, .ref q9), (0, .ref (a 0)), (1, .int p1), (2, .int p2), (3, .int p3), (4, .int p4), (5, .int p5)]) hx hb dL_asks_278 hl (by decide) rfl (fun ls hl => ?_)
                  refine lv_bipush (v := (-107)) hx hb dL_asks_280 (by decide) ?_
                  obtain rfl := Option.some.inj hf
                  refine W.widen (k := 6) (n := 36) (Nat.le_of_ble_eq_true rfl) (Nat.le_of_ble_eq_true rfl) ?_
                  refine vx_ret ?_
                  exact W.iret (v := (-107)) hx hb hr (fun t ht hW => ⟨_, rfl, ⟨rfl, by rw [ht]; exact hP, va_K.moved hW.alike hK, hD, hS.F ht⟩⟩) hS.2.2 dL_asks_282 hlocks
                replace hf := if_f hk9 hf
                by_cases hk9 : k83 = 2
                · subst hk9
                  replace hf := if_t rfl hf
                  have hP : va_P D vwCl (W_F cI cV vf a x86) H := by rw [hx86]; exact hP
                  have hD : va_D A (W_F cI cV vf a x86) := by rw [hx86]; exact hD
                  have hE9 : E = "java/lang/IllegalStateException" := hE9
                  subst hE9
                  refine vx_catch (own := RL) (name := "java/lang/IllegalStateException") hown [⟨0, 277, 278, 66⟩] ⟨0, 277, 283, 68⟩ [] htab (List.forall_mem_cons.mpr ⟨Or.inr ⟨by decide, "java/lang/IndexOutOfBoundsException", hg _ w363, hE.1.2.2.2.2.2.1 _ (List.mem_of_getElem? (i := 2) rfl) _ (List.mem_of_getElem? (i := 0) rfl) (by decide +kernel)⟩, fun _ h => absurd h List.not_mem_nil⟩) (by decide) (by decide) (hg _ w364) (va_Nw.use rfl (hE.1.2.2.2.2.1 _ (List.mem_of_getElem? (i := 2) rfl))) hce hcv hcl ?_
                  refine W.eq (g2 := F0 m 283 ls [.ref q9]) rfl ?_
                  refine lv_astore (lv' := [(6, .ref q9), (0, .ref (a 0)), (1, .int p1), (2, .int p2), (3, .int p3), (4, .int p4), (5, .int p5)]) hx hb dL_asks_283 hl (by decide) rfl (fun ls hl => ?_)
                  refine lv_bipush (v := (-108)) hx hb dL_asks_285 (by decide) ?_
                  obtain rfl := Option.some.inj hf
                  refine W.widen (k := 6) (n := 36) (Nat.le_of_ble_eq_true rfl) (Nat.le_of_ble_eq_true rfl) ?_
                  refine vx_ret ?_
                  exact W.iret (v := (-108)) hx hb hr (fun t ht hW => ⟨_, rfl, ⟨rfl, by rw [ht]; exact hP, va_K.moved hW.alike hK, hD, hS.F ht⟩⟩) hS.2.2 dL_asks_287 hlocks
                replace hf := if_f hk9 hf
                cases hf
              obtain ⟨r84, hq9, rfl⟩ := rsI_v h85
              replace hf := thr_v hf hq9
              have hP : va_P D vwCl (W_F cI cV vf a x86) H := by rw [hx86]; exact hP
              have hD : va_D A (W_F cI cV vf a x86) := by rw [hx86]; exact hD
              refine W.eq (g2 := F0 m 102 ls [.int r84]) rfl ?_
              refine lv_goto (tgt := 277) hx hb dL_asks_102 (by decide) ?_
              obtain rfl := Option.some.inj hf
              refine W.widen (k := 6) (n := 36) (Nat.le_of_ble_eq_true rfl) (Nat.le_of_ble_eq_true rfl) ?_
              refine vx_ret ?_
              exact W.iret (v := r84) hx hb hr (fun t ht hW => ⟨_, rfl, ⟨rfl, by rw [ht]; exact hP, va_K.moved hW.alike hK, hD, hS.F ht⟩⟩) hS.2.2 dL_asks_277 hlocks
          · replace hf := if_t c16 hf
            refine lv_aload_n hx hb dL_asks_72 rfl (lv_at hl 0 rfl) ?_
            refine lv_iload_n hx hb dL_asks_73 rfl (lv_at hl 2 rfl) ?_
            refine lv_iload_n hx hb dL_asks_74 rfl (lv_at hl 3 rfl) ?_
            obtain ⟨u87, hc88, hf⟩ := bind_t hf
            try dsimp only at hf
            obtain ⟨x92, hx92⟩ : ∃ z, z = u87.1 := ⟨_, rfl⟩
            replace hf := keep_e hf x92 hx92
            refine k_VX (As := [.int p2, .int p3]) (rest := []) (n := 2) ⟨hx, hb, hml, hown, hts⟩ (met_X7_take l hlt k vf a hvf x p2 p3 u87 hc88) w581 w582 w583 w1 w584 ⟨rfl, by decide +kernel, by decide +kernel, by decide +kernel⟩ ⟨Nat.le_of_ble_eq_true rfl, Nat.le_of_ble_eq_true rfl⟩ hK hE hP hD hS hA (isC := [0, 1, 2, 3, 4, 5, 6, 7, 8, 9, 10, 11, 12, 13, 14, 15, 16, 17, 18, 19, 20, 21, 22, 23]) (isR := []) (isB := [0, 1, 2, 3, 4, 5, 6, 7, 8, 9, 10, 11, 12, 13, 14, 15, 16, 17, 18, 19, 20, 21, 22, 23]) (ws' := W_F cI cV vf a u87.1) ⟨([] : List Nat).filterMap (fun i : Nat => (W_F cI cV vf a x : va_W)[i]?), rfl, rfl, rfl, rfl, by decide, rfl, rfl⟩ 0 6 rfl rfl rfl rfl hl.1 rfl (Nat.le_of_ble_eq_true rfl) dL_asks_75 ⟨Nat.le_of_ble_eq_true rfl, Nat.le_of_ble_eq_true rfl⟩ (fun E ce q9 H locs h91 hP hD hS hce hcv hcl => ?_) (fun rv9 H locs h91 hP hD hS => ?_)
            · obtain ⟨k89, hq9, hE9⟩ := rsI_x h91
              replace hf := thr_x hf hq9
              by_cases hk9 : k89 = 0
              · subst hk9
                replace hf := if_t rfl hf
                have hP : va_P D vwCl (W_F cI cV vf a x92) H := by rw [hx92]; exact hP
                have hD : va_D A (W_F cI cV vf a x92) := by rw [hx92]; exact hD
                have hE9 : E = "java/lang/IndexOutOfBoundsException" := hE9
                subst hE9
                refine vx_catch (own := RL) (name := "java/lang/IndexOutOfBoundsException") hown [] ⟨0, 277, 278, 66⟩ [⟨0, 277, 283, 68⟩] htab (fun _ h => absurd h List.not_mem_nil) (by decide) (by decide) (hg _ w363) (va_Nw.use rfl (hE.1.2.2.2.2.1 _ (List.mem_of_getElem? (i := 0) rfl))) hce hcv hcl ?_
                refine W.eq (g2 := F0 m 278 ls [.ref q9]) rfl ?_
                refine lv_astore (lv' := [(6, .ref q9), (0, .ref (a 0)), (1, .int p1), (2, .int p2), (3, .int p3), (4, .int p4), (5, .int p5)]) hx hb dL_asks_278 hl (by decide) rfl (fun ls hl => ?_)
                refine lv_bipush (v := (-107)) hx hb dL_asks_280 (by decide) ?_
                obtain rfl := Option.some.inj hf
                refine W.widen (k := 6) (n := 36) (Nat.le_of_ble_eq_true rfl) (Nat.le_of_ble_eq_true rfl) ?_
                refine vx_ret ?_
                exact W.iret (v := (-107)) hx hb hr (fun t ht hW => ⟨_, rfl, ⟨rfl, by rw [ht]; exact hP, va_K.moved hW.alike hK, hD, hS.F ht⟩⟩) hS.2.2 dL_asks_282 hlocks
              replace hf := if_f hk9 hf
              by_cases hk9 : k89 = 2
              · subst hk9
                replace hf := if_t rfl hf
                have hP : va_P D vwCl (W_F cI cV vf a x92) H := by rw [hx92]; exact hP
                have hD : va_D A (W_F cI cV vf a x92) := by rw [hx92]; exact hD
                have hE9 : E = "java/lang/IllegalStateException" := hE9
                subst hE9
                refine vx_catch (own := RL) (name := "java/lang/IllegalStateException") hown [⟨0, 277, 278, 66⟩] ⟨0, 277, 283, 68⟩ [] htab (List.forall_mem_cons.mpr ⟨Or.inr ⟨by decide, "java/lang/IndexOutOfBoundsException", hg _ w363, hE.1.2.2.2.2.2.1 _ (List.mem_of_getElem? (i := 2) rfl) _ (List.mem_of_getElem? (i := 0) rfl) (by decide +kernel)⟩, fun _ h => absurd h List.not_mem_nil⟩) (by decide) (by decide) (hg _ w364) (va_Nw.use rfl (hE.1.2.2.2.2.1 _ (List.mem_of_getElem? (i := 2) rfl))) hce hcv hcl ?_
                refine W.eq (g2 := F0 m 283 ls [.ref q9]) rfl ?_
                refine lv_astore (lv' := [(6, .ref q9), (0, .ref (a 0)), (1, .int p1), (2, .int p2), (3, .int p3), (4, .int p4), (5, .int p5)]) hx hb dL_asks_283 hl (by decide) rfl (fun ls hl => ?_)
                refine lv_bipush (v := (-108)) hx hb dL_asks_285 (by decide) ?_
                obtain rfl := Option.some.inj hf
                refine W.widen (k := 6) (n := 36) (Nat.le_of_ble_eq_true rfl) (Nat.le_of_ble_eq_true rfl) ?_
                refine vx_ret ?_
                exact W.iret (v := (-108)) hx hb hr (fun t ht hW => ⟨_, rfl, ⟨rfl, by rw [ht]; exact hP, va_K.moved hW.alike hK, hD, hS.F ht⟩⟩) hS.2.2 dL_asks_287 hlocks
              replace hf := if_f hk9 hf
              cases hf
            obtain ⟨r90, hq9, rfl⟩ := rsI_v h91
            replace hf := thr_v hf hq9
            have hP : va_P D vwCl (W_F cI cV vf a x92) H := by rw [hx92]; exact hP
            have hD : va_D A (W_F cI cV vf a x92) := by rw [hx92]; exact hD
            refine W.eq (g2 := F0 m 78 ls [.int r90]) rfl ?_
            refine lv_if_eq (tgt := 85) hx hb dL_asks_78 (by decide) (fun c93 => ?_) (fun c93 => ?_)
            · replace hf := if_t c93 hf
              refine lv_iconst (v := 0) hx hb dL_asks_85 (by decide) ?_
              refine lv_goto (tgt := 277) hx hb dL_asks_86 (by decide) ?_
              obtain rfl := Option.some.inj hf
              refine W.widen (k := 6) (n := 36) (Nat.le_of_ble_eq_true rfl) (Nat.le_of_ble_eq_true rfl) ?_
              refine vx_ret ?_
              exact W.iret (v := 0) hx hb hr (fun t ht hW => ⟨_, rfl, ⟨rfl, by rw [ht]; exact hP, va_K.moved hW.alike hK, hD, hS.F ht⟩⟩) hS.2.2 dL_asks_277 hlocks
            · replace hf := if_f c93 hf
              refine lv_iconst (v := 1) hx hb dL_asks_81 (by decide) ?_
              refine lv_goto (tgt := 277) hx hb dL_asks_82 (by decide) ?_
              obtain rfl := Option.some.inj hf
              refine W.widen (k := 6) (n := 36) (Nat.le_of_ble_eq_true rfl) (Nat.le_of_ble_eq_true rfl) ?_
              refine vx_ret ?_
              exact W.iret (v := 1) hx hb hr (fun t ht hW => ⟨_, rfl, ⟨rfl, by rw [ht]; exact hP, va_K.moved hW.alike hK, hD, hS.F ht⟩⟩) hS.2.2 dL_asks_277 hlocks
        · replace hf := if_t c15 hf
          refine lv_aload_n hx hb dL_asks_50 rfl (lv_at hl 0 rfl) ?_
          refine lv_iload_n hx hb dL_asks_51 rfl (lv_at hl 2 rfl) ?_
          refine lv_iload_n hx hb dL_asks_52 rfl (lv_at hl 3 rfl) ?_
          obtain ⟨u94, hc95, hf⟩ := bind_t hf
          try dsimp only at hf
          obtain ⟨x99, hx99⟩ : ∃ z, z = u94.1 := ⟨_, rfl⟩
          replace hf := keep_e hf x99 hx99
          refine k_VX (As := [.int p2, .int p3]) (rest := []) (n := 2) ⟨hx, hb, hml, hown, hts⟩ (met_X7_add l hlt k vf a hvf x p2 p3 u94 hc95) w577 w578 w579 w1 w580 ⟨rfl, by decide +kernel, by decide +kernel, by decide +kernel⟩ ⟨Nat.le_of_ble_eq_true rfl, Nat.le_of_ble_eq_true rfl⟩ hK hE hP hD hS hA (isC := [0, 1, 2, 3, 4, 5, 6, 7, 8, 9, 10, 11, 12, 13, 14, 15, 16, 17, 18, 19, 20, 21, 22, 23]) (isR := []) (isB := [0, 1, 2, 3, 4, 5, 6, 7, 8, 9, 10, 11, 12, 13, 14, 15, 16, 17, 18, 19, 20, 21, 22, 23]) (ws' := W_F cI cV vf a u94.1) ⟨([] : List Nat).filterMap (fun i : Nat => (W_F cI cV vf a x : va_W)[i]?), rfl, rfl, rfl, rfl, by decide, rfl, rfl⟩ 0 6 rfl rfl rfl rfl hl.1 rfl (Nat.le_of_ble_eq_true rfl) dL_asks_53 ⟨Nat.le_of_ble_eq_true rfl, Nat.le_of_ble_eq_true rfl⟩ (fun E ce q9 H locs h98 hP hD hS hce hcv hcl => ?_) (fun rv9 H locs h98 hP hD hS => ?_)
          · obtain ⟨k96, hq9, hE9⟩ := rsI_x h98
            replace hf := thr_x hf hq9
            by_cases hk9 : k96 = 0
            · subst hk9
              replace hf := if_t rfl hf
              have hP : va_P D vwCl (W_F cI cV vf a x99) H := by rw [hx99]; exact hP
              have hD : va_D A (W_F cI cV vf a x99) := by rw [hx99]; exact hD
              have hE9 : E = "java/lang/IndexOutOfBoundsException" := hE9
              subst hE9
              refine vx_catch (own := RL) (name := "java/lang/IndexOutOfBoundsException") hown [] ⟨0, 277, 278, 66⟩ [⟨0, 277, 283, 68⟩] htab (fun _ h => absurd h List.not_mem_nil) (by decide) (by decide) (hg _ w363) (va_Nw.use rfl (hE.1.2.2.2.2.1 _ (List.mem_of_getElem? (i := 0) rfl))) hce hcv hcl ?_
              refine W.eq (g2 := F0 m 278 ls [.ref q9]) rfl ?_
              refine lv_astore (lv' := [(6, .ref q9), (0, .ref (a 0)), (1, .int p1), (2, .int p2), (3, .int p3), (4, .int p4), (5, .int p5)]) hx hb dL_asks_278 hl (by decide) rfl (fun ls hl => ?_)
              refine lv_bipush (v := (-107)) hx hb dL_asks_280 (by decide) ?_
              obtain rfl := Option.some.inj hf
              refine W.widen (k := 6) (n := 36) (Nat.le_of_ble_eq_true rfl) (Nat.le_of_ble_eq_true rfl) ?_
              refine vx_ret ?_
              exact W.iret (v := (-107)) hx hb hr (fun t ht hW => ⟨_, rfl, ⟨rfl, by rw [ht]; exact hP, va_K.moved hW.alike hK, hD, hS.F ht⟩⟩) hS.2.2 dL_asks_282 hlocks
            replace hf := if_f hk9 hf
            by_cases hk9 : k96 = 2
            · subst hk9
              replace hf := if_t rfl hf
              have hP : va_P D vwCl (W_F cI cV vf a x99) H := by rw [hx99]; exact hP
              have hD : va_D A (W_F cI cV vf a x99) := by rw [hx99]; exact hD
              have hE9 : E = "java/lang/IllegalStateException" := hE9
              subst hE9
              refine vx_catch (own := RL) (name := "java/lang/IllegalStateException") hown [⟨0, 277, 278, 66⟩] ⟨0, 277, 283, 68⟩ [] htab (List.forall_mem_cons.mpr ⟨Or.inr ⟨by decide, "java/lang/IndexOutOfBoundsException", hg _ w363, hE.1.2.2.2.2.2.1 _ (List.mem_of_getElem? (i := 2) rfl) _ (List.mem_of_getElem? (i := 0) rfl) (by decide +kernel)⟩, fun _ h => absurd h List.not_mem_nil⟩) (by decide) (by decide) (hg _ w364) (va_Nw.use rfl (hE.1.2.2.2.2.1 _ (List.mem_of_getElem? (i := 2) rfl))) hce hcv hcl ?_
              refine W.eq (g2 := F0 m 283 ls [.ref q9]) rfl ?_
              refine lv_astore (lv' := [(6, .ref q9), (0, .ref (a 0)), (1, .int p1), (2, .int p2), (3, .int p3), (4, .int p4), (5, .int p5)]) hx hb dL_asks_283 hl (by decide) rfl (fun ls hl => ?_)
              refine lv_bipush (v := (-108)) hx hb dL_asks_285 (by decide) ?_
              obtain rfl := Option.some.inj hf
              refine W.widen (k := 6) (n := 36) (Nat.le_of_ble_eq_true rfl) (Nat.le_of_ble_eq_true rfl) ?_
              refine vx_ret ?_
              exact W.iret (v := (-108)) hx hb hr (fun t ht hW => ⟨_, rfl, ⟨rfl, by rw [ht]; exact hP, va_K.moved hW.alike hK, hD, hS.F ht⟩⟩) hS.2.2 dL_asks_287 hlocks
            replace hf := if_f hk9 hf
            cases hf
          obtain ⟨r97, hq9, rfl⟩ := rsI_v h98
          replace hf := thr_v hf hq9
          have hP : va_P D vwCl (W_F cI cV vf a x99) H := by rw [hx99]; exact hP
          have hD : va_D A (W_F cI cV vf a x99) := by rw [hx99]; exact hD
          refine W.eq (g2 := F0 m 56 ls [.int r97]) rfl ?_
          refine lv_if_eq (tgt := 63) hx hb dL_asks_56 (by decide) (fun c100 => ?_) (fun c100 => ?_)
          · replace hf := if_t c100 hf
            refine lv_iconst (v := 0) hx hb dL_asks_63 (by decide) ?_
            refine lv_goto (tgt := 277) hx hb dL_asks_64 (by decide) ?_
            obtain rfl := Option.some.inj hf
            refine W.widen (k := 6) (n := 36) (Nat.le_of_ble_eq_true rfl) (Nat.le_of_ble_eq_true rfl) ?_
            refine vx_ret ?_
            exact W.iret (v := 0) hx hb hr (fun t ht hW => ⟨_, rfl, ⟨rfl, by rw [ht]; exact hP, va_K.moved hW.alike hK, hD, hS.F ht⟩⟩) hS.2.2 dL_asks_277 hlocks
          · replace hf := if_f c100 hf
            refine lv_iconst (v := 1) hx hb dL_asks_59 (by decide) ?_
            refine lv_goto (tgt := 277) hx hb dL_asks_60 (by decide) ?_
            obtain rfl := Option.some.inj hf
            refine W.widen (k := 6) (n := 36) (Nat.le_of_ble_eq_true rfl) (Nat.le_of_ble_eq_true rfl) ?_
            refine vx_ret ?_
            exact W.iret (v := 1) hx hb hr (fun t ht hW => ⟨_, rfl, ⟨rfl, by rw [ht]; exact hP, va_K.moved hW.alike hK, hD, hS.F ht⟩⟩) hS.2.2 dL_asks_277 hlocks
      · replace hf := if_t c14 hf
        refine lv_aload_n hx hb dL_asks_28 rfl (lv_at hl 0 rfl) ?_
        refine lv_iload_n hx hb dL_asks_29 rfl (lv_at hl 2 rfl) ?_
        refine lv_iload_n hx hb dL_asks_30 rfl (lv_at hl 3 rfl) ?_
        refine lv_if_le (tgt := 38) hx hb dL_asks_31 (by decide) (fun c101 => ?_) (fun c101 => ?_)
        · replace hf := if_t c101 hf
          refine lv_iconst (v := 0) hx hb dL_asks_38 (by decide) ?_
          exact L39 x 0 p2 H locs ls hf hP hD hS (lv_sub hl [] rfl)
        · replace hf := if_f c101 hf
          refine lv_iconst (v := 1) hx hb dL_asks_34 (by decide) ?_
          refine lv_goto (tgt := 39) hx hb dL_asks_35 (by decide) ?_
          exact L39 x 1 p2 H locs ls hf hP hD hS (lv_sub hl [] rfl)
    · replace hf := if_t c13 hf
      refine lv_aload_n hx hb dL_asks_4 rfl (lv_at hl 0 rfl) ?_
      refine lv_iload_n hx hb dL_asks_5 rfl (lv_at hl 2 rfl) ?_
      refine lv_iload_n hx hb dL_asks_6 rfl (lv_at hl 3 rfl) ?_
      refine lv_iload hx hb dL_asks_7 (lv_at hl 4 rfl) ?_
      refine lv_if_le (tgt := 16) hx hb dL_asks_9 (by decide) (fun c102 => ?_) (fun c102 => ?_)
      · replace hf := if_t c102 hf
        refine lv_iconst (v := 0) hx hb dL_asks_16 (by decide) ?_
        exact L17 x 0 p3 p2 H locs ls hf hP hD hS (lv_sub hl [] rfl)
      · replace hf := if_f c102 hf
        refine lv_iconst (v := 1) hx hb dL_asks_12 (by decide) ?_
        refine lv_goto (tgt := 17) hx hb dL_asks_13 (by decide) ?_
        exact L17 x 1 p3 p2 H locs ls hf hP hD hS (lv_sub hl [] rfl)
  exact M0 s.heap [] ls hf hP hD hS hl
/-! CompactformsLaw.asks(LCompactforms;IIIII)I -/
def fL_asks12_39 (k : Nat) (x : FSt) (s0 : Int32) (s1 : Int32) : Option (FSt × Nat × Int32) := none
def fL_asks12_17 (k : Nat) (x : FSt) (s0 : Int32) (s1 : Int32) (s2 : Int32) : Option (FSt × Nat × Int32) := none
def fL_asks12 (k : Nat) (x : FSt) (p1 : Int32) (p2 : Int32) (p3 : Int32) (p4 : Int32) (p5 : Int32) : Option (FSt × Nat × Int32) := (if p1 = 0 then (if p4 ≤ 0 then fL_asks12_17 k x 0 p3 p2 else fL_asks12_17 k x 1 p3 p2) else (if p1 = 1 then (if p3 ≤ 0 then fL_asks12_39 k x 0 p2 else fL_asks12_39 k x 1 p2) else (if p1 = 2 then none else (if p1 = 3 then none else (if p1 = 4 then none else (if p1 = 5 then none else (if p1 = 6 then none else (if p1 = 7 then none else (if p1 = 8 then none else (if p1 = 9 then none else (if p1 = 10 then none else (if p1 = 11 then none else (if p1 = 12 then (fX7_writeOn k x p2).bind (fun u15 => keep u15.1 (fun x20 => thr u15.2.2 (fun k17 => if k17 = 0 then some (x20, u15.2.1, (-107)) else if k17 = 2 then some (x20, u15.2.1, (-108)) else none) (fun r18 => some (x20, u15.2.1, r18)))) else (if p1 = 13 then none else none))))))))))))))
set_option maxHeartbeats 4000000 in
set_option maxRecDepth 100000 in
theorem met_L_asks12 {D : va_G} {cI cV cJ cD : ClassId} (l : Launch) (hlt : l.stackTraces = false) (k : Nat) (vf : Nat → Option Nat) (a : Nat → Nat) (hvf : vf k = some (a 6)) (x : FSt) (p1 : Int32) (p2 : Int32) (p3 : Int32) (p4 : Int32) (p5 : Int32) (res : FSt × Nat × Int32) (hf : fL_asks12 k x p1 p2 p3 p4 p5 = some res) : MXW l yL_asks cL_asks 7 (some .int) [(0, 277, 278, 66), (0, 277, 283, 68)] { frames := 8, cells := 2, slots := 12, locals := 144 } D (TY cI cV cJ cD) (W_Fx cI cV vf a 2 4 x) (W_Fx cI cV vf a res.2.1 (6 - res.2.1) res.1) [.ref (a 0), .int p1, .int p2, .int p3, .int p4, .int p5] (.inl (some (.int res.2.2))) := by
  intro sz
  refine vx_ofWH (cc := cL_asks) (maxL := 7) (ret := (some .int)) (hh := [(0, 277, 278, 66), (0, 277, 283, 68)]) (by decide +kernel) rfl ?_
  intro p e s m args below meth c s₁ B hml hv
  obtain ⟨rfl, hsz, hP, hK, hD0, hE⟩ := hv
  have hx := B.exec
  have hb := B.bytes
  have hr := B.returns
  have hts := atoms_spec (ws := .codeWith yL_asks cL_asks 7 (some .int) [(0, 277, 278, 66), (0, 277, 283, 68)] :: GW) B.pre
  have hg : ∀ w ∈ GW, w.before (([.ref (a 0), .int p1, .int p2, .int p3, .int p4, .int p5] : List Value).toArray) s = true := fun w h => hts w (List.mem_cons_of_mem _ h)
  have hown : s.vm.findClass RL = some m.cls := findClass_of_methodNamed B.named
  have hlocks := B.notSynchronized
  have htab : c.exceptionTable.toList = [⟨0, 277, 278, 66⟩, ⟨0, 277, 283, 68⟩] := vx_table (x := yL_asks) B (hts _ List.mem_cons_self)
  subst hsz
  have hD := hD0.self (sz := s.heap.size)
  generalize hAe : va_A (W_Fx cI cV vf a 2 4 x) s.heap.size = A at hD hE ⊢
  have hA : ∀ q : Nat, s.heap.size ≤ q → A q := fun q h => by rw [← hAe]; exact Or.inr h
  have hS : va_S A s.heap s.heap [] := va_S.rf
  have hl := lv_entry ([.ref (a 0), .int p1, .int p2, .int p3, .int p4, .int p5]) (n := 7) (Nat.le_of_ble_eq_true rfl)
  rw [lg_entry_eq]
  generalize (lg_sl ([.ref (a 0), .int p1, .int p2, .int p3, .int p4, .int p5]) ++ List.replicate (7 - (lg_sl ([.ref (a 0), .int p1, .int p2, .int p3, .int p4, .int p5])).length) Slot.unset).toArray = ls at hl ⊢
  have hl : lv_has ls 7 [(0, .ref (a 0)), (1, .int p1), (2, .int p2), (3, .int p3), (4, .int p4), (5, .int p5)] := hl
  have L39 : ∀ (x : FSt) (s0 : Int32) (s1 : Int32) (H : Heap) (locs : List Loc) (ls : Array Slot), fL_asks12_39 k x s0 s1  = some res → va_P D vwCl (W_Fx cI cV vf a 2 4 x) H → va_D A (W_Fx cI cV vf a 2 4 x) → va_S A s.heap H locs → lv_has ls 7 [] → W p l e ({ frames := 8, cells := 2, slots := 12, locals := 144 } : Room) s m ([.ref (a 0), .int p1, .int p2, .int p3, .int p4, .int p5] : List Value).toArray below meth c H locs 0 0 (vx_MQ below (QR D (TY cI cV cJ cD) (W_Fx cI cV vf a res.2.1 (6 - res.2.1) res.1) A (.inl (some (.int res.2.2)))) (XR D (TY cI cV cJ cD) (W_Fx cI cV vf a res.2.1 (6 - res.2.1) res.1) A (.inl (some (.int res.2.2)))) (([.ref (a 0), .int p1, .int p2, .int p3, .int p4, .int p5] : List Value).toArray) s 2 12 A) (F0 m 39 ls [.int s0, .int s1, .ref (a 0)]) := by
    intro x s0 s1 H locs ls hf hP hD hS hl
    dsimp only [fL_asks12_39] at hf
    cases hf
  have L17 : ∀ (x : FSt) (s0 : Int32) (s1 : Int32) (s2 : Int32) (H : Heap) (locs : List Loc) (ls : Array Slot), fL_asks12_17 k x s0 s1 s2  = some res → va_P D vwCl (W_Fx cI cV vf a 2 4 x) H → va_D A (W_Fx cI cV vf a 2 4 x) → va_S A s.heap H locs → lv_has ls 7 [] → W p l e ({ frames := 8, cells := 2, slots := 12, locals := 144 } : Room) s m ([.ref (a 0), .int p1, .int p2, .int p3, .int p4, .int p5] : List Value).toArray below meth c H locs 0 0 (vx_MQ below (QR D (TY cI cV cJ cD) (W_Fx cI cV vf a res.2.1 (6 - res.2.1) res.1) A (.inl (some (.int res.2.2)))) (XR D (TY cI cV cJ cD) (W_Fx cI cV vf a res.2.1 (6 - res.2.1) res.1) A (.inl (some (.int res.2.2)))) (([.ref (a 0), .int p1, .int p2, .int p3, .int p4, .int p5] : List Value).toArray) s 2 12 A) (F0 m 17 ls [.int s0, .int s1, .int s2, .ref (a 0)]) := by
    intro x s0 s1 s2 H locs ls hf hP hD hS hl
    dsimp only [fL_asks12_17] at hf
    cases hf
  have M0 : ∀ (H : Heap) (locs : List Loc) (ls : Array Slot), fL_asks12 k x p1 p2 p3 p4 p5 = some res → va_P D vwCl (W_Fx cI cV vf a 2 4 x) H → va_D A (W_Fx cI cV vf a 2 4 x) → va_S A s.heap H locs → lv_has ls 7 [(0, .ref (a 0)), (1, .int p1), (2, .int p2), (3, .int p3), (4, .int p4), (5, .int p5)] → W p l e ({ frames := 8, cells := 2, slots := 12, locals := 144 } : Room) s m ([.ref (a 0), .int p1, .int p2, .int p3, .int p4, .int p5] : List Value).toArray below meth c H locs 0 0 (vx_MQ below (QR D (TY cI cV cJ cD) (W_Fx cI cV vf a res.2.1 (6 - res.2.1) res.1) A (.inl (some (.int res.2.2)))) (XR D (TY cI cV cJ cD) (W_Fx cI cV vf a res.2.1 (6 - res.2.1) res.1) A (.inl (some (.int res.2.2)))) (([.ref (a 0), .int p1, .int p2, .int p3, .int p4, .int p5] : List Value).toArray) s 2 12 A) (F0 m 0 ls []) := by
    intro H locs ls hf hP hD hS hl
    dsimp only [fL_asks12] at hf
    refine lv_iload_n hx hb dL_asks_0 rfl (lv_at hl 1 rfl) ?_
    refine lv_if_ne (tgt := 23) hx hb dL_asks_1 (by decide) (fun c1 => ?_) (fun c1 => ?_)
    · replace hf := if_f c1 hf
      refine lv_iload_n hx hb dL_asks_23 rfl (lv_at hl 1 rfl) ?_
      refine lv_iconst (v := 1) hx hb dL_asks_24 (by decide) ?_
      refine lv_icmp_ne (tgt := 45) hx hb dL_asks_25 (by decide) (fun c2 => ?_) (fun c2 => ?_)
      · replace hf := if_f c2 hf
        refine lv_iload_n hx hb dL_asks_45 rfl (lv_at hl 1 rfl) ?_
        refine lv_iconst (v := 2) hx hb dL_asks_46 (by decide) ?_
        refine lv_icmp_ne (tgt := 67) hx hb dL_asks_47 (by decide) (fun c3 => ?_) (fun c3 => ?_)
        · replace hf := if_f c3 hf
          refine lv_iload_n hx hb dL_asks_67 rfl (lv_at hl 1 rfl) ?_
          refine lv_iconst (v := 3) hx hb dL_asks_68 (by decide) ?_
          refine lv_icmp_ne (tgt := 89) hx hb dL_asks_69 (by decide) (fun c4 => ?_) (fun c4 => ?_)
          · replace hf := if_f c4 hf
            refine lv_iload_n hx hb dL_asks_89 rfl (lv_at hl 1 rfl) ?_
            refine lv_iconst (v := 4) hx hb dL_asks_90 (by decide) ?_
            refine lv_icmp_ne (tgt := 105) hx hb dL_asks_91 (by decide) (fun c5 => ?_) (fun c5 => ?_)
            · replace hf := if_f c5 hf
              refine lv_iload_n hx hb dL_asks_105 rfl (lv_at hl 1 rfl) ?_
              refine lv_iconst (v := 5) hx hb dL_asks_106 (by decide) ?_
              refine lv_icmp_ne (tgt := 119) hx hb dL_asks_107 (by decide) (fun c6 => ?_) (fun c6 => ?_)
              · replace hf := if_f c6 hf
                refine lv_iload_n hx hb dL_asks_119 rfl (lv_at hl 1 rfl) ?_
                refine lv_bipush (v := 6) hx hb dL_asks_120 (by decide) ?_
                refine lv_icmp_ne (tgt := 136) hx hb dL_asks_122 (by decide) (fun c7 => ?_) (fun c7 => ?_)
                · replace hf := if_f c7 hf
                  refine lv_iload_n hx hb dL_asks_136 rfl (lv_at hl 1 rfl) ?_
                  refine lv_bipush (v := 7) hx hb dL_asks_137 (by decide) ?_
                  refine lv_icmp_ne (tgt := 161) hx hb dL_asks_139 (by decide) (fun c8 => ?_) (fun c8 => ?_)
                  · replace hf := if_f c8 hf
                    refine lv_iload_n hx hb dL_asks_161 rfl (lv_at hl 1 rfl) ?_
                    refine lv_bipush (v := 8) hx hb dL_asks_162 (by decide) ?_
                    refine lv_icmp_ne (tgt := 180) hx hb dL_asks_164 (by decide) (fun c9 => ?_) (fun c9 => ?_)
                    · replace hf := if_f c9 hf
                      refine lv_iload_n hx hb dL_asks_180 rfl (lv_at hl 1 rfl) ?_
                      refine lv_bipush (v := 9) hx hb dL_asks_181 (by decide) ?_
                      refine lv_icmp_ne (tgt := 202) hx hb dL_asks_183 (by decide) (fun c10 => ?_) (fun c10 => ?_)
                      · replace hf := if_f c10 hf
                        refine lv_iload_n hx hb dL_asks_202 rfl (lv_at hl 1 rfl) ?_
                        refine lv_bipush (v := 10) hx hb dL_asks_203 (by decide) ?_
                        refine lv_icmp_ne (tgt := 225) hx hb dL_asks_205 (by decide) (fun c11 => ?_) (fun c11 => ?_)
                        · replace hf := if_f c11 hf
                          refine lv_iload_n hx hb dL_asks_225 rfl (lv_at hl 1 rfl) ?_
                          refine lv_bipush (v := 11) hx hb dL_asks_226 (by decide) ?_
                          refine lv_icmp_ne (tgt := 240) hx hb dL_asks_228 (by decide) (fun c12 => ?_) (fun c12 => ?_)
                          · replace hf := if_f c12 hf
                            refine lv_iload_n hx hb dL_asks_240 rfl (lv_at hl 1 rfl) ?_
                            refine lv_bipush (v := 12) hx hb dL_asks_241 (by decide) ?_
                            refine lv_icmp_ne (tgt := 254) hx hb dL_asks_243 (by decide) (fun c13 => ?_) (fun c13 => ?_)
                            · replace hf := if_f c13 hf
                              refine lv_iload_n hx hb dL_asks_254 rfl (lv_at hl 1 rfl) ?_
                              refine lv_bipush (v := 13) hx hb dL_asks_255 (by decide) ?_
                              refine lv_icmp_ne (tgt := 269) hx hb dL_asks_257 (by decide) (fun c14 => ?_) (fun c14 => ?_)
                              · replace hf := if_f c14 hf
                                refine lv_aload_n hx hb dL_asks_269 rfl (lv_at hl 0 rfl) ?_
                                refine lv_iload_n hx hb dL_asks_270 rfl (lv_at hl 2 rfl) ?_
                                refine lv_iload_n hx hb dL_asks_271 rfl (lv_at hl 3 rfl) ?_
                                refine lv_iload hx hb dL_asks_272 (lv_at hl 4 rfl) ?_
                                cases hf
                              · replace hf := if_t c14 hf
                                refine lv_aload_n hx hb dL_asks_260 rfl (lv_at hl 0 rfl) ?_
                                refine lv_iload_n hx hb dL_asks_261 rfl (lv_at hl 2 rfl) ?_
                                refine lv_iload_n hx hb dL_asks_262 rfl (lv_at hl 3 rfl) ?_
                                cases hf
                            · replace hf := if_t c13 hf
                              refine lv_aload_n hx hb dL_asks_246 rfl (lv_at hl 0 rfl) ?_
                              refine lv_iload_n hx hb dL_asks_247 rfl (lv_at hl 2 rfl) ?_
                              obtain ⟨u15, hc16, hf⟩ := bind_t hf
                              try dsimp only at hf
                              obtain ⟨x20, hx20⟩ : ∃ z, z = u15.1 := ⟨_, rfl⟩
                              replace hf := keep_e hf x20 hx20
                              refine k_VX (As := [.int p2]) (rest := []) (n := 1) ⟨hx, hb, hml, hown, hts⟩ (met_X7_writeOn l hlt k vf a hvf x p2 u15 hc16) w635 w636 w637 w1 w638 ⟨rfl, by decide +kernel, by decide +kernel, by decide +kernel⟩ ⟨Nat.le_of_ble_eq_true rfl, Nat.le_of_ble_eq_true rfl⟩ hK hE hP hD hS hA (isC := [0, 1, 2, 3, 4, 5, 6, 7, 8, 9, 10, 11, 12, 13, 14, 15, 16, 17, 18, 19, 20, 21, 22, 23]) (isR := []) (isB := [0, 1, 2, 3, 4, 5, 6, 7, 8, 9, 10, 11, 12, 13, 14, 15, 16, 17, 18, 19, 20, 21, 22, 23]) (ws' := W_Fx cI cV vf a u15.2.1 (6 - u15.2.1) u15.1) ⟨([] : List Nat).filterMap (fun i : Nat => (W_Fx cI cV vf a 2 4 x : va_W)[i]?), rfl, rfl, rfl, rfl, by decide, rfl, rfl⟩ 0 6 rfl rfl rfl rfl hl.1 rfl (Nat.le_of_ble_eq_true rfl) dL_asks_248 ⟨Nat.le_of_ble_eq_true rfl, Nat.le_of_ble_eq_true rfl⟩ (fun E ce q9 H locs h19 hP hD hS hce hcv hcl => ?_) (fun rv9 H locs h19 hP hD hS => ?_)
                              · obtain ⟨k17, hq9, hE9⟩ := rsI_x h19
                                replace hf := thr_x hf hq9
                                by_cases hk9 : k17 = 0
                                · subst hk9
                                  replace hf := if_t rfl hf
                                  have hP : va_P D vwCl (W_Fx cI cV vf a u15.2.1 (6 - u15.2.1) x20) H := by rw [hx20]; exact hP
                                  have hD : va_D A (W_Fx cI cV vf a u15.2.1 (6 - u15.2.1) x20) := by rw [hx20]; exact hD
                                  have hE9 : E = "java/lang/IndexOutOfBoundsException" := hE9
                                  subst hE9
                                  refine vx_catch (own := RL) (name := "java/lang/IndexOutOfBoundsException") hown [] ⟨0, 277, 278, 66⟩ [⟨0, 277, 283, 68⟩] htab (fun _ h => absurd h List.not_mem_nil) (by decide) (by decide) (hg _ w363) (va_Nw.use rfl (hE.1.2.2.2.2.1 _ (List.mem_of_getElem? (i := 0) rfl))) hce hcv hcl ?_
                                  refine W.eq (g2 := F0 m 278 ls [.ref q9]) rfl ?_
                                  refine lv_astore (lv' := [(6, .ref q9), (0, .ref (a 0)), (1, .int p1), (2, .int p2), (3, .int p3), (4, .int p4), (5, .int p5)]) hx hb dL_asks_278 hl (by decide) rfl (fun ls hl => ?_)
                                  refine lv_bipush (v := (-107)) hx hb dL_asks_280 (by decide) ?_
                                  obtain rfl := Option.some.inj hf
                                  refine vx_ret ?_
                                  exact W.iret (v := (-107)) hx hb hr (fun t ht hW => ⟨_, rfl, ⟨rfl, by rw [ht]; exact hP, va_K.moved hW.alike hK, hD, hS.F ht⟩⟩) hS.2.2 dL_asks_282 hlocks
                                replace hf := if_f hk9 hf
                                by_cases hk9 : k17 = 2
                                · subst hk9
                                  replace hf := if_t rfl hf
                                  have hP : va_P D vwCl (W_Fx cI cV vf a u15.2.1 (6 - u15.2.1) x20) H := by rw [hx20]; exact hP
                                  have hD : va_D A (W_Fx cI cV vf a u15.2.1 (6 - u15.2.1) x20) := by rw [hx20]; exact hD
                                  have hE9 : E = "java/lang/IllegalStateException" := hE9
                                  subst hE9
                                  refine vx_catch (own := RL) (name := "java/lang/IllegalStateException") hown [⟨0, 277, 278, 66⟩] ⟨0, 277, 283, 68⟩ [] htab (List.forall_mem_cons.mpr ⟨Or.inr ⟨by decide, "java/lang/IndexOutOfBoundsException", hg _ w363, hE.1.2.2.2.2.2.1 _ (List.mem_of_getElem? (i := 2) rfl) _ (List.mem_of_getElem? (i := 0) rfl) (by decide +kernel)⟩, fun _ h => absurd h List.not_mem_nil⟩) (by decide) (by decide) (hg _ w364) (va_Nw.use rfl (hE.1.2.2.2.2.1 _ (List.mem_of_getElem? (i := 2) rfl))) hce hcv hcl ?_
                                  refine W.eq (g2 := F0 m 283 ls [.ref q9]) rfl ?_
                                  refine lv_astore (lv' := [(6, .ref q9), (0, .ref (a 0)), (1, .int p1), (2, .int p2), (3, .int p3), (4, .int p4), (5, .int p5)]) hx hb dL_asks_283 hl (by decide) rfl (fun ls hl => ?_)
                                  refine lv_bipush (v := (-108)) hx hb dL_asks_285 (by decide) ?_
                                  obtain rfl := Option.some.inj hf
                                  refine vx_ret ?_
                                  exact W.iret (v := (-108)) hx hb hr (fun t ht hW => ⟨_, rfl, ⟨rfl, by rw [ht]; exact hP, va_K.moved hW.alike hK, hD, hS.F ht⟩⟩) hS.2.2 dL_asks_287 hlocks
                                replace hf := if_f hk9 hf
                                cases hf
                              obtain ⟨r18, hq9, rfl⟩ := rsI_v h19
                              replace hf := thr_v hf hq9
                              have hP : va_P D vwCl (W_Fx cI cV vf a u15.2.1 (6 - u15.2.1) x20) H := by rw [hx20]; exact hP
                              have hD : va_D A (W_Fx cI cV vf a u15.2.1 (6 - u15.2.1) x20) := by rw [hx20]; exact hD
                              refine W.eq (g2 := F0 m 251 ls [.int r18]) rfl ?_
                              refine lv_goto (tgt := 277) hx hb dL_asks_251 (by decide) ?_
                              obtain rfl := Option.some.inj hf
                              refine vx_ret ?_
                              exact W.iret (v := r18) hx hb hr (fun t ht hW => ⟨_, rfl, ⟨rfl, by rw [ht]; exact hP, va_K.moved hW.alike hK, hD, hS.F ht⟩⟩) hS.2.2 dL_asks_277 hlocks
                          · replace hf := if_t c12 hf
                            refine lv_aload_n hx hb dL_asks_231 rfl (lv_at hl 0 rfl) ?_
                            refine lv_iload_n hx hb dL_asks_232 rfl (lv_at hl 2 rfl) ?_
                            refine lv_iload_n hx hb dL_asks_233 rfl (lv_at hl 3 rfl) ?_
                            cases hf
                        · replace hf := if_t c11 hf
                          refine lv_aload_n hx hb dL_asks_208 rfl (lv_at hl 0 rfl) ?_
                          refine lv_iload_n hx hb dL_asks_209 rfl (lv_at hl 2 rfl) ?_
                          refine lv_iload_n hx hb dL_asks_210 rfl (lv_at hl 3 rfl) ?_
                          cases hf
                      · replace hf := if_t c10 hf
                        refine lv_aload_n hx hb dL_asks_186 rfl (lv_at hl 0 rfl) ?_
                        refine lv_iload_n hx hb dL_asks_187 rfl (lv_at hl 2 rfl) ?_
                        cases hf
                    · replace hf := if_t c9 hf
                      refine lv_aload_n hx hb dL_asks_167 rfl (lv_at hl 0 rfl) ?_
                      refine lv_iload_n hx hb dL_asks_168 rfl (lv_at hl 2 rfl) ?_
                      refine lv_iload_n hx hb dL_asks_169 rfl (lv_at hl 3 rfl) ?_
                      refine lv_iload hx hb dL_asks_170 (lv_at hl 4 rfl) ?_
                      refine lv_iload hx hb dL_asks_172 (lv_at hl 5 rfl) ?_
                      cases hf
                  · replace hf := if_t c8 hf
                    refine lv_aload_n hx hb dL_asks_142 rfl (lv_at hl 0 rfl) ?_
                    refine lv_iload_n hx hb dL_asks_143 rfl (lv_at hl 2 rfl) ?_
                    refine lv_iload_n hx hb dL_asks_144 rfl (lv_at hl 3 rfl) ?_
                    refine lv_iload hx hb dL_asks_145 (lv_at hl 4 rfl) ?_
                    cases hf
                · replace hf := if_t c7 hf
                  refine lv_aload_n hx hb dL_asks_125 rfl (lv_at hl 0 rfl) ?_
                  refine lv_iload_n hx hb dL_asks_126 rfl (lv_at hl 2 rfl) ?_
                  refine lv_iload_n hx hb dL_asks_127 rfl (lv_at hl 3 rfl) ?_
                  refine lv_iload hx hb dL_asks_128 (lv_at hl 4 rfl) ?_
                  cases hf
              · replace hf := if_t c6 hf
                refine lv_aload_n hx hb dL_asks_110 rfl (lv_at hl 0 rfl) ?_
                refine lv_iload_n hx hb dL_asks_111 rfl (lv_at hl 2 rfl) ?_
                refine lv_iload_n hx hb dL_asks_112 rfl (lv_at hl 3 rfl) ?_
                cases hf
            · replace hf := if_t c5 hf
              refine lv_aload_n hx hb dL_asks_94 rfl (lv_at hl 0 rfl) ?_
              refine lv_iload_n hx hb dL_asks_95 rfl (lv_at hl 2 rfl) ?_
              refine lv_iload_n hx hb dL_asks_96 rfl (lv_at hl 3 rfl) ?_
              refine lv_iload hx hb dL_asks_97 (lv_at hl 4 rfl) ?_
              cases hf
          · replace hf := if_t c4 hf
            refine lv_aload_n hx hb dL_asks_72 rfl (lv_at hl 0 rfl) ?_
            refine lv_iload_n hx hb dL_asks_73 rfl (lv_at hl 2 rfl) ?_
            refine lv_iload_n hx hb dL_asks_74 rfl (lv_at hl 3 rfl) ?_
            cases hf
        · replace hf := if_t c3 hf
          refine lv_aload_n hx hb dL_asks_50 rfl (lv_at hl 0 rfl) ?_
          refine lv_iload_n hx hb dL_asks_51 rfl (lv_at hl 2 rfl) ?_
          refine lv_iload_n hx hb dL_asks_52 rfl (lv_at hl 3 rfl) ?_
          cases hf
      · replace hf := if_t c2 hf
        refine lv_aload_n hx hb dL_asks_28 rfl (lv_at hl 0 rfl) ?_
        refine lv_iload_n hx hb dL_asks_29 rfl (lv_at hl 2 rfl) ?_
        refine lv_iload_n hx hb dL_asks_30 rfl (lv_at hl 3 rfl) ?_
        refine lv_if_le (tgt := 38) hx hb dL_asks_31 (by decide) (fun c21 => ?_) (fun c21 => ?_)
        · replace hf := if_t c21 hf
          refine lv_iconst (v := 0) hx hb dL_asks_38 (by decide) ?_
          exact L39 x 0 p2 H locs ls hf hP hD hS (lv_sub hl [] rfl)
        · replace hf := if_f c21 hf
          refine lv_iconst (v := 1) hx hb dL_asks_34 (by decide) ?_
          refine lv_goto (tgt := 39) hx hb dL_asks_35 (by decide) ?_
          exact L39 x 1 p2 H locs ls hf hP hD hS (lv_sub hl [] rfl)
    · replace hf := if_t c1 hf
      refine lv_aload_n hx hb dL_asks_4 rfl (lv_at hl 0 rfl) ?_
      refine lv_iload_n hx hb dL_asks_5 rfl (lv_at hl 2 rfl) ?_
      refine lv_iload_n hx hb dL_asks_6 rfl (lv_at hl 3 rfl) ?_
      refine lv_iload hx hb dL_asks_7 (lv_at hl 4 rfl) ?_
      refine lv_if_le (tgt := 16) hx hb dL_asks_9 (by decide) (fun c22 => ?_) (fun c22 => ?_)
      · replace hf := if_t c22 hf
        refine lv_iconst (v := 0) hx hb dL_asks_16 (by decide) ?_
        exact L17 x 0 p3 p2 H locs ls hf hP hD hS (lv_sub hl [] rfl)
      · replace hf := if_f c22 hf
        refine lv_iconst (v := 1) hx hb dL_asks_12 (by decide) ?_
        refine lv_goto (tgt := 17) hx hb dL_asks_13 (by decide) ?_
        exact L17 x 1 p3 p2 H locs ls hf hP hD hS (lv_sub hl [] rfl)
  exact M0 s.heap [] ls hf hP hD hS hl

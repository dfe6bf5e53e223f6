/-! Compactforms.claim(IIII)I -/
def fX7_claim (k : Nat) (x : FSt) (p1 : Int32) (p2 : Int32) (p3 : Int32) (p4 : Int32) : Option (FSt × (Int32 ⊕ Nat)) := (fX7_needKey p1).bind (fun u1 => thr u1 (fun k3 => some (x, .inr k3)) (fun r4 => (fX7_needGroup p2).bind (fun u6 => thr u6 (fun k8 => some (x, .inr k8)) (fun r9 => (fX7_needReader p3).bind (fun u11 => thr u11 (fun k13 => some (x, .inr k13)) (fun r14 => (fX7_needWithin p4 0 1000).bind (fun u16 => thr u16 (fun k18 => some (x, .inr k18)) (fun r19 => (fX7_needType k x p1 4).bind (fun u21 => thr u21 (fun k23 => some (x, .inr k23)) (fun r24 => (fX7_needRowLeft k x).bind (fun u26 => thr u26 (fun k28 => some (x, .inr k28)) (fun r29 => (fX7_call k x 11 p1 p2 p3 p4).bind (fun u31 => keep u31.1 (fun x33 => some (x33, (.inl u31.2))))))))))))))))
set_option maxHeartbeats 4000000 in
set_option maxRecDepth 100000 in
theorem met_X7_claim {D : va_G} {cI cV cJ cD : ClassId} (l : Launch) (hlt : l.stackTraces = false) (k : Nat) (vf : Nat → Option Nat) (a : Nat → Nat) (hvf : vf k = some (a 6)) (x : FSt) (p1 : Int32) (p2 : Int32) (p3 : Int32) (p4 : Int32) (res : FSt × (Int32 ⊕ Nat)) (hf : fX7_claim k x p1 p2 p3 p4 = some res) : MX l yX7_claim cX7_claim 5 (some .int) { frames := 7, cells := 6, slots := 36, locals := 180 } D (TY cI cV cJ cD) (W_F cI cV vf a x) (W_F cI cV vf a res.1) [.ref (a 0), .int p1, .int p2, .int p3, .int p4] (rsI res.2) := by
  intro sz
  refine vx_ofW (cc := cX7_claim) (maxL := 5) (ret := (some .int)) (by decide +kernel) rfl ?_
  intro p e s m args below meth c s₁ B hml htab hv
  obtain ⟨rfl, hsz, hP, hK, hD0, hE⟩ := hv
  have hx := B.exec
  have hb := B.bytes
  have hr := B.returns
  have hts := atoms_spec (ws := .code yX7_claim cX7_claim 5 (some .int) :: GW) B.pre
  have hg : ∀ w ∈ GW, w.before (([.ref (a 0), .int p1, .int p2, .int p3, .int p4] : List Value).toArray) s = true := fun w h => hts w (List.mem_cons_of_mem _ h)
  have hown : s.vm.findClass RX7 = some m.cls := findClass_of_methodNamed B.named
  have hlocks := B.notSynchronized
  subst hsz
  have hD := hD0.self (sz := s.heap.size)
  generalize hAe : va_A (W_F cI cV vf a x) s.heap.size = A at hD hE ⊢
  have hA : ∀ q : Nat, s.heap.size ≤ q → A q := fun q h => by rw [← hAe]; exact Or.inr h
  have hS : va_S A s.heap s.heap [] := va_S.rf
  have hl := lv_entry ([.ref (a 0), .int p1, .int p2, .int p3, .int p4]) (n := 5) (Nat.le_of_ble_eq_true rfl)
  rw [lg_entry_eq]
  generalize (lg_sl ([.ref (a 0), .int p1, .int p2, .int p3, .int p4]) ++ List.replicate (5 - (lg_sl ([.ref (a 0), .int p1, .int p2, .int p3, .int p4])).length) Slot.unset).toArray = ls at hl ⊢
  have hl : lv_has ls 5 [(0, .ref (a 0)), (1, .int p1), (2, .int p2), (3, .int p3), (4, .int p4)] := hl
  have M0 : ∀ (H : Heap) (locs : List Loc) (ls : Array Slot), fX7_claim k x p1 p2 p3 p4 = some res → va_P D vwCl (W_F cI cV vf a x) H → va_D A (W_F cI cV vf a x) → va_S A s.heap H locs → lv_has ls 5 [(0, .ref (a 0)), (1, .int p1), (2, .int p2), (3, .int p3), (4, .int p4)] → W p l e ({ frames := 7, cells := 6, slots := 36, locals := 180 } : Room) s m ([.ref (a 0), .int p1, .int p2, .int p3, .int p4] : List Value).toArray below meth c H locs 0 0 (vx_MQ below (QR D (TY cI cV cJ cD) (W_F cI cV vf a res.1) A (rsI res.2)) (XR D (TY cI cV cJ cD) (W_F cI cV vf a res.1) A (rsI res.2)) (([.ref (a 0), .int p1, .int p2, .int p3, .int p4] : List Value).toArray) s 6 36 A) (F0 m 0 ls []) := by
    intro H locs ls hf hP hD hS hl
    dsimp only [fX7_claim] at hf
    refine lv_iload_n hx hb dX7_claim_0 rfl (lv_at hl 1 rfl) ?_
    obtain ⟨u1, hc2, hf⟩ := bind_t hf
    refine k_SX (As := [.int p1]) (rest := []) (n := 1) ⟨hx, hb, hml, hown, hts⟩ (met_X7_needKey l hlt p1 u1 hc2) w209 w210 w1 w211 ⟨by decide +kernel, by decide +kernel, by decide +kernel⟩ ⟨Nat.le_of_ble_eq_true rfl, Nat.le_of_ble_eq_true rfl⟩ hK hE hP hD hS hA (isC := []) (isR := [0, 1, 2, 3, 4, 5, 6, 7, 8, 9, 10, 11, 12, 13, 14, 15, 16, 17, 18, 19, 20, 21, 22, 23]) (isB := [0, 1, 2, 3, 4, 5, 6, 7, 8, 9, 10, 11, 12, 13, 14, 15, 16, 17, 18, 19, 20, 21, 22, 23]) (ws' := W_F cI cV vf a x) ⟨([0, 1, 2, 3, 4, 5, 6, 7, 8, 9, 10, 11, 12, 13, 14, 15, 16, 17, 18, 19, 20, 21, 22, 23] : List Nat).filterMap (fun i : Nat => (W_F cI cV vf a x : va_W)[i]?), rfl, rfl, rfl, rfl, by decide, rfl, rfl⟩ rfl hl.1 rfl (Nat.le_of_ble_eq_true rfl) dX7_claim_1 ⟨Nat.le_of_ble_eq_true rfl, Nat.le_of_ble_eq_true rfl⟩ (fun E ce q9 H locs h5 hP hD hS hce hcv hcl => ?_) (fun rv9 H locs h5 hP hD hS => ?_)
    · obtain ⟨k3, hq9, hE9⟩ := rsV_x h5
      replace hf := thr_x hf hq9
      obtain rfl := Option.some.inj hf
      exact k_out htab hlocks hce hcv hcl (by rw [hE9]; rfl) hK hP hD hS (Nat.le_of_ble_eq_true rfl) (Nat.le_of_ble_eq_true rfl)
    obtain ⟨r4, hq9, rfl⟩ := rsV_v h5
    replace hf := thr_v hf hq9
    refine W.eq (g2 := F0 m 4 ls []) rfl ?_
    refine lv_iload_n hx hb dX7_claim_4 rfl (lv_at hl 2 rfl) ?_
    obtain ⟨u6, hc7, hf⟩ := bind_t hf
    refine k_SX (As := [.int p2]) (rest := []) (n := 1) ⟨hx, hb, hml, hown, hts⟩ (met_X7_needGroup l hlt p2 u6 hc7) w600 w601 w1 w602 ⟨by decide +kernel, by decide +kernel, by decide +kernel⟩ ⟨Nat.le_of_ble_eq_true rfl, Nat.le_of_ble_eq_true rfl⟩ hK hE hP hD hS hA (isC := []) (isR := [0, 1, 2, 3, 4, 5, 6, 7, 8, 9, 10, 11, 12, 13, 14, 15, 16, 17, 18, 19, 20, 21, 22, 23]) (isB := [0, 1, 2, 3, 4, 5, 6, 7, 8, 9, 10, 11, 12, 13, 14, 15, 16, 17, 18, 19, 20, 21, 22, 23]) (ws' := W_F cI cV vf a x) ⟨([0, 1, 2, 3, 4, 5, 6, 7, 8, 9, 10, 11, 12, 13, 14, 15, 16, 17, 18, 19, 20, 21, 22, 23] : List Nat).filterMap (fun i : Nat => (W_F cI cV vf a x : va_W)[i]?), rfl, rfl, rfl, rfl, by decide, rfl, rfl⟩ rfl hl.1 rfl (Nat.le_of_ble_eq_true rfl) dX7_claim_5 ⟨Nat.le_of_ble_eq_true rfl, Nat.le_of_ble_eq_true rfl⟩ (fun E ce q9 H locs h10 hP hD hS hce hcv hcl => ?_) (fun rv9 H locs h10 hP hD hS => ?_)
    · obtain ⟨k8, hq9, hE9⟩ := rsV_x h10
      replace hf := thr_x hf hq9
      obtain rfl := Option.some.inj hf
      exact k_out htab hlocks hce hcv hcl (by rw [hE9]; rfl) hK hP hD hS (Nat.le_of_ble_eq_true rfl) (Nat.le_of_ble_eq_true rfl)
    obtain ⟨r9, hq9, rfl⟩ := rsV_v h10
    replace hf := thr_v hf hq9
    refine W.eq (g2 := F0 m 8 ls []) rfl ?_
    refine lv_iload_n hx hb dX7_claim_8 rfl (lv_at hl 3 rfl) ?_
    obtain ⟨u11, hc12, hf⟩ := bind_t hf
    refine k_SX (As := [.int p3]) (rest := []) (n := 1) ⟨hx, hb, hml, hown, hts⟩ (met_X7_needReader l hlt p3 u11 hc12) w605 w606 w1 w607 ⟨by decide +kernel, by decide +kernel, by decide +kernel⟩ ⟨Nat.le_of_ble_eq_true rfl, Nat.le_of_ble_eq_true rfl⟩ hK hE hP hD hS hA (isC := []) (isR := [0, 1, 2, 3, 4, 5, 6, 7, 8, 9, 10, 11, 12, 13, 14, 15, 16, 17, 18, 19, 20, 21, 22, 23]) (isB := [0, 1, 2, 3, 4, 5, 6, 7, 8, 9, 10, 11, 12, 13, 14, 15, 16, 17, 18, 19, 20, 21, 22, 23]) (ws' := W_F cI cV vf a x) ⟨([0, 1, 2, 3, 4, 5, 6, 7, 8, 9, 10, 11, 12, 13, 14, 15, 16, 17, 18, 19, 20, 21, 22, 23] : List Nat).filterMap (fun i : Nat => (W_F cI cV vf a x : va_W)[i]?), rfl, rfl, rfl, rfl, by decide, rfl, rfl⟩ rfl hl.1 rfl (Nat.le_of_ble_eq_true rfl) dX7_claim_9 ⟨Nat.le_of_ble_eq_true rfl, Nat.le_of_ble_eq_true rfl⟩ (fun E ce q9 H locs h15 hP hD hS hce hcv hcl => ?_) (fun rv9 H locs h15 hP hD hS => ?_)
    · obtain ⟨k13, hq9, hE9⟩ := rsV_x h15
      replace hf := thr_x hf hq9
      obtain rfl := Option.some.inj hf
      exact k_out htab hlocks hce hcv hcl (by rw [hE9]; rfl) hK hP hD hS (Nat.le_of_ble_eq_true rfl) (Nat.le_of_ble_eq_true rfl)
    obtain ⟨r14, hq9, rfl⟩ := rsV_v h15
    replace hf := thr_v hf hq9
    refine W.eq (g2 := F0 m 12 ls []) rfl ?_
    refine lv_iload hx hb dX7_claim_12 (lv_at hl 4 rfl) ?_
    refine lv_iconst (v := 0) hx hb dX7_claim_14 (by decide) ?_
    refine lv_sipush (v := 1000) hx hb dX7_claim_15 (by decide) ?_
    obtain ⟨u16, hc17, hf⟩ := bind_t hf
    refine k_SX (As := [.int p4, .int 0, .int 1000]) (rest := []) (n := 3) ⟨hx, hb, hml, hown, hts⟩ (met_X7_needWithin l hlt p4 0 1000 u16 hc17) w317 w318 w1 w319 ⟨by decide +kernel, by decide +kernel, by decide +kernel⟩ ⟨Nat.le_of_ble_eq_true rfl, Nat.le_of_ble_eq_true rfl⟩ hK hE hP hD hS hA (isC := []) (isR := [0, 1, 2, 3, 4, 5, 6, 7, 8, 9, 10, 11, 12, 13, 14, 15, 16, 17, 18, 19, 20, 21, 22, 23]) (isB := [0, 1, 2, 3, 4, 5, 6, 7, 8, 9, 10, 11, 12, 13, 14, 15, 16, 17, 18, 19, 20, 21, 22, 23]) (ws' := W_F cI cV vf a x) ⟨([0, 1, 2, 3, 4, 5, 6, 7, 8, 9, 10, 11, 12, 13, 14, 15, 16, 17, 18, 19, 20, 21, 22, 23] : List Nat).filterMap (fun i : Nat => (W_F cI cV vf a x : va_W)[i]?), rfl, rfl, rfl, rfl, by decide, rfl, rfl⟩ rfl hl.1 rfl (Nat.le_of_ble_eq_true rfl) dX7_claim_18 ⟨Nat.le_of_ble_eq_true rfl, Nat.le_of_ble_eq_true rfl⟩ (fun E ce q9 H locs h20 hP hD hS hce hcv hcl => ?_) (fun rv9 H locs h20 hP hD hS => ?_)
    · obtain ⟨k18, hq9, hE9⟩ := rsV_x h20
      replace hf := thr_x hf hq9
      obtain rfl := Option.some.inj hf
      exact k_out htab hlocks hce hcv hcl (by rw [hE9]; rfl) hK hP hD hS (Nat.le_of_ble_eq_true rfl) (Nat.le_of_ble_eq_true rfl)
    obtain ⟨r19, hq9, rfl⟩ := rsV_v h20
    replace hf := thr_v hf hq9
    refine W.eq (g2 := F0 m 21 ls []) rfl ?_
    refine lv_aload_n hx hb dX7_claim_21 rfl (lv_at hl 0 rfl) ?_
    refine lv_iload_n hx hb dX7_claim_22 rfl (lv_at hl 1 rfl) ?_
    refine lv_iconst (v := 4) hx hb dX7_claim_23 (by decide) ?_
    obtain ⟨u21, hc22, hf⟩ := bind_t hf
    refine k_VX (As := [.int p1, .int 4]) (rest := []) (n := 2) ⟨hx, hb, hml, hown, hts⟩ (met_X7_needType l hlt k vf a hvf x p1 4 u21 hc22) w373 w375 ws8 w1 w376 ⟨rfl, by decide +kernel, by decide +kernel, by decide +kernel⟩ ⟨Nat.le_of_ble_eq_true rfl, Nat.le_of_ble_eq_true rfl⟩ hK hE hP hD hS hA (isC := [0, 1, 2, 3, 4, 5, 6, 7, 8, 9, 10, 11, 12, 13, 14, 15, 16, 17, 18, 19, 20, 21, 22, 23]) (isR := []) (isB := [0, 1, 2, 3, 4, 5, 6, 7, 8, 9, 10, 11, 12, 13, 14, 15, 16, 17, 18, 19, 20, 21, 22, 23]) (ws' := W_F cI cV vf a x) ⟨([] : List Nat).filterMap (fun i : Nat => (W_F cI cV vf a x : va_W)[i]?), rfl, rfl, rfl, rfl, by decide, rfl, rfl⟩ 0 6 rfl rfl rfl rfl hl.1 rfl (Nat.le_of_ble_eq_true rfl) dX7_claim_24 ⟨Nat.le_of_ble_eq_true rfl, Nat.le_of_ble_eq_true rfl⟩ (fun E ce q9 H locs h25 hP hD hS hce hcv hcl => ?_) (fun rv9 H locs h25 hP hD hS => ?_)
    · obtain ⟨k23, hq9, hE9⟩ := rsV_x h25
      replace hf := thr_x hf hq9
      obtain rfl := Option.some.inj hf
      exact k_out htab hlocks hce hcv hcl (by rw [hE9]; rfl) hK hP hD hS (Nat.le_of_ble_eq_true rfl) (Nat.le_of_ble_eq_true rfl)
    obtain ⟨r24, hq9, rfl⟩ := rsV_v h25
    replace hf := thr_v hf hq9
    refine W.eq (g2 := F0 m 27 ls []) rfl ?_
    refine lv_aload_n hx hb dX7_claim_27 rfl (lv_at hl 0 rfl) ?_
    obtain ⟨u26, hc27, hf⟩ := bind_t hf
    refine k_VX (As := []) (rest := []) (n := 0) ⟨hx, hb, hml, hown, hts⟩ (met_X7_needRowLeft l hlt k vf a hvf x u26 hc27) w398 w400 ws10 w1 w401 ⟨rfl, by decide +kernel, by decide +kernel, by decide +kernel⟩ ⟨Nat.le_of_ble_eq_true rfl, Nat.le_of_ble_eq_true rfl⟩ hK hE hP hD hS hA (isC := [0, 1, 2, 3, 4, 5, 6, 7, 8, 9, 10, 11, 12, 13, 14, 15, 16, 17, 18, 19, 20, 21, 22, 23]) (isR := []) (isB := [0, 1, 2, 3, 4, 5, 6, 7, 8, 9, 10, 11, 12, 13, 14, 15, 16, 17, 18, 19, 20, 21, 22, 23]) (ws' := W_F cI cV vf a x) ⟨([] : List Nat).filterMap (fun i : Nat => (W_F cI cV vf a x : va_W)[i]?), rfl, rfl, rfl, rfl, by decide, rfl, rfl⟩ 0 6 rfl rfl rfl rfl hl.1 rfl (Nat.le_of_ble_eq_true rfl) dX7_claim_28 ⟨Nat.le_of_ble_eq_true rfl, Nat.le_of_ble_eq_true rfl⟩ (fun E ce q9 H locs h30 hP hD hS hce hcv hcl => ?_) (fun rv9 H locs h30 hP hD hS => ?_)
    · obtain ⟨k28, hq9, hE9⟩ := rsV_x h30
      replace hf := thr_x hf hq9
      obtain rfl := Option.some.inj hf
      exact k_out htab hlocks hce hcv hcl (by rw [hE9]; rfl) hK hP hD hS (Nat.le_of_ble_eq_true rfl) (Nat.le_of_ble_eq_true rfl)
    obtain ⟨r29, hq9, rfl⟩ := rsV_v h30
    replace hf := thr_v hf hq9
    refine W.eq (g2 := F0 m 31 ls []) rfl ?_
    refine lv_aload_n hx hb dX7_claim_31 rfl (lv_at hl 0 rfl) ?_
    refine lv_bipush (v := 11) hx hb dX7_claim_32 (by decide) ?_
    refine lv_iload_n hx hb dX7_claim_34 rfl (lv_at hl 1 rfl) ?_
    refine lv_iload_n hx hb dX7_claim_35 rfl (lv_at hl 2 rfl) ?_
    refine lv_iload_n hx hb dX7_claim_36 rfl (lv_at hl 3 rfl) ?_
    refine lv_iload hx hb dX7_claim_37 (lv_at hl 4 rfl) ?_
    obtain ⟨u31, hc32, hf⟩ := bind_t hf
    refine k_V (As := [.int 11, .int p1, .int p2, .int p3, .int p4]) (rest := []) (n := 5) ⟨hx, hb, hml, hown, hts⟩ (met_X7_call l k vf a hvf x 11 p1 p2 p3 p4 u31 hc32) w403 w405 ws11 w1 w406 ⟨rfl, by decide +kernel, by decide +kernel, by decide +kernel⟩ ⟨Nat.le_of_ble_eq_true rfl, Nat.le_of_ble_eq_true rfl⟩ hK hE hP hD hS hA (isC := [0, 1, 2, 3, 4, 5, 6, 7, 8, 9, 10, 11, 12, 13, 14, 15, 16, 17, 18, 19, 20, 21, 22, 23]) (isR := []) (isB := [0, 1, 2, 3, 4, 5, 6, 7, 8, 9, 10, 11, 12, 13, 14, 15, 16, 17, 18, 19, 20, 21, 22, 23]) (ws' := W_F cI cV vf a u31.1) ⟨([] : List Nat).filterMap (fun i : Nat => (W_F cI cV vf a x : va_W)[i]?), rfl, rfl, rfl, rfl, by decide, rfl, rfl⟩ 0 6 rfl rfl rfl rfl hl.1 rfl (Nat.le_of_ble_eq_true rfl) dX7_claim_39 ⟨Nat.le_of_ble_eq_true rfl, Nat.le_of_ble_eq_true rfl⟩ (fun H locs hP hD hS => ?_)
    try dsimp only at hf
    refine W.eq (g2 := F0 m 42 ls [.int u31.2]) rfl ?_
    obtain ⟨x33, hx33⟩ : ∃ z, z = u31.1 := ⟨_, rfl⟩
    replace hf := keep_e hf x33 hx33
    have hP : va_P D vwCl (W_F cI cV vf a x33) H := by rw [hx33]; exact hP
    have hD : va_D A (W_F cI cV vf a x33) := by rw [hx33]; exact hD
    obtain rfl := Option.some.inj hf
    refine vx_ret ?_
    exact W.iret (v := u31.2) hx hb hr (fun t ht hW => ⟨_, rfl, ⟨rfl, by rw [ht]; exact hP, va_K.moved hW.alike hK, hD, hS.F ht⟩⟩) hS.2.2 dX7_claim_42 hlocks
  exact M0 s.heap [] ls hf hP hD hS hl
/-! Compactforms.waiting(III)I -/
def fX7_waiting (k : Nat) (x : FSt) (p1 : Int32) (p2 : Int32) (p3 : Int32) : Option ((Int32 ⊕ Nat)) := (fX7_needKey p1).bind (fun u1 => thr u1 (fun k3 => some (.inr k3)) (fun r4 => (fX7_needGroup p2).bind (fun u6 => thr u6 (fun k8 => some (.inr k8)) (fun r9 => (fX7_needReader p3).bind (fun u11 => thr u11 (fun k13 => some (.inr k13)) (fun r14 => (fX7_typeNow k x p1).bind (fun u16 => (if u16 = 4 then chk (keyok p1 k) ((fX2_countWaiting (vlGr (fV x)) p2 p3).bind (fun u20 => some (.inl u20))) else some (.inl 0)))))))))
set_option maxHeartbeats 4000000 in
set_option maxRecDepth 100000 in
theorem met_X7_waiting {D : va_G} {cI cV cJ cD : ClassId} (l : Launch) (hlt : l.stackTraces = false) (k : Nat) (vf : Nat → Option Nat) (a : Nat → Nat) (hvf : vf k = some (a 6)) (x : FSt) (p1 : Int32) (p2 : Int32) (p3 : Int32) (res : (Int32 ⊕ Nat)) (hf : fX7_waiting k x p1 p2 p3 = some res) : MX l yX7_waiting cX7_waiting 4 (some .int) { frames := 7, cells := 3, slots := 18, locals := 120 } D (TY cI cV cJ cD) (W_F cI cV vf a x) (W_F cI cV vf a x) [.ref (a 0), .int p1, .int p2, .int p3] (rsI res) := by
  intro sz
  refine vx_ofW (cc := cX7_waiting) (maxL := 4) (ret := (some .int)) (by decide +kernel) rfl ?_
  intro p e s m args below meth c s₁ B hml htab hv
  obtain ⟨rfl, hsz, hP, hK, hD0, hE⟩ := hv
  have hx := B.exec
  have hb := B.bytes
  have hr := B.returns
  have hts := atoms_spec (ws := .code yX7_waiting cX7_waiting 4 (some .int) :: GW) B.pre
  have hg : ∀ w ∈ GW, w.before (([.ref (a 0), .int p1, .int p2, .int p3] : List Value).toArray) s = true := fun w h => hts w (List.mem_cons_of_mem _ h)
  have hown : s.vm.findClass RX7 = some m.cls := findClass_of_methodNamed B.named
  have hlocks := B.notSynchronized
  subst hsz
  have hD := hD0.self (sz := s.heap.size)
  generalize hAe : va_A (W_F cI cV vf a x) s.heap.size = A at hD hE ⊢
  have hA : ∀ q : Nat, s.heap.size ≤ q → A q := fun q h => by rw [← hAe]; exact Or.inr h
  have hS : va_S A s.heap s.heap [] := va_S.rf
  have hl := lv_entry ([.ref (a 0), .int p1, .int p2, .int p3]) (n := 4) (Nat.le_of_ble_eq_true rfl)
  rw [lg_entry_eq]
  generalize (lg_sl ([.ref (a 0), .int p1, .int p2, .int p3]) ++ List.replicate (4 - (lg_sl ([.ref (a 0), .int p1, .int p2, .int p3])).length) Slot.unset).toArray = ls at hl ⊢
  have hl : lv_has ls 4 [(0, .ref (a 0)), (1, .int p1), (2, .int p2), (3, .int p3)] := hl
  have M0 : ∀ (H : Heap) (locs : List Loc) (ls : Array Slot), fX7_waiting k x p1 p2 p3 = some res → va_P D vwCl (W_F cI cV vf a x) H → va_D A (W_F cI cV vf a x) → va_S A s.heap H locs → lv_has ls 4 [(0, .ref (a 0)), (1, .int p1), (2, .int p2), (3, .int p3)] → W p l e ({ frames := 7, cells := 3, slots := 18, locals := 120 } : Room) s m ([.ref (a 0), .int p1, .int p2, .int p3] : List Value).toArray below meth c H locs 0 0 (vx_MQ below (QR D (TY cI cV cJ cD) (W_F cI cV vf a x) A (rsI res)) (XR D (TY cI cV cJ cD) (W_F cI cV vf a x) A (rsI res)) (([.ref (a 0), .int p1, .int p2, .int p3] : List Value).toArray) s 3 18 A) (F0 m 0 ls []) := by
    intro H locs ls hf hP hD hS hl
    dsimp only [fX7_waiting] at hf
    refine lv_iload_n hx hb dX7_waiting_0 rfl (lv_at hl 1 rfl) ?_
    obtain ⟨u1, hc2, hf⟩ := bind_t hf
    refine k_SX (As := [.int p1]) (rest := []) (n := 1) ⟨hx, hb, hml, hown, hts⟩ (met_X7_needKey l hlt p1 u1 hc2) w209 w210 w1 w211 ⟨by decide +kernel, by decide +kernel, by decide +kernel⟩ ⟨Nat.le_of_ble_eq_true rfl, Nat.le_of_ble_eq_true rfl⟩ hK hE hP hD hS hA (isC := []) (isR := [0, 1, 2, 3, 4, 5, 6, 7, 8, 9, 10, 11, 12, 13, 14, 15, 16, 17, 18, 19, 20, 21, 22, 23]) (isB := [0, 1, 2, 3, 4, 5, 6, 7, 8, 9, 10, 11, 12, 13, 14, 15, 16, 17, 18, 19, 20, 21, 22, 23]) (ws' := W_F cI cV vf a x) ⟨([0, 1, 2, 3, 4, 5, 6, 7, 8, 9, 10, 11, 12, 13, 14, 15, 16, 17, 18, 19, 20, 21, 22, 23] : List Nat).filterMap (fun i : Nat => (W_F cI cV vf a x : va_W)[i]?), rfl, rfl, rfl, rfl, by decide, rfl, rfl⟩ rfl hl.1 rfl (Nat.le_of_ble_eq_true rfl) dX7_waiting_1 ⟨Nat.le_of_ble_eq_true rfl, Nat.le_of_ble_eq_true rfl⟩ (fun E ce q9 H locs h5 hP hD hS hce hcv hcl => ?_) (fun rv9 H locs h5 hP hD hS => ?_)
    · obtain ⟨k3, hq9, hE9⟩ := rsV_x h5
      replace hf := thr_x hf hq9
      obtain rfl := Option.some.inj hf
      exact k_out htab hlocks hce hcv hcl (by rw [hE9]; rfl) hK hP hD hS (Nat.le_of_ble_eq_true rfl) (Nat.le_of_ble_eq_true rfl)
    obtain ⟨r4, hq9, rfl⟩ := rsV_v h5
    replace hf := thr_v hf hq9
    refine W.eq (g2 := F0 m 4 ls []) rfl ?_
    refine lv_iload_n hx hb dX7_waiting_4 rfl (lv_at hl 2 rfl) ?_
    obtain ⟨u6, hc7, hf⟩ := bind_t hf
    refine k_SX (As := [.int p2]) (rest := []) (n := 1) ⟨hx, hb, hml, hown, hts⟩ (met_X7_needGroup l hlt p2 u6 hc7) w600 w601 w1 w602 ⟨by decide +kernel, by decide +kernel, by decide +kernel⟩ ⟨Nat.le_of_ble_eq_true rfl, Nat.le_of_ble_eq_true rfl⟩ hK hE hP hD hS hA (isC := []) (isR := [0, 1, 2, 3, 4, 5, 6, 7, 8, 9, 10, 11, 12, 13, 14, 15, 16, 17, 18, 19, 20, 21, 22, 23]) (isB := [0, 1, 2, 3, 4, 5, 6, 7, 8, 9, 10, 11, 12, 13, 14, 15, 16, 17, 18, 19, 20, 21, 22, 23]) (ws' := W_F cI cV vf a x) ⟨([0, 1, 2, 3, 4, 5, 6, 7, 8, 9, 10, 11, 12, 13, 14, 15, 16, 17, 18, 19, 20, 21, 22, 23] : List Nat).filterMap (fun i : Nat => (W_F cI cV vf a x : va_W)[i]?), rfl, rfl, rfl, rfl, by decide, rfl, rfl⟩ rfl hl.1 rfl (Nat.le_of_ble_eq_true rfl) dX7_waiting_5 ⟨Nat.le_of_ble_eq_true rfl, Nat.le_of_ble_eq_true rfl⟩ (fun E ce q9 H locs h10 hP hD hS hce hcv hcl => ?_) (fun rv9 H locs h10 hP hD hS => ?_)
    · obtain ⟨k8, hq9, hE9⟩ := rsV_x h10
      replace hf := thr_x hf hq9
      obtain rfl := Option.some.inj hf
      exact k_out htab hlocks hce hcv hcl (by rw [hE9]; rfl) hK hP hD hS (Nat.le_of_ble_eq_true rfl) (Nat.le_of_ble_eq_true rfl)
    obtain ⟨r9, hq9, rfl⟩ := rsV_v h10
    replace hf := thr_v hf hq9
    refine W.eq (g2 := F0 m 8 ls []) rfl ?_
    refine lv_iload_n hx hb dX7_waiting_8 rfl (lv_at hl 3 rfl) ?_
    obtain ⟨u11, hc12, hf⟩ := bind_t hf
    refine k_SX (As := [.int p3]) (rest := []) (n := 1) ⟨hx, hb, hml, hown, hts⟩ (met_X7_needReader l hlt p3 u11 hc12) w605 w606 w1 w607 ⟨by decide +kernel, by decide +kernel, by decide +kernel⟩ ⟨Nat.le_of_ble_eq_true rfl, Nat.le_of_ble_eq_true rfl⟩ hK hE hP hD hS hA (isC := []) (isR := [0, 1, 2, 3, 4, 5, 6, 7, 8, 9, 10, 11, 12, 13, 14, 15, 16, 17, 18, 19, 20, 21, 22, 23]) (isB := [0, 1, 2, 3, 4, 5, 6, 7, 8, 9, 10, 11, 12, 13, 14, 15, 16, 17, 18, 19, 20, 21, 22, 23]) (ws' := W_F cI cV vf a x) ⟨([0, 1, 2, 3, 4, 5, 6, 7, 8, 9, 10, 11, 12, 13, 14, 15, 16, 17, 18, 19, 20, 21, 22, 23] : List Nat).filterMap (fun i : Nat => (W_F cI cV vf a x : va_W)[i]?), rfl, rfl, rfl, rfl, by decide, rfl, rfl⟩ rfl hl.1 rfl (Nat.le_of_ble_eq_true rfl) dX7_waiting_9 ⟨Nat.le_of_ble_eq_true rfl, Nat.le_of_ble_eq_true rfl⟩ (fun E ce q9 H locs h15 hP hD hS hce hcv hcl => ?_) (fun rv9 H locs h15 hP hD hS => ?_)
    · obtain ⟨k13, hq9, hE9⟩ := rsV_x h15
      replace hf := thr_x hf hq9
      obtain rfl := Option.some.inj hf
      exact k_out htab hlocks hce hcv hcl (by rw [hE9]; rfl) hK hP hD hS (Nat.le_of_ble_eq_true rfl) (Nat.le_of_ble_eq_true rfl)
    obtain ⟨r14, hq9, rfl⟩ := rsV_v h15
    replace hf := thr_v hf hq9
    refine W.eq (g2 := F0 m 12 ls []) rfl ?_
    refine lv_aload_n hx hb dX7_waiting_12 rfl (lv_at hl 0 rfl) ?_
    refine lv_iload_n hx hb dX7_waiting_13 rfl (lv_at hl 1 rfl) ?_
    obtain ⟨u16, hc17, hf⟩ := bind_t hf
    refine k_V (As := [.int p1]) (rest := []) (n := 1) ⟨hx, hb, hml, hown, hts⟩ (met_X7_typeNow l k vf a hvf x p1 u16 hc17) w286 w288 ws1 w1 w289 ⟨rfl, by decide +kernel, by decide +kernel, by decide +kernel⟩ ⟨Nat.le_of_ble_eq_true rfl, Nat.le_of_ble_eq_true rfl⟩ hK hE hP hD hS hA (isC := [0, 1, 2, 3, 4, 5, 6, 7, 8, 9, 10, 11, 12, 13, 14, 15, 16, 17, 18, 19, 20, 21, 22, 23]) (isR := []) (isB := [0, 1, 2, 3, 4, 5, 6, 7, 8, 9, 10, 11, 12, 13, 14, 15, 16, 17, 18, 19, 20, 21, 22, 23]) (ws' := W_F cI cV vf a x) ⟨([] : List Nat).filterMap (fun i : Nat => (W_F cI cV vf a x : va_W)[i]?), rfl, rfl, rfl, rfl, by decide, rfl, rfl⟩ 0 6 rfl rfl rfl rfl hl.1 rfl (Nat.le_of_ble_eq_true rfl) dX7_waiting_14 ⟨Nat.le_of_ble_eq_true rfl, Nat.le_of_ble_eq_true rfl⟩ (fun H locs hP hD hS => ?_)
    try dsimp only at hf
    refine W.eq (g2 := F0 m 17 ls [.int u16]) rfl ?_
    refine lv_iconst (v := 4) hx hb dX7_waiting_17 (by decide) ?_
    refine lv_icmp_ne (tgt := 38) hx hb dX7_waiting_18 (by decide) (fun c18 => ?_) (fun c18 => ?_)
    · replace hf := if_f c18 hf
      refine lv_iconst (v := 0) hx hb dX7_waiting_38 (by decide) ?_
      obtain rfl := Option.some.inj hf
      refine vx_ret ?_
      exact W.iret (v := 0) hx hb hr (fun t ht hW => ⟨_, rfl, ⟨rfl, by rw [ht]; exact hP, va_K.moved hW.alike hK, hD, hS.F ht⟩⟩) hS.2.2 dX7_waiting_39 hlocks
    · replace hf := if_t c18 hf
      refine lv_aload_n hx hb dX7_waiting_21 rfl (lv_at hl 0 rfl) ?_
      refine va_get (D := D) (ci := 6) (v := .ref (a 1)) (C := RX7) (T := TX7) (N := 8) hx hb hg in_X7 hown hK hP 0 rfl rfl 0 (by decide) (hg _ w167) (fun _ h9 => h9) rfl dX7_waiting_22 ?_
      refine lv_iload_n hx hb dX7_waiting_25 rfl (lv_at hl 1 rfl) ?_
      obtain ⟨hi19, hf⟩ := chk_t hf
      refine va_aldq hx hb hK hP 1 1 rfl rfl (keyok_i hi19) dX7_waiting_26 ?_
      refine W.eq (g2 := F0 m 27 ls [.ref (a 6)]) (by rw [keyok_k hi19, hvf]; rfl) ?_
      refine va_getN (D := D) (ci := 5) (v := .ref (a 21)) (C := RX6) (T := TX6) (N := 10) hx hb hg in_X6 hown hK hP 6 rfl rfl 8 (by decide) (nwF_93 hE.1) (fun _ h9 => h9) rfl dX7_waiting_27 ?_
      refine lv_iload_n hx hb dX7_waiting_30 rfl (lv_at hl 2 rfl) ?_
      refine lv_iload_n hx hb dX7_waiting_31 rfl (lv_at hl 3 rfl) ?_
      obtain ⟨u20, hc21, hf⟩ := bind_t hf
      refine k_V (As := [.int p2, .int p3]) (rest := []) (n := 2) ⟨hx, hb, hml, hown, hts⟩ (met_X2_countWaiting l (fun j => a (21 + j)) (vlGr (fV x)) p2 p3 u20 hc21) w689 w690 w691 w8 w692 ⟨rfl, by decide +kernel, by decide +kernel, by decide +kernel⟩ ⟨Nat.le_of_ble_eq_true rfl, Nat.le_of_ble_eq_true rfl⟩ hK hE hP hD hS hA (isC := [21, 22, 23]) (isR := [0, 1, 2, 3, 4, 5, 6, 7, 8, 9, 10, 11, 12, 13, 14, 15, 16, 17, 18, 19, 20]) (isB := [0, 1, 2, 3, 4, 5, 6, 7, 8, 9, 10, 11, 12, 13, 14, 15, 16, 17, 18, 19, 20, 21, 22, 23]) (ws' := W_F cI cV vf a x) ⟨([0, 1, 2, 3, 4, 5, 6, 7, 8, 9, 10, 11, 12, 13, 14, 15, 16, 17, 18, 19, 20] : List Nat).filterMap (fun i : Nat => (W_F cI cV vf a x : va_W)[i]?), rfl, rfl, rfl, rfl, by decide, rfl, rfl⟩ 21 1 rfl rfl rfl rfl hl.1 rfl (Nat.le_of_ble_eq_true rfl) dX7_waiting_32 ⟨Nat.le_of_ble_eq_true rfl, Nat.le_of_ble_eq_true rfl⟩ (fun H locs hP hD hS => ?_)
      try dsimp only at hf
      refine W.eq (g2 := F0 m 35 ls [.int u20]) rfl ?_
      refine lv_goto (tgt := 39) hx hb dX7_waiting_35 (by decide) ?_
      obtain rfl := Option.some.inj hf
      refine vx_ret ?_
      exact W.iret (v := u20) hx hb hr (fun t ht hW => ⟨_, rfl, ⟨rfl, by rw [ht]; exact hP, va_K.moved hW.alike hK, hD, hS.F ht⟩⟩) hS.2.2 dX7_waiting_39 hlocks
  exact M0 s.heap [] ls hf hP hD hS hl
/-! Compactforms.remove(I)Z -/
def fX7_remove (k : Nat) (x : FSt) (p1 : Int32) : Option (FSt × (Int32 ⊕ Nat)) := (fX7_needKey p1).bind (fun u1 => thr u1 (fun k3 => some (x, .inr k3)) (fun r4 => (fX7_needRowLeft k x).bind (fun u6 => thr u6 (fun k8 => some (x, .inr k8)) (fun r9 => (fX7_call k x 7 p1 0 0 0).bind (fun u11 => keep u11.1 (fun x13 => (if u11.2 ≤ 0 then some (x13, (.inl 0)) else some (x13, (.inl 1)))))))))
set_option maxHeartbeats 4000000 in
set_option maxRecDepth 100000 in
theorem met_X7_remove {D : va_G} {cI cV cJ cD : ClassId} (l : Launch) (hlt : l.stackTraces = false) (k : Nat) (vf : Nat → Option Nat) (a : Nat → Nat) (hvf : vf k = some (a 6)) (x : FSt) (p1 : Int32) (res : FSt × (Int32 ⊕ Nat)) (hf : fX7_remove k x p1 = some res) : MX l yX7_remove cX7_remove 2 (some .boolean) { frames := 7, cells := 2, slots := 12, locals := 180 } D (TY cI cV cJ cD) (W_F cI cV vf a x) (W_F cI cV vf a res.1) [.ref (a 0), .int p1] (rsI res.2) := by
  intro sz
  refine vx_ofW (cc := cX7_remove) (maxL := 2) (ret := (some .boolean)) (by decide +kernel) rfl ?_
  intro p e s m args below meth c s₁ B hml htab hv
  obtain ⟨rfl, hsz, hP, hK, hD0, hE⟩ := hv
  have hx := B.exec
  have hb := B.bytes
  have hr := B.returns
  have hts := atoms_spec (ws := .code yX7_remove cX7_remove 2 (some .boolean) :: GW) B.pre
  have hg : ∀ w ∈ GW, w.before (([.ref (a 0), .int p1] : List Value).toArray) s = true := fun w h => hts w (List.mem_cons_of_mem _ h)
  have hown : s.vm.findClass RX7 = some m.cls := findClass_of_methodNamed B.named
  have hlocks := B.notSynchronized
  subst hsz
  have hD := hD0.self (sz := s.heap.size)
  generalize hAe : va_A (W_F cI cV vf a x) s.heap.size = A at hD hE ⊢
  have hA : ∀ q : Nat, s.heap.size ≤ q → A q := fun q h => by rw [← hAe]; exact Or.inr h
  have hS : va_S A s.heap s.heap [] := va_S.rf
  have hl := lv_entry ([.ref (a 0), .int p1]) (n := 2) (Nat.le_of_ble_eq_true rfl)
  rw [lg_entry_eq]
  generalize (lg_sl ([.ref (a 0), .int p1]) ++ List.replicate (2 - (lg_sl ([.ref (a 0), .int p1])).length) Slot.unset).toArray = ls at hl ⊢
  have hl : lv_has ls 2 [(0, .ref (a 0)), (1, .int p1)] := hl
  have M0 : ∀ (H : Heap) (locs : List Loc) (ls : Array Slot), fX7_remove k x p1 = some res → va_P D vwCl (W_F cI cV vf a x) H → va_D A (W_F cI cV vf a x) → va_S A s.heap H locs → lv_has ls 2 [(0, .ref (a 0)), (1, .int p1)] → W p l e ({ frames := 7, cells := 2, slots := 12, locals := 180 } : Room) s m ([.ref (a 0), .int p1] : List Value).toArray below meth c H locs 0 0 (vx_MQ below (QR D (TY cI cV cJ cD) (W_F cI cV vf a res.1) A (rsI res.2)) (XR D (TY cI cV cJ cD) (W_F cI cV vf a res.1) A (rsI res.2)) (([.ref (a 0), .int p1] : List Value).toArray) s 2 12 A) (F0 m 0 ls []) := by
    intro H locs ls hf hP hD hS hl
    dsimp only [fX7_remove] at hf
    refine lv_iload_n hx hb dX7_remove_0 rfl (lv_at hl 1 rfl) ?_
    obtain ⟨u1, hc2, hf⟩ := bind_t hf
    refine k_SX (As := [.int p1]) (rest := []) (n := 1) ⟨hx, hb, hml, hown, hts⟩ (met_X7_needKey l hlt p1 u1 hc2) w209 w210 w1 w211 ⟨by decide +kernel, by decide +kernel, by decide +kernel⟩ ⟨Nat.le_of_ble_eq_true rfl, Nat.le_of_ble_eq_true rfl⟩ hK hE hP hD hS hA (isC := []) (isR := [0, 1, 2, 3, 4, 5, 6, 7, 8, 9, 10, 11, 12, 13, 14, 15, 16, 17, 18, 19, 20, 21, 22, 23]) (isB := [0, 1, 2, 3, 4, 5, 6, 7, 8, 9, 10, 11, 12, 13, 14, 15, 16, 17, 18, 19, 20, 21, 22, 23]) (ws' := W_F cI cV vf a x) ⟨([0, 1, 2, 3, 4, 5, 6, 7, 8, 9, 10, 11, 12, 13, 14, 15, 16, 17, 18, 19, 20, 21, 22, 23] : List Nat).filterMap (fun i : Nat => (W_F cI cV vf a x : va_W)[i]?), rfl, rfl, rfl, rfl, by decide, rfl, rfl⟩ rfl hl.1 rfl (Nat.le_of_ble_eq_true rfl) dX7_remove_1 ⟨Nat.le_of_ble_eq_true rfl, Nat.le_of_ble_eq_true rfl⟩ (fun E ce q9 H locs h5 hP hD hS hce hcv hcl => ?_) (fun rv9 H locs h5 hP hD hS => ?_)
    · obtain ⟨k3, hq9, hE9⟩ := rsV_x h5
      replace hf := thr_x hf hq9
      obtain rfl := Option.some.inj hf
      exact k_out htab hlocks hce hcv hcl (by rw [hE9]; rfl) hK hP hD hS (Nat.le_of_ble_eq_true rfl) (Nat.le_of_ble_eq_true rfl)
    obtain ⟨r4, hq9, rfl⟩ := rsV_v h5
    replace hf := thr_v hf hq9
    refine W.eq (g2 := F0 m 4 ls []) rfl ?_
    refine lv_aload_n hx hb dX7_remove_4 rfl (lv_at hl 0 rfl) ?_
    obtain ⟨u6, hc7, hf⟩ := bind_t hf
    refine k_VX (As := []) (rest := []) (n := 0) ⟨hx, hb, hml, hown, hts⟩ (met_X7_needRowLeft l hlt k vf a hvf x u6 hc7) w398 w400 ws10 w1 w401 ⟨rfl, by decide +kernel, by decide +kernel, by decide +kernel⟩ ⟨Nat.le_of_ble_eq_true rfl, Nat.le_of_ble_eq_true rfl⟩ hK hE hP hD hS hA (isC := [0, 1, 2, 3, 4, 5, 6, 7, 8, 9, 10, 11, 12, 13, 14, 15, 16, 17, 18, 19, 20, 21, 22, 23]) (isR := []) (isB := [0, 1, 2, 3, 4, 5, 6, 7, 8, 9, 10, 11, 12, 13, 14, 15, 16, 17, 18, 19, 20, 21, 22, 23]) (ws' := W_F cI cV vf a x) ⟨([] : List Nat).filterMap (fun i : Nat => (W_F cI cV vf a x : va_W)[i]?), rfl, rfl, rfl, rfl, by decide, rfl, rfl⟩ 0 6 rfl rfl rfl rfl hl.1 rfl (Nat.le_of_ble_eq_true rfl) dX7_remove_5 ⟨Nat.le_of_ble_eq_true rfl, Nat.le_of_ble_eq_true rfl⟩ (fun E ce q9 H locs h10 hP hD hS hce hcv hcl => ?_) (fun rv9 H locs h10 hP hD hS => ?_)
    · obtain ⟨k8, hq9, hE9⟩ := rsV_x h10
      replace hf := thr_x hf hq9
      obtain rfl := Option.some.inj hf
      exact k_out htab hlocks hce hcv hcl (by rw [hE9]; rfl) hK hP hD hS (Nat.le_of_ble_eq_true rfl) (Nat.le_of_ble_eq_true rfl)
    obtain ⟨r9, hq9, rfl⟩ := rsV_v h10
    replace hf := thr_v hf hq9
    refine W.eq (g2 := F0 m 8 ls []) rfl ?_
    refine lv_aload_n hx hb dX7_remove_8 rfl (lv_at hl 0 rfl) ?_
    refine lv_bipush (v := 7) hx hb dX7_remove_9 (by decide) ?_
    refine lv_iload_n hx hb dX7_remove_11 rfl (lv_at hl 1 rfl) ?_
    refine lv_iconst (v := 0) hx hb dX7_remove_12 (by decide) ?_
    refine lv_iconst (v := 0) hx hb dX7_remove_13 (by decide) ?_
    refine lv_iconst (v := 0) hx hb dX7_remove_14 (by decide) ?_
    obtain ⟨u11, hc12, hf⟩ := bind_t hf
    refine k_V (As := [.int 7, .int p1, .int 0, .int 0, .int 0]) (rest := []) (n := 5) ⟨hx, hb, hml, hown, hts⟩ (met_X7_call l k vf a hvf x 7 p1 0 0 0 u11 hc12) w403 w405 ws11 w1 w406 ⟨rfl, by decide +kernel, by decide +kernel, by decide +kernel⟩ ⟨Nat.le_of_ble_eq_true rfl, Nat.le_of_ble_eq_true rfl⟩ hK hE hP hD hS hA (isC := [0, 1, 2, 3, 4, 5, 6, 7, 8, 9, 10, 11, 12, 13, 14, 15, 16, 17, 18, 19, 20, 21, 22, 23]) (isR := []) (isB := [0, 1, 2, 3, 4, 5, 6, 7, 8, 9, 10, 11, 12, 13, 14, 15, 16, 17, 18, 19, 20, 21, 22, 23]) (ws' := W_F cI cV vf a u11.1) ⟨([] : List Nat).filterMap (fun i : Nat => (W_F cI cV vf a x : va_W)[i]?), rfl, rfl, rfl, rfl, by decide, rfl, rfl⟩ 0 6 rfl rfl rfl rfl hl.1 rfl (Nat.le_of_ble_eq_true rfl) dX7_remove_15 ⟨Nat.le_of_ble_eq_true rfl, Nat.le_of_ble_eq_true rfl⟩ (fun H locs hP hD hS => ?_)
    try dsimp only at hf
    refine W.eq (g2 := F0 m 18 ls [.int u11.2]) rfl ?_
    obtain ⟨x13, hx13⟩ : ∃ z, z = u11.1 := ⟨_, rfl⟩
    replace hf := keep_e hf x13 hx13
    have hP : va_P D vwCl (W_F cI cV vf a x13) H := by rw [hx13]; exact hP
    have hD : va_D A (W_F cI cV vf a x13) := by rw [hx13]; exact hD
    refine lv_if_le (tgt := 25) hx hb dX7_remove_18 (by decide) (fun c14 => ?_) (fun c14 => ?_)
    · replace hf := if_t c14 hf
      refine lv_iconst (v := 0) hx hb dX7_remove_25 (by decide) ?_
      obtain rfl := Option.some.inj hf
      refine vx_ret ?_
      exact W.zret (v := 0) hx hb hr (by decide +kernel) (fun t ht hW => ⟨_, rfl, ⟨rfl, by rw [ht]; exact hP, va_K.moved hW.alike hK, hD, hS.F ht⟩⟩) hS.2.2 dX7_remove_26 hlocks
    · replace hf := if_f c14 hf
      refine lv_iconst (v := 1) hx hb dX7_remove_21 (by decide) ?_
      refine lv_goto (tgt := 26) hx hb dX7_remove_22 (by decide) ?_
      obtain rfl := Option.some.inj hf
      refine vx_ret ?_
      exact W.zret (v := 1) hx hb hr (by decide +kernel) (fun t ht hW => ⟨_, rfl, ⟨rfl, by rw [ht]; exact hP, va_K.moved hW.alike hK, hD, hS.F ht⟩⟩) hS.2.2 dX7_remove_26 hlocks
  exact M0 s.heap [] ls hf hP hD hS hl
/-! Compactforms.expire(II)Z -/
def fX7_expire (k : Nat) (x : FSt) (p1 : Int32) (p2 : Int32) : Option (FSt × (Int32 ⊕ Nat)) := (fX7_needKey p1).bind (fun u1 => thr u1 (fun k3 => some (x, .inr k3)) (fun r4 => (fX7_needWithin p2 1 1000).bind (fun u6 => thr u6 (fun k8 => some (x, .inr k8)) (fun r9 => (fX7_needRowLeft k x).bind (fun u11 => thr u11 (fun k13 => some (x, .inr k13)) (fun r14 => (fX7_call k x 8 p1 p2 0 0).bind (fun u16 => keep u16.1 (fun x18 => (if u16.2 ≤ 0 then some (x18, (.inl 0)) else some (x18, (.inl 1)))))))))))
set_option maxHeartbeats 4000000 in
set_option maxRecDepth 100000 in
theorem met_X7_expire {D : va_G} {cI cV cJ cD : ClassId} (l : Launch) (hlt : l.stackTraces = false) (k : Nat) (vf : Nat → Option Nat) (a : Nat → Nat) (hvf : vf k = some (a 6)) (x : FSt) (p1 : Int32) (p2 : Int32) (res : FSt × (Int32 ⊕ Nat)) (hf : fX7_expire k x p1 p2 = some res) : MX l yX7_expire cX7_expire 3 (some .boolean) { frames := 7, cells := 3, slots := 18, locals := 180 } D (TY cI cV cJ cD) (W_F cI cV vf a x) (W_F cI cV vf a res.1) [.ref (a 0), .int p1, .int p2] (rsI res.2) := by
  intro sz
  refine vx_ofW (cc := cX7_expire) (maxL := 3) (ret := (some .boolean)) (by decide +kernel) rfl ?_
  intro p e s m args below meth c s₁ B hml htab hv
  obtain ⟨rfl, hsz, hP, hK, hD0, hE⟩ := hv
  have hx := B.exec
  have hb := B.bytes
  have hr := B.returns
  have hts := atoms_spec (ws := .code yX7_expire cX7_expire 3 (some .boolean) :: GW) B.pre
  have hg : ∀ w ∈ GW, w.before (([.ref (a 0), .int p1, .int p2] : List Value).toArray) s = true := fun w h => hts w (List.mem_cons_of_mem _ h)
  have hown : s.vm.findClass RX7 = some m.cls := findClass_of_methodNamed B.named
  have hlocks := B.notSynchronized
  subst hsz
  have hD := hD0.self (sz := s.heap.size)
  generalize hAe : va_A (W_F cI cV vf a x) s.heap.size = A at hD hE ⊢
  have hA : ∀ q : Nat, s.heap.size ≤ q → A q := fun q h => by rw [← hAe]; exact Or.inr h
  have hS : va_S A s.heap s.heap [] := va_S.rf
  have hl := lv_entry ([.ref (a 0), .int p1, .int p2]) (n := 3) (Nat.le_of_ble_eq_true rfl)
  rw [lg_entry_eq]
  generalize (lg_sl ([.ref (a 0), .int p1, .int p2]) ++ List.replicate (3 - (lg_sl ([.ref (a 0), .int p1, .int p2])).length) Slot.unset).toArray = ls at hl ⊢
  have hl : lv_has ls 3 [(0, .ref (a 0)), (1, .int p1), (2, .int p2)] := hl
  have M0 : ∀ (H : Heap) (locs : List Loc) (ls : Array Slot), fX7_expire k x p1 p2 = some res → va_P D vwCl (W_F cI cV vf a x) H → va_D A (W_F cI cV vf a x) → va_S A s.heap H locs → lv_has ls 3 [(0, .ref (a 0)), (1, .int p1), (2, .int p2)] → W p l e ({ frames := 7, cells := 3, slots := 18, locals := 180 } : Room) s m ([.ref (a 0), .int p1, .int p2] : List Value).toArray below meth c H locs 0 0 (vx_MQ below (QR D (TY cI cV cJ cD) (W_F cI cV vf a res.1) A (rsI res.2)) (XR D (TY cI cV cJ cD) (W_F cI cV vf a res.1) A (rsI res.2)) (([.ref (a 0), .int p1, .int p2] : List Value).toArray) s 3 18 A) (F0 m 0 ls []) := by
    intro H locs ls hf hP hD hS hl
    dsimp only [fX7_expire] at hf
    refine lv_iload_n hx hb dX7_expire_0 rfl (lv_at hl 1 rfl) ?_
    obtain ⟨u1, hc2, hf⟩ := bind_t hf
    refine k_SX (As := [.int p1]) (rest := []) (n := 1) ⟨hx, hb, hml, hown, hts⟩ (met_X7_needKey l hlt p1 u1 hc2) w209 w210 w1 w211 ⟨by decide +kernel, by decide +kernel, by decide +kernel⟩ ⟨Nat.le_of_ble_eq_true rfl, Nat.le_of_ble_eq_true rfl⟩ hK hE hP hD hS hA (isC := []) (isR := [0, 1, 2, 3, 4, 5, 6, 7, 8, 9, 10, 11, 12, 13, 14, 15, 16, 17, 18, 19, 20, 21, 22, 23]) (isB := [0, 1, 2, 3, 4, 5, 6, 7, 8, 9, 10, 11, 12, 13, 14, 15, 16, 17, 18, 19, 20, 21, 22, 23]) (ws' := W_F cI cV vf a x) ⟨([0, 1, 2, 3, 4, 5, 6, 7, 8, 9, 10, 11, 12, 13, 14, 15, 16, 17, 18, 19, 20, 21, 22, 23] : List Nat).filterMap (fun i : Nat => (W_F cI cV vf a x : va_W)[i]?), rfl, rfl, rfl, rfl, by decide, rfl, rfl⟩ rfl hl.1 rfl (Nat.le_of_ble_eq_true rfl) dX7_expire_1 ⟨Nat.le_of_ble_eq_true rfl, Nat.le_of_ble_eq_true rfl⟩ (fun E ce q9 H locs h5 hP hD hS hce hcv hcl => ?_) (fun rv9 H locs h5 hP hD hS => ?_)
    · obtain ⟨k3, hq9, hE9⟩ := rsV_x h5
      replace hf := thr_x hf hq9
      obtain rfl := Option.some.inj hf
      exact k_out htab hlocks hce hcv hcl (by rw [hE9]; rfl) hK hP hD hS (Nat.le_of_ble_eq_true rfl) (Nat.le_of_ble_eq_true rfl)
    obtain ⟨r4, hq9, rfl⟩ := rsV_v h5
    replace hf := thr_v hf hq9
    refine W.eq (g2 := F0 m 4 ls []) rfl ?_
    refine lv_iload_n hx hb dX7_expire_4 rfl (lv_at hl 2 rfl) ?_
    refine lv_iconst (v := 1) hx hb dX7_expire_5 (by decide) ?_
    refine lv_sipush (v := 1000) hx hb dX7_expire_6 (by decide) ?_
    obtain ⟨u6, hc7, hf⟩ := bind_t hf
    refine k_SX (As := [.int p2, .int 1, .int 1000]) (rest := []) (n := 3) ⟨hx, hb, hml, hown, hts⟩ (met_X7_needWithin l hlt p2 1 1000 u6 hc7) w317 w318 w1 w319 ⟨by decide +kernel, by decide +kernel, by decide +kernel⟩ ⟨Nat.le_of_ble_eq_true rfl, Nat.le_of_ble_eq_true rfl⟩ hK hE hP hD hS hA (isC := []) (isR := [0, 1, 2, 3, 4, 5, 6, 7, 8, 9, 10, 11, 12, 13, 14, 15, 16, 17, 18, 19, 20, 21, 22, 23]) (isB := [0, 1, 2, 3, 4, 5, 6, 7, 8, 9, 10, 11, 12, 13, 14, 15, 16, 17, 18, 19, 20, 21, 22, 23]) (ws' := W_F cI cV vf a x) ⟨([0, 1, 2, 3, 4, 5, 6, 7, 8, 9, 10, 11, 12, 13, 14, 15, 16, 17, 18, 19, 20, 21, 22, 23] : List Nat).filterMap (fun i : Nat => (W_F cI cV vf a x : va_W)[i]?), rfl, rfl, rfl, rfl, by decide, rfl, rfl⟩ rfl hl.1 rfl (Nat.le_of_ble_eq_true rfl) dX7_expire_9 ⟨Nat.le_of_ble_eq_true rfl, Nat.le_of_ble_eq_true rfl⟩ (fun E ce q9 H locs h10 hP hD hS hce hcv hcl => ?_) (fun rv9 H locs h10 hP hD hS => ?_)
    · obtain ⟨k8, hq9, hE9⟩ := rsV_x h10
      replace hf := thr_x hf hq9
      obtain rfl := Option.some.inj hf
      exact k_out htab hlocks hce hcv hcl (by rw [hE9]; rfl) hK hP hD hS (Nat.le_of_ble_eq_true rfl) (Nat.le_of_ble_eq_true rfl)
    obtain ⟨r9, hq9, rfl⟩ := rsV_v h10
    replace hf := thr_v hf hq9
    refine W.eq (g2 := F0 m 12 ls []) rfl ?_
    refine lv_aload_n hx hb dX7_expire_12 rfl (lv_at hl 0 rfl) ?_
    obtain ⟨u11, hc12, hf⟩ := bind_t hf
    refine k_VX (As := []) (rest := []) (n := 0) ⟨hx, hb, hml, hown, hts⟩ (met_X7_needRowLeft l hlt k vf a hvf x u11 hc12) w398 w400 ws10 w1 w401 ⟨rfl, by decide +kernel, by decide +kernel, by decide +kernel⟩ ⟨Nat.le_of_ble_eq_true rfl, Nat.le_of_ble_eq_true rfl⟩ hK hE hP hD hS hA (isC := [0, 1, 2, 3, 4, 5, 6, 7, 8, 9, 10, 11, 12, 13, 14, 15, 16, 17, 18, 19, 20, 21, 22, 23]) (isR := []) (isB := [0, 1, 2, 3, 4, 5, 6, 7, 8, 9, 10, 11, 12, 13, 14, 15, 16, 17, 18, 19, 20, 21, 22, 23]) (ws' := W_F cI cV vf a x) ⟨([] : List Nat).filterMap (fun i : Nat => (W_F cI cV vf a x : va_W)[i]?), rfl, rfl, rfl, rfl, by decide, rfl, rfl⟩ 0 6 rfl rfl rfl rfl hl.1 rfl (Nat.le_of_ble_eq_true rfl) dX7_expire_13 ⟨Nat.le_of_ble_eq_true rfl, Nat.le_of_ble_eq_true rfl⟩ (fun E ce q9 H locs h15 hP hD hS hce hcv hcl => ?_) (fun rv9 H locs h15 hP hD hS => ?_)
    · obtain ⟨k13, hq9, hE9⟩ := rsV_x h15
      replace hf := thr_x hf hq9
      obtain rfl := Option.some.inj hf
      exact k_out htab hlocks hce hcv hcl (by rw [hE9]; rfl) hK hP hD hS (Nat.le_of_ble_eq_true rfl) (Nat.le_of_ble_eq_true rfl)
    obtain ⟨r14, hq9, rfl⟩ := rsV_v h15
    replace hf := thr_v hf hq9
    refine W.eq (g2 := F0 m 16 ls []) rfl ?_
    refine lv_aload_n hx hb dX7_expire_16 rfl (lv_at hl 0 rfl) ?_
    refine lv_bipush (v := 8) hx hb dX7_expire_17 (by decide) ?_
    refine lv_iload_n hx hb dX7_expire_19 rfl (lv_at hl 1 rfl) ?_
    refine lv_iload_n hx hb dX7_expire_20 rfl (lv_at hl 2 rfl) ?_
    refine lv_iconst (v := 0) hx hb dX7_expire_21 (by decide) ?_
    refine lv_iconst (v := 0) hx hb dX7_expire_22 (by decide) ?_
    obtain ⟨u16, hc17, hf⟩ := bind_t hf
    refine k_V (As := [.int 8, .int p1, .int p2, .int 0, .int 0]) (rest := []) (n := 5) ⟨hx, hb, hml, hown, hts⟩ (met_X7_call l k vf a hvf x 8 p1 p2 0 0 u16 hc17) w403 w405 ws11 w1 w406 ⟨rfl, by decide +kernel, by decide +kernel, by decide +kernel⟩ ⟨Nat.le_of_ble_eq_true rfl, Nat.le_of_ble_eq_true rfl⟩ hK hE hP hD hS hA (isC := [0, 1, 2, 3, 4, 5, 6, 7, 8, 9, 10, 11, 12, 13, 14, 15, 16, 17, 18, 19, 20, 21, 22, 23]) (isR := []) (isB := [0, 1, 2, 3, 4, 5, 6, 7, 8, 9, 10, 11, 12, 13, 14, 15, 16, 17, 18, 19, 20, 21, 22, 23]) (ws' := W_F cI cV vf a u16.1) ⟨([] : List Nat).filterMap (fun i : Nat => (W_F cI cV vf a x : va_W)[i]?), rfl, rfl, rfl, rfl, by decide, rfl, rfl⟩ 0 6 rfl rfl rfl rfl hl.1 rfl (Nat.le_of_ble_eq_true rfl) dX7_expire_23 ⟨Nat.le_of_ble_eq_true rfl, Nat.le_of_ble_eq_true rfl⟩ (fun H locs hP hD hS => ?_)
    try dsimp only at hf
    refine W.eq (g2 := F0 m 26 ls [.int u16.2]) rfl ?_
    obtain ⟨x18, hx18⟩ : ∃ z, z = u16.1 := ⟨_, rfl⟩
    replace hf := keep_e hf x18 hx18
    have hP : va_P D vwCl (W_F cI cV vf a x18) H := by rw [hx18]; exact hP
    have hD : va_D A (W_F cI cV vf a x18) := by rw [hx18]; exact hD
    refine lv_if_le (tgt := 33) hx hb dX7_expire_26 (by decide) (fun c19 => ?_) (fun c19 => ?_)
    · replace hf := if_t c19 hf
      refine lv_iconst (v := 0) hx hb dX7_expire_33 (by decide) ?_
      obtain rfl := Option.some.inj hf
      refine vx_ret ?_
      exact W.zret (v := 0) hx hb hr (by decide +kernel) (fun t ht hW => ⟨_, rfl, ⟨rfl, by rw [ht]; exact hP, va_K.moved hW.alike hK, hD, hS.F ht⟩⟩) hS.2.2 dX7_expire_34 hlocks
    · replace hf := if_f c19 hf
      refine lv_iconst (v := 1) hx hb dX7_expire_29 (by decide) ?_
      refine lv_goto (tgt := 34) hx hb dX7_expire_30 (by decide) ?_
      obtain rfl := Option.some.inj hf
      refine vx_ret ?_
      exact W.zret (v := 1) hx hb hr (by decide +kernel) (fun t ht hW => ⟨_, rfl, ⟨rfl, by rw [ht]; exact hP, va_K.moved hW.alike hK, hD, hS.F ht⟩⟩) hS.2.2 dX7_expire_34 hlocks
  exact M0 s.heap [] ls hf hP hD hS hl
/-! Compactforms.left(I)I -/
def fX7_left (k : Nat) (x : FSt) (p1 : Int32) : Option ((Int32 ⊕ Nat)) := (fX7_needKey p1).bind (fun u1 => thr u1 (fun k3 => some (.inr k3)) (fun r4 => (fX7_isThere k x p1).bind (fun u6 => (if u6 = 0 then some (.inl 0) else chk (keyok p1 k) (keep (vlEnd (fV x)) (fun y10 => (if y10 = (-1) then some (.inl (-1)) else some (.inl (y10 - (fClk x))))))))))
set_option maxHeartbeats 4000000 in
set_option maxRecDepth 100000 in
theorem met_X7_left {D : va_G} {cI cV cJ cD : ClassId} (l : Launch) (hlt : l.stackTraces = false) (k : Nat) (vf : Nat → Option Nat) (a : Nat → Nat) (hvf : vf k = some (a 6)) (x : FSt) (p1 : Int32) (res : (Int32 ⊕ Nat)) (hf : fX7_left k x p1 = some res) : MX l yX7_left cX7_left 3 (some .int) { frames := 7, cells := 1, slots := 6, locals := 120 } D (TY cI cV cJ cD) (W_F cI cV vf a x) (W_F cI cV vf a x) [.ref (a 0), .int p1] (rsI res) := by
  intro sz
  refine vx_ofW (cc := cX7_left) (maxL := 3) (ret := (some .int)) (by decide +kernel) rfl ?_
  intro p e s m args below meth c s₁ B hml htab hv
  obtain ⟨rfl, hsz, hP, hK, hD0, hE⟩ := hv
  have hx := B.exec
  have hb := B.bytes
  have hr := B.returns
  have hts := atoms_spec (ws := .code yX7_left cX7_left 3 (some .int) :: GW) B.pre
  have hg : ∀ w ∈ GW, w.before (([.ref (a 0), .int p1] : List Value).toArray) s = true := fun w h => hts w (List.mem_cons_of_mem _ h)
  have hown : s.vm.findClass RX7 = some m.cls := findClass_of_methodNamed B.named
  have hlocks := B.notSynchronized
  subst hsz
  have hD := hD0.self (sz := s.heap.size)
  generalize hAe : va_A (W_F cI cV vf a x) s.heap.size = A at hD hE ⊢
  have hA : ∀ q : Nat, s.heap.size ≤ q → A q := fun q h => by rw [← hAe]; exact Or.inr h
  have hS : va_S A s.heap s.heap [] := va_S.rf
  have hl := lv_entry ([.ref (a 0), .int p1]) (n := 3) (Nat.le_of_ble_eq_true rfl)
  rw [lg_entry_eq]
  generalize (lg_sl ([.ref (a 0), .int p1]) ++ List.replicate (3 - (lg_sl ([.ref (a 0), .int p1])).length) Slot.unset).toArray = ls at hl ⊢
  have hl : lv_has ls 3 [(0, .ref (a 0)), (1, .int p1)] := hl
  have M0 : ∀ (H : Heap) (locs : List Loc) (ls : Array Slot), fX7_left k x p1 = some res → va_P D vwCl (W_F cI cV vf a x) H → va_D A (W_F cI cV vf a x) → va_S A s.heap H locs → lv_has ls 3 [(0, .ref (a 0)), (1, .int p1)] → W p l e ({ frames := 7, cells := 1, slots := 6, locals := 120 } : Room) s m ([.ref (a 0), .int p1] : List Value).toArray below meth c H locs 0 0 (vx_MQ below (QR D (TY cI cV cJ cD) (W_F cI cV vf a x) A (rsI res)) (XR D (TY cI cV cJ cD) (W_F cI cV vf a x) A (rsI res)) (([.ref (a 0), .int p1] : List Value).toArray) s 1 6 A) (F0 m 0 ls []) := by
    intro H locs ls hf hP hD hS hl
    dsimp only [fX7_left] at hf
    refine lv_iload_n hx hb dX7_left_0 rfl (lv_at hl 1 rfl) ?_
    obtain ⟨u1, hc2, hf⟩ := bind_t hf
    refine k_SX (As := [.int p1]) (rest := []) (n := 1) ⟨hx, hb, hml, hown, hts⟩ (met_X7_needKey l hlt p1 u1 hc2) w209 w210 w1 w211 ⟨by decide +kernel, by decide +kernel, by decide +kernel⟩ ⟨Nat.le_of_ble_eq_true rfl, Nat.le_of_ble_eq_true rfl⟩ hK hE hP hD hS hA (isC := []) (isR := [0, 1, 2, 3, 4, 5, 6, 7, 8, 9, 10, 11, 12, 13, 14, 15, 16, 17, 18, 19, 20, 21, 22, 23]) (isB := [0, 1, 2, 3, 4, 5, 6, 7, 8, 9, 10, 11, 12, 13, 14, 15, 16, 17, 18, 19, 20, 21, 22, 23]) (ws' := W_F cI cV vf a x) ⟨([0, 1, 2, 3, 4, 5, 6, 7, 8, 9, 10, 11, 12, 13, 14, 15, 16, 17, 18, 19, 20, 21, 22, 23] : List Nat).filterMap (fun i : Nat => (W_F cI cV vf a x : va_W)[i]?), rfl, rfl, rfl, rfl, by decide, rfl, rfl⟩ rfl hl.1 rfl (Nat.le_of_ble_eq_true rfl) dX7_left_1 ⟨Nat.le_of_ble_eq_true rfl, Nat.le_of_ble_eq_true rfl⟩ (fun E ce q9 H locs h5 hP hD hS hce hcv hcl => ?_) (fun rv9 H locs h5 hP hD hS => ?_)
    · obtain ⟨k3, hq9, hE9⟩ := rsV_x h5
      replace hf := thr_x hf hq9
      obtain rfl := Option.some.inj hf
      exact k_out htab hlocks hce hcv hcl (by rw [hE9]; rfl) hK hP hD hS (Nat.le_of_ble_eq_true rfl) (Nat.le_of_ble_eq_true rfl)
    obtain ⟨r4, hq9, rfl⟩ := rsV_v h5
    replace hf := thr_v hf hq9
    refine W.eq (g2 := F0 m 4 ls []) rfl ?_
    refine lv_aload_n hx hb dX7_left_4 rfl (lv_at hl 0 rfl) ?_
    refine lv_iload_n hx hb dX7_left_5 rfl (lv_at hl 1 rfl) ?_
    obtain ⟨u6, hc7, hf⟩ := bind_t hf
    refine k_V (As := [.int p1]) (rest := []) (n := 1) ⟨hx, hb, hml, hown, hts⟩ (met_X7_isThere l k vf a hvf x p1 u6 hc7) w290 w292 ws2 w1 w293 ⟨rfl, by decide +kernel, by decide +kernel, by decide +kernel⟩ ⟨Nat.le_of_ble_eq_true rfl, Nat.le_of_ble_eq_true rfl⟩ hK hE hP hD hS hA (isC := [0, 1, 2, 3, 4, 5, 6, 7, 8, 9, 10, 11, 12, 13, 14, 15, 16, 17, 18, 19, 20, 21, 22, 23]) (isR := []) (isB := [0, 1, 2, 3, 4, 5, 6, 7, 8, 9, 10, 11, 12, 13, 14, 15, 16, 17, 18, 19, 20, 21, 22, 23]) (ws' := W_F cI cV vf a x) ⟨([] : List Nat).filterMap (fun i : Nat => (W_F cI cV vf a x : va_W)[i]?), rfl, rfl, rfl, rfl, by decide, rfl, rfl⟩ 0 6 rfl rfl rfl rfl hl.1 rfl (Nat.le_of_ble_eq_true rfl) dX7_left_6 ⟨Nat.le_of_ble_eq_true rfl, Nat.le_of_ble_eq_true rfl⟩ (fun H locs hP hD hS => ?_)
    try dsimp only at hf
    refine W.eq (g2 := F0 m 9 ls [.int u6]) rfl ?_
    refine lv_if_ne (tgt := 14) hx hb dX7_left_9 (by decide) (fun c8 => ?_) (fun c8 => ?_)
    · replace hf := if_f c8 hf
      refine lv_aload_n hx hb dX7_left_14 rfl (lv_at hl 0 rfl) ?_
      refine va_get (D := D) (ci := 6) (v := .ref (a 1)) (C := RX7) (T := TX7) (N := 8) hx hb hg in_X7 hown hK hP 0 rfl rfl 0 (by decide) (hg _ w167) (fun _ h9 => h9) rfl dX7_left_15 ?_
      refine lv_iload_n hx hb dX7_left_18 rfl (lv_at hl 1 rfl) ?_
      obtain ⟨hi9, hf⟩ := chk_t hf
      refine va_aldq hx hb hK hP 1 1 rfl rfl (keyok_i hi9) dX7_left_19 ?_
      refine W.eq (g2 := F0 m 20 ls [.ref (a 6)]) (by rw [keyok_k hi9, hvf]; rfl) ?_
      refine va_getN (D := D) (ci := 5) (v := .int (vlEnd (fV x))) (C := RX6) (T := TX6) (N := 10) hx hb hg in_X6 hown hK hP 6 rfl rfl 2 (by decide) (nwF_106 hE.1) (fun _ h9 => h9) rfl dX7_left_20 ?_
      refine lv_topi (fun y10 hy10 => ?_)
      replace hf := keep_e hf y10 hy10
      refine lv_istore_n (lv' := [(2, .int y10), (0, .ref (a 0)), (1, .int p1)]) hx hb dX7_left_23 rfl hl (by decide) rfl (fun ls hl => ?_)
      refine lv_iload_n hx hb dX7_left_24 rfl (lv_at hl 0 rfl) ?_
      refine lv_iconst (v := (-1)) hx hb dX7_left_25 (by decide) ?_
      refine lv_icmp_ne (tgt := 33) hx hb dX7_left_26 (by decide) (fun c11 => ?_) (fun c11 => ?_)
      · replace hf := if_f c11 hf
        refine lv_iload_n hx hb dX7_left_33 rfl (lv_at hl 0 rfl) ?_
        refine lv_aload_n hx hb dX7_left_34 rfl (lv_at hl 1 rfl) ?_
        refine va_get (D := D) (ci := 6) (v := .int (fClk x)) (C := RX7) (T := TX7) (N := 8) hx hb hg in_X7 hown hK hP 0 rfl rfl 5 (by decide) (hg _ w172) (fun _ h9 => h9) rfl dX7_left_35 ?_
        refine lv_isub hx hb dX7_left_38 ?_
        obtain rfl := Option.some.inj hf
        refine vx_ret ?_
        exact W.iret (v := (y10 - (fClk x))) hx hb hr (fun t ht hW => ⟨_, rfl, ⟨rfl, by rw [ht]; exact hP, va_K.moved hW.alike hK, hD, hS.F ht⟩⟩) hS.2.2 dX7_left_39 hlocks
      · replace hf := if_t c11 hf
        refine lv_iconst (v := (-1)) hx hb dX7_left_29 (by decide) ?_
        refine lv_goto (tgt := 39) hx hb dX7_left_30 (by decide) ?_
        obtain rfl := Option.some.inj hf
        refine vx_ret ?_
        exact W.iret (v := (-1)) hx hb hr (fun t ht hW => ⟨_, rfl, ⟨rfl, by rw [ht]; exact hP, va_K.moved hW.alike hK, hD, hS.F ht⟩⟩) hS.2.2 dX7_left_39 hlocks
    · replace hf := if_t c8 hf
      refine lv_iconst (v := 0) hx hb dX7_left_12 (by decide) ?_
      obtain rfl := Option.some.inj hf
      refine vx_ret ?_
      exact W.iret (v := 0) hx hb hr (fun t ht hW => ⟨_, rfl, ⟨rfl, by rw [ht]; exact hP, va_K.moved hW.alike hK, hD, hS.F ht⟩⟩) hS.2.2 dX7_left_13 hlocks
  exact M0 s.heap [] ls hf hP hD hS hl
/-! Compactforms.tick(I)I -/
def fX7_tick (k : Nat) (x : FSt) (p1 : Int32) : Option (FSt × (Int32 ⊕ Nat)) := (fX7_needWithin p1 1 1000).bind (fun u1 => thr u1 (fun k3 => some (x, .inr k3)) (fun r4 => (if ((fClk x) + p1) ≤ 1000000 then keep (fClk_s x ((fClk x) + p1)) (fun x7 => some (x7, (.inl (fClk x7)))) else some (x, .inr 2))))
set_option maxHeartbeats 4000000 in
set_option maxRecDepth 100000 in
theorem met_X7_tick {D : va_G} {cI cV cJ cD : ClassId} (l : Launch) (hlt : l.stackTraces = false) (k : Nat) (vf : Nat → Option Nat) (a : Nat → Nat) (hvf : vf k = some (a 6)) (x : FSt) (p1 : Int32) (res : FSt × (Int32 ⊕ Nat)) (hf : fX7_tick k x p1 = some res) : MX l yX7_tick cX7_tick 2 (some .int) { frames := 7, cells := 2, slots := 12, locals := 122 } D (TY cI cV cJ cD) (W_F cI cV vf a x) (W_F cI cV vf a res.1) [.ref (a 0), .int p1] (rsI res.2) := by
  intro sz
  refine vx_ofW (cc := cX7_tick) (maxL := 2) (ret := (some .int)) (by decide +kernel) rfl ?_
  intro p e s m args below meth c s₁ B hml htab hv
  obtain ⟨rfl, hsz, hP, hK, hD0, hE⟩ := hv
  have hx := B.exec
  have hb := B.bytes
  have hr := B.returns
  have hts := atoms_spec (ws := .code yX7_tick cX7_tick 2 (some .int) :: GW) B.pre
  have hg : ∀ w ∈ GW, w.before (([.ref (a 0), .int p1] : List Value).toArray) s = true := fun w h => hts w (List.mem_cons_of_mem _ h)
  have hown : s.vm.findClass RX7 = some m.cls := findClass_of_methodNamed B.named
  have hlocks := B.notSynchronized
  subst hsz
  have hD := hD0.self (sz := s.heap.size)
  generalize hAe : va_A (W_F cI cV vf a x) s.heap.size = A at hD hE ⊢
  have hA : ∀ q : Nat, s.heap.size ≤ q → A q := fun q h => by rw [← hAe]; exact Or.inr h
  have hS : va_S A s.heap s.heap [] := va_S.rf
  have hl := lv_entry ([.ref (a 0), .int p1]) (n := 2) (Nat.le_of_ble_eq_true rfl)
  rw [lg_entry_eq]
  generalize (lg_sl ([.ref (a 0), .int p1]) ++ List.replicate (2 - (lg_sl ([.ref (a 0), .int p1])).length) Slot.unset).toArray = ls at hl ⊢
  have hl : lv_has ls 2 [(0, .ref (a 0)), (1, .int p1)] := hl
  have M0 : ∀ (H : Heap) (locs : List Loc) (ls : Array Slot), fX7_tick k x p1 = some res → va_P D vwCl (W_F cI cV vf a x) H → va_D A (W_F cI cV vf a x) → va_S A s.heap H locs → lv_has ls 2 [(0, .ref (a 0)), (1, .int p1)] → W p l e ({ frames := 7, cells := 2, slots := 12, locals := 122 } : Room) s m ([.ref (a 0), .int p1] : List Value).toArray below meth c H locs 0 0 (vx_MQ below (QR D (TY cI cV cJ cD) (W_F cI cV vf a res.1) A (rsI res.2)) (XR D (TY cI cV cJ cD) (W_F cI cV vf a res.1) A (rsI res.2)) (([.ref (a 0), .int p1] : List Value).toArray) s 2 12 A) (F0 m 0 ls []) := by
    intro H locs ls hf hP hD hS hl
    dsimp only [fX7_tick] at hf
    refine lv_iload_n hx hb dX7_tick_0 rfl (lv_at hl 1 rfl) ?_
    refine lv_iconst (v := 1) hx hb dX7_tick_1 (by decide) ?_
    refine lv_sipush (v := 1000) hx hb dX7_tick_2 (by decide) ?_
    obtain ⟨u1, hc2, hf⟩ := bind_t hf
    refine k_SX (As := [.int p1, .int 1, .int 1000]) (rest := []) (n := 3) ⟨hx, hb, hml, hown, hts⟩ (met_X7_needWithin l hlt p1 1 1000 u1 hc2) w317 w318 w1 w319 ⟨by decide +kernel, by decide +kernel, by decide +kernel⟩ ⟨Nat.le_of_ble_eq_true rfl, Nat.le_of_ble_eq_true rfl⟩ hK hE hP hD hS hA (isC := []) (isR := [0, 1, 2, 3, 4, 5, 6, 7, 8, 9, 10, 11, 12, 13, 14, 15, 16, 17, 18, 19, 20, 21, 22, 23]) (isB := [0, 1, 2, 3, 4, 5, 6, 7, 8, 9, 10, 11, 12, 13, 14, 15, 16, 17, 18, 19, 20, 21, 22, 23]) (ws' := W_F cI cV vf a x) ⟨([0, 1, 2, 3, 4, 5, 6, 7, 8, 9, 10, 11, 12, 13, 14, 15, 16, 17, 18, 19, 20, 21, 22, 23] : List Nat).filterMap (fun i : Nat => (W_F cI cV vf a x : va_W)[i]?), rfl, rfl, rfl, rfl, by decide, rfl, rfl⟩ rfl hl.1 rfl (Nat.le_of_ble_eq_true rfl) dX7_tick_5 ⟨Nat.le_of_ble_eq_true rfl, Nat.le_of_ble_eq_true rfl⟩ (fun E ce q9 H locs h5 hP hD hS hce hcv hcl => ?_) (fun rv9 H locs h5 hP hD hS => ?_)
    · obtain ⟨k3, hq9, hE9⟩ := rsV_x h5
      replace hf := thr_x hf hq9
      obtain rfl := Option.some.inj hf
      exact k_out htab hlocks hce hcv hcl (by rw [hE9]; rfl) hK hP hD hS (Nat.le_of_ble_eq_true rfl) (Nat.le_of_ble_eq_true rfl)
    obtain ⟨r4, hq9, rfl⟩ := rsV_v h5
    replace hf := thr_v hf hq9
    refine W.eq (g2 := F0 m 8 ls []) rfl ?_
    refine lv_aload_n hx hb dX7_tick_8 rfl (lv_at hl 0 rfl) ?_
    refine va_get (D := D) (ci := 6) (v := .int (fClk x)) (C := RX7) (T := TX7) (N := 8) hx hb hg in_X7 hown hK hP 0 rfl rfl 5 (by decide) (hg _ w172) (fun _ h9 => h9) rfl dX7_tick_9 ?_
    refine lv_iload_n hx hb dX7_tick_12 rfl (lv_at hl 1 rfl) ?_
    refine lv_iadd hx hb dX7_tick_13 ?_
    refine lv_ldc (own := RX7) (v := 1000000) hx hb hown (hg _ w701) dX7_tick_14 ?_
    refine lv_icmp_le (tgt := 29) hx hb dX7_tick_16 (by decide) (fun c6 => ?_) (fun c6 => ?_)
    · replace hf := if_t c6 hf
      refine lv_aload_n hx hb dX7_tick_29 rfl (lv_at hl 0 rfl) ?_
      refine lv_dup hx hb dX7_tick_30 rfl ?_
      refine va_get (D := D) (ci := 6) (v := .int (fClk x)) (C := RX7) (T := TX7) (N := 8) hx hb hg in_X7 hown hK hP 0 rfl rfl 5 (by decide) (hg _ w172) (fun _ h9 => h9) rfl dX7_tick_31 ?_
      refine lv_iload_n hx hb dX7_tick_34 rfl (lv_at hl 1 rfl) ?_
      refine lv_iadd hx hb dX7_tick_35 ?_
      refine va_put (D := D) (ci := 6) (v := .int ((fClk x) + p1)) (ty := .int) (C := RX7) (T := TX7) (N := 8) hx hb hg in_X7 tyX7 tyX7_ok nmX7 hown hK hP hD hS 0 rfl rfl 5 (by decide) (hg _ w172) (fun _ h9 => h9) rfl (by decide +kernel) rfl rfl (Nat.le_of_ble_eq_true rfl) dX7_tick_36 (fun H locs hP hD hS => ?_)
      obtain ⟨x7, hx7⟩ : ∃ z, z = (fClk_s x ((fClk x) + p1)) := ⟨_, rfl⟩
      replace hf := keep_e hf x7 hx7
      have hP : va_P D vwCl (W_F cI cV vf a x7) H := by rw [hx7]; exact hP
      have hD : va_D A (W_F cI cV vf a x7) := by rw [hx7]; exact hD
      refine lv_aload_n hx hb dX7_tick_39 rfl (lv_at hl 0 rfl) ?_
      refine va_get (D := D) (ci := 6) (v := .int (fClk x7)) (C := RX7) (T := TX7) (N := 8) hx hb hg in_X7 hown hK hP 0 rfl rfl 5 (by decide) (hg _ w172) (fun _ h9 => h9) rfl dX7_tick_40 ?_
      obtain rfl := Option.some.inj hf
      refine W.widen (k := 2) (n := 12) (Nat.le_of_ble_eq_true rfl) (Nat.le_of_ble_eq_true rfl) ?_
      refine vx_ret ?_
      exact W.iret (v := (fClk x7)) hx hb hr (fun t ht hW => ⟨_, rfl, ⟨rfl, by rw [ht]; exact hP, va_K.moved hW.alike hK, hD, hS.F ht⟩⟩) hS.2.2 dX7_tick_43 hlocks
    · replace hf := if_f c6 hf
      obtain rfl := Option.some.inj hf
      exact k_throw hx hb hlt (own := RX7) (text := "the clock would be above its last time") hown (by decide +kernel) htab hlocks (hg _ w377) (hg _ w14) (hE.1.2.2.2.1 _ (List.mem_of_getElem? (i := 8) rfl)) (thr_at114 hg hE.1) thr_ok114_110 hE (by rw [hml]; exact hl.1) dX7_tick_19 dX7_tick_22 dX7_tick_23 dX7_tick_25 dX7_tick_28 (Nat.le_of_ble_eq_true rfl) (Nat.le_of_ble_eq_true rfl) (Nat.le_of_ble_eq_true rfl) (Nat.le_of_ble_eq_true rfl) rfl hK hP hD hS (Nat.le_of_ble_eq_true rfl) (Nat.le_of_ble_eq_true rfl)
  exact M0 s.heap [] ls hf hP hD hS hl
/-! Compactforms.copyStreamRows(I)V -/
def fX7_copyStreamRows_51 (rec2 : FSt × Int32 → Option (FSt)) (k : Nat) (x : FSt) (v1 : Int32) (v2 : Int32) (s0 : Int32) : Option (FSt) := (if s0 = 0 then keep (v2 + 1) (fun y2 => rec2 (x, y2)) else (fX3_cell (fLog x) v2 1).bind (fun u3 => (if u3 = v1 then (fX3_cell (fLog x) v2 6).bind (fun u7 => chk (keyok v1 k) ((if u7 = (vlId (fV x)) then (fX3_copyRows ((fNew x), (fLog x)) v2 1).bind (fun u12 => keep (fLog_s (fNew_s x u12.1) u12.2) (fun x14 => keep (v2 + 1) (fun y15 => rec2 (x14, y15)))) else keep (v2 + 1) (fun y11 => rec2 (x, y11))))) else keep (v2 + 1) (fun y6 => rec2 (x, y6)))))
def fX7_copyStreamRows_46 (rec2 : FSt × Int32 → Option (FSt)) (k : Nat) (x : FSt) (v1 : Int32) (v2 : Int32) : Option (FSt) := fX7_copyStreamRows_51 rec2 k x v1 v2 1
def fX7_copyStreamRows_2 (k : Nat) (v1 : Int32) (rec2 : FSt × Int32 → Option (FSt)) (s : FSt × Int32) : Option (FSt) := match s with | (x, v2) => (if (loN (fLog x)) ≤ v2 then some x else (fX3_cell (fLog x) v2 0).bind (fun u17 => (if u17 = 4 then fX7_copyStreamRows_46 rec2 k x v1 v2 else (if u17 = 9 then fX7_copyStreamRows_46 rec2 k x v1 v2 else (if u17 = 10 then fX7_copyStreamRows_46 rec2 k x v1 v2 else (if u17 = 11 then fX7_copyStreamRows_46 rec2 k x v1 v2 else fX7_copyStreamRows_51 rec2 k x v1 v2 0))))))
def fX7_copyStreamRows (k : Nat) (x : FSt) (p1 : Int32) : Option (FSt) := iterK FU (fX7_copyStreamRows_2 k p1) (x, 0)
set_option maxHeartbeats 4000000 in
set_option maxRecDepth 100000 in
theorem met_X7_copyStreamRows {D : va_G} {cI cV cJ cD : ClassId} (l : Launch) (k : Nat) (vf : Nat → Option Nat) (a : Nat → Nat) (hvf : vf k = some (a 6)) (x : FSt) (p1 : Int32) (res : FSt) (hf : fX7_copyStreamRows k x p1 = some res) : MM l yX7_copyStreamRows cX7_copyStreamRows 5 none { frames := 2, cells := 0, slots := 0, locals := 83 } D (TY cI cV cJ cD) (W_F cI cV vf a x) (W_F cI cV vf a res) [.ref (a 0), .int p1] none := by
  intro sz
  refine Met.ofW (cc := cX7_copyStreamRows) (maxL := 5) (ret := none) (by decide +kernel) rfl ?_
  intro p e s m args below meth c s₁ B hml hv
  obtain ⟨rfl, hsz, hP, hK, hD0, hE⟩ := hv
  have hx := B.exec
  have hb := B.bytes
  have hr := B.returns
  have hts := atoms_spec (ws := .code yX7_copyStreamRows cX7_copyStreamRows 5 none :: GW) B.pre
  have hg : ∀ w ∈ GW, w.before (([.ref (a 0), .int p1] : List Value).toArray) s = true := fun w h => hts w (List.mem_cons_of_mem _ h)
  have hown : s.vm.findClass RX7 = some m.cls := findClass_of_methodNamed B.named
  have hlocks := B.notSynchronized
  subst hsz
  have hD := hD0.self (sz := s.heap.size)
  generalize hAe : va_A (W_F cI cV vf a x) s.heap.size = A at hD hE ⊢
  have hA : ∀ q : Nat, s.heap.size ≤ q → A q := fun q h => by rw [← hAe]; exact Or.inr h
  have hS : va_S A s.heap s.heap [] := va_S.rf
  have hl := lv_entry ([.ref (a 0), .int p1]) (n := 5) (Nat.le_of_ble_eq_true rfl)
  rw [lg_entry_eq]
  generalize (lg_sl ([.ref (a 0), .int p1]) ++ List.replicate (5 - (lg_sl ([.ref (a 0), .int p1])).length) Slot.unset).toArray = ls at hl ⊢
  have hl : lv_has ls 5 [(0, .ref (a 0)), (1, .int p1)] := hl
  have L51 : ∀ (x : FSt) (v1 : Int32) (v2 : Int32) (s0 : Int32) (rec2 : FSt × Int32 → Option (FSt)) (hrec2 : ∀ (x : FSt), ∀ (v2 : Int32), ∀ (H : Heap) (locs : List Loc) (ls : Array Slot), rec2 (x, v2) = some res → va_P D vwCl (W_F cI cV vf a x) H → va_D A (W_F cI cV vf a x) → va_S A s.heap H locs → lv_has ls 5 [(0, .ref (a 0)), (1, .int v1), (2, .int v2)] → W p l e ({ frames := 2, cells := 0, slots := 0, locals := 83 } : Room) s m ([.ref (a 0), .int p1] : List Value).toArray below meth c H locs 0 0 (MQ below (QW D (TY cI cV cJ cD) (W_F cI cV vf a res) A none) (([.ref (a 0), .int p1] : List Value).toArray) s 0 0 A) (F0 m 2 ls [])) (H : Heap) (locs : List Loc) (ls : Array Slot), fX7_copyStreamRows_51 rec2 k x v1 v2 s0  = some res → va_P D vwCl (W_F cI cV vf a x) H → va_D A (W_F cI cV vf a x) → va_S A s.heap H locs → lv_has ls 5 [(0, .ref (a 0)), (1, .int v1), (2, .int v2)] → W p l e ({ frames := 2, cells := 0, slots := 0, locals := 83 } : Room) s m ([.ref (a 0), .int p1] : List Value).toArray below meth c H locs 0 0 (MQ below (QW D (TY cI cV cJ cD) (W_F cI cV vf a res) A none) (([.ref (a 0), .int p1] : List Value).toArray) s 0 0 A) (F0 m 51 ls [.int s0]) := by
    intro x v1 v2 s0 rec2 hrec2 H locs ls hf hP hD hS hl
    dsimp only [fX7_copyStreamRows_51] at hf
    refine lv_istore (lv' := [(4, .int s0), (0, .ref (a 0)), (1, .int v1), (2, .int v2)]) hx hb dX7_copyStreamRows_51 hl (by decide) rfl (fun ls hl => ?_)
    refine lv_iload hx hb dX7_copyStreamRows_53 (lv_at hl 0 rfl) ?_
    refine lv_if_eq (tgt := 106) hx hb dX7_copyStreamRows_55 (by decide) (fun c1 => ?_) (fun c1 => ?_)
    · replace hf := if_t c1 hf
      obtain ⟨y2, hy2⟩ : ∃ z : Int32, z = (v2 + 1) := ⟨_, rfl⟩
      replace hf := keep_e hf y2 hy2
      refine lv_iinc (v := y2) (lv' := [(2, .int y2), (4, .int s0), (0, .ref (a 0)), (1, .int v1)]) hx hb dX7_copyStreamRows_106 hl (k := 3) rfl (by rw [hy2]; rfl) (by decide) rfl (fun ls hl => ?_)
      refine lv_goto (tgt := 2) hx hb dX7_copyStreamRows_109 (by decide) ?_
      exact hrec2 x y2 H locs ls hf hP hD hS (lv_sub hl [2, 3, 0] rfl)
    · replace hf := if_f c1 hf
      refine lv_aload_n hx hb dX7_copyStreamRows_58 rfl (lv_at hl 1 rfl) ?_
      refine va_get (D := D) (ci := 6) (v := .ref (a 2)) (C := RX7) (T := TX7) (N := 8) hx hb hg in_X7 hown hK hP 0 rfl rfl 1 (by decide) (hg _ w168) (fun _ h9 => h9) rfl dX7_copyStreamRows_59 ?_
      refine lv_iload_n hx hb dX7_copyStreamRows_62 rfl (lv_at hl 3 rfl) ?_
      refine lv_iconst (v := 1) hx hb dX7_copyStreamRows_63 (by decide) ?_
      obtain ⟨u3, hc4, hf⟩ := bind_t hf
      refine k_V (As := [.int v2, .int 1]) (rest := []) (n := 2) ⟨hx, hb, hml, hown, hts⟩ (met_X3_cell l (fun j => a (2 + j)) (fLog x) v2 1 u3 hc4) w726 w727 w728 w2 w729 ⟨rfl, by decide +kernel, by decide +kernel, by decide +kernel⟩ ⟨Nat.le_of_ble_eq_true rfl, Nat.le_of_ble_eq_true rfl⟩ hK hE hP hD hS hA (isC := [2, 3]) (isR := [0, 1, 4, 5, 6, 7, 8, 9, 10, 11, 12, 13, 14, 15, 16, 17, 18, 19, 20, 21, 22, 23]) (isB := [0, 1, 22, 23, 2, 3, 4, 5, 6, 7, 8, 9, 10, 11, 12, 13, 14, 15, 16, 17, 18, 19, 20, 21]) (ws' := W_F cI cV vf a x) ⟨([0, 1, 4, 5, 6, 7, 8, 9, 10, 11, 12, 13, 14, 15, 16, 17, 18, 19, 20, 21, 22, 23] : List Nat).filterMap (fun i : Nat => (W_F cI cV vf a x : va_W)[i]?), rfl, rfl, rfl, rfl, by decide, rfl, rfl⟩ 2 2 rfl rfl rfl rfl hl.1 rfl (Nat.le_of_ble_eq_true rfl) dX7_copyStreamRows_64 ⟨Nat.le_of_ble_eq_true rfl, Nat.le_of_ble_eq_true rfl⟩ (fun H locs hP hD hS => ?_)
      try dsimp only at hf
      refine W.eq (g2 := F0 m 67 ls [.int u3]) rfl ?_
      refine lv_iload_n hx hb dX7_copyStreamRows_67 rfl (lv_at hl 2 rfl) ?_
      refine lv_icmp_ne (tgt := 106) hx hb dX7_copyStreamRows_68 (by decide) (fun c5 => ?_) (fun c5 => ?_)
      · replace hf := if_f c5 hf
        obtain ⟨y6, hy6⟩ : ∃ z : Int32, z = (v2 + 1) := ⟨_, rfl⟩
        replace hf := keep_e hf y6 hy6
        refine lv_iinc (v := y6) (lv' := [(2, .int y6), (4, .int s0), (0, .ref (a 0)), (1, .int v1)]) hx hb dX7_copyStreamRows_106 hl (k := 3) rfl (by rw [hy6]; rfl) (by decide) rfl (fun ls hl => ?_)
        refine lv_goto (tgt := 2) hx hb dX7_copyStreamRows_109 (by decide) ?_
        exact hrec2 x y6 H locs ls hf hP hD hS (lv_sub hl [2, 3, 0] rfl)
      · replace hf := if_t c5 hf
        refine lv_aload_n hx hb dX7_copyStreamRows_71 rfl (lv_at hl 1 rfl) ?_
        refine va_get (D := D) (ci := 6) (v := .ref (a 2)) (C := RX7) (T := TX7) (N := 8) hx hb hg in_X7 hown hK hP 0 rfl rfl 1 (by decide) (hg _ w168) (fun _ h9 => h9) rfl dX7_copyStreamRows_72 ?_
        refine lv_iload_n hx hb dX7_copyStreamRows_75 rfl (lv_at hl 3 rfl) ?_
        refine lv_bipush (v := 6) hx hb dX7_copyStreamRows_76 (by decide) ?_
        obtain ⟨u7, hc8, hf⟩ := bind_t hf
        refine k_V (As := [.int v2, .int 6]) (rest := []) (n := 2) ⟨hx, hb, hml, hown, hts⟩ (met_X3_cell l (fun j => a (2 + j)) (fLog x) v2 6 u7 hc8) w726 w727 w728 w2 w729 ⟨rfl, by decide +kernel, by decide +kernel, by decide +kernel⟩ ⟨Nat.le_of_ble_eq_true rfl, Nat.le_of_ble_eq_true rfl⟩ hK hE hP hD hS hA (isC := [2, 3]) (isR := [0, 1, 4, 5, 6, 7, 8, 9, 10, 11, 12, 13, 14, 15, 16, 17, 18, 19, 20, 21, 22, 23]) (isB := [0, 1, 22, 23, 2, 3, 4, 5, 6, 7, 8, 9, 10, 11, 12, 13, 14, 15, 16, 17, 18, 19, 20, 21]) (ws' := W_F cI cV vf a x) ⟨([0, 1, 4, 5, 6, 7, 8, 9, 10, 11, 12, 13, 14, 15, 16, 17, 18, 19, 20, 21, 22, 23] : List Nat).filterMap (fun i : Nat => (W_F cI cV vf a x : va_W)[i]?), rfl, rfl, rfl, rfl, by decide, rfl, rfl⟩ 2 2 rfl rfl rfl rfl hl.1 rfl (Nat.le_of_ble_eq_true rfl) dX7_copyStreamRows_78 ⟨Nat.le_of_ble_eq_true rfl, Nat.le_of_ble_eq_true rfl⟩ (fun H locs hP hD hS => ?_)
        try dsimp only at hf
        refine W.eq (g2 := F0 m 81 ls [.int u7]) rfl ?_
        refine lv_aload_n hx hb dX7_copyStreamRows_81 rfl (lv_at hl 1 rfl) ?_
        refine va_get (D := D) (ci := 6) (v := .ref (a 1)) (C := RX7) (T := TX7) (N := 8) hx hb hg in_X7 hown hK hP 0 rfl rfl 0 (by decide) (hg _ w167) (fun _ h9 => h9) rfl dX7_copyStreamRows_82 ?_
        refine lv_iload_n hx hb dX7_copyStreamRows_85 rfl (lv_at hl 2 rfl) ?_
        obtain ⟨hi9, hf⟩ := chk_t hf
        refine va_aldq hx hb hK hP 1 1 rfl rfl (keyok_i hi9) dX7_copyStreamRows_86 ?_
        refine W.eq (g2 := F0 m 87 ls [.ref (a 6), .int u7]) (by rw [keyok_k hi9, hvf]; rfl) ?_
        refine va_getN (D := D) (ci := 5) (v := .int (vlId (fV x))) (C := RX6) (T := TX6) (N := 10) hx hb hg in_X6 hown hK hP 6 rfl rfl 3 (by decide) (nwF_230 hE.1) (fun _ h9 => h9) rfl dX7_copyStreamRows_87 ?_
        refine lv_icmp_ne (tgt := 106) hx hb dX7_copyStreamRows_90 (by decide) (fun c10 => ?_) (fun c10 => ?_)
        · replace hf := if_f c10 hf
          obtain ⟨y11, hy11⟩ : ∃ z : Int32, z = (v2 + 1) := ⟨_, rfl⟩
          replace hf := keep_e hf y11 hy11
          refine lv_iinc (v := y11) (lv' := [(2, .int y11), (4, .int s0), (0, .ref (a 0)), (1, .int v1)]) hx hb dX7_copyStreamRows_106 hl (k := 3) rfl (by rw [hy11]; rfl) (by decide) rfl (fun ls hl => ?_)
          refine lv_goto (tgt := 2) hx hb dX7_copyStreamRows_109 (by decide) ?_
          exact hrec2 x y11 H locs ls hf hP hD hS (lv_sub hl [2, 3, 0] rfl)
        · replace hf := if_t c10 hf
          refine lv_aload_n hx hb dX7_copyStreamRows_93 rfl (lv_at hl 1 rfl) ?_
          refine va_get (D := D) (ci := 6) (v := .ref (a 4)) (C := RX7) (T := TX7) (N := 8) hx hb hg in_X7 hown hK hP 0 rfl rfl 2 (by decide) (hg _ w169) (fun _ h9 => h9) rfl dX7_copyStreamRows_94 ?_
          refine lv_aload_n hx hb dX7_copyStreamRows_97 rfl (lv_at hl 1 rfl) ?_
          refine va_get (D := D) (ci := 6) (v := .ref (a 2)) (C := RX7) (T := TX7) (N := 8) hx hb hg in_X7 hown hK hP 0 rfl rfl 1 (by decide) (hg _ w168) (fun _ h9 => h9) rfl dX7_copyStreamRows_98 ?_
          refine lv_iload_n hx hb dX7_copyStreamRows_101 rfl (lv_at hl 3 rfl) ?_
          refine lv_iconst (v := 1) hx hb dX7_copyStreamRows_102 (by decide) ?_
          obtain ⟨u12, hc13, hf⟩ := bind_t hf
          refine k_V (As := [.ref (a 2), .int v2, .int 1]) (rest := []) (n := 3) ⟨hx, hb, hml, hown, hts⟩ (met_X3_copyRows l (fun j => match j with | 0 => a 4 | 1 => a 5 | 2 => a 2 | _ => a 3) ((fNew x), (fLog x)) v2 1 u12 hc13) w640 w641 w642 w2 w643 ⟨rfl, by decide +kernel, by decide +kernel, by decide +kernel⟩ ⟨Nat.le_of_ble_eq_true rfl, Nat.le_of_ble_eq_true rfl⟩ hK hE hP hD hS hA (isC := [4, 5, 2, 3]) (isR := [0, 1, 6, 7, 8, 9, 10, 11, 12, 13, 14, 15, 16, 17, 18, 19, 20, 21, 22, 23]) (isB := [0, 1, 22, 23, 20, 21, 2, 3, 4, 5, 6, 7, 8, 9, 10, 11, 12, 13, 14, 15, 16, 17, 18, 19]) (ws' := W_F cI cV vf a (fLog_s (fNew_s x u12.1) u12.2)) ⟨([0, 1, 6, 7, 8, 9, 10, 11, 12, 13, 14, 15, 16, 17, 18, 19, 20, 21, 22, 23] : List Nat).filterMap (fun i : Nat => (W_F cI cV vf a x : va_W)[i]?), rfl, rfl, rfl, rfl, by decide, rfl, rfl⟩ 4 2 rfl rfl rfl rfl hl.1 rfl (Nat.le_of_ble_eq_true rfl) dX7_copyStreamRows_103 ⟨Nat.le_of_ble_eq_true rfl, Nat.le_of_ble_eq_true rfl⟩ (fun H locs hP hD hS => ?_)
          try dsimp only at hf
          refine W.eq (g2 := F0 m 106 ls []) rfl ?_
          obtain ⟨x14, hx14⟩ : ∃ z, z = (fLog_s (fNew_s x u12.1) u12.2) := ⟨_, rfl⟩
          replace hf := keep_e hf x14 hx14
          have hP : va_P D vwCl (W_F cI cV vf a x14) H := by rw [hx14]; exact hP
          have hD : va_D A (W_F cI cV vf a x14) := by rw [hx14]; exact hD
          obtain ⟨y15, hy15⟩ : ∃ z : Int32, z = (v2 + 1) := ⟨_, rfl⟩
          replace hf := keep_e hf y15 hy15
          refine lv_iinc (v := y15) (lv' := [(2, .int y15), (4, .int s0), (0, .ref (a 0)), (1, .int v1)]) hx hb dX7_copyStreamRows_106 hl (k := 3) rfl (by rw [hy15]; rfl) (by decide) rfl (fun ls hl => ?_)
          refine lv_goto (tgt := 2) hx hb dX7_copyStreamRows_109 (by decide) ?_
          exact hrec2 x14 y15 H locs ls hf hP hD hS (lv_sub hl [2, 3, 0] rfl)
  have L46 : ∀ (x : FSt) (v1 : Int32) (v2 : Int32) (rec2 : FSt × Int32 → Option (FSt)) (hrec2 : ∀ (x : FSt), ∀ (v2 : Int32), ∀ (H : Heap) (locs : List Loc) (ls : Array Slot), rec2 (x, v2) = some res → va_P D vwCl (W_F cI cV vf a x) H → va_D A (W_F cI cV vf a x) → va_S A s.heap H locs → lv_has ls 5 [(0, .ref (a 0)), (1, .int v1), (2, .int v2)] → W p l e ({ frames := 2, cells := 0, slots := 0, locals := 83 } : Room) s m ([.ref (a 0), .int p1] : List Value).toArray below meth c H locs 0 0 (MQ below (QW D (TY cI cV cJ cD) (W_F cI cV vf a res) A none) (([.ref (a 0), .int p1] : List Value).toArray) s 0 0 A) (F0 m 2 ls [])) (H : Heap) (locs : List Loc) (ls : Array Slot), fX7_copyStreamRows_46 rec2 k x v1 v2  = some res → va_P D vwCl (W_F cI cV vf a x) H → va_D A (W_F cI cV vf a x) → va_S A s.heap H locs → lv_has ls 5 [(0, .ref (a 0)), (1, .int v1), (2, .int v2)] → W p l e ({ frames := 2, cells := 0, slots := 0, locals := 83 } : Room) s m ([.ref (a 0), .int p1] : List Value).toArray below meth c H locs 0 0 (MQ below (QW D (TY cI cV cJ cD) (W_F cI cV vf a res) A none) (([.ref (a 0), .int p1] : List Value).toArray) s 0 0 A) (F0 m 46 ls []) := by
    intro x v1 v2 rec2 hrec2 H locs ls hf hP hD hS hl
    dsimp only [fX7_copyStreamRows_46] at hf
    refine lv_iconst (v := 1) hx hb dX7_copyStreamRows_46 (by decide) ?_
    refine lv_goto (tgt := 51) hx hb dX7_copyStreamRows_47 (by decide) ?_
    exact L51 x v1 v2 1 rec2 hrec2 H locs ls hf hP hD hS (lv_sub hl [0, 1, 2] rfl)
  have S2 : ∀ (v1 : Int32) (rec2 : FSt × Int32 → Option (FSt)) (hrec2 : ∀ (x : FSt), ∀ (v2 : Int32), ∀ (H : Heap) (locs : List Loc) (ls : Array Slot), rec2 (x, v2) = some res → va_P D vwCl (W_F cI cV vf a x) H → va_D A (W_F cI cV vf a x) → va_S A s.heap H locs → lv_has ls 5 [(0, .ref (a 0)), (1, .int v1), (2, .int v2)] → W p l e ({ frames := 2, cells := 0, slots := 0, locals := 83 } : Room) s m ([.ref (a 0), .int p1] : List Value).toArray below meth c H locs 0 0 (MQ below (QW D (TY cI cV cJ cD) (W_F cI cV vf a res) A none) (([.ref (a 0), .int p1] : List Value).toArray) s 0 0 A) (F0 m 2 ls [])) (x : FSt) (v2 : Int32) (H : Heap) (locs : List Loc) (ls : Array Slot), fX7_copyStreamRows_2 k v1  rec2 (x, v2) = some res → va_P D vwCl (W_F cI cV vf a x) H → va_D A (W_F cI cV vf a x) → va_S A s.heap H locs → lv_has ls 5 [(0, .ref (a 0)), (1, .int v1), (2, .int v2)] → W p l e ({ frames := 2, cells := 0, slots := 0, locals := 83 } : Room) s m ([.ref (a 0), .int p1] : List Value).toArray below meth c H locs 0 0 (MQ below (QW D (TY cI cV cJ cD) (W_F cI cV vf a res) A none) (([.ref (a 0), .int p1] : List Value).toArray) s 0 0 A) (F0 m 2 ls []) := by
    intro v1 rec2 hrec2 x v2 H locs ls hf hP hD hS hl
    dsimp only [fX7_copyStreamRows_2] at hf
    refine lv_iload_n hx hb dX7_copyStreamRows_2 rfl (lv_at hl 2 rfl) ?_
    refine lv_aload_n hx hb dX7_copyStreamRows_3 rfl (lv_at hl 0 rfl) ?_
    refine va_get (D := D) (ci := 6) (v := .ref (a 2)) (C := RX7) (T := TX7) (N := 8) hx hb hg in_X7 hown hK hP 0 rfl rfl 1 (by decide) (hg _ w168) (fun _ h9 => h9) rfl dX7_copyStreamRows_4 ?_
    refine va_getN (D := D) (ci := 2) (v := .int (loN (fLog x))) (C := RX3) (T := TX3) (N := 2) hx hb hg in_X3 hown hK hP 2 rfl rfl 1 (by decide) (nwF_123 hE.1) (fun _ h9 => h9) rfl dX7_copyStreamRows_7 ?_
    refine lv_icmp_ge (tgt := 112) hx hb dX7_copyStreamRows_10 (by decide) (fun c16 => ?_) (fun c16 => ?_)
    · replace hf := if_t c16 hf
      obtain rfl := Option.some.inj hf
      exact W.vret hx hb hr (fun t ht hW => ⟨rfl, by rw [ht]; exact hP, va_K.moved hW.alike hK, hD, hS.F ht⟩) hS.2.2 dX7_copyStreamRows_112 hlocks
    · replace hf := if_f c16 hf
      refine lv_aload_n hx hb dX7_copyStreamRows_13 rfl (lv_at hl 0 rfl) ?_
      refine va_get (D := D) (ci := 6) (v := .ref (a 2)) (C := RX7) (T := TX7) (N := 8) hx hb hg in_X7 hown hK hP 0 rfl rfl 1 (by decide) (hg _ w168) (fun _ h9 => h9) rfl dX7_copyStreamRows_14 ?_
      refine lv_iload_n hx hb dX7_copyStreamRows_17 rfl (lv_at hl 2 rfl) ?_
      refine lv_iconst (v := 0) hx hb dX7_copyStreamRows_18 (by decide) ?_
      obtain ⟨u17, hc18, hf⟩ := bind_t hf
      refine k_V (As := [.int v2, .int 0]) (rest := []) (n := 2) ⟨hx, hb, hml, hown, hts⟩ (met_X3_cell l (fun j => a (2 + j)) (fLog x) v2 0 u17 hc18) w726 w727 w728 w2 w729 ⟨rfl, by decide +kernel, by decide +kernel, by decide +kernel⟩ ⟨Nat.le_of_ble_eq_true rfl, Nat.le_of_ble_eq_true rfl⟩ hK hE hP hD hS hA (isC := [2, 3]) (isR := [0, 1, 4, 5, 6, 7, 8, 9, 10, 11, 12, 13, 14, 15, 16, 17, 18, 19, 20, 21, 22, 23]) (isB := [0, 1, 22, 23, 2, 3, 4, 5, 6, 7, 8, 9, 10, 11, 12, 13, 14, 15, 16, 17, 18, 19, 20, 21]) (ws' := W_F cI cV vf a x) ⟨([0, 1, 4, 5, 6, 7, 8, 9, 10, 11, 12, 13, 14, 15, 16, 17, 18, 19, 20, 21, 22, 23] : List Nat).filterMap (fun i : Nat => (W_F cI cV vf a x : va_W)[i]?), rfl, rfl, rfl, rfl, by decide, rfl, rfl⟩ 2 2 rfl rfl rfl rfl hl.1 rfl (Nat.le_of_ble_eq_true rfl) dX7_copyStreamRows_19 ⟨Nat.le_of_ble_eq_true rfl, Nat.le_of_ble_eq_true rfl⟩ (fun H locs hP hD hS => ?_)
      try dsimp only at hf
      refine W.eq (g2 := F0 m 22 ls [.int u17]) rfl ?_
      refine lv_istore_n (lv' := [(3, .int u17), (0, .ref (a 0)), (1, .int v1), (2, .int v2)]) hx hb dX7_copyStreamRows_22 rfl hl (by decide) rfl (fun ls hl => ?_)
      refine lv_iload_n hx hb dX7_copyStreamRows_23 rfl (lv_at hl 0 rfl) ?_
      refine lv_iconst (v := 4) hx hb dX7_copyStreamRows_24 (by decide) ?_
      refine lv_icmp_eq (tgt := 46) hx hb dX7_copyStreamRows_25 (by decide) (fun c19 => ?_) (fun c19 => ?_)
      · replace hf := if_t c19 hf
        exact L46 x v1 v2 rec2 hrec2 H locs ls hf hP hD hS (lv_sub hl [1, 2, 3] rfl)
      · replace hf := if_f c19 hf
        refine lv_iload_n hx hb dX7_copyStreamRows_28 rfl (lv_at hl 0 rfl) ?_
        refine lv_bipush (v := 9) hx hb dX7_copyStreamRows_29 (by decide) ?_
        refine lv_icmp_eq (tgt := 46) hx hb dX7_copyStreamRows_31 (by decide) (fun c20 => ?_) (fun c20 => ?_)
        · replace hf := if_t c20 hf
          exact L46 x v1 v2 rec2 hrec2 H locs ls hf hP hD hS (lv_sub hl [1, 2, 3] rfl)
        · replace hf := if_f c20 hf
          refine lv_iload_n hx hb dX7_copyStreamRows_34 rfl (lv_at hl 0 rfl) ?_
          refine lv_bipush (v := 10) hx hb dX7_copyStreamRows_35 (by decide) ?_
          refine lv_icmp_eq (tgt := 46) hx hb dX7_copyStreamRows_37 (by decide) (fun c21 => ?_) (fun c21 => ?_)
          · replace hf := if_t c21 hf
            exact L46 x v1 v2 rec2 hrec2 H locs ls hf hP hD hS (lv_sub hl [1, 2, 3] rfl)
          · replace hf := if_f c21 hf
            refine lv_iload_n hx hb dX7_copyStreamRows_40 rfl (lv_at hl 0 rfl) ?_
            refine lv_bipush (v := 11) hx hb dX7_copyStreamRows_41 (by decide) ?_
            refine lv_icmp_ne (tgt := 50) hx hb dX7_copyStreamRows_43 (by decide) (fun c22 => ?_) (fun c22 => ?_)
            · replace hf := if_f c22 hf
              refine lv_iconst (v := 0) hx hb dX7_copyStreamRows_50 (by decide) ?_
              exact L51 x v1 v2 0 rec2 hrec2 H locs ls hf hP hD hS (lv_sub hl [1, 2, 3] rfl)
            · replace hf := if_t c22 hf
              exact L46 x v1 v2 rec2 hrec2 H locs ls hf hP hD hS (lv_sub hl [1, 2, 3] rfl)
  have L2 : ∀ (v1 : Int32) (fu : Nat) (x : FSt) (v2 : Int32) (H : Heap) (locs : List Loc) (ls : Array Slot), iterK fu (fX7_copyStreamRows_2 k v1 ) (x, v2) = some res → va_P D vwCl (W_F cI cV vf a x) H → va_D A (W_F cI cV vf a x) → va_S A s.heap H locs → lv_has ls 5 [(0, .ref (a 0)), (1, .int v1), (2, .int v2)] → W p l e ({ frames := 2, cells := 0, slots := 0, locals := 83 } : Room) s m ([.ref (a 0), .int p1] : List Value).toArray below meth c H locs 0 0 (MQ below (QW D (TY cI cV cJ cD) (W_F cI cV vf a res) A none) (([.ref (a 0), .int p1] : List Value).toArray) s 0 0 A) (F0 m 2 ls []) := by
    intro v1 fu
    induction fu with
    | zero =>
      intro x v2 H locs ls hf
      cases hf
    | succ fu ih =>
      intro x v2 H locs ls hf hP hD hS hl
      exact S2 v1 (iterK fu (fX7_copyStreamRows_2 k v1 )) ih x v2 H locs ls hf hP hD hS hl
  have M0 : ∀ (H : Heap) (locs : List Loc) (ls : Array Slot), fX7_copyStreamRows k x p1 = some res → va_P D vwCl (W_F cI cV vf a x) H → va_D A (W_F cI cV vf a x) → va_S A s.heap H locs → lv_has ls 5 [(0, .ref (a 0)), (1, .int p1)] → W p l e ({ frames := 2, cells := 0, slots := 0, locals := 83 } : Room) s m ([.ref (a 0), .int p1] : List Value).toArray below meth c H locs 0 0 (MQ below (QW D (TY cI cV cJ cD) (W_F cI cV vf a res) A none) (([.ref (a 0), .int p1] : List Value).toArray) s 0 0 A) (F0 m 0 ls []) := by
    intro H locs ls hf hP hD hS hl
    dsimp only [fX7_copyStreamRows] at hf
    refine lv_iconst (v := 0) hx hb dX7_copyStreamRows_0 (by decide) ?_
    refine lv_istore_n (lv' := [(2, .int 0), (0, .ref (a 0)), (1, .int p1)]) hx hb dX7_copyStreamRows_1 rfl hl (by decide) rfl (fun ls hl => ?_)
    exact L2 p1 FU x 0 H locs ls hf hP hD hS (lv_sub hl [1, 2, 0] rfl)
  exact M0 s.heap [] ls hf hP hD hS hl
/-! Compactforms.writeAnew(I)V -/
def fX7_writeAnew_126 (k : Nat) (x : FSt) (v1 : Int32) : Option (FSt) := (if (vlEnd (fV x)) = (-1) then some x else (fX3_addRow (fNew x) 8 v1 ((vlEnd (fV x)) - (fClk x)) 0 0).bind (fun u2 => keep (fNew_s x u2) (fun x4 => (fX3_stampLast (fNew x4) (fClk x4) (vlId (fV x4))).bind (fun u5 => keep (fNew_s x4 u5) (fun x7 => some x7)))))
def fX7_writeAnew_82 (rec52 : FSt × Int32 → Option (FSt)) (k : Nat) (x : FSt) (v1 : Int32) (v3 : Int32) (v4 : Int32) (s0 : Int32) : Option (FSt) := (fX4_valueAt 40 (vlPl (fV x)) v4).bind (fun u8 => (fX3_addRow (fNew x) v3 v1 u8 s0 0).bind (fun u10 => keep (fNew_s x u10) (fun x12 => (fX3_stampLast (fNew x12) (fClk x12) (vlId (fV x12))).bind (fun u13 => keep (fNew_s x12 u13) (fun x15 => keep (v4 + 1) (fun y16 => rec52 (x15, y16)))))))
def fX7_writeAnew_52 (k : Nat) (v1 : Int32) (v3 : Int32) (rec52 : FSt × Int32 → Option (FSt)) (s : FSt × Int32) : Option (FSt) := match s with | (x, v4) => (fX6_count (fV x)).bind (fun u17 => (if u17 ≤ v4 then fX7_writeAnew_126 k x v1 else (if (vlTyp (fV x)) = 1 then fX7_writeAnew_82 rec52 k x v1 v3 v4 1 else (fX4_bitsAt 40 (vlPl (fV x)) v4).bind (fun u21 => fX7_writeAnew_82 rec52 k x v1 v3 v4 u21))))
def fX7_writeAnew (k : Nat) (x : FSt) (p1 : Int32) : Option (FSt) := chk (keyok p1 k) ((if (vlTyp (fV x)) = 4 then (fX7_copyStreamRows k x p1).bind (fun u27 => keep u27 (fun x29 => fX7_writeAnew_126 k x29 p1)) else (if (vlTyp (fV x)) = 1 then iterK FU (fX7_writeAnew_52 k p1 1) (x, 0) else (if (vlTyp (fV x)) = 2 then iterK FU (fX7_writeAnew_52 k p1 5) (x, 0) else iterK FU (fX7_writeAnew_52 k p1 3) (x, 0)))))
set_option maxHeartbeats 4000000 in
set_option maxRecDepth 100000 in
theorem met_X7_writeAnew {D : va_G} {cI cV cJ cD : ClassId} (l : Launch) (k : Nat) (vf : Nat → Option Nat) (a : Nat → Nat) (hvf : vf k = some (a 6)) (x : FSt) (p1 : Int32) (res : FSt) (hf : fX7_writeAnew k x p1 = some res) : MM l yX7_writeAnew cX7_writeAnew 6 none { frames := 3, cells := 0, slots := 0, locals := 107 } D (TY cI cV cJ cD) (W_F cI cV vf a x) (W_F cI cV vf a res) [.ref (a 0), .int p1] none := by
  intro sz
  refine Met.ofW (cc := cX7_writeAnew) (maxL := 6) (ret := none) (by decide +kernel) rfl ?_
  intro p e s m args below meth c s₁ B hml hv
  obtain ⟨rfl, hsz, hP, hK, hD0, hE⟩ := hv
  have hx := B.exec
  have hb := B.bytes
  have hr := B.returns
  have hts := atoms_spec (ws := .code yX7_writeAnew cX7_writeAnew 6 none :: GW) B.pre
  have hg : ∀ w ∈ GW, w.before (([.ref (a 0), .int p1] : List Value).toArray) s = true := fun w h => hts w (List.mem_cons_of_mem _ h)
  have hown : s.vm.findClass RX7 = some m.cls := findClass_of_methodNamed B.named
  have hlocks := B.notSynchronized
  subst hsz
  have hD := hD0.self (sz := s.heap.size)
  generalize hAe : va_A (W_F cI cV vf a x) s.heap.size = A at hD hE ⊢
  have hA : ∀ q : Nat, s.heap.size ≤ q → A q := fun q h => by rw [← hAe]; exact Or.inr h
  have hS : va_S A s.heap s.heap [] := va_S.rf
  have hl := lv_entry ([.ref (a 0), .int p1]) (n := 6) (Nat.le_of_ble_eq_true rfl)
  rw [lg_entry_eq]
  generalize (lg_sl ([.ref (a 0), .int p1]) ++ List.replicate (6 - (lg_sl ([.ref (a 0), .int p1])).length) Slot.unset).toArray = ls at hl ⊢
  have hl : lv_has ls 6 [(0, .ref (a 0)), (1, .int p1)] := hl
  have L126 : ∀ (x : FSt) (v1 : Int32) (H : Heap) (locs : List Loc) (ls : Array Slot), fX7_writeAnew_126 k x v1  = some res → va_P D vwCl (W_F cI cV vf a x) H → va_D A (W_F cI cV vf a x) → va_S A s.heap H locs → lv_has ls 6 [(0, .ref (a 0)), (1, .int v1), (2, .ref (a 6))] → W p l e ({ frames := 3, cells := 0, slots := 0, locals := 107 } : Room) s m ([.ref (a 0), .int p1] : List Value).toArray below meth c H locs 0 0 (MQ below (QW D (TY cI cV cJ cD) (W_F cI cV vf a res) A none) (([.ref (a 0), .int p1] : List Value).toArray) s 0 0 A) (F0 m 126 ls []) := by
    intro x v1 H locs ls hf hP hD hS hl
    dsimp only [fX7_writeAnew_126] at hf
    refine lv_aload_n hx hb dX7_writeAnew_126 rfl (lv_at hl 2 rfl) ?_
    refine va_getN (D := D) (ci := 5) (v := .int (vlEnd (fV x))) (C := RX6) (T := TX6) (N := 10) hx hb hg in_X6 hown hK hP 6 rfl rfl 2 (by decide) (nwF_106 hE.1) (fun _ h9 => h9) rfl dX7_writeAnew_127 ?_
    refine lv_iconst (v := (-1)) hx hb dX7_writeAnew_130 (by decide) ?_
    refine lv_icmp_eq (tgt := 170) hx hb dX7_writeAnew_131 (by decide) (fun c1 => ?_) (fun c1 => ?_)
    · replace hf := if_t c1 hf
      obtain rfl := Option.some.inj hf
      exact W.vret hx hb hr (fun t ht hW => ⟨rfl, by rw [ht]; exact hP, va_K.moved hW.alike hK, hD, hS.F ht⟩) hS.2.2 dX7_writeAnew_170 hlocks
    · replace hf := if_f c1 hf
      refine lv_aload_n hx hb dX7_writeAnew_134 rfl (lv_at hl 0 rfl) ?_
      refine va_get (D := D) (ci := 6) (v := .ref (a 4)) (C := RX7) (T := TX7) (N := 8) hx hb hg in_X7 hown hK hP 0 rfl rfl 2 (by decide) (hg _ w169) (fun _ h9 => h9) rfl dX7_writeAnew_135 ?_
      refine lv_bipush (v := 8) hx hb dX7_writeAnew_138 (by decide) ?_
      refine lv_iload_n hx hb dX7_writeAnew_140 rfl (lv_at hl 1 rfl) ?_
      refine lv_aload_n hx hb dX7_writeAnew_141 rfl (lv_at hl 2 rfl) ?_
      refine va_getN (D := D) (ci := 5) (v := .int (vlEnd (fV x))) (C := RX6) (T := TX6) (N := 10) hx hb hg in_X6 hown hK hP 6 rfl rfl 2 (by decide) (nwF_106 hE.1) (fun _ h9 => h9) rfl dX7_writeAnew_142 ?_
      refine lv_aload_n hx hb dX7_writeAnew_145 rfl (lv_at hl 0 rfl) ?_
      refine va_get (D := D) (ci := 6) (v := .int (fClk x)) (C := RX7) (T := TX7) (N := 8) hx hb hg in_X7 hown hK hP 0 rfl rfl 5 (by decide) (hg _ w172) (fun _ h9 => h9) rfl dX7_writeAnew_146 ?_
      refine lv_isub hx hb dX7_writeAnew_149 ?_
      refine lv_iconst (v := 0) hx hb dX7_writeAnew_150 (by decide) ?_
      refine lv_iconst (v := 0) hx hb dX7_writeAnew_151 (by decide) ?_
      obtain ⟨u2, hc3, hf⟩ := bind_t hf
      refine k_V (As := [.int 8, .int v1, .int ((vlEnd (fV x)) - (fClk x)), .int 0, .int 0]) (rest := []) (n := 5) ⟨hx, hb, hml, hown, hts⟩ (met_X3_addRow l (fun j => a (4 + j)) (fNew x) 8 v1 ((vlEnd (fV x)) - (fClk x)) 0 0 u2 hc3) w561 w562 w563 w2 w564 ⟨rfl, by decide +kernel, by decide +kernel, by decide +kernel⟩ ⟨Nat.le_of_ble_eq_true rfl, Nat.le_of_ble_eq_true rfl⟩ hK hE hP hD hS hA (isC := [4, 5]) (isR := [0, 1, 2, 3, 6, 7, 8, 9, 10, 11, 12, 13, 14, 15, 16, 17, 18, 19, 20, 21, 22, 23]) (isB := [0, 1, 2, 3, 22, 23, 4, 5, 6, 7, 8, 9, 10, 11, 12, 13, 14, 15, 16, 17, 18, 19, 20, 21]) (ws' := W_F cI cV vf a (fNew_s x u2)) ⟨([0, 1, 2, 3, 6, 7, 8, 9, 10, 11, 12, 13, 14, 15, 16, 17, 18, 19, 20, 21, 22, 23] : List Nat).filterMap (fun i : Nat => (W_F cI cV vf a x : va_W)[i]?), rfl, rfl, rfl, rfl, by decide, rfl, rfl⟩ 4 2 rfl rfl rfl rfl hl.1 rfl (Nat.le_of_ble_eq_true rfl) dX7_writeAnew_152 ⟨Nat.le_of_ble_eq_true rfl, Nat.le_of_ble_eq_true rfl⟩ (fun H locs hP hD hS => ?_)
      try dsimp only at hf
      refine W.eq (g2 := F0 m 155 ls []) rfl ?_
      obtain ⟨x4, hx4⟩ : ∃ z, z = (fNew_s x u2) := ⟨_, rfl⟩
      replace hf := keep_e hf x4 hx4
      have hP : va_P D vwCl (W_F cI cV vf a x4) H := by rw [hx4]; exact hP
      have hD : va_D A (W_F cI cV vf a x4) := by rw [hx4]; exact hD
      refine lv_aload_n hx hb dX7_writeAnew_155 rfl (lv_at hl 0 rfl) ?_
      refine va_get (D := D) (ci := 6) (v := .ref (a 4)) (C := RX7) (T := TX7) (N := 8) hx hb hg in_X7 hown hK hP 0 rfl rfl 2 (by decide) (hg _ w169) (fun _ h9 => h9) rfl dX7_writeAnew_156 ?_
      refine lv_aload_n hx hb dX7_writeAnew_159 rfl (lv_at hl 0 rfl) ?_
      refine va_get (D := D) (ci := 6) (v := .int (fClk x4)) (C := RX7) (T := TX7) (N := 8) hx hb hg in_X7 hown hK hP 0 rfl rfl 5 (by decide) (hg _ w172) (fun _ h9 => h9) rfl dX7_writeAnew_160 ?_
      refine lv_aload_n hx hb dX7_writeAnew_163 rfl (lv_at hl 2 rfl) ?_
      refine va_getN (D := D) (ci := 5) (v := .int (vlId (fV x4))) (C := RX6) (T := TX6) (N := 10) hx hb hg in_X6 hown hK hP 6 rfl rfl 3 (by decide) (nwF_230 hE.1) (fun _ h9 => h9) rfl dX7_writeAnew_164 ?_
      obtain ⟨u5, hc6, hf⟩ := bind_t hf
      refine k_V (As := [.int (fClk x4), .int (vlId (fV x4))]) (rest := []) (n := 2) ⟨hx, hb, hml, hown, hts⟩ (met_X3_stampLast l (fun j => a (4 + j)) (fNew x4) (fClk x4) (vlId (fV x4)) u5 hc6) w565 w566 w567 w2 w568 ⟨rfl, by decide +kernel, by decide +kernel, by decide +kernel⟩ ⟨Nat.le_of_ble_eq_true rfl, Nat.le_of_ble_eq_true rfl⟩ hK hE hP hD hS hA (isC := [4, 5]) (isR := [0, 1, 2, 3, 6, 7, 8, 9, 10, 11, 12, 13, 14, 15, 16, 17, 18, 19, 20, 21, 22, 23]) (isB := [0, 1, 2, 3, 22, 23, 4, 5, 6, 7, 8, 9, 10, 11, 12, 13, 14, 15, 16, 17, 18, 19, 20, 21]) (ws' := W_F cI cV vf a (fNew_s x4 u5)) ⟨([0, 1, 2, 3, 6, 7, 8, 9, 10, 11, 12, 13, 14, 15, 16, 17, 18, 19, 20, 21, 22, 23] : List Nat).filterMap (fun i : Nat => (W_F cI cV vf a x4 : va_W)[i]?), rfl, rfl, rfl, rfl, by decide, rfl, rfl⟩ 4 2 rfl rfl rfl rfl hl.1 rfl (Nat.le_of_ble_eq_true rfl) dX7_writeAnew_167 ⟨Nat.le_of_ble_eq_true rfl, Nat.le_of_ble_eq_true rfl⟩ (fun H locs hP hD hS => ?_)
      try dsimp only at hf
      refine W.eq (g2 := F0 m 170 ls []) rfl ?_
      obtain ⟨x7, hx7⟩ : ∃ z, z = (fNew_s x4 u5) := ⟨_, rfl⟩
      replace hf := keep_e hf x7 hx7
      have hP : va_P D vwCl (W_F cI cV vf a x7) H := by rw [hx7]; exact hP
      have hD : va_D A (W_F cI cV vf a x7) := by rw [hx7]; exact hD
      obtain rfl := Option.some.inj hf
      exact W.vret hx hb hr (fun t ht hW => ⟨rfl, by rw [ht]; exact hP, va_K.moved hW.alike hK, hD, hS.F ht⟩) hS.2.2 dX7_writeAnew_170 hlocks
  have L82 : ∀ (x : FSt) (v1 : Int32) (v3 : Int32) (v4 : Int32) (s0 : Int32) (rec52 : FSt × Int32 → Option (FSt)) (hrec52 : ∀ (x : FSt), ∀ (v4 : Int32), ∀ (H : Heap) (locs : List Loc) (ls : Array Slot), rec52 (x, v4) = some res → va_P D vwCl (W_F cI cV vf a x) H → va_D A (W_F cI cV vf a x) → va_S A s.heap H locs → lv_has ls 6 [(0, .ref (a 0)), (1, .int v1), (2, .ref (a 6)), (3, .int v3), (4, .int v4)] → W p l e ({ frames := 3, cells := 0, slots := 0, locals := 107 } : Room) s m ([.ref (a 0), .int p1] : List Value).toArray below meth c H locs 0 0 (MQ below (QW D (TY cI cV cJ cD) (W_F cI cV vf a res) A none) (([.ref (a 0), .int p1] : List Value).toArray) s 0 0 A) (F0 m 52 ls [])) (H : Heap) (locs : List Loc) (ls : Array Slot), fX7_writeAnew_82 rec52 k x v1 v3 v4 s0  = some res → va_P D vwCl (W_F cI cV vf a x) H → va_D A (W_F cI cV vf a x) → va_S A s.heap H locs → lv_has ls 6 [(0, .ref (a 0)), (1, .int v1), (2, .ref (a 6)), (3, .int v3), (4, .int v4)] → W p l e ({ frames := 3, cells := 0, slots := 0, locals := 107 } : Room) s m ([.ref (a 0), .int p1] : List Value).toArray below meth c H locs 0 0 (MQ below (QW D (TY cI cV cJ cD) (W_F cI cV vf a res) A none) (([.ref (a 0), .int p1] : List Value).toArray) s 0 0 A) (F0 m 82 ls [.int s0]) := by
    intro x v1 v3 v4 s0 rec52 hrec52 H locs ls hf hP hD hS hl
    dsimp only [fX7_writeAnew_82] at hf
    refine lv_istore (lv' := [(5, .int s0), (0, .ref (a 0)), (1, .int v1), (2, .ref (a 6)), (3, .int v3), (4, .int v4)]) hx hb dX7_writeAnew_82 hl (by decide) rfl (fun ls hl => ?_)
    refine lv_aload_n hx hb dX7_writeAnew_84 rfl (lv_at hl 1 rfl) ?_
    refine va_get (D := D) (ci := 6) (v := .ref (a 4)) (C := RX7) (T := TX7) (N := 8) hx hb hg in_X7 hown hK hP 0 rfl rfl 2 (by decide) (hg _ w169) (fun _ h9 => h9) rfl dX7_writeAnew_85 ?_
    refine lv_iload_n hx hb dX7_writeAnew_88 rfl (lv_at hl 4 rfl) ?_
    refine lv_iload_n hx hb dX7_writeAnew_89 rfl (lv_at hl 2 rfl) ?_
    refine lv_aload_n hx hb dX7_writeAnew_90 rfl (lv_at hl 3 rfl) ?_
    refine va_getN (D := D) (ci := 5) (v := .ref (a 18)) (C := RX6) (T := TX6) (N := 10) hx hb hg in_X6 hown hK hP 6 rfl rfl 7 (by decide) (nwF_157 hE.1) (fun _ h9 => h9) rfl dX7_writeAnew_91 ?_
    refine lv_iload hx hb dX7_writeAnew_94 (lv_at hl 5 rfl) ?_
    obtain ⟨u8, hc9, hf⟩ := bind_t hf
    refine k_V (As := [.int v4]) (rest := [.int v1, .int v3, .ref (a 4)]) (n := 1) ⟨hx, hb, hml, hown, hts⟩ (met_X4_valueAt l 40 (fun j => a (18 + j)) (vlPl (fV x)) v4 u8 hc9) w731 w454 w455 w5 w456 ⟨rfl, by decide +kernel, by decide +kernel, by decide +kernel⟩ ⟨Nat.le_of_ble_eq_true rfl, Nat.le_of_ble_eq_true rfl⟩ hK hE hP hD hS hA (isC := [18, 19, 20]) (isR := [0, 1, 2, 3, 4, 5, 6, 7, 8, 9, 10, 11, 12, 13, 14, 15, 16, 17, 21, 22, 23]) (isB := [0, 1, 2, 3, 4, 5, 6, 7, 8, 9, 10, 11, 12, 13, 14, 15, 16, 17, 21, 22, 23, 18, 19, 20]) (ws' := W_F cI cV vf a x) ⟨([0, 1, 2, 3, 4, 5, 6, 7, 8, 9, 10, 11, 12, 13, 14, 15, 16, 17, 21, 22, 23] : List Nat).filterMap (fun i : Nat => (W_F cI cV vf a x : va_W)[i]?), rfl, rfl, rfl, rfl, by decide, rfl, rfl⟩ 18 3 rfl rfl rfl rfl hl.1 rfl (Nat.le_of_ble_eq_true rfl) dX7_writeAnew_96 ⟨Nat.le_of_ble_eq_true rfl, Nat.le_of_ble_eq_true rfl⟩ (fun H locs hP hD hS => ?_)
    try dsimp only at hf
    refine W.eq (g2 := F0 m 99 ls [.int u8, .int v1, .int v3, .ref (a 4)]) rfl ?_
    refine lv_iload hx hb dX7_writeAnew_99 (lv_at hl 0 rfl) ?_
    refine lv_iconst (v := 0) hx hb dX7_writeAnew_101 (by decide) ?_
    obtain ⟨u10, hc11, hf⟩ := bind_t hf
    refine k_V (As := [.int v3, .int v1, .int u8, .int s0, .int 0]) (rest := []) (n := 5) ⟨hx, hb, hml, hown, hts⟩ (met_X3_addRow l (fun j => a (4 + j)) (fNew x) v3 v1 u8 s0 0 u10 hc11) w561 w562 w563 w2 w564 ⟨rfl, by decide +kernel, by decide +kernel, by decide +kernel⟩ ⟨Nat.le_of_ble_eq_true rfl, Nat.le_of_ble_eq_true rfl⟩ hK hE hP hD hS hA (isC := [4, 5]) (isR := [0, 1, 2, 3, 6, 7, 8, 9, 10, 11, 12, 13, 14, 15, 16, 17, 18, 19, 20, 21, 22, 23]) (isB := [0, 1, 2, 3, 22, 23, 4, 5, 6, 7, 8, 9, 10, 11, 12, 13, 14, 15, 16, 17, 18, 19, 20, 21]) (ws' := W_F cI cV vf a (fNew_s x u10)) ⟨([0, 1, 2, 3, 6, 7, 8, 9, 10, 11, 12, 13, 14, 15, 16, 17, 18, 19, 20, 21, 22, 23] : List Nat).filterMap (fun i : Nat => (W_F cI cV vf a x : va_W)[i]?), rfl, rfl, rfl, rfl, by decide, rfl, rfl⟩ 4 2 rfl rfl rfl rfl hl.1 rfl (Nat.le_of_ble_eq_true rfl) dX7_writeAnew_102 ⟨Nat.le_of_ble_eq_true rfl, Nat.le_of_ble_eq_true rfl⟩ (fun H locs hP hD hS => ?_)
    try dsimp only at hf
    refine W.eq (g2 := F0 m 105 ls []) rfl ?_
    obtain ⟨x12, hx12⟩ : ∃ z, z = (fNew_s x u10) := ⟨_, rfl⟩
    replace hf := keep_e hf x12 hx12
    have hP : va_P D vwCl (W_F cI cV vf a x12) H := by rw [hx12]; exact hP
    have hD : va_D A (W_F cI cV vf a x12) := by rw [hx12]; exact hD
    refine lv_aload_n hx hb dX7_writeAnew_105 rfl (lv_at hl 1 rfl) ?_
    refine va_get (D := D) (ci := 6) (v := .ref (a 4)) (C := RX7) (T := TX7) (N := 8) hx hb hg in_X7 hown hK hP 0 rfl rfl 2 (by decide) (hg _ w169) (fun _ h9 => h9) rfl dX7_writeAnew_106 ?_
    refine lv_aload_n hx hb dX7_writeAnew_109 rfl (lv_at hl 1 rfl) ?_
    refine va_get (D := D) (ci := 6) (v := .int (fClk x12)) (C := RX7) (T := TX7) (N := 8) hx hb hg in_X7 hown hK hP 0 rfl rfl 5 (by decide) (hg _ w172) (fun _ h9 => h9) rfl dX7_writeAnew_110 ?_
    refine lv_aload_n hx hb dX7_writeAnew_113 rfl (lv_at hl 3 rfl) ?_
    refine va_getN (D := D) (ci := 5) (v := .int (vlId (fV x12))) (C := RX6) (T := TX6) (N := 10) hx hb hg in_X6 hown hK hP 6 rfl rfl 3 (by decide) (nwF_230 hE.1) (fun _ h9 => h9) rfl dX7_writeAnew_114 ?_
    obtain ⟨u13, hc14, hf⟩ := bind_t hf
    refine k_V (As := [.int (fClk x12), .int (vlId (fV x12))]) (rest := []) (n := 2) ⟨hx, hb, hml, hown, hts⟩ (met_X3_stampLast l (fun j => a (4 + j)) (fNew x12) (fClk x12) (vlId (fV x12)) u13 hc14) w565 w566 w567 w2 w568 ⟨rfl, by decide +kernel, by decide +kernel, by decide +kernel⟩ ⟨Nat.le_of_ble_eq_true rfl, Nat.le_of_ble_eq_true rfl⟩ hK hE hP hD hS hA (isC := [4, 5]) (isR := [0, 1, 2, 3, 6, 7, 8, 9, 10, 11, 12, 13, 14, 15, 16, 17, 18, 19, 20, 21, 22, 23]) (isB := [0, 1, 2, 3, 22, 23, 4, 5, 6, 7, 8, 9, 10, 11, 12, 13, 14, 15, 16, 17, 18, 19, 20, 21]) (ws' := W_F cI cV vf a (fNew_s x12 u13)) ⟨([0, 1, 2, 3, 6, 7, 8, 9, 10, 11, 12, 13, 14, 15, 16, 17, 18, 19, 20, 21, 22, 23] : List Nat).filterMap (fun i : Nat => (W_F cI cV vf a x12 : va_W)[i]?), rfl, rfl, rfl, rfl, by decide, rfl, rfl⟩ 4 2 rfl rfl rfl rfl hl.1 rfl (Nat.le_of_ble_eq_true rfl) dX7_writeAnew_117 ⟨Nat.le_of_ble_eq_true rfl, Nat.le_of_ble_eq_true rfl⟩ (fun H locs hP hD hS => ?_)
    try dsimp only at hf
    refine W.eq (g2 := F0 m 120 ls []) rfl ?_
    obtain ⟨x15, hx15⟩ : ∃ z, z = (fNew_s x12 u13) := ⟨_, rfl⟩
    replace hf := keep_e hf x15 hx15
    have hP : va_P D vwCl (W_F cI cV vf a x15) H := by rw [hx15]; exact hP
    have hD : va_D A (W_F cI cV vf a x15) := by rw [hx15]; exact hD
    obtain ⟨y16, hy16⟩ : ∃ z : Int32, z = (v4 + 1) := ⟨_, rfl⟩
    replace hf := keep_e hf y16 hy16
    refine lv_iinc (v := y16) (lv' := [(4, .int y16), (5, .int s0), (0, .ref (a 0)), (1, .int v1), (2, .ref (a 6)), (3, .int v3)]) hx hb dX7_writeAnew_120 hl (k := 5) rfl (by rw [hy16]; rfl) (by decide) rfl (fun ls hl => ?_)
    refine lv_goto (tgt := 52) hx hb dX7_writeAnew_123 (by decide) ?_
    exact hrec52 x15 y16 H locs ls hf hP hD hS (lv_sub hl [2, 3, 4, 5, 0] rfl)
  have S52 : ∀ (v1 : Int32) (v3 : Int32) (rec52 : FSt × Int32 → Option (FSt)) (hrec52 : ∀ (x : FSt), ∀ (v4 : Int32), ∀ (H : Heap) (locs : List Loc) (ls : Array Slot), rec52 (x, v4) = some res → va_P D vwCl (W_F cI cV vf a x) H → va_D A (W_F cI cV vf a x) → va_S A s.heap H locs → lv_has ls 6 [(0, .ref (a 0)), (1, .int v1), (2, .ref (a 6)), (3, .int v3), (4, .int v4)] → W p l e ({ frames := 3, cells := 0, slots := 0, locals := 107 } : Room) s m ([.ref (a 0), .int p1] : List Value).toArray below meth c H locs 0 0 (MQ below (QW D (TY cI cV cJ cD) (W_F cI cV vf a res) A none) (([.ref (a 0), .int p1] : List Value).toArray) s 0 0 A) (F0 m 52 ls [])) (x : FSt) (v4 : Int32) (H : Heap) (locs : List Loc) (ls : Array Slot), fX7_writeAnew_52 k v1 v3  rec52 (x, v4) = some res → va_P D vwCl (W_F cI cV vf a x) H → va_D A (W_F cI cV vf a x) → va_S A s.heap H locs → lv_has ls 6 [(0, .ref (a 0)), (1, .int v1), (2, .ref (a 6)), (3, .int v3), (4, .int v4)] → W p l e ({ frames := 3, cells := 0, slots := 0, locals := 107 } : Room) s m ([.ref (a 0), .int p1] : List Value).toArray below meth c H locs 0 0 (MQ below (QW D (TY cI cV cJ cD) (W_F cI cV vf a res) A none) (([.ref (a 0), .int p1] : List Value).toArray) s 0 0 A) (F0 m 52 ls []) := by
    intro v1 v3 rec52 hrec52 x v4 H locs ls hf hP hD hS hl
    dsimp only [fX7_writeAnew_52] at hf
    refine lv_iload hx hb dX7_writeAnew_52 (lv_at hl 4 rfl) ?_
    refine lv_aload_n hx hb dX7_writeAnew_54 rfl (lv_at hl 2 rfl) ?_
    obtain ⟨u17, hc18, hf⟩ := bind_t hf
    refine k_V (As := []) (rest := [.int v4]) (n := 0) ⟨hx, hb, hml, hown, hts⟩ (met_X6_count l (fun j => a (6 + j)) (fV x) u17 hc18) w306 w307 w308 w3 w309 ⟨rfl, by decide +kernel, by decide +kernel, by decide +kernel⟩ ⟨Nat.le_of_ble_eq_true rfl, Nat.le_of_ble_eq_true rfl⟩ hK hE hP hD hS hA (isC := [6, 7, 8, 9, 10, 11, 12, 13, 14, 15, 16, 17, 18, 19, 20, 21, 22, 23]) (isR := [0, 1, 2, 3, 4, 5]) (isB := [0, 1, 2, 3, 4, 5, 6, 7, 8, 9, 10, 11, 12, 13, 14, 15, 16, 17, 18, 19, 20, 21, 22, 23]) (ws' := W_F cI cV vf a x) ⟨([0, 1, 2, 3, 4, 5] : List Nat).filterMap (fun i : Nat => (W_F cI cV vf a x : va_W)[i]?), rfl, rfl, rfl, rfl, by decide, rfl, rfl⟩ 6 5 rfl rfl rfl rfl hl.1 rfl (Nat.le_of_ble_eq_true rfl) dX7_writeAnew_55 ⟨Nat.le_of_ble_eq_true rfl, Nat.le_of_ble_eq_true rfl⟩ (fun H locs hP hD hS => ?_)
    try dsimp only at hf
    refine W.eq (g2 := F0 m 58 ls [.int u17, .int v4]) rfl ?_
    refine lv_icmp_ge (tgt := 126) hx hb dX7_writeAnew_58 (by decide) (fun c19 => ?_) (fun c19 => ?_)
    · replace hf := if_t c19 hf
      exact L126 x v1 H locs ls hf hP hD hS (lv_sub hl [0, 1, 2] rfl)
    · replace hf := if_f c19 hf
      refine lv_aload_n hx hb dX7_writeAnew_61 rfl (lv_at hl 2 rfl) ?_
      refine va_getN (D := D) (ci := 5) (v := .int (vlTyp (fV x))) (C := RX6) (T := TX6) (N := 10) hx hb hg in_X6 hown hK hP 6 rfl rfl 1 (by decide) (nwF_214 hE.1) (fun _ h9 => h9) rfl dX7_writeAnew_62 ?_
      refine lv_iconst (v := 1) hx hb dX7_writeAnew_65 (by decide) ?_
      refine lv_icmp_ne (tgt := 73) hx hb dX7_writeAnew_66 (by decide) (fun c20 => ?_) (fun c20 => ?_)
      · replace hf := if_f c20 hf
        refine lv_aload_n hx hb dX7_writeAnew_73 rfl (lv_at hl 2 rfl) ?_
        refine va_getN (D := D) (ci := 5) (v := .ref (a 18)) (C := RX6) (T := TX6) (N := 10) hx hb hg in_X6 hown hK hP 6 rfl rfl 7 (by decide) (nwF_157 hE.1) (fun _ h9 => h9) rfl dX7_writeAnew_74 ?_
        refine lv_iload hx hb dX7_writeAnew_77 (lv_at hl 4 rfl) ?_
        obtain ⟨u21, hc22, hf⟩ := bind_t hf
        refine k_V (As := [.int v4]) (rest := []) (n := 1) ⟨hx, hb, hml, hown, hts⟩ (met_X4_bitsAt l 40 (fun j => a (18 + j)) (vlPl (fV x)) v4 u21 hc22) w730 w458 w459 w5 w460 ⟨rfl, by decide +kernel, by decide +kernel, by decide +kernel⟩ ⟨Nat.le_of_ble_eq_true rfl, Nat.le_of_ble_eq_true rfl⟩ hK hE hP hD hS hA (isC := [18, 19, 20]) (isR := [0, 1, 2, 3, 4, 5, 6, 7, 8, 9, 10, 11, 12, 13, 14, 15, 16, 17, 21, 22, 23]) (isB := [0, 1, 2, 3, 4, 5, 6, 7, 8, 9, 10, 11, 12, 13, 14, 15, 16, 17, 21, 22, 23, 18, 19, 20]) (ws' := W_F cI cV vf a x) ⟨([0, 1, 2, 3, 4, 5, 6, 7, 8, 9, 10, 11, 12, 13, 14, 15, 16, 17, 21, 22, 23] : List Nat).filterMap (fun i : Nat => (W_F cI cV vf a x : va_W)[i]?), rfl, rfl, rfl, rfl, by decide, rfl, rfl⟩ 18 3 rfl rfl rfl rfl hl.1 rfl (Nat.le_of_ble_eq_true rfl) dX7_writeAnew_79 ⟨Nat.le_of_ble_eq_true rfl, Nat.le_of_ble_eq_true rfl⟩ (fun H locs hP hD hS => ?_)
        try dsimp only at hf
        refine W.eq (g2 := F0 m 82 ls [.int u21]) rfl ?_
        exact L82 x v1 v3 v4 u21 rec52 hrec52 H locs ls hf hP hD hS (lv_sub hl [0, 1, 2, 3, 4] rfl)
      · replace hf := if_t c20 hf
        refine lv_iconst (v := 1) hx hb dX7_writeAnew_69 (by decide) ?_
        refine lv_goto (tgt := 82) hx hb dX7_writeAnew_70 (by decide) ?_
        exact L82 x v1 v3 v4 1 rec52 hrec52 H locs ls hf hP hD hS (lv_sub hl [0, 1, 2, 3, 4] rfl)
  have L52 : ∀ (v1 : Int32) (v3 : Int32) (fu : Nat) (x : FSt) (v4 : Int32) (H : Heap) (locs : List Loc) (ls : Array Slot), iterK fu (fX7_writeAnew_52 k v1 v3 ) (x, v4) = some res → va_P D vwCl (W_F cI cV vf a x) H → va_D A (W_F cI cV vf a x) → va_S A s.heap H locs → lv_has ls 6 [(0, .ref (a 0)), (1, .int v1), (2, .ref (a 6)), (3, .int v3), (4, .int v4)] → W p l e ({ frames := 3, cells := 0, slots := 0, locals := 107 } : Room) s m ([.ref (a 0), .int p1] : List Value).toArray below meth c H locs 0 0 (MQ below (QW D (TY cI cV cJ cD) (W_F cI cV vf a res) A none) (([.ref (a 0), .int p1] : List Value).toArray) s 0 0 A) (F0 m 52 ls []) := by
    intro v1 v3 fu
    induction fu with
    | zero =>
      intro x v4 H locs ls hf
      cases hf
    | succ fu ih =>
      intro x v4 H locs ls hf hP hD hS hl
      exact S52 v1 v3 (iterK fu (fX7_writeAnew_52 k v1 v3 )) ih x v4 H locs ls hf hP hD hS hl
  have M0 : ∀ (H : Heap) (locs : List Loc) (ls : Array Slot), fX7_writeAnew k x p1 = some res → va_P D vwCl (W_F cI cV vf a x) H → va_D A (W_F cI cV vf a x) → va_S A s.heap H locs → lv_has ls 6 [(0, .ref (a 0)), (1, .int p1)] → W p l e ({ frames := 3, cells := 0, slots := 0, locals := 107 } : Room) s m ([.ref (a 0), .int p1] : List Value).toArray below meth c H locs 0 0 (MQ below (QW D (TY cI cV cJ cD) (W_F cI cV vf a res) A none) (([.ref (a 0), .int p1] : List Value).toArray) s 0 0 A) (F0 m 0 ls []) := by
    intro H locs ls hf hP hD hS hl
    dsimp only [fX7_writeAnew] at hf
    refine lv_aload_n hx hb dX7_writeAnew_0 rfl (lv_at hl 0 rfl) ?_
    refine va_get (D := D) (ci := 6) (v := .ref (a 1)) (C := RX7) (T := TX7) (N := 8) hx hb hg in_X7 hown hK hP 0 rfl rfl 0 (by decide) (hg _ w167) (fun _ h9 => h9) rfl dX7_writeAnew_1 ?_
    refine lv_iload_n hx hb dX7_writeAnew_4 rfl (lv_at hl 1 rfl) ?_
    obtain ⟨hi23, hf⟩ := chk_t hf
    refine va_aldq hx hb hK hP 1 1 rfl rfl (keyok_i hi23) dX7_writeAnew_5 ?_
    refine W.eq (g2 := F0 m 6 ls [.ref (a 6)]) (by rw [keyok_k hi23, hvf]; rfl) ?_
    refine lv_astore_n (lv' := [(2, .ref (a 6)), (0, .ref (a 0)), (1, .int p1)]) hx hb dX7_writeAnew_6 rfl hl (by decide) rfl (fun ls hl => ?_)
    refine lv_aload_n hx hb dX7_writeAnew_7 rfl (lv_at hl 0 rfl) ?_
    refine va_getN (D := D) (ci := 5) (v := .int (vlTyp (fV x))) (C := RX6) (T := TX6) (N := 10) hx hb hg in_X6 hown hK hP 6 rfl rfl 1 (by decide) (nwF_214 hE.1) (fun _ h9 => h9) rfl dX7_writeAnew_8 ?_
    refine lv_iconst (v := 4) hx hb dX7_writeAnew_11 (by decide) ?_
    refine lv_icmp_ne (tgt := 23) hx hb dX7_writeAnew_12 (by decide) (fun c24 => ?_) (fun c24 => ?_)
    · replace hf := if_f c24 hf
      refine lv_aload_n hx hb dX7_writeAnew_23 rfl (lv_at hl 0 rfl) ?_
      refine va_getN (D := D) (ci := 5) (v := .int (vlTyp (fV x))) (C := RX6) (T := TX6) (N := 10) hx hb hg in_X6 hown hK hP 6 rfl rfl 1 (by decide) (nwF_214 hE.1) (fun _ h9 => h9) rfl dX7_writeAnew_24 ?_
      refine lv_iconst (v := 1) hx hb dX7_writeAnew_27 (by decide) ?_
      refine lv_icmp_ne (tgt := 35) hx hb dX7_writeAnew_28 (by decide) (fun c25 => ?_) (fun c25 => ?_)
      · replace hf := if_f c25 hf
        refine lv_aload_n hx hb dX7_writeAnew_35 rfl (lv_at hl 0 rfl) ?_
        refine va_getN (D := D) (ci := 5) (v := .int (vlTyp (fV x))) (C := RX6) (T := TX6) (N := 10) hx hb hg in_X6 hown hK hP 6 rfl rfl 1 (by decide) (nwF_214 hE.1) (fun _ h9 => h9) rfl dX7_writeAnew_36 ?_
        refine lv_iconst (v := 2) hx hb dX7_writeAnew_39 (by decide) ?_
        refine lv_icmp_ne (tgt := 47) hx hb dX7_writeAnew_40 (by decide) (fun c26 => ?_) (fun c26 => ?_)
        · replace hf := if_f c26 hf
          refine lv_iconst (v := 3) hx hb dX7_writeAnew_47 (by decide) ?_
          refine lv_istore_n (lv' := [(3, .int 3), (2, .ref (a 6)), (0, .ref (a 0)), (1, .int p1)]) hx hb dX7_writeAnew_48 rfl hl (by decide) rfl (fun ls hl => ?_)
          refine lv_iconst (v := 0) hx hb dX7_writeAnew_49 (by decide) ?_
          refine lv_istore (lv' := [(4, .int 0), (3, .int 3), (2, .ref (a 6)), (0, .ref (a 0)), (1, .int p1)]) hx hb dX7_writeAnew_50 hl (by decide) rfl (fun ls hl => ?_)
          exact L52 p1 3 FU x 0 H locs ls hf hP hD hS (lv_sub hl [3, 4, 2, 1, 0] rfl)
        · replace hf := if_t c26 hf
          refine lv_iconst (v := 5) hx hb dX7_writeAnew_43 (by decide) ?_
          refine lv_goto (tgt := 48) hx hb dX7_writeAnew_44 (by decide) ?_
          refine lv_istore_n (lv' := [(3, .int 5), (2, .ref (a 6)), (0, .ref (a 0)), (1, .int p1)]) hx hb dX7_writeAnew_48 rfl hl (by decide) rfl (fun ls hl => ?_)
          refine lv_iconst (v := 0) hx hb dX7_writeAnew_49 (by decide) ?_
          refine lv_istore (lv' := [(4, .int 0), (3, .int 5), (2, .ref (a 6)), (0, .ref (a 0)), (1, .int p1)]) hx hb dX7_writeAnew_50 hl (by decide) rfl (fun ls hl => ?_)
          exact L52 p1 5 FU x 0 H locs ls hf hP hD hS (lv_sub hl [3, 4, 2, 1, 0] rfl)
      · replace hf := if_t c25 hf
        refine lv_iconst (v := 1) hx hb dX7_writeAnew_31 (by decide) ?_
        refine lv_goto (tgt := 48) hx hb dX7_writeAnew_32 (by decide) ?_
        refine lv_istore_n (lv' := [(3, .int 1), (2, .ref (a 6)), (0, .ref (a 0)), (1, .int p1)]) hx hb dX7_writeAnew_48 rfl hl (by decide) rfl (fun ls hl => ?_)
        refine lv_iconst (v := 0) hx hb dX7_writeAnew_49 (by decide) ?_
        refine lv_istore (lv' := [(4, .int 0), (3, .int 1), (2, .ref (a 6)), (0, .ref (a 0)), (1, .int p1)]) hx hb dX7_writeAnew_50 hl (by decide) rfl (fun ls hl => ?_)
        exact L52 p1 1 FU x 0 H locs ls hf hP hD hS (lv_sub hl [3, 4, 2, 1, 0] rfl)
    · replace hf := if_t c24 hf
      refine lv_aload_n hx hb dX7_writeAnew_15 rfl (lv_at hl 1 rfl) ?_
      refine lv_iload_n hx hb dX7_writeAnew_16 rfl (lv_at hl 2 rfl) ?_
      obtain ⟨u27, hc28, hf⟩ := bind_t hf
      refine k_V (As := [.int p1]) (rest := []) (n := 1) ⟨hx, hb, hml, hown, hts⟩ (met_X7_copyStreamRows l k vf a hvf x p1 u27 hc28) w722 w724 ws23 w1 w725 ⟨rfl, by decide +kernel, by decide +kernel, by decide +kernel⟩ ⟨Nat.le_of_ble_eq_true rfl, Nat.le_of_ble_eq_true rfl⟩ hK hE hP hD hS hA (isC := [0, 1, 2, 3, 4, 5, 6, 7, 8, 9, 10, 11, 12, 13, 14, 15, 16, 17, 18, 19, 20, 21, 22, 23]) (isR := []) (isB := [0, 1, 2, 3, 4, 5, 6, 7, 8, 9, 10, 11, 12, 13, 14, 15, 16, 17, 18, 19, 20, 21, 22, 23]) (ws' := W_F cI cV vf a u27) ⟨([] : List Nat).filterMap (fun i : Nat => (W_F cI cV vf a x : va_W)[i]?), rfl, rfl, rfl, rfl, by decide, rfl, rfl⟩ 0 6 rfl rfl rfl rfl hl.1 rfl (Nat.le_of_ble_eq_true rfl) dX7_writeAnew_17 ⟨Nat.le_of_ble_eq_true rfl, Nat.le_of_ble_eq_true rfl⟩ (fun H locs hP hD hS => ?_)
      try dsimp only at hf
      refine W.eq (g2 := F0 m 20 ls []) rfl ?_
      obtain ⟨x29, hx29⟩ : ∃ z, z = u27 := ⟨_, rfl⟩
      replace hf := keep_e hf x29 hx29
      have hP : va_P D vwCl (W_F cI cV vf a x29) H := by rw [hx29]; exact hP
      have hD : va_D A (W_F cI cV vf a x29) := by rw [hx29]; exact hD
      refine lv_goto (tgt := 126) hx hb dX7_writeAnew_20 (by decide) ?_
      exact L126 x29 p1 H locs ls hf hP hD hS (lv_sub hl [1, 2, 0] rfl)
  exact M0 s.heap [] ls hf hP hD hS hl
/-! Compactforms.doAgain(I)V -/
def fX7_doAgain (k : Nat) (x : FSt) (p1 : Int32) : Option (FSt) := (fX3_cell (fLog x) p1 1).bind (fun u1 => (fX7_isKey u1).bind (fun u3 => (if u3 = 0 then some x else (fX3_cell (fLog x) p1 5).bind (fun u6 => keep (fClk_s x u6) (fun x8 => (fX3_cell (fLog x8) p1 0).bind (fun u9 => (fX3_cell (fLog x8) p1 2).bind (fun u11 => (fX3_cell (fLog x8) p1 3).bind (fun u13 => (fX3_cell (fLog x8) p1 4).bind (fun u15 => (fX7_perform k x8 u9 u1 u11 u13 u15).bind (fun u17 => keep u17.1 (fun x19 => chk (keyok u1 k) ((fX3_stamp (fLog x19) p1 (fClk x19) (vlId (fV x19))).bind (fun u21 => keep (fLog_s x19 u21) (fun x23 => some x23))))))))))))))
set_option maxHeartbeats 4000000 in
set_option maxRecDepth 100000 in
theorem met_X7_doAgain {D : va_G} {cI cV cJ cD : ClassId} (l : Launch) (k : Nat) (vf : Nat → Option Nat) (a : Nat → Nat) (hvf : vf k = some (a 6)) (x : FSt) (p1 : Int32) (res : FSt) (hf : fX7_doAgain k x p1 = some res) : MM l yX7_doAgain cX7_doAgain 3 none { frames := 5, cells := 0, slots := 0, locals := 154 } D (TY cI cV cJ cD) (W_F cI cV vf a x) (W_F cI cV vf a res) [.ref (a 0), .int p1] none := by
  intro sz
  refine Met.ofW (cc := cX7_doAgain) (maxL := 3) (ret := none) (by decide +kernel) rfl ?_
  intro p e s m args below meth c s₁ B hml hv
  obtain ⟨rfl, hsz, hP, hK, hD0, hE⟩ := hv
  have hx := B.exec
  have hb := B.bytes
  have hr := B.returns
  have hts := atoms_spec (ws := .code yX7_doAgain cX7_doAgain 3 none :: GW) B.pre
  have hg : ∀ w ∈ GW, w.before (([.ref (a 0), .int p1] : List Value).toArray) s = true := fun w h => hts w (List.mem_cons_of_mem _ h)
  have hown : s.vm.findClass RX7 = some m.cls := findClass_of_methodNamed B.named
  have hlocks := B.notSynchronized
  subst hsz
  have hD := hD0.self (sz := s.heap.size)
  generalize hAe : va_A (W_F cI cV vf a x) s.heap.size = A at hD hE ⊢
  have hA : ∀ q : Nat, s.heap.size ≤ q → A q := fun q h => by rw [← hAe]; exact Or.inr h
  have hS : va_S A s.heap s.heap [] := va_S.rf
  have hl := lv_entry ([.ref (a 0), .int p1]) (n := 3) (Nat.le_of_ble_eq_true rfl)
  rw [lg_entry_eq]
  generalize (lg_sl ([.ref (a 0), .int p1]) ++ List.replicate (3 - (lg_sl ([.ref (a 0), .int p1])).length) Slot.unset).toArray = ls at hl ⊢
  have hl : lv_has ls 3 [(0, .ref (a 0)), (1, .int p1)] := hl
  have M0 : ∀ (H : Heap) (locs : List Loc) (ls : Array Slot), fX7_doAgain k x p1 = some res → va_P D vwCl (W_F cI cV vf a x) H → va_D A (W_F cI cV vf a x) → va_S A s.heap H locs → lv_has ls 3 [(0, .ref (a 0)), (1, .int p1)] → W p l e ({ frames := 5, cells := 0, slots := 0, locals := 154 } : Room) s m ([.ref (a 0), .int p1] : List Value).toArray below meth c H locs 0 0 (MQ below (QW D (TY cI cV cJ cD) (W_F cI cV vf a res) A none) (([.ref (a 0), .int p1] : List Value).toArray) s 0 0 A) (F0 m 0 ls []) := by
    intro H locs ls hf hP hD hS hl
    dsimp only [fX7_doAgain] at hf
    refine lv_aload_n hx hb dX7_doAgain_0 rfl (lv_at hl 0 rfl) ?_
    refine va_get (D := D) (ci := 6) (v := .ref (a 2)) (C := RX7) (T := TX7) (N := 8) hx hb hg in_X7 hown hK hP 0 rfl rfl 1 (by decide) (hg _ w168) (fun _ h9 => h9) rfl dX7_doAgain_1 ?_
    refine lv_iload_n hx hb dX7_doAgain_4 rfl (lv_at hl 1 rfl) ?_
    refine lv_iconst (v := 1) hx hb dX7_doAgain_5 (by decide) ?_
    obtain ⟨u1, hc2, hf⟩ := bind_t hf
    refine k_V (As := [.int p1, .int 1]) (rest := []) (n := 2) ⟨hx, hb, hml, hown, hts⟩ (met_X3_cell l (fun j => a (2 + j)) (fLog x) p1 1 u1 hc2) w726 w727 w728 w2 w729 ⟨rfl, by decide +kernel, by decide +kernel, by decide +kernel⟩ ⟨Nat.le_of_ble_eq_true rfl, Nat.le_of_ble_eq_true rfl⟩ hK hE hP hD hS hA (isC := [2, 3]) (isR := [0, 1, 4, 5, 6, 7, 8, 9, 10, 11, 12, 13, 14, 15, 16, 17, 18, 19, 20, 21, 22, 23]) (isB := [0, 1, 22, 23, 2, 3, 4, 5, 6, 7, 8, 9, 10, 11, 12, 13, 14, 15, 16, 17, 18, 19, 20, 21]) (ws' := W_F cI cV vf a x) ⟨([0, 1, 4, 5, 6, 7, 8, 9, 10, 11, 12, 13, 14, 15, 16, 17, 18, 19, 20, 21, 22, 23] : List Nat).filterMap (fun i : Nat => (W_F cI cV vf a x : va_W)[i]?), rfl, rfl, rfl, rfl, by decide, rfl, rfl⟩ 2 2 rfl rfl rfl rfl hl.1 rfl (Nat.le_of_ble_eq_true rfl) dX7_doAgain_6 ⟨Nat.le_of_ble_eq_true rfl, Nat.le_of_ble_eq_true rfl⟩ (fun H locs hP hD hS => ?_)
    try dsimp only at hf
    refine W.eq (g2 := F0 m 9 ls [.int u1]) rfl ?_
    refine lv_istore_n (lv' := [(2, .int u1), (0, .ref (a 0)), (1, .int p1)]) hx hb dX7_doAgain_9 rfl hl (by decide) rfl (fun ls hl => ?_)
    refine lv_iload_n hx hb dX7_doAgain_10 rfl (lv_at hl 0 rfl) ?_
    obtain ⟨u3, hc4, hf⟩ := bind_t hf
    refine k_S (As := [.int u1]) (rest := []) (n := 1) ⟨hx, hb, hml, hown, hts⟩ (met_X7_isKey l u1 u3 hc4) w212 w213 w1 w214 ⟨by decide +kernel, by decide +kernel, by decide +kernel⟩ ⟨Nat.le_of_ble_eq_true rfl, Nat.le_of_ble_eq_true rfl⟩ hK hE hP hD hS hA (isC := []) (isR := [0, 1, 2, 3, 4, 5, 6, 7, 8, 9, 10, 11, 12, 13, 14, 15, 16, 17, 18, 19, 20, 21, 22, 23]) (isB := [0, 1, 2, 3, 4, 5, 6, 7, 8, 9, 10, 11, 12, 13, 14, 15, 16, 17, 18, 19, 20, 21, 22, 23]) (ws' := W_F cI cV vf a x) ⟨([0, 1, 2, 3, 4, 5, 6, 7, 8, 9, 10, 11, 12, 13, 14, 15, 16, 17, 18, 19, 20, 21, 22, 23] : List Nat).filterMap (fun i : Nat => (W_F cI cV vf a x : va_W)[i]?), rfl, rfl, rfl, rfl, by decide, rfl, rfl⟩ rfl hl.1 rfl (Nat.le_of_ble_eq_true rfl) dX7_doAgain_11 ⟨Nat.le_of_ble_eq_true rfl, Nat.le_of_ble_eq_true rfl⟩ (fun H locs hP hD hS => ?_)
    try dsimp only at hf
    refine W.eq (g2 := F0 m 14 ls [.int u3]) rfl ?_
    refine lv_if_ne (tgt := 18) hx hb dX7_doAgain_14 (by decide) (fun c5 => ?_) (fun c5 => ?_)
    · replace hf := if_f c5 hf
      refine lv_aload_n hx hb dX7_doAgain_18 rfl (lv_at hl 1 rfl) ?_
      refine lv_aload_n hx hb dX7_doAgain_19 rfl (lv_at hl 1 rfl) ?_
      refine va_get (D := D) (ci := 6) (v := .ref (a 2)) (C := RX7) (T := TX7) (N := 8) hx hb hg in_X7 hown hK hP 0 rfl rfl 1 (by decide) (hg _ w168) (fun _ h9 => h9) rfl dX7_doAgain_20 ?_
      refine lv_iload_n hx hb dX7_doAgain_23 rfl (lv_at hl 2 rfl) ?_
      refine lv_iconst (v := 5) hx hb dX7_doAgain_24 (by decide) ?_
      obtain ⟨u6, hc7, hf⟩ := bind_t hf
      refine k_V (As := [.int p1, .int 5]) (rest := [.ref (a 0)]) (n := 2) ⟨hx, hb, hml, hown, hts⟩ (met_X3_cell l (fun j => a (2 + j)) (fLog x) p1 5 u6 hc7) w726 w727 w728 w2 w729 ⟨rfl, by decide +kernel, by decide +kernel, by decide +kernel⟩ ⟨Nat.le_of_ble_eq_true rfl, Nat.le_of_ble_eq_true rfl⟩ hK hE hP hD hS hA (isC := [2, 3]) (isR := [0, 1, 4, 5, 6, 7, 8, 9, 10, 11, 12, 13, 14, 15, 16, 17, 18, 19, 20, 21, 22, 23]) (isB := [0, 1, 22, 23, 2, 3, 4, 5, 6, 7, 8, 9, 10, 11, 12, 13, 14, 15, 16, 17, 18, 19, 20, 21]) (ws' := W_F cI cV vf a x) ⟨([0, 1, 4, 5, 6, 7, 8, 9, 10, 11, 12, 13, 14, 15, 16, 17, 18, 19, 20, 21, 22, 23] : List Nat).filterMap (fun i : Nat => (W_F cI cV vf a x : va_W)[i]?), rfl, rfl, rfl, rfl, by decide, rfl, rfl⟩ 2 2 rfl rfl rfl rfl hl.1 rfl (Nat.le_of_ble_eq_true rfl) dX7_doAgain_25 ⟨Nat.le_of_ble_eq_true rfl, Nat.le_of_ble_eq_true rfl⟩ (fun H locs hP hD hS => ?_)
      try dsimp only at hf
      refine W.eq (g2 := F0 m 28 ls [.int u6, .ref (a 0)]) rfl ?_
      refine va_put (D := D) (ci := 6) (v := .int u6) (ty := .int) (C := RX7) (T := TX7) (N := 8) hx hb hg in_X7 tyX7 tyX7_ok nmX7 hown hK hP hD hS 0 rfl rfl 5 (by decide) (hg _ w172) (fun _ h9 => h9) rfl (by decide +kernel) rfl rfl (Nat.le_of_ble_eq_true rfl) dX7_doAgain_28 (fun H locs hP hD hS => ?_)
      obtain ⟨x8, hx8⟩ : ∃ z, z = (fClk_s x u6) := ⟨_, rfl⟩
      replace hf := keep_e hf x8 hx8
      have hP : va_P D vwCl (W_F cI cV vf a x8) H := by rw [hx8]; exact hP
      have hD : va_D A (W_F cI cV vf a x8) := by rw [hx8]; exact hD
      refine lv_aload_n hx hb dX7_doAgain_31 rfl (lv_at hl 1 rfl) ?_
      refine lv_aload_n hx hb dX7_doAgain_32 rfl (lv_at hl 1 rfl) ?_
      refine va_get (D := D) (ci := 6) (v := .ref (a 2)) (C := RX7) (T := TX7) (N := 8) hx hb hg in_X7 hown hK hP 0 rfl rfl 1 (by decide) (hg _ w168) (fun _ h9 => h9) rfl dX7_doAgain_33 ?_
      refine lv_iload_n hx hb dX7_doAgain_36 rfl (lv_at hl 2 rfl) ?_
      refine lv_iconst (v := 0) hx hb dX7_doAgain_37 (by decide) ?_
      obtain ⟨u9, hc10, hf⟩ := bind_t hf
      refine k_V (As := [.int p1, .int 0]) (rest := [.ref (a 0)]) (n := 2) ⟨hx, hb, hml, hown, hts⟩ (met_X3_cell l (fun j => a (2 + j)) (fLog x8) p1 0 u9 hc10) w726 w727 w728 w2 w729 ⟨rfl, by decide +kernel, by decide +kernel, by decide +kernel⟩ ⟨Nat.le_of_ble_eq_true rfl, Nat.le_of_ble_eq_true rfl⟩ hK hE hP hD hS hA (isC := [2, 3]) (isR := [0, 1, 4, 5, 6, 7, 8, 9, 10, 11, 12, 13, 14, 15, 16, 17, 18, 19, 20, 21, 22, 23]) (isB := [0, 1, 22, 23, 2, 3, 4, 5, 6, 7, 8, 9, 10, 11, 12, 13, 14, 15, 16, 17, 18, 19, 20, 21]) (ws' := W_F cI cV vf a x8) ⟨([0, 1, 4, 5, 6, 7, 8, 9, 10, 11, 12, 13, 14, 15, 16, 17, 18, 19, 20, 21, 22, 23] : List Nat).filterMap (fun i : Nat => (W_F cI cV vf a x8 : va_W)[i]?), rfl, rfl, rfl, rfl, by decide, rfl, rfl⟩ 2 2 rfl rfl rfl rfl hl.1 rfl (Nat.le_of_ble_eq_true rfl) dX7_doAgain_38 ⟨Nat.le_of_ble_eq_true rfl, Nat.le_of_ble_eq_true rfl⟩ (fun H locs hP hD hS => ?_)
      try dsimp only at hf
      refine W.eq (g2 := F0 m 41 ls [.int u9, .ref (a 0)]) rfl ?_
      refine lv_iload_n hx hb dX7_doAgain_41 rfl (lv_at hl 0 rfl) ?_
      refine lv_aload_n hx hb dX7_doAgain_42 rfl (lv_at hl 1 rfl) ?_
      refine va_get (D := D) (ci := 6) (v := .ref (a 2)) (C := RX7) (T := TX7) (N := 8) hx hb hg in_X7 hown hK hP 0 rfl rfl 1 (by decide) (hg _ w168) (fun _ h9 => h9) rfl dX7_doAgain_43 ?_
      refine lv_iload_n hx hb dX7_doAgain_46 rfl (lv_at hl 2 rfl) ?_
      refine lv_iconst (v := 2) hx hb dX7_doAgain_47 (by decide) ?_
      obtain ⟨u11, hc12, hf⟩ := bind_t hf
      refine k_V (As := [.int p1, .int 2]) (rest := [.int u1, .int u9, .ref (a 0)]) (n := 2) ⟨hx, hb, hml, hown, hts⟩ (met_X3_cell l (fun j => a (2 + j)) (fLog x8) p1 2 u11 hc12) w726 w727 w728 w2 w729 ⟨rfl, by decide +kernel, by decide +kernel, by decide +kernel⟩ ⟨Nat.le_of_ble_eq_true rfl, Nat.le_of_ble_eq_true rfl⟩ hK hE hP hD hS hA (isC := [2, 3]) (isR := [0, 1, 4, 5, 6, 7, 8, 9, 10, 11, 12, 13, 14, 15, 16, 17, 18, 19, 20, 21, 22, 23]) (isB := [0, 1, 22, 23, 2, 3, 4, 5, 6, 7, 8, 9, 10, 11, 12, 13, 14, 15, 16, 17, 18, 19, 20, 21]) (ws' := W_F cI cV vf a x8) ⟨([0, 1, 4, 5, 6, 7, 8, 9, 10, 11, 12, 13, 14, 15, 16, 17, 18, 19, 20, 21, 22, 23] : List Nat).filterMap (fun i : Nat => (W_F cI cV vf a x8 : va_W)[i]?), rfl, rfl, rfl, rfl, by decide, rfl, rfl⟩ 2 2 rfl rfl rfl rfl hl.1 rfl (Nat.le_of_ble_eq_true rfl) dX7_doAgain_48 ⟨Nat.le_of_ble_eq_true rfl, Nat.le_of_ble_eq_true rfl⟩ (fun H locs hP hD hS => ?_)
      try dsimp only at hf
      refine W.eq (g2 := F0 m 51 ls [.int u11, .int u1, .int u9, .ref (a 0)]) rfl ?_
      refine lv_aload_n hx hb dX7_doAgain_51 rfl (lv_at hl 1 rfl) ?_
      refine va_get (D := D) (ci := 6) (v := .ref (a 2)) (C := RX7) (T := TX7) (N := 8) hx hb hg in_X7 hown hK hP 0 rfl rfl 1 (by decide) (hg _ w168) (fun _ h9 => h9) rfl dX7_doAgain_52 ?_
      refine lv_iload_n hx hb dX7_doAgain_55 rfl (lv_at hl 2 rfl) ?_
      refine lv_iconst (v := 3) hx hb dX7_doAgain_56 (by decide) ?_
      obtain ⟨u13, hc14, hf⟩ := bind_t hf
      refine k_V (As := [.int p1, .int 3]) (rest := [.int u11, .int u1, .int u9, .ref (a 0)]) (n := 2) ⟨hx, hb, hml, hown, hts⟩ (met_X3_cell l (fun j => a (2 + j)) (fLog x8) p1 3 u13 hc14) w726 w727 w728 w2 w729 ⟨rfl, by decide +kernel, by decide +kernel, by decide +kernel⟩ ⟨Nat.le_of_ble_eq_true rfl, Nat.le_of_ble_eq_true rfl⟩ hK hE hP hD hS hA (isC := [2, 3]) (isR := [0, 1, 4, 5, 6, 7, 8, 9, 10, 11, 12, 13, 14, 15, 16, 17, 18, 19, 20, 21, 22, 23]) (isB := [0, 1, 22, 23, 2, 3, 4, 5, 6, 7, 8, 9, 10, 11, 12, 13, 14, 15, 16, 17, 18, 19, 20, 21]) (ws' := W_F cI cV vf a x8) ⟨([0, 1, 4, 5, 6, 7, 8, 9, 10, 11, 12, 13, 14, 15, 16, 17, 18, 19, 20, 21, 22, 23] : List Nat).filterMap (fun i : Nat => (W_F cI cV vf a x8 : va_W)[i]?), rfl, rfl, rfl, rfl, by decide, rfl, rfl⟩ 2 2 rfl rfl rfl rfl hl.1 rfl (Nat.le_of_ble_eq_true rfl) dX7_doAgain_57 ⟨Nat.le_of_ble_eq_true rfl, Nat.le_of_ble_eq_true rfl⟩ (fun H locs hP hD hS => ?_)
      try dsimp only at hf
      refine W.eq (g2 := F0 m 60 ls [.int u13, .int u11, .int u1, .int u9, .ref (a 0)]) rfl ?_
      refine lv_aload_n hx hb dX7_doAgain_60 rfl (lv_at hl 1 rfl) ?_
      refine va_get (D := D) (ci := 6) (v := .ref (a 2)) (C := RX7) (T := TX7) (N := 8) hx hb hg in_X7 hown hK hP 0 rfl rfl 1 (by decide) (hg _ w168) (fun _ h9 => h9) rfl dX7_doAgain_61 ?_
      refine lv_iload_n hx hb dX7_doAgain_64 rfl (lv_at hl 2 rfl) ?_
      refine lv_iconst (v := 4) hx hb dX7_doAgain_65 (by decide) ?_
      obtain ⟨u15, hc16, hf⟩ := bind_t hf
      refine k_V (As := [.int p1, .int 4]) (rest := [.int u13, .int u11, .int u1, .int u9, .ref (a 0)]) (n := 2) ⟨hx, hb, hml, hown, hts⟩ (met_X3_cell l (fun j => a (2 + j)) (fLog x8) p1 4 u15 hc16) w726 w727 w728 w2 w729 ⟨rfl, by decide +kernel, by decide +kernel, by decide +kernel⟩ ⟨Nat.le_of_ble_eq_true rfl, Nat.le_of_ble_eq_true rfl⟩ hK hE hP hD hS hA (isC := [2, 3]) (isR := [0, 1, 4, 5, 6, 7, 8, 9, 10, 11, 12, 13, 14, 15, 16, 17, 18, 19, 20, 21, 22, 23]) (isB := [0, 1, 22, 23, 2, 3, 4, 5, 6, 7, 8, 9, 10, 11, 12, 13, 14, 15, 16, 17, 18, 19, 20, 21]) (ws' := W_F cI cV vf a x8) ⟨([0, 1, 4, 5, 6, 7, 8, 9, 10, 11, 12, 13, 14, 15, 16, 17, 18, 19, 20, 21, 22, 23] : List Nat).filterMap (fun i : Nat => (W_F cI cV vf a x8 : va_W)[i]?), rfl, rfl, rfl, rfl, by decide, rfl, rfl⟩ 2 2 rfl rfl rfl rfl hl.1 rfl (Nat.le_of_ble_eq_true rfl) dX7_doAgain_66 ⟨Nat.le_of_ble_eq_true rfl, Nat.le_of_ble_eq_true rfl⟩ (fun H locs hP hD hS => ?_)
      try dsimp only at hf
      refine W.eq (g2 := F0 m 69 ls [.int u15, .int u13, .int u11, .int u1, .int u9, .ref (a 0)]) rfl ?_
      obtain ⟨u17, hc18, hf⟩ := bind_t hf
      refine k_V (As := [.int u9, .int u1, .int u11, .int u13, .int u15]) (rest := []) (n := 5) ⟨hx, hb, hml, hown, hts⟩ (met_X7_perform l k vf a hvf x8 u9 u1 u11 u13 u15 u17 hc18) w407 w409 ws12 w1 w410 ⟨rfl, by decide +kernel, by decide +kernel, by decide +kernel⟩ ⟨Nat.le_of_ble_eq_true rfl, Nat.le_of_ble_eq_true rfl⟩ hK hE hP hD hS hA (isC := [0, 1, 2, 3, 4, 5, 6, 7, 8, 9, 10, 11, 12, 13, 14, 15, 16, 17, 18, 19, 20, 21, 22, 23]) (isR := []) (isB := [0, 1, 2, 3, 4, 5, 6, 7, 8, 9, 10, 11, 12, 13, 14, 15, 16, 17, 18, 19, 20, 21, 22, 23]) (ws' := W_F cI cV vf a u17.1) ⟨([] : List Nat).filterMap (fun i : Nat => (W_F cI cV vf a x8 : va_W)[i]?), rfl, rfl, rfl, rfl, by decide, rfl, rfl⟩ 0 6 rfl rfl rfl rfl hl.1 rfl (Nat.le_of_ble_eq_true rfl) dX7_doAgain_69 ⟨Nat.le_of_ble_eq_true rfl, Nat.le_of_ble_eq_true rfl⟩ (fun H locs hP hD hS => ?_)
      try dsimp only at hf
      refine W.eq (g2 := F0 m 72 ls [.int u17.2]) rfl ?_
      obtain ⟨x19, hx19⟩ : ∃ z, z = u17.1 := ⟨_, rfl⟩
      replace hf := keep_e hf x19 hx19
      have hP : va_P D vwCl (W_F cI cV vf a x19) H := by rw [hx19]; exact hP
      have hD : va_D A (W_F cI cV vf a x19) := by rw [hx19]; exact hD
      refine lv_pop hx hb dX7_doAgain_72 rfl ?_
      refine lv_aload_n hx hb dX7_doAgain_73 rfl (lv_at hl 1 rfl) ?_
      refine va_get (D := D) (ci := 6) (v := .ref (a 2)) (C := RX7) (T := TX7) (N := 8) hx hb hg in_X7 hown hK hP 0 rfl rfl 1 (by decide) (hg _ w168) (fun _ h9 => h9) rfl dX7_doAgain_74 ?_
      refine lv_iload_n hx hb dX7_doAgain_77 rfl (lv_at hl 2 rfl) ?_
      refine lv_aload_n hx hb dX7_doAgain_78 rfl (lv_at hl 1 rfl) ?_
      refine va_get (D := D) (ci := 6) (v := .int (fClk x19)) (C := RX7) (T := TX7) (N := 8) hx hb hg in_X7 hown hK hP 0 rfl rfl 5 (by decide) (hg _ w172) (fun _ h9 => h9) rfl dX7_doAgain_79 ?_
      refine lv_aload_n hx hb dX7_doAgain_82 rfl (lv_at hl 1 rfl) ?_
      refine va_get (D := D) (ci := 6) (v := .ref (a 1)) (C := RX7) (T := TX7) (N := 8) hx hb hg in_X7 hown hK hP 0 rfl rfl 0 (by decide) (hg _ w167) (fun _ h9 => h9) rfl dX7_doAgain_83 ?_
      refine lv_iload_n hx hb dX7_doAgain_86 rfl (lv_at hl 0 rfl) ?_
      obtain ⟨hi20, hf⟩ := chk_t hf
      refine va_aldq hx hb hK hP 1 1 rfl rfl (keyok_i hi20) dX7_doAgain_87 ?_
      refine W.eq (g2 := F0 m 88 ls [.ref (a 6), .int (fClk x19), .int p1, .ref (a 2)]) (by rw [keyok_k hi20, hvf]; rfl) ?_
      refine va_getN (D := D) (ci := 5) (v := .int (vlId (fV x19))) (C := RX6) (T := TX6) (N := 10) hx hb hg in_X6 hown hK hP 6 rfl rfl 3 (by decide) (nwF_230 hE.1) (fun _ h9 => h9) rfl dX7_doAgain_88 ?_
      obtain ⟨u21, hc22, hf⟩ := bind_t hf
      refine k_V (As := [.int p1, .int (fClk x19), .int (vlId (fV x19))]) (rest := []) (n := 3) ⟨hx, hb, hml, hown, hts⟩ (met_X3_stamp l (fun j => a (2 + j)) (fLog x19) p1 (fClk x19) (vlId (fV x19)) u21 hc22) w778 w570 w571 w2 w572 ⟨rfl, by decide +kernel, by decide +kernel, by decide +kernel⟩ ⟨Nat.le_of_ble_eq_true rfl, Nat.le_of_ble_eq_true rfl⟩ hK hE hP hD hS hA (isC := [2, 3]) (isR := [0, 1, 4, 5, 6, 7, 8, 9, 10, 11, 12, 13, 14, 15, 16, 17, 18, 19, 20, 21, 22, 23]) (isB := [0, 1, 22, 23, 2, 3, 4, 5, 6, 7, 8, 9, 10, 11, 12, 13, 14, 15, 16, 17, 18, 19, 20, 21]) (ws' := W_F cI cV vf a (fLog_s x19 u21)) ⟨([0, 1, 4, 5, 6, 7, 8, 9, 10, 11, 12, 13, 14, 15, 16, 17, 18, 19, 20, 21, 22, 23] : List Nat).filterMap (fun i : Nat => (W_F cI cV vf a x19 : va_W)[i]?), rfl, rfl, rfl, rfl, by decide, rfl, rfl⟩ 2 2 rfl rfl rfl rfl hl.1 rfl (Nat.le_of_ble_eq_true rfl) dX7_doAgain_91 ⟨Nat.le_of_ble_eq_true rfl, Nat.le_of_ble_eq_true rfl⟩ (fun H locs hP hD hS => ?_)
      try dsimp only at hf
      refine W.eq (g2 := F0 m 94 ls []) rfl ?_
      obtain ⟨x23, hx23⟩ : ∃ z, z = (fLog_s x19 u21) := ⟨_, rfl⟩
      replace hf := keep_e hf x23 hx23
      have hP : va_P D vwCl (W_F cI cV vf a x23) H := by rw [hx23]; exact hP
      have hD : va_D A (W_F cI cV vf a x23) := by rw [hx23]; exact hD
      obtain rfl := Option.some.inj hf
      exact W.vret hx hb hr (fun t ht hW => ⟨rfl, by rw [ht]; exact hP, va_K.moved hW.alike hK, hD, hS.F ht⟩) hS.2.2 dX7_doAgain_94 hlocks
    · replace hf := if_t c5 hf
      obtain rfl := Option.some.inj hf
      exact W.vret hx hb hr (fun t ht hW => ⟨rfl, by rw [ht]; exact hP, va_K.moved hW.alike hK, hD, hS.F ht⟩) hS.2.2 dX7_doAgain_17 hlocks
  exact M0 s.heap [] ls hf hP hD hS hl
/-! Compactforms.rows()I -/
def fX7_rows (k : Nat) (x : FSt) : Option (Int32) := some (loN (fLog x))
set_option maxHeartbeats 4000000 in
set_option maxRecDepth 100000 in
theorem met_X7_rows {D : va_G} {cI cV cJ cD : ClassId} (l : Launch) (k : Nat) (vf : Nat → Option Nat) (a : Nat → Nat) (hvf : vf k = some (a 6)) (x : FSt) (res : Int32) (hf : fX7_rows k x = some res) : MM l yX7_rows cX7_rows 1 (some .int) { frames := 0, cells := 0, slots := 0, locals := 0 } D (TY cI cV cJ cD) (W_F cI cV vf a x) (W_F cI cV vf a x) [.ref (a 0)] (some (.int res)) := by
  intro sz
  refine Met.ofW (cc := cX7_rows) (maxL := 1) (ret := (some .int)) (by decide +kernel) rfl ?_
  intro p e s m args below meth c s₁ B hml hv
  obtain ⟨rfl, hsz, hP, hK, hD0, hE⟩ := hv
  have hx := B.exec
  have hb := B.bytes
  have hr := B.returns
  have hts := atoms_spec (ws := .code yX7_rows cX7_rows 1 (some .int) :: GW) B.pre
  have hg : ∀ w ∈ GW, w.before (([.ref (a 0)] : List Value).toArray) s = true := fun w h => hts w (List.mem_cons_of_mem _ h)
  have hown : s.vm.findClass RX7 = some m.cls := findClass_of_methodNamed B.named
  have hlocks := B.notSynchronized
  subst hsz
  have hD := hD0.self (sz := s.heap.size)
  generalize hAe : va_A (W_F cI cV vf a x) s.heap.size = A at hD hE ⊢
  have hA : ∀ q : Nat, s.heap.size ≤ q → A q := fun q h => by rw [← hAe]; exact Or.inr h
  have hS : va_S A s.heap s.heap [] := va_S.rf
  have hl := lv_entry ([.ref (a 0)]) (n := 1) (Nat.le_of_ble_eq_true rfl)
  rw [lg_entry_eq]
  generalize (lg_sl ([.ref (a 0)]) ++ List.replicate (1 - (lg_sl ([.ref (a 0)])).length) Slot.unset).toArray = ls at hl ⊢
  have hl : lv_has ls 1 [(0, .ref (a 0))] := hl
  have M0 : ∀ (H : Heap) (locs : List Loc) (ls : Array Slot), fX7_rows k x = some res → va_P D vwCl (W_F cI cV vf a x) H → va_D A (W_F cI cV vf a x) → va_S A s.heap H locs → lv_has ls 1 [(0, .ref (a 0))] → W p l e ({ frames := 0, cells := 0, slots := 0, locals := 0 } : Room) s m ([.ref (a 0)] : List Value).toArray below meth c H locs 0 0 (MQ below (QW D (TY cI cV cJ cD) (W_F cI cV vf a x) A (some (.int res))) (([.ref (a 0)] : List Value).toArray) s 0 0 A) (F0 m 0 ls []) := by
    intro H locs ls hf hP hD hS hl
    dsimp only [fX7_rows] at hf
    refine lv_aload_n hx hb dX7_rows_0 rfl (lv_at hl 0 rfl) ?_
    refine va_get (D := D) (ci := 6) (v := .ref (a 2)) (C := RX7) (T := TX7) (N := 8) hx hb hg in_X7 hown hK hP 0 rfl rfl 1 (by decide) (hg _ w168) (fun _ h9 => h9) rfl dX7_rows_1 ?_
    refine va_getN (D := D) (ci := 2) (v := .int (loN (fLog x))) (C := RX3) (T := TX3) (N := 2) hx hb hg in_X3 hown hK hP 2 rfl rfl 1 (by decide) (nwF_123 hE.1) (fun _ h9 => h9) rfl dX7_rows_4 ?_
    obtain rfl := Option.some.inj hf
    exact W.iret (v := (loN (fLog x))) hx hb hr (fun t ht hW => ⟨rfl, by rw [ht]; exact hP, va_K.moved hW.alike hK, hD, hS.F ht⟩) hS.2.2 dX7_rows_7 hlocks
  exact M0 s.heap [] ls hf hP hD hS hl
/-! Compactforms.typeOf(I)I -/
def fX7_typeOf (k : Nat) (x : FSt) (p1 : Int32) : Option ((Int32 ⊕ Nat)) := (fX7_needKey p1).bind (fun u1 => thr u1 (fun k3 => some (.inr k3)) (fun r4 => (fX7_typeNow k x p1).bind (fun u6 => some (.inl u6))))
set_option maxHeartbeats 4000000 in
set_option maxRecDepth 100000 in
theorem met_X7_typeOf {D : va_G} {cI cV cJ cD : ClassId} (l : Launch) (hlt : l.stackTraces = false) (k : Nat) (vf : Nat → Option Nat) (a : Nat → Nat) (hvf : vf k = some (a 6)) (x : FSt) (p1 : Int32) (res : (Int32 ⊕ Nat)) (hf : fX7_typeOf k x p1 = some res) : MX l yX7_typeOf cX7_typeOf 2 (some .int) { frames := 7, cells := 1, slots := 6, locals := 120 } D (TY cI cV cJ cD) (W_F cI cV vf a x) (W_F cI cV vf a x) [.ref (a 0), .int p1] (rsI res) := by
  intro sz
  refine vx_ofW (cc := cX7_typeOf) (maxL := 2) (ret := (some .int)) (by decide +kernel) rfl ?_
  intro p e s m args below meth c s₁ B hml htab hv
  obtain ⟨rfl, hsz, hP, hK, hD0, hE⟩ := hv
  have hx := B.exec
  have hb := B.bytes
  have hr := B.returns
  have hts := atoms_spec (ws := .code yX7_typeOf cX7_typeOf 2 (some .int) :: GW) B.pre
  have hg : ∀ w ∈ GW, w.before (([.ref (a 0), .int p1] : List Value).toArray) s = true := fun w h => hts w (List.mem_cons_of_mem _ h)
  have hown : s.vm.findClass RX7 = some m.cls := findClass_of_methodNamed B.named
  have hlocks := B.notSynchronized
  subst hsz
  have hD := hD0.self (sz := s.heap.size)
  generalize hAe : va_A (W_F cI cV vf a x) s.heap.size = A at hD hE ⊢
  have hA : ∀ q : Nat, s.heap.size ≤ q → A q := fun q h => by rw [← hAe]; exact Or.inr h
  have hS : va_S A s.heap s.heap [] := va_S.rf
  have hl := lv_entry ([.ref (a 0), .int p1]) (n := 2) (Nat.le_of_ble_eq_true rfl)
  rw [lg_entry_eq]
  generalize (lg_sl ([.ref (a 0), .int p1]) ++ List.replicate (2 - (lg_sl ([.ref (a 0), .int p1])).length) Slot.unset).toArray = ls at hl ⊢
  have hl : lv_has ls 2 [(0, .ref (a 0)), (1, .int p1)] := hl
  have M0 : ∀ (H : Heap) (locs : List Loc) (ls : Array Slot), fX7_typeOf k x p1 = some res → va_P D vwCl (W_F cI cV vf a x) H → va_D A (W_F cI cV vf a x) → va_S A s.heap H locs → lv_has ls 2 [(0, .ref (a 0)), (1, .int p1)] → W p l e ({ frames := 7, cells := 1, slots := 6, locals := 120 } : Room) s m ([.ref (a 0), .int p1] : List Value).toArray below meth c H locs 0 0 (vx_MQ below (QR D (TY cI cV cJ cD) (W_F cI cV vf a x) A (rsI res)) (XR D (TY cI cV cJ cD) (W_F cI cV vf a x) A (rsI res)) (([.ref (a 0), .int p1] : List Value).toArray) s 1 6 A) (F0 m 0 ls []) := by
    intro H locs ls hf hP hD hS hl
    dsimp only [fX7_typeOf] at hf
    refine lv_iload_n hx hb dX7_typeOf_0 rfl (lv_at hl 1 rfl) ?_
    obtain ⟨u1, hc2, hf⟩ := bind_t hf
    refine k_SX (As := [.int p1]) (rest := []) (n := 1) ⟨hx, hb, hml, hown, hts⟩ (met_X7_needKey l hlt p1 u1 hc2) w209 w210 w1 w211 ⟨by decide +kernel, by decide +kernel, by decide +kernel⟩ ⟨Nat.le_of_ble_eq_true rfl, Nat.le_of_ble_eq_true rfl⟩ hK hE hP hD hS hA (isC := []) (isR := [0, 1, 2, 3, 4, 5, 6, 7, 8, 9, 10, 11, 12, 13, 14, 15, 16, 17, 18, 19, 20, 21, 22, 23]) (isB := [0, 1, 2, 3, 4, 5, 6, 7, 8, 9, 10, 11, 12, 13, 14, 15, 16, 17, 18, 19, 20, 21, 22, 23]) (ws' := W_F cI cV vf a x) ⟨([0, 1, 2, 3, 4, 5, 6, 7, 8, 9, 10, 11, 12, 13, 14, 15, 16, 17, 18, 19, 20, 21, 22, 23] : List Nat).filterMap (fun i : Nat => (W_F cI cV vf a x : va_W)[i]?), rfl, rfl, rfl, rfl, by decide, rfl, rfl⟩ rfl hl.1 rfl (Nat.le_of_ble_eq_true rfl) dX7_typeOf_1 ⟨Nat.le_of_ble_eq_true rfl, Nat.le_of_ble_eq_true rfl⟩ (fun E ce q9 H locs h5 hP hD hS hce hcv hcl => ?_) (fun rv9 H locs h5 hP hD hS => ?_)
    · obtain ⟨k3, hq9, hE9⟩ := rsV_x h5
      replace hf := thr_x hf hq9
      obtain rfl := Option.some.inj hf
      exact k_out htab hlocks hce hcv hcl (by rw [hE9]; rfl) hK hP hD hS (Nat.le_of_ble_eq_true rfl) (Nat.le_of_ble_eq_true rfl)
    obtain ⟨r4, hq9, rfl⟩ := rsV_v h5
    replace hf := thr_v hf hq9
    refine W.eq (g2 := F0 m 4 ls []) rfl ?_
    refine lv_aload_n hx hb dX7_typeOf_4 rfl (lv_at hl 0 rfl) ?_
    refine lv_iload_n hx hb dX7_typeOf_5 rfl (lv_at hl 1 rfl) ?_
    obtain ⟨u6, hc7, hf⟩ := bind_t hf
    refine k_V (As := [.int p1]) (rest := []) (n := 1) ⟨hx, hb, hml, hown, hts⟩ (met_X7_typeNow l k vf a hvf x p1 u6 hc7) w286 w288 ws1 w1 w289 ⟨rfl, by decide +kernel, by decide +kernel, by decide +kernel⟩ ⟨Nat.le_of_ble_eq_true rfl, Nat.le_of_ble_eq_true rfl⟩ hK hE hP hD hS hA (isC := [0, 1, 2, 3, 4, 5, 6, 7, 8, 9, 10, 11, 12, 13, 14, 15, 16, 17, 18, 19, 20, 21, 22, 23]) (isR := []) (isB := [0, 1, 2, 3, 4, 5, 6, 7, 8, 9, 10, 11, 12, 13, 14, 15, 16, 17, 18, 19, 20, 21, 22, 23]) (ws' := W_F cI cV vf a x) ⟨([] : List Nat).filterMap (fun i : Nat => (W_F cI cV vf a x : va_W)[i]?), rfl, rfl, rfl, rfl, by decide, rfl, rfl⟩ 0 6 rfl rfl rfl rfl hl.1 rfl (Nat.le_of_ble_eq_true rfl) dX7_typeOf_6 ⟨Nat.le_of_ble_eq_true rfl, Nat.le_of_ble_eq_true rfl⟩ (fun H locs hP hD hS => ?_)
    try dsimp only at hf
    refine W.eq (g2 := F0 m 9 ls [.int u6]) rfl ?_
    obtain rfl := Option.some.inj hf
    refine vx_ret ?_
    exact W.iret (v := u6) hx hb hr (fun t ht hW => ⟨_, rfl, ⟨rfl, by rw [ht]; exact hP, va_K.moved hW.alike hK, hD, hS.F ht⟩⟩) hS.2.2 dX7_typeOf_9 hlocks
  exact M0 s.heap [] ls hf hP hD hS hl
/-! Compactforms.formOf(I)I -/
def fX7_formOf (k : Nat) (x : FSt) (p1 : Int32) : Option ((Int32 ⊕ Nat)) := (fX7_needKey p1).bind (fun u1 => thr u1 (fun k3 => some (.inr k3)) (fun r4 => (fX7_isThere k x p1).bind (fun u6 => (if u6 = 0 then some (.inl 0) else chk (keyok p1 k) ((fX6_isSmall (fV x)).bind (fun u10 => (if u10 = 0 then some (.inl 2) else some (.inl 1))))))))
set_option maxHeartbeats 4000000 in
set_option maxRecDepth 100000 in
theorem met_X7_formOf {D : va_G} {cI cV cJ cD : ClassId} (l : Launch) (hlt : l.stackTraces = false) (k : Nat) (vf : Nat → Option Nat) (a : Nat → Nat) (hvf : vf k = some (a 6)) (x : FSt) (p1 : Int32) (res : (Int32 ⊕ Nat)) (hf : fX7_formOf k x p1 = some res) : MX l yX7_formOf cX7_formOf 2 (some .int) { frames := 7, cells := 1, slots := 6, locals := 120 } D (TY cI cV cJ cD) (W_F cI cV vf a x) (W_F cI cV vf a x) [.ref (a 0), .int p1] (rsI res) := by
  intro sz
  refine vx_ofW (cc := cX7_formOf) (maxL := 2) (ret := (some .int)) (by decide +kernel) rfl ?_
  intro p e s m args below meth c s₁ B hml htab hv
  obtain ⟨rfl, hsz, hP, hK, hD0, hE⟩ := hv
  have hx := B.exec
  have hb := B.bytes
  have hr := B.returns
  have hts := atoms_spec (ws := .code yX7_formOf cX7_formOf 2 (some .int) :: GW) B.pre
  have hg : ∀ w ∈ GW, w.before (([.ref (a 0), .int p1] : List Value).toArray) s = true := fun w h => hts w (List.mem_cons_of_mem _ h)
  have hown : s.vm.findClass RX7 = some m.cls := findClass_of_methodNamed B.named
  have hlocks := B.notSynchronized
  subst hsz
  have hD := hD0.self (sz := s.heap.size)
  generalize hAe : va_A (W_F cI cV vf a x) s.heap.size = A at hD hE ⊢
  have hA : ∀ q : Nat, s.heap.size ≤ q → A q := fun q h => by rw [← hAe]; exact Or.inr h
  have hS : va_S A s.heap s.heap [] := va_S.rf
  have hl := lv_entry ([.ref (a 0), .int p1]) (n := 2) (Nat.le_of_ble_eq_true rfl)
  rw [lg_entry_eq]
  generalize (lg_sl ([.ref (a 0), .int p1]) ++ List.replicate (2 - (lg_sl ([.ref (a 0), .int p1])).length) Slot.unset).toArray = ls at hl ⊢
  have hl : lv_has ls 2 [(0, .ref (a 0)), (1, .int p1)] := hl
  have M0 : ∀ (H : Heap) (locs : List Loc) (ls : Array Slot), fX7_formOf k x p1 = some res → va_P D vwCl (W_F cI cV vf a x) H → va_D A (W_F cI cV vf a x) → va_S A s.heap H locs → lv_has ls 2 [(0, .ref (a 0)), (1, .int p1)] → W p l e ({ frames := 7, cells := 1, slots := 6, locals := 120 } : Room) s m ([.ref (a 0), .int p1] : List Value).toArray below meth c H locs 0 0 (vx_MQ below (QR D (TY cI cV cJ cD) (W_F cI cV vf a x) A (rsI res)) (XR D (TY cI cV cJ cD) (W_F cI cV vf a x) A (rsI res)) (([.ref (a 0), .int p1] : List Value).toArray) s 1 6 A) (F0 m 0 ls []) := by
    intro H locs ls hf hP hD hS hl
    dsimp only [fX7_formOf] at hf
    refine lv_iload_n hx hb dX7_formOf_0 rfl (lv_at hl 1 rfl) ?_
    obtain ⟨u1, hc2, hf⟩ := bind_t hf
    refine k_SX (As := [.int p1]) (rest := []) (n := 1) ⟨hx, hb, hml, hown, hts⟩ (met_X7_needKey l hlt p1 u1 hc2) w209 w210 w1 w211 ⟨by decide +kernel, by decide +kernel, by decide +kernel⟩ ⟨Nat.le_of_ble_eq_true rfl, Nat.le_of_ble_eq_true rfl⟩ hK hE hP hD hS hA (isC := []) (isR := [0, 1, 2, 3, 4, 5, 6, 7, 8, 9, 10, 11, 12, 13, 14, 15, 16, 17, 18, 19, 20, 21, 22, 23]) (isB := [0, 1, 2, 3, 4, 5, 6, 7, 8, 9, 10, 11, 12, 13, 14, 15, 16, 17, 18, 19, 20, 21, 22, 23]) (ws' := W_F cI cV vf a x) ⟨([0, 1, 2, 3, 4, 5, 6, 7, 8, 9, 10, 11, 12, 13, 14, 15, 16, 17, 18, 19, 20, 21, 22, 23] : List Nat).filterMap (fun i : Nat => (W_F cI cV vf a x : va_W)[i]?), rfl, rfl, rfl, rfl, by decide, rfl, rfl⟩ rfl hl.1 rfl (Nat.le_of_ble_eq_true rfl) dX7_formOf_1 ⟨Nat.le_of_ble_eq_true rfl, Nat.le_of_ble_eq_true rfl⟩ (fun E ce q9 H locs h5 hP hD hS hce hcv hcl => ?_) (fun rv9 H locs h5 hP hD hS => ?_)
    · obtain ⟨k3, hq9, hE9⟩ := rsV_x h5
      replace hf := thr_x hf hq9
      obtain rfl := Option.some.inj hf
      exact k_out htab hlocks hce hcv hcl (by rw [hE9]; rfl) hK hP hD hS (Nat.le_of_ble_eq_true rfl) (Nat.le_of_ble_eq_true rfl)
    obtain ⟨r4, hq9, rfl⟩ := rsV_v h5
    replace hf := thr_v hf hq9
    refine W.eq (g2 := F0 m 4 ls []) rfl ?_
    refine lv_aload_n hx hb dX7_formOf_4 rfl (lv_at hl 0 rfl) ?_
    refine lv_iload_n hx hb dX7_formOf_5 rfl (lv_at hl 1 rfl) ?_
    obtain ⟨u6, hc7, hf⟩ := bind_t hf
    refine k_V (As := [.int p1]) (rest := []) (n := 1) ⟨hx, hb, hml, hown, hts⟩ (met_X7_isThere l k vf a hvf x p1 u6 hc7) w290 w292 ws2 w1 w293 ⟨rfl, by decide +kernel, by decide +kernel, by decide +kernel⟩ ⟨Nat.le_of_ble_eq_true rfl, Nat.le_of_ble_eq_true rfl⟩ hK hE hP hD hS hA (isC := [0, 1, 2, 3, 4, 5, 6, 7, 8, 9, 10, 11, 12, 13, 14, 15, 16, 17, 18, 19, 20, 21, 22, 23]) (isR := []) (isB := [0, 1, 2, 3, 4, 5, 6, 7, 8, 9, 10, 11, 12, 13, 14, 15, 16, 17, 18, 19, 20, 21, 22, 23]) (ws' := W_F cI cV vf a x) ⟨([] : List Nat).filterMap (fun i : Nat => (W_F cI cV vf a x : va_W)[i]?), rfl, rfl, rfl, rfl, by decide, rfl, rfl⟩ 0 6 rfl rfl rfl rfl hl.1 rfl (Nat.le_of_ble_eq_true rfl) dX7_formOf_6 ⟨Nat.le_of_ble_eq_true rfl, Nat.le_of_ble_eq_true rfl⟩ (fun H locs hP hD hS => ?_)
    try dsimp only at hf
    refine W.eq (g2 := F0 m 9 ls [.int u6]) rfl ?_
    refine lv_if_ne (tgt := 14) hx hb dX7_formOf_9 (by decide) (fun c8 => ?_) (fun c8 => ?_)
    · replace hf := if_f c8 hf
      refine lv_aload_n hx hb dX7_formOf_14 rfl (lv_at hl 0 rfl) ?_
      refine va_get (D := D) (ci := 6) (v := .ref (a 1)) (C := RX7) (T := TX7) (N := 8) hx hb hg in_X7 hown hK hP 0 rfl rfl 0 (by decide) (hg _ w167) (fun _ h9 => h9) rfl dX7_formOf_15 ?_
      refine lv_iload_n hx hb dX7_formOf_18 rfl (lv_at hl 1 rfl) ?_
      obtain ⟨hi9, hf⟩ := chk_t hf
      refine va_aldq hx hb hK hP 1 1 rfl rfl (keyok_i hi9) dX7_formOf_19 ?_
      refine W.eq (g2 := F0 m 20 ls [.ref (a 6)]) (by rw [keyok_k hi9, hvf]; rfl) ?_
      obtain ⟨u10, hc11, hf⟩ := bind_t hf
      refine k_V (As := []) (rest := []) (n := 0) ⟨hx, hb, hml, hown, hts⟩ (met_X6_isSmall l (fun j => a (6 + j)) (fV x) u10 hc11) w649 w650 w651 w3 w652 ⟨rfl, by decide +kernel, by decide +kernel, by decide +kernel⟩ ⟨Nat.le_of_ble_eq_true rfl, Nat.le_of_ble_eq_true rfl⟩ hK hE hP hD hS hA (isC := [6, 7, 8, 9, 10, 11, 12, 13, 14, 15, 16, 17, 18, 19, 20, 21, 22, 23]) (isR := [0, 1, 2, 3, 4, 5]) (isB := [0, 1, 2, 3, 4, 5, 6, 7, 8, 9, 10, 11, 12, 13, 14, 15, 16, 17, 18, 19, 20, 21, 22, 23]) (ws' := W_F cI cV vf a x) ⟨([0, 1, 2, 3, 4, 5] : List Nat).filterMap (fun i : Nat => (W_F cI cV vf a x : va_W)[i]?), rfl, rfl, rfl, rfl, by decide, rfl, rfl⟩ 6 5 rfl rfl rfl rfl hl.1 rfl (Nat.le_of_ble_eq_true rfl) dX7_formOf_20 ⟨Nat.le_of_ble_eq_true rfl, Nat.le_of_ble_eq_true rfl⟩ (fun H locs hP hD hS => ?_)
      try dsimp only at hf
      refine W.eq (g2 := F0 m 23 ls [.int u10]) rfl ?_
      refine lv_if_eq (tgt := 30) hx hb dX7_formOf_23 (by decide) (fun c12 => ?_) (fun c12 => ?_)
      · replace hf := if_t c12 hf
        refine lv_iconst (v := 2) hx hb dX7_formOf_30 (by decide) ?_
        obtain rfl := Option.some.inj hf
        refine vx_ret ?_
        exact W.iret (v := 2) hx hb hr (fun t ht hW => ⟨_, rfl, ⟨rfl, by rw [ht]; exact hP, va_K.moved hW.alike hK, hD, hS.F ht⟩⟩) hS.2.2 dX7_formOf_31 hlocks
      · replace hf := if_f c12 hf
        refine lv_iconst (v := 1) hx hb dX7_formOf_26 (by decide) ?_
        refine lv_goto (tgt := 31) hx hb dX7_formOf_27 (by decide) ?_
        obtain rfl := Option.some.inj hf
        refine vx_ret ?_
        exact W.iret (v := 1) hx hb hr (fun t ht hW => ⟨_, rfl, ⟨rfl, by rw [ht]; exact hP, va_K.moved hW.alike hK, hD, hS.F ht⟩⟩) hS.2.2 dX7_formOf_31 hlocks
    · replace hf := if_t c8 hf
      refine lv_iconst (v := 0) hx hb dX7_formOf_12 (by decide) ?_
      obtain rfl := Option.some.inj hf
      refine vx_ret ?_
      exact W.iret (v := 0) hx hb hr (fun t ht hW => ⟨_, rfl, ⟨rfl, by rw [ht]; exact hP, va_K.moved hW.alike hK, hD, hS.F ht⟩⟩) hS.2.2 dX7_formOf_13 hlocks
  exact M0 s.heap [] ls hf hP hD hS hl

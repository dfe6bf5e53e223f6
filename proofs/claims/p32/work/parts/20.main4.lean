/-! Compactforms.size(I)I -/
def fX7_size (k : Nat) (x : FSt) (p1 : Int32) : Option ((Int32 ⊕ Nat)) := (fX7_needKey p1).bind (fun u1 => thr u1 (fun k3 => some (.inr k3)) (fun r4 => (fX7_sizeNow k x p1).bind (fun u6 => some (.inl u6))))
set_option maxHeartbeats 4000000 in
set_option maxRecDepth 100000 in
theorem met_X7_size {D : va_G} {cI cV cJ cD : ClassId} (l : Launch) (hlt : l.stackTraces = false) (k : Nat) (vf : Nat → Option Nat) (a : Nat → Nat) (hvf : vf k = some (a 6)) (x : FSt) (p1 : Int32) (res : (Int32 ⊕ Nat)) (hf : fX7_size k x p1 = some res) : MX l yX7_size cX7_size 2 (some .int) { frames := 7, cells := 1, slots := 6, locals := 120 } D (TY cI cV cJ cD) (W_F cI cV vf a x) (W_F cI cV vf a x) [.ref (a 0), .int p1] (rsI res) := by
  intro sz
  refine vx_ofW (cc := cX7_size) (maxL := 2) (ret := (some .int)) (by decide +kernel) rfl ?_
  intro p e s m args below meth c s₁ B hml htab hv
  obtain ⟨rfl, hsz, hP, hK, hD0, hE⟩ := hv
  have hx := B.exec
  have hb := B.bytes
  have hr := B.returns
  have hts := atoms_spec (ws := .code yX7_size cX7_size 2 (some .int) :: GW) B.pre
  have hg : ∀ w ∈ GW, w.before (([.ref (a 0), .int p1] : List Value).toArray) s = true := fun w h => hts w (List.mem_cons_of_mem _ h)
  have hown : s.vm.findClass RX7 = some m.cls := findClass_of_methodNamed B.named
  have hlocks := B.notSynchronized
  subst hsz
  have hD := hD0.self (sz := s.heap.size)
  generalize hAe : va_A (W_F cI cV vf a x) s.heap.size = A at hD hE ⊢
  have hA : ∀ q : Nat, s.heap.size ≤ q → A q := fun q h => by rw [← hAe]; exact Or.inr h
  have hS : va_S A s.heap s.heap [] := va_S.rf
  have hl := lv_entry ([.ref (a 0), .int p1]) (n := 2) (Nat.le_of_ble_eq_true rfl)
  rw [lg_entry_eq]
  generalize (lg_sl ([.ref (a 0), .int p1]) ++ List.replicate (2 - (lg_sl ([.ref (a 0), .int p1])).length) Slot.unset).toArray = ls at hl ⊢
  have hl : lv_has ls 2 [(0, .ref (a 0)), (1, .int p1)] := hl
  have M0 : ∀ (H : Heap) (locs : List Loc) (ls : Array Slot), fX7_size k x p1 = some res → va_P D vwCl (W_F cI cV vf a x) H → va_D A (W_F cI cV vf a x) → va_S A s.heap H locs → lv_has ls 2 [(0, .ref (a 0)), (1, .int p1)] → W p l e ({ frames := 7, cells := 1, slots := 6, locals := 120 } : Room) s m ([.ref (a 0), .int p1] : List Value).toArray below meth c H locs 0 0 (vx_MQ below (QR D (TY cI cV cJ cD) (W_F cI cV vf a x) A (rsI res)) (XR D (TY cI cV cJ cD) (W_F cI cV vf a x) A (rsI res)) (([.ref (a 0), .int p1] : List Value).toArray) s 1 6 A) (F0 m 0 ls []) := by
    intro H locs ls hf hP hD hS hl
    dsimp only [fX7_size] at hf
    refine lv_iload_n hx hb dX7_size_0 rfl (lv_at hl 1 rfl) ?_
    obtain ⟨u1, hc2, hf⟩ := bind_t hf
    refine k_SX (As := [.int p1]) (rest := []) (n := 1) ⟨hx, hb, hml, hown, hts⟩ (met_X7_needKey l hlt p1 u1 hc2) w209 w210 w1 w211 ⟨by decide +kernel, by decide +kernel, by decide +kernel⟩ ⟨Nat.le_of_ble_eq_true rfl, Nat.le_of_ble_eq_true rfl⟩ hK hE hP hD hS hA (isC := []) (isR := [0, 1, 2, 3, 4, 5, 6, 7, 8, 9, 10, 11, 12, 13, 14, 15, 16, 17, 18, 19, 20, 21, 22, 23]) (isB := [0, 1, 2, 3, 4, 5, 6, 7, 8, 9, 10, 11, 12, 13, 14, 15, 16, 17, 18, 19, 20, 21, 22, 23]) (ws' := W_F cI cV vf a x) ⟨([0, 1, 2, 3, 4, 5, 6, 7, 8, 9, 10, 11, 12, 13, 14, 15, 16, 17, 18, 19, 20, 21, 22, 23] : List Nat).filterMap (fun i : Nat => (W_F cI cV vf a x : va_W)[i]?), rfl, rfl, rfl, rfl, by decide, rfl, rfl⟩ rfl hl.1 rfl (Nat.le_of_ble_eq_true rfl) dX7_size_1 ⟨Nat.le_of_ble_eq_true rfl, Nat.le_of_ble_eq_true rfl⟩ (fun E ce q9 H locs h5 hP hD hS hce hcv hcl => ?_) (fun rv9 H locs h5 hP hD hS => ?_)
    · obtain ⟨k3, hq9, hE9⟩ := rsV_x h5
      replace hf := thr_x hf hq9
      obtain rfl := Option.some.inj hf
      exact k_out htab hlocks hce hcv hcl (by rw [hE9]; rfl) hK hP hD hS (Nat.le_of_ble_eq_true rfl) (Nat.le_of_ble_eq_true rfl)
    obtain ⟨r4, hq9, rfl⟩ := rsV_v h5
    replace hf := thr_v hf hq9
    refine W.eq (g2 := F0 m 4 ls []) rfl ?_
    refine lv_aload_n hx hb dX7_size_4 rfl (lv_at hl 0 rfl) ?_
    refine lv_iload_n hx hb dX7_size_5 rfl (lv_at hl 1 rfl) ?_
    obtain ⟨u6, hc7, hf⟩ := bind_t hf
    refine k_V (As := [.int p1]) (rest := []) (n := 1) ⟨hx, hb, hml, hown, hts⟩ (met_X7_sizeNow l k vf a hvf x p1 u6 hc7) w302 w304 ws3 w1 w305 ⟨rfl, by decide +kernel, by decide +kernel, by decide +kernel⟩ ⟨Nat.le_of_ble_eq_true rfl, Nat.le_of_ble_eq_true rfl⟩ hK hE hP hD hS hA (isC := [0, 1, 2, 3, 4, 5, 6, 7, 8, 9, 10, 11, 12, 13, 14, 15, 16, 17, 18, 19, 20, 21, 22, 23]) (isR := []) (isB := [0, 1, 2, 3, 4, 5, 6, 7, 8, 9, 10, 11, 12, 13, 14, 15, 16, 17, 18, 19, 20, 21, 22, 23]) (ws' := W_F cI cV vf a x) ⟨([] : List Nat).filterMap (fun i : Nat => (W_F cI cV vf a x : va_W)[i]?), rfl, rfl, rfl, rfl, by decide, rfl, rfl⟩ 0 6 rfl rfl rfl rfl hl.1 rfl (Nat.le_of_ble_eq_true rfl) dX7_size_6 ⟨Nat.le_of_ble_eq_true rfl, Nat.le_of_ble_eq_true rfl⟩ (fun H locs hP hD hS => ?_)
    try dsimp only at hf
    refine W.eq (g2 := F0 m 9 ls [.int u6]) rfl ?_
    obtain rfl := Option.some.inj hf
    refine vx_ret ?_
    exact W.iret (v := u6) hx hb hr (fun t ht hW => ⟨_, rfl, ⟨rfl, by rw [ht]; exact hP, va_K.moved hW.alike hK, hD, hS.F ht⟩⟩) hS.2.2 dX7_size_9 hlocks
  exact M0 s.heap [] ls hf hP hD hS hl
/-! Compactforms.needIndex(II)V -/
def fX7_needIndex (k : Nat) (x : FSt) (p1 : Int32) (p2 : Int32) : Option ((Int32 ⊕ Nat)) := (fX7_sizeNow k x p1).bind (fun u1 => (fX7_isWithin p2 0 (u1 - 1)).bind (fun u3 => (if u3 = 0 then some (.inr 0) else some (.inl 0))))
set_option maxHeartbeats 4000000 in
set_option maxRecDepth 100000 in
theorem met_X7_needIndex {D : va_G} {cI cV cJ cD : ClassId} (l : Launch) (hlt : l.stackTraces = false) (k : Nat) (vf : Nat → Option Nat) (a : Nat → Nat) (hvf : vf k = some (a 6)) (x : FSt) (p1 : Int32) (p2 : Int32) (res : (Int32 ⊕ Nat)) (hf : fX7_needIndex k x p1 p2 = some res) : MX l yX7_needIndex cX7_needIndex 3 none { frames := 6, cells := 1, slots := 6, locals := 100 } D (TY cI cV cJ cD) (W_F cI cV vf a x) (W_F cI cV vf a x) [.ref (a 0), .int p1, .int p2] (rsV res) := by
  intro sz
  refine vx_ofW (cc := cX7_needIndex) (maxL := 3) (ret := none) (by decide +kernel) rfl ?_
  intro p e s m args below meth c s₁ B hml htab hv
  obtain ⟨rfl, hsz, hP, hK, hD0, hE⟩ := hv
  have hx := B.exec
  have hb := B.bytes
  have hr := B.returns
  have hts := atoms_spec (ws := .code yX7_needIndex cX7_needIndex 3 none :: GW) B.pre
  have hg : ∀ w ∈ GW, w.before (([.ref (a 0), .int p1, .int p2] : List Value).toArray) s = true := fun w h => hts w (List.mem_cons_of_mem _ h)
  have hown : s.vm.findClass RX7 = some m.cls := findClass_of_methodNamed B.named
  have hlocks := B.notSynchronized
  subst hsz
  have hD := hD0.self (sz := s.heap.size)
  generalize hAe : va_A (W_F cI cV vf a x) s.heap.size = A at hD hE ⊢
  have hA : ∀ q : Nat, s.heap.size ≤ q → A q := fun q h => by rw [← hAe]; exact Or.inr h
  have hS : va_S A s.heap s.heap [] := va_S.rf
  have hl := lv_entry ([.ref (a 0), .int p1, .int p2]) (n := 3) (Nat.le_of_ble_eq_true rfl)
  rw [lg_entry_eq]
  generalize (lg_sl ([.ref (a 0), .int p1, .int p2]) ++ List.replicate (3 - (lg_sl ([.ref (a 0), .int p1, .int p2])).length) Slot.unset).toArray = ls at hl ⊢
  have hl : lv_has ls 3 [(0, .ref (a 0)), (1, .int p1), (2, .int p2)] := hl
  have M0 : ∀ (H : Heap) (locs : List Loc) (ls : Array Slot), fX7_needIndex k x p1 p2 = some res → va_P D vwCl (W_F cI cV vf a x) H → va_D A (W_F cI cV vf a x) → va_S A s.heap H locs → lv_has ls 3 [(0, .ref (a 0)), (1, .int p1), (2, .int p2)] → W p l e ({ frames := 6, cells := 1, slots := 6, locals := 100 } : Room) s m ([.ref (a 0), .int p1, .int p2] : List Value).toArray below meth c H locs 0 0 (vx_MQ below (QR D (TY cI cV cJ cD) (W_F cI cV vf a x) A (rsV res)) (XR D (TY cI cV cJ cD) (W_F cI cV vf a x) A (rsV res)) (([.ref (a 0), .int p1, .int p2] : List Value).toArray) s 1 6 A) (F0 m 0 ls []) := by
    intro H locs ls hf hP hD hS hl
    dsimp only [fX7_needIndex] at hf
    refine lv_iload_n hx hb dX7_needIndex_0 rfl (lv_at hl 2 rfl) ?_
    refine lv_iconst (v := 0) hx hb dX7_needIndex_1 (by decide) ?_
    refine lv_aload_n hx hb dX7_needIndex_2 rfl (lv_at hl 0 rfl) ?_
    refine lv_iload_n hx hb dX7_needIndex_3 rfl (lv_at hl 1 rfl) ?_
    obtain ⟨u1, hc2, hf⟩ := bind_t hf
    refine k_V (As := [.int p1]) (rest := [.int 0, .int p2]) (n := 1) ⟨hx, hb, hml, hown, hts⟩ (met_X7_sizeNow l k vf a hvf x p1 u1 hc2) w302 w304 ws3 w1 w305 ⟨rfl, by decide +kernel, by decide +kernel, by decide +kernel⟩ ⟨Nat.le_of_ble_eq_true rfl, Nat.le_of_ble_eq_true rfl⟩ hK hE hP hD hS hA (isC := [0, 1, 2, 3, 4, 5, 6, 7, 8, 9, 10, 11, 12, 13, 14, 15, 16, 17, 18, 19, 20, 21, 22, 23]) (isR := []) (isB := [0, 1, 2, 3, 4, 5, 6, 7, 8, 9, 10, 11, 12, 13, 14, 15, 16, 17, 18, 19, 20, 21, 22, 23]) (ws' := W_F cI cV vf a x) ⟨([] : List Nat).filterMap (fun i : Nat => (W_F cI cV vf a x : va_W)[i]?), rfl, rfl, rfl, rfl, by decide, rfl, rfl⟩ 0 6 rfl rfl rfl rfl hl.1 rfl (Nat.le_of_ble_eq_true rfl) dX7_needIndex_4 ⟨Nat.le_of_ble_eq_true rfl, Nat.le_of_ble_eq_true rfl⟩ (fun H locs hP hD hS => ?_)
    try dsimp only at hf
    refine W.eq (g2 := F0 m 7 ls [.int u1, .int 0, .int p2]) rfl ?_
    refine lv_iconst (v := 1) hx hb dX7_needIndex_7 (by decide) ?_
    refine lv_isub hx hb dX7_needIndex_8 ?_
    obtain ⟨u3, hc4, hf⟩ := bind_t hf
    refine k_S (As := [.int p2, .int 0, .int (u1 - 1)]) (rest := []) (n := 3) ⟨hx, hb, hml, hown, hts⟩ (met_X7_isWithin l p2 0 (u1 - 1) u3 hc4) w215 w216 w1 w217 ⟨by decide +kernel, by decide +kernel, by decide +kernel⟩ ⟨Nat.le_of_ble_eq_true rfl, Nat.le_of_ble_eq_true rfl⟩ hK hE hP hD hS hA (isC := []) (isR := [0, 1, 2, 3, 4, 5, 6, 7, 8, 9, 10, 11, 12, 13, 14, 15, 16, 17, 18, 19, 20, 21, 22, 23]) (isB := [0, 1, 2, 3, 4, 5, 6, 7, 8, 9, 10, 11, 12, 13, 14, 15, 16, 17, 18, 19, 20, 21, 22, 23]) (ws' := W_F cI cV vf a x) ⟨([0, 1, 2, 3, 4, 5, 6, 7, 8, 9, 10, 11, 12, 13, 14, 15, 16, 17, 18, 19, 20, 21, 22, 23] : List Nat).filterMap (fun i : Nat => (W_F cI cV vf a x : va_W)[i]?), rfl, rfl, rfl, rfl, by decide, rfl, rfl⟩ rfl hl.1 rfl (Nat.le_of_ble_eq_true rfl) dX7_needIndex_9 ⟨Nat.le_of_ble_eq_true rfl, Nat.le_of_ble_eq_true rfl⟩ (fun H locs hP hD hS => ?_)
    try dsimp only at hf
    refine W.eq (g2 := F0 m 12 ls [.int u3]) rfl ?_
    refine lv_if_ne (tgt := 25) hx hb dX7_needIndex_12 (by decide) (fun c5 => ?_) (fun c5 => ?_)
    · replace hf := if_f c5 hf
      obtain rfl := Option.some.inj hf
      refine W.widen (k := 1) (n := 6) (Nat.le_of_ble_eq_true rfl) (Nat.le_of_ble_eq_true rfl) ?_
      refine vx_ret ?_
      exact W.vret hx hb hr (fun t ht hW => ⟨_, rfl, ⟨rfl, by rw [ht]; exact hP, va_K.moved hW.alike hK, hD, hS.F ht⟩⟩) hS.2.2 dX7_needIndex_25 hlocks
    · replace hf := if_t c5 hf
      obtain rfl := Option.some.inj hf
      exact k_throw hx hb hlt (own := RX7) (text := "no such index") hown (by decide +kernel) htab hlocks (hg _ w218) (hg _ w12) (hE.1.2.2.2.1 _ (List.mem_of_getElem? (i := 10) rfl)) (thr_at196 hg hE.1) thr_ok196_192 hE (by rw [hml]; exact hl.1) dX7_needIndex_15 dX7_needIndex_18 dX7_needIndex_19 dX7_needIndex_21 dX7_needIndex_24 (Nat.le_of_ble_eq_true rfl) (Nat.le_of_ble_eq_true rfl) (Nat.le_of_ble_eq_true rfl) (Nat.le_of_ble_eq_true rfl) rfl hK hP hD hS (Nat.le_of_ble_eq_true rfl) (Nat.le_of_ble_eq_true rfl)
  exact M0 s.heap [] ls hf hP hD hS hl
/-! Compactforms.at(II)I -/
def fX7_at (k : Nat) (x : FSt) (p1 : Int32) (p2 : Int32) : Option ((Int32 ⊕ Nat)) := (fX7_needKey p1).bind (fun u1 => thr u1 (fun k3 => some (.inr k3)) (fun r4 => (fX7_needIndex k x p1 p2).bind (fun u6 => thr u6 (fun k8 => some (.inr k8)) (fun r9 => chk (keyok p1 k) (sel (vlFm (fV x)) ((fX4_valueAt 16 (vlSm (fV x)) p2).bind (fun u13 => some (.inl u13))) ((fX0_valueAt (vlCh (fV x)) p2).bind (fun u15 => some (.inl u15))) ((fX5_valueAt (vlTb (fV x)) p2).bind (fun u17 => some (.inl u17))))))))
set_option maxHeartbeats 4000000 in
set_option maxRecDepth 100000 in
theorem met_X7_at {D : va_G} {cI cV cJ cD : ClassId} (l : Launch) (hlt : l.stackTraces = false) (k : Nat) (vf : Nat → Option Nat) (a : Nat → Nat) (hvf : vf k = some (a 6)) (x : FSt) (p1 : Int32) (p2 : Int32) (res : (Int32 ⊕ Nat)) (hf : fX7_at k x p1 p2 = some res) : MX l yX7_at cX7_at 3 (some .int) { frames := 7, cells := 2, slots := 12, locals := 122 } D (TY cI cV cJ cD) (W_F cI cV vf a x) (W_F cI cV vf a x) [.ref (a 0), .int p1, .int p2] (rsI res) := by
  intro sz
  refine vx_ofW (cc := cX7_at) (maxL := 3) (ret := (some .int)) (by decide +kernel) rfl ?_
  intro p e s m args below meth c s₁ B hml htab hv
  obtain ⟨rfl, hsz, hP, hK, hD0, hE⟩ := hv
  have hx := B.exec
  have hb := B.bytes
  have hr := B.returns
  have hts := atoms_spec (ws := .code yX7_at cX7_at 3 (some .int) :: GW) B.pre
  have hg : ∀ w ∈ GW, w.before (([.ref (a 0), .int p1, .int p2] : List Value).toArray) s = true := fun w h => hts w (List.mem_cons_of_mem _ h)
  have hown : s.vm.findClass RX7 = some m.cls := findClass_of_methodNamed B.named
  have hlocks := B.notSynchronized
  subst hsz
  have hD := hD0.self (sz := s.heap.size)
  generalize hAe : va_A (W_F cI cV vf a x) s.heap.size = A at hD hE ⊢
  have hA : ∀ q : Nat, s.heap.size ≤ q → A q := fun q h => by rw [← hAe]; exact Or.inr h
  have hS : va_S A s.heap s.heap [] := va_S.rf
  have hl := lv_entry ([.ref (a 0), .int p1, .int p2]) (n := 3) (Nat.le_of_ble_eq_true rfl)
  rw [lg_entry_eq]
  generalize (lg_sl ([.ref (a 0), .int p1, .int p2]) ++ List.replicate (3 - (lg_sl ([.ref (a 0), .int p1, .int p2])).length) Slot.unset).toArray = ls at hl ⊢
  have hl : lv_has ls 3 [(0, .ref (a 0)), (1, .int p1), (2, .int p2)] := hl
  have M0 : ∀ (H : Heap) (locs : List Loc) (ls : Array Slot), fX7_at k x p1 p2 = some res → va_P D vwCl (W_F cI cV vf a x) H → va_D A (W_F cI cV vf a x) → va_S A s.heap H locs → lv_has ls 3 [(0, .ref (a 0)), (1, .int p1), (2, .int p2)] → W p l e ({ frames := 7, cells := 2, slots := 12, locals := 122 } : Room) s m ([.ref (a 0), .int p1, .int p2] : List Value).toArray below meth c H locs 0 0 (vx_MQ below (QR D (TY cI cV cJ cD) (W_F cI cV vf a x) A (rsI res)) (XR D (TY cI cV cJ cD) (W_F cI cV vf a x) A (rsI res)) (([.ref (a 0), .int p1, .int p2] : List Value).toArray) s 2 12 A) (F0 m 0 ls []) := by
    intro H locs ls hf hP hD hS hl
    dsimp only [fX7_at] at hf
    refine lv_iload_n hx hb dX7_at_0 rfl (lv_at hl 1 rfl) ?_
    obtain ⟨u1, hc2, hf⟩ := bind_t hf
    refine k_SX (As := [.int p1]) (rest := []) (n := 1) ⟨hx, hb, hml, hown, hts⟩ (met_X7_needKey l hlt p1 u1 hc2) w209 w210 w1 w211 ⟨by decide +kernel, by decide +kernel, by decide +kernel⟩ ⟨Nat.le_of_ble_eq_true rfl, Nat.le_of_ble_eq_true rfl⟩ hK hE hP hD hS hA (isC := []) (isR := [0, 1, 2, 3, 4, 5, 6, 7, 8, 9, 10, 11, 12, 13, 14, 15, 16, 17, 18, 19, 20, 21, 22, 23]) (isB := [0, 1, 2, 3, 4, 5, 6, 7, 8, 9, 10, 11, 12, 13, 14, 15, 16, 17, 18, 19, 20, 21, 22, 23]) (ws' := W_F cI cV vf a x) ⟨([0, 1, 2, 3, 4, 5, 6, 7, 8, 9, 10, 11, 12, 13, 14, 15, 16, 17, 18, 19, 20, 21, 22, 23] : List Nat).filterMap (fun i : Nat => (W_F cI cV vf a x : va_W)[i]?), rfl, rfl, rfl, rfl, by decide, rfl, rfl⟩ rfl hl.1 rfl (Nat.le_of_ble_eq_true rfl) dX7_at_1 ⟨Nat.le_of_ble_eq_true rfl, Nat.le_of_ble_eq_true rfl⟩ (fun E ce q9 H locs h5 hP hD hS hce hcv hcl => ?_) (fun rv9 H locs h5 hP hD hS => ?_)
    · obtain ⟨k3, hq9, hE9⟩ := rsV_x h5
      replace hf := thr_x hf hq9
      obtain rfl := Option.some.inj hf
      exact k_out htab hlocks hce hcv hcl (by rw [hE9]; rfl) hK hP hD hS (Nat.le_of_ble_eq_true rfl) (Nat.le_of_ble_eq_true rfl)
    obtain ⟨r4, hq9, rfl⟩ := rsV_v h5
    replace hf := thr_v hf hq9
    refine W.eq (g2 := F0 m 4 ls []) rfl ?_
    refine lv_aload_n hx hb dX7_at_4 rfl (lv_at hl 0 rfl) ?_
    refine lv_iload_n hx hb dX7_at_5 rfl (lv_at hl 1 rfl) ?_
    refine lv_iload_n hx hb dX7_at_6 rfl (lv_at hl 2 rfl) ?_
    obtain ⟨u6, hc7, hf⟩ := bind_t hf
    refine k_VX (As := [.int p1, .int p2]) (rest := []) (n := 2) ⟨hx, hb, hml, hown, hts⟩ (met_X7_needIndex l hlt k vf a hvf x p1 p2 u6 hc7) w629 w631 ws20 w1 w632 ⟨rfl, by decide +kernel, by decide +kernel, by decide +kernel⟩ ⟨Nat.le_of_ble_eq_true rfl, Nat.le_of_ble_eq_true rfl⟩ hK hE hP hD hS hA (isC := [0, 1, 2, 3, 4, 5, 6, 7, 8, 9, 10, 11, 12, 13, 14, 15, 16, 17, 18, 19, 20, 21, 22, 23]) (isR := []) (isB := [0, 1, 2, 3, 4, 5, 6, 7, 8, 9, 10, 11, 12, 13, 14, 15, 16, 17, 18, 19, 20, 21, 22, 23]) (ws' := W_F cI cV vf a x) ⟨([] : List Nat).filterMap (fun i : Nat => (W_F cI cV vf a x : va_W)[i]?), rfl, rfl, rfl, rfl, by decide, rfl, rfl⟩ 0 6 rfl rfl rfl rfl hl.1 rfl (Nat.le_of_ble_eq_true rfl) dX7_at_7 ⟨Nat.le_of_ble_eq_true rfl, Nat.le_of_ble_eq_true rfl⟩ (fun E ce q9 H locs h10 hP hD hS hce hcv hcl => ?_) (fun rv9 H locs h10 hP hD hS => ?_)
    · obtain ⟨k8, hq9, hE9⟩ := rsV_x h10
      replace hf := thr_x hf hq9
      obtain rfl := Option.some.inj hf
      exact k_out htab hlocks hce hcv hcl (by rw [hE9]; rfl) hK hP hD hS (Nat.le_of_ble_eq_true rfl) (Nat.le_of_ble_eq_true rfl)
    obtain ⟨r9, hq9, rfl⟩ := rsV_v h10
    replace hf := thr_v hf hq9
    refine W.eq (g2 := F0 m 10 ls []) rfl ?_
    refine lv_aload_n hx hb dX7_at_10 rfl (lv_at hl 0 rfl) ?_
    refine va_get (D := D) (ci := 6) (v := .ref (a 1)) (C := RX7) (T := TX7) (N := 8) hx hb hg in_X7 hown hK hP 0 rfl rfl 0 (by decide) (hg _ w167) (fun _ h9 => h9) rfl dX7_at_11 ?_
    refine lv_iload_n hx hb dX7_at_14 rfl (lv_at hl 1 rfl) ?_
    obtain ⟨hi11, hf⟩ := chk_t hf
    refine va_aldq hx hb hK hP 1 1 rfl rfl (keyok_i hi11) dX7_at_15 ?_
    refine W.eq (g2 := F0 m 16 ls [.ref (a 6)]) (by rw [keyok_k hi11, hvf]; rfl) ?_
    refine va_getN (D := D) (ci := 5) (v := .ref (a (6 + (vlFm (fV x))))) (C := RX6) (T := TX6) (N := 10) hx hb hg in_X6 hown hK hP 6 rfl rfl 9 (by decide) (nwF_148 hE.1) (fun _ h9 => h9) rfl dX7_at_16 ?_
    refine lv_iload_n hx hb dX7_at_19 rfl (lv_at hl 2 rfl) ?_
    rcases sel_t hf with ⟨hq12, hf⟩ | ⟨hq12, hf⟩ | ⟨hq12, hf⟩
    · rw [hq12]
      obtain ⟨u13, hc14, hf⟩ := bind_t hf
      refine k_U (owner := "Compactforms$Form") (x := ⟨"Compactforms$Form", "valueAt", "(I)I"⟩) (As := [.int p2]) (rest := []) (n := 1) ⟨hx, hb, hml, hown, hts⟩ (met_X4_valueAt l 16 (fun j => a (7 + j)) (vlSm (fV x)) p2 u13 hc14) w634 w495 w499 w454 w5 w456 (hE.1.2.2.1 _ (List.mem_append_left _ (List.mem_of_getElem? (i := 2) rfl))) ⟨by decide +kernel, by decide +kernel, by decide +kernel⟩ ⟨Nat.le_of_ble_eq_true rfl, Nat.le_of_ble_eq_true rfl⟩ hK hE hP hD hS hA (isC := [7, 8, 9]) (isR := [0, 1, 2, 3, 4, 5, 6, 10, 11, 12, 13, 14, 15, 16, 17, 18, 19, 20, 21, 22, 23]) (isB := [0, 1, 2, 3, 4, 5, 6, 21, 22, 23, 7, 8, 9, 10, 11, 12, 13, 14, 15, 16, 17, 18, 19, 20]) (ws' := W_F cI cV vf a x) ⟨([0, 1, 2, 3, 4, 5, 6, 10, 11, 12, 13, 14, 15, 16, 17, 18, 19, 20, 21, 22, 23] : List Nat).filterMap (fun i : Nat => (W_F cI cV vf a x : va_W)[i]?), rfl, rfl, rfl, rfl, by decide, rfl, rfl⟩ 7 3 rfl rfl rfl rfl hl.1 rfl (Nat.le_of_ble_eq_true rfl) dX7_at_20 ⟨Nat.le_of_ble_eq_true rfl, Nat.le_of_ble_eq_true rfl⟩ (fun H locs hP hD hS => ?_)
      try dsimp only at hf
      refine W.eq (g2 := F0 m 23 ls [.int u13]) rfl ?_
      obtain rfl := Option.some.inj hf
      refine vx_ret ?_
      exact W.iret (v := u13) hx hb hr (fun t ht hW => ⟨_, rfl, ⟨rfl, by rw [ht]; exact hP, va_K.moved hW.alike hK, hD, hS.F ht⟩⟩) hS.2.2 dX7_at_23 hlocks
    · rw [hq12]
      obtain ⟨u15, hc16, hf⟩ := bind_t hf
      refine k_U (owner := "Compactforms$Form") (x := ⟨"Compactforms$Form", "valueAt", "(I)I"⟩) (As := [.int p2]) (rest := []) (n := 1) ⟨hx, hb, hml, hown, hts⟩ (met_X0_valueAt l (fun j => a (10 + j)) (vlCh (fV x)) p2 u15 hc16) w634 w495 w496 w497 w6 w498 (hE.1.2.2.1 _ (List.mem_append_left _ (List.mem_of_getElem? (i := 2) rfl))) ⟨by decide +kernel, by decide +kernel, by decide +kernel⟩ ⟨Nat.le_of_ble_eq_true rfl, Nat.le_of_ble_eq_true rfl⟩ hK hE hP hD hS hA (isC := [10, 11, 12, 13]) (isR := [0, 1, 2, 3, 4, 5, 6, 7, 8, 9, 14, 15, 16, 17, 18, 19, 20, 21, 22, 23]) (isB := [0, 1, 2, 3, 4, 5, 6, 7, 8, 9, 20, 21, 22, 23, 10, 11, 12, 13, 14, 15, 16, 17, 18, 19]) (ws' := W_F cI cV vf a x) ⟨([0, 1, 2, 3, 4, 5, 6, 7, 8, 9, 14, 15, 16, 17, 18, 19, 20, 21, 22, 23] : List Nat).filterMap (fun i : Nat => (W_F cI cV vf a x : va_W)[i]?), rfl, rfl, rfl, rfl, by decide, rfl, rfl⟩ 10 0 rfl rfl rfl rfl hl.1 rfl (Nat.le_of_ble_eq_true rfl) dX7_at_20 ⟨Nat.le_of_ble_eq_true rfl, Nat.le_of_ble_eq_true rfl⟩ (fun H locs hP hD hS => ?_)
      try dsimp only at hf
      refine W.eq (g2 := F0 m 23 ls [.int u15]) rfl ?_
      obtain rfl := Option.some.inj hf
      refine vx_ret ?_
      exact W.iret (v := u15) hx hb hr (fun t ht hW => ⟨_, rfl, ⟨rfl, by rw [ht]; exact hP, va_K.moved hW.alike hK, hD, hS.F ht⟩⟩) hS.2.2 dX7_at_23 hlocks
    · rw [hq12]
      obtain ⟨u17, hc18, hf⟩ := bind_t hf
      refine k_U (owner := "Compactforms$Form") (x := ⟨"Compactforms$Form", "valueAt", "(I)I"⟩) (As := [.int p2]) (rest := []) (n := 1) ⟨hx, hb, hml, hown, hts⟩ (met_X5_valueAt l (fun j => a (14 + j)) (vlTb (fV x)) p2 u17 hc18) w634 w495 w500 w501 w7 w502 (hE.1.2.2.1 _ (List.mem_append_left _ (List.mem_of_getElem? (i := 2) rfl))) ⟨by decide +kernel, by decide +kernel, by decide +kernel⟩ ⟨Nat.le_of_ble_eq_true rfl, Nat.le_of_ble_eq_true rfl⟩ hK hE hP hD hS hA (isC := [14, 15, 16, 17]) (isR := [0, 1, 2, 3, 4, 5, 6, 7, 8, 9, 10, 11, 12, 13, 18, 19, 20, 21, 22, 23]) (isB := [0, 1, 2, 3, 4, 5, 6, 7, 8, 9, 10, 11, 12, 13, 20, 21, 22, 23, 14, 15, 16, 17, 18, 19]) (ws' := W_F cI cV vf a x) ⟨([0, 1, 2, 3, 4, 5, 6, 7, 8, 9, 10, 11, 12, 13, 18, 19, 20, 21, 22, 23] : List Nat).filterMap (fun i : Nat => (W_F cI cV vf a x : va_W)[i]?), rfl, rfl, rfl, rfl, by decide, rfl, rfl⟩ 14 4 rfl rfl rfl rfl hl.1 rfl (Nat.le_of_ble_eq_true rfl) dX7_at_20 ⟨Nat.le_of_ble_eq_true rfl, Nat.le_of_ble_eq_true rfl⟩ (fun H locs hP hD hS => ?_)
      try dsimp only at hf
      refine W.eq (g2 := F0 m 23 ls [.int u17]) rfl ?_
      obtain rfl := Option.some.inj hf
      refine vx_ret ?_
      exact W.iret (v := u17) hx hb hr (fun t ht hW => ⟨_, rfl, ⟨rfl, by rw [ht]; exact hP, va_K.moved hW.alike hK, hD, hS.F ht⟩⟩) hS.2.2 dX7_at_23 hlocks
  exact M0 s.heap [] ls hf hP hD hS hl
/-! Compactforms.atByPlain(II)I -/
def fX7_atByPlain (k : Nat) (x : FSt) (p1 : Int32) (p2 : Int32) : Option ((Int32 ⊕ Nat)) := (fX7_needKey p1).bind (fun u1 => thr u1 (fun k3 => some (.inr k3)) (fun r4 => (fX7_needIndex k x p1 p2).bind (fun u6 => thr u6 (fun k8 => some (.inr k8)) (fun r9 => chk (keyok p1 k) ((fX4_valueAt 40 (vlPl (fV x)) p2).bind (fun u12 => some (.inl u12)))))))
set_option maxHeartbeats 4000000 in
set_option maxRecDepth 100000 in
theorem met_X7_atByPlain {D : va_G} {cI cV cJ cD : ClassId} (l : Launch) (hlt : l.stackTraces = false) (k : Nat) (vf : Nat → Option Nat) (a : Nat → Nat) (hvf : vf k = some (a 6)) (x : FSt) (p1 : Int32) (p2 : Int32) (res : (Int32 ⊕ Nat)) (hf : fX7_atByPlain k x p1 p2 = some res) : MX l yX7_atByPlain cX7_atByPlain 3 (some .int) { frames := 7, cells := 2, slots := 12, locals := 122 } D (TY cI cV cJ cD) (W_F cI cV vf a x) (W_F cI cV vf a x) [.ref (a 0), .int p1, .int p2] (rsI res) := by
  intro sz
  refine vx_ofW (cc := cX7_atByPlain) (maxL := 3) (ret := (some .int)) (by decide +kernel) rfl ?_
  intro p e s m args below meth c s₁ B hml htab hv
  obtain ⟨rfl, hsz, hP, hK, hD0, hE⟩ := hv
  have hx := B.exec
  have hb := B.bytes
  have hr := B.returns
  have hts := atoms_spec (ws := .code yX7_atByPlain cX7_atByPlain 3 (some .int) :: GW) B.pre
  have hg : ∀ w ∈ GW, w.before (([.ref (a 0), .int p1, .int p2] : List Value).toArray) s = true := fun w h => hts w (List.mem_cons_of_mem _ h)
  have hown : s.vm.findClass RX7 = some m.cls := findClass_of_methodNamed B.named
  have hlocks := B.notSynchronized
  subst hsz
  have hD := hD0.self (sz := s.heap.size)
  generalize hAe : va_A (W_F cI cV vf a x) s.heap.size = A at hD hE ⊢
  have hA : ∀ q : Nat, s.heap.size ≤ q → A q := fun q h => by rw [← hAe]; exact Or.inr h
  have hS : va_S A s.heap s.heap [] := va_S.rf
  have hl := lv_entry ([.ref (a 0), .int p1, .int p2]) (n := 3) (Nat.le_of_ble_eq_true rfl)
  rw [lg_entry_eq]
  generalize (lg_sl ([.ref (a 0), .int p1, .int p2]) ++ List.replicate (3 - (lg_sl ([.ref (a 0), .int p1, .int p2])).length) Slot.unset).toArray = ls at hl ⊢
  have hl : lv_has ls 3 [(0, .ref (a 0)), (1, .int p1), (2, .int p2)] := hl
  have M0 : ∀ (H : Heap) (locs : List Loc) (ls : Array Slot), fX7_atByPlain k x p1 p2 = some res → va_P D vwCl (W_F cI cV vf a x) H → va_D A (W_F cI cV vf a x) → va_S A s.heap H locs → lv_has ls 3 [(0, .ref (a 0)), (1, .int p1), (2, .int p2)] → W p l e ({ frames := 7, cells := 2, slots := 12, locals := 122 } : Room) s m ([.ref (a 0), .int p1, .int p2] : List Value).toArray below meth c H locs 0 0 (vx_MQ below (QR D (TY cI cV cJ cD) (W_F cI cV vf a x) A (rsI res)) (XR D (TY cI cV cJ cD) (W_F cI cV vf a x) A (rsI res)) (([.ref (a 0), .int p1, .int p2] : List Value).toArray) s 2 12 A) (F0 m 0 ls []) := by
    intro H locs ls hf hP hD hS hl
    dsimp only [fX7_atByPlain] at hf
    refine lv_iload_n hx hb dX7_atByPlain_0 rfl (lv_at hl 1 rfl) ?_
    obtain ⟨u1, hc2, hf⟩ := bind_t hf
    refine k_SX (As := [.int p1]) (rest := []) (n := 1) ⟨hx, hb, hml, hown, hts⟩ (met_X7_needKey l hlt p1 u1 hc2) w209 w210 w1 w211 ⟨by decide +kernel, by decide +kernel, by decide +kernel⟩ ⟨Nat.le_of_ble_eq_true rfl, Nat.le_of_ble_eq_true rfl⟩ hK hE hP hD hS hA (isC := []) (isR := [0, 1, 2, 3, 4, 5, 6, 7, 8, 9, 10, 11, 12, 13, 14, 15, 16, 17, 18, 19, 20, 21, 22, 23]) (isB := [0, 1, 2, 3, 4, 5, 6, 7, 8, 9, 10, 11, 12, 13, 14, 15, 16, 17, 18, 19, 20, 21, 22, 23]) (ws' := W_F cI cV vf a x) ⟨([0, 1, 2, 3, 4, 5, 6, 7, 8, 9, 10, 11, 12, 13, 14, 15, 16, 17, 18, 19, 20, 21, 22, 23] : List Nat).filterMap (fun i : Nat => (W_F cI cV vf a x : va_W)[i]?), rfl, rfl, rfl, rfl, by decide, rfl, rfl⟩ rfl hl.1 rfl (Nat.le_of_ble_eq_true rfl) dX7_atByPlain_1 ⟨Nat.le_of_ble_eq_true rfl, Nat.le_of_ble_eq_true rfl⟩ (fun E ce q9 H locs h5 hP hD hS hce hcv hcl => ?_) (fun rv9 H locs h5 hP hD hS => ?_)
    · obtain ⟨k3, hq9, hE9⟩ := rsV_x h5
      replace hf := thr_x hf hq9
      obtain rfl := Option.some.inj hf
      exact k_out htab hlocks hce hcv hcl (by rw [hE9]; rfl) hK hP hD hS (Nat.le_of_ble_eq_true rfl) (Nat.le_of_ble_eq_true rfl)
    obtain ⟨r4, hq9, rfl⟩ := rsV_v h5
    replace hf := thr_v hf hq9
    refine W.eq (g2 := F0 m 4 ls []) rfl ?_
    refine lv_aload_n hx hb dX7_atByPlain_4 rfl (lv_at hl 0 rfl) ?_
    refine lv_iload_n hx hb dX7_atByPlain_5 rfl (lv_at hl 1 rfl) ?_
    refine lv_iload_n hx hb dX7_atByPlain_6 rfl (lv_at hl 2 rfl) ?_
    obtain ⟨u6, hc7, hf⟩ := bind_t hf
    refine k_VX (As := [.int p1, .int p2]) (rest := []) (n := 2) ⟨hx, hb, hml, hown, hts⟩ (met_X7_needIndex l hlt k vf a hvf x p1 p2 u6 hc7) w629 w631 ws20 w1 w632 ⟨rfl, by decide +kernel, by decide +kernel, by decide +kernel⟩ ⟨Nat.le_of_ble_eq_true rfl, Nat.le_of_ble_eq_true rfl⟩ hK hE hP hD hS hA (isC := [0, 1, 2, 3, 4, 5, 6, 7, 8, 9, 10, 11, 12, 13, 14, 15, 16, 17, 18, 19, 20, 21, 22, 23]) (isR := []) (isB := [0, 1, 2, 3, 4, 5, 6, 7, 8, 9, 10, 11, 12, 13, 14, 15, 16, 17, 18, 19, 20, 21, 22, 23]) (ws' := W_F cI cV vf a x) ⟨([] : List Nat).filterMap (fun i : Nat => (W_F cI cV vf a x : va_W)[i]?), rfl, rfl, rfl, rfl, by decide, rfl, rfl⟩ 0 6 rfl rfl rfl rfl hl.1 rfl (Nat.le_of_ble_eq_true rfl) dX7_atByPlain_7 ⟨Nat.le_of_ble_eq_true rfl, Nat.le_of_ble_eq_true rfl⟩ (fun E ce q9 H locs h10 hP hD hS hce hcv hcl => ?_) (fun rv9 H locs h10 hP hD hS => ?_)
    · obtain ⟨k8, hq9, hE9⟩ := rsV_x h10
      replace hf := thr_x hf hq9
      obtain rfl := Option.some.inj hf
      exact k_out htab hlocks hce hcv hcl (by rw [hE9]; rfl) hK hP hD hS (Nat.le_of_ble_eq_true rfl) (Nat.le_of_ble_eq_true rfl)
    obtain ⟨r9, hq9, rfl⟩ := rsV_v h10
    replace hf := thr_v hf hq9
    refine W.eq (g2 := F0 m 10 ls []) rfl ?_
    refine lv_aload_n hx hb dX7_atByPlain_10 rfl (lv_at hl 0 rfl) ?_
    refine va_get (D := D) (ci := 6) (v := .ref (a 1)) (C := RX7) (T := TX7) (N := 8) hx hb hg in_X7 hown hK hP 0 rfl rfl 0 (by decide) (hg _ w167) (fun _ h9 => h9) rfl dX7_atByPlain_11 ?_
    refine lv_iload_n hx hb dX7_atByPlain_14 rfl (lv_at hl 1 rfl) ?_
    obtain ⟨hi11, hf⟩ := chk_t hf
    refine va_aldq hx hb hK hP 1 1 rfl rfl (keyok_i hi11) dX7_atByPlain_15 ?_
    refine W.eq (g2 := F0 m 16 ls [.ref (a 6)]) (by rw [keyok_k hi11, hvf]; rfl) ?_
    refine va_getN (D := D) (ci := 5) (v := .ref (a 18)) (C := RX6) (T := TX6) (N := 10) hx hb hg in_X6 hown hK hP 6 rfl rfl 7 (by decide) (nwF_157 hE.1) (fun _ h9 => h9) rfl dX7_atByPlain_16 ?_
    refine lv_iload_n hx hb dX7_atByPlain_19 rfl (lv_at hl 2 rfl) ?_
    obtain ⟨u12, hc13, hf⟩ := bind_t hf
    refine k_V (As := [.int p2]) (rest := []) (n := 1) ⟨hx, hb, hml, hown, hts⟩ (met_X4_valueAt l 40 (fun j => a (18 + j)) (vlPl (fV x)) p2 u12 hc13) w731 w454 w455 w5 w456 ⟨rfl, by decide +kernel, by decide +kernel, by decide +kernel⟩ ⟨Nat.le_of_ble_eq_true rfl, Nat.le_of_ble_eq_true rfl⟩ hK hE hP hD hS hA (isC := [18, 19, 20]) (isR := [0, 1, 2, 3, 4, 5, 6, 7, 8, 9, 10, 11, 12, 13, 14, 15, 16, 17, 21, 22, 23]) (isB := [0, 1, 2, 3, 4, 5, 6, 7, 8, 9, 10, 11, 12, 13, 14, 15, 16, 17, 21, 22, 23, 18, 19, 20]) (ws' := W_F cI cV vf a x) ⟨([0, 1, 2, 3, 4, 5, 6, 7, 8, 9, 10, 11, 12, 13, 14, 15, 16, 17, 21, 22, 23] : List Nat).filterMap (fun i : Nat => (W_F cI cV vf a x : va_W)[i]?), rfl, rfl, rfl, rfl, by decide, rfl, rfl⟩ 18 3 rfl rfl rfl rfl hl.1 rfl (Nat.le_of_ble_eq_true rfl) dX7_atByPlain_20 ⟨Nat.le_of_ble_eq_true rfl, Nat.le_of_ble_eq_true rfl⟩ (fun H locs hP hD hS => ?_)
    try dsimp only at hf
    refine W.eq (g2 := F0 m 23 ls [.int u12]) rfl ?_
    obtain rfl := Option.some.inj hf
    refine vx_ret ?_
    exact W.iret (v := u12) hx hb hr (fun t ht hW => ⟨_, rfl, ⟨rfl, by rw [ht]; exact hP, va_K.moved hW.alike hK, hD, hS.F ht⟩⟩) hS.2.2 dX7_atByPlain_23 hlocks
  exact M0 s.heap [] ls hf hP hD hS hl
/-! Compactforms.indexOf(II)I -/
def fX7_indexOf (k : Nat) (x : FSt) (p1 : Int32) (p2 : Int32) : Option ((Int32 ⊕ Nat)) := (fX7_needKey p1).bind (fun u1 => thr u1 (fun k3 => some (.inr k3)) (fun r4 => (fX7_needValue p2).bind (fun u6 => thr u6 (fun k8 => some (.inr k8)) (fun r9 => (fX7_placeIn k x p1 p2).bind (fun u11 => some (.inl u11))))))
set_option maxHeartbeats 4000000 in
set_option maxRecDepth 100000 in
theorem met_X7_indexOf {D : va_G} {cI cV cJ cD : ClassId} (l : Launch) (hlt : l.stackTraces = false) (k : Nat) (vf : Nat → Option Nat) (a : Nat → Nat) (hvf : vf k = some (a 6)) (x : FSt) (p1 : Int32) (p2 : Int32) (res : (Int32 ⊕ Nat)) (hf : fX7_indexOf k x p1 p2 = some res) : MX l yX7_indexOf cX7_indexOf 3 (some .int) { frames := 8, cells := 2, slots := 12, locals := 142 } D (TY cI cV cJ cD) (W_F cI cV vf a x) (W_F cI cV vf a x) [.ref (a 0), .int p1, .int p2] (rsI res) := by
  intro sz
  refine vx_ofW (cc := cX7_indexOf) (maxL := 3) (ret := (some .int)) (by decide +kernel) rfl ?_
  intro p e s m args below meth c s₁ B hml htab hv
  obtain ⟨rfl, hsz, hP, hK, hD0, hE⟩ := hv
  have hx := B.exec
  have hb := B.bytes
  have hr := B.returns
  have hts := atoms_spec (ws := .code yX7_indexOf cX7_indexOf 3 (some .int) :: GW) B.pre
  have hg : ∀ w ∈ GW, w.before (([.ref (a 0), .int p1, .int p2] : List Value).toArray) s = true := fun w h => hts w (List.mem_cons_of_mem _ h)
  have hown : s.vm.findClass RX7 = some m.cls := findClass_of_methodNamed B.named
  have hlocks := B.notSynchronized
  subst hsz
  have hD := hD0.self (sz := s.heap.size)
  generalize hAe : va_A (W_F cI cV vf a x) s.heap.size = A at hD hE ⊢
  have hA : ∀ q : Nat, s.heap.size ≤ q → A q := fun q h => by rw [← hAe]; exact Or.inr h
  have hS : va_S A s.heap s.heap [] := va_S.rf
  have hl := lv_entry ([.ref (a 0), .int p1, .int p2]) (n := 3) (Nat.le_of_ble_eq_true rfl)
  rw [lg_entry_eq]
  generalize (lg_sl ([.ref (a 0), .int p1, .int p2]) ++ List.replicate (3 - (lg_sl ([.ref (a 0), .int p1, .int p2])).length) Slot.unset).toArray = ls at hl ⊢
  have hl : lv_has ls 3 [(0, .ref (a 0)), (1, .int p1), (2, .int p2)] := hl
  have M0 : ∀ (H : Heap) (locs : List Loc) (ls : Array Slot), fX7_indexOf k x p1 p2 = some res → va_P D vwCl (W_F cI cV vf a x) H → va_D A (W_F cI cV vf a x) → va_S A s.heap H locs → lv_has ls 3 [(0, .ref (a 0)), (1, .int p1), (2, .int p2)] → W p l e ({ frames := 8, cells := 2, slots := 12, locals := 142 } : Room) s m ([.ref (a 0), .int p1, .int p2] : List Value).toArray below meth c H locs 0 0 (vx_MQ below (QR D (TY cI cV cJ cD) (W_F cI cV vf a x) A (rsI res)) (XR D (TY cI cV cJ cD) (W_F cI cV vf a x) A (rsI res)) (([.ref (a 0), .int p1, .int p2] : List Value).toArray) s 2 12 A) (F0 m 0 ls []) := by
    intro H locs ls hf hP hD hS hl
    dsimp only [fX7_indexOf] at hf
    refine lv_iload_n hx hb dX7_indexOf_0 rfl (lv_at hl 1 rfl) ?_
    obtain ⟨u1, hc2, hf⟩ := bind_t hf
    refine k_SX (As := [.int p1]) (rest := []) (n := 1) ⟨hx, hb, hml, hown, hts⟩ (met_X7_needKey l hlt p1 u1 hc2) w209 w210 w1 w211 ⟨by decide +kernel, by decide +kernel, by decide +kernel⟩ ⟨Nat.le_of_ble_eq_true rfl, Nat.le_of_ble_eq_true rfl⟩ hK hE hP hD hS hA (isC := []) (isR := [0, 1, 2, 3, 4, 5, 6, 7, 8, 9, 10, 11, 12, 13, 14, 15, 16, 17, 18, 19, 20, 21, 22, 23]) (isB := [0, 1, 2, 3, 4, 5, 6, 7, 8, 9, 10, 11, 12, 13, 14, 15, 16, 17, 18, 19, 20, 21, 22, 23]) (ws' := W_F cI cV vf a x) ⟨([0, 1, 2, 3, 4, 5, 6, 7, 8, 9, 10, 11, 12, 13, 14, 15, 16, 17, 18, 19, 20, 21, 22, 23] : List Nat).filterMap (fun i : Nat => (W_F cI cV vf a x : va_W)[i]?), rfl, rfl, rfl, rfl, by decide, rfl, rfl⟩ rfl hl.1 rfl (Nat.le_of_ble_eq_true rfl) dX7_indexOf_1 ⟨Nat.le_of_ble_eq_true rfl, Nat.le_of_ble_eq_true rfl⟩ (fun E ce q9 H locs h5 hP hD hS hce hcv hcl => ?_) (fun rv9 H locs h5 hP hD hS => ?_)
    · obtain ⟨k3, hq9, hE9⟩ := rsV_x h5
      replace hf := thr_x hf hq9
      obtain rfl := Option.some.inj hf
      exact k_out htab hlocks hce hcv hcl (by rw [hE9]; rfl) hK hP hD hS (Nat.le_of_ble_eq_true rfl) (Nat.le_of_ble_eq_true rfl)
    obtain ⟨r4, hq9, rfl⟩ := rsV_v h5
    replace hf := thr_v hf hq9
    refine W.eq (g2 := F0 m 4 ls []) rfl ?_
    refine lv_iload_n hx hb dX7_indexOf_4 rfl (lv_at hl 2 rfl) ?_
    obtain ⟨u6, hc7, hf⟩ := bind_t hf
    refine k_SX (As := [.int p2]) (rest := []) (n := 1) ⟨hx, hb, hml, hown, hts⟩ (met_X7_needValue l hlt p2 u6 hc7) w314 w315 w1 w316 ⟨by decide +kernel, by decide +kernel, by decide +kernel⟩ ⟨Nat.le_of_ble_eq_true rfl, Nat.le_of_ble_eq_true rfl⟩ hK hE hP hD hS hA (isC := []) (isR := [0, 1, 2, 3, 4, 5, 6, 7, 8, 9, 10, 11, 12, 13, 14, 15, 16, 17, 18, 19, 20, 21, 22, 23]) (isB := [0, 1, 2, 3, 4, 5, 6, 7, 8, 9, 10, 11, 12, 13, 14, 15, 16, 17, 18, 19, 20, 21, 22, 23]) (ws' := W_F cI cV vf a x) ⟨([0, 1, 2, 3, 4, 5, 6, 7, 8, 9, 10, 11, 12, 13, 14, 15, 16, 17, 18, 19, 20, 21, 22, 23] : List Nat).filterMap (fun i : Nat => (W_F cI cV vf a x : va_W)[i]?), rfl, rfl, rfl, rfl, by decide, rfl, rfl⟩ rfl hl.1 rfl (Nat.le_of_ble_eq_true rfl) dX7_indexOf_5 ⟨Nat.le_of_ble_eq_true rfl, Nat.le_of_ble_eq_true rfl⟩ (fun E ce q9 H locs h10 hP hD hS hce hcv hcl => ?_) (fun rv9 H locs h10 hP hD hS => ?_)
    · obtain ⟨k8, hq9, hE9⟩ := rsV_x h10
      replace hf := thr_x hf hq9
      obtain rfl := Option.some.inj hf
      exact k_out htab hlocks hce hcv hcl (by rw [hE9]; rfl) hK hP hD hS (Nat.le_of_ble_eq_true rfl) (Nat.le_of_ble_eq_true rfl)
    obtain ⟨r9, hq9, rfl⟩ := rsV_v h10
    replace hf := thr_v hf hq9
    refine W.eq (g2 := F0 m 8 ls []) rfl ?_
    refine lv_aload_n hx hb dX7_indexOf_8 rfl (lv_at hl 0 rfl) ?_
    refine lv_iload_n hx hb dX7_indexOf_9 rfl (lv_at hl 1 rfl) ?_
    refine lv_iload_n hx hb dX7_indexOf_10 rfl (lv_at hl 2 rfl) ?_
    obtain ⟨u11, hc12, hf⟩ := bind_t hf
    refine k_V (As := [.int p1, .int p2]) (rest := []) (n := 2) ⟨hx, hb, hml, hown, hts⟩ (met_X7_placeIn l k vf a hvf x p1 p2 u11 hc12) w336 w338 ws4 w1 w339 ⟨rfl, by decide +kernel, by decide +kernel, by decide +kernel⟩ ⟨Nat.le_of_ble_eq_true rfl, Nat.le_of_ble_eq_true rfl⟩ hK hE hP hD hS hA (isC := [0, 1, 2, 3, 4, 5, 6, 7, 8, 9, 10, 11, 12, 13, 14, 15, 16, 17, 18, 19, 20, 21, 22, 23]) (isR := []) (isB := [0, 1, 2, 3, 4, 5, 6, 7, 8, 9, 10, 11, 12, 13, 14, 15, 16, 17, 18, 19, 20, 21, 22, 23]) (ws' := W_F cI cV vf a x) ⟨([] : List Nat).filterMap (fun i : Nat => (W_F cI cV vf a x : va_W)[i]?), rfl, rfl, rfl, rfl, by decide, rfl, rfl⟩ 0 6 rfl rfl rfl rfl hl.1 rfl (Nat.le_of_ble_eq_true rfl) dX7_indexOf_11 ⟨Nat.le_of_ble_eq_true rfl, Nat.le_of_ble_eq_true rfl⟩ (fun H locs hP hD hS => ?_)
    try dsimp only at hf
    refine W.eq (g2 := F0 m 14 ls [.int u11]) rfl ?_
    obtain rfl := Option.some.inj hf
    refine vx_ret ?_
    exact W.iret (v := u11) hx hb hr (fun t ht hW => ⟨_, rfl, ⟨rfl, by rw [ht]; exact hP, va_K.moved hW.alike hK, hD, hS.F ht⟩⟩) hS.2.2 dX7_indexOf_14 hlocks
  exact M0 s.heap [] ls hf hP hD hS hl
/-! Compactforms.floatOf(I)F -/
def fX7_floatOf_72 (v0 : Int32) (rec72 : UInt64 × Int32 → Option (UInt32)) (s : UInt64 × Int32) : Option (UInt32) := match s with | (v3, v6) => (if 0 ≤ v6 then (if 0 ≤ v0 then chk (n32 (FP.d2f v3)) (some (FP.d2f v3)) else chk (n32 (FP.d2f (FP.dneg v3))) (some (FP.d2f (FP.dneg v3)))) else chk (n64 (FP.dmul v3 4602678819172646912)) (keep (v6 + 1) (fun y6 => rec72 ((FP.dmul v3 4602678819172646912), y6))))
def fX7_floatOf_49 (v0 : Int32) (v5 : Int32) (rec49 : UInt64 × Int32 → Option (UInt32)) (s : UInt64 × Int32) : Option (UInt32) := match s with | (v3, v6) => (if v5 ≤ v6 then iterK FU (fX7_floatOf_72 v0) (v3, v5) else chk (n64 (FP.dmul v3 4611686018427387904)) (keep (v6 + 1) (fun y9 => rec49 ((FP.dmul v3 4611686018427387904), y9))))
def fX7_floatOf_30 (v0 : Int32) (v1 : Int32) (s0 : UInt64) : Option (UInt32) := (if v1 = 0 then keep (1 - 150) (fun y12 => iterK FU (fX7_floatOf_49 v0 y12) (s0, 0)) else keep (v1 - 150) (fun y11 => iterK FU (fX7_floatOf_49 v0 y11) (s0, 0)))
def fX7_floatOf (p0 : Int32) : Option (UInt32) := keep ((p0 >>> (23 &&& 31)) &&& 255) (fun y13 => keep (p0 &&& 8388607) (fun y14 => (if y13 = 0 then fX7_floatOf_30 p0 y13 (FP.i2d y14) else fX7_floatOf_30 p0 y13 (FP.i2d (y14 + 8388608)))))
set_option maxHeartbeats 4000000 in
set_option maxRecDepth 100000 in
theorem met_X7_floatOf {D : va_G} {cI cV cJ cD : ClassId} (l : Launch) (p0 : Int32) (res : UInt32) (hf : fX7_floatOf p0 = some res) : MM l yX7_floatOf cX7_floatOf 7 (some .float) { frames := 0, cells := 0, slots := 0, locals := 0 } D (TY cI cV cJ cD) ([]) ([]) [.int p0] (some (.float res)) := by
  intro sz
  refine Met.ofW (cc := cX7_floatOf) (maxL := 7) (ret := (some .float)) (by decide +kernel) rfl ?_
  intro p e s m args below meth c s₁ B hml hv
  obtain ⟨rfl, hsz, hP, hK, hD0, hE⟩ := hv
  have hx := B.exec
  have hb := B.bytes
  have hr := B.returns
  have hts := atoms_spec (ws := .code yX7_floatOf cX7_floatOf 7 (some .float) :: GW) B.pre
  have hg : ∀ w ∈ GW, w.before (([.int p0] : List Value).toArray) s = true := fun w h => hts w (List.mem_cons_of_mem _ h)
  have hown : s.vm.findClass RX7 = some m.cls := findClass_of_methodNamed B.named
  have hlocks := B.notSynchronized
  subst hsz
  have hD := hD0.self (sz := s.heap.size)
  generalize hAe : va_A ([]) s.heap.size = A at hD hE ⊢
  have hA : ∀ q : Nat, s.heap.size ≤ q → A q := fun q h => by rw [← hAe]; exact Or.inr h
  have hS : va_S A s.heap s.heap [] := va_S.rf
  have hl := lv_entry ([.int p0]) (n := 7) (Nat.le_of_ble_eq_true rfl)
  rw [lg_entry_eq]
  generalize (lg_sl ([.int p0]) ++ List.replicate (7 - (lg_sl ([.int p0])).length) Slot.unset).toArray = ls at hl ⊢
  have hl : lv_has ls 7 [(0, .int p0)] := hl
  have S72 : ∀ (v0 : Int32) (rec72 : UInt64 × Int32 → Option (UInt32)) (hrec72 : ∀ (v3 : UInt64), ∀ (v6 : Int32), ∀ (H : Heap) (locs : List Loc) (ls : Array Slot), rec72 (v3, v6) = some res → va_P D vwCl ([]) H → va_D A ([]) → va_S A s.heap H locs → lv_has ls 7 [(0, .int v0), (3, .double v3), (6, .int v6)] → W p l e ({ frames := 0, cells := 0, slots := 0, locals := 0 } : Room) s m ([.int p0] : List Value).toArray below meth c H locs 0 0 (MQ below (QW D (TY cI cV cJ cD) ([]) A (some (.float res))) (([.int p0] : List Value).toArray) s 0 0 A) (F0 m 72 ls [])) (v3 : UInt64) (v6 : Int32) (H : Heap) (locs : List Loc) (ls : Array Slot), fX7_floatOf_72 v0  rec72 (v3, v6) = some res → va_P D vwCl ([]) H → va_D A ([]) → va_S A s.heap H locs → lv_has ls 7 [(0, .int v0), (3, .double v3), (6, .int v6)] → W p l e ({ frames := 0, cells := 0, slots := 0, locals := 0 } : Room) s m ([.int p0] : List Value).toArray below meth c H locs 0 0 (MQ below (QW D (TY cI cV cJ cD) ([]) A (some (.float res))) (([.int p0] : List Value).toArray) s 0 0 A) (F0 m 72 ls []) := by
    intro v0 rec72 hrec72 v3 v6 H locs ls hf hP hD hS hl
    dsimp only [fX7_floatOf_72] at hf
    refine lv_iload hx hb dX7_floatOf_72 (lv_at hl 2 rfl) ?_
    refine lv_if_ge (tgt := 89) hx hb dX7_floatOf_74 (by decide) (fun c1 => ?_) (fun c1 => ?_)
    · replace hf := if_t c1 hf
      refine lv_iload_n hx hb dX7_floatOf_89 rfl (lv_at hl 0 rfl) ?_
      refine lv_if_ge (tgt := 98) hx hb dX7_floatOf_90 (by decide) (fun c2 => ?_) (fun c2 => ?_)
      · replace hf := if_t c2 hf
        refine lv_dload_n hx hb dX7_floatOf_98 rfl (lv_at hl 1 rfl) ?_
        obtain ⟨hz3, hf⟩ := chk_t hf
        refine lv_d2f hx hb dX7_floatOf_99 (n32_t hz3) ?_
        obtain rfl := Option.some.inj hf
        exact W.fret (v := (FP.d2f v3)) hx hb hr (fun t ht hW => ⟨rfl, by rw [ht]; exact hP, va_K.moved hW.alike hK, hD, hS.F ht⟩) hS.2.2 dX7_floatOf_100 hlocks
      · replace hf := if_f c2 hf
        refine lv_dload_n hx hb dX7_floatOf_93 rfl (lv_at hl 1 rfl) ?_
        refine lv_dneg hx hb dX7_floatOf_94 ?_
        refine lv_goto (tgt := 99) hx hb dX7_floatOf_95 (by decide) ?_
        obtain ⟨hz4, hf⟩ := chk_t hf
        refine lv_d2f hx hb dX7_floatOf_99 (n32_t hz4) ?_
        obtain rfl := Option.some.inj hf
        exact W.fret (v := (FP.d2f (FP.dneg v3))) hx hb hr (fun t ht hW => ⟨rfl, by rw [ht]; exact hP, va_K.moved hW.alike hK, hD, hS.F ht⟩) hS.2.2 dX7_floatOf_100 hlocks
    · replace hf := if_f c1 hf
      refine lv_dload_n hx hb dX7_floatOf_77 rfl (lv_at hl 1 rfl) ?_
      refine lv_ldc2d (own := RX7) (v := 4602678819172646912) hx hb hown (hg _ w768) dX7_floatOf_78 ?_
      obtain ⟨hz5, hf⟩ := chk_t hf
      refine lv_dmul hx hb dX7_floatOf_81 (n64_t hz5) ?_
      refine lv_dstore_n (lv' := [(3, .double (FP.dmul v3 4602678819172646912)), (0, .int v0), (6, .int v6)]) hx hb dX7_floatOf_82 rfl hl (by decide) rfl (fun ls hl => ?_)
      obtain ⟨y6, hy6⟩ : ∃ z : Int32, z = (v6 + 1) := ⟨_, rfl⟩
      replace hf := keep_e hf y6 hy6
      refine lv_iinc (v := y6) (lv' := [(6, .int y6), (3, .double (FP.dmul v3 4602678819172646912)), (0, .int v0)]) hx hb dX7_floatOf_83 hl (k := 2) rfl (by rw [hy6]; rfl) (by decide) rfl (fun ls hl => ?_)
      refine lv_goto (tgt := 72) hx hb dX7_floatOf_86 (by decide) ?_
      exact hrec72 (FP.dmul v3 4602678819172646912) y6 H locs ls hf hP hD hS (lv_sub hl [2, 1, 0] rfl)
  have L72 : ∀ (v0 : Int32) (fu : Nat) (v3 : UInt64) (v6 : Int32) (H : Heap) (locs : List Loc) (ls : Array Slot), iterK fu (fX7_floatOf_72 v0 ) (v3, v6) = some res → va_P D vwCl ([]) H → va_D A ([]) → va_S A s.heap H locs → lv_has ls 7 [(0, .int v0), (3, .double v3), (6, .int v6)] → W p l e ({ frames := 0, cells := 0, slots := 0, locals := 0 } : Room) s m ([.int p0] : List Value).toArray below meth c H locs 0 0 (MQ below (QW D (TY cI cV cJ cD) ([]) A (some (.float res))) (([.int p0] : List Value).toArray) s 0 0 A) (F0 m 72 ls []) := by
    intro v0 fu
    induction fu with
    | zero =>
      intro v3 v6 H locs ls hf
      cases hf
    | succ fu ih =>
      intro v3 v6 H locs ls hf hP hD hS hl
      exact S72 v0 (iterK fu (fX7_floatOf_72 v0 )) ih v3 v6 H locs ls hf hP hD hS hl
  have S49 : ∀ (v0 : Int32) (v5 : Int32) (rec49 : UInt64 × Int32 → Option (UInt32)) (hrec49 : ∀ (v3 : UInt64), ∀ (v6 : Int32), ∀ (H : Heap) (locs : List Loc) (ls : Array Slot), rec49 (v3, v6) = some res → va_P D vwCl ([]) H → va_D A ([]) → va_S A s.heap H locs → lv_has ls 7 [(0, .int v0), (3, .double v3), (5, .int v5), (6, .int v6)] → W p l e ({ frames := 0, cells := 0, slots := 0, locals := 0 } : Room) s m ([.int p0] : List Value).toArray below meth c H locs 0 0 (MQ below (QW D (TY cI cV cJ cD) ([]) A (some (.float res))) (([.int p0] : List Value).toArray) s 0 0 A) (F0 m 49 ls [])) (v3 : UInt64) (v6 : Int32) (H : Heap) (locs : List Loc) (ls : Array Slot), fX7_floatOf_49 v0 v5  rec49 (v3, v6) = some res → va_P D vwCl ([]) H → va_D A ([]) → va_S A s.heap H locs → lv_has ls 7 [(0, .int v0), (3, .double v3), (5, .int v5), (6, .int v6)] → W p l e ({ frames := 0, cells := 0, slots := 0, locals := 0 } : Room) s m ([.int p0] : List Value).toArray below meth c H locs 0 0 (MQ below (QW D (TY cI cV cJ cD) ([]) A (some (.float res))) (([.int p0] : List Value).toArray) s 0 0 A) (F0 m 49 ls []) := by
    intro v0 v5 rec49 hrec49 v3 v6 H locs ls hf hP hD hS hl
    dsimp only [fX7_floatOf_49] at hf
    refine lv_iload hx hb dX7_floatOf_49 (lv_at hl 3 rfl) ?_
    refine lv_iload hx hb dX7_floatOf_51 (lv_at hl 2 rfl) ?_
    refine lv_icmp_ge (tgt := 68) hx hb dX7_floatOf_53 (by decide) (fun c7 => ?_) (fun c7 => ?_)
    · replace hf := if_t c7 hf
      refine lv_iload hx hb dX7_floatOf_68 (lv_at hl 2 rfl) ?_
      refine lv_istore (lv' := [(6, .int v5), (0, .int v0), (3, .double v3), (5, .int v5)]) hx hb dX7_floatOf_70 hl (by decide) rfl (fun ls hl => ?_)
      exact L72 v0 FU v3 v5 H locs ls hf hP hD hS (lv_sub hl [1, 2, 0] rfl)
    · replace hf := if_f c7 hf
      refine lv_dload_n hx hb dX7_floatOf_56 rfl (lv_at hl 1 rfl) ?_
      refine lv_ldc2d (own := RX7) (v := 4611686018427387904) hx hb hown (hg _ w767) dX7_floatOf_57 ?_
      obtain ⟨hz8, hf⟩ := chk_t hf
      refine lv_dmul hx hb dX7_floatOf_60 (n64_t hz8) ?_
      refine lv_dstore_n (lv' := [(3, .double (FP.dmul v3 4611686018427387904)), (0, .int v0), (5, .int v5), (6, .int v6)]) hx hb dX7_floatOf_61 rfl hl (by decide) rfl (fun ls hl => ?_)
      obtain ⟨y9, hy9⟩ : ∃ z : Int32, z = (v6 + 1) := ⟨_, rfl⟩
      replace hf := keep_e hf y9 hy9
      refine lv_iinc (v := y9) (lv' := [(6, .int y9), (3, .double (FP.dmul v3 4611686018427387904)), (0, .int v0), (5, .int v5)]) hx hb dX7_floatOf_62 hl (k := 3) rfl (by rw [hy9]; rfl) (by decide) rfl (fun ls hl => ?_)
      refine lv_goto (tgt := 49) hx hb dX7_floatOf_65 (by decide) ?_
      exact hrec49 (FP.dmul v3 4611686018427387904) y9 H locs ls hf hP hD hS (lv_sub hl [2, 1, 3, 0] rfl)
  have L49 : ∀ (v0 : Int32) (v5 : Int32) (fu : Nat) (v3 : UInt64) (v6 : Int32) (H : Heap) (locs : List Loc) (ls : Array Slot), iterK fu (fX7_floatOf_49 v0 v5 ) (v3, v6) = some res → va_P D vwCl ([]) H → va_D A ([]) → va_S A s.heap H locs → lv_has ls 7 [(0, .int v0), (3, .double v3), (5, .int v5), (6, .int v6)] → W p l e ({ frames := 0, cells := 0, slots := 0, locals := 0 } : Room) s m ([.int p0] : List Value).toArray below meth c H locs 0 0 (MQ below (QW D (TY cI cV cJ cD) ([]) A (some (.float res))) (([.int p0] : List Value).toArray) s 0 0 A) (F0 m 49 ls []) := by
    intro v0 v5 fu
    induction fu with
    | zero =>
      intro v3 v6 H locs ls hf
      cases hf
    | succ fu ih =>
      intro v3 v6 H locs ls hf hP hD hS hl
      exact S49 v0 v5 (iterK fu (fX7_floatOf_49 v0 v5 )) ih v3 v6 H locs ls hf hP hD hS hl
  have L30 : ∀ (v0 : Int32) (v1 : Int32) (s0 : UInt64) (H : Heap) (locs : List Loc) (ls : Array Slot), fX7_floatOf_30 v0 v1 s0  = some res → va_P D vwCl ([]) H → va_D A ([]) → va_S A s.heap H locs → lv_has ls 7 [(0, .int v0), (1, .int v1)] → W p l e ({ frames := 0, cells := 0, slots := 0, locals := 0 } : Room) s m ([.int p0] : List Value).toArray below meth c H locs 0 0 (MQ below (QW D (TY cI cV cJ cD) ([]) A (some (.float res))) (([.int p0] : List Value).toArray) s 0 0 A) (F0 m 30 ls [.double s0]) := by
    intro v0 v1 s0 H locs ls hf hP hD hS hl
    dsimp only [fX7_floatOf_30] at hf
    refine lv_dstore_n (lv' := [(3, .double s0), (0, .int v0), (1, .int v1)]) hx hb dX7_floatOf_30 rfl hl (by decide) rfl (fun ls hl => ?_)
    refine lv_iload_n hx hb dX7_floatOf_31 rfl (lv_at hl 2 rfl) ?_
    refine lv_if_ne (tgt := 39) hx hb dX7_floatOf_32 (by decide) (fun c10 => ?_) (fun c10 => ?_)
    · replace hf := if_f c10 hf
      refine lv_iload_n hx hb dX7_floatOf_39 rfl (lv_at hl 2 rfl) ?_
      refine lv_sipush (v := 150) hx hb dX7_floatOf_40 (by decide) ?_
      refine lv_isub hx hb dX7_floatOf_43 ?_
      refine lv_topi (fun y11 hy11 => ?_)
      replace hf := keep_e hf y11 hy11
      refine lv_istore (lv' := [(5, .int y11), (3, .double s0), (0, .int v0), (1, .int v1)]) hx hb dX7_floatOf_44 hl (by decide) rfl (fun ls hl => ?_)
      refine lv_iconst (v := 0) hx hb dX7_floatOf_46 (by decide) ?_
      refine lv_istore (lv' := [(6, .int 0), (5, .int y11), (3, .double s0), (0, .int v0), (1, .int v1)]) hx hb dX7_floatOf_47 hl (by decide) rfl (fun ls hl => ?_)
      exact L49 v0 y11 FU s0 0 H locs ls hf hP hD hS (lv_sub hl [3, 2, 1, 0] rfl)
    · replace hf := if_t c10 hf
      refine lv_iconst (v := 1) hx hb dX7_floatOf_35 (by decide) ?_
      refine lv_goto (tgt := 40) hx hb dX7_floatOf_36 (by decide) ?_
      refine lv_sipush (v := 150) hx hb dX7_floatOf_40 (by decide) ?_
      refine lv_isub hx hb dX7_floatOf_43 ?_
      refine lv_topi (fun y12 hy12 => ?_)
      replace hf := keep_e hf y12 hy12
      refine lv_istore (lv' := [(5, .int y12), (3, .double s0), (0, .int v0), (1, .int v1)]) hx hb dX7_floatOf_44 hl (by decide) rfl (fun ls hl => ?_)
      refine lv_iconst (v := 0) hx hb dX7_floatOf_46 (by decide) ?_
      refine lv_istore (lv' := [(6, .int 0), (5, .int y12), (3, .double s0), (0, .int v0), (1, .int v1)]) hx hb dX7_floatOf_47 hl (by decide) rfl (fun ls hl => ?_)
      exact L49 v0 y12 FU s0 0 H locs ls hf hP hD hS (lv_sub hl [3, 2, 1, 0] rfl)
  have M0 : ∀ (H : Heap) (locs : List Loc) (ls : Array Slot), fX7_floatOf p0 = some res → va_P D vwCl ([]) H → va_D A ([]) → va_S A s.heap H locs → lv_has ls 7 [(0, .int p0)] → W p l e ({ frames := 0, cells := 0, slots := 0, locals := 0 } : Room) s m ([.int p0] : List Value).toArray below meth c H locs 0 0 (MQ below (QW D (TY cI cV cJ cD) ([]) A (some (.float res))) (([.int p0] : List Value).toArray) s 0 0 A) (F0 m 0 ls []) := by
    intro H locs ls hf hP hD hS hl
    dsimp only [fX7_floatOf] at hf
    refine lv_iload_n hx hb dX7_floatOf_0 rfl (lv_at hl 0 rfl) ?_
    refine lv_bipush (v := 23) hx hb dX7_floatOf_1 (by decide) ?_
    refine lv_ishr hx hb dX7_floatOf_3 ?_
    refine lv_sipush (v := 255) hx hb dX7_floatOf_4 (by decide) ?_
    refine lv_iand hx hb dX7_floatOf_7 ?_
    refine lv_topi (fun y13 hy13 => ?_)
    replace hf := keep_e hf y13 hy13
    refine lv_istore_n (lv' := [(1, .int y13), (0, .int p0)]) hx hb dX7_floatOf_8 rfl hl (by decide) rfl (fun ls hl => ?_)
    refine lv_iload_n hx hb dX7_floatOf_9 rfl (lv_at hl 1 rfl) ?_
    refine lv_ldcw (own := RX7) (v := 8388607) hx hb hown (hg _ w765) dX7_floatOf_10 ?_
    refine lv_iand hx hb dX7_floatOf_13 ?_
    refine lv_topi (fun y14 hy14 => ?_)
    replace hf := keep_e hf y14 hy14
    refine lv_istore_n (lv' := [(2, .int y14), (1, .int y13), (0, .int p0)]) hx hb dX7_floatOf_14 rfl hl (by decide) rfl (fun ls hl => ?_)
    refine lv_iload_n hx hb dX7_floatOf_15 rfl (lv_at hl 1 rfl) ?_
    refine lv_if_ne (tgt := 24) hx hb dX7_floatOf_16 (by decide) (fun c15 => ?_) (fun c15 => ?_)
    · replace hf := if_f c15 hf
      refine lv_iload_n hx hb dX7_floatOf_24 rfl (lv_at hl 0 rfl) ?_
      refine lv_ldcw (own := RX7) (v := 8388608) hx hb hown (hg _ w766) dX7_floatOf_25 ?_
      refine lv_iadd hx hb dX7_floatOf_28 ?_
      refine lv_i2d hx hb dX7_floatOf_29 ?_
      exact L30 p0 y13 (FP.i2d (y14 + 8388608)) H locs ls hf hP hD hS (lv_sub hl [2, 1] rfl)
    · replace hf := if_t c15 hf
      refine lv_iload_n hx hb dX7_floatOf_19 rfl (lv_at hl 0 rfl) ?_
      refine lv_i2d hx hb dX7_floatOf_20 ?_
      refine lv_goto (tgt := 30) hx hb dX7_floatOf_21 (by decide) ?_
      exact L30 p0 y13 (FP.i2d y14) H locs ls hf hP hD hS (lv_sub hl [2, 1] rfl)
  exact M0 s.heap [] ls hf hP hD hS hl
/-! Compactforms.points(II)F -/
def fX7_points_49 (k : Nat) (x : FSt) (s0 : Int32) : Option ((UInt32 ⊕ Nat)) := (fX7_floatOf s0).bind (fun u1 => some (.inl u1))
def fX7_points (k : Nat) (x : FSt) (p1 : Int32) (p2 : Int32) : Option ((UInt32 ⊕ Nat)) := (fX7_needKey p1).bind (fun u3 => thr u3 (fun k5 => some (.inr k5)) (fun r6 => (fX7_needValue p2).bind (fun u8 => thr u8 (fun k10 => some (.inr k10)) (fun r11 => (fX7_needType k x p1 3).bind (fun u13 => thr u13 (fun k15 => some (.inr k15)) (fun r16 => (fX7_placeIn k x p1 p2).bind (fun u18 => (if u18 = (-1) then some (.inr 2) else chk (keyok p1 k) (sel (vlFm (fV x)) ((fX4_bitsAt 16 (vlSm (fV x)) u18).bind (fun u23 => fX7_points_49 k x u23)) ((fX0_bitsAt (vlCh (fV x)) u18).bind (fun u25 => fX7_points_49 k x u25)) ((fX5_bitsAt (vlTb (fV x)) u18).bind (fun u27 => fX7_points_49 k x u27)))))))))))
set_option maxHeartbeats 4000000 in
set_option maxRecDepth 100000 in
theorem met_X7_points {D : va_G} {cI cV cJ cD : ClassId} (l : Launch) (hlt : l.stackTraces = false) (k : Nat) (vf : Nat → Option Nat) (a : Nat → Nat) (hvf : vf k = some (a 6)) (x : FSt) (p1 : Int32) (p2 : Int32) (res : (UInt32 ⊕ Nat)) (hf : fX7_points k x p1 p2 = some res) : MX l yX7_points cX7_points 4 (some .float) { frames := 8, cells := 4, slots := 24, locals := 142 } D (TY cI cV cJ cD) (W_F cI cV vf a x) (W_F cI cV vf a x) [.ref (a 0), .int p1, .int p2] (rsF res) := by
  intro sz
  refine vx_ofW (cc := cX7_points) (maxL := 4) (ret := (some .float)) (by decide +kernel) rfl ?_
  intro p e s m args below meth c s₁ B hml htab hv
  obtain ⟨rfl, hsz, hP, hK, hD0, hE⟩ := hv
  have hx := B.exec
  have hb := B.bytes
  have hr := B.returns
  have hts := atoms_spec (ws := .code yX7_points cX7_points 4 (some .float) :: GW) B.pre
  have hg : ∀ w ∈ GW, w.before (([.ref (a 0), .int p1, .int p2] : List Value).toArray) s = true := fun w h => hts w (List.mem_cons_of_mem _ h)
  have hown : s.vm.findClass RX7 = some m.cls := findClass_of_methodNamed B.named
  have hlocks := B.notSynchronized
  subst hsz
  have hD := hD0.self (sz := s.heap.size)
  generalize hAe : va_A (W_F cI cV vf a x) s.heap.size = A at hD hE ⊢
  have hA : ∀ q : Nat, s.heap.size ≤ q → A q := fun q h => by rw [← hAe]; exact Or.inr h
  have hS : va_S A s.heap s.heap [] := va_S.rf
  have hl := lv_entry ([.ref (a 0), .int p1, .int p2]) (n := 4) (Nat.le_of_ble_eq_true rfl)
  rw [lg_entry_eq]
  generalize (lg_sl ([.ref (a 0), .int p1, .int p2]) ++ List.replicate (4 - (lg_sl ([.ref (a 0), .int p1, .int p2])).length) Slot.unset).toArray = ls at hl ⊢
  have hl : lv_has ls 4 [(0, .ref (a 0)), (1, .int p1), (2, .int p2)] := hl
  have L49 : ∀ (x : FSt) (s0 : Int32) (H : Heap) (locs : List Loc) (ls : Array Slot), fX7_points_49 k x s0  = some res → va_P D vwCl (W_F cI cV vf a x) H → va_D A (W_F cI cV vf a x) → va_S A s.heap H locs → lv_has ls 4 [] → W p l e ({ frames := 8, cells := 4, slots := 24, locals := 142 } : Room) s m ([.ref (a 0), .int p1, .int p2] : List Value).toArray below meth c H locs 3 18 (vx_MQ below (QR D (TY cI cV cJ cD) (W_F cI cV vf a x) A (rsF res)) (XR D (TY cI cV cJ cD) (W_F cI cV vf a x) A (rsF res)) (([.ref (a 0), .int p1, .int p2] : List Value).toArray) s 4 24 A) (F0 m 49 ls [.int s0]) := by
    intro x s0 H locs ls hf hP hD hS hl
    dsimp only [fX7_points_49] at hf
    obtain ⟨u1, hc2, hf⟩ := bind_t hf
    refine k_S (As := [.int s0]) (rest := []) (n := 1) ⟨hx, hb, hml, hown, hts⟩ (met_X7_floatOf l s0 u1 hc2) w762 w763 w1 w764 ⟨by decide +kernel, by decide +kernel, by decide +kernel⟩ ⟨Nat.le_of_ble_eq_true rfl, Nat.le_of_ble_eq_true rfl⟩ hK hE hP hD hS hA (isC := []) (isR := [0, 1, 2, 3, 4, 5, 6, 7, 8, 9, 10, 11, 12, 13, 14, 15, 16, 17, 18, 19, 20, 21, 22, 23]) (isB := [0, 1, 2, 3, 4, 5, 6, 7, 8, 9, 10, 11, 12, 13, 14, 15, 16, 17, 18, 19, 20, 21, 22, 23]) (ws' := W_F cI cV vf a x) ⟨([0, 1, 2, 3, 4, 5, 6, 7, 8, 9, 10, 11, 12, 13, 14, 15, 16, 17, 18, 19, 20, 21, 22, 23] : List Nat).filterMap (fun i : Nat => (W_F cI cV vf a x : va_W)[i]?), rfl, rfl, rfl, rfl, by decide, rfl, rfl⟩ rfl hl.1 rfl (Nat.le_of_ble_eq_true rfl) dX7_points_49 ⟨Nat.le_of_ble_eq_true rfl, Nat.le_of_ble_eq_true rfl⟩ (fun H locs hP hD hS => ?_)
    try dsimp only at hf
    refine W.eq (g2 := F0 m 52 ls [.float u1]) rfl ?_
    obtain rfl := Option.some.inj hf
    refine W.widen (k := 4) (n := 24) (Nat.le_of_ble_eq_true rfl) (Nat.le_of_ble_eq_true rfl) ?_
    refine vx_ret ?_
    exact W.fret (v := u1) hx hb hr (fun t ht hW => ⟨_, rfl, ⟨rfl, by rw [ht]; exact hP, va_K.moved hW.alike hK, hD, hS.F ht⟩⟩) hS.2.2 dX7_points_52 hlocks
  have M0 : ∀ (H : Heap) (locs : List Loc) (ls : Array Slot), fX7_points k x p1 p2 = some res → va_P D vwCl (W_F cI cV vf a x) H → va_D A (W_F cI cV vf a x) → va_S A s.heap H locs → lv_has ls 4 [(0, .ref (a 0)), (1, .int p1), (2, .int p2)] → W p l e ({ frames := 8, cells := 4, slots := 24, locals := 142 } : Room) s m ([.ref (a 0), .int p1, .int p2] : List Value).toArray below meth c H locs 0 0 (vx_MQ below (QR D (TY cI cV cJ cD) (W_F cI cV vf a x) A (rsF res)) (XR D (TY cI cV cJ cD) (W_F cI cV vf a x) A (rsF res)) (([.ref (a 0), .int p1, .int p2] : List Value).toArray) s 4 24 A) (F0 m 0 ls []) := by
    intro H locs ls hf hP hD hS hl
    dsimp only [fX7_points] at hf
    refine lv_iload_n hx hb dX7_points_0 rfl (lv_at hl 1 rfl) ?_
    obtain ⟨u3, hc4, hf⟩ := bind_t hf
    refine k_SX (As := [.int p1]) (rest := []) (n := 1) ⟨hx, hb, hml, hown, hts⟩ (met_X7_needKey l hlt p1 u3 hc4) w209 w210 w1 w211 ⟨by decide +kernel, by decide +kernel, by decide +kernel⟩ ⟨Nat.le_of_ble_eq_true rfl, Nat.le_of_ble_eq_true rfl⟩ hK hE hP hD hS hA (isC := []) (isR := [0, 1, 2, 3, 4, 5, 6, 7, 8, 9, 10, 11, 12, 13, 14, 15, 16, 17, 18, 19, 20, 21, 22, 23]) (isB := [0, 1, 2, 3, 4, 5, 6, 7, 8, 9, 10, 11, 12, 13, 14, 15, 16, 17, 18, 19, 20, 21, 22, 23]) (ws' := W_F cI cV vf a x) ⟨([0, 1, 2, 3, 4, 5, 6, 7, 8, 9, 10, 11, 12, 13, 14, 15, 16, 17, 18, 19, 20, 21, 22, 23] : List Nat).filterMap (fun i : Nat => (W_F cI cV vf a x : va_W)[i]?), rfl, rfl, rfl, rfl, by decide, rfl, rfl⟩ rfl hl.1 rfl (Nat.le_of_ble_eq_true rfl) dX7_points_1 ⟨Nat.le_of_ble_eq_true rfl, Nat.le_of_ble_eq_true rfl⟩ (fun E ce q9 H locs h7 hP hD hS hce hcv hcl => ?_) (fun rv9 H locs h7 hP hD hS => ?_)
    · obtain ⟨k5, hq9, hE9⟩ := rsV_x h7
      replace hf := thr_x hf hq9
      obtain rfl := Option.some.inj hf
      exact k_out htab hlocks hce hcv hcl (by rw [hE9]; rfl) hK hP hD hS (Nat.le_of_ble_eq_true rfl) (Nat.le_of_ble_eq_true rfl)
    obtain ⟨r6, hq9, rfl⟩ := rsV_v h7
    replace hf := thr_v hf hq9
    refine W.eq (g2 := F0 m 4 ls []) rfl ?_
    refine lv_iload_n hx hb dX7_points_4 rfl (lv_at hl 2 rfl) ?_
    obtain ⟨u8, hc9, hf⟩ := bind_t hf
    refine k_SX (As := [.int p2]) (rest := []) (n := 1) ⟨hx, hb, hml, hown, hts⟩ (met_X7_needValue l hlt p2 u8 hc9) w314 w315 w1 w316 ⟨by decide +kernel, by decide +kernel, by decide +kernel⟩ ⟨Nat.le_of_ble_eq_true rfl, Nat.le_of_ble_eq_true rfl⟩ hK hE hP hD hS hA (isC := []) (isR := [0, 1, 2, 3, 4, 5, 6, 7, 8, 9, 10, 11, 12, 13, 14, 15, 16, 17, 18, 19, 20, 21, 22, 23]) (isB := [0, 1, 2, 3, 4, 5, 6, 7, 8, 9, 10, 11, 12, 13, 14, 15, 16, 17, 18, 19, 20, 21, 22, 23]) (ws' := W_F cI cV vf a x) ⟨([0, 1, 2, 3, 4, 5, 6, 7, 8, 9, 10, 11, 12, 13, 14, 15, 16, 17, 18, 19, 20, 21, 22, 23] : List Nat).filterMap (fun i : Nat => (W_F cI cV vf a x : va_W)[i]?), rfl, rfl, rfl, rfl, by decide, rfl, rfl⟩ rfl hl.1 rfl (Nat.le_of_ble_eq_true rfl) dX7_points_5 ⟨Nat.le_of_ble_eq_true rfl, Nat.le_of_ble_eq_true rfl⟩ (fun E ce q9 H locs h12 hP hD hS hce hcv hcl => ?_) (fun rv9 H locs h12 hP hD hS => ?_)
    · obtain ⟨k10, hq9, hE9⟩ := rsV_x h12
      replace hf := thr_x hf hq9
      obtain rfl := Option.some.inj hf
      exact k_out htab hlocks hce hcv hcl (by rw [hE9]; rfl) hK hP hD hS (Nat.le_of_ble_eq_true rfl) (Nat.le_of_ble_eq_true rfl)
    obtain ⟨r11, hq9, rfl⟩ := rsV_v h12
    replace hf := thr_v hf hq9
    refine W.eq (g2 := F0 m 8 ls []) rfl ?_
    refine lv_aload_n hx hb dX7_points_8 rfl (lv_at hl 0 rfl) ?_
    refine lv_iload_n hx hb dX7_points_9 rfl (lv_at hl 1 rfl) ?_
    refine lv_iconst (v := 3) hx hb dX7_points_10 (by decide) ?_
    obtain ⟨u13, hc14, hf⟩ := bind_t hf
    refine k_VX (As := [.int p1, .int 3]) (rest := []) (n := 2) ⟨hx, hb, hml, hown, hts⟩ (met_X7_needType l hlt k vf a hvf x p1 3 u13 hc14) w373 w375 ws8 w1 w376 ⟨rfl, by decide +kernel, by decide +kernel, by decide +kernel⟩ ⟨Nat.le_of_ble_eq_true rfl, Nat.le_of_ble_eq_true rfl⟩ hK hE hP hD hS hA (isC := [0, 1, 2, 3, 4, 5, 6, 7, 8, 9, 10, 11, 12, 13, 14, 15, 16, 17, 18, 19, 20, 21, 22, 23]) (isR := []) (isB := [0, 1, 2, 3, 4, 5, 6, 7, 8, 9, 10, 11, 12, 13, 14, 15, 16, 17, 18, 19, 20, 21, 22, 23]) (ws' := W_F cI cV vf a x) ⟨([] : List Nat).filterMap (fun i : Nat => (W_F cI cV vf a x : va_W)[i]?), rfl, rfl, rfl, rfl, by decide, rfl, rfl⟩ 0 6 rfl rfl rfl rfl hl.1 rfl (Nat.le_of_ble_eq_true rfl) dX7_points_11 ⟨Nat.le_of_ble_eq_true rfl, Nat.le_of_ble_eq_true rfl⟩ (fun E ce q9 H locs h17 hP hD hS hce hcv hcl => ?_) (fun rv9 H locs h17 hP hD hS => ?_)
    · obtain ⟨k15, hq9, hE9⟩ := rsV_x h17
      replace hf := thr_x hf hq9
      obtain rfl := Option.some.inj hf
      exact k_out htab hlocks hce hcv hcl (by rw [hE9]; rfl) hK hP hD hS (Nat.le_of_ble_eq_true rfl) (Nat.le_of_ble_eq_true rfl)
    obtain ⟨r16, hq9, rfl⟩ := rsV_v h17
    replace hf := thr_v hf hq9
    refine W.eq (g2 := F0 m 14 ls []) rfl ?_
    refine lv_aload_n hx hb dX7_points_14 rfl (lv_at hl 0 rfl) ?_
    refine lv_iload_n hx hb dX7_points_15 rfl (lv_at hl 1 rfl) ?_
    refine lv_iload_n hx hb dX7_points_16 rfl (lv_at hl 2 rfl) ?_
    obtain ⟨u18, hc19, hf⟩ := bind_t hf
    refine k_V (As := [.int p1, .int p2]) (rest := []) (n := 2) ⟨hx, hb, hml, hown, hts⟩ (met_X7_placeIn l k vf a hvf x p1 p2 u18 hc19) w336 w338 ws4 w1 w339 ⟨rfl, by decide +kernel, by decide +kernel, by decide +kernel⟩ ⟨Nat.le_of_ble_eq_true rfl, Nat.le_of_ble_eq_true rfl⟩ hK hE hP hD hS hA (isC := [0, 1, 2, 3, 4, 5, 6, 7, 8, 9, 10, 11, 12, 13, 14, 15, 16, 17, 18, 19, 20, 21, 22, 23]) (isR := []) (isB := [0, 1, 2, 3, 4, 5, 6, 7, 8, 9, 10, 11, 12, 13, 14, 15, 16, 17, 18, 19, 20, 21, 22, 23]) (ws' := W_F cI cV vf a x) ⟨([] : List Nat).filterMap (fun i : Nat => (W_F cI cV vf a x : va_W)[i]?), rfl, rfl, rfl, rfl, by decide, rfl, rfl⟩ 0 6 rfl rfl rfl rfl hl.1 rfl (Nat.le_of_ble_eq_true rfl) dX7_points_17 ⟨Nat.le_of_ble_eq_true rfl, Nat.le_of_ble_eq_true rfl⟩ (fun H locs hP hD hS => ?_)
    try dsimp only at hf
    refine W.eq (g2 := F0 m 20 ls [.int u18]) rfl ?_
    refine lv_istore_n (lv' := [(3, .int u18), (0, .ref (a 0)), (1, .int p1), (2, .int p2)]) hx hb dX7_points_20 rfl hl (by decide) rfl (fun ls hl => ?_)
    refine lv_iload_n hx hb dX7_points_21 rfl (lv_at hl 0 rfl) ?_
    refine lv_iconst (v := (-1)) hx hb dX7_points_22 (by decide) ?_
    refine lv_icmp_ne (tgt := 36) hx hb dX7_points_23 (by decide) (fun c20 => ?_) (fun c20 => ?_)
    · replace hf := if_f c20 hf
      refine lv_aload_n hx hb dX7_points_36 rfl (lv_at hl 1 rfl) ?_
      refine va_get (D := D) (ci := 6) (v := .ref (a 1)) (C := RX7) (T := TX7) (N := 8) hx hb hg in_X7 hown hK hP 0 rfl rfl 0 (by decide) (hg _ w167) (fun _ h9 => h9) rfl dX7_points_37 ?_
      refine lv_iload_n hx hb dX7_points_40 rfl (lv_at hl 2 rfl) ?_
      obtain ⟨hi21, hf⟩ := chk_t hf
      refine va_aldq hx hb hK hP 1 1 rfl rfl (keyok_i hi21) dX7_points_41 ?_
      refine W.eq (g2 := F0 m 42 ls [.ref (a 6)]) (by rw [keyok_k hi21, hvf]; rfl) ?_
      refine va_getN (D := D) (ci := 5) (v := .ref (a (6 + (vlFm (fV x))))) (C := RX6) (T := TX6) (N := 10) hx hb hg in_X6 hown hK hP 6 rfl rfl 9 (by decide) (nwF_148 hE.1) (fun _ h9 => h9) rfl dX7_points_42 ?_
      refine lv_iload_n hx hb dX7_points_45 rfl (lv_at hl 0 rfl) ?_
      rcases sel_t hf with ⟨hq22, hf⟩ | ⟨hq22, hf⟩ | ⟨hq22, hf⟩
      · rw [hq22]
        obtain ⟨u23, hc24, hf⟩ := bind_t hf
        refine k_U (owner := "Compactforms$Form") (x := ⟨"Compactforms$Form", "bitsAt", "(I)I"⟩) (As := [.int u18]) (rest := []) (n := 1) ⟨hx, hb, hml, hown, hts⟩ (met_X4_bitsAt l 16 (fun j => a (7 + j)) (vlSm (fV x)) u18 u23 hc24) w752 w754 w758 w458 w5 w460 (hE.1.2.2.1 _ (List.mem_append_left _ (List.mem_of_getElem? (i := 5) rfl))) ⟨by decide +kernel, by decide +kernel, by decide +kernel⟩ ⟨Nat.le_of_ble_eq_true rfl, Nat.le_of_ble_eq_true rfl⟩ hK hE hP hD hS hA (isC := [7, 8, 9]) (isR := [0, 1, 2, 3, 4, 5, 6, 10, 11, 12, 13, 14, 15, 16, 17, 18, 19, 20, 21, 22, 23]) (isB := [0, 1, 2, 3, 4, 5, 6, 21, 22, 23, 7, 8, 9, 10, 11, 12, 13, 14, 15, 16, 17, 18, 19, 20]) (ws' := W_F cI cV vf a x) ⟨([0, 1, 2, 3, 4, 5, 6, 10, 11, 12, 13, 14, 15, 16, 17, 18, 19, 20, 21, 22, 23] : List Nat).filterMap (fun i : Nat => (W_F cI cV vf a x : va_W)[i]?), rfl, rfl, rfl, rfl, by decide, rfl, rfl⟩ 7 3 rfl rfl rfl rfl hl.1 rfl (Nat.le_of_ble_eq_true rfl) dX7_points_46 ⟨Nat.le_of_ble_eq_true rfl, Nat.le_of_ble_eq_true rfl⟩ (fun H locs hP hD hS => ?_)
        try dsimp only at hf
        refine W.eq (g2 := F0 m 49 ls [.int u23]) rfl ?_
        exact L49 x u23 H locs ls hf hP hD hS (lv_sub hl [] rfl)
      · rw [hq22]
        obtain ⟨u25, hc26, hf⟩ := bind_t hf
        refine k_U (owner := "Compactforms$Form") (x := ⟨"Compactforms$Form", "bitsAt", "(I)I"⟩) (As := [.int u18]) (rest := []) (n := 1) ⟨hx, hb, hml, hown, hts⟩ (met_X0_bitsAt l (fun j => a (10 + j)) (vlCh (fV x)) u18 u25 hc26) w752 w754 w755 w756 w6 w757 (hE.1.2.2.1 _ (List.mem_append_left _ (List.mem_of_getElem? (i := 5) rfl))) ⟨by decide +kernel, by decide +kernel, by decide +kernel⟩ ⟨Nat.le_of_ble_eq_true rfl, Nat.le_of_ble_eq_true rfl⟩ hK hE hP hD hS hA (isC := [10, 11, 12, 13]) (isR := [0, 1, 2, 3, 4, 5, 6, 7, 8, 9, 14, 15, 16, 17, 18, 19, 20, 21, 22, 23]) (isB := [0, 1, 2, 3, 4, 5, 6, 7, 8, 9, 20, 21, 22, 23, 10, 11, 12, 13, 14, 15, 16, 17, 18, 19]) (ws' := W_F cI cV vf a x) ⟨([0, 1, 2, 3, 4, 5, 6, 7, 8, 9, 14, 15, 16, 17, 18, 19, 20, 21, 22, 23] : List Nat).filterMap (fun i : Nat => (W_F cI cV vf a x : va_W)[i]?), rfl, rfl, rfl, rfl, by decide, rfl, rfl⟩ 10 0 rfl rfl rfl rfl hl.1 rfl (Nat.le_of_ble_eq_true rfl) dX7_points_46 ⟨Nat.le_of_ble_eq_true rfl, Nat.le_of_ble_eq_true rfl⟩ (fun H locs hP hD hS => ?_)
        try dsimp only at hf
        refine W.eq (g2 := F0 m 49 ls [.int u25]) rfl ?_
        exact L49 x u25 H locs ls hf hP hD hS (lv_sub hl [] rfl)
      · rw [hq22]
        obtain ⟨u27, hc28, hf⟩ := bind_t hf
        refine k_U (owner := "Compactforms$Form") (x := ⟨"Compactforms$Form", "bitsAt", "(I)I"⟩) (As := [.int u18]) (rest := []) (n := 1) ⟨hx, hb, hml, hown, hts⟩ (met_X5_bitsAt l (fun j => a (14 + j)) (vlTb (fV x)) u18 u27 hc28) w752 w754 w759 w760 w7 w761 (hE.1.2.2.1 _ (List.mem_append_left _ (List.mem_of_getElem? (i := 5) rfl))) ⟨by decide +kernel, by decide +kernel, by decide +kernel⟩ ⟨Nat.le_of_ble_eq_true rfl, Nat.le_of_ble_eq_true rfl⟩ hK hE hP hD hS hA (isC := [14, 15, 16, 17]) (isR := [0, 1, 2, 3, 4, 5, 6, 7, 8, 9, 10, 11, 12, 13, 18, 19, 20, 21, 22, 23]) (isB := [0, 1, 2, 3, 4, 5, 6, 7, 8, 9, 10, 11, 12, 13, 20, 21, 22, 23, 14, 15, 16, 17, 18, 19]) (ws' := W_F cI cV vf a x) ⟨([0, 1, 2, 3, 4, 5, 6, 7, 8, 9, 10, 11, 12, 13, 18, 19, 20, 21, 22, 23] : List Nat).filterMap (fun i : Nat => (W_F cI cV vf a x : va_W)[i]?), rfl, rfl, rfl, rfl, by decide, rfl, rfl⟩ 14 4 rfl rfl rfl rfl hl.1 rfl (Nat.le_of_ble_eq_true rfl) dX7_points_46 ⟨Nat.le_of_ble_eq_true rfl, Nat.le_of_ble_eq_true rfl⟩ (fun H locs hP hD hS => ?_)
        try dsimp only at hf
        refine W.eq (g2 := F0 m 49 ls [.int u27]) rfl ?_
        exact L49 x u27 H locs ls hf hP hD hS (lv_sub hl [] rfl)
    · replace hf := if_t c20 hf
      obtain rfl := Option.some.inj hf
      exact k_throw hx hb hlt (own := RX7) (text := "no member") hown (by decide +kernel) htab hlocks (hg _ w377) (hg _ w14) (hE.1.2.2.2.1 _ (List.mem_of_getElem? (i := 11) rfl)) (thr_at114 hg hE.1) thr_ok114_110 hE (by rw [hml]; exact hl.1) dX7_points_26 dX7_points_29 dX7_points_30 dX7_points_32 dX7_points_35 (Nat.le_of_ble_eq_true rfl) (Nat.le_of_ble_eq_true rfl) (Nat.le_of_ble_eq_true rfl) (Nat.le_of_ble_eq_true rfl) rfl hK hP hD hS (Nat.le_of_ble_eq_true rfl) (Nat.le_of_ble_eq_true rfl)
  exact M0 s.heap [] ls hf hP hD hS hl
/-! Compactforms.next(II)I -/
def fX7_next (k : Nat) (x : FSt) (p1 : Int32) (p2 : Int32) : Option ((Int32 ⊕ Nat)) := (fX7_needKey p1).bind (fun u1 => thr u1 (fun k3 => some (.inr k3)) (fun r4 => (fX7_needWithin p2 0 1023).bind (fun u6 => thr u6 (fun k8 => some (.inr k8)) (fun r9 => (fX7_needType k x p1 2).bind (fun u11 => thr u11 (fun k13 => some (.inr k13)) (fun r14 => chk (keyok p1 k) ((fX6_isSmall (fV x)).bind (fun u17 => (if u17 = 0 then chk (keyok p1 k) ((fX5_cursorBehind (vlTb (fV x)) p2).bind (fun u21 => some (.inl u21))) else some (.inl 0))))))))))
set_option maxHeartbeats 4000000 in
set_option maxRecDepth 100000 in
theorem met_X7_next {D : va_G} {cI cV cJ cD : ClassId} (l : Launch) (hlt : l.stackTraces = false) (k : Nat) (vf : Nat → Option Nat) (a : Nat → Nat) (hvf : vf k = some (a 6)) (x : FSt) (p1 : Int32) (p2 : Int32) (res : (Int32 ⊕ Nat)) (hf : fX7_next k x p1 p2 = some res) : MX l yX7_next cX7_next 3 (some .int) { frames := 7, cells := 3, slots := 18, locals := 122 } D (TY cI cV cJ cD) (W_F cI cV vf a x) (W_F cI cV vf a x) [.ref (a 0), .int p1, .int p2] (rsI res) := by
  intro sz
  refine vx_ofW (cc := cX7_next) (maxL := 3) (ret := (some .int)) (by decide +kernel) rfl ?_
  intro p e s m args below meth c s₁ B hml htab hv
  obtain ⟨rfl, hsz, hP, hK, hD0, hE⟩ := hv
  have hx := B.exec
  have hb := B.bytes
  have hr := B.returns
  have hts := atoms_spec (ws := .code yX7_next cX7_next 3 (some .int) :: GW) B.pre
  have hg : ∀ w ∈ GW, w.before (([.ref (a 0), .int p1, .int p2] : List Value).toArray) s = true := fun w h => hts w (List.mem_cons_of_mem _ h)
  have hown : s.vm.findClass RX7 = some m.cls := findClass_of_methodNamed B.named
  have hlocks := B.notSynchronized
  subst hsz
  have hD := hD0.self (sz := s.heap.size)
  generalize hAe : va_A (W_F cI cV vf a x) s.heap.size = A at hD hE ⊢
  have hA : ∀ q : Nat, s.heap.size ≤ q → A q := fun q h => by rw [← hAe]; exact Or.inr h
  have hS : va_S A s.heap s.heap [] := va_S.rf
  have hl := lv_entry ([.ref (a 0), .int p1, .int p2]) (n := 3) (Nat.le_of_ble_eq_true rfl)
  rw [lg_entry_eq]
  generalize (lg_sl ([.ref (a 0), .int p1, .int p2]) ++ List.replicate (3 - (lg_sl ([.ref (a 0), .int p1, .int p2])).length) Slot.unset).toArray = ls at hl ⊢
  have hl : lv_has ls 3 [(0, .ref (a 0)), (1, .int p1), (2, .int p2)] := hl
  have M0 : ∀ (H : Heap) (locs : List Loc) (ls : Array Slot), fX7_next k x p1 p2 = some res → va_P D vwCl (W_F cI cV vf a x) H → va_D A (W_F cI cV vf a x) → va_S A s.heap H locs → lv_has ls 3 [(0, .ref (a 0)), (1, .int p1), (2, .int p2)] → W p l e ({ frames := 7, cells := 3, slots := 18, locals := 122 } : Room) s m ([.ref (a 0), .int p1, .int p2] : List Value).toArray below meth c H locs 0 0 (vx_MQ below (QR D (TY cI cV cJ cD) (W_F cI cV vf a x) A (rsI res)) (XR D (TY cI cV cJ cD) (W_F cI cV vf a x) A (rsI res)) (([.ref (a 0), .int p1, .int p2] : List Value).toArray) s 3 18 A) (F0 m 0 ls []) := by
    intro H locs ls hf hP hD hS hl
    dsimp only [fX7_next] at hf
    refine lv_iload_n hx hb dX7_next_0 rfl (lv_at hl 1 rfl) ?_
    obtain ⟨u1, hc2, hf⟩ := bind_t hf
    refine k_SX (As := [.int p1]) (rest := []) (n := 1) ⟨hx, hb, hml, hown, hts⟩ (met_X7_needKey l hlt p1 u1 hc2) w209 w210 w1 w211 ⟨by decide +kernel, by decide +kernel, by decide +kernel⟩ ⟨Nat.le_of_ble_eq_true rfl, Nat.le_of_ble_eq_true rfl⟩ hK hE hP hD hS hA (isC := []) (isR := [0, 1, 2, 3, 4, 5, 6, 7, 8, 9, 10, 11, 12, 13, 14, 15, 16, 17, 18, 19, 20, 21, 22, 23]) (isB := [0, 1, 2, 3, 4, 5, 6, 7, 8, 9, 10, 11, 12, 13, 14, 15, 16, 17, 18, 19, 20, 21, 22, 23]) (ws' := W_F cI cV vf a x) ⟨([0, 1, 2, 3, 4, 5, 6, 7, 8, 9, 10, 11, 12, 13, 14, 15, 16, 17, 18, 19, 20, 21, 22, 23] : List Nat).filterMap (fun i : Nat => (W_F cI cV vf a x : va_W)[i]?), rfl, rfl, rfl, rfl, by decide, rfl, rfl⟩ rfl hl.1 rfl (Nat.le_of_ble_eq_true rfl) dX7_next_1 ⟨Nat.le_of_ble_eq_true rfl, Nat.le_of_ble_eq_true rfl⟩ (fun E ce q9 H locs h5 hP hD hS hce hcv hcl => ?_) (fun rv9 H locs h5 hP hD hS => ?_)
    · obtain ⟨k3, hq9, hE9⟩ := rsV_x h5
      replace hf := thr_x hf hq9
      obtain rfl := Option.some.inj hf
      exact k_out htab hlocks hce hcv hcl (by rw [hE9]; rfl) hK hP hD hS (Nat.le_of_ble_eq_true rfl) (Nat.le_of_ble_eq_true rfl)
    obtain ⟨r4, hq9, rfl⟩ := rsV_v h5
    replace hf := thr_v hf hq9
    refine W.eq (g2 := F0 m 4 ls []) rfl ?_
    refine lv_iload_n hx hb dX7_next_4 rfl (lv_at hl 2 rfl) ?_
    refine lv_iconst (v := 0) hx hb dX7_next_5 (by decide) ?_
    refine lv_sipush (v := 1023) hx hb dX7_next_6 (by decide) ?_
    obtain ⟨u6, hc7, hf⟩ := bind_t hf
    refine k_SX (As := [.int p2, .int 0, .int 1023]) (rest := []) (n := 3) ⟨hx, hb, hml, hown, hts⟩ (met_X7_needWithin l hlt p2 0 1023 u6 hc7) w317 w318 w1 w319 ⟨by decide +kernel, by decide +kernel, by decide +kernel⟩ ⟨Nat.le_of_ble_eq_true rfl, Nat.le_of_ble_eq_true rfl⟩ hK hE hP hD hS hA (isC := []) (isR := [0, 1, 2, 3, 4, 5, 6, 7, 8, 9, 10, 11, 12, 13, 14, 15, 16, 17, 18, 19, 20, 21, 22, 23]) (isB := [0, 1, 2, 3, 4, 5, 6, 7, 8, 9, 10, 11, 12, 13, 14, 15, 16, 17, 18, 19, 20, 21, 22, 23]) (ws' := W_F cI cV vf a x) ⟨([0, 1, 2, 3, 4, 5, 6, 7, 8, 9, 10, 11, 12, 13, 14, 15, 16, 17, 18, 19, 20, 21, 22, 23] : List Nat).filterMap (fun i : Nat => (W_F cI cV vf a x : va_W)[i]?), rfl, rfl, rfl, rfl, by decide, rfl, rfl⟩ rfl hl.1 rfl (Nat.le_of_ble_eq_true rfl) dX7_next_9 ⟨Nat.le_of_ble_eq_true rfl, Nat.le_of_ble_eq_true rfl⟩ (fun E ce q9 H locs h10 hP hD hS hce hcv hcl => ?_) (fun rv9 H locs h10 hP hD hS => ?_)
    · obtain ⟨k8, hq9, hE9⟩ := rsV_x h10
      replace hf := thr_x hf hq9
      obtain rfl := Option.some.inj hf
      exact k_out htab hlocks hce hcv hcl (by rw [hE9]; rfl) hK hP hD hS (Nat.le_of_ble_eq_true rfl) (Nat.le_of_ble_eq_true rfl)
    obtain ⟨r9, hq9, rfl⟩ := rsV_v h10
    replace hf := thr_v hf hq9
    refine W.eq (g2 := F0 m 12 ls []) rfl ?_
    refine lv_aload_n hx hb dX7_next_12 rfl (lv_at hl 0 rfl) ?_
    refine lv_iload_n hx hb dX7_next_13 rfl (lv_at hl 1 rfl) ?_
    refine lv_iconst (v := 2) hx hb dX7_next_14 (by decide) ?_
    obtain ⟨u11, hc12, hf⟩ := bind_t hf
    refine k_VX (As := [.int p1, .int 2]) (rest := []) (n := 2) ⟨hx, hb, hml, hown, hts⟩ (met_X7_needType l hlt k vf a hvf x p1 2 u11 hc12) w373 w375 ws8 w1 w376 ⟨rfl, by decide +kernel, by decide +kernel, by decide +kernel⟩ ⟨Nat.le_of_ble_eq_true rfl, Nat.le_of_ble_eq_true rfl⟩ hK hE hP hD hS hA (isC := [0, 1, 2, 3, 4, 5, 6, 7, 8, 9, 10, 11, 12, 13, 14, 15, 16, 17, 18, 19, 20, 21, 22, 23]) (isR := []) (isB := [0, 1, 2, 3, 4, 5, 6, 7, 8, 9, 10, 11, 12, 13, 14, 15, 16, 17, 18, 19, 20, 21, 22, 23]) (ws' := W_F cI cV vf a x) ⟨([] : List Nat).filterMap (fun i : Nat => (W_F cI cV vf a x : va_W)[i]?), rfl, rfl, rfl, rfl, by decide, rfl, rfl⟩ 0 6 rfl rfl rfl rfl hl.1 rfl (Nat.le_of_ble_eq_true rfl) dX7_next_15 ⟨Nat.le_of_ble_eq_true rfl, Nat.le_of_ble_eq_true rfl⟩ (fun E ce q9 H locs h15 hP hD hS hce hcv hcl => ?_) (fun rv9 H locs h15 hP hD hS => ?_)
    · obtain ⟨k13, hq9, hE9⟩ := rsV_x h15
      replace hf := thr_x hf hq9
      obtain rfl := Option.some.inj hf
      exact k_out htab hlocks hce hcv hcl (by rw [hE9]; rfl) hK hP hD hS (Nat.le_of_ble_eq_true rfl) (Nat.le_of_ble_eq_true rfl)
    obtain ⟨r14, hq9, rfl⟩ := rsV_v h15
    replace hf := thr_v hf hq9
    refine W.eq (g2 := F0 m 18 ls []) rfl ?_
    refine lv_aload_n hx hb dX7_next_18 rfl (lv_at hl 0 rfl) ?_
    refine va_get (D := D) (ci := 6) (v := .ref (a 1)) (C := RX7) (T := TX7) (N := 8) hx hb hg in_X7 hown hK hP 0 rfl rfl 0 (by decide) (hg _ w167) (fun _ h9 => h9) rfl dX7_next_19 ?_
    refine lv_iload_n hx hb dX7_next_22 rfl (lv_at hl 1 rfl) ?_
    obtain ⟨hi16, hf⟩ := chk_t hf
    refine va_aldq hx hb hK hP 1 1 rfl rfl (keyok_i hi16) dX7_next_23 ?_
    refine W.eq (g2 := F0 m 24 ls [.ref (a 6)]) (by rw [keyok_k hi16, hvf]; rfl) ?_
    obtain ⟨u17, hc18, hf⟩ := bind_t hf
    refine k_V (As := []) (rest := []) (n := 0) ⟨hx, hb, hml, hown, hts⟩ (met_X6_isSmall l (fun j => a (6 + j)) (fV x) u17 hc18) w649 w650 w651 w3 w652 ⟨rfl, by decide +kernel, by decide +kernel, by decide +kernel⟩ ⟨Nat.le_of_ble_eq_true rfl, Nat.le_of_ble_eq_true rfl⟩ hK hE hP hD hS hA (isC := [6, 7, 8, 9, 10, 11, 12, 13, 14, 15, 16, 17, 18, 19, 20, 21, 22, 23]) (isR := [0, 1, 2, 3, 4, 5]) (isB := [0, 1, 2, 3, 4, 5, 6, 7, 8, 9, 10, 11, 12, 13, 14, 15, 16, 17, 18, 19, 20, 21, 22, 23]) (ws' := W_F cI cV vf a x) ⟨([0, 1, 2, 3, 4, 5] : List Nat).filterMap (fun i : Nat => (W_F cI cV vf a x : va_W)[i]?), rfl, rfl, rfl, rfl, by decide, rfl, rfl⟩ 6 5 rfl rfl rfl rfl hl.1 rfl (Nat.le_of_ble_eq_true rfl) dX7_next_24 ⟨Nat.le_of_ble_eq_true rfl, Nat.le_of_ble_eq_true rfl⟩ (fun H locs hP hD hS => ?_)
    try dsimp only at hf
    refine W.eq (g2 := F0 m 27 ls [.int u17]) rfl ?_
    refine lv_if_eq (tgt := 34) hx hb dX7_next_27 (by decide) (fun c19 => ?_) (fun c19 => ?_)
    · replace hf := if_t c19 hf
      refine lv_aload_n hx hb dX7_next_34 rfl (lv_at hl 0 rfl) ?_
      refine va_get (D := D) (ci := 6) (v := .ref (a 1)) (C := RX7) (T := TX7) (N := 8) hx hb hg in_X7 hown hK hP 0 rfl rfl 0 (by decide) (hg _ w167) (fun _ h9 => h9) rfl dX7_next_35 ?_
      refine lv_iload_n hx hb dX7_next_38 rfl (lv_at hl 1 rfl) ?_
      obtain ⟨hi20, hf⟩ := chk_t hf
      refine va_aldq hx hb hK hP 1 1 rfl rfl (keyok_i hi20) dX7_next_39 ?_
      refine W.eq (g2 := F0 m 40 ls [.ref (a 6)]) (by rw [keyok_k hi20, hvf]; rfl) ?_
      refine va_getN (D := D) (ci := 5) (v := .ref (a 14)) (C := RX6) (T := TX6) (N := 10) hx hb hg in_X6 hown hK hP 6 rfl rfl 6 (by decide) (nwF_173 hE.1) (fun _ h9 => h9) rfl dX7_next_40 ?_
      refine lv_iload_n hx hb dX7_next_43 rfl (lv_at hl 2 rfl) ?_
      obtain ⟨u21, hc22, hf⟩ := bind_t hf
      refine k_V (As := [.int p2]) (rest := []) (n := 1) ⟨hx, hb, hml, hown, hts⟩ (met_X5_cursorBehind l (fun j => a (14 + j)) (vlTb (fV x)) p2 u21 hc22) w653 w654 w655 w7 w656 ⟨rfl, by decide +kernel, by decide +kernel, by decide +kernel⟩ ⟨Nat.le_of_ble_eq_true rfl, Nat.le_of_ble_eq_true rfl⟩ hK hE hP hD hS hA (isC := [14, 15, 16, 17]) (isR := [0, 1, 2, 3, 4, 5, 6, 7, 8, 9, 10, 11, 12, 13, 18, 19, 20, 21, 22, 23]) (isB := [0, 1, 2, 3, 4, 5, 6, 7, 8, 9, 10, 11, 12, 13, 20, 21, 22, 23, 14, 15, 16, 17, 18, 19]) (ws' := W_F cI cV vf a x) ⟨([0, 1, 2, 3, 4, 5, 6, 7, 8, 9, 10, 11, 12, 13, 18, 19, 20, 21, 22, 23] : List Nat).filterMap (fun i : Nat => (W_F cI cV vf a x : va_W)[i]?), rfl, rfl, rfl, rfl, by decide, rfl, rfl⟩ 14 4 rfl rfl rfl rfl hl.1 rfl (Nat.le_of_ble_eq_true rfl) dX7_next_44 ⟨Nat.le_of_ble_eq_true rfl, Nat.le_of_ble_eq_true rfl⟩ (fun H locs hP hD hS => ?_)
      try dsimp only at hf
      refine W.eq (g2 := F0 m 47 ls [.int u21]) rfl ?_
      obtain rfl := Option.some.inj hf
      refine vx_ret ?_
      exact W.iret (v := u21) hx hb hr (fun t ht hW => ⟨_, rfl, ⟨rfl, by rw [ht]; exact hP, va_K.moved hW.alike hK, hD, hS.F ht⟩⟩) hS.2.2 dX7_next_47 hlocks
    · replace hf := if_f c19 hf
      refine lv_iconst (v := 0) hx hb dX7_next_30 (by decide) ?_
      refine lv_goto (tgt := 47) hx hb dX7_next_31 (by decide) ?_
      obtain rfl := Option.some.inj hf
      refine vx_ret ?_
      exact W.iret (v := 0) hx hb hr (fun t ht hW => ⟨_, rfl, ⟨rfl, by rw [ht]; exact hP, va_K.moved hW.alike hK, hD, hS.F ht⟩⟩) hS.2.2 dX7_next_47 hlocks
  exact M0 s.heap [] ls hf hP hD hS hl
/-! Compactforms.scanned(III)I -/
def fX7_scanned (k : Nat) (x : FSt) (p1 : Int32) (p2 : Int32) (p3 : Int32) : Option ((Int32 ⊕ Nat)) := (fX7_needKey p1).bind (fun u1 => thr u1 (fun k3 => some (.inr k3)) (fun r4 => (fX7_needWithin p2 0 1023).bind (fun u6 => thr u6 (fun k8 => some (.inr k8)) (fun r9 => (fX7_needType k x p1 2).bind (fun u11 => thr u11 (fun k13 => some (.inr k13)) (fun r14 => chk (keyok p1 k) ((fX6_isSmall (fV x)).bind (fun u17 => (if u17 = 0 then (fX5_memberOfBucket (vlTb (fV x)) p2 p3).bind (fun u20 => some (.inl u20)) else sel (vlFm (fV x)) ((fX4_valueAt 16 (vlSm (fV x)) p3).bind (fun u23 => some (.inl u23))) ((fX0_valueAt (vlCh (fV x)) p3).bind (fun u25 => some (.inl u25))) ((fX5_valueAt (vlTb (fV x)) p3).bind (fun u27 => some (.inl u27))))))))))))
set_option maxHeartbeats 4000000 in
set_option maxRecDepth 100000 in
theorem met_X7_scanned {D : va_G} {cI cV cJ cD : ClassId} (l : Launch) (hlt : l.stackTraces = false) (k : Nat) (vf : Nat → Option Nat) (a : Nat → Nat) (hvf : vf k = some (a 6)) (x : FSt) (p1 : Int32) (p2 : Int32) (p3 : Int32) (res : (Int32 ⊕ Nat)) (hf : fX7_scanned k x p1 p2 p3 = some res) : MX l yX7_scanned cX7_scanned 5 (some .int) { frames := 7, cells := 3, slots := 18, locals := 122 } D (TY cI cV cJ cD) (W_F cI cV vf a x) (W_F cI cV vf a x) [.ref (a 0), .int p1, .int p2, .int p3] (rsI res) := by
  intro sz
  refine vx_ofW (cc := cX7_scanned) (maxL := 5) (ret := (some .int)) (by decide +kernel) rfl ?_
  intro p e s m args below meth c s₁ B hml htab hv
  obtain ⟨rfl, hsz, hP, hK, hD0, hE⟩ := hv
  have hx := B.exec
  have hb := B.bytes
  have hr := B.returns
  have hts := atoms_spec (ws := .code yX7_scanned cX7_scanned 5 (some .int) :: GW) B.pre
  have hg : ∀ w ∈ GW, w.before (([.ref (a 0), .int p1, .int p2, .int p3] : List Value).toArray) s = true := fun w h => hts w (List.mem_cons_of_mem _ h)
  have hown : s.vm.findClass RX7 = some m.cls := findClass_of_methodNamed B.named
  have hlocks := B.notSynchronized
  subst hsz
  have hD := hD0.self (sz := s.heap.size)
  generalize hAe : va_A (W_F cI cV vf a x) s.heap.size = A at hD hE ⊢
  have hA : ∀ q : Nat, s.heap.size ≤ q → A q := fun q h => by rw [← hAe]; exact Or.inr h
  have hS : va_S A s.heap s.heap [] := va_S.rf
  have hl := lv_entry ([.ref (a 0), .int p1, .int p2, .int p3]) (n := 5) (Nat.le_of_ble_eq_true rfl)
  rw [lg_entry_eq]
  generalize (lg_sl ([.ref (a 0), .int p1, .int p2, .int p3]) ++ List.replicate (5 - (lg_sl ([.ref (a 0), .int p1, .int p2, .int p3])).length) Slot.unset).toArray = ls at hl ⊢
  have hl : lv_has ls 5 [(0, .ref (a 0)), (1, .int p1), (2, .int p2), (3, .int p3)] := hl
  have M0 : ∀ (H : Heap) (locs : List Loc) (ls : Array Slot), fX7_scanned k x p1 p2 p3 = some res → va_P D vwCl (W_F cI cV vf a x) H → va_D A (W_F cI cV vf a x) → va_S A s.heap H locs → lv_has ls 5 [(0, .ref (a 0)), (1, .int p1), (2, .int p2), (3, .int p3)] → W p l e ({ frames := 7, cells := 3, slots := 18, locals := 122 } : Room) s m ([.ref (a 0), .int p1, .int p2, .int p3] : List Value).toArray below meth c H locs 0 0 (vx_MQ below (QR D (TY cI cV cJ cD) (W_F cI cV vf a x) A (rsI res)) (XR D (TY cI cV cJ cD) (W_F cI cV vf a x) A (rsI res)) (([.ref (a 0), .int p1, .int p2, .int p3] : List Value).toArray) s 3 18 A) (F0 m 0 ls []) := by
    intro H locs ls hf hP hD hS hl
    dsimp only [fX7_scanned] at hf
    refine lv_iload_n hx hb dX7_scanned_0 rfl (lv_at hl 1 rfl) ?_
    obtain ⟨u1, hc2, hf⟩ := bind_t hf
    refine k_SX (As := [.int p1]) (rest := []) (n := 1) ⟨hx, hb, hml, hown, hts⟩ (met_X7_needKey l hlt p1 u1 hc2) w209 w210 w1 w211 ⟨by decide +kernel, by decide +kernel, by decide +kernel⟩ ⟨Nat.le_of_ble_eq_true rfl, Nat.le_of_ble_eq_true rfl⟩ hK hE hP hD hS hA (isC := []) (isR := [0, 1, 2, 3, 4, 5, 6, 7, 8, 9, 10, 11, 12, 13, 14, 15, 16, 17, 18, 19, 20, 21, 22, 23]) (isB := [0, 1, 2, 3, 4, 5, 6, 7, 8, 9, 10, 11, 12, 13, 14, 15, 16, 17, 18, 19, 20, 21, 22, 23]) (ws' := W_F cI cV vf a x) ⟨([0, 1, 2, 3, 4, 5, 6, 7, 8, 9, 10, 11, 12, 13, 14, 15, 16, 17, 18, 19, 20, 21, 22, 23] : List Nat).filterMap (fun i : Nat => (W_F cI cV vf a x : va_W)[i]?), rfl, rfl, rfl, rfl, by decide, rfl, rfl⟩ rfl hl.1 rfl (Nat.le_of_ble_eq_true rfl) dX7_scanned_1 ⟨Nat.le_of_ble_eq_true rfl, Nat.le_of_ble_eq_true rfl⟩ (fun E ce q9 H locs h5 hP hD hS hce hcv hcl => ?_) (fun rv9 H locs h5 hP hD hS => ?_)
    · obtain ⟨k3, hq9, hE9⟩ := rsV_x h5
      replace hf := thr_x hf hq9
      obtain rfl := Option.some.inj hf
      exact k_out htab hlocks hce hcv hcl (by rw [hE9]; rfl) hK hP hD hS (Nat.le_of_ble_eq_true rfl) (Nat.le_of_ble_eq_true rfl)
    obtain ⟨r4, hq9, rfl⟩ := rsV_v h5
    replace hf := thr_v hf hq9
    refine W.eq (g2 := F0 m 4 ls []) rfl ?_
    refine lv_iload_n hx hb dX7_scanned_4 rfl (lv_at hl 2 rfl) ?_
    refine lv_iconst (v := 0) hx hb dX7_scanned_5 (by decide) ?_
    refine lv_sipush (v := 1023) hx hb dX7_scanned_6 (by decide) ?_
    obtain ⟨u6, hc7, hf⟩ := bind_t hf
    refine k_SX (As := [.int p2, .int 0, .int 1023]) (rest := []) (n := 3) ⟨hx, hb, hml, hown, hts⟩ (met_X7_needWithin l hlt p2 0 1023 u6 hc7) w317 w318 w1 w319 ⟨by decide +kernel, by decide +kernel, by decide +kernel⟩ ⟨Nat.le_of_ble_eq_true rfl, Nat.le_of_ble_eq_true rfl⟩ hK hE hP hD hS hA (isC := []) (isR := [0, 1, 2, 3, 4, 5, 6, 7, 8, 9, 10, 11, 12, 13, 14, 15, 16, 17, 18, 19, 20, 21, 22, 23]) (isB := [0, 1, 2, 3, 4, 5, 6, 7, 8, 9, 10, 11, 12, 13, 14, 15, 16, 17, 18, 19, 20, 21, 22, 23]) (ws' := W_F cI cV vf a x) ⟨([0, 1, 2, 3, 4, 5, 6, 7, 8, 9, 10, 11, 12, 13, 14, 15, 16, 17, 18, 19, 20, 21, 22, 23] : List Nat).filterMap (fun i : Nat => (W_F cI cV vf a x : va_W)[i]?), rfl, rfl, rfl, rfl, by decide, rfl, rfl⟩ rfl hl.1 rfl (Nat.le_of_ble_eq_true rfl) dX7_scanned_9 ⟨Nat.le_of_ble_eq_true rfl, Nat.le_of_ble_eq_true rfl⟩ (fun E ce q9 H locs h10 hP hD hS hce hcv hcl => ?_) (fun rv9 H locs h10 hP hD hS => ?_)
    · obtain ⟨k8, hq9, hE9⟩ := rsV_x h10
      replace hf := thr_x hf hq9
      obtain rfl := Option.some.inj hf
      exact k_out htab hlocks hce hcv hcl (by rw [hE9]; rfl) hK hP hD hS (Nat.le_of_ble_eq_true rfl) (Nat.le_of_ble_eq_true rfl)
    obtain ⟨r9, hq9, rfl⟩ := rsV_v h10
    replace hf := thr_v hf hq9
    refine W.eq (g2 := F0 m 12 ls []) rfl ?_
    refine lv_aload_n hx hb dX7_scanned_12 rfl (lv_at hl 0 rfl) ?_
    refine lv_iload_n hx hb dX7_scanned_13 rfl (lv_at hl 1 rfl) ?_
    refine lv_iconst (v := 2) hx hb dX7_scanned_14 (by decide) ?_
    obtain ⟨u11, hc12, hf⟩ := bind_t hf
    refine k_VX (As := [.int p1, .int 2]) (rest := []) (n := 2) ⟨hx, hb, hml, hown, hts⟩ (met_X7_needType l hlt k vf a hvf x p1 2 u11 hc12) w373 w375 ws8 w1 w376 ⟨rfl, by decide +kernel, by decide +kernel, by decide +kernel⟩ ⟨Nat.le_of_ble_eq_true rfl, Nat.le_of_ble_eq_true rfl⟩ hK hE hP hD hS hA (isC := [0, 1, 2, 3, 4, 5, 6, 7, 8, 9, 10, 11, 12, 13, 14, 15, 16, 17, 18, 19, 20, 21, 22, 23]) (isR := []) (isB := [0, 1, 2, 3, 4, 5, 6, 7, 8, 9, 10, 11, 12, 13, 14, 15, 16, 17, 18, 19, 20, 21, 22, 23]) (ws' := W_F cI cV vf a x) ⟨([] : List Nat).filterMap (fun i : Nat => (W_F cI cV vf a x : va_W)[i]?), rfl, rfl, rfl, rfl, by decide, rfl, rfl⟩ 0 6 rfl rfl rfl rfl hl.1 rfl (Nat.le_of_ble_eq_true rfl) dX7_scanned_15 ⟨Nat.le_of_ble_eq_true rfl, Nat.le_of_ble_eq_true rfl⟩ (fun E ce q9 H locs h15 hP hD hS hce hcv hcl => ?_) (fun rv9 H locs h15 hP hD hS => ?_)
    · obtain ⟨k13, hq9, hE9⟩ := rsV_x h15
      replace hf := thr_x hf hq9
      obtain rfl := Option.some.inj hf
      exact k_out htab hlocks hce hcv hcl (by rw [hE9]; rfl) hK hP hD hS (Nat.le_of_ble_eq_true rfl) (Nat.le_of_ble_eq_true rfl)
    obtain ⟨r14, hq9, rfl⟩ := rsV_v h15
    replace hf := thr_v hf hq9
    refine W.eq (g2 := F0 m 18 ls []) rfl ?_
    refine lv_aload_n hx hb dX7_scanned_18 rfl (lv_at hl 0 rfl) ?_
    refine va_get (D := D) (ci := 6) (v := .ref (a 1)) (C := RX7) (T := TX7) (N := 8) hx hb hg in_X7 hown hK hP 0 rfl rfl 0 (by decide) (hg _ w167) (fun _ h9 => h9) rfl dX7_scanned_19 ?_
    refine lv_iload_n hx hb dX7_scanned_22 rfl (lv_at hl 1 rfl) ?_
    obtain ⟨hi16, hf⟩ := chk_t hf
    refine va_aldq hx hb hK hP 1 1 rfl rfl (keyok_i hi16) dX7_scanned_23 ?_
    refine W.eq (g2 := F0 m 24 ls [.ref (a 6)]) (by rw [keyok_k hi16, hvf]; rfl) ?_
    refine lv_astore (lv' := [(4, .ref (a 6)), (0, .ref (a 0)), (1, .int p1), (2, .int p2), (3, .int p3)]) hx hb dX7_scanned_24 hl (by decide) rfl (fun ls hl => ?_)
    refine lv_aload hx hb dX7_scanned_26 (lv_at hl 0 rfl) ?_
    obtain ⟨u17, hc18, hf⟩ := bind_t hf
    refine k_V (As := []) (rest := []) (n := 0) ⟨hx, hb, hml, hown, hts⟩ (met_X6_isSmall l (fun j => a (6 + j)) (fV x) u17 hc18) w649 w650 w651 w3 w652 ⟨rfl, by decide +kernel, by decide +kernel, by decide +kernel⟩ ⟨Nat.le_of_ble_eq_true rfl, Nat.le_of_ble_eq_true rfl⟩ hK hE hP hD hS hA (isC := [6, 7, 8, 9, 10, 11, 12, 13, 14, 15, 16, 17, 18, 19, 20, 21, 22, 23]) (isR := [0, 1, 2, 3, 4, 5]) (isB := [0, 1, 2, 3, 4, 5, 6, 7, 8, 9, 10, 11, 12, 13, 14, 15, 16, 17, 18, 19, 20, 21, 22, 23]) (ws' := W_F cI cV vf a x) ⟨([0, 1, 2, 3, 4, 5] : List Nat).filterMap (fun i : Nat => (W_F cI cV vf a x : va_W)[i]?), rfl, rfl, rfl, rfl, by decide, rfl, rfl⟩ 6 5 rfl rfl rfl rfl hl.1 rfl (Nat.le_of_ble_eq_true rfl) dX7_scanned_28 ⟨Nat.le_of_ble_eq_true rfl, Nat.le_of_ble_eq_true rfl⟩ (fun H locs hP hD hS => ?_)
    try dsimp only at hf
    refine W.eq (g2 := F0 m 31 ls [.int u17]) rfl ?_
    refine lv_if_eq (tgt := 46) hx hb dX7_scanned_31 (by decide) (fun c19 => ?_) (fun c19 => ?_)
    · replace hf := if_t c19 hf
      refine lv_aload hx hb dX7_scanned_46 (lv_at hl 0 rfl) ?_
      refine va_getN (D := D) (ci := 5) (v := .ref (a 14)) (C := RX6) (T := TX6) (N := 10) hx hb hg in_X6 hown hK hP 6 rfl rfl 6 (by decide) (nwF_173 hE.1) (fun _ h9 => h9) rfl dX7_scanned_48 ?_
      refine lv_iload_n hx hb dX7_scanned_51 rfl (lv_at hl 3 rfl) ?_
      refine lv_iload_n hx hb dX7_scanned_52 rfl (lv_at hl 4 rfl) ?_
      obtain ⟨u20, hc21, hf⟩ := bind_t hf
      refine k_V (As := [.int p2, .int p3]) (rest := []) (n := 2) ⟨hx, hb, hml, hown, hts⟩ (met_X5_memberOfBucket l (fun j => a (14 + j)) (vlTb (fV x)) p2 p3 u20 hc21) w665 w666 w667 w7 w668 ⟨rfl, by decide +kernel, by decide +kernel, by decide +kernel⟩ ⟨Nat.le_of_ble_eq_true rfl, Nat.le_of_ble_eq_true rfl⟩ hK hE hP hD hS hA (isC := [14, 15, 16, 17]) (isR := [0, 1, 2, 3, 4, 5, 6, 7, 8, 9, 10, 11, 12, 13, 18, 19, 20, 21, 22, 23]) (isB := [0, 1, 2, 3, 4, 5, 6, 7, 8, 9, 10, 11, 12, 13, 20, 21, 22, 23, 14, 15, 16, 17, 18, 19]) (ws' := W_F cI cV vf a x) ⟨([0, 1, 2, 3, 4, 5, 6, 7, 8, 9, 10, 11, 12, 13, 18, 19, 20, 21, 22, 23] : List Nat).filterMap (fun i : Nat => (W_F cI cV vf a x : va_W)[i]?), rfl, rfl, rfl, rfl, by decide, rfl, rfl⟩ 14 4 rfl rfl rfl rfl hl.1 rfl (Nat.le_of_ble_eq_true rfl) dX7_scanned_53 ⟨Nat.le_of_ble_eq_true rfl, Nat.le_of_ble_eq_true rfl⟩ (fun H locs hP hD hS => ?_)
      try dsimp only at hf
      refine W.eq (g2 := F0 m 56 ls [.int u20]) rfl ?_
      obtain rfl := Option.some.inj hf
      refine vx_ret ?_
      exact W.iret (v := u20) hx hb hr (fun t ht hW => ⟨_, rfl, ⟨rfl, by rw [ht]; exact hP, va_K.moved hW.alike hK, hD, hS.F ht⟩⟩) hS.2.2 dX7_scanned_56 hlocks
    · replace hf := if_f c19 hf
      refine lv_aload hx hb dX7_scanned_34 (lv_at hl 0 rfl) ?_
      refine va_getN (D := D) (ci := 5) (v := .ref (a (6 + (vlFm (fV x))))) (C := RX6) (T := TX6) (N := 10) hx hb hg in_X6 hown hK hP 6 rfl rfl 9 (by decide) (nwF_148 hE.1) (fun _ h9 => h9) rfl dX7_scanned_36 ?_
      refine lv_iload_n hx hb dX7_scanned_39 rfl (lv_at hl 4 rfl) ?_
      rcases sel_t hf with ⟨hq22, hf⟩ | ⟨hq22, hf⟩ | ⟨hq22, hf⟩
      · rw [hq22]
        obtain ⟨u23, hc24, hf⟩ := bind_t hf
        refine k_U (owner := "Compactforms$Form") (x := ⟨"Compactforms$Form", "valueAt", "(I)I"⟩) (As := [.int p3]) (rest := []) (n := 1) ⟨hx, hb, hml, hown, hts⟩ (met_X4_valueAt l 16 (fun j => a (7 + j)) (vlSm (fV x)) p3 u23 hc24) w634 w495 w499 w454 w5 w456 (hE.1.2.2.1 _ (List.mem_append_left _ (List.mem_of_getElem? (i := 2) rfl))) ⟨by decide +kernel, by decide +kernel, by decide +kernel⟩ ⟨Nat.le_of_ble_eq_true rfl, Nat.le_of_ble_eq_true rfl⟩ hK hE hP hD hS hA (isC := [7, 8, 9]) (isR := [0, 1, 2, 3, 4, 5, 6, 10, 11, 12, 13, 14, 15, 16, 17, 18, 19, 20, 21, 22, 23]) (isB := [0, 1, 2, 3, 4, 5, 6, 21, 22, 23, 7, 8, 9, 10, 11, 12, 13, 14, 15, 16, 17, 18, 19, 20]) (ws' := W_F cI cV vf a x) ⟨([0, 1, 2, 3, 4, 5, 6, 10, 11, 12, 13, 14, 15, 16, 17, 18, 19, 20, 21, 22, 23] : List Nat).filterMap (fun i : Nat => (W_F cI cV vf a x : va_W)[i]?), rfl, rfl, rfl, rfl, by decide, rfl, rfl⟩ 7 3 rfl rfl rfl rfl hl.1 rfl (Nat.le_of_ble_eq_true rfl) dX7_scanned_40 ⟨Nat.le_of_ble_eq_true rfl, Nat.le_of_ble_eq_true rfl⟩ (fun H locs hP hD hS => ?_)
        try dsimp only at hf
        refine W.eq (g2 := F0 m 43 ls [.int u23]) rfl ?_
        refine lv_goto (tgt := 56) hx hb dX7_scanned_43 (by decide) ?_
        obtain rfl := Option.some.inj hf
        refine vx_ret ?_
        exact W.iret (v := u23) hx hb hr (fun t ht hW => ⟨_, rfl, ⟨rfl, by rw [ht]; exact hP, va_K.moved hW.alike hK, hD, hS.F ht⟩⟩) hS.2.2 dX7_scanned_56 hlocks
      · rw [hq22]
        obtain ⟨u25, hc26, hf⟩ := bind_t hf
        refine k_U (owner := "Compactforms$Form") (x := ⟨"Compactforms$Form", "valueAt", "(I)I"⟩) (As := [.int p3]) (rest := []) (n := 1) ⟨hx, hb, hml, hown, hts⟩ (met_X0_valueAt l (fun j => a (10 + j)) (vlCh (fV x)) p3 u25 hc26) w634 w495 w496 w497 w6 w498 (hE.1.2.2.1 _ (List.mem_append_left _ (List.mem_of_getElem? (i := 2) rfl))) ⟨by decide +kernel, by decide +kernel, by decide +kernel⟩ ⟨Nat.le_of_ble_eq_true rfl, Nat.le_of_ble_eq_true rfl⟩ hK hE hP hD hS hA (isC := [10, 11, 12, 13]) (isR := [0, 1, 2, 3, 4, 5, 6, 7, 8, 9, 14, 15, 16, 17, 18, 19, 20, 21, 22, 23]) (isB := [0, 1, 2, 3, 4, 5, 6, 7, 8, 9, 20, 21, 22, 23, 10, 11, 12, 13, 14, 15, 16, 17, 18, 19]) (ws' := W_F cI cV vf a x) ⟨([0, 1, 2, 3, 4, 5, 6, 7, 8, 9, 14, 15, 16, 17, 18, 19, 20, 21, 22, 23] : List Nat).filterMap (fun i : Nat => (W_F cI cV vf a x : va_W)[i]?), rfl, rfl, rfl, rfl, by decide, rfl, rfl⟩ 10 0 rfl rfl rfl rfl hl.1 rfl (Nat.le_of_ble_eq_true rfl) dX7_scanned_40 ⟨Nat.le_of_ble_eq_true rfl, Nat.le_of_ble_eq_true rfl⟩ (fun H locs hP hD hS => ?_)
        try dsimp only at hf
        refine W.eq (g2 := F0 m 43 ls [.int u25]) rfl ?_
        refine lv_goto (tgt := 56) hx hb dX7_scanned_43 (by decide) ?_
        obtain rfl := Option.some.inj hf
        refine vx_ret ?_
        exact W.iret (v := u25) hx hb hr (fun t ht hW => ⟨_, rfl, ⟨rfl, by rw [ht]; exact hP, va_K.moved hW.alike hK, hD, hS.F ht⟩⟩) hS.2.2 dX7_scanned_56 hlocks
      · rw [hq22]
        obtain ⟨u27, hc28, hf⟩ := bind_t hf
        refine k_U (owner := "Compactforms$Form") (x := ⟨"Compactforms$Form", "valueAt", "(I)I"⟩) (As := [.int p3]) (rest := []) (n := 1) ⟨hx, hb, hml, hown, hts⟩ (met_X5_valueAt l (fun j => a (14 + j)) (vlTb (fV x)) p3 u27 hc28) w634 w495 w500 w501 w7 w502 (hE.1.2.2.1 _ (List.mem_append_left _ (List.mem_of_getElem? (i := 2) rfl))) ⟨by decide +kernel, by decide +kernel, by decide +kernel⟩ ⟨Nat.le_of_ble_eq_true rfl, Nat.le_of_ble_eq_true rfl⟩ hK hE hP hD hS hA (isC := [14, 15, 16, 17]) (isR := [0, 1, 2, 3, 4, 5, 6, 7, 8, 9, 10, 11, 12, 13, 18, 19, 20, 21, 22, 23]) (isB := [0, 1, 2, 3, 4, 5, 6, 7, 8, 9, 10, 11, 12, 13, 20, 21, 22, 23, 14, 15, 16, 17, 18, 19]) (ws' := W_F cI cV vf a x) ⟨([0, 1, 2, 3, 4, 5, 6, 7, 8, 9, 10, 11, 12, 13, 18, 19, 20, 21, 22, 23] : List Nat).filterMap (fun i : Nat => (W_F cI cV vf a x : va_W)[i]?), rfl, rfl, rfl, rfl, by decide, rfl, rfl⟩ 14 4 rfl rfl rfl rfl hl.1 rfl (Nat.le_of_ble_eq_true rfl) dX7_scanned_40 ⟨Nat.le_of_ble_eq_true rfl, Nat.le_of_ble_eq_true rfl⟩ (fun H locs hP hD hS => ?_)
        try dsimp only at hf
        refine W.eq (g2 := F0 m 43 ls [.int u27]) rfl ?_
        refine lv_goto (tgt := 56) hx hb dX7_scanned_43 (by decide) ?_
        obtain rfl := Option.some.inj hf
        refine vx_ret ?_
        exact W.iret (v := u27) hx hb hr (fun t ht hW => ⟨_, rfl, ⟨rfl, by rw [ht]; exact hP, va_K.moved hW.alike hK, hD, hS.F ht⟩⟩) hS.2.2 dX7_scanned_56 hlocks
  exact M0 s.heap [] ls hf hP hD hS hl

/-! CompactformsModel.at(II)I -/
def fX8_at (x : MSt) (p1 : Int32) (p2 : Int32) : Option (MSt × Int32) := (fX8_valueAt x p1 p2).bind (fun u1 => keep u1.1 (fun x3 => some (x3, u1.2)))
set_option maxHeartbeats 4000000 in
set_option maxRecDepth 100000 in
theorem met_X8_at {D : va_G} {cI cV cJ cD : ClassId} (l : Launch) (a : Nat → Nat) (x : MSt) (p1 : Int32) (p2 : Int32) (res : MSt × Int32) (hf : fX8_at x p1 p2 = some res) : MM l yX8_at cX8_at 3 (some .int) { frames := 3, cells := 0, slots := 0, locals := 65 } D (TY cI cV cJ cD) (W_Model cI a x) (W_Model cI a res.1) [.ref (a 0), .int p1, .int p2] (some (.int res.2)) := by
  intro sz
  refine Met.ofW (cc := cX8_at) (maxL := 3) (ret := (some .int)) (by decide +kernel) rfl ?_
  intro p e s m args below meth c s₁ B hml hv
  obtain ⟨rfl, hsz, hP, hK, hD0, hE⟩ := hv
  have hx := B.exec
  have hb := B.bytes
  have hr := B.returns
  have hts := atoms_spec (ws := .code yX8_at cX8_at 3 (some .int) :: GW) B.pre
  have hg : ∀ w ∈ GW, w.before (([.ref (a 0), .int p1, .int p2] : List Value).toArray) s = true := fun w h => hts w (List.mem_cons_of_mem _ h)
  have hown : s.vm.findClass RX8 = some m.cls := findClass_of_methodNamed B.named
  have hlocks := B.notSynchronized
  subst hsz
  have hD := hD0.self (sz := s.heap.size)
  generalize hAe : va_A (W_Model cI a x) s.heap.size = A at hD hE ⊢
  have hA : ∀ q : Nat, s.heap.size ≤ q → A q := fun q h => by rw [← hAe]; exact Or.inr h
  have hS : va_S A s.heap s.heap [] := va_S.rf
  have hl := lv_entry ([.ref (a 0), .int p1, .int p2]) (n := 3) (Nat.le_of_ble_eq_true rfl)
  rw [lg_entry_eq]
  generalize (lg_sl ([.ref (a 0), .int p1, .int p2]) ++ List.replicate (3 - (lg_sl ([.ref (a 0), .int p1, .int p2])).length) Slot.unset).toArray = ls at hl ⊢
  have hl : lv_has ls 3 [(0, .ref (a 0)), (1, .int p1), (2, .int p2)] := hl
  have M0 : ∀ (H : Heap) (locs : List Loc) (ls : Array Slot), fX8_at x p1 p2 = some res → va_P D vwCl (W_Model cI a x) H → va_D A (W_Model cI a x) → va_S A s.heap H locs → lv_has ls 3 [(0, .ref (a 0)), (1, .int p1), (2, .int p2)] → W p l e ({ frames := 3, cells := 0, slots := 0, locals := 65 } : Room) s m ([.ref (a 0), .int p1, .int p2] : List Value).toArray below meth c H locs 0 0 (MQ below (QW D (TY cI cV cJ cD) (W_Model cI a res.1) A (some (.int res.2))) (([.ref (a 0), .int p1, .int p2] : List Value).toArray) s 0 0 A) (F0 m 0 ls []) := by
    intro H locs ls hf hP hD hS hl
    dsimp only [fX8_at] at hf
    refine lv_aload_n hx hb dX8_at_0 rfl (lv_at hl 0 rfl) ?_
    refine lv_iload_n hx hb dX8_at_1 rfl (lv_at hl 1 rfl) ?_
    refine lv_iload_n hx hb dX8_at_2 rfl (lv_at hl 2 rfl) ?_
    obtain ⟨u1, hc2, hf⟩ := bind_t hf
    refine k_V (As := [.int p1, .int p2]) (rest := []) (n := 2) ⟨hx, hb, hml, hown, hts⟩ (met_X8_valueAt l a x p1 p2 u1 hc2) w1133 w1135 ws52 w9 w1136 ⟨rfl, by decide +kernel, by decide +kernel, by decide +kernel⟩ ⟨Nat.le_of_ble_eq_true rfl, Nat.le_of_ble_eq_true rfl⟩ hK hE hP hD hS hA (isC := [0, 1, 2, 3, 4, 5, 6, 7, 8, 9, 10, 11, 12, 13, 14]) (isR := []) (isB := [0, 1, 2, 3, 4, 5, 6, 7, 8, 9, 10, 11, 12, 13, 14]) (ws' := W_Model cI a u1.1) ⟨([] : List Nat).filterMap (fun i : Nat => (W_Model cI a x : va_W)[i]?), rfl, rfl, rfl, rfl, by decide, rfl, rfl⟩ 0 7 rfl rfl rfl rfl hl.1 rfl (Nat.le_of_ble_eq_true rfl) dX8_at_3 ⟨Nat.le_of_ble_eq_true rfl, Nat.le_of_ble_eq_true rfl⟩ (fun H locs hP hD hS => ?_)
    try dsimp only at hf
    refine W.eq (g2 := F0 m 6 ls [.int u1.2]) rfl ?_
    obtain ⟨x3, hx3⟩ : ∃ z, z = u1.1 := ⟨_, rfl⟩
    replace hf := keep_e hf x3 hx3
    have hP : va_P D vwCl (W_Model cI a x3) H := by rw [hx3]; exact hP
    have hD : va_D A (W_Model cI a x3) := by rw [hx3]; exact hD
    obtain rfl := Option.some.inj hf
    exact W.iret (v := u1.2) hx hb hr (fun t ht hW => ⟨rfl, by rw [ht]; exact hP, va_K.moved hW.alike hK, hD, hS.F ht⟩) hS.2.2 dX8_at_6 hlocks
  exact M0 s.heap [] ls hf hP hD hS hl
/-! CompactformsModel.atByPlain(II)I -/
def fX8_atByPlain (x : MSt) (p1 : Int32) (p2 : Int32) : Option (MSt × Int32) := (fX8_valueAt x p1 p2).bind (fun u1 => keep u1.1 (fun x3 => some (x3, u1.2)))
set_option maxHeartbeats 4000000 in
set_option maxRecDepth 100000 in
theorem met_X8_atByPlain {D : va_G} {cI cV cJ cD : ClassId} (l : Launch) (a : Nat → Nat) (x : MSt) (p1 : Int32) (p2 : Int32) (res : MSt × Int32) (hf : fX8_atByPlain x p1 p2 = some res) : MM l yX8_atByPlain cX8_atByPlain 3 (some .int) { frames := 3, cells := 0, slots := 0, locals := 65 } D (TY cI cV cJ cD) (W_Model cI a x) (W_Model cI a res.1) [.ref (a 0), .int p1, .int p2] (some (.int res.2)) := by
  intro sz
  refine Met.ofW (cc := cX8_atByPlain) (maxL := 3) (ret := (some .int)) (by decide +kernel) rfl ?_
  intro p e s m args below meth c s₁ B hml hv
  obtain ⟨rfl, hsz, hP, hK, hD0, hE⟩ := hv
  have hx := B.exec
  have hb := B.bytes
  have hr := B.returns
  have hts := atoms_spec (ws := .code yX8_atByPlain cX8_atByPlain 3 (some .int) :: GW) B.pre
  have hg : ∀ w ∈ GW, w.before (([.ref (a 0), .int p1, .int p2] : List Value).toArray) s = true := fun w h => hts w (List.mem_cons_of_mem _ h)
  have hown : s.vm.findClass RX8 = some m.cls := findClass_of_methodNamed B.named
  have hlocks := B.notSynchronized
  subst hsz
  have hD := hD0.self (sz := s.heap.size)
  generalize hAe : va_A (W_Model cI a x) s.heap.size = A at hD hE ⊢
  have hA : ∀ q : Nat, s.heap.size ≤ q → A q := fun q h => by rw [← hAe]; exact Or.inr h
  have hS : va_S A s.heap s.heap [] := va_S.rf
  have hl := lv_entry ([.ref (a 0), .int p1, .int p2]) (n := 3) (Nat.le_of_ble_eq_true rfl)
  rw [lg_entry_eq]
  generalize (lg_sl ([.ref (a 0), .int p1, .int p2]) ++ List.replicate (3 - (lg_sl ([.ref (a 0), .int p1, .int p2])).length) Slot.unset).toArray = ls at hl ⊢
  have hl : lv_has ls 3 [(0, .ref (a 0)), (1, .int p1), (2, .int p2)] := hl
  have M0 : ∀ (H : Heap) (locs : List Loc) (ls : Array Slot), fX8_atByPlain x p1 p2 = some res → va_P D vwCl (W_Model cI a x) H → va_D A (W_Model cI a x) → va_S A s.heap H locs → lv_has ls 3 [(0, .ref (a 0)), (1, .int p1), (2, .int p2)] → W p l e ({ frames := 3, cells := 0, slots := 0, locals := 65 } : Room) s m ([.ref (a 0), .int p1, .int p2] : List Value).toArray below meth c H locs 0 0 (MQ below (QW D (TY cI cV cJ cD) (W_Model cI a res.1) A (some (.int res.2))) (([.ref (a 0), .int p1, .int p2] : List Value).toArray) s 0 0 A) (F0 m 0 ls []) := by
    intro H locs ls hf hP hD hS hl
    dsimp only [fX8_atByPlain] at hf
    refine lv_aload_n hx hb dX8_atByPlain_0 rfl (lv_at hl 0 rfl) ?_
    refine lv_iload_n hx hb dX8_atByPlain_1 rfl (lv_at hl 1 rfl) ?_
    refine lv_iload_n hx hb dX8_atByPlain_2 rfl (lv_at hl 2 rfl) ?_
    obtain ⟨u1, hc2, hf⟩ := bind_t hf
    refine k_V (As := [.int p1, .int p2]) (rest := []) (n := 2) ⟨hx, hb, hml, hown, hts⟩ (met_X8_valueAt l a x p1 p2 u1 hc2) w1133 w1135 ws52 w9 w1136 ⟨rfl, by decide +kernel, by decide +kernel, by decide +kernel⟩ ⟨Nat.le_of_ble_eq_true rfl, Nat.le_of_ble_eq_true rfl⟩ hK hE hP hD hS hA (isC := [0, 1, 2, 3, 4, 5, 6, 7, 8, 9, 10, 11, 12, 13, 14]) (isR := []) (isB := [0, 1, 2, 3, 4, 5, 6, 7, 8, 9, 10, 11, 12, 13, 14]) (ws' := W_Model cI a u1.1) ⟨([] : List Nat).filterMap (fun i : Nat => (W_Model cI a x : va_W)[i]?), rfl, rfl, rfl, rfl, by decide, rfl, rfl⟩ 0 7 rfl rfl rfl rfl hl.1 rfl (Nat.le_of_ble_eq_true rfl) dX8_atByPlain_3 ⟨Nat.le_of_ble_eq_true rfl, Nat.le_of_ble_eq_true rfl⟩ (fun H locs hP hD hS => ?_)
    try dsimp only at hf
    refine W.eq (g2 := F0 m 6 ls [.int u1.2]) rfl ?_
    obtain ⟨x3, hx3⟩ : ∃ z, z = u1.1 := ⟨_, rfl⟩
    replace hf := keep_e hf x3 hx3
    have hP : va_P D vwCl (W_Model cI a x3) H := by rw [hx3]; exact hP
    have hD : va_D A (W_Model cI a x3) := by rw [hx3]; exact hD
    obtain rfl := Option.some.inj hf
    exact W.iret (v := u1.2) hx hb hr (fun t ht hW => ⟨rfl, by rw [ht]; exact hP, va_K.moved hW.alike hK, hD, hS.F ht⟩) hS.2.2 dX8_atByPlain_6 hlocks
  exact M0 s.heap [] ls hf hP hD hS hl
/-! CompactformsModel.indexOf(II)I -/
def fX8_indexOf_24 (x : MSt) (v1 : Int32) (v2 : Int32) (s0 : Int32) : Option (MSt × Int32) := (fX8_can x s0).bind (fun u1 => keep u1.1 (fun x3 => (if u1.2 = 0 then some (x3, 0) else (fX8_isThere x3 v1).bind (fun u5 => (if u5 = 0 then some (x3, (-1)) else (fX8_find x3 v1 v2).bind (fun u8 => some (x3, u8)))))))
def fX8_indexOf (x : MSt) (p1 : Int32) (p2 : Int32) : Option (MSt × Int32) := (fX8_isKey p1).bind (fun u10 => (if u10 = 0 then fX8_indexOf_24 x p1 p2 1 else (fX8_isValue p2).bind (fun u13 => (if u13 = 0 then fX8_indexOf_24 x p1 p2 2 else fX8_indexOf_24 x p1 p2 0))))
set_option maxHeartbeats 4000000 in
set_option maxRecDepth 100000 in
theorem met_X8_indexOf {D : va_G} {cI cV cJ cD : ClassId} (l : Launch) (a : Nat → Nat) (x : MSt) (p1 : Int32) (p2 : Int32) (res : MSt × Int32) (hf : fX8_indexOf x p1 p2 = some res) : MM l yX8_indexOf cX8_indexOf 3 (some .int) { frames := 2, cells := 0, slots := 0, locals := 42 } D (TY cI cV cJ cD) (W_Model cI a x) (W_Model cI a res.1) [.ref (a 0), .int p1, .int p2] (some (.int res.2)) := by
  intro sz
  refine Met.ofW (cc := cX8_indexOf) (maxL := 3) (ret := (some .int)) (by decide +kernel) rfl ?_
  intro p e s m args below meth c s₁ B hml hv
  obtain ⟨rfl, hsz, hP, hK, hD0, hE⟩ := hv
  have hx := B.exec
  have hb := B.bytes
  have hr := B.returns
  have hts := atoms_spec (ws := .code yX8_indexOf cX8_indexOf 3 (some .int) :: GW) B.pre
  have hg : ∀ w ∈ GW, w.before (([.ref (a 0), .int p1, .int p2] : List Value).toArray) s = true := fun w h => hts w (List.mem_cons_of_mem _ h)
  have hown : s.vm.findClass RX8 = some m.cls := findClass_of_methodNamed B.named
  have hlocks := B.notSynchronized
  subst hsz
  have hD := hD0.self (sz := s.heap.size)
  generalize hAe : va_A (W_Model cI a x) s.heap.size = A at hD hE ⊢
  have hA : ∀ q : Nat, s.heap.size ≤ q → A q := fun q h => by rw [← hAe]; exact Or.inr h
  have hS : va_S A s.heap s.heap [] := va_S.rf
  have hl := lv_entry ([.ref (a 0), .int p1, .int p2]) (n := 3) (Nat.le_of_ble_eq_true rfl)
  rw [lg_entry_eq]
  generalize (lg_sl ([.ref (a 0), .int p1, .int p2]) ++ List.replicate (3 - (lg_sl ([.ref (a 0), .int p1, .int p2])).length) Slot.unset).toArray = ls at hl ⊢
  have hl : lv_has ls 3 [(0, .ref (a 0)), (1, .int p1), (2, .int p2)] := hl
  have L24 : ∀ (x : MSt) (v1 : Int32) (v2 : Int32) (s0 : Int32) (H : Heap) (locs : List Loc) (ls : Array Slot), fX8_indexOf_24 x v1 v2 s0  = some res → va_P D vwCl (W_Model cI a x) H → va_D A (W_Model cI a x) → va_S A s.heap H locs → lv_has ls 3 [(0, .ref (a 0)), (1, .int v1), (2, .int v2)] → W p l e ({ frames := 2, cells := 0, slots := 0, locals := 42 } : Room) s m ([.ref (a 0), .int p1, .int p2] : List Value).toArray below meth c H locs 0 0 (MQ below (QW D (TY cI cV cJ cD) (W_Model cI a res.1) A (some (.int res.2))) (([.ref (a 0), .int p1, .int p2] : List Value).toArray) s 0 0 A) (F0 m 24 ls [.int s0, .ref (a 0)]) := by
    intro x v1 v2 s0 H locs ls hf hP hD hS hl
    dsimp only [fX8_indexOf_24] at hf
    obtain ⟨u1, hc2, hf⟩ := bind_t hf
    refine k_V (As := [.int s0]) (rest := []) (n := 1) ⟨hx, hb, hml, hown, hts⟩ (met_X8_can l a x s0 u1 hc2) w927 w929 ws28 w9 w930 ⟨rfl, by decide +kernel, by decide +kernel, by decide +kernel⟩ ⟨Nat.le_of_ble_eq_true rfl, Nat.le_of_ble_eq_true rfl⟩ hK hE hP hD hS hA (isC := [0, 1, 2, 3, 4, 5, 6, 7, 8, 9, 10, 11, 12, 13, 14]) (isR := []) (isB := [0, 1, 2, 3, 4, 5, 6, 7, 8, 9, 10, 11, 12, 13, 14]) (ws' := W_Model cI a u1.1) ⟨([] : List Nat).filterMap (fun i : Nat => (W_Model cI a x : va_W)[i]?), rfl, rfl, rfl, rfl, by decide, rfl, rfl⟩ 0 7 rfl rfl rfl rfl hl.1 rfl (Nat.le_of_ble_eq_true rfl) dX8_indexOf_24 ⟨Nat.le_of_ble_eq_true rfl, Nat.le_of_ble_eq_true rfl⟩ (fun H locs hP hD hS => ?_)
    try dsimp only at hf
    refine W.eq (g2 := F0 m 27 ls [.int u1.2]) rfl ?_
    obtain ⟨x3, hx3⟩ : ∃ z, z = u1.1 := ⟨_, rfl⟩
    replace hf := keep_e hf x3 hx3
    have hP : va_P D vwCl (W_Model cI a x3) H := by rw [hx3]; exact hP
    have hD : va_D A (W_Model cI a x3) := by rw [hx3]; exact hD
    refine lv_if_ne (tgt := 32) hx hb dX8_indexOf_27 (by decide) (fun c4 => ?_) (fun c4 => ?_)
    · replace hf := if_f c4 hf
      refine lv_aload_n hx hb dX8_indexOf_32 rfl (lv_at hl 0 rfl) ?_
      refine lv_iload_n hx hb dX8_indexOf_33 rfl (lv_at hl 1 rfl) ?_
      obtain ⟨u5, hc6, hf⟩ := bind_t hf
      refine k_V (As := [.int v1]) (rest := []) (n := 1) ⟨hx, hb, hml, hown, hts⟩ (met_X8_isThere l a x3 v1 u5 hc6) w916 w918 ws26 w9 w919 ⟨rfl, by decide +kernel, by decide +kernel, by decide +kernel⟩ ⟨Nat.le_of_ble_eq_true rfl, Nat.le_of_ble_eq_true rfl⟩ hK hE hP hD hS hA (isC := [0, 1, 2, 3, 4, 5, 6, 7, 8, 9, 10, 11, 12, 13, 14]) (isR := []) (isB := [0, 1, 2, 3, 4, 5, 6, 7, 8, 9, 10, 11, 12, 13, 14]) (ws' := W_Model cI a x3) ⟨([] : List Nat).filterMap (fun i : Nat => (W_Model cI a x3 : va_W)[i]?), rfl, rfl, rfl, rfl, by decide, rfl, rfl⟩ 0 7 rfl rfl rfl rfl hl.1 rfl (Nat.le_of_ble_eq_true rfl) dX8_indexOf_34 ⟨Nat.le_of_ble_eq_true rfl, Nat.le_of_ble_eq_true rfl⟩ (fun H locs hP hD hS => ?_)
      try dsimp only at hf
      refine W.eq (g2 := F0 m 37 ls [.int u5]) rfl ?_
      refine lv_if_eq (tgt := 49) hx hb dX8_indexOf_37 (by decide) (fun c7 => ?_) (fun c7 => ?_)
      · replace hf := if_t c7 hf
        refine lv_iconst (v := (-1)) hx hb dX8_indexOf_49 (by decide) ?_
        obtain rfl := Option.some.inj hf
        exact W.iret (v := (-1)) hx hb hr (fun t ht hW => ⟨rfl, by rw [ht]; exact hP, va_K.moved hW.alike hK, hD, hS.F ht⟩) hS.2.2 dX8_indexOf_50 hlocks
      · replace hf := if_f c7 hf
        refine lv_aload_n hx hb dX8_indexOf_40 rfl (lv_at hl 0 rfl) ?_
        refine lv_iload_n hx hb dX8_indexOf_41 rfl (lv_at hl 1 rfl) ?_
        refine lv_iload_n hx hb dX8_indexOf_42 rfl (lv_at hl 2 rfl) ?_
        obtain ⟨u8, hc9, hf⟩ := bind_t hf
        refine k_V (As := [.int v1, .int v2]) (rest := []) (n := 2) ⟨hx, hb, hml, hown, hts⟩ (met_X8_find l a x3 v1 v2 u8 hc9) w975 w977 ws38 w9 w978 ⟨rfl, by decide +kernel, by decide +kernel, by decide +kernel⟩ ⟨Nat.le_of_ble_eq_true rfl, Nat.le_of_ble_eq_true rfl⟩ hK hE hP hD hS hA (isC := [0, 1, 2, 3, 4, 5, 6, 7, 8, 9, 10, 11, 12, 13, 14]) (isR := []) (isB := [0, 1, 2, 3, 4, 5, 6, 7, 8, 9, 10, 11, 12, 13, 14]) (ws' := W_Model cI a x3) ⟨([] : List Nat).filterMap (fun i : Nat => (W_Model cI a x3 : va_W)[i]?), rfl, rfl, rfl, rfl, by decide, rfl, rfl⟩ 0 7 rfl rfl rfl rfl hl.1 rfl (Nat.le_of_ble_eq_true rfl) dX8_indexOf_43 ⟨Nat.le_of_ble_eq_true rfl, Nat.le_of_ble_eq_true rfl⟩ (fun H locs hP hD hS => ?_)
        try dsimp only at hf
        refine W.eq (g2 := F0 m 46 ls [.int u8]) rfl ?_
        refine lv_goto (tgt := 50) hx hb dX8_indexOf_46 (by decide) ?_
        obtain rfl := Option.some.inj hf
        exact W.iret (v := u8) hx hb hr (fun t ht hW => ⟨rfl, by rw [ht]; exact hP, va_K.moved hW.alike hK, hD, hS.F ht⟩) hS.2.2 dX8_indexOf_50 hlocks
    · replace hf := if_t c4 hf
      refine lv_iconst (v := 0) hx hb dX8_indexOf_30 (by decide) ?_
      obtain rfl := Option.some.inj hf
      exact W.iret (v := 0) hx hb hr (fun t ht hW => ⟨rfl, by rw [ht]; exact hP, va_K.moved hW.alike hK, hD, hS.F ht⟩) hS.2.2 dX8_indexOf_31 hlocks
  have M0 : ∀ (H : Heap) (locs : List Loc) (ls : Array Slot), fX8_indexOf x p1 p2 = some res → va_P D vwCl (W_Model cI a x) H → va_D A (W_Model cI a x) → va_S A s.heap H locs → lv_has ls 3 [(0, .ref (a 0)), (1, .int p1), (2, .int p2)] → W p l e ({ frames := 2, cells := 0, slots := 0, locals := 42 } : Room) s m ([.ref (a 0), .int p1, .int p2] : List Value).toArray below meth c H locs 0 0 (MQ below (QW D (TY cI cV cJ cD) (W_Model cI a res.1) A (some (.int res.2))) (([.ref (a 0), .int p1, .int p2] : List Value).toArray) s 0 0 A) (F0 m 0 ls []) := by
    intro H locs ls hf hP hD hS hl
    dsimp only [fX8_indexOf] at hf
    refine lv_aload_n hx hb dX8_indexOf_0 rfl (lv_at hl 0 rfl) ?_
    refine lv_iload_n hx hb dX8_indexOf_1 rfl (lv_at hl 1 rfl) ?_
    obtain ⟨u10, hc11, hf⟩ := bind_t hf
    refine k_S (As := [.int p1]) (rest := [.ref (a 0)]) (n := 1) ⟨hx, hb, hml, hown, hts⟩ (met_X8_isKey l p1 u10 hc11) w906 w907 w9 w908 ⟨by decide +kernel, by decide +kernel, by decide +kernel⟩ ⟨Nat.le_of_ble_eq_true rfl, Nat.le_of_ble_eq_true rfl⟩ hK hE hP hD hS hA (isC := []) (isR := [0, 1, 2, 3, 4, 5, 6, 7, 8, 9, 10, 11, 12, 13, 14]) (isB := [0, 1, 2, 3, 4, 5, 6, 7, 8, 9, 10, 11, 12, 13, 14]) (ws' := W_Model cI a x) ⟨([0, 1, 2, 3, 4, 5, 6, 7, 8, 9, 10, 11, 12, 13, 14] : List Nat).filterMap (fun i : Nat => (W_Model cI a x : va_W)[i]?), rfl, rfl, rfl, rfl, by decide, rfl, rfl⟩ rfl hl.1 rfl (Nat.le_of_ble_eq_true rfl) dX8_indexOf_2 ⟨Nat.le_of_ble_eq_true rfl, Nat.le_of_ble_eq_true rfl⟩ (fun H locs hP hD hS => ?_)
    try dsimp only at hf
    refine W.eq (g2 := F0 m 5 ls [.int u10, .ref (a 0)]) rfl ?_
    refine lv_if_ne (tgt := 12) hx hb dX8_indexOf_5 (by decide) (fun c12 => ?_) (fun c12 => ?_)
    · replace hf := if_f c12 hf
      refine lv_iload_n hx hb dX8_indexOf_12 rfl (lv_at hl 2 rfl) ?_
      obtain ⟨u13, hc14, hf⟩ := bind_t hf
      refine k_S (As := [.int p2]) (rest := [.ref (a 0)]) (n := 1) ⟨hx, hb, hml, hown, hts⟩ (met_X8_isValue l p2 u13 hc14) w920 w921 w9 w922 ⟨by decide +kernel, by decide +kernel, by decide +kernel⟩ ⟨Nat.le_of_ble_eq_true rfl, Nat.le_of_ble_eq_true rfl⟩ hK hE hP hD hS hA (isC := []) (isR := [0, 1, 2, 3, 4, 5, 6, 7, 8, 9, 10, 11, 12, 13, 14]) (isB := [0, 1, 2, 3, 4, 5, 6, 7, 8, 9, 10, 11, 12, 13, 14]) (ws' := W_Model cI a x) ⟨([0, 1, 2, 3, 4, 5, 6, 7, 8, 9, 10, 11, 12, 13, 14] : List Nat).filterMap (fun i : Nat => (W_Model cI a x : va_W)[i]?), rfl, rfl, rfl, rfl, by decide, rfl, rfl⟩ rfl hl.1 rfl (Nat.le_of_ble_eq_true rfl) dX8_indexOf_13 ⟨Nat.le_of_ble_eq_true rfl, Nat.le_of_ble_eq_true rfl⟩ (fun H locs hP hD hS => ?_)
      try dsimp only at hf
      refine W.eq (g2 := F0 m 16 ls [.int u13, .ref (a 0)]) rfl ?_
      refine lv_if_eq (tgt := 23) hx hb dX8_indexOf_16 (by decide) (fun c15 => ?_) (fun c15 => ?_)
      · replace hf := if_t c15 hf
        refine lv_iconst (v := 2) hx hb dX8_indexOf_23 (by decide) ?_
        exact L24 x p1 p2 2 H locs ls hf hP hD hS (lv_sub hl [0, 1, 2] rfl)
      · replace hf := if_f c15 hf
        refine lv_iconst (v := 0) hx hb dX8_indexOf_19 (by decide) ?_
        refine lv_goto (tgt := 24) hx hb dX8_indexOf_20 (by decide) ?_
        exact L24 x p1 p2 0 H locs ls hf hP hD hS (lv_sub hl [0, 1, 2] rfl)
    · replace hf := if_t c12 hf
      refine lv_iconst (v := 1) hx hb dX8_indexOf_8 (by decide) ?_
      refine lv_goto (tgt := 24) hx hb dX8_indexOf_9 (by decide) ?_
      exact L24 x p1 p2 1 H locs ls hf hP hD hS (lv_sub hl [0, 1, 2] rfl)
  exact M0 s.heap [] ls hf hP hD hS hl
/-! CompactformsModel.points(II)F -/
def fX8_points_65 (x : MSt) (v1 : Int32) (v2 : Int32) (s0 : Int32) : Option (MSt × UInt32) := (fX8_can x s0).bind (fun u1 => keep u1.1 (fun x3 => (if u1.2 = 0 then some (x3, 0) else (fX8_find x3 v1 v2).bind (fun u5 => chk (inb ((40 * v1) + u5) 640) (chk (decide (vn_sni2f ((mBits x3) (((40 * v1) + u5)).toNatClampNeg) = false)) (some (x3, (((mBits x3) (((40 * v1) + u5)).toNatClampNeg)).toUInt32)))))))
def fX8_points_33 (x : MSt) (v1 : Int32) (v2 : Int32) (v3 : Int32) (s0 : Int32) : Option (MSt × UInt32) := (if v3 = 0 then fX8_points_65 x v1 v2 1 else (fX8_isValue v2).bind (fun u10 => (if u10 = 0 then fX8_points_65 x v1 v2 2 else (if s0 = 0 then fX8_points_65 x v1 v2 3 else fX8_points_65 x v1 v2 0))))
def fX8_points_32 (x : MSt) (v1 : Int32) (v2 : Int32) (v3 : Int32) : Option (MSt × UInt32) := fX8_points_33 x v1 v2 v3 0
def fX8_points (x : MSt) (p1 : Int32) (p2 : Int32) : Option (MSt × UInt32) := (fX8_isKey p1).bind (fun u14 => (if u14 = 0 then fX8_points_32 x p1 p2 u14 else (fX8_typeNow x p1).bind (fun u17 => (if u17 = 3 then (fX8_find x p1 p2).bind (fun u20 => (if u20 = (-1) then fX8_points_32 x p1 p2 u14 else fX8_points_33 x p1 p2 u14 1)) else fX8_points_32 x p1 p2 u14))))
set_option maxHeartbeats 4000000 in
set_option maxRecDepth 100000 in
theorem met_X8_points {D : va_G} {cI cV cJ cD : ClassId} (l : Launch) (a : Nat → Nat) (x : MSt) (p1 : Int32) (p2 : Int32) (res : MSt × UInt32) (hf : fX8_points x p1 p2 = some res) : MM l yX8_points cX8_points 5 (some .float) { frames := 2, cells := 0, slots := 0, locals := 60 } D (TY cI cV cJ cD) (W_Model cI a x) (W_Model cI a res.1) [.ref (a 0), .int p1, .int p2] (some (.float res.2)) := by
  intro sz
  refine Met.ofW (cc := cX8_points) (maxL := 5) (ret := (some .float)) (by decide +kernel) rfl ?_
  intro p e s m args below meth c s₁ B hml hv
  obtain ⟨rfl, hsz, hP, hK, hD0, hE⟩ := hv
  have hx := B.exec
  have hb := B.bytes
  have hr := B.returns
  have hts := atoms_spec (ws := .code yX8_points cX8_points 5 (some .float) :: GW) B.pre
  have hg : ∀ w ∈ GW, w.before (([.ref (a 0), .int p1, .int p2] : List Value).toArray) s = true := fun w h => hts w (List.mem_cons_of_mem _ h)
  have hown : s.vm.findClass RX8 = some m.cls := findClass_of_methodNamed B.named
  have hlocks := B.notSynchronized
  subst hsz
  have hD := hD0.self (sz := s.heap.size)
  generalize hAe : va_A (W_Model cI a x) s.heap.size = A at hD hE ⊢
  have hA : ∀ q : Nat, s.heap.size ≤ q → A q := fun q h => by rw [← hAe]; exact Or.inr h
  have hS : va_S A s.heap s.heap [] := va_S.rf
  have hl := lv_entry ([.ref (a 0), .int p1, .int p2]) (n := 5) (Nat.le_of_ble_eq_true rfl)
  rw [lg_entry_eq]
  generalize (lg_sl ([.ref (a 0), .int p1, .int p2]) ++ List.replicate (5 - (lg_sl ([.ref (a 0), .int p1, .int p2])).length) Slot.unset).toArray = ls at hl ⊢
  have hl : lv_has ls 5 [(0, .ref (a 0)), (1, .int p1), (2, .int p2)] := hl
  have L65 : ∀ (x : MSt) (v1 : Int32) (v2 : Int32) (s0 : Int32) (H : Heap) (locs : List Loc) (ls : Array Slot), fX8_points_65 x v1 v2 s0  = some res → va_P D vwCl (W_Model cI a x) H → va_D A (W_Model cI a x) → va_S A s.heap H locs → lv_has ls 5 [(0, .ref (a 0)), (1, .int v1), (2, .int v2)] → W p l e ({ frames := 2, cells := 0, slots := 0, locals := 60 } : Room) s m ([.ref (a 0), .int p1, .int p2] : List Value).toArray below meth c H locs 0 0 (MQ below (QW D (TY cI cV cJ cD) (W_Model cI a res.1) A (some (.float res.2))) (([.ref (a 0), .int p1, .int p2] : List Value).toArray) s 0 0 A) (F0 m 65 ls [.int s0, .ref (a 0)]) := by
    intro x v1 v2 s0 H locs ls hf hP hD hS hl
    dsimp only [fX8_points_65] at hf
    obtain ⟨u1, hc2, hf⟩ := bind_t hf
    refine k_V (As := [.int s0]) (rest := []) (n := 1) ⟨hx, hb, hml, hown, hts⟩ (met_X8_can l a x s0 u1 hc2) w927 w929 ws28 w9 w930 ⟨rfl, by decide +kernel, by decide +kernel, by decide +kernel⟩ ⟨Nat.le_of_ble_eq_true rfl, Nat.le_of_ble_eq_true rfl⟩ hK hE hP hD hS hA (isC := [0, 1, 2, 3, 4, 5, 6, 7, 8, 9, 10, 11, 12, 13, 14]) (isR := []) (isB := [0, 1, 2, 3, 4, 5, 6, 7, 8, 9, 10, 11, 12, 13, 14]) (ws' := W_Model cI a u1.1) ⟨([] : List Nat).filterMap (fun i : Nat => (W_Model cI a x : va_W)[i]?), rfl, rfl, rfl, rfl, by decide, rfl, rfl⟩ 0 7 rfl rfl rfl rfl hl.1 rfl (Nat.le_of_ble_eq_true rfl) dX8_points_65 ⟨Nat.le_of_ble_eq_true rfl, Nat.le_of_ble_eq_true rfl⟩ (fun H locs hP hD hS => ?_)
    try dsimp only at hf
    refine W.eq (g2 := F0 m 68 ls [.int u1.2]) rfl ?_
    obtain ⟨x3, hx3⟩ : ∃ z, z = u1.1 := ⟨_, rfl⟩
    replace hf := keep_e hf x3 hx3
    have hP : va_P D vwCl (W_Model cI a x3) H := by rw [hx3]; exact hP
    have hD : va_D A (W_Model cI a x3) := by rw [hx3]; exact hD
    refine lv_if_ne (tgt := 73) hx hb dX8_points_68 (by decide) (fun c4 => ?_) (fun c4 => ?_)
    · replace hf := if_f c4 hf
      refine lv_aload_n hx hb dX8_points_73 rfl (lv_at hl 0 rfl) ?_
      refine va_get (D := D) (ci := 7) (v := .ref (a 7)) (C := RX8) (T := TX8) (N := 24) hx hb hg in_X8 hown hK hP 0 rfl rfl 8 (by decide) (hg _ w833) (fun _ h9 => h9) rfl dX8_points_74 ?_
      refine lv_bipush (v := 40) hx hb dX8_points_77 (by decide) ?_
      refine lv_iload_n hx hb dX8_points_79 rfl (lv_at hl 1 rfl) ?_
      refine lv_imul hx hb dX8_points_80 ?_
      refine lv_aload_n hx hb dX8_points_81 rfl (lv_at hl 0 rfl) ?_
      refine lv_iload_n hx hb dX8_points_82 rfl (lv_at hl 1 rfl) ?_
      refine lv_iload_n hx hb dX8_points_83 rfl (lv_at hl 2 rfl) ?_
      obtain ⟨u5, hc6, hf⟩ := bind_t hf
      refine k_V (As := [.int v1, .int v2]) (rest := [.int (40 * v1), .ref (a 7)]) (n := 2) ⟨hx, hb, hml, hown, hts⟩ (met_X8_find l a x3 v1 v2 u5 hc6) w975 w977 ws38 w9 w978 ⟨rfl, by decide +kernel, by decide +kernel, by decide +kernel⟩ ⟨Nat.le_of_ble_eq_true rfl, Nat.le_of_ble_eq_true rfl⟩ hK hE hP hD hS hA (isC := [0, 1, 2, 3, 4, 5, 6, 7, 8, 9, 10, 11, 12, 13, 14]) (isR := []) (isB := [0, 1, 2, 3, 4, 5, 6, 7, 8, 9, 10, 11, 12, 13, 14]) (ws' := W_Model cI a x3) ⟨([] : List Nat).filterMap (fun i : Nat => (W_Model cI a x3 : va_W)[i]?), rfl, rfl, rfl, rfl, by decide, rfl, rfl⟩ 0 7 rfl rfl rfl rfl hl.1 rfl (Nat.le_of_ble_eq_true rfl) dX8_points_84 ⟨Nat.le_of_ble_eq_true rfl, Nat.le_of_ble_eq_true rfl⟩ (fun H locs hP hD hS => ?_)
      try dsimp only at hf
      refine W.eq (g2 := F0 m 87 ls [.int u5, .int (40 * v1), .ref (a 7)]) rfl ?_
      refine lv_iadd hx hb dX8_points_87 ?_
      obtain ⟨hi7, hf⟩ := chk_t hf
      refine va_iald hx hb hK hP 7 0 rfl rfl (inb_in hi7) dX8_points_88 ?_
      obtain ⟨hz8, hf⟩ := chk_t hf
      refine vn_i2f hx hb (by rw [hml]; exact hl.1.symm) hown (hg _ w1149) (hg _ w1151) (hg _ w1150) (hg _ w19) (of_decide_eq_true hz8) (Nat.le_of_ble_eq_true rfl) (Nat.le_of_ble_eq_true rfl) dX8_points_89 ?_
      obtain rfl := Option.some.inj hf
      exact W.fret (v := (((mBits x3) (((40 * v1) + u5)).toNatClampNeg)).toUInt32) hx hb hr (fun t ht hW => ⟨rfl, by rw [ht]; exact hP, va_K.moved hW.alike hK, hD, hS.F ht⟩) hS.2.2 dX8_points_92 hlocks
    · replace hf := if_t c4 hf
      refine lv_fconst0 hx hb dX8_points_71 ?_
      obtain rfl := Option.some.inj hf
      exact W.fret (v := 0) hx hb hr (fun t ht hW => ⟨rfl, by rw [ht]; exact hP, va_K.moved hW.alike hK, hD, hS.F ht⟩) hS.2.2 dX8_points_72 hlocks
  have L33 : ∀ (x : MSt) (v1 : Int32) (v2 : Int32) (v3 : Int32) (s0 : Int32) (H : Heap) (locs : List Loc) (ls : Array Slot), fX8_points_33 x v1 v2 v3 s0  = some res → va_P D vwCl (W_Model cI a x) H → va_D A (W_Model cI a x) → va_S A s.heap H locs → lv_has ls 5 [(0, .ref (a 0)), (1, .int v1), (2, .int v2), (3, .int v3)] → W p l e ({ frames := 2, cells := 0, slots := 0, locals := 60 } : Room) s m ([.ref (a 0), .int p1, .int p2] : List Value).toArray below meth c H locs 0 0 (MQ below (QW D (TY cI cV cJ cD) (W_Model cI a res.1) A (some (.float res.2))) (([.ref (a 0), .int p1, .int p2] : List Value).toArray) s 0 0 A) (F0 m 33 ls [.int s0]) := by
    intro x v1 v2 v3 s0 H locs ls hf hP hD hS hl
    dsimp only [fX8_points_33] at hf
    refine lv_istore (lv' := [(4, .int s0), (0, .ref (a 0)), (1, .int v1), (2, .int v2), (3, .int v3)]) hx hb dX8_points_33 hl (by decide) rfl (fun ls hl => ?_)
    refine lv_aload_n hx hb dX8_points_35 rfl (lv_at hl 1 rfl) ?_
    refine lv_iload_n hx hb dX8_points_36 rfl (lv_at hl 4 rfl) ?_
    refine lv_if_ne (tgt := 44) hx hb dX8_points_37 (by decide) (fun c9 => ?_) (fun c9 => ?_)
    · replace hf := if_f c9 hf
      refine lv_iload_n hx hb dX8_points_44 rfl (lv_at hl 3 rfl) ?_
      obtain ⟨u10, hc11, hf⟩ := bind_t hf
      refine k_S (As := [.int v2]) (rest := [.ref (a 0)]) (n := 1) ⟨hx, hb, hml, hown, hts⟩ (met_X8_isValue l v2 u10 hc11) w920 w921 w9 w922 ⟨by decide +kernel, by decide +kernel, by decide +kernel⟩ ⟨Nat.le_of_ble_eq_true rfl, Nat.le_of_ble_eq_true rfl⟩ hK hE hP hD hS hA (isC := []) (isR := [0, 1, 2, 3, 4, 5, 6, 7, 8, 9, 10, 11, 12, 13, 14]) (isB := [0, 1, 2, 3, 4, 5, 6, 7, 8, 9, 10, 11, 12, 13, 14]) (ws' := W_Model cI a x) ⟨([0, 1, 2, 3, 4, 5, 6, 7, 8, 9, 10, 11, 12, 13, 14] : List Nat).filterMap (fun i : Nat => (W_Model cI a x : va_W)[i]?), rfl, rfl, rfl, rfl, by decide, rfl, rfl⟩ rfl hl.1 rfl (Nat.le_of_ble_eq_true rfl) dX8_points_45 ⟨Nat.le_of_ble_eq_true rfl, Nat.le_of_ble_eq_true rfl⟩ (fun H locs hP hD hS => ?_)
      try dsimp only at hf
      refine W.eq (g2 := F0 m 48 ls [.int u10, .ref (a 0)]) rfl ?_
      refine lv_if_ne (tgt := 55) hx hb dX8_points_48 (by decide) (fun c12 => ?_) (fun c12 => ?_)
      · replace hf := if_f c12 hf
        refine lv_iload hx hb dX8_points_55 (lv_at hl 0 rfl) ?_
        refine lv_if_eq (tgt := 64) hx hb dX8_points_57 (by decide) (fun c13 => ?_) (fun c13 => ?_)
        · replace hf := if_t c13 hf
          refine lv_iconst (v := 3) hx hb dX8_points_64 (by decide) ?_
          exact L65 x v1 v2 3 H locs ls hf hP hD hS (lv_sub hl [1, 2, 3] rfl)
        · replace hf := if_f c13 hf
          refine lv_iconst (v := 0) hx hb dX8_points_60 (by decide) ?_
          refine lv_goto (tgt := 65) hx hb dX8_points_61 (by decide) ?_
          exact L65 x v1 v2 0 H locs ls hf hP hD hS (lv_sub hl [1, 2, 3] rfl)
      · replace hf := if_t c12 hf
        refine lv_iconst (v := 2) hx hb dX8_points_51 (by decide) ?_
        refine lv_goto (tgt := 65) hx hb dX8_points_52 (by decide) ?_
        exact L65 x v1 v2 2 H locs ls hf hP hD hS (lv_sub hl [1, 2, 3] rfl)
    · replace hf := if_t c9 hf
      refine lv_iconst (v := 1) hx hb dX8_points_40 (by decide) ?_
      refine lv_goto (tgt := 65) hx hb dX8_points_41 (by decide) ?_
      exact L65 x v1 v2 1 H locs ls hf hP hD hS (lv_sub hl [1, 2, 3] rfl)
  have L32 : ∀ (x : MSt) (v1 : Int32) (v2 : Int32) (v3 : Int32) (H : Heap) (locs : List Loc) (ls : Array Slot), fX8_points_32 x v1 v2 v3  = some res → va_P D vwCl (W_Model cI a x) H → va_D A (W_Model cI a x) → va_S A s.heap H locs → lv_has ls 5 [(0, .ref (a 0)), (1, .int v1), (2, .int v2), (3, .int v3)] → W p l e ({ frames := 2, cells := 0, slots := 0, locals := 60 } : Room) s m ([.ref (a 0), .int p1, .int p2] : List Value).toArray below meth c H locs 0 0 (MQ below (QW D (TY cI cV cJ cD) (W_Model cI a res.1) A (some (.float res.2))) (([.ref (a 0), .int p1, .int p2] : List Value).toArray) s 0 0 A) (F0 m 32 ls []) := by
    intro x v1 v2 v3 H locs ls hf hP hD hS hl
    dsimp only [fX8_points_32] at hf
    refine lv_iconst (v := 0) hx hb dX8_points_32 (by decide) ?_
    exact L33 x v1 v2 v3 0 H locs ls hf hP hD hS (lv_sub hl [0, 1, 2, 3] rfl)
  have M0 : ∀ (H : Heap) (locs : List Loc) (ls : Array Slot), fX8_points x p1 p2 = some res → va_P D vwCl (W_Model cI a x) H → va_D A (W_Model cI a x) → va_S A s.heap H locs → lv_has ls 5 [(0, .ref (a 0)), (1, .int p1), (2, .int p2)] → W p l e ({ frames := 2, cells := 0, slots := 0, locals := 60 } : Room) s m ([.ref (a 0), .int p1, .int p2] : List Value).toArray below meth c H locs 0 0 (MQ below (QW D (TY cI cV cJ cD) (W_Model cI a res.1) A (some (.float res.2))) (([.ref (a 0), .int p1, .int p2] : List Value).toArray) s 0 0 A) (F0 m 0 ls []) := by
    intro H locs ls hf hP hD hS hl
    dsimp only [fX8_points] at hf
    refine lv_iload_n hx hb dX8_points_0 rfl (lv_at hl 1 rfl) ?_
    obtain ⟨u14, hc15, hf⟩ := bind_t hf
    refine k_S (As := [.int p1]) (rest := []) (n := 1) ⟨hx, hb, hml, hown, hts⟩ (met_X8_isKey l p1 u14 hc15) w906 w907 w9 w908 ⟨by decide +kernel, by decide +kernel, by decide +kernel⟩ ⟨Nat.le_of_ble_eq_true rfl, Nat.le_of_ble_eq_true rfl⟩ hK hE hP hD hS hA (isC := []) (isR := [0, 1, 2, 3, 4, 5, 6, 7, 8, 9, 10, 11, 12, 13, 14]) (isB := [0, 1, 2, 3, 4, 5, 6, 7, 8, 9, 10, 11, 12, 13, 14]) (ws' := W_Model cI a x) ⟨([0, 1, 2, 3, 4, 5, 6, 7, 8, 9, 10, 11, 12, 13, 14] : List Nat).filterMap (fun i : Nat => (W_Model cI a x : va_W)[i]?), rfl, rfl, rfl, rfl, by decide, rfl, rfl⟩ rfl hl.1 rfl (Nat.le_of_ble_eq_true rfl) dX8_points_1 ⟨Nat.le_of_ble_eq_true rfl, Nat.le_of_ble_eq_true rfl⟩ (fun H locs hP hD hS => ?_)
    try dsimp only at hf
    refine W.eq (g2 := F0 m 4 ls [.int u14]) rfl ?_
    refine lv_istore_n (lv' := [(3, .int u14), (0, .ref (a 0)), (1, .int p1), (2, .int p2)]) hx hb dX8_points_4 rfl hl (by decide) rfl (fun ls hl => ?_)
    refine lv_iload_n hx hb dX8_points_5 rfl (lv_at hl 0 rfl) ?_
    refine lv_if_eq (tgt := 32) hx hb dX8_points_6 (by decide) (fun c16 => ?_) (fun c16 => ?_)
    · replace hf := if_t c16 hf
      exact L32 x p1 p2 u14 H locs ls hf hP hD hS (lv_sub hl [1, 2, 3, 0] rfl)
    · replace hf := if_f c16 hf
      refine lv_aload_n hx hb dX8_points_9 rfl (lv_at hl 1 rfl) ?_
      refine lv_iload_n hx hb dX8_points_10 rfl (lv_at hl 2 rfl) ?_
      obtain ⟨u17, hc18, hf⟩ := bind_t hf
      refine k_V (As := [.int p1]) (rest := []) (n := 1) ⟨hx, hb, hml, hown, hts⟩ (met_X8_typeNow l a x p1 u17 hc18) w912 w914 ws25 w9 w915 ⟨rfl, by decide +kernel, by decide +kernel, by decide +kernel⟩ ⟨Nat.le_of_ble_eq_true rfl, Nat.le_of_ble_eq_true rfl⟩ hK hE hP hD hS hA (isC := [0, 1, 2, 3, 4, 5, 6, 7, 8, 9, 10, 11, 12, 13, 14]) (isR := []) (isB := [0, 1, 2, 3, 4, 5, 6, 7, 8, 9, 10, 11, 12, 13, 14]) (ws' := W_Model cI a x) ⟨([] : List Nat).filterMap (fun i : Nat => (W_Model cI a x : va_W)[i]?), rfl, rfl, rfl, rfl, by decide, rfl, rfl⟩ 0 7 rfl rfl rfl rfl hl.1 rfl (Nat.le_of_ble_eq_true rfl) dX8_points_11 ⟨Nat.le_of_ble_eq_true rfl, Nat.le_of_ble_eq_true rfl⟩ (fun H locs hP hD hS => ?_)
      try dsimp only at hf
      refine W.eq (g2 := F0 m 14 ls [.int u17]) rfl ?_
      refine lv_iconst (v := 3) hx hb dX8_points_14 (by decide) ?_
      refine lv_icmp_ne (tgt := 32) hx hb dX8_points_15 (by decide) (fun c19 => ?_) (fun c19 => ?_)
      · replace hf := if_f c19 hf
        exact L32 x p1 p2 u14 H locs ls hf hP hD hS (lv_sub hl [1, 2, 3, 0] rfl)
      · replace hf := if_t c19 hf
        refine lv_aload_n hx hb dX8_points_18 rfl (lv_at hl 1 rfl) ?_
        refine lv_iload_n hx hb dX8_points_19 rfl (lv_at hl 2 rfl) ?_
        refine lv_iload_n hx hb dX8_points_20 rfl (lv_at hl 3 rfl) ?_
        obtain ⟨u20, hc21, hf⟩ := bind_t hf
        refine k_V (As := [.int p1, .int p2]) (rest := []) (n := 2) ⟨hx, hb, hml, hown, hts⟩ (met_X8_find l a x p1 p2 u20 hc21) w975 w977 ws38 w9 w978 ⟨rfl, by decide +kernel, by decide +kernel, by decide +kernel⟩ ⟨Nat.le_of_ble_eq_true rfl, Nat.le_of_ble_eq_true rfl⟩ hK hE hP hD hS hA (isC := [0, 1, 2, 3, 4, 5, 6, 7, 8, 9, 10, 11, 12, 13, 14]) (isR := []) (isB := [0, 1, 2, 3, 4, 5, 6, 7, 8, 9, 10, 11, 12, 13, 14]) (ws' := W_Model cI a x) ⟨([] : List Nat).filterMap (fun i : Nat => (W_Model cI a x : va_W)[i]?), rfl, rfl, rfl, rfl, by decide, rfl, rfl⟩ 0 7 rfl rfl rfl rfl hl.1 rfl (Nat.le_of_ble_eq_true rfl) dX8_points_21 ⟨Nat.le_of_ble_eq_true rfl, Nat.le_of_ble_eq_true rfl⟩ (fun H locs hP hD hS => ?_)
        try dsimp only at hf
        refine W.eq (g2 := F0 m 24 ls [.int u20]) rfl ?_
        refine lv_iconst (v := (-1)) hx hb dX8_points_24 (by decide) ?_
        refine lv_icmp_eq (tgt := 32) hx hb dX8_points_25 (by decide) (fun c22 => ?_) (fun c22 => ?_)
        · replace hf := if_t c22 hf
          exact L32 x p1 p2 u14 H locs ls hf hP hD hS (lv_sub hl [1, 2, 3, 0] rfl)
        · replace hf := if_f c22 hf
          refine lv_iconst (v := 1) hx hb dX8_points_28 (by decide) ?_
          refine lv_goto (tgt := 33) hx hb dX8_points_29 (by decide) ?_
          exact L33 x p1 p2 u14 1 H locs ls hf hP hD hS (lv_sub hl [1, 2, 3, 0] rfl)
  exact M0 s.heap [] ls hf hP hD hS hl
/-! CompactformsModel.scanFault(II)I -/
def fX8_scanFault (x : MSt) (p1 : Int32) (p2 : Int32) : Option (Int32) := (fX8_isKey p1).bind (fun u1 => (if u1 = 0 then some 1 else (fX8_isIn p2 0 1023).bind (fun u4 => (if u4 = 0 then some 2 else (fX8_typeNow x p1).bind (fun u7 => (if u7 = 2 then some 0 else some 3))))))
set_option maxHeartbeats 4000000 in
set_option maxRecDepth 100000 in
theorem met_X8_scanFault {D : va_G} {cI cV cJ cD : ClassId} (l : Launch) (a : Nat → Nat) (x : MSt) (p1 : Int32) (p2 : Int32) (res : Int32) (hf : fX8_scanFault x p1 p2 = some res) : MM l yX8_scanFault cX8_scanFault 4 (some .int) { frames := 2, cells := 0, slots := 0, locals := 42 } D (TY cI cV cJ cD) (W_Model cI a x) (W_Model cI a x) [.ref (a 0), .int p1, .int p2] (some (.int res)) := by
  intro sz
  refine Met.ofW (cc := cX8_scanFault) (maxL := 4) (ret := (some .int)) (by decide +kernel) rfl ?_
  intro p e s m args below meth c s₁ B hml hv
  obtain ⟨rfl, hsz, hP, hK, hD0, hE⟩ := hv
  have hx := B.exec
  have hb := B.bytes
  have hr := B.returns
  have hts := atoms_spec (ws := .code yX8_scanFault cX8_scanFault 4 (some .int) :: GW) B.pre
  have hg : ∀ w ∈ GW, w.before (([.ref (a 0), .int p1, .int p2] : List Value).toArray) s = true := fun w h => hts w (List.mem_cons_of_mem _ h)
  have hown : s.vm.findClass RX8 = some m.cls := findClass_of_methodNamed B.named
  have hlocks := B.notSynchronized
  subst hsz
  have hD := hD0.self (sz := s.heap.size)
  generalize hAe : va_A (W_Model cI a x) s.heap.size = A at hD hE ⊢
  have hA : ∀ q : Nat, s.heap.size ≤ q → A q := fun q h => by rw [← hAe]; exact Or.inr h
  have hS : va_S A s.heap s.heap [] := va_S.rf
  have hl := lv_entry ([.ref (a 0), .int p1, .int p2]) (n := 4) (Nat.le_of_ble_eq_true rfl)
  rw [lg_entry_eq]
  generalize (lg_sl ([.ref (a 0), .int p1, .int p2]) ++ List.replicate (4 - (lg_sl ([.ref (a 0), .int p1, .int p2])).length) Slot.unset).toArray = ls at hl ⊢
  have hl : lv_has ls 4 [(0, .ref (a 0)), (1, .int p1), (2, .int p2)] := hl
  have M0 : ∀ (H : Heap) (locs : List Loc) (ls : Array Slot), fX8_scanFault x p1 p2 = some res → va_P D vwCl (W_Model cI a x) H → va_D A (W_Model cI a x) → va_S A s.heap H locs → lv_has ls 4 [(0, .ref (a 0)), (1, .int p1), (2, .int p2)] → W p l e ({ frames := 2, cells := 0, slots := 0, locals := 42 } : Room) s m ([.ref (a 0), .int p1, .int p2] : List Value).toArray below meth c H locs 0 0 (MQ below (QW D (TY cI cV cJ cD) (W_Model cI a x) A (some (.int res))) (([.ref (a 0), .int p1, .int p2] : List Value).toArray) s 0 0 A) (F0 m 0 ls []) := by
    intro H locs ls hf hP hD hS hl
    dsimp only [fX8_scanFault] at hf
    refine lv_iload_n hx hb dX8_scanFault_0 rfl (lv_at hl 1 rfl) ?_
    obtain ⟨u1, hc2, hf⟩ := bind_t hf
    refine k_S (As := [.int p1]) (rest := []) (n := 1) ⟨hx, hb, hml, hown, hts⟩ (met_X8_isKey l p1 u1 hc2) w906 w907 w9 w908 ⟨by decide +kernel, by decide +kernel, by decide +kernel⟩ ⟨Nat.le_of_ble_eq_true rfl, Nat.le_of_ble_eq_true rfl⟩ hK hE hP hD hS hA (isC := []) (isR := [0, 1, 2, 3, 4, 5, 6, 7, 8, 9, 10, 11, 12, 13, 14]) (isB := [0, 1, 2, 3, 4, 5, 6, 7, 8, 9, 10, 11, 12, 13, 14]) (ws' := W_Model cI a x) ⟨([0, 1, 2, 3, 4, 5, 6, 7, 8, 9, 10, 11, 12, 13, 14] : List Nat).filterMap (fun i : Nat => (W_Model cI a x : va_W)[i]?), rfl, rfl, rfl, rfl, by decide, rfl, rfl⟩ rfl hl.1 rfl (Nat.le_of_ble_eq_true rfl) dX8_scanFault_1 ⟨Nat.le_of_ble_eq_true rfl, Nat.le_of_ble_eq_true rfl⟩ (fun H locs hP hD hS => ?_)
    try dsimp only at hf
    refine W.eq (g2 := F0 m 4 ls [.int u1]) rfl ?_
    refine lv_istore_n (lv' := [(3, .int u1), (0, .ref (a 0)), (1, .int p1), (2, .int p2)]) hx hb dX8_scanFault_4 rfl hl (by decide) rfl (fun ls hl => ?_)
    refine lv_iload_n hx hb dX8_scanFault_5 rfl (lv_at hl 0 rfl) ?_
    refine lv_if_ne (tgt := 13) hx hb dX8_scanFault_6 (by decide) (fun c3 => ?_) (fun c3 => ?_)
    · replace hf := if_f c3 hf
      refine lv_iload_n hx hb dX8_scanFault_13 rfl (lv_at hl 3 rfl) ?_
      refine lv_iconst (v := 0) hx hb dX8_scanFault_14 (by decide) ?_
      refine lv_sipush (v := 1023) hx hb dX8_scanFault_15 (by decide) ?_
      obtain ⟨u4, hc5, hf⟩ := bind_t hf
      refine k_S (As := [.int p2, .int 0, .int 1023]) (rest := []) (n := 3) ⟨hx, hb, hml, hown, hts⟩ (met_X8_isIn l p2 0 1023 u4 hc5) w909 w910 w9 w911 ⟨by decide +kernel, by decide +kernel, by decide +kernel⟩ ⟨Nat.le_of_ble_eq_true rfl, Nat.le_of_ble_eq_true rfl⟩ hK hE hP hD hS hA (isC := []) (isR := [0, 1, 2, 3, 4, 5, 6, 7, 8, 9, 10, 11, 12, 13, 14]) (isB := [0, 1, 2, 3, 4, 5, 6, 7, 8, 9, 10, 11, 12, 13, 14]) (ws' := W_Model cI a x) ⟨([0, 1, 2, 3, 4, 5, 6, 7, 8, 9, 10, 11, 12, 13, 14] : List Nat).filterMap (fun i : Nat => (W_Model cI a x : va_W)[i]?), rfl, rfl, rfl, rfl, by decide, rfl, rfl⟩ rfl hl.1 rfl (Nat.le_of_ble_eq_true rfl) dX8_scanFault_18 ⟨Nat.le_of_ble_eq_true rfl, Nat.le_of_ble_eq_true rfl⟩ (fun H locs hP hD hS => ?_)
      try dsimp only at hf
      refine W.eq (g2 := F0 m 21 ls [.int u4]) rfl ?_
      refine lv_if_ne (tgt := 28) hx hb dX8_scanFault_21 (by decide) (fun c6 => ?_) (fun c6 => ?_)
      · replace hf := if_f c6 hf
        refine lv_aload_n hx hb dX8_scanFault_28 rfl (lv_at hl 1 rfl) ?_
        refine lv_iload_n hx hb dX8_scanFault_29 rfl (lv_at hl 2 rfl) ?_
        obtain ⟨u7, hc8, hf⟩ := bind_t hf
        refine k_V (As := [.int p1]) (rest := []) (n := 1) ⟨hx, hb, hml, hown, hts⟩ (met_X8_typeNow l a x p1 u7 hc8) w912 w914 ws25 w9 w915 ⟨rfl, by decide +kernel, by decide +kernel, by decide +kernel⟩ ⟨Nat.le_of_ble_eq_true rfl, Nat.le_of_ble_eq_true rfl⟩ hK hE hP hD hS hA (isC := [0, 1, 2, 3, 4, 5, 6, 7, 8, 9, 10, 11, 12, 13, 14]) (isR := []) (isB := [0, 1, 2, 3, 4, 5, 6, 7, 8, 9, 10, 11, 12, 13, 14]) (ws' := W_Model cI a x) ⟨([] : List Nat).filterMap (fun i : Nat => (W_Model cI a x : va_W)[i]?), rfl, rfl, rfl, rfl, by decide, rfl, rfl⟩ 0 7 rfl rfl rfl rfl hl.1 rfl (Nat.le_of_ble_eq_true rfl) dX8_scanFault_30 ⟨Nat.le_of_ble_eq_true rfl, Nat.le_of_ble_eq_true rfl⟩ (fun H locs hP hD hS => ?_)
        try dsimp only at hf
        refine W.eq (g2 := F0 m 33 ls [.int u7]) rfl ?_
        refine lv_iconst (v := 2) hx hb dX8_scanFault_33 (by decide) ?_
        refine lv_icmp_ne (tgt := 41) hx hb dX8_scanFault_34 (by decide) (fun c9 => ?_) (fun c9 => ?_)
        · replace hf := if_f c9 hf
          refine lv_iconst (v := 3) hx hb dX8_scanFault_41 (by decide) ?_
          obtain rfl := Option.some.inj hf
          exact W.iret (v := 3) hx hb hr (fun t ht hW => ⟨rfl, by rw [ht]; exact hP, va_K.moved hW.alike hK, hD, hS.F ht⟩) hS.2.2 dX8_scanFault_42 hlocks
        · replace hf := if_t c9 hf
          refine lv_iconst (v := 0) hx hb dX8_scanFault_37 (by decide) ?_
          refine lv_goto (tgt := 42) hx hb dX8_scanFault_38 (by decide) ?_
          obtain rfl := Option.some.inj hf
          exact W.iret (v := 0) hx hb hr (fun t ht hW => ⟨rfl, by rw [ht]; exact hP, va_K.moved hW.alike hK, hD, hS.F ht⟩) hS.2.2 dX8_scanFault_42 hlocks
      · replace hf := if_t c6 hf
        refine lv_iconst (v := 2) hx hb dX8_scanFault_24 (by decide) ?_
        refine lv_goto (tgt := 42) hx hb dX8_scanFault_25 (by decide) ?_
        obtain rfl := Option.some.inj hf
        exact W.iret (v := 2) hx hb hr (fun t ht hW => ⟨rfl, by rw [ht]; exact hP, va_K.moved hW.alike hK, hD, hS.F ht⟩) hS.2.2 dX8_scanFault_42 hlocks
    · replace hf := if_t c3 hf
      refine lv_iconst (v := 1) hx hb dX8_scanFault_9 (by decide) ?_
      refine lv_goto (tgt := 42) hx hb dX8_scanFault_10 (by decide) ?_
      obtain rfl := Option.some.inj hf
      exact W.iret (v := 1) hx hb hr (fun t ht hW => ⟨rfl, by rw [ht]; exact hP, va_K.moved hW.alike hK, hD, hS.F ht⟩) hS.2.2 dX8_scanFault_42 hlocks
  exact M0 s.heap [] ls hf hP hD hS hl
/-! CompactformsModel.backwards(II)I -/
def fX8_backwards_5 (x : MSt) (v1 : Int32) (v2 : Int32) (rec5 : Int32 × Int32 → Option (Int32)) (s : Int32 × Int32) : Option (Int32) := match s with | (v3, v4) => chk (inb v1 16) ((if ((mBuckets x) (v1).toNatClampNeg) ≤ v4 then some v3 else (if (v2 &&& v4) = 0 then keep ((2 * v3) + 0) (fun y6 => keep (v4 * 2) (fun y7 => rec5 (y6, y7))) else keep ((2 * v3) + 1) (fun y4 => keep (v4 * 2) (fun y5 => rec5 (y4, y5))))))
def fX8_backwards (x : MSt) (p1 : Int32) (p2 : Int32) : Option (Int32) := iterK FU (fX8_backwards_5 x p1 p2) (0, 1)
set_option maxHeartbeats 4000000 in
set_option maxRecDepth 100000 in
theorem met_X8_backwards {D : va_G} {cI cV cJ cD : ClassId} (l : Launch) (a : Nat → Nat) (x : MSt) (p1 : Int32) (p2 : Int32) (res : Int32) (hf : fX8_backwards x p1 p2 = some res) : MM l yX8_backwards cX8_backwards 5 (some .int) { frames := 0, cells := 0, slots := 0, locals := 0 } D (TY cI cV cJ cD) (W_Model cI a x) (W_Model cI a x) [.ref (a 0), .int p1, .int p2] (some (.int res)) := by
  intro sz
  refine Met.ofW (cc := cX8_backwards) (maxL := 5) (ret := (some .int)) (by decide +kernel) rfl ?_
  intro p e s m args below meth c s₁ B hml hv
  obtain ⟨rfl, hsz, hP, hK, hD0, hE⟩ := hv
  have hx := B.exec
  have hb := B.bytes
  have hr := B.returns
  have hts := atoms_spec (ws := .code yX8_backwards cX8_backwards 5 (some .int) :: GW) B.pre
  have hg : ∀ w ∈ GW, w.before (([.ref (a 0), .int p1, .int p2] : List Value).toArray) s = true := fun w h => hts w (List.mem_cons_of_mem _ h)
  have hown : s.vm.findClass RX8 = some m.cls := findClass_of_methodNamed B.named
  have hlocks := B.notSynchronized
  subst hsz
  have hD := hD0.self (sz := s.heap.size)
  generalize hAe : va_A (W_Model cI a x) s.heap.size = A at hD hE ⊢
  have hA : ∀ q : Nat, s.heap.size ≤ q → A q := fun q h => by rw [← hAe]; exact Or.inr h
  have hS : va_S A s.heap s.heap [] := va_S.rf
  have hl := lv_entry ([.ref (a 0), .int p1, .int p2]) (n := 5) (Nat.le_of_ble_eq_true rfl)
  rw [lg_entry_eq]
  generalize (lg_sl ([.ref (a 0), .int p1, .int p2]) ++ List.replicate (5 - (lg_sl ([.ref (a 0), .int p1, .int p2])).length) Slot.unset).toArray = ls at hl ⊢
  have hl : lv_has ls 5 [(0, .ref (a 0)), (1, .int p1), (2, .int p2)] := hl
  have S5 : ∀ (x : MSt) (v1 : Int32) (v2 : Int32) (rec5 : Int32 × Int32 → Option (Int32)) (hrec5 : ∀ (v3 : Int32), ∀ (v4 : Int32), ∀ (H : Heap) (locs : List Loc) (ls : Array Slot), rec5 (v3, v4) = some res → va_P D vwCl (W_Model cI a x) H → va_D A (W_Model cI a x) → va_S A s.heap H locs → lv_has ls 5 [(0, .ref (a 0)), (1, .int v1), (2, .int v2), (3, .int v3), (4, .int v4)] → W p l e ({ frames := 0, cells := 0, slots := 0, locals := 0 } : Room) s m ([.ref (a 0), .int p1, .int p2] : List Value).toArray below meth c H locs 0 0 (MQ below (QW D (TY cI cV cJ cD) (W_Model cI a x) A (some (.int res))) (([.ref (a 0), .int p1, .int p2] : List Value).toArray) s 0 0 A) (F0 m 5 ls [])) (v3 : Int32) (v4 : Int32) (H : Heap) (locs : List Loc) (ls : Array Slot), fX8_backwards_5 x v1 v2  rec5 (v3, v4) = some res → va_P D vwCl (W_Model cI a x) H → va_D A (W_Model cI a x) → va_S A s.heap H locs → lv_has ls 5 [(0, .ref (a 0)), (1, .int v1), (2, .int v2), (3, .int v3), (4, .int v4)] → W p l e ({ frames := 0, cells := 0, slots := 0, locals := 0 } : Room) s m ([.ref (a 0), .int p1, .int p2] : List Value).toArray below meth c H locs 0 0 (MQ below (QW D (TY cI cV cJ cD) (W_Model cI a x) A (some (.int res))) (([.ref (a 0), .int p1, .int p2] : List Value).toArray) s 0 0 A) (F0 m 5 ls []) := by
    intro x v1 v2 rec5 hrec5 v3 v4 H locs ls hf hP hD hS hl
    dsimp only [fX8_backwards_5] at hf
    refine lv_iload hx hb dX8_backwards_5 (lv_at hl 4 rfl) ?_
    refine lv_aload_n hx hb dX8_backwards_7 rfl (lv_at hl 0 rfl) ?_
    refine va_get (D := D) (ci := 7) (v := .ref (a 5)) (C := RX8) (T := TX8) (N := 24) hx hb hg in_X8 hown hK hP 0 rfl rfl 6 (by decide) (hg _ w831) (fun _ h9 => h9) rfl dX8_backwards_8 ?_
    refine lv_iload_n hx hb dX8_backwards_11 rfl (lv_at hl 1 rfl) ?_
    obtain ⟨hi1, hf⟩ := chk_t hf
    refine va_iald hx hb hK hP 5 0 rfl rfl (inb_in hi1) dX8_backwards_12 ?_
    refine lv_icmp_ge (tgt := 42) hx hb dX8_backwards_13 (by decide) (fun c2 => ?_) (fun c2 => ?_)
    · replace hf := if_t c2 hf
      refine lv_iload_n hx hb dX8_backwards_42 rfl (lv_at hl 3 rfl) ?_
      obtain rfl := Option.some.inj hf
      exact W.iret (v := v3) hx hb hr (fun t ht hW => ⟨rfl, by rw [ht]; exact hP, va_K.moved hW.alike hK, hD, hS.F ht⟩) hS.2.2 dX8_backwards_43 hlocks
    · replace hf := if_f c2 hf
      refine lv_iconst (v := 2) hx hb dX8_backwards_16 (by decide) ?_
      refine lv_iload_n hx hb dX8_backwards_17 rfl (lv_at hl 3 rfl) ?_
      refine lv_imul hx hb dX8_backwards_18 ?_
      refine lv_iload_n hx hb dX8_backwards_19 rfl (lv_at hl 2 rfl) ?_
      refine lv_iload hx hb dX8_backwards_20 (lv_at hl 4 rfl) ?_
      refine lv_iand hx hb dX8_backwards_22 ?_
      refine lv_if_ne (tgt := 30) hx hb dX8_backwards_23 (by decide) (fun c3 => ?_) (fun c3 => ?_)
      · replace hf := if_f c3 hf
        refine lv_iconst (v := 1) hx hb dX8_backwards_30 (by decide) ?_
        refine lv_iadd hx hb dX8_backwards_31 ?_
        refine lv_topi (fun y4 hy4 => ?_)
        replace hf := keep_e hf y4 hy4
        refine lv_istore_n (lv' := [(3, .int y4), (0, .ref (a 0)), (1, .int v1), (2, .int v2), (4, .int v4)]) hx hb dX8_backwards_32 rfl hl (by decide) rfl (fun ls hl => ?_)
        refine lv_iload hx hb dX8_backwards_33 (lv_at hl 4 rfl) ?_
        refine lv_iconst (v := 2) hx hb dX8_backwards_35 (by decide) ?_
        refine lv_imul hx hb dX8_backwards_36 ?_
        refine lv_topi (fun y5 hy5 => ?_)
        replace hf := keep_e hf y5 hy5
        refine lv_istore (lv' := [(4, .int y5), (3, .int y4), (0, .ref (a 0)), (1, .int v1), (2, .int v2)]) hx hb dX8_backwards_37 hl (by decide) rfl (fun ls hl => ?_)
        refine lv_goto (tgt := 5) hx hb dX8_backwards_39 (by decide) ?_
        exact hrec5 y4 y5 H locs ls hf hP hD hS (lv_sub hl [2, 3, 4, 1, 0] rfl)
      · replace hf := if_t c3 hf
        refine lv_iconst (v := 0) hx hb dX8_backwards_26 (by decide) ?_
        refine lv_goto (tgt := 31) hx hb dX8_backwards_27 (by decide) ?_
        refine lv_iadd hx hb dX8_backwards_31 ?_
        refine lv_topi (fun y6 hy6 => ?_)
        replace hf := keep_e hf y6 hy6
        refine lv_istore_n (lv' := [(3, .int y6), (0, .ref (a 0)), (1, .int v1), (2, .int v2), (4, .int v4)]) hx hb dX8_backwards_32 rfl hl (by decide) rfl (fun ls hl => ?_)
        refine lv_iload hx hb dX8_backwards_33 (lv_at hl 4 rfl) ?_
        refine lv_iconst (v := 2) hx hb dX8_backwards_35 (by decide) ?_
        refine lv_imul hx hb dX8_backwards_36 ?_
        refine lv_topi (fun y7 hy7 => ?_)
        replace hf := keep_e hf y7 hy7
        refine lv_istore (lv' := [(4, .int y7), (3, .int y6), (0, .ref (a 0)), (1, .int v1), (2, .int v2)]) hx hb dX8_backwards_37 hl (by decide) rfl (fun ls hl => ?_)
        refine lv_goto (tgt := 5) hx hb dX8_backwards_39 (by decide) ?_
        exact hrec5 y6 y7 H locs ls hf hP hD hS (lv_sub hl [2, 3, 4, 1, 0] rfl)
  have L5 : ∀ (x : MSt) (v1 : Int32) (v2 : Int32) (fu : Nat) (v3 : Int32) (v4 : Int32) (H : Heap) (locs : List Loc) (ls : Array Slot), iterK fu (fX8_backwards_5 x v1 v2 ) (v3, v4) = some res → va_P D vwCl (W_Model cI a x) H → va_D A (W_Model cI a x) → va_S A s.heap H locs → lv_has ls 5 [(0, .ref (a 0)), (1, .int v1), (2, .int v2), (3, .int v3), (4, .int v4)] → W p l e ({ frames := 0, cells := 0, slots := 0, locals := 0 } : Room) s m ([.ref (a 0), .int p1, .int p2] : List Value).toArray below meth c H locs 0 0 (MQ below (QW D (TY cI cV cJ cD) (W_Model cI a x) A (some (.int res))) (([.ref (a 0), .int p1, .int p2] : List Value).toArray) s 0 0 A) (F0 m 5 ls []) := by
    intro x v1 v2 fu
    induction fu with
    | zero =>
      intro v3 v4 H locs ls hf
      cases hf
    | succ fu ih =>
      intro v3 v4 H locs ls hf hP hD hS hl
      exact S5 x v1 v2 (iterK fu (fX8_backwards_5 x v1 v2 )) ih v3 v4 H locs ls hf hP hD hS hl
  have M0 : ∀ (H : Heap) (locs : List Loc) (ls : Array Slot), fX8_backwards x p1 p2 = some res → va_P D vwCl (W_Model cI a x) H → va_D A (W_Model cI a x) → va_S A s.heap H locs → lv_has ls 5 [(0, .ref (a 0)), (1, .int p1), (2, .int p2)] → W p l e ({ frames := 0, cells := 0, slots := 0, locals := 0 } : Room) s m ([.ref (a 0), .int p1, .int p2] : List Value).toArray below meth c H locs 0 0 (MQ below (QW D (TY cI cV cJ cD) (W_Model cI a x) A (some (.int res))) (([.ref (a 0), .int p1, .int p2] : List Value).toArray) s 0 0 A) (F0 m 0 ls []) := by
    intro H locs ls hf hP hD hS hl
    dsimp only [fX8_backwards] at hf
    refine lv_iconst (v := 0) hx hb dX8_backwards_0 (by decide) ?_
    refine lv_istore_n (lv' := [(3, .int 0), (0, .ref (a 0)), (1, .int p1), (2, .int p2)]) hx hb dX8_backwards_1 rfl hl (by decide) rfl (fun ls hl => ?_)
    refine lv_iconst (v := 1) hx hb dX8_backwards_2 (by decide) ?_
    refine lv_istore (lv' := [(4, .int 1), (3, .int 0), (0, .ref (a 0)), (1, .int p1), (2, .int p2)]) hx hb dX8_backwards_3 hl (by decide) rfl (fun ls hl => ?_)
    exact L5 x p1 p2 FU 0 1 H locs ls hf hP hD hS (lv_sub hl [2, 3, 4, 1, 0] rfl)
  exact M0 s.heap [] ls hf hP hD hS hl
/-! CompactformsModel.next(II)I -/
def fX8_next (x : MSt) (p1 : Int32) (p2 : Int32) : Option (MSt × Int32) := (fX8_scanFault x p1 p2).bind (fun u1 => (fX8_can x u1).bind (fun u3 => keep u3.1 (fun x5 => (if u3.2 = 0 then some (x5, 0) else chk (inb p1 16) ((if ((mForm x5) (p1).toNatClampNeg) = 1 then some (x5, 0) else chk (inb p1 16) (chk (decide (¬ ((mBuckets x5) (p1).toNatClampNeg) = 0)) ((fX8_backwards x5 p1 (p2 - p2 / ((mBuckets x5) (p1).toNatClampNeg) * ((mBuckets x5) (p1).toNatClampNeg))).bind (fun u11 => chk (inb p1 16) (chk (decide (¬ ((mBuckets x5) (p1).toNatClampNeg) = 0)) ((fX8_backwards x5 p1 ((u11 + 1) - (u11 + 1) / ((mBuckets x5) (p1).toNatClampNeg) * ((mBuckets x5) (p1).toNatClampNeg))).bind (fun u15 => some (x5, u15)))))))))))))
set_option maxHeartbeats 4000000 in
set_option maxRecDepth 100000 in
theorem met_X8_next {D : va_G} {cI cV cJ cD : ClassId} (l : Launch) (a : Nat → Nat) (x : MSt) (p1 : Int32) (p2 : Int32) (res : MSt × Int32) (hf : fX8_next x p1 p2 = some res) : MM l yX8_next cX8_next 3 (some .int) { frames := 3, cells := 0, slots := 0, locals := 65 } D (TY cI cV cJ cD) (W_Model cI a x) (W_Model cI a res.1) [.ref (a 0), .int p1, .int p2] (some (.int res.2)) := by
  intro sz
  refine Met.ofW (cc := cX8_next) (maxL := 3) (ret := (some .int)) (by decide +kernel) rfl ?_
  intro p e s m args below meth c s₁ B hml hv
  obtain ⟨rfl, hsz, hP, hK, hD0, hE⟩ := hv
  have hx := B.exec
  have hb := B.bytes
  have hr := B.returns
  have hts := atoms_spec (ws := .code yX8_next cX8_next 3 (some .int) :: GW) B.pre
  have hg : ∀ w ∈ GW, w.before (([.ref (a 0), .int p1, .int p2] : List Value).toArray) s = true := fun w h => hts w (List.mem_cons_of_mem _ h)
  have hown : s.vm.findClass RX8 = some m.cls := findClass_of_methodNamed B.named
  have hlocks := B.notSynchronized
  subst hsz
  have hD := hD0.self (sz := s.heap.size)
  generalize hAe : va_A (W_Model cI a x) s.heap.size = A at hD hE ⊢
  have hA : ∀ q : Nat, s.heap.size ≤ q → A q := fun q h => by rw [← hAe]; exact Or.inr h
  have hS : va_S A s.heap s.heap [] := va_S.rf
  have hl := lv_entry ([.ref (a 0), .int p1, .int p2]) (n := 3) (Nat.le_of_ble_eq_true rfl)
  rw [lg_entry_eq]
  generalize (lg_sl ([.ref (a 0), .int p1, .int p2]) ++ List.replicate (3 - (lg_sl ([.ref (a 0), .int p1, .int p2])).length) Slot.unset).toArray = ls at hl ⊢
  have hl : lv_has ls 3 [(0, .ref (a 0)), (1, .int p1), (2, .int p2)] := hl
  have M0 : ∀ (H : Heap) (locs : List Loc) (ls : Array Slot), fX8_next x p1 p2 = some res → va_P D vwCl (W_Model cI a x) H → va_D A (W_Model cI a x) → va_S A s.heap H locs → lv_has ls 3 [(0, .ref (a 0)), (1, .int p1), (2, .int p2)] → W p l e ({ frames := 3, cells := 0, slots := 0, locals := 65 } : Room) s m ([.ref (a 0), .int p1, .int p2] : List Value).toArray below meth c H locs 0 0 (MQ below (QW D (TY cI cV cJ cD) (W_Model cI a res.1) A (some (.int res.2))) (([.ref (a 0), .int p1, .int p2] : List Value).toArray) s 0 0 A) (F0 m 0 ls []) := by
    intro H locs ls hf hP hD hS hl
    dsimp only [fX8_next] at hf
    refine lv_aload_n hx hb dX8_next_0 rfl (lv_at hl 0 rfl) ?_
    refine lv_aload_n hx hb dX8_next_1 rfl (lv_at hl 0 rfl) ?_
    refine lv_iload_n hx hb dX8_next_2 rfl (lv_at hl 1 rfl) ?_
    refine lv_iload_n hx hb dX8_next_3 rfl (lv_at hl 2 rfl) ?_
    obtain ⟨u1, hc2, hf⟩ := bind_t hf
    refine k_V (As := [.int p1, .int p2]) (rest := [.ref (a 0)]) (n := 2) ⟨hx, hb, hml, hown, hts⟩ (met_X8_scanFault l a x p1 p2 u1 hc2) w1156 w1158 ws53 w9 w1159 ⟨rfl, by decide +kernel, by decide +kernel, by decide +kernel⟩ ⟨Nat.le_of_ble_eq_true rfl, Nat.le_of_ble_eq_true rfl⟩ hK hE hP hD hS hA (isC := [0, 1, 2, 3, 4, 5, 6, 7, 8, 9, 10, 11, 12, 13, 14]) (isR := []) (isB := [0, 1, 2, 3, 4, 5, 6, 7, 8, 9, 10, 11, 12, 13, 14]) (ws' := W_Model cI a x) ⟨([] : List Nat).filterMap (fun i : Nat => (W_Model cI a x : va_W)[i]?), rfl, rfl, rfl, rfl, by decide, rfl, rfl⟩ 0 7 rfl rfl rfl rfl hl.1 rfl (Nat.le_of_ble_eq_true rfl) dX8_next_4 ⟨Nat.le_of_ble_eq_true rfl, Nat.le_of_ble_eq_true rfl⟩ (fun H locs hP hD hS => ?_)
    try dsimp only at hf
    refine W.eq (g2 := F0 m 7 ls [.int u1, .ref (a 0)]) rfl ?_
    obtain ⟨u3, hc4, hf⟩ := bind_t hf
    refine k_V (As := [.int u1]) (rest := []) (n := 1) ⟨hx, hb, hml, hown, hts⟩ (met_X8_can l a x u1 u3 hc4) w927 w929 ws28 w9 w930 ⟨rfl, by decide +kernel, by decide +kernel, by decide +kernel⟩ ⟨Nat.le_of_ble_eq_true rfl, Nat.le_of_ble_eq_true rfl⟩ hK hE hP hD hS hA (isC := [0, 1, 2, 3, 4, 5, 6, 7, 8, 9, 10, 11, 12, 13, 14]) (isR := []) (isB := [0, 1, 2, 3, 4, 5, 6, 7, 8, 9, 10, 11, 12, 13, 14]) (ws' := W_Model cI a u3.1) ⟨([] : List Nat).filterMap (fun i : Nat => (W_Model cI a x : va_W)[i]?), rfl, rfl, rfl, rfl, by decide, rfl, rfl⟩ 0 7 rfl rfl rfl rfl hl.1 rfl (Nat.le_of_ble_eq_true rfl) dX8_next_7 ⟨Nat.le_of_ble_eq_true rfl, Nat.le_of_ble_eq_true rfl⟩ (fun H locs hP hD hS => ?_)
    try dsimp only at hf
    refine W.eq (g2 := F0 m 10 ls [.int u3.2]) rfl ?_
    obtain ⟨x5, hx5⟩ : ∃ z, z = u3.1 := ⟨_, rfl⟩
    replace hf := keep_e hf x5 hx5
    have hP : va_P D vwCl (W_Model cI a x5) H := by rw [hx5]; exact hP
    have hD : va_D A (W_Model cI a x5) := by rw [hx5]; exact hD
    refine lv_if_eq (tgt := 23) hx hb dX8_next_10 (by decide) (fun c6 => ?_) (fun c6 => ?_)
    · replace hf := if_t c6 hf
      refine lv_iconst (v := 0) hx hb dX8_next_23 (by decide) ?_
      obtain rfl := Option.some.inj hf
      exact W.iret (v := 0) hx hb hr (fun t ht hW => ⟨rfl, by rw [ht]; exact hP, va_K.moved hW.alike hK, hD, hS.F ht⟩) hS.2.2 dX8_next_24 hlocks
    · replace hf := if_f c6 hf
      refine lv_aload_n hx hb dX8_next_13 rfl (lv_at hl 0 rfl) ?_
      refine va_get (D := D) (ci := 7) (v := .ref (a 3)) (C := RX8) (T := TX8) (N := 24) hx hb hg in_X8 hown hK hP 0 rfl rfl 4 (by decide) (hg _ w829) (fun _ h9 => h9) rfl dX8_next_14 ?_
      refine lv_iload_n hx hb dX8_next_17 rfl (lv_at hl 1 rfl) ?_
      obtain ⟨hi7, hf⟩ := chk_t hf
      refine va_iald hx hb hK hP 3 0 rfl rfl (inb_in hi7) dX8_next_18 ?_
      refine lv_iconst (v := 1) hx hb dX8_next_19 (by decide) ?_
      refine lv_icmp_ne (tgt := 25) hx hb dX8_next_20 (by decide) (fun c8 => ?_) (fun c8 => ?_)
      · replace hf := if_f c8 hf
        refine lv_aload_n hx hb dX8_next_25 rfl (lv_at hl 0 rfl) ?_
        refine lv_iload_n hx hb dX8_next_26 rfl (lv_at hl 1 rfl) ?_
        refine lv_aload_n hx hb dX8_next_27 rfl (lv_at hl 0 rfl) ?_
        refine lv_iload_n hx hb dX8_next_28 rfl (lv_at hl 1 rfl) ?_
        refine lv_iload_n hx hb dX8_next_29 rfl (lv_at hl 2 rfl) ?_
        refine lv_aload_n hx hb dX8_next_30 rfl (lv_at hl 0 rfl) ?_
        refine va_get (D := D) (ci := 7) (v := .ref (a 5)) (C := RX8) (T := TX8) (N := 24) hx hb hg in_X8 hown hK hP 0 rfl rfl 6 (by decide) (hg _ w831) (fun _ h9 => h9) rfl dX8_next_31 ?_
        refine lv_iload_n hx hb dX8_next_34 rfl (lv_at hl 1 rfl) ?_
        obtain ⟨hi9, hf⟩ := chk_t hf
        refine va_iald hx hb hK hP 5 0 rfl rfl (inb_in hi9) dX8_next_35 ?_
        obtain ⟨hz10, hf⟩ := chk_t hf
        refine lv_irem hx hb dX8_next_36 (of_decide_eq_true hz10) ?_
        obtain ⟨u11, hc12, hf⟩ := bind_t hf
        refine k_V (As := [.int p1, .int (p2 - p2 / ((mBuckets x5) (p1).toNatClampNeg) * ((mBuckets x5) (p1).toNatClampNeg))]) (rest := [.int p1, .ref (a 0)]) (n := 2) ⟨hx, hb, hml, hown, hts⟩ (met_X8_backwards l a x5 p1 (p2 - p2 / ((mBuckets x5) (p1).toNatClampNeg) * ((mBuckets x5) (p1).toNatClampNeg)) u11 hc12) w1160 w1162 ws54 w9 w1163 ⟨rfl, by decide +kernel, by decide +kernel, by decide +kernel⟩ ⟨Nat.le_of_ble_eq_true rfl, Nat.le_of_ble_eq_true rfl⟩ hK hE hP hD hS hA (isC := [0, 1, 2, 3, 4, 5, 6, 7, 8, 9, 10, 11, 12, 13, 14]) (isR := []) (isB := [0, 1, 2, 3, 4, 5, 6, 7, 8, 9, 10, 11, 12, 13, 14]) (ws' := W_Model cI a x5) ⟨([] : List Nat).filterMap (fun i : Nat => (W_Model cI a x5 : va_W)[i]?), rfl, rfl, rfl, rfl, by decide, rfl, rfl⟩ 0 7 rfl rfl rfl rfl hl.1 rfl (Nat.le_of_ble_eq_true rfl) dX8_next_37 ⟨Nat.le_of_ble_eq_true rfl, Nat.le_of_ble_eq_true rfl⟩ (fun H locs hP hD hS => ?_)
        try dsimp only at hf
        refine W.eq (g2 := F0 m 40 ls [.int u11, .int p1, .ref (a 0)]) rfl ?_
        refine lv_iconst (v := 1) hx hb dX8_next_40 (by decide) ?_
        refine lv_iadd hx hb dX8_next_41 ?_
        refine lv_aload_n hx hb dX8_next_42 rfl (lv_at hl 0 rfl) ?_
        refine va_get (D := D) (ci := 7) (v := .ref (a 5)) (C := RX8) (T := TX8) (N := 24) hx hb hg in_X8 hown hK hP 0 rfl rfl 6 (by decide) (hg _ w831) (fun _ h9 => h9) rfl dX8_next_43 ?_
        refine lv_iload_n hx hb dX8_next_46 rfl (lv_at hl 1 rfl) ?_
        obtain ⟨hi13, hf⟩ := chk_t hf
        refine va_iald hx hb hK hP 5 0 rfl rfl (inb_in hi13) dX8_next_47 ?_
        obtain ⟨hz14, hf⟩ := chk_t hf
        refine lv_irem hx hb dX8_next_48 (of_decide_eq_true hz14) ?_
        obtain ⟨u15, hc16, hf⟩ := bind_t hf
        refine k_V (As := [.int p1, .int ((u11 + 1) - (u11 + 1) / ((mBuckets x5) (p1).toNatClampNeg) * ((mBuckets x5) (p1).toNatClampNeg))]) (rest := []) (n := 2) ⟨hx, hb, hml, hown, hts⟩ (met_X8_backwards l a x5 p1 ((u11 + 1) - (u11 + 1) / ((mBuckets x5) (p1).toNatClampNeg) * ((mBuckets x5) (p1).toNatClampNeg)) u15 hc16) w1160 w1162 ws54 w9 w1163 ⟨rfl, by decide +kernel, by decide +kernel, by decide +kernel⟩ ⟨Nat.le_of_ble_eq_true rfl, Nat.le_of_ble_eq_true rfl⟩ hK hE hP hD hS hA (isC := [0, 1, 2, 3, 4, 5, 6, 7, 8, 9, 10, 11, 12, 13, 14]) (isR := []) (isB := [0, 1, 2, 3, 4, 5, 6, 7, 8, 9, 10, 11, 12, 13, 14]) (ws' := W_Model cI a x5) ⟨([] : List Nat).filterMap (fun i : Nat => (W_Model cI a x5 : va_W)[i]?), rfl, rfl, rfl, rfl, by decide, rfl, rfl⟩ 0 7 rfl rfl rfl rfl hl.1 rfl (Nat.le_of_ble_eq_true rfl) dX8_next_49 ⟨Nat.le_of_ble_eq_true rfl, Nat.le_of_ble_eq_true rfl⟩ (fun H locs hP hD hS => ?_)
        try dsimp only at hf
        refine W.eq (g2 := F0 m 52 ls [.int u15]) rfl ?_
        obtain rfl := Option.some.inj hf
        exact W.iret (v := u15) hx hb hr (fun t ht hW => ⟨rfl, by rw [ht]; exact hP, va_K.moved hW.alike hK, hD, hS.F ht⟩) hS.2.2 dX8_next_52 hlocks
      · replace hf := if_t c8 hf
        refine lv_iconst (v := 0) hx hb dX8_next_23 (by decide) ?_
        obtain rfl := Option.some.inj hf
        exact W.iret (v := 0) hx hb hr (fun t ht hW => ⟨rfl, by rw [ht]; exact hP, va_K.moved hW.alike hK, hD, hS.F ht⟩) hS.2.2 dX8_next_24 hlocks
  exact M0 s.heap [] ls hf hP hD hS hl
/-! CompactformsModel.scanned(III)I -/
def fX8_scanned_130 (rec27 : Int32 × Int32 × Int32 → Option (MSt × Int32)) (x : MSt) (v1 : Int32) (v2 : Int32) (v3 : Int32) (v4 : Int32) (v6 : Int32) (v8 : Int32) (s0 : Int32) : Option (MSt × Int32) := (if v8 = 0 then keep (v4 - 0) (fun y2 => keep (v6 + 1) (fun y3 => rec27 (y2, s0, y3))) else keep (v4 - 1) (fun y4 => keep (v6 + 1) (fun y5 => rec27 (y4, s0, y5))))
def fX8_scanned_128 (rec27 : Int32 × Int32 × Int32 → Option (MSt × Int32)) (x : MSt) (v1 : Int32) (v2 : Int32) (v3 : Int32) (v4 : Int32) (v5 : Int32) (v6 : Int32) (v8 : Int32) : Option (MSt × Int32) := fX8_scanned_130 rec27 x v1 v2 v3 v4 v6 v8 v5
def fX8_scanned_106 (rec27 : Int32 × Int32 × Int32 → Option (MSt × Int32)) (x : MSt) (v1 : Int32) (v2 : Int32) (v3 : Int32) (v4 : Int32) (v5 : Int32) (v6 : Int32) (s0 : Int32) : Option (MSt × Int32) := (if s0 = 0 then fX8_scanned_128 rec27 x v1 v2 v3 v4 v5 v6 s0 else (if v4 = 0 then chk (inb v6 640) (fX8_scanned_130 rec27 x v1 v2 v3 v4 v6 s0 ((mValues x) (v6).toNatClampNeg)) else fX8_scanned_128 rec27 x v1 v2 v3 v4 v5 v6 s0))
def fX8_scanned_101 (rec27 : Int32 × Int32 × Int32 → Option (MSt × Int32)) (x : MSt) (v1 : Int32) (v2 : Int32) (v3 : Int32) (v4 : Int32) (v5 : Int32) (v6 : Int32) : Option (MSt × Int32) := fX8_scanned_106 rec27 x v1 v2 v3 v4 v5 v6 1
def fX8_scanned_27 (x : MSt) (v1 : Int32) (v2 : Int32) (v3 : Int32) (rec27 : Int32 × Int32 × Int32 → Option (MSt × Int32)) (s : Int32 × Int32 × Int32) : Option (MSt × Int32) := match s with | (v4, v5, v6) => chk (inb v1 16) ((if ((40 * v1) + ((mSize x) (v1).toNatClampNeg)) ≤ v6 then some (x, v5) else (if v3 < 0 then some (x, v5) else chk (inb v6 640) (chk (inb v6 640) (keep ((193 * ((mValues x) (v6).toNatClampNeg)) + (((mValues x) (v6).toNatClampNeg) / 32)) (fun y14 => chk (inb v1 16) ((if ((mForm x) (v1).toNatClampNeg) = 1 then fX8_scanned_101 rec27 x v1 v2 v3 v4 v5 v6 else chk (inb v1 16) (chk (decide (¬ ((mBuckets x) (v1).toNatClampNeg) = 0)) (chk (inb v1 16) (chk (decide (¬ ((mBuckets x) (v1).toNatClampNeg) = 0)) ((if (y14 - y14 / ((mBuckets x) (v1).toNatClampNeg) * ((mBuckets x) (v1).toNatClampNeg)) = (v2 - v2 / ((mBuckets x) (v1).toNatClampNeg) * ((mBuckets x) (v1).toNatClampNeg)) then fX8_scanned_101 rec27 x v1 v2 v3 v4 v5 v6 else fX8_scanned_106 rec27 x v1 v2 v3 v4 v5 v6 0)))))))))))))
def fX8_scanned (x : MSt) (p1 : Int32) (p2 : Int32) (p3 : Int32) : Option (MSt × Int32) := (fX8_scanFault x p1 p2).bind (fun u22 => (fX8_can x u22).bind (fun u24 => keep u24.1 (fun x26 => (if u24.2 = 0 then some (x26, 0) else keep (40 * p1) (fun y28 => iterK FU (fX8_scanned_27 x26 p1 p2 p3) (p3, (-1), y28))))))
set_option maxHeartbeats 4000000 in
set_option maxRecDepth 100000 in
theorem met_X8_scanned {D : va_G} {cI cV cJ cD : ClassId} (l : Launch) (a : Nat → Nat) (x : MSt) (p1 : Int32) (p2 : Int32) (p3 : Int32) (res : MSt × Int32) (hf : fX8_scanned x p1 p2 p3 = some res) : MM l yX8_scanned cX8_scanned 9 (some .int) { frames := 3, cells := 0, slots := 0, locals := 65 } D (TY cI cV cJ cD) (W_Model cI a x) (W_Model cI a res.1) [.ref (a 0), .int p1, .int p2, .int p3] (some (.int res.2)) := by
  intro sz
  refine Met.ofW (cc := cX8_scanned) (maxL := 9) (ret := (some .int)) (by decide +kernel) rfl ?_
  intro p e s m args below meth c s₁ B hml hv
  obtain ⟨rfl, hsz, hP, hK, hD0, hE⟩ := hv
  have hx := B.exec
  have hb := B.bytes
  have hr := B.returns
  have hts := atoms_spec (ws := .code yX8_scanned cX8_scanned 9 (some .int) :: GW) B.pre
  have hg : ∀ w ∈ GW, w.before (([.ref (a 0), .int p1, .int p2, .int p3] : List Value).toArray) s = true := fun w h => hts w (List.mem_cons_of_mem _ h)
  have hown : s.vm.findClass RX8 = some m.cls := findClass_of_methodNamed B.named
  have hlocks := B.notSynchronized
  subst hsz
  have hD := hD0.self (sz := s.heap.size)
  generalize hAe : va_A (W_Model cI a x) s.heap.size = A at hD hE ⊢
  have hA : ∀ q : Nat, s.heap.size ≤ q → A q := fun q h => by rw [← hAe]; exact Or.inr h
  have hS : va_S A s.heap s.heap [] := va_S.rf
  have hl := lv_entry ([.ref (a 0), .int p1, .int p2, .int p3]) (n := 9) (Nat.le_of_ble_eq_true rfl)
  rw [lg_entry_eq]
  generalize (lg_sl ([.ref (a 0), .int p1, .int p2, .int p3]) ++ List.replicate (9 - (lg_sl ([.ref (a 0), .int p1, .int p2, .int p3])).length) Slot.unset).toArray = ls at hl ⊢
  have hl : lv_has ls 9 [(0, .ref (a 0)), (1, .int p1), (2, .int p2), (3, .int p3)] := hl
  have L130 : ∀ (x : MSt) (v1 : Int32) (v2 : Int32) (v3 : Int32) (v4 : Int32) (v6 : Int32) (v8 : Int32) (s0 : Int32) (rec27 : Int32 × Int32 × Int32 → Option (MSt × Int32)) (hrec27 : ∀ (v4 : Int32), ∀ (v5 : Int32), ∀ (v6 : Int32), ∀ (H : Heap) (locs : List Loc) (ls : Array Slot), rec27 (v4, v5, v6) = some res → va_P D vwCl (W_Model cI a x) H → va_D A (W_Model cI a x) → va_S A s.heap H locs → lv_has ls 9 [(0, .ref (a 0)), (1, .int v1), (2, .int v2), (3, .int v3), (4, .int v4), (5, .int v5), (6, .int v6)] → W p l e ({ frames := 3, cells := 0, slots := 0, locals := 65 } : Room) s m ([.ref (a 0), .int p1, .int p2, .int p3] : List Value).toArray below meth c H locs 0 0 (MQ below (QW D (TY cI cV cJ cD) (W_Model cI a res.1) A (some (.int res.2))) (([.ref (a 0), .int p1, .int p2, .int p3] : List Value).toArray) s 0 0 A) (F0 m 27 ls [])) (H : Heap) (locs : List Loc) (ls : Array Slot), fX8_scanned_130 rec27 x v1 v2 v3 v4 v6 v8 s0  = some res → va_P D vwCl (W_Model cI a x) H → va_D A (W_Model cI a x) → va_S A s.heap H locs → lv_has ls 9 [(0, .ref (a 0)), (1, .int v1), (2, .int v2), (3, .int v3), (4, .int v4), (6, .int v6), (8, .int v8)] → W p l e ({ frames := 3, cells := 0, slots := 0, locals := 65 } : Room) s m ([.ref (a 0), .int p1, .int p2, .int p3] : List Value).toArray below meth c H locs 0 0 (MQ below (QW D (TY cI cV cJ cD) (W_Model cI a res.1) A (some (.int res.2))) (([.ref (a 0), .int p1, .int p2, .int p3] : List Value).toArray) s 0 0 A) (F0 m 130 ls [.int s0]) := by
    intro x v1 v2 v3 v4 v6 v8 s0 rec27 hrec27 H locs ls hf hP hD hS hl
    dsimp only [fX8_scanned_130] at hf
    refine lv_istore (lv' := [(5, .int s0), (0, .ref (a 0)), (1, .int v1), (2, .int v2), (3, .int v3), (4, .int v4), (6, .int v6), (8, .int v8)]) hx hb dX8_scanned_130 hl (by decide) rfl (fun ls hl => ?_)
    refine lv_iload hx hb dX8_scanned_132 (lv_at hl 5 rfl) ?_
    refine lv_iload hx hb dX8_scanned_134 (lv_at hl 7 rfl) ?_
    refine lv_if_eq (tgt := 143) hx hb dX8_scanned_136 (by decide) (fun c1 => ?_) (fun c1 => ?_)
    · replace hf := if_t c1 hf
      refine lv_iconst (v := 0) hx hb dX8_scanned_143 (by decide) ?_
      refine lv_isub hx hb dX8_scanned_144 ?_
      refine lv_topi (fun y2 hy2 => ?_)
      replace hf := keep_e hf y2 hy2
      refine lv_istore (lv' := [(4, .int y2), (5, .int s0), (0, .ref (a 0)), (1, .int v1), (2, .int v2), (3, .int v3), (6, .int v6), (8, .int v8)]) hx hb dX8_scanned_145 hl (by decide) rfl (fun ls hl => ?_)
      obtain ⟨y3, hy3⟩ : ∃ z : Int32, z = (v6 + 1) := ⟨_, rfl⟩
      replace hf := keep_e hf y3 hy3
      refine lv_iinc (v := y3) (lv' := [(6, .int y3), (4, .int y2), (5, .int s0), (0, .ref (a 0)), (1, .int v1), (2, .int v2), (3, .int v3), (8, .int v8)]) hx hb dX8_scanned_147 hl (k := 6) rfl (by rw [hy3]; rfl) (by decide) rfl (fun ls hl => ?_)
      refine lv_goto (tgt := 27) hx hb dX8_scanned_150 (by decide) ?_
      exact hrec27 y2 s0 y3 H locs ls hf hP hD hS (lv_sub hl [3, 4, 5, 6, 1, 2, 0] rfl)
    · replace hf := if_f c1 hf
      refine lv_iconst (v := 1) hx hb dX8_scanned_139 (by decide) ?_
      refine lv_goto (tgt := 144) hx hb dX8_scanned_140 (by decide) ?_
      refine lv_isub hx hb dX8_scanned_144 ?_
      refine lv_topi (fun y4 hy4 => ?_)
      replace hf := keep_e hf y4 hy4
      refine lv_istore (lv' := [(4, .int y4), (5, .int s0), (0, .ref (a 0)), (1, .int v1), (2, .int v2), (3, .int v3), (6, .int v6), (8, .int v8)]) hx hb dX8_scanned_145 hl (by decide) rfl (fun ls hl => ?_)
      obtain ⟨y5, hy5⟩ : ∃ z : Int32, z = (v6 + 1) := ⟨_, rfl⟩
      replace hf := keep_e hf y5 hy5
      refine lv_iinc (v := y5) (lv' := [(6, .int y5), (4, .int y4), (5, .int s0), (0, .ref (a 0)), (1, .int v1), (2, .int v2), (3, .int v3), (8, .int v8)]) hx hb dX8_scanned_147 hl (k := 6) rfl (by rw [hy5]; rfl) (by decide) rfl (fun ls hl => ?_)
      refine lv_goto (tgt := 27) hx hb dX8_scanned_150 (by decide) ?_
      exact hrec27 y4 s0 y5 H locs ls hf hP hD hS (lv_sub hl [3, 4, 5, 6, 1, 2, 0] rfl)
  have L128 : ∀ (x : MSt) (v1 : Int32) (v2 : Int32) (v3 : Int32) (v4 : Int32) (v5 : Int32) (v6 : Int32) (v8 : Int32) (rec27 : Int32 × Int32 × Int32 → Option (MSt × Int32)) (hrec27 : ∀ (v4 : Int32), ∀ (v5 : Int32), ∀ (v6 : Int32), ∀ (H : Heap) (locs : List Loc) (ls : Array Slot), rec27 (v4, v5, v6) = some res → va_P D vwCl (W_Model cI a x) H → va_D A (W_Model cI a x) → va_S A s.heap H locs → lv_has ls 9 [(0, .ref (a 0)), (1, .int v1), (2, .int v2), (3, .int v3), (4, .int v4), (5, .int v5), (6, .int v6)] → W p l e ({ frames := 3, cells := 0, slots := 0, locals := 65 } : Room) s m ([.ref (a 0), .int p1, .int p2, .int p3] : List Value).toArray below meth c H locs 0 0 (MQ below (QW D (TY cI cV cJ cD) (W_Model cI a res.1) A (some (.int res.2))) (([.ref (a 0), .int p1, .int p2, .int p3] : List Value).toArray) s 0 0 A) (F0 m 27 ls [])) (H : Heap) (locs : List Loc) (ls : Array Slot), fX8_scanned_128 rec27 x v1 v2 v3 v4 v5 v6 v8  = some res → va_P D vwCl (W_Model cI a x) H → va_D A (W_Model cI a x) → va_S A s.heap H locs → lv_has ls 9 [(0, .ref (a 0)), (1, .int v1), (2, .int v2), (3, .int v3), (4, .int v4), (5, .int v5), (6, .int v6), (8, .int v8)] → W p l e ({ frames := 3, cells := 0, slots := 0, locals := 65 } : Room) s m ([.ref (a 0), .int p1, .int p2, .int p3] : List Value).toArray below meth c H locs 0 0 (MQ below (QW D (TY cI cV cJ cD) (W_Model cI a res.1) A (some (.int res.2))) (([.ref (a 0), .int p1, .int p2, .int p3] : List Value).toArray) s 0 0 A) (F0 m 128 ls []) := by
    intro x v1 v2 v3 v4 v5 v6 v8 rec27 hrec27 H locs ls hf hP hD hS hl
    dsimp only [fX8_scanned_128] at hf
    refine lv_iload hx hb dX8_scanned_128 (lv_at hl 5 rfl) ?_
    exact L130 x v1 v2 v3 v4 v6 v8 v5 rec27 hrec27 H locs ls hf hP hD hS (lv_sub hl [0, 1, 2, 3, 4, 6, 7] rfl)
  have L106 : ∀ (x : MSt) (v1 : Int32) (v2 : Int32) (v3 : Int32) (v4 : Int32) (v5 : Int32) (v6 : Int32) (s0 : Int32) (rec27 : Int32 × Int32 × Int32 → Option (MSt × Int32)) (hrec27 : ∀ (v4 : Int32), ∀ (v5 : Int32), ∀ (v6 : Int32), ∀ (H : Heap) (locs : List Loc) (ls : Array Slot), rec27 (v4, v5, v6) = some res → va_P D vwCl (W_Model cI a x) H → va_D A (W_Model cI a x) → va_S A s.heap H locs → lv_has ls 9 [(0, .ref (a 0)), (1, .int v1), (2, .int v2), (3, .int v3), (4, .int v4), (5, .int v5), (6, .int v6)] → W p l e ({ frames := 3, cells := 0, slots := 0, locals := 65 } : Room) s m ([.ref (a 0), .int p1, .int p2, .int p3] : List Value).toArray below meth c H locs 0 0 (MQ below (QW D (TY cI cV cJ cD) (W_Model cI a res.1) A (some (.int res.2))) (([.ref (a 0), .int p1, .int p2, .int p3] : List Value).toArray) s 0 0 A) (F0 m 27 ls [])) (H : Heap) (locs : List Loc) (ls : Array Slot), fX8_scanned_106 rec27 x v1 v2 v3 v4 v5 v6 s0  = some res → va_P D vwCl (W_Model cI a x) H → va_D A (W_Model cI a x) → va_S A s.heap H locs → lv_has ls 9 [(0, .ref (a 0)), (1, .int v1), (2, .int v2), (3, .int v3), (4, .int v4), (5, .int v5), (6, .int v6)] → W p l e ({ frames := 3, cells := 0, slots := 0, locals := 65 } : Room) s m ([.ref (a 0), .int p1, .int p2, .int p3] : List Value).toArray below meth c H locs 0 0 (MQ below (QW D (TY cI cV cJ cD) (W_Model cI a res.1) A (some (.int res.2))) (([.ref (a 0), .int p1, .int p2, .int p3] : List Value).toArray) s 0 0 A) (F0 m 106 ls [.int s0]) := by
    intro x v1 v2 v3 v4 v5 v6 s0 rec27 hrec27 H locs ls hf hP hD hS hl
    dsimp only [fX8_scanned_106] at hf
    refine lv_istore (lv' := [(8, .int s0), (0, .ref (a 0)), (1, .int v1), (2, .int v2), (3, .int v3), (4, .int v4), (5, .int v5), (6, .int v6)]) hx hb dX8_scanned_106 hl (by decide) rfl (fun ls hl => ?_)
    refine lv_iload hx hb dX8_scanned_108 (lv_at hl 0 rfl) ?_
    refine lv_if_eq (tgt := 128) hx hb dX8_scanned_110 (by decide) (fun c6 => ?_) (fun c6 => ?_)
    · replace hf := if_t c6 hf
      exact L128 x v1 v2 v3 v4 v5 v6 s0 rec27 hrec27 H locs ls hf hP hD hS (lv_sub hl [1, 2, 3, 4, 5, 6, 7, 0] rfl)
    · replace hf := if_f c6 hf
      refine lv_iload hx hb dX8_scanned_113 (lv_at hl 5 rfl) ?_
      refine lv_if_ne (tgt := 128) hx hb dX8_scanned_115 (by decide) (fun c7 => ?_) (fun c7 => ?_)
      · replace hf := if_f c7 hf
        exact L128 x v1 v2 v3 v4 v5 v6 s0 rec27 hrec27 H locs ls hf hP hD hS (lv_sub hl [1, 2, 3, 4, 5, 6, 7, 0] rfl)
      · replace hf := if_t c7 hf
        refine lv_aload_n hx hb dX8_scanned_118 rfl (lv_at hl 1 rfl) ?_
        refine va_get (D := D) (ci := 7) (v := .ref (a 6)) (C := RX8) (T := TX8) (N := 24) hx hb hg in_X8 hown hK hP 0 rfl rfl 7 (by decide) (hg _ w832) (fun _ h9 => h9) rfl dX8_scanned_119 ?_
        refine lv_iload hx hb dX8_scanned_122 (lv_at hl 7 rfl) ?_
        obtain ⟨hi8, hf⟩ := chk_t hf
        refine va_iald hx hb hK hP 6 0 rfl rfl (inb_in hi8) dX8_scanned_124 ?_
        refine lv_goto (tgt := 130) hx hb dX8_scanned_125 (by decide) ?_
        exact L130 x v1 v2 v3 v4 v6 s0 ((mValues x) (v6).toNatClampNeg) rec27 hrec27 H locs ls hf hP hD hS (lv_sub hl [1, 2, 3, 4, 5, 7, 0] rfl)
  have L101 : ∀ (x : MSt) (v1 : Int32) (v2 : Int32) (v3 : Int32) (v4 : Int32) (v5 : Int32) (v6 : Int32) (rec27 : Int32 × Int32 × Int32 → Option (MSt × Int32)) (hrec27 : ∀ (v4 : Int32), ∀ (v5 : Int32), ∀ (v6 : Int32), ∀ (H : Heap) (locs : List Loc) (ls : Array Slot), rec27 (v4, v5, v6) = some res → va_P D vwCl (W_Model cI a x) H → va_D A (W_Model cI a x) → va_S A s.heap H locs → lv_has ls 9 [(0, .ref (a 0)), (1, .int v1), (2, .int v2), (3, .int v3), (4, .int v4), (5, .int v5), (6, .int v6)] → W p l e ({ frames := 3, cells := 0, slots := 0, locals := 65 } : Room) s m ([.ref (a 0), .int p1, .int p2, .int p3] : List Value).toArray below meth c H locs 0 0 (MQ below (QW D (TY cI cV cJ cD) (W_Model cI a res.1) A (some (.int res.2))) (([.ref (a 0), .int p1, .int p2, .int p3] : List Value).toArray) s 0 0 A) (F0 m 27 ls [])) (H : Heap) (locs : List Loc) (ls : Array Slot), fX8_scanned_101 rec27 x v1 v2 v3 v4 v5 v6  = some res → va_P D vwCl (W_Model cI a x) H → va_D A (W_Model cI a x) → va_S A s.heap H locs → lv_has ls 9 [(0, .ref (a 0)), (1, .int v1), (2, .int v2), (3, .int v3), (4, .int v4), (5, .int v5), (6, .int v6)] → W p l e ({ frames := 3, cells := 0, slots := 0, locals := 65 } : Room) s m ([.ref (a 0), .int p1, .int p2, .int p3] : List Value).toArray below meth c H locs 0 0 (MQ below (QW D (TY cI cV cJ cD) (W_Model cI a res.1) A (some (.int res.2))) (([.ref (a 0), .int p1, .int p2, .int p3] : List Value).toArray) s 0 0 A) (F0 m 101 ls []) := by
    intro x v1 v2 v3 v4 v5 v6 rec27 hrec27 H locs ls hf hP hD hS hl
    dsimp only [fX8_scanned_101] at hf
    refine lv_iconst (v := 1) hx hb dX8_scanned_101 (by decide) ?_
    refine lv_goto (tgt := 106) hx hb dX8_scanned_102 (by decide) ?_
    exact L106 x v1 v2 v3 v4 v5 v6 1 rec27 hrec27 H locs ls hf hP hD hS (lv_sub hl [0, 1, 2, 3, 4, 5, 6] rfl)
  have S27 : ∀ (x : MSt) (v1 : Int32) (v2 : Int32) (v3 : Int32) (rec27 : Int32 × Int32 × Int32 → Option (MSt × Int32)) (hrec27 : ∀ (v4 : Int32), ∀ (v5 : Int32), ∀ (v6 : Int32), ∀ (H : Heap) (locs : List Loc) (ls : Array Slot), rec27 (v4, v5, v6) = some res → va_P D vwCl (W_Model cI a x) H → va_D A (W_Model cI a x) → va_S A s.heap H locs → lv_has ls 9 [(0, .ref (a 0)), (1, .int v1), (2, .int v2), (3, .int v3), (4, .int v4), (5, .int v5), (6, .int v6)] → W p l e ({ frames := 3, cells := 0, slots := 0, locals := 65 } : Room) s m ([.ref (a 0), .int p1, .int p2, .int p3] : List Value).toArray below meth c H locs 0 0 (MQ below (QW D (TY cI cV cJ cD) (W_Model cI a res.1) A (some (.int res.2))) (([.ref (a 0), .int p1, .int p2, .int p3] : List Value).toArray) s 0 0 A) (F0 m 27 ls [])) (v4 : Int32) (v5 : Int32) (v6 : Int32) (H : Heap) (locs : List Loc) (ls : Array Slot), fX8_scanned_27 x v1 v2 v3  rec27 (v4, v5, v6) = some res → va_P D vwCl (W_Model cI a x) H → va_D A (W_Model cI a x) → va_S A s.heap H locs → lv_has ls 9 [(0, .ref (a 0)), (1, .int v1), (2, .int v2), (3, .int v3), (4, .int v4), (5, .int v5), (6, .int v6)] → W p l e ({ frames := 3, cells := 0, slots := 0, locals := 65 } : Room) s m ([.ref (a 0), .int p1, .int p2, .int p3] : List Value).toArray below meth c H locs 0 0 (MQ below (QW D (TY cI cV cJ cD) (W_Model cI a res.1) A (some (.int res.2))) (([.ref (a 0), .int p1, .int p2, .int p3] : List Value).toArray) s 0 0 A) (F0 m 27 ls []) := by
    intro x v1 v2 v3 rec27 hrec27 v4 v5 v6 H locs ls hf hP hD hS hl
    dsimp only [fX8_scanned_27] at hf
    refine lv_iload hx hb dX8_scanned_27 (lv_at hl 6 rfl) ?_
    refine lv_bipush (v := 40) hx hb dX8_scanned_29 (by decide) ?_
    refine lv_iload_n hx hb dX8_scanned_31 rfl (lv_at hl 1 rfl) ?_
    refine lv_imul hx hb dX8_scanned_32 ?_
    refine lv_aload_n hx hb dX8_scanned_33 rfl (lv_at hl 0 rfl) ?_
    refine va_get (D := D) (ci := 7) (v := .ref (a 4)) (C := RX8) (T := TX8) (N := 24) hx hb hg in_X8 hown hK hP 0 rfl rfl 5 (by decide) (hg _ w830) (fun _ h9 => h9) rfl dX8_scanned_34 ?_
    refine lv_iload_n hx hb dX8_scanned_37 rfl (lv_at hl 1 rfl) ?_
    obtain ⟨hi9, hf⟩ := chk_t hf
    refine va_iald hx hb hK hP 4 0 rfl rfl (inb_in hi9) dX8_scanned_38 ?_
    refine lv_iadd hx hb dX8_scanned_39 ?_
    refine lv_icmp_ge (tgt := 153) hx hb dX8_scanned_40 (by decide) (fun c10 => ?_) (fun c10 => ?_)
    · replace hf := if_t c10 hf
      refine lv_iload hx hb dX8_scanned_153 (lv_at hl 5 rfl) ?_
      obtain rfl := Option.some.inj hf
      exact W.iret (v := v5) hx hb hr (fun t ht hW => ⟨rfl, by rw [ht]; exact hP, va_K.moved hW.alike hK, hD, hS.F ht⟩) hS.2.2 dX8_scanned_155 hlocks
    · replace hf := if_f c10 hf
      refine lv_iload_n hx hb dX8_scanned_43 rfl (lv_at hl 3 rfl) ?_
      refine lv_if_lt (tgt := 153) hx hb dX8_scanned_44 (by decide) (fun c11 => ?_) (fun c11 => ?_)
      · replace hf := if_t c11 hf
        refine lv_iload hx hb dX8_scanned_153 (lv_at hl 5 rfl) ?_
        obtain rfl := Option.some.inj hf
        exact W.iret (v := v5) hx hb hr (fun t ht hW => ⟨rfl, by rw [ht]; exact hP, va_K.moved hW.alike hK, hD, hS.F ht⟩) hS.2.2 dX8_scanned_155 hlocks
      · replace hf := if_f c11 hf
        refine lv_sipush (v := 193) hx hb dX8_scanned_47 (by decide) ?_
        refine lv_aload_n hx hb dX8_scanned_50 rfl (lv_at hl 0 rfl) ?_
        refine va_get (D := D) (ci := 7) (v := .ref (a 6)) (C := RX8) (T := TX8) (N := 24) hx hb hg in_X8 hown hK hP 0 rfl rfl 7 (by decide) (hg _ w832) (fun _ h9 => h9) rfl dX8_scanned_51 ?_
        refine lv_iload hx hb dX8_scanned_54 (lv_at hl 6 rfl) ?_
        obtain ⟨hi12, hf⟩ := chk_t hf
        refine va_iald hx hb hK hP 6 0 rfl rfl (inb_in hi12) dX8_scanned_56 ?_
        refine lv_imul hx hb dX8_scanned_57 ?_
        refine lv_aload_n hx hb dX8_scanned_58 rfl (lv_at hl 0 rfl) ?_
        refine va_get (D := D) (ci := 7) (v := .ref (a 6)) (C := RX8) (T := TX8) (N := 24) hx hb hg in_X8 hown hK hP 0 rfl rfl 7 (by decide) (hg _ w832) (fun _ h9 => h9) rfl dX8_scanned_59 ?_
        refine lv_iload hx hb dX8_scanned_62 (lv_at hl 6 rfl) ?_
        obtain ⟨hi13, hf⟩ := chk_t hf
        refine va_iald hx hb hK hP 6 0 rfl rfl (inb_in hi13) dX8_scanned_64 ?_
        refine lv_bipush (v := 32) hx hb dX8_scanned_65 (by decide) ?_
        refine lv_idiv hx hb dX8_scanned_67 (by decide) ?_
        refine lv_iadd hx hb dX8_scanned_68 ?_
        refine lv_topi (fun y14 hy14 => ?_)
        replace hf := keep_e hf y14 hy14
        refine lv_istore (lv' := [(7, .int y14), (0, .ref (a 0)), (1, .int v1), (2, .int v2), (3, .int v3), (4, .int v4), (5, .int v5), (6, .int v6)]) hx hb dX8_scanned_69 hl (by decide) rfl (fun ls hl => ?_)
        refine lv_aload_n hx hb dX8_scanned_71 rfl (lv_at hl 1 rfl) ?_
        refine va_get (D := D) (ci := 7) (v := .ref (a 3)) (C := RX8) (T := TX8) (N := 24) hx hb hg in_X8 hown hK hP 0 rfl rfl 4 (by decide) (hg _ w829) (fun _ h9 => h9) rfl dX8_scanned_72 ?_
        refine lv_iload_n hx hb dX8_scanned_75 rfl (lv_at hl 2 rfl) ?_
        obtain ⟨hi15, hf⟩ := chk_t hf
        refine va_iald hx hb hK hP 3 0 rfl rfl (inb_in hi15) dX8_scanned_76 ?_
        refine lv_iconst (v := 1) hx hb dX8_scanned_77 (by decide) ?_
        refine lv_icmp_eq (tgt := 101) hx hb dX8_scanned_78 (by decide) (fun c16 => ?_) (fun c16 => ?_)
        · replace hf := if_t c16 hf
          exact L101 x v1 v2 v3 v4 v5 v6 rec27 hrec27 H locs ls hf hP hD hS (lv_sub hl [1, 2, 3, 4, 5, 6, 7] rfl)
        · replace hf := if_f c16 hf
          refine lv_iload hx hb dX8_scanned_81 (lv_at hl 0 rfl) ?_
          refine lv_aload_n hx hb dX8_scanned_83 rfl (lv_at hl 1 rfl) ?_
          refine va_get (D := D) (ci := 7) (v := .ref (a 5)) (C := RX8) (T := TX8) (N := 24) hx hb hg in_X8 hown hK hP 0 rfl rfl 6 (by decide) (hg _ w831) (fun _ h9 => h9) rfl dX8_scanned_84 ?_
          refine lv_iload_n hx hb dX8_scanned_87 rfl (lv_at hl 2 rfl) ?_
          obtain ⟨hi17, hf⟩ := chk_t hf
          refine va_iald hx hb hK hP 5 0 rfl rfl (inb_in hi17) dX8_scanned_88 ?_
          obtain ⟨hz18, hf⟩ := chk_t hf
          refine lv_irem hx hb dX8_scanned_89 (of_decide_eq_true hz18) ?_
          refine lv_iload_n hx hb dX8_scanned_90 rfl (lv_at hl 3 rfl) ?_
          refine lv_aload_n hx hb dX8_scanned_91 rfl (lv_at hl 1 rfl) ?_
          refine va_get (D := D) (ci := 7) (v := .ref (a 5)) (C := RX8) (T := TX8) (N := 24) hx hb hg in_X8 hown hK hP 0 rfl rfl 6 (by decide) (hg _ w831) (fun _ h9 => h9) rfl dX8_scanned_92 ?_
          refine lv_iload_n hx hb dX8_scanned_95 rfl (lv_at hl 2 rfl) ?_
          obtain ⟨hi19, hf⟩ := chk_t hf
          refine va_iald hx hb hK hP 5 0 rfl rfl (inb_in hi19) dX8_scanned_96 ?_
          obtain ⟨hz20, hf⟩ := chk_t hf
          refine lv_irem hx hb dX8_scanned_97 (of_decide_eq_true hz20) ?_
          refine lv_icmp_ne (tgt := 105) hx hb dX8_scanned_98 (by decide) (fun c21 => ?_) (fun c21 => ?_)
          · replace hf := if_f c21 hf
            refine lv_iconst (v := 0) hx hb dX8_scanned_105 (by decide) ?_
            exact L106 x v1 v2 v3 v4 v5 v6 0 rec27 hrec27 H locs ls hf hP hD hS (lv_sub hl [1, 2, 3, 4, 5, 6, 7] rfl)
          · replace hf := if_t c21 hf
            exact L101 x v1 v2 v3 v4 v5 v6 rec27 hrec27 H locs ls hf hP hD hS (lv_sub hl [1, 2, 3, 4, 5, 6, 7] rfl)
  have L27 : ∀ (x : MSt) (v1 : Int32) (v2 : Int32) (v3 : Int32) (fu : Nat) (v4 : Int32) (v5 : Int32) (v6 : Int32) (H : Heap) (locs : List Loc) (ls : Array Slot), iterK fu (fX8_scanned_27 x v1 v2 v3 ) (v4, v5, v6) = some res → va_P D vwCl (W_Model cI a x) H → va_D A (W_Model cI a x) → va_S A s.heap H locs → lv_has ls 9 [(0, .ref (a 0)), (1, .int v1), (2, .int v2), (3, .int v3), (4, .int v4), (5, .int v5), (6, .int v6)] → W p l e ({ frames := 3, cells := 0, slots := 0, locals := 65 } : Room) s m ([.ref (a 0), .int p1, .int p2, .int p3] : List Value).toArray below meth c H locs 0 0 (MQ below (QW D (TY cI cV cJ cD) (W_Model cI a res.1) A (some (.int res.2))) (([.ref (a 0), .int p1, .int p2, .int p3] : List Value).toArray) s 0 0 A) (F0 m 27 ls []) := by
    intro x v1 v2 v3 fu
    induction fu with
    | zero =>
      intro v4 v5 v6 H locs ls hf
      cases hf
    | succ fu ih =>
      intro v4 v5 v6 H locs ls hf hP hD hS hl
      exact S27 x v1 v2 v3 (iterK fu (fX8_scanned_27 x v1 v2 v3 )) ih v4 v5 v6 H locs ls hf hP hD hS hl
  have M0 : ∀ (H : Heap) (locs : List Loc) (ls : Array Slot), fX8_scanned x p1 p2 p3 = some res → va_P D vwCl (W_Model cI a x) H → va_D A (W_Model cI a x) → va_S A s.heap H locs → lv_has ls 9 [(0, .ref (a 0)), (1, .int p1), (2, .int p2), (3, .int p3)] → W p l e ({ frames := 3, cells := 0, slots := 0, locals := 65 } : Room) s m ([.ref (a 0), .int p1, .int p2, .int p3] : List Value).toArray below meth c H locs 0 0 (MQ below (QW D (TY cI cV cJ cD) (W_Model cI a res.1) A (some (.int res.2))) (([.ref (a 0), .int p1, .int p2, .int p3] : List Value).toArray) s 0 0 A) (F0 m 0 ls []) := by
    intro H locs ls hf hP hD hS hl
    dsimp only [fX8_scanned] at hf
    refine lv_aload_n hx hb dX8_scanned_0 rfl (lv_at hl 0 rfl) ?_
    refine lv_aload_n hx hb dX8_scanned_1 rfl (lv_at hl 0 rfl) ?_
    refine lv_iload_n hx hb dX8_scanned_2 rfl (lv_at hl 1 rfl) ?_
    refine lv_iload_n hx hb dX8_scanned_3 rfl (lv_at hl 2 rfl) ?_
    obtain ⟨u22, hc23, hf⟩ := bind_t hf
    refine k_V (As := [.int p1, .int p2]) (rest := [.ref (a 0)]) (n := 2) ⟨hx, hb, hml, hown, hts⟩ (met_X8_scanFault l a x p1 p2 u22 hc23) w1156 w1158 ws53 w9 w1159 ⟨rfl, by decide +kernel, by decide +kernel, by decide +kernel⟩ ⟨Nat.le_of_ble_eq_true rfl, Nat.le_of_ble_eq_true rfl⟩ hK hE hP hD hS hA (isC := [0, 1, 2, 3, 4, 5, 6, 7, 8, 9, 10, 11, 12, 13, 14]) (isR := []) (isB := [0, 1, 2, 3, 4, 5, 6, 7, 8, 9, 10, 11, 12, 13, 14]) (ws' := W_Model cI a x) ⟨([] : List Nat).filterMap (fun i : Nat => (W_Model cI a x : va_W)[i]?), rfl, rfl, rfl, rfl, by decide, rfl, rfl⟩ 0 7 rfl rfl rfl rfl hl.1 rfl (Nat.le_of_ble_eq_true rfl) dX8_scanned_4 ⟨Nat.le_of_ble_eq_true rfl, Nat.le_of_ble_eq_true rfl⟩ (fun H locs hP hD hS => ?_)
    try dsimp only at hf
    refine W.eq (g2 := F0 m 7 ls [.int u22, .ref (a 0)]) rfl ?_
    obtain ⟨u24, hc25, hf⟩ := bind_t hf
    refine k_V (As := [.int u22]) (rest := []) (n := 1) ⟨hx, hb, hml, hown, hts⟩ (met_X8_can l a x u22 u24 hc25) w927 w929 ws28 w9 w930 ⟨rfl, by decide +kernel, by decide +kernel, by decide +kernel⟩ ⟨Nat.le_of_ble_eq_true rfl, Nat.le_of_ble_eq_true rfl⟩ hK hE hP hD hS hA (isC := [0, 1, 2, 3, 4, 5, 6, 7, 8, 9, 10, 11, 12, 13, 14]) (isR := []) (isB := [0, 1, 2, 3, 4, 5, 6, 7, 8, 9, 10, 11, 12, 13, 14]) (ws' := W_Model cI a u24.1) ⟨([] : List Nat).filterMap (fun i : Nat => (W_Model cI a x : va_W)[i]?), rfl, rfl, rfl, rfl, by decide, rfl, rfl⟩ 0 7 rfl rfl rfl rfl hl.1 rfl (Nat.le_of_ble_eq_true rfl) dX8_scanned_7 ⟨Nat.le_of_ble_eq_true rfl, Nat.le_of_ble_eq_true rfl⟩ (fun H locs hP hD hS => ?_)
    try dsimp only at hf
    refine W.eq (g2 := F0 m 10 ls [.int u24.2]) rfl ?_
    obtain ⟨x26, hx26⟩ : ∃ z, z = u24.1 := ⟨_, rfl⟩
    replace hf := keep_e hf x26 hx26
    have hP : va_P D vwCl (W_Model cI a x26) H := by rw [hx26]; exact hP
    have hD : va_D A (W_Model cI a x26) := by rw [hx26]; exact hD
    refine lv_if_ne (tgt := 15) hx hb dX8_scanned_10 (by decide) (fun c27 => ?_) (fun c27 => ?_)
    · replace hf := if_f c27 hf
      refine lv_iload_n hx hb dX8_scanned_15 rfl (lv_at hl 3 rfl) ?_
      refine lv_istore (lv' := [(4, .int p3), (0, .ref (a 0)), (1, .int p1), (2, .int p2), (3, .int p3)]) hx hb dX8_scanned_16 hl (by decide) rfl (fun ls hl => ?_)
      refine lv_iconst (v := (-1)) hx hb dX8_scanned_18 (by decide) ?_
      refine lv_istore (lv' := [(5, .int (-1)), (4, .int p3), (0, .ref (a 0)), (1, .int p1), (2, .int p2), (3, .int p3)]) hx hb dX8_scanned_19 hl (by decide) rfl (fun ls hl => ?_)
      refine lv_bipush (v := 40) hx hb dX8_scanned_21 (by decide) ?_
      refine lv_iload_n hx hb dX8_scanned_23 rfl (lv_at hl 3 rfl) ?_
      refine lv_imul hx hb dX8_scanned_24 ?_
      refine lv_topi (fun y28 hy28 => ?_)
      replace hf := keep_e hf y28 hy28
      refine lv_istore (lv' := [(6, .int y28), (5, .int (-1)), (4, .int p3), (0, .ref (a 0)), (1, .int p1), (2, .int p2), (3, .int p3)]) hx hb dX8_scanned_25 hl (by decide) rfl (fun ls hl => ?_)
      exact L27 x26 p1 p2 p3 FU p3 (-1) y28 H locs ls hf hP hD hS (lv_sub hl [3, 4, 5, 6, 2, 1, 0] rfl)
    · replace hf := if_t c27 hf
      refine lv_iconst (v := 0) hx hb dX8_scanned_13 (by decide) ?_
      obtain rfl := Option.some.inj hf
      exact W.iret (v := 0) hx hb hr (fun t ht hW => ⟨rfl, by rw [ht]; exact hP, va_K.moved hW.alike hK, hD, hS.F ht⟩) hS.2.2 dX8_scanned_14 hlocks
  exact M0 s.heap [] ls hf hP hD hS hl

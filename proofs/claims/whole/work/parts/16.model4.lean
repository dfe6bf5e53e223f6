/-! CompactformsModel.isStream(I)Z -/
def fX8_isStream (x : MSt) (p1 : Int32) : Option (Int32) := (fX8_typeNow x p1).bind (fun u1 => (if u1 = 4 then (fX8_isFull x).bind (fun u4 => (if u4 = 0 then some 1 else some 0)) else some 0))
set_option maxHeartbeats 4000000 in
set_option maxRecDepth 100000 in
theorem met_X8_isStream {D : va_G} {cI cV cJ cD : ClassId} (l : Launch) (a : Nat → Nat) (x : MSt) (p1 : Int32) (res : Int32) (hf : fX8_isStream x p1 = some res) : MM l yX8_isStream cX8_isStream 2 (some .boolean) { frames := 2, cells := 0, slots := 0, locals := 42 } D (TY cI cV cJ cD) (W_Model cI a x) (W_Model cI a x) [.ref (a 0), .int p1] (some (.int res)) := by
  intro sz
  refine Met.ofW (cc := cX8_isStream) (maxL := 2) (ret := (some .boolean)) (by decide +kernel) rfl ?_
  intro p e s m args below meth c s₁ B hml hv
  obtain ⟨rfl, hsz, hP, hK, hD0, hE⟩ := hv
  have hx := B.exec
  have hb := B.bytes
  have hr := B.returns
  have hts := atoms_spec (ws := .code yX8_isStream cX8_isStream 2 (some .boolean) :: GW) B.pre
  have hg : ∀ w ∈ GW, w.before (([.ref (a 0), .int p1] : List Value).toArray) s = true := fun w h => hts w (List.mem_cons_of_mem _ h)
  have hown : s.vm.findClass RX8 = some m.cls := findClass_of_methodNamed B.named
  have hlocks := B.notSynchronized
  subst hsz
  have hD := hD0.self (sz := s.heap.size)
  generalize hAe : va_A (W_Model cI a x) s.heap.size = A at hD hE ⊢
  have hA : ∀ q : Nat, s.heap.size ≤ q → A q := fun q h => by rw [← hAe]; exact Or.inr h
  have hS : va_S A s.heap s.heap [] := va_S.rf
  have hl := lv_entry ([.ref (a 0), .int p1]) (n := 2) (Nat.le_of_ble_eq_true rfl)
  rw [lg_entry_eq]
  generalize (lg_sl ([.ref (a 0), .int p1]) ++ List.replicate (2 - (lg_sl ([.ref (a 0), .int p1])).length) Slot.unset).toArray = ls at hl ⊢
  have hl : lv_has ls 2 [(0, .ref (a 0)), (1, .int p1)] := hl
  have M0 : ∀ (H : Heap) (locs : List Loc) (ls : Array Slot), fX8_isStream x p1 = some res → va_P D vwCl (W_Model cI a x) H → va_D A (W_Model cI a x) → va_S A s.heap H locs → lv_has ls 2 [(0, .ref (a 0)), (1, .int p1)] → W p l e ({ frames := 2, cells := 0, slots := 0, locals := 42 } : Room) s m ([.ref (a 0), .int p1] : List Value).toArray below meth c H locs 0 0 (MQ below (QW D (TY cI cV cJ cD) (W_Model cI a x) A (some (.int res))) (([.ref (a 0), .int p1] : List Value).toArray) s 0 0 A) (F0 m 0 ls []) := by
    intro H locs ls hf hP hD hS hl
    dsimp only [fX8_isStream] at hf
    refine lv_aload_n hx hb dX8_isStream_0 rfl (lv_at hl 0 rfl) ?_
    refine lv_iload_n hx hb dX8_isStream_1 rfl (lv_at hl 1 rfl) ?_
    obtain ⟨u1, hc2, hf⟩ := bind_t hf
    refine k_V (As := [.int p1]) (rest := []) (n := 1) ⟨hx, hb, hml, hown, hts⟩ (met_X8_typeNow l a x p1 u1 hc2) w912 w914 ws25 w9 w915 ⟨rfl, by decide +kernel, by decide +kernel, by decide +kernel⟩ ⟨Nat.le_of_ble_eq_true rfl, Nat.le_of_ble_eq_true rfl⟩ hK hE hP hD hS hA (isC := [0, 1, 2, 3, 4, 5, 6, 7, 8, 9, 10, 11, 12, 13, 14]) (isR := []) (isB := [0, 1, 2, 3, 4, 5, 6, 7, 8, 9, 10, 11, 12, 13, 14]) (ws' := W_Model cI a x) ⟨([] : List Nat).filterMap (fun i : Nat => (W_Model cI a x : va_W)[i]?), rfl, rfl, rfl, rfl, by decide, rfl, rfl⟩ 0 7 rfl rfl rfl rfl hl.1 rfl (Nat.le_of_ble_eq_true rfl) dX8_isStream_2 ⟨Nat.le_of_ble_eq_true rfl, Nat.le_of_ble_eq_true rfl⟩ (fun H locs hP hD hS => ?_)
    try dsimp only at hf
    refine W.eq (g2 := F0 m 5 ls [.int u1]) rfl ?_
    refine lv_iconst (v := 4) hx hb dX8_isStream_5 (by decide) ?_
    refine lv_icmp_ne (tgt := 20) hx hb dX8_isStream_6 (by decide) (fun c3 => ?_) (fun c3 => ?_)
    · replace hf := if_f c3 hf
      refine lv_iconst (v := 0) hx hb dX8_isStream_20 (by decide) ?_
      obtain rfl := Option.some.inj hf
      exact W.zret (v := 0) hx hb hr (by decide +kernel) (fun t ht hW => ⟨rfl, by rw [ht]; exact hP, va_K.moved hW.alike hK, hD, hS.F ht⟩) hS.2.2 dX8_isStream_21 hlocks
    · replace hf := if_t c3 hf
      refine lv_aload_n hx hb dX8_isStream_9 rfl (lv_at hl 0 rfl) ?_
      obtain ⟨u4, hc5, hf⟩ := bind_t hf
      refine k_V (As := []) (rest := []) (n := 0) ⟨hx, hb, hml, hown, hts⟩ (met_X8_isFull l a x u4 hc5) w923 w925 ws27 w9 w926 ⟨rfl, by decide +kernel, by decide +kernel, by decide +kernel⟩ ⟨Nat.le_of_ble_eq_true rfl, Nat.le_of_ble_eq_true rfl⟩ hK hE hP hD hS hA (isC := [0, 1, 2, 3, 4, 5, 6, 7, 8, 9, 10, 11, 12, 13, 14]) (isR := []) (isB := [0, 1, 2, 3, 4, 5, 6, 7, 8, 9, 10, 11, 12, 13, 14]) (ws' := W_Model cI a x) ⟨([] : List Nat).filterMap (fun i : Nat => (W_Model cI a x : va_W)[i]?), rfl, rfl, rfl, rfl, by decide, rfl, rfl⟩ 0 7 rfl rfl rfl rfl hl.1 rfl (Nat.le_of_ble_eq_true rfl) dX8_isStream_10 ⟨Nat.le_of_ble_eq_true rfl, Nat.le_of_ble_eq_true rfl⟩ (fun H locs hP hD hS => ?_)
      try dsimp only at hf
      refine W.eq (g2 := F0 m 13 ls [.int u4]) rfl ?_
      refine lv_if_ne (tgt := 20) hx hb dX8_isStream_13 (by decide) (fun c6 => ?_) (fun c6 => ?_)
      · replace hf := if_f c6 hf
        refine lv_iconst (v := 0) hx hb dX8_isStream_20 (by decide) ?_
        obtain rfl := Option.some.inj hf
        exact W.zret (v := 0) hx hb hr (by decide +kernel) (fun t ht hW => ⟨rfl, by rw [ht]; exact hP, va_K.moved hW.alike hK, hD, hS.F ht⟩) hS.2.2 dX8_isStream_21 hlocks
      · replace hf := if_t c6 hf
        refine lv_iconst (v := 1) hx hb dX8_isStream_16 (by decide) ?_
        refine lv_goto (tgt := 21) hx hb dX8_isStream_17 (by decide) ?_
        obtain rfl := Option.some.inj hf
        exact W.zret (v := 1) hx hb hr (by decide +kernel) (fun t ht hW => ⟨rfl, by rw [ht]; exact hP, va_K.moved hW.alike hK, hD, hS.F ht⟩) hS.2.2 dX8_isStream_21 hlocks
  exact M0 s.heap [] ls hf hP hD hS hl
/-! CompactformsModel.read(III)I -/
def fX8_read_31 (x : MSt) (v1 : Int32) (v2 : Int32) (v3 : Int32) (s0 : Int32) : Option (MSt × Int32) := (fX8_can x s0).bind (fun u1 => keep u1.1 (fun x3 => (if u1.2 = 0 then some (x3, 0) else (fX8_reads x3 v1 v2 v3).bind (fun u5 => keep u5.1 (fun x7 => keep u5.2 (fun y8 => (if y8 = (-1) then some (x7, y8) else (fX8_writes x7 7 v1 v2 v3 0).bind (fun u10 => keep u10 (fun x12 => some (x12, y8))))))))))
def fX8_read (x : MSt) (p1 : Int32) (p2 : Int32) (p3 : Int32) : Option (MSt × Int32) := (fX8_isReader p1 p2 p3).bind (fun u13 => (if u13 = 0 then fX8_read_31 x p1 p2 p3 1 else (fX8_isStream x p1).bind (fun u16 => (if u16 = 0 then fX8_read_31 x p1 p2 p3 2 else fX8_read_31 x p1 p2 p3 0))))
set_option maxHeartbeats 4000000 in
set_option maxRecDepth 100000 in
theorem met_X8_read {D : va_G} {cI cV cJ cD : ClassId} (l : Launch) (a : Nat → Nat) (x : MSt) (p1 : Int32) (p2 : Int32) (p3 : Int32) (res : MSt × Int32) (hf : fX8_read x p1 p2 p3 = some res) : MM l yX8_read cX8_read 6 (some .int) { frames := 4, cells := 0, slots := 0, locals := 85 } D (TY cI cV cJ cD) (W_Model cI a x) (W_Model cI a res.1) [.ref (a 0), .int p1, .int p2, .int p3] (some (.int res.2)) := by
  intro sz
  refine Met.ofW (cc := cX8_read) (maxL := 6) (ret := (some .int)) (by decide +kernel) rfl ?_
  intro p e s m args below meth c s₁ B hml hv
  obtain ⟨rfl, hsz, hP, hK, hD0, hE⟩ := hv
  have hx := B.exec
  have hb := B.bytes
  have hr := B.returns
  have hts := atoms_spec (ws := .code yX8_read cX8_read 6 (some .int) :: GW) B.pre
  have hg : ∀ w ∈ GW, w.before (([.ref (a 0), .int p1, .int p2, .int p3] : List Value).toArray) s = true := fun w h => hts w (List.mem_cons_of_mem _ h)
  have hown : s.vm.findClass RX8 = some m.cls := findClass_of_methodNamed B.named
  have hlocks := B.notSynchronized
  subst hsz
  have hD := hD0.self (sz := s.heap.size)
  generalize hAe : va_A (W_Model cI a x) s.heap.size = A at hD hE ⊢
  have hA : ∀ q : Nat, s.heap.size ≤ q → A q := fun q h => by rw [← hAe]; exact Or.inr h
  have hS : va_S A s.heap s.heap [] := va_S.rf
  have hl := lv_entry ([.ref (a 0), .int p1, .int p2, .int p3]) (n := 6) (Nat.le_of_ble_eq_true rfl)
  rw [lg_entry_eq]
  generalize (lg_sl ([.ref (a 0), .int p1, .int p2, .int p3]) ++ List.replicate (6 - (lg_sl ([.ref (a 0), .int p1, .int p2, .int p3])).length) Slot.unset).toArray = ls at hl ⊢
  have hl : lv_has ls 6 [(0, .ref (a 0)), (1, .int p1), (2, .int p2), (3, .int p3)] := hl
  have L31 : ∀ (x : MSt) (v1 : Int32) (v2 : Int32) (v3 : Int32) (s0 : Int32) (H : Heap) (locs : List Loc) (ls : Array Slot), fX8_read_31 x v1 v2 v3 s0  = some res → va_P D vwCl (W_Model cI a x) H → va_D A (W_Model cI a x) → va_S A s.heap H locs → lv_has ls 6 [(0, .ref (a 0)), (1, .int v1), (2, .int v2), (3, .int v3)] → W p l e ({ frames := 4, cells := 0, slots := 0, locals := 85 } : Room) s m ([.ref (a 0), .int p1, .int p2, .int p3] : List Value).toArray below meth c H locs 0 0 (MQ below (QW D (TY cI cV cJ cD) (W_Model cI a res.1) A (some (.int res.2))) (([.ref (a 0), .int p1, .int p2, .int p3] : List Value).toArray) s 0 0 A) (F0 m 31 ls [.int s0, .ref (a 0)]) := by
    intro x v1 v2 v3 s0 H locs ls hf hP hD hS hl
    dsimp only [fX8_read_31] at hf
    obtain ⟨u1, hc2, hf⟩ := bind_t hf
    refine k_V (As := [.int s0]) (rest := []) (n := 1) ⟨hx, hb, hml, hown, hts⟩ (met_X8_can l a x s0 u1 hc2) w927 w929 ws28 w9 w930 ⟨rfl, by decide +kernel, by decide +kernel, by decide +kernel⟩ ⟨Nat.le_of_ble_eq_true rfl, Nat.le_of_ble_eq_true rfl⟩ hK hE hP hD hS hA (isC := [0, 1, 2, 3, 4, 5, 6, 7, 8, 9, 10, 11, 12, 13, 14]) (isR := []) (isB := [0, 1, 2, 3, 4, 5, 6, 7, 8, 9, 10, 11, 12, 13, 14]) (ws' := W_Model cI a u1.1) ⟨([] : List Nat).filterMap (fun i : Nat => (W_Model cI a x : va_W)[i]?), rfl, rfl, rfl, rfl, by decide, rfl, rfl⟩ 0 7 rfl rfl rfl rfl hl.1 rfl (Nat.le_of_ble_eq_true rfl) dX8_read_31 ⟨Nat.le_of_ble_eq_true rfl, Nat.le_of_ble_eq_true rfl⟩ (fun H locs hP hD hS => ?_)
    try dsimp only at hf
    refine W.eq (g2 := F0 m 34 ls [.int u1.2]) rfl ?_
    obtain ⟨x3, hx3⟩ : ∃ z, z = u1.1 := ⟨_, rfl⟩
    replace hf := keep_e hf x3 hx3
    have hP : va_P D vwCl (W_Model cI a x3) H := by rw [hx3]; exact hP
    have hD : va_D A (W_Model cI a x3) := by rw [hx3]; exact hD
    refine lv_if_ne (tgt := 39) hx hb dX8_read_34 (by decide) (fun c4 => ?_) (fun c4 => ?_)
    · replace hf := if_f c4 hf
      refine lv_aload_n hx hb dX8_read_39 rfl (lv_at hl 0 rfl) ?_
      refine lv_iload_n hx hb dX8_read_40 rfl (lv_at hl 1 rfl) ?_
      refine lv_iload_n hx hb dX8_read_41 rfl (lv_at hl 2 rfl) ?_
      refine lv_iload_n hx hb dX8_read_42 rfl (lv_at hl 3 rfl) ?_
      obtain ⟨u5, hc6, hf⟩ := bind_t hf
      refine k_V (As := [.int v1, .int v2, .int v3]) (rest := []) (n := 3) ⟨hx, hb, hml, hown, hts⟩ (met_X8_reads l a x3 v1 v2 v3 u5 hc6) w1029 w1031 ws44 w9 w1032 ⟨rfl, by decide +kernel, by decide +kernel, by decide +kernel⟩ ⟨Nat.le_of_ble_eq_true rfl, Nat.le_of_ble_eq_true rfl⟩ hK hE hP hD hS hA (isC := [0, 1, 2, 3, 4, 5, 6, 7, 8, 9, 10, 11, 12, 13, 14]) (isR := []) (isB := [0, 1, 2, 3, 4, 5, 6, 7, 8, 9, 10, 11, 12, 13, 14]) (ws' := W_Model cI a u5.1) ⟨([] : List Nat).filterMap (fun i : Nat => (W_Model cI a x3 : va_W)[i]?), rfl, rfl, rfl, rfl, by decide, rfl, rfl⟩ 0 7 rfl rfl rfl rfl hl.1 rfl (Nat.le_of_ble_eq_true rfl) dX8_read_43 ⟨Nat.le_of_ble_eq_true rfl, Nat.le_of_ble_eq_true rfl⟩ (fun H locs hP hD hS => ?_)
      try dsimp only at hf
      refine W.eq (g2 := F0 m 46 ls [.int u5.2]) rfl ?_
      obtain ⟨x7, hx7⟩ : ∃ z, z = u5.1 := ⟨_, rfl⟩
      replace hf := keep_e hf x7 hx7
      have hP : va_P D vwCl (W_Model cI a x7) H := by rw [hx7]; exact hP
      have hD : va_D A (W_Model cI a x7) := by rw [hx7]; exact hD
      refine lv_topi (fun y8 hy8 => ?_)
      replace hf := keep_e hf y8 hy8
      refine lv_istore (lv' := [(5, .int y8), (0, .ref (a 0)), (1, .int v1), (2, .int v2), (3, .int v3)]) hx hb dX8_read_46 hl (by decide) rfl (fun ls hl => ?_)
      refine lv_iload hx hb dX8_read_48 (lv_at hl 0 rfl) ?_
      refine lv_iconst (v := (-1)) hx hb dX8_read_50 (by decide) ?_
      refine lv_icmp_eq (tgt := 64) hx hb dX8_read_51 (by decide) (fun c9 => ?_) (fun c9 => ?_)
      · replace hf := if_t c9 hf
        refine lv_iload hx hb dX8_read_64 (lv_at hl 0 rfl) ?_
        obtain rfl := Option.some.inj hf
        exact W.iret (v := y8) hx hb hr (fun t ht hW => ⟨rfl, by rw [ht]; exact hP, va_K.moved hW.alike hK, hD, hS.F ht⟩) hS.2.2 dX8_read_66 hlocks
      · replace hf := if_f c9 hf
        refine lv_aload_n hx hb dX8_read_54 rfl (lv_at hl 1 rfl) ?_
        refine lv_bipush (v := 7) hx hb dX8_read_55 (by decide) ?_
        refine lv_iload_n hx hb dX8_read_57 rfl (lv_at hl 2 rfl) ?_
        refine lv_iload_n hx hb dX8_read_58 rfl (lv_at hl 3 rfl) ?_
        refine lv_iload_n hx hb dX8_read_59 rfl (lv_at hl 4 rfl) ?_
        refine lv_iconst (v := 0) hx hb dX8_read_60 (by decide) ?_
        obtain ⟨u10, hc11, hf⟩ := bind_t hf
        refine k_V (As := [.int 7, .int v1, .int v2, .int v3, .int 0]) (rest := []) (n := 5) ⟨hx, hb, hml, hown, hts⟩ (met_X8_writes l a x7 7 v1 v2 v3 0 u10 hc11) w947 w949 ws33 w9 w950 ⟨rfl, by decide +kernel, by decide +kernel, by decide +kernel⟩ ⟨Nat.le_of_ble_eq_true rfl, Nat.le_of_ble_eq_true rfl⟩ hK hE hP hD hS hA (isC := [0, 1, 2, 3, 4, 5, 6, 7, 8, 9, 10, 11, 12, 13, 14]) (isR := []) (isB := [0, 1, 2, 3, 4, 5, 6, 7, 8, 9, 10, 11, 12, 13, 14]) (ws' := W_Model cI a u10) ⟨([] : List Nat).filterMap (fun i : Nat => (W_Model cI a x7 : va_W)[i]?), rfl, rfl, rfl, rfl, by decide, rfl, rfl⟩ 0 7 rfl rfl rfl rfl hl.1 rfl (Nat.le_of_ble_eq_true rfl) dX8_read_61 ⟨Nat.le_of_ble_eq_true rfl, Nat.le_of_ble_eq_true rfl⟩ (fun H locs hP hD hS => ?_)
        try dsimp only at hf
        refine W.eq (g2 := F0 m 64 ls []) rfl ?_
        obtain ⟨x12, hx12⟩ : ∃ z, z = u10 := ⟨_, rfl⟩
        replace hf := keep_e hf x12 hx12
        have hP : va_P D vwCl (W_Model cI a x12) H := by rw [hx12]; exact hP
        have hD : va_D A (W_Model cI a x12) := by rw [hx12]; exact hD
        refine lv_iload hx hb dX8_read_64 (lv_at hl 0 rfl) ?_
        obtain rfl := Option.some.inj hf
        exact W.iret (v := y8) hx hb hr (fun t ht hW => ⟨rfl, by rw [ht]; exact hP, va_K.moved hW.alike hK, hD, hS.F ht⟩) hS.2.2 dX8_read_66 hlocks
    · replace hf := if_t c4 hf
      refine lv_iconst (v := 0) hx hb dX8_read_37 (by decide) ?_
      obtain rfl := Option.some.inj hf
      exact W.iret (v := 0) hx hb hr (fun t ht hW => ⟨rfl, by rw [ht]; exact hP, va_K.moved hW.alike hK, hD, hS.F ht⟩) hS.2.2 dX8_read_38 hlocks
  have M0 : ∀ (H : Heap) (locs : List Loc) (ls : Array Slot), fX8_read x p1 p2 p3 = some res → va_P D vwCl (W_Model cI a x) H → va_D A (W_Model cI a x) → va_S A s.heap H locs → lv_has ls 6 [(0, .ref (a 0)), (1, .int p1), (2, .int p2), (3, .int p3)] → W p l e ({ frames := 4, cells := 0, slots := 0, locals := 85 } : Room) s m ([.ref (a 0), .int p1, .int p2, .int p3] : List Value).toArray below meth c H locs 0 0 (MQ below (QW D (TY cI cV cJ cD) (W_Model cI a res.1) A (some (.int res.2))) (([.ref (a 0), .int p1, .int p2, .int p3] : List Value).toArray) s 0 0 A) (F0 m 0 ls []) := by
    intro H locs ls hf hP hD hS hl
    dsimp only [fX8_read] at hf
    refine lv_iload_n hx hb dX8_read_0 rfl (lv_at hl 1 rfl) ?_
    refine lv_iload_n hx hb dX8_read_1 rfl (lv_at hl 2 rfl) ?_
    refine lv_iload_n hx hb dX8_read_2 rfl (lv_at hl 3 rfl) ?_
    obtain ⟨u13, hc14, hf⟩ := bind_t hf
    refine k_S (As := [.int p1, .int p2, .int p3]) (rest := []) (n := 3) ⟨hx, hb, hml, hown, hts⟩ (met_X8_isReader l p1 p2 p3 u13 hc14) w1019 w1020 w9 w1021 ⟨by decide +kernel, by decide +kernel, by decide +kernel⟩ ⟨Nat.le_of_ble_eq_true rfl, Nat.le_of_ble_eq_true rfl⟩ hK hE hP hD hS hA (isC := []) (isR := [0, 1, 2, 3, 4, 5, 6, 7, 8, 9, 10, 11, 12, 13, 14]) (isB := [0, 1, 2, 3, 4, 5, 6, 7, 8, 9, 10, 11, 12, 13, 14]) (ws' := W_Model cI a x) ⟨([0, 1, 2, 3, 4, 5, 6, 7, 8, 9, 10, 11, 12, 13, 14] : List Nat).filterMap (fun i : Nat => (W_Model cI a x : va_W)[i]?), rfl, rfl, rfl, rfl, by decide, rfl, rfl⟩ rfl hl.1 rfl (Nat.le_of_ble_eq_true rfl) dX8_read_3 ⟨Nat.le_of_ble_eq_true rfl, Nat.le_of_ble_eq_true rfl⟩ (fun H locs hP hD hS => ?_)
    try dsimp only at hf
    refine W.eq (g2 := F0 m 6 ls [.int u13]) rfl ?_
    refine lv_istore (lv' := [(4, .int u13), (0, .ref (a 0)), (1, .int p1), (2, .int p2), (3, .int p3)]) hx hb dX8_read_6 hl (by decide) rfl (fun ls hl => ?_)
    refine lv_aload_n hx hb dX8_read_8 rfl (lv_at hl 1 rfl) ?_
    refine lv_iload hx hb dX8_read_9 (lv_at hl 0 rfl) ?_
    refine lv_if_ne (tgt := 18) hx hb dX8_read_11 (by decide) (fun c15 => ?_) (fun c15 => ?_)
    · replace hf := if_f c15 hf
      refine lv_aload_n hx hb dX8_read_18 rfl (lv_at hl 1 rfl) ?_
      refine lv_iload_n hx hb dX8_read_19 rfl (lv_at hl 2 rfl) ?_
      obtain ⟨u16, hc17, hf⟩ := bind_t hf
      refine k_V (As := [.int p1]) (rest := [.ref (a 0)]) (n := 1) ⟨hx, hb, hml, hown, hts⟩ (met_X8_isStream l a x p1 u16 hc17) w1025 w1027 ws43 w9 w1028 ⟨rfl, by decide +kernel, by decide +kernel, by decide +kernel⟩ ⟨Nat.le_of_ble_eq_true rfl, Nat.le_of_ble_eq_true rfl⟩ hK hE hP hD hS hA (isC := [0, 1, 2, 3, 4, 5, 6, 7, 8, 9, 10, 11, 12, 13, 14]) (isR := []) (isB := [0, 1, 2, 3, 4, 5, 6, 7, 8, 9, 10, 11, 12, 13, 14]) (ws' := W_Model cI a x) ⟨([] : List Nat).filterMap (fun i : Nat => (W_Model cI a x : va_W)[i]?), rfl, rfl, rfl, rfl, by decide, rfl, rfl⟩ 0 7 rfl rfl rfl rfl hl.1 rfl (Nat.le_of_ble_eq_true rfl) dX8_read_20 ⟨Nat.le_of_ble_eq_true rfl, Nat.le_of_ble_eq_true rfl⟩ (fun H locs hP hD hS => ?_)
      try dsimp only at hf
      refine W.eq (g2 := F0 m 23 ls [.int u16, .ref (a 0)]) rfl ?_
      refine lv_if_eq (tgt := 30) hx hb dX8_read_23 (by decide) (fun c18 => ?_) (fun c18 => ?_)
      · replace hf := if_t c18 hf
        refine lv_iconst (v := 2) hx hb dX8_read_30 (by decide) ?_
        exact L31 x p1 p2 p3 2 H locs ls hf hP hD hS (lv_sub hl [1, 2, 3, 4] rfl)
      · replace hf := if_f c18 hf
        refine lv_iconst (v := 0) hx hb dX8_read_26 (by decide) ?_
        refine lv_goto (tgt := 31) hx hb dX8_read_27 (by decide) ?_
        exact L31 x p1 p2 p3 0 H locs ls hf hP hD hS (lv_sub hl [1, 2, 3, 4] rfl)
    · replace hf := if_t c15 hf
      refine lv_iconst (v := 1) hx hb dX8_read_14 (by decide) ?_
      refine lv_goto (tgt := 31) hx hb dX8_read_15 (by decide) ?_
      exact L31 x p1 p2 p3 1 H locs ls hf hP hD hS (lv_sub hl [1, 2, 3, 4] rfl)
  exact M0 s.heap [] ls hf hP hD hS hl
/-! CompactformsModel.done(III)Z -/
def fX8_done_30 (x : MSt) (v1 : Int32) (v2 : Int32) (v3 : Int32) (s0 : Int32) : Option (MSt × Int32) := (fX8_can x s0).bind (fun u1 => keep u1.1 (fun x3 => (if u1.2 = 0 then some (x3, 0) else (fX8_ends x3 v1 v2 v3).bind (fun u5 => keep u5.1 (fun x7 => keep u5.2 (fun y8 => (if y8 = 0 then chk (isB y8) (some (x7, y8)) else (fX8_writes x7 8 v1 v2 v3 0).bind (fun u11 => keep u11 (fun x13 => chk (isB y8) (some (x13, y8)))))))))))
def fX8_done (x : MSt) (p1 : Int32) (p2 : Int32) (p3 : Int32) : Option (MSt × Int32) := (fX8_isGroup p1 p2).bind (fun u15 => (if u15 = 0 then fX8_done_30 x p1 p2 p3 1 else (fX8_isStream x p1).bind (fun u18 => (if u18 = 0 then fX8_done_30 x p1 p2 p3 2 else fX8_done_30 x p1 p2 p3 0))))
set_option maxHeartbeats 4000000 in
set_option maxRecDepth 100000 in
theorem met_X8_done {D : va_G} {cI cV cJ cD : ClassId} (l : Launch) (a : Nat → Nat) (x : MSt) (p1 : Int32) (p2 : Int32) (p3 : Int32) (res : MSt × Int32) (hf : fX8_done x p1 p2 p3 = some res) : MM l yX8_done cX8_done 6 (some .boolean) { frames := 3, cells := 0, slots := 0, locals := 63 } D (TY cI cV cJ cD) (W_Model cI a x) (W_Model cI a res.1) [.ref (a 0), .int p1, .int p2, .int p3] (some (.int res.2)) := by
  intro sz
  refine Met.ofW (cc := cX8_done) (maxL := 6) (ret := (some .boolean)) (by decide +kernel) rfl ?_
  intro p e s m args below meth c s₁ B hml hv
  obtain ⟨rfl, hsz, hP, hK, hD0, hE⟩ := hv
  have hx := B.exec
  have hb := B.bytes
  have hr := B.returns
  have hts := atoms_spec (ws := .code yX8_done cX8_done 6 (some .boolean) :: GW) B.pre
  have hg : ∀ w ∈ GW, w.before (([.ref (a 0), .int p1, .int p2, .int p3] : List Value).toArray) s = true := fun w h => hts w (List.mem_cons_of_mem _ h)
  have hown : s.vm.findClass RX8 = some m.cls := findClass_of_methodNamed B.named
  have hlocks := B.notSynchronized
  subst hsz
  have hD := hD0.self (sz := s.heap.size)
  generalize hAe : va_A (W_Model cI a x) s.heap.size = A at hD hE ⊢
  have hA : ∀ q : Nat, s.heap.size ≤ q → A q := fun q h => by rw [← hAe]; exact Or.inr h
  have hS : va_S A s.heap s.heap [] := va_S.rf
  have hl := lv_entry ([.ref (a 0), .int p1, .int p2, .int p3]) (n := 6) (Nat.le_of_ble_eq_true rfl)
  rw [lg_entry_eq]
  generalize (lg_sl ([.ref (a 0), .int p1, .int p2, .int p3]) ++ List.replicate (6 - (lg_sl ([.ref (a 0), .int p1, .int p2, .int p3])).length) Slot.unset).toArray = ls at hl ⊢
  have hl : lv_has ls 6 [(0, .ref (a 0)), (1, .int p1), (2, .int p2), (3, .int p3)] := hl
  have L30 : ∀ (x : MSt) (v1 : Int32) (v2 : Int32) (v3 : Int32) (s0 : Int32) (H : Heap) (locs : List Loc) (ls : Array Slot), fX8_done_30 x v1 v2 v3 s0  = some res → va_P D vwCl (W_Model cI a x) H → va_D A (W_Model cI a x) → va_S A s.heap H locs → lv_has ls 6 [(0, .ref (a 0)), (1, .int v1), (2, .int v2), (3, .int v3)] → W p l e ({ frames := 3, cells := 0, slots := 0, locals := 63 } : Room) s m ([.ref (a 0), .int p1, .int p2, .int p3] : List Value).toArray below meth c H locs 0 0 (MQ below (QW D (TY cI cV cJ cD) (W_Model cI a res.1) A (some (.int res.2))) (([.ref (a 0), .int p1, .int p2, .int p3] : List Value).toArray) s 0 0 A) (F0 m 30 ls [.int s0, .ref (a 0)]) := by
    intro x v1 v2 v3 s0 H locs ls hf hP hD hS hl
    dsimp only [fX8_done_30] at hf
    obtain ⟨u1, hc2, hf⟩ := bind_t hf
    refine k_V (As := [.int s0]) (rest := []) (n := 1) ⟨hx, hb, hml, hown, hts⟩ (met_X8_can l a x s0 u1 hc2) w927 w929 ws28 w9 w930 ⟨rfl, by decide +kernel, by decide +kernel, by decide +kernel⟩ ⟨Nat.le_of_ble_eq_true rfl, Nat.le_of_ble_eq_true rfl⟩ hK hE hP hD hS hA (isC := [0, 1, 2, 3, 4, 5, 6, 7, 8, 9, 10, 11, 12, 13, 14]) (isR := []) (isB := [0, 1, 2, 3, 4, 5, 6, 7, 8, 9, 10, 11, 12, 13, 14]) (ws' := W_Model cI a u1.1) ⟨([] : List Nat).filterMap (fun i : Nat => (W_Model cI a x : va_W)[i]?), rfl, rfl, rfl, rfl, by decide, rfl, rfl⟩ 0 7 rfl rfl rfl rfl hl.1 rfl (Nat.le_of_ble_eq_true rfl) dX8_done_30 ⟨Nat.le_of_ble_eq_true rfl, Nat.le_of_ble_eq_true rfl⟩ (fun H locs hP hD hS => ?_)
    try dsimp only at hf
    refine W.eq (g2 := F0 m 33 ls [.int u1.2]) rfl ?_
    obtain ⟨x3, hx3⟩ : ∃ z, z = u1.1 := ⟨_, rfl⟩
    replace hf := keep_e hf x3 hx3
    have hP : va_P D vwCl (W_Model cI a x3) H := by rw [hx3]; exact hP
    have hD : va_D A (W_Model cI a x3) := by rw [hx3]; exact hD
    refine lv_if_ne (tgt := 38) hx hb dX8_done_33 (by decide) (fun c4 => ?_) (fun c4 => ?_)
    · replace hf := if_f c4 hf
      refine lv_aload_n hx hb dX8_done_38 rfl (lv_at hl 0 rfl) ?_
      refine lv_iload_n hx hb dX8_done_39 rfl (lv_at hl 1 rfl) ?_
      refine lv_iload_n hx hb dX8_done_40 rfl (lv_at hl 2 rfl) ?_
      refine lv_iload_n hx hb dX8_done_41 rfl (lv_at hl 3 rfl) ?_
      obtain ⟨u5, hc6, hf⟩ := bind_t hf
      refine k_V (As := [.int v1, .int v2, .int v3]) (rest := []) (n := 3) ⟨hx, hb, hml, hown, hts⟩ (met_X8_ends l a x3 v1 v2 v3 u5 hc6) w1040 w1042 ws45 w9 w1043 ⟨rfl, by decide +kernel, by decide +kernel, by decide +kernel⟩ ⟨Nat.le_of_ble_eq_true rfl, Nat.le_of_ble_eq_true rfl⟩ hK hE hP hD hS hA (isC := [0, 1, 2, 3, 4, 5, 6, 7, 8, 9, 10, 11, 12, 13, 14]) (isR := []) (isB := [0, 1, 2, 3, 4, 5, 6, 7, 8, 9, 10, 11, 12, 13, 14]) (ws' := W_Model cI a u5.1) ⟨([] : List Nat).filterMap (fun i : Nat => (W_Model cI a x3 : va_W)[i]?), rfl, rfl, rfl, rfl, by decide, rfl, rfl⟩ 0 7 rfl rfl rfl rfl hl.1 rfl (Nat.le_of_ble_eq_true rfl) dX8_done_42 ⟨Nat.le_of_ble_eq_true rfl, Nat.le_of_ble_eq_true rfl⟩ (fun H locs hP hD hS => ?_)
      try dsimp only at hf
      refine W.eq (g2 := F0 m 45 ls [.int u5.2]) rfl ?_
      obtain ⟨x7, hx7⟩ : ∃ z, z = u5.1 := ⟨_, rfl⟩
      replace hf := keep_e hf x7 hx7
      have hP : va_P D vwCl (W_Model cI a x7) H := by rw [hx7]; exact hP
      have hD : va_D A (W_Model cI a x7) := by rw [hx7]; exact hD
      refine lv_topi (fun y8 hy8 => ?_)
      replace hf := keep_e hf y8 hy8
      refine lv_istore (lv' := [(5, .int y8), (0, .ref (a 0)), (1, .int v1), (2, .int v2), (3, .int v3)]) hx hb dX8_done_45 hl (by decide) rfl (fun ls hl => ?_)
      refine lv_iload hx hb dX8_done_47 (lv_at hl 0 rfl) ?_
      refine lv_if_eq (tgt := 62) hx hb dX8_done_49 (by decide) (fun c9 => ?_) (fun c9 => ?_)
      · replace hf := if_t c9 hf
        refine lv_iload hx hb dX8_done_62 (lv_at hl 0 rfl) ?_
        obtain ⟨hz10, hf⟩ := chk_t hf
        obtain rfl := Option.some.inj hf
        exact W.zret (v := y8) hx hb hr (isB_narrow hz10) (fun t ht hW => ⟨rfl, by rw [ht]; exact hP, va_K.moved hW.alike hK, hD, hS.F ht⟩) hS.2.2 dX8_done_64 hlocks
      · replace hf := if_f c9 hf
        refine lv_aload_n hx hb dX8_done_52 rfl (lv_at hl 1 rfl) ?_
        refine lv_bipush (v := 8) hx hb dX8_done_53 (by decide) ?_
        refine lv_iload_n hx hb dX8_done_55 rfl (lv_at hl 2 rfl) ?_
        refine lv_iload_n hx hb dX8_done_56 rfl (lv_at hl 3 rfl) ?_
        refine lv_iload_n hx hb dX8_done_57 rfl (lv_at hl 4 rfl) ?_
        refine lv_iconst (v := 0) hx hb dX8_done_58 (by decide) ?_
        obtain ⟨u11, hc12, hf⟩ := bind_t hf
        refine k_V (As := [.int 8, .int v1, .int v2, .int v3, .int 0]) (rest := []) (n := 5) ⟨hx, hb, hml, hown, hts⟩ (met_X8_writes l a x7 8 v1 v2 v3 0 u11 hc12) w947 w949 ws33 w9 w950 ⟨rfl, by decide +kernel, by decide +kernel, by decide +kernel⟩ ⟨Nat.le_of_ble_eq_true rfl, Nat.le_of_ble_eq_true rfl⟩ hK hE hP hD hS hA (isC := [0, 1, 2, 3, 4, 5, 6, 7, 8, 9, 10, 11, 12, 13, 14]) (isR := []) (isB := [0, 1, 2, 3, 4, 5, 6, 7, 8, 9, 10, 11, 12, 13, 14]) (ws' := W_Model cI a u11) ⟨([] : List Nat).filterMap (fun i : Nat => (W_Model cI a x7 : va_W)[i]?), rfl, rfl, rfl, rfl, by decide, rfl, rfl⟩ 0 7 rfl rfl rfl rfl hl.1 rfl (Nat.le_of_ble_eq_true rfl) dX8_done_59 ⟨Nat.le_of_ble_eq_true rfl, Nat.le_of_ble_eq_true rfl⟩ (fun H locs hP hD hS => ?_)
        try dsimp only at hf
        refine W.eq (g2 := F0 m 62 ls []) rfl ?_
        obtain ⟨x13, hx13⟩ : ∃ z, z = u11 := ⟨_, rfl⟩
        replace hf := keep_e hf x13 hx13
        have hP : va_P D vwCl (W_Model cI a x13) H := by rw [hx13]; exact hP
        have hD : va_D A (W_Model cI a x13) := by rw [hx13]; exact hD
        refine lv_iload hx hb dX8_done_62 (lv_at hl 0 rfl) ?_
        obtain ⟨hz14, hf⟩ := chk_t hf
        obtain rfl := Option.some.inj hf
        exact W.zret (v := y8) hx hb hr (isB_narrow hz14) (fun t ht hW => ⟨rfl, by rw [ht]; exact hP, va_K.moved hW.alike hK, hD, hS.F ht⟩) hS.2.2 dX8_done_64 hlocks
    · replace hf := if_t c4 hf
      refine lv_iconst (v := 0) hx hb dX8_done_36 (by decide) ?_
      obtain rfl := Option.some.inj hf
      exact W.zret (v := 0) hx hb hr (by decide +kernel) (fun t ht hW => ⟨rfl, by rw [ht]; exact hP, va_K.moved hW.alike hK, hD, hS.F ht⟩) hS.2.2 dX8_done_37 hlocks
  have M0 : ∀ (H : Heap) (locs : List Loc) (ls : Array Slot), fX8_done x p1 p2 p3 = some res → va_P D vwCl (W_Model cI a x) H → va_D A (W_Model cI a x) → va_S A s.heap H locs → lv_has ls 6 [(0, .ref (a 0)), (1, .int p1), (2, .int p2), (3, .int p3)] → W p l e ({ frames := 3, cells := 0, slots := 0, locals := 63 } : Room) s m ([.ref (a 0), .int p1, .int p2, .int p3] : List Value).toArray below meth c H locs 0 0 (MQ below (QW D (TY cI cV cJ cD) (W_Model cI a res.1) A (some (.int res.2))) (([.ref (a 0), .int p1, .int p2, .int p3] : List Value).toArray) s 0 0 A) (F0 m 0 ls []) := by
    intro H locs ls hf hP hD hS hl
    dsimp only [fX8_done] at hf
    refine lv_iload_n hx hb dX8_done_0 rfl (lv_at hl 1 rfl) ?_
    refine lv_iload_n hx hb dX8_done_1 rfl (lv_at hl 2 rfl) ?_
    obtain ⟨u15, hc16, hf⟩ := bind_t hf
    refine k_S (As := [.int p1, .int p2]) (rest := []) (n := 2) ⟨hx, hb, hml, hown, hts⟩ (met_X8_isGroup l p1 p2 u15 hc16) w1022 w1023 w9 w1024 ⟨by decide +kernel, by decide +kernel, by decide +kernel⟩ ⟨Nat.le_of_ble_eq_true rfl, Nat.le_of_ble_eq_true rfl⟩ hK hE hP hD hS hA (isC := []) (isR := [0, 1, 2, 3, 4, 5, 6, 7, 8, 9, 10, 11, 12, 13, 14]) (isB := [0, 1, 2, 3, 4, 5, 6, 7, 8, 9, 10, 11, 12, 13, 14]) (ws' := W_Model cI a x) ⟨([0, 1, 2, 3, 4, 5, 6, 7, 8, 9, 10, 11, 12, 13, 14] : List Nat).filterMap (fun i : Nat => (W_Model cI a x : va_W)[i]?), rfl, rfl, rfl, rfl, by decide, rfl, rfl⟩ rfl hl.1 rfl (Nat.le_of_ble_eq_true rfl) dX8_done_2 ⟨Nat.le_of_ble_eq_true rfl, Nat.le_of_ble_eq_true rfl⟩ (fun H locs hP hD hS => ?_)
    try dsimp only at hf
    refine W.eq (g2 := F0 m 5 ls [.int u15]) rfl ?_
    refine lv_istore (lv' := [(4, .int u15), (0, .ref (a 0)), (1, .int p1), (2, .int p2), (3, .int p3)]) hx hb dX8_done_5 hl (by decide) rfl (fun ls hl => ?_)
    refine lv_aload_n hx hb dX8_done_7 rfl (lv_at hl 1 rfl) ?_
    refine lv_iload hx hb dX8_done_8 (lv_at hl 0 rfl) ?_
    refine lv_if_ne (tgt := 17) hx hb dX8_done_10 (by decide) (fun c17 => ?_) (fun c17 => ?_)
    · replace hf := if_f c17 hf
      refine lv_aload_n hx hb dX8_done_17 rfl (lv_at hl 1 rfl) ?_
      refine lv_iload_n hx hb dX8_done_18 rfl (lv_at hl 2 rfl) ?_
      obtain ⟨u18, hc19, hf⟩ := bind_t hf
      refine k_V (As := [.int p1]) (rest := [.ref (a 0)]) (n := 1) ⟨hx, hb, hml, hown, hts⟩ (met_X8_isStream l a x p1 u18 hc19) w1025 w1027 ws43 w9 w1028 ⟨rfl, by decide +kernel, by decide +kernel, by decide +kernel⟩ ⟨Nat.le_of_ble_eq_true rfl, Nat.le_of_ble_eq_true rfl⟩ hK hE hP hD hS hA (isC := [0, 1, 2, 3, 4, 5, 6, 7, 8, 9, 10, 11, 12, 13, 14]) (isR := []) (isB := [0, 1, 2, 3, 4, 5, 6, 7, 8, 9, 10, 11, 12, 13, 14]) (ws' := W_Model cI a x) ⟨([] : List Nat).filterMap (fun i : Nat => (W_Model cI a x : va_W)[i]?), rfl, rfl, rfl, rfl, by decide, rfl, rfl⟩ 0 7 rfl rfl rfl rfl hl.1 rfl (Nat.le_of_ble_eq_true rfl) dX8_done_19 ⟨Nat.le_of_ble_eq_true rfl, Nat.le_of_ble_eq_true rfl⟩ (fun H locs hP hD hS => ?_)
      try dsimp only at hf
      refine W.eq (g2 := F0 m 22 ls [.int u18, .ref (a 0)]) rfl ?_
      refine lv_if_eq (tgt := 29) hx hb dX8_done_22 (by decide) (fun c20 => ?_) (fun c20 => ?_)
      · replace hf := if_t c20 hf
        refine lv_iconst (v := 2) hx hb dX8_done_29 (by decide) ?_
        exact L30 x p1 p2 p3 2 H locs ls hf hP hD hS (lv_sub hl [1, 2, 3, 4] rfl)
      · replace hf := if_f c20 hf
        refine lv_iconst (v := 0) hx hb dX8_done_25 (by decide) ?_
        refine lv_goto (tgt := 30) hx hb dX8_done_26 (by decide) ?_
        exact L30 x p1 p2 p3 0 H locs ls hf hP hD hS (lv_sub hl [1, 2, 3, 4] rfl)
    · replace hf := if_t c17 hf
      refine lv_iconst (v := 1) hx hb dX8_done_13 (by decide) ?_
      refine lv_goto (tgt := 30) hx hb dX8_done_14 (by decide) ?_
      exact L30 x p1 p2 p3 1 H locs ls hf hP hD hS (lv_sub hl [1, 2, 3, 4] rfl)
  exact M0 s.heap [] ls hf hP hD hS hl
/-! CompactformsModel.claim(IIII)I -/
def fX8_claim_47 (x : MSt) (v1 : Int32) (v2 : Int32) (v3 : Int32) (v4 : Int32) (s0 : Int32) : Option (MSt × Int32) := (fX8_can x s0).bind (fun u1 => keep u1.1 (fun x3 => (if u1.2 = 0 then some (x3, 0) else (fX8_claims x3 v1 v2 v3 v4).bind (fun u5 => keep u5.1 (fun x7 => keep u5.2 (fun y8 => (if y8 ≤ 0 then some (x7, y8) else (fX8_writes x7 9 v1 v2 v3 v4).bind (fun u10 => keep u10 (fun x12 => some (x12, y8))))))))))
def fX8_claim (x : MSt) (p1 : Int32) (p2 : Int32) (p3 : Int32) (p4 : Int32) : Option (MSt × Int32) := (fX8_isReader p1 p2 p3).bind (fun u13 => (if u13 = 0 then fX8_claim_47 x p1 p2 p3 p4 1 else (fX8_isIn p4 0 1000).bind (fun u16 => (if u16 = 0 then fX8_claim_47 x p1 p2 p3 p4 2 else (fX8_isStream x p1).bind (fun u19 => (if u19 = 0 then fX8_claim_47 x p1 p2 p3 p4 3 else fX8_claim_47 x p1 p2 p3 p4 0))))))
set_option maxHeartbeats 4000000 in
set_option maxRecDepth 100000 in
theorem met_X8_claim {D : va_G} {cI cV cJ cD : ClassId} (l : Launch) (a : Nat → Nat) (x : MSt) (p1 : Int32) (p2 : Int32) (p3 : Int32) (p4 : Int32) (res : MSt × Int32) (hf : fX8_claim x p1 p2 p3 p4 = some res) : MM l yX8_claim cX8_claim 7 (some .int) { frames := 4, cells := 0, slots := 0, locals := 85 } D (TY cI cV cJ cD) (W_Model cI a x) (W_Model cI a res.1) [.ref (a 0), .int p1, .int p2, .int p3, .int p4] (some (.int res.2)) := by
  intro sz
  refine Met.ofW (cc := cX8_claim) (maxL := 7) (ret := (some .int)) (by decide +kernel) rfl ?_
  intro p e s m args below meth c s₁ B hml hv
  obtain ⟨rfl, hsz, hP, hK, hD0, hE⟩ := hv
  have hx := B.exec
  have hb := B.bytes
  have hr := B.returns
  have hts := atoms_spec (ws := .code yX8_claim cX8_claim 7 (some .int) :: GW) B.pre
  have hg : ∀ w ∈ GW, w.before (([.ref (a 0), .int p1, .int p2, .int p3, .int p4] : List Value).toArray) s = true := fun w h => hts w (List.mem_cons_of_mem _ h)
  have hown : s.vm.findClass RX8 = some m.cls := findClass_of_methodNamed B.named
  have hlocks := B.notSynchronized
  subst hsz
  have hD := hD0.self (sz := s.heap.size)
  generalize hAe : va_A (W_Model cI a x) s.heap.size = A at hD hE ⊢
  have hA : ∀ q : Nat, s.heap.size ≤ q → A q := fun q h => by rw [← hAe]; exact Or.inr h
  have hS : va_S A s.heap s.heap [] := va_S.rf
  have hl := lv_entry ([.ref (a 0), .int p1, .int p2, .int p3, .int p4]) (n := 7) (Nat.le_of_ble_eq_true rfl)
  rw [lg_entry_eq]
  generalize (lg_sl ([.ref (a 0), .int p1, .int p2, .int p3, .int p4]) ++ List.replicate (7 - (lg_sl ([.ref (a 0), .int p1, .int p2, .int p3, .int p4])).length) Slot.unset).toArray = ls at hl ⊢
  have hl : lv_has ls 7 [(0, .ref (a 0)), (1, .int p1), (2, .int p2), (3, .int p3), (4, .int p4)] := hl
  have L47 : ∀ (x : MSt) (v1 : Int32) (v2 : Int32) (v3 : Int32) (v4 : Int32) (s0 : Int32) (H : Heap) (locs : List Loc) (ls : Array Slot), fX8_claim_47 x v1 v2 v3 v4 s0  = some res → va_P D vwCl (W_Model cI a x) H → va_D A (W_Model cI a x) → va_S A s.heap H locs → lv_has ls 7 [(0, .ref (a 0)), (1, .int v1), (2, .int v2), (3, .int v3), (4, .int v4)] → W p l e ({ frames := 4, cells := 0, slots := 0, locals := 85 } : Room) s m ([.ref (a 0), .int p1, .int p2, .int p3, .int p4] : List Value).toArray below meth c H locs 0 0 (MQ below (QW D (TY cI cV cJ cD) (W_Model cI a res.1) A (some (.int res.2))) (([.ref (a 0), .int p1, .int p2, .int p3, .int p4] : List Value).toArray) s 0 0 A) (F0 m 47 ls [.int s0, .ref (a 0)]) := by
    intro x v1 v2 v3 v4 s0 H locs ls hf hP hD hS hl
    dsimp only [fX8_claim_47] at hf
    obtain ⟨u1, hc2, hf⟩ := bind_t hf
    refine k_V (As := [.int s0]) (rest := []) (n := 1) ⟨hx, hb, hml, hown, hts⟩ (met_X8_can l a x s0 u1 hc2) w927 w929 ws28 w9 w930 ⟨rfl, by decide +kernel, by decide +kernel, by decide +kernel⟩ ⟨Nat.le_of_ble_eq_true rfl, Nat.le_of_ble_eq_true rfl⟩ hK hE hP hD hS hA (isC := [0, 1, 2, 3, 4, 5, 6, 7, 8, 9, 10, 11, 12, 13, 14]) (isR := []) (isB := [0, 1, 2, 3, 4, 5, 6, 7, 8, 9, 10, 11, 12, 13, 14]) (ws' := W_Model cI a u1.1) ⟨([] : List Nat).filterMap (fun i : Nat => (W_Model cI a x : va_W)[i]?), rfl, rfl, rfl, rfl, by decide, rfl, rfl⟩ 0 7 rfl rfl rfl rfl hl.1 rfl (Nat.le_of_ble_eq_true rfl) dX8_claim_47 ⟨Nat.le_of_ble_eq_true rfl, Nat.le_of_ble_eq_true rfl⟩ (fun H locs hP hD hS => ?_)
    try dsimp only at hf
    refine W.eq (g2 := F0 m 50 ls [.int u1.2]) rfl ?_
    obtain ⟨x3, hx3⟩ : ∃ z, z = u1.1 := ⟨_, rfl⟩
    replace hf := keep_e hf x3 hx3
    have hP : va_P D vwCl (W_Model cI a x3) H := by rw [hx3]; exact hP
    have hD : va_D A (W_Model cI a x3) := by rw [hx3]; exact hD
    refine lv_if_ne (tgt := 55) hx hb dX8_claim_50 (by decide) (fun c4 => ?_) (fun c4 => ?_)
    · replace hf := if_f c4 hf
      refine lv_aload_n hx hb dX8_claim_55 rfl (lv_at hl 0 rfl) ?_
      refine lv_iload_n hx hb dX8_claim_56 rfl (lv_at hl 1 rfl) ?_
      refine lv_iload_n hx hb dX8_claim_57 rfl (lv_at hl 2 rfl) ?_
      refine lv_iload_n hx hb dX8_claim_58 rfl (lv_at hl 3 rfl) ?_
      refine lv_iload hx hb dX8_claim_59 (lv_at hl 4 rfl) ?_
      obtain ⟨u5, hc6, hf⟩ := bind_t hf
      refine k_V (As := [.int v1, .int v2, .int v3, .int v4]) (rest := []) (n := 4) ⟨hx, hb, hml, hown, hts⟩ (met_X8_claims l a x3 v1 v2 v3 v4 u5 hc6) w1048 w1050 ws46 w9 w1051 ⟨rfl, by decide +kernel, by decide +kernel, by decide +kernel⟩ ⟨Nat.le_of_ble_eq_true rfl, Nat.le_of_ble_eq_true rfl⟩ hK hE hP hD hS hA (isC := [0, 1, 2, 3, 4, 5, 6, 7, 8, 9, 10, 11, 12, 13, 14]) (isR := []) (isB := [0, 1, 2, 3, 4, 5, 6, 7, 8, 9, 10, 11, 12, 13, 14]) (ws' := W_Model cI a u5.1) ⟨([] : List Nat).filterMap (fun i : Nat => (W_Model cI a x3 : va_W)[i]?), rfl, rfl, rfl, rfl, by decide, rfl, rfl⟩ 0 7 rfl rfl rfl rfl hl.1 rfl (Nat.le_of_ble_eq_true rfl) dX8_claim_61 ⟨Nat.le_of_ble_eq_true rfl, Nat.le_of_ble_eq_true rfl⟩ (fun H locs hP hD hS => ?_)
      try dsimp only at hf
      refine W.eq (g2 := F0 m 64 ls [.int u5.2]) rfl ?_
      obtain ⟨x7, hx7⟩ : ∃ z, z = u5.1 := ⟨_, rfl⟩
      replace hf := keep_e hf x7 hx7
      have hP : va_P D vwCl (W_Model cI a x7) H := by rw [hx7]; exact hP
      have hD : va_D A (W_Model cI a x7) := by rw [hx7]; exact hD
      refine lv_topi (fun y8 hy8 => ?_)
      replace hf := keep_e hf y8 hy8
      refine lv_istore (lv' := [(6, .int y8), (0, .ref (a 0)), (1, .int v1), (2, .int v2), (3, .int v3), (4, .int v4)]) hx hb dX8_claim_64 hl (by decide) rfl (fun ls hl => ?_)
      refine lv_iload hx hb dX8_claim_66 (lv_at hl 0 rfl) ?_
      refine lv_if_le (tgt := 82) hx hb dX8_claim_68 (by decide) (fun c9 => ?_) (fun c9 => ?_)
      · replace hf := if_t c9 hf
        refine lv_iload hx hb dX8_claim_82 (lv_at hl 0 rfl) ?_
        obtain rfl := Option.some.inj hf
        exact W.iret (v := y8) hx hb hr (fun t ht hW => ⟨rfl, by rw [ht]; exact hP, va_K.moved hW.alike hK, hD, hS.F ht⟩) hS.2.2 dX8_claim_84 hlocks
      · replace hf := if_f c9 hf
        refine lv_aload_n hx hb dX8_claim_71 rfl (lv_at hl 1 rfl) ?_
        refine lv_bipush (v := 9) hx hb dX8_claim_72 (by decide) ?_
        refine lv_iload_n hx hb dX8_claim_74 rfl (lv_at hl 2 rfl) ?_
        refine lv_iload_n hx hb dX8_claim_75 rfl (lv_at hl 3 rfl) ?_
        refine lv_iload_n hx hb dX8_claim_76 rfl (lv_at hl 4 rfl) ?_
        refine lv_iload hx hb dX8_claim_77 (lv_at hl 5 rfl) ?_
        obtain ⟨u10, hc11, hf⟩ := bind_t hf
        refine k_V (As := [.int 9, .int v1, .int v2, .int v3, .int v4]) (rest := []) (n := 5) ⟨hx, hb, hml, hown, hts⟩ (met_X8_writes l a x7 9 v1 v2 v3 v4 u10 hc11) w947 w949 ws33 w9 w950 ⟨rfl, by decide +kernel, by decide +kernel, by decide +kernel⟩ ⟨Nat.le_of_ble_eq_true rfl, Nat.le_of_ble_eq_true rfl⟩ hK hE hP hD hS hA (isC := [0, 1, 2, 3, 4, 5, 6, 7, 8, 9, 10, 11, 12, 13, 14]) (isR := []) (isB := [0, 1, 2, 3, 4, 5, 6, 7, 8, 9, 10, 11, 12, 13, 14]) (ws' := W_Model cI a u10) ⟨([] : List Nat).filterMap (fun i : Nat => (W_Model cI a x7 : va_W)[i]?), rfl, rfl, rfl, rfl, by decide, rfl, rfl⟩ 0 7 rfl rfl rfl rfl hl.1 rfl (Nat.le_of_ble_eq_true rfl) dX8_claim_79 ⟨Nat.le_of_ble_eq_true rfl, Nat.le_of_ble_eq_true rfl⟩ (fun H locs hP hD hS => ?_)
        try dsimp only at hf
        refine W.eq (g2 := F0 m 82 ls []) rfl ?_
        obtain ⟨x12, hx12⟩ : ∃ z, z = u10 := ⟨_, rfl⟩
        replace hf := keep_e hf x12 hx12
        have hP : va_P D vwCl (W_Model cI a x12) H := by rw [hx12]; exact hP
        have hD : va_D A (W_Model cI a x12) := by rw [hx12]; exact hD
        refine lv_iload hx hb dX8_claim_82 (lv_at hl 0 rfl) ?_
        obtain rfl := Option.some.inj hf
        exact W.iret (v := y8) hx hb hr (fun t ht hW => ⟨rfl, by rw [ht]; exact hP, va_K.moved hW.alike hK, hD, hS.F ht⟩) hS.2.2 dX8_claim_84 hlocks
    · replace hf := if_t c4 hf
      refine lv_iconst (v := 0) hx hb dX8_claim_53 (by decide) ?_
      obtain rfl := Option.some.inj hf
      exact W.iret (v := 0) hx hb hr (fun t ht hW => ⟨rfl, by rw [ht]; exact hP, va_K.moved hW.alike hK, hD, hS.F ht⟩) hS.2.2 dX8_claim_54 hlocks
  have M0 : ∀ (H : Heap) (locs : List Loc) (ls : Array Slot), fX8_claim x p1 p2 p3 p4 = some res → va_P D vwCl (W_Model cI a x) H → va_D A (W_Model cI a x) → va_S A s.heap H locs → lv_has ls 7 [(0, .ref (a 0)), (1, .int p1), (2, .int p2), (3, .int p3), (4, .int p4)] → W p l e ({ frames := 4, cells := 0, slots := 0, locals := 85 } : Room) s m ([.ref (a 0), .int p1, .int p2, .int p3, .int p4] : List Value).toArray below meth c H locs 0 0 (MQ below (QW D (TY cI cV cJ cD) (W_Model cI a res.1) A (some (.int res.2))) (([.ref (a 0), .int p1, .int p2, .int p3, .int p4] : List Value).toArray) s 0 0 A) (F0 m 0 ls []) := by
    intro H locs ls hf hP hD hS hl
    dsimp only [fX8_claim] at hf
    refine lv_iload_n hx hb dX8_claim_0 rfl (lv_at hl 1 rfl) ?_
    refine lv_iload_n hx hb dX8_claim_1 rfl (lv_at hl 2 rfl) ?_
    refine lv_iload_n hx hb dX8_claim_2 rfl (lv_at hl 3 rfl) ?_
    obtain ⟨u13, hc14, hf⟩ := bind_t hf
    refine k_S (As := [.int p1, .int p2, .int p3]) (rest := []) (n := 3) ⟨hx, hb, hml, hown, hts⟩ (met_X8_isReader l p1 p2 p3 u13 hc14) w1019 w1020 w9 w1021 ⟨by decide +kernel, by decide +kernel, by decide +kernel⟩ ⟨Nat.le_of_ble_eq_true rfl, Nat.le_of_ble_eq_true rfl⟩ hK hE hP hD hS hA (isC := []) (isR := [0, 1, 2, 3, 4, 5, 6, 7, 8, 9, 10, 11, 12, 13, 14]) (isB := [0, 1, 2, 3, 4, 5, 6, 7, 8, 9, 10, 11, 12, 13, 14]) (ws' := W_Model cI a x) ⟨([0, 1, 2, 3, 4, 5, 6, 7, 8, 9, 10, 11, 12, 13, 14] : List Nat).filterMap (fun i : Nat => (W_Model cI a x : va_W)[i]?), rfl, rfl, rfl, rfl, by decide, rfl, rfl⟩ rfl hl.1 rfl (Nat.le_of_ble_eq_true rfl) dX8_claim_3 ⟨Nat.le_of_ble_eq_true rfl, Nat.le_of_ble_eq_true rfl⟩ (fun H locs hP hD hS => ?_)
    try dsimp only at hf
    refine W.eq (g2 := F0 m 6 ls [.int u13]) rfl ?_
    refine lv_istore (lv' := [(5, .int u13), (0, .ref (a 0)), (1, .int p1), (2, .int p2), (3, .int p3), (4, .int p4)]) hx hb dX8_claim_6 hl (by decide) rfl (fun ls hl => ?_)
    refine lv_aload_n hx hb dX8_claim_8 rfl (lv_at hl 1 rfl) ?_
    refine lv_iload hx hb dX8_claim_9 (lv_at hl 0 rfl) ?_
    refine lv_if_ne (tgt := 18) hx hb dX8_claim_11 (by decide) (fun c15 => ?_) (fun c15 => ?_)
    · replace hf := if_f c15 hf
      refine lv_iload hx hb dX8_claim_18 (lv_at hl 5 rfl) ?_
      refine lv_iconst (v := 0) hx hb dX8_claim_20 (by decide) ?_
      refine lv_sipush (v := 1000) hx hb dX8_claim_21 (by decide) ?_
      obtain ⟨u16, hc17, hf⟩ := bind_t hf
      refine k_S (As := [.int p4, .int 0, .int 1000]) (rest := [.ref (a 0)]) (n := 3) ⟨hx, hb, hml, hown, hts⟩ (met_X8_isIn l p4 0 1000 u16 hc17) w909 w910 w9 w911 ⟨by decide +kernel, by decide +kernel, by decide +kernel⟩ ⟨Nat.le_of_ble_eq_true rfl, Nat.le_of_ble_eq_true rfl⟩ hK hE hP hD hS hA (isC := []) (isR := [0, 1, 2, 3, 4, 5, 6, 7, 8, 9, 10, 11, 12, 13, 14]) (isB := [0, 1, 2, 3, 4, 5, 6, 7, 8, 9, 10, 11, 12, 13, 14]) (ws' := W_Model cI a x) ⟨([0, 1, 2, 3, 4, 5, 6, 7, 8, 9, 10, 11, 12, 13, 14] : List Nat).filterMap (fun i : Nat => (W_Model cI a x : va_W)[i]?), rfl, rfl, rfl, rfl, by decide, rfl, rfl⟩ rfl hl.1 rfl (Nat.le_of_ble_eq_true rfl) dX8_claim_24 ⟨Nat.le_of_ble_eq_true rfl, Nat.le_of_ble_eq_true rfl⟩ (fun H locs hP hD hS => ?_)
      try dsimp only at hf
      refine W.eq (g2 := F0 m 27 ls [.int u16, .ref (a 0)]) rfl ?_
      refine lv_if_ne (tgt := 34) hx hb dX8_claim_27 (by decide) (fun c18 => ?_) (fun c18 => ?_)
      · replace hf := if_f c18 hf
        refine lv_aload_n hx hb dX8_claim_34 rfl (lv_at hl 1 rfl) ?_
        refine lv_iload_n hx hb dX8_claim_35 rfl (lv_at hl 2 rfl) ?_
        obtain ⟨u19, hc20, hf⟩ := bind_t hf
        refine k_V (As := [.int p1]) (rest := [.ref (a 0)]) (n := 1) ⟨hx, hb, hml, hown, hts⟩ (met_X8_isStream l a x p1 u19 hc20) w1025 w1027 ws43 w9 w1028 ⟨rfl, by decide +kernel, by decide +kernel, by decide +kernel⟩ ⟨Nat.le_of_ble_eq_true rfl, Nat.le_of_ble_eq_true rfl⟩ hK hE hP hD hS hA (isC := [0, 1, 2, 3, 4, 5, 6, 7, 8, 9, 10, 11, 12, 13, 14]) (isR := []) (isB := [0, 1, 2, 3, 4, 5, 6, 7, 8, 9, 10, 11, 12, 13, 14]) (ws' := W_Model cI a x) ⟨([] : List Nat).filterMap (fun i : Nat => (W_Model cI a x : va_W)[i]?), rfl, rfl, rfl, rfl, by decide, rfl, rfl⟩ 0 7 rfl rfl rfl rfl hl.1 rfl (Nat.le_of_ble_eq_true rfl) dX8_claim_36 ⟨Nat.le_of_ble_eq_true rfl, Nat.le_of_ble_eq_true rfl⟩ (fun H locs hP hD hS => ?_)
        try dsimp only at hf
        refine W.eq (g2 := F0 m 39 ls [.int u19, .ref (a 0)]) rfl ?_
        refine lv_if_eq (tgt := 46) hx hb dX8_claim_39 (by decide) (fun c21 => ?_) (fun c21 => ?_)
        · replace hf := if_t c21 hf
          refine lv_iconst (v := 3) hx hb dX8_claim_46 (by decide) ?_
          exact L47 x p1 p2 p3 p4 3 H locs ls hf hP hD hS (lv_sub hl [1, 2, 3, 4, 5] rfl)
        · replace hf := if_f c21 hf
          refine lv_iconst (v := 0) hx hb dX8_claim_42 (by decide) ?_
          refine lv_goto (tgt := 47) hx hb dX8_claim_43 (by decide) ?_
          exact L47 x p1 p2 p3 p4 0 H locs ls hf hP hD hS (lv_sub hl [1, 2, 3, 4, 5] rfl)
      · replace hf := if_t c18 hf
        refine lv_iconst (v := 2) hx hb dX8_claim_30 (by decide) ?_
        refine lv_goto (tgt := 47) hx hb dX8_claim_31 (by decide) ?_
        exact L47 x p1 p2 p3 p4 2 H locs ls hf hP hD hS (lv_sub hl [1, 2, 3, 4, 5] rfl)
    · replace hf := if_t c15 hf
      refine lv_iconst (v := 1) hx hb dX8_claim_14 (by decide) ?_
      refine lv_goto (tgt := 47) hx hb dX8_claim_15 (by decide) ?_
      exact L47 x p1 p2 p3 p4 1 H locs ls hf hP hD hS (lv_sub hl [1, 2, 3, 4, 5] rfl)
  exact M0 s.heap [] ls hf hP hD hS hl
/-! CompactformsModel.waiting(III)I -/
def fX8_waiting_82 (x : MSt) (v5 : Int32) (s0 : Int32) : Option (MSt × Int32) := (fX8_can x s0).bind (fun u1 => keep u1.1 (fun x3 => (if u1.2 = 0 then some (x3, 0) else some (x3, v5))))
def fX8_waiting_71 (x : MSt) (v4 : Int32) (v5 : Int32) : Option (MSt × Int32) := (if v4 = 0 then fX8_waiting_82 x v5 1 else fX8_waiting_82 x v5 0)
def fX8_waiting_14 (x : MSt) (v1 : Int32) (v2 : Int32) (v3 : Int32) (v4 : Int32) (rec14 : Int32 × Int32 → Option (MSt × Int32)) (s : Int32 × Int32) : Option (MSt × Int32) := match s with | (v5, v6) => (if 40 ≤ v6 then fX8_waiting_71 x v4 v5 else (if v4 = 0 then fX8_waiting_71 x v4 v5 else (fX8_typeNow x v1).bind (fun u8 => (if u8 = 4 then (fX8_spot v1 v2 (v6 + 1)).bind (fun u11 => chk (inb u11 1920) ((if ((mWaits x) (u11).toNatClampNeg) = (v3 + 1) then keep (v5 + 1) (fun y17 => keep (v6 + 1) (fun y18 => rec14 (y17, y18))) else keep (v5 + 0) (fun y15 => keep (v6 + 1) (fun y16 => rec14 (y15, y16)))))) else fX8_waiting_71 x v4 v5))))
def fX8_waiting (x : MSt) (p1 : Int32) (p2 : Int32) (p3 : Int32) : Option (MSt × Int32) := (fX8_isReader p1 p2 p3).bind (fun u19 => iterK FU (fX8_waiting_14 x p1 p2 p3 u19) (0, 0))
set_option maxHeartbeats 4000000 in
set_option maxRecDepth 100000 in
theorem met_X8_waiting {D : va_G} {cI cV cJ cD : ClassId} (l : Launch) (a : Nat → Nat) (x : MSt) (p1 : Int32) (p2 : Int32) (p3 : Int32) (res : MSt × Int32) (hf : fX8_waiting x p1 p2 p3 = some res) : MM l yX8_waiting cX8_waiting 7 (some .int) { frames := 4, cells := 0, slots := 0, locals := 85 } D (TY cI cV cJ cD) (W_Model cI a x) (W_Model cI a res.1) [.ref (a 0), .int p1, .int p2, .int p3] (some (.int res.2)) := by
  intro sz
  refine Met.ofW (cc := cX8_waiting) (maxL := 7) (ret := (some .int)) (by decide +kernel) rfl ?_
  intro p e s m args below meth c s₁ B hml hv
  obtain ⟨rfl, hsz, hP, hK, hD0, hE⟩ := hv
  have hx := B.exec
  have hb := B.bytes
  have hr := B.returns
  have hts := atoms_spec (ws := .code yX8_waiting cX8_waiting 7 (some .int) :: GW) B.pre
  have hg : ∀ w ∈ GW, w.before (([.ref (a 0), .int p1, .int p2, .int p3] : List Value).toArray) s = true := fun w h => hts w (List.mem_cons_of_mem _ h)
  have hown : s.vm.findClass RX8 = some m.cls := findClass_of_methodNamed B.named
  have hlocks := B.notSynchronized
  subst hsz
  have hD := hD0.self (sz := s.heap.size)
  generalize hAe : va_A (W_Model cI a x) s.heap.size = A at hD hE ⊢
  have hA : ∀ q : Nat, s.heap.size ≤ q → A q := fun q h => by rw [← hAe]; exact Or.inr h
  have hS : va_S A s.heap s.heap [] := va_S.rf
  have hl := lv_entry ([.ref (a 0), .int p1, .int p2, .int p3]) (n := 7) (Nat.le_of_ble_eq_true rfl)
  rw [lg_entry_eq]
  generalize (lg_sl ([.ref (a 0), .int p1, .int p2, .int p3]) ++ List.replicate (7 - (lg_sl ([.ref (a 0), .int p1, .int p2, .int p3])).length) Slot.unset).toArray = ls at hl ⊢
  have hl : lv_has ls 7 [(0, .ref (a 0)), (1, .int p1), (2, .int p2), (3, .int p3)] := hl
  have L82 : ∀ (x : MSt) (v5 : Int32) (s0 : Int32) (H : Heap) (locs : List Loc) (ls : Array Slot), fX8_waiting_82 x v5 s0  = some res → va_P D vwCl (W_Model cI a x) H → va_D A (W_Model cI a x) → va_S A s.heap H locs → lv_has ls 7 [(5, .int v5)] → W p l e ({ frames := 4, cells := 0, slots := 0, locals := 85 } : Room) s m ([.ref (a 0), .int p1, .int p2, .int p3] : List Value).toArray below meth c H locs 0 0 (MQ below (QW D (TY cI cV cJ cD) (W_Model cI a res.1) A (some (.int res.2))) (([.ref (a 0), .int p1, .int p2, .int p3] : List Value).toArray) s 0 0 A) (F0 m 82 ls [.int s0, .ref (a 0)]) := by
    intro x v5 s0 H locs ls hf hP hD hS hl
    dsimp only [fX8_waiting_82] at hf
    obtain ⟨u1, hc2, hf⟩ := bind_t hf
    refine k_V (As := [.int s0]) (rest := []) (n := 1) ⟨hx, hb, hml, hown, hts⟩ (met_X8_can l a x s0 u1 hc2) w927 w929 ws28 w9 w930 ⟨rfl, by decide +kernel, by decide +kernel, by decide +kernel⟩ ⟨Nat.le_of_ble_eq_true rfl, Nat.le_of_ble_eq_true rfl⟩ hK hE hP hD hS hA (isC := [0, 1, 2, 3, 4, 5, 6, 7, 8, 9, 10, 11, 12, 13, 14]) (isR := []) (isB := [0, 1, 2, 3, 4, 5, 6, 7, 8, 9, 10, 11, 12, 13, 14]) (ws' := W_Model cI a u1.1) ⟨([] : List Nat).filterMap (fun i : Nat => (W_Model cI a x : va_W)[i]?), rfl, rfl, rfl, rfl, by decide, rfl, rfl⟩ 0 7 rfl rfl rfl rfl hl.1 rfl (Nat.le_of_ble_eq_true rfl) dX8_waiting_82 ⟨Nat.le_of_ble_eq_true rfl, Nat.le_of_ble_eq_true rfl⟩ (fun H locs hP hD hS => ?_)
    try dsimp only at hf
    refine W.eq (g2 := F0 m 85 ls [.int u1.2]) rfl ?_
    obtain ⟨x3, hx3⟩ : ∃ z, z = u1.1 := ⟨_, rfl⟩
    replace hf := keep_e hf x3 hx3
    have hP : va_P D vwCl (W_Model cI a x3) H := by rw [hx3]; exact hP
    have hD : va_D A (W_Model cI a x3) := by rw [hx3]; exact hD
    refine lv_if_eq (tgt := 93) hx hb dX8_waiting_85 (by decide) (fun c4 => ?_) (fun c4 => ?_)
    · replace hf := if_t c4 hf
      refine lv_iconst (v := 0) hx hb dX8_waiting_93 (by decide) ?_
      obtain rfl := Option.some.inj hf
      exact W.iret (v := 0) hx hb hr (fun t ht hW => ⟨rfl, by rw [ht]; exact hP, va_K.moved hW.alike hK, hD, hS.F ht⟩) hS.2.2 dX8_waiting_94 hlocks
    · replace hf := if_f c4 hf
      refine lv_iload hx hb dX8_waiting_88 (lv_at hl 0 rfl) ?_
      refine lv_goto (tgt := 94) hx hb dX8_waiting_90 (by decide) ?_
      obtain rfl := Option.some.inj hf
      exact W.iret (v := v5) hx hb hr (fun t ht hW => ⟨rfl, by rw [ht]; exact hP, va_K.moved hW.alike hK, hD, hS.F ht⟩) hS.2.2 dX8_waiting_94 hlocks
  have L71 : ∀ (x : MSt) (v4 : Int32) (v5 : Int32) (H : Heap) (locs : List Loc) (ls : Array Slot), fX8_waiting_71 x v4 v5  = some res → va_P D vwCl (W_Model cI a x) H → va_D A (W_Model cI a x) → va_S A s.heap H locs → lv_has ls 7 [(0, .ref (a 0)), (4, .int v4), (5, .int v5)] → W p l e ({ frames := 4, cells := 0, slots := 0, locals := 85 } : Room) s m ([.ref (a 0), .int p1, .int p2, .int p3] : List Value).toArray below meth c H locs 0 0 (MQ below (QW D (TY cI cV cJ cD) (W_Model cI a res.1) A (some (.int res.2))) (([.ref (a 0), .int p1, .int p2, .int p3] : List Value).toArray) s 0 0 A) (F0 m 71 ls []) := by
    intro x v4 v5 H locs ls hf hP hD hS hl
    dsimp only [fX8_waiting_71] at hf
    refine lv_aload_n hx hb dX8_waiting_71 rfl (lv_at hl 0 rfl) ?_
    refine lv_iload hx hb dX8_waiting_72 (lv_at hl 1 rfl) ?_
    refine lv_if_eq (tgt := 81) hx hb dX8_waiting_74 (by decide) (fun c5 => ?_) (fun c5 => ?_)
    · replace hf := if_t c5 hf
      refine lv_iconst (v := 1) hx hb dX8_waiting_81 (by decide) ?_
      exact L82 x v5 1 H locs ls hf hP hD hS (lv_sub hl [2] rfl)
    · replace hf := if_f c5 hf
      refine lv_iconst (v := 0) hx hb dX8_waiting_77 (by decide) ?_
      refine lv_goto (tgt := 82) hx hb dX8_waiting_78 (by decide) ?_
      exact L82 x v5 0 H locs ls hf hP hD hS (lv_sub hl [2] rfl)
  have S14 : ∀ (x : MSt) (v1 : Int32) (v2 : Int32) (v3 : Int32) (v4 : Int32) (rec14 : Int32 × Int32 → Option (MSt × Int32)) (hrec14 : ∀ (v5 : Int32), ∀ (v6 : Int32), ∀ (H : Heap) (locs : List Loc) (ls : Array Slot), rec14 (v5, v6) = some res → va_P D vwCl (W_Model cI a x) H → va_D A (W_Model cI a x) → va_S A s.heap H locs → lv_has ls 7 [(0, .ref (a 0)), (1, .int v1), (2, .int v2), (3, .int v3), (4, .int v4), (5, .int v5), (6, .int v6)] → W p l e ({ frames := 4, cells := 0, slots := 0, locals := 85 } : Room) s m ([.ref (a 0), .int p1, .int p2, .int p3] : List Value).toArray below meth c H locs 0 0 (MQ below (QW D (TY cI cV cJ cD) (W_Model cI a res.1) A (some (.int res.2))) (([.ref (a 0), .int p1, .int p2, .int p3] : List Value).toArray) s 0 0 A) (F0 m 14 ls [])) (v5 : Int32) (v6 : Int32) (H : Heap) (locs : List Loc) (ls : Array Slot), fX8_waiting_14 x v1 v2 v3 v4  rec14 (v5, v6) = some res → va_P D vwCl (W_Model cI a x) H → va_D A (W_Model cI a x) → va_S A s.heap H locs → lv_has ls 7 [(0, .ref (a 0)), (1, .int v1), (2, .int v2), (3, .int v3), (4, .int v4), (5, .int v5), (6, .int v6)] → W p l e ({ frames := 4, cells := 0, slots := 0, locals := 85 } : Room) s m ([.ref (a 0), .int p1, .int p2, .int p3] : List Value).toArray below meth c H locs 0 0 (MQ below (QW D (TY cI cV cJ cD) (W_Model cI a res.1) A (some (.int res.2))) (([.ref (a 0), .int p1, .int p2, .int p3] : List Value).toArray) s 0 0 A) (F0 m 14 ls []) := by
    intro x v1 v2 v3 v4 rec14 hrec14 v5 v6 H locs ls hf hP hD hS hl
    dsimp only [fX8_waiting_14] at hf
    refine lv_iload hx hb dX8_waiting_14 (lv_at hl 6 rfl) ?_
    refine lv_bipush (v := 40) hx hb dX8_waiting_16 (by decide) ?_
    refine lv_icmp_ge (tgt := 71) hx hb dX8_waiting_18 (by decide) (fun c6 => ?_) (fun c6 => ?_)
    · replace hf := if_t c6 hf
      exact L71 x v4 v5 H locs ls hf hP hD hS (lv_sub hl [0, 4, 5] rfl)
    · replace hf := if_f c6 hf
      refine lv_iload hx hb dX8_waiting_21 (lv_at hl 4 rfl) ?_
      refine lv_if_eq (tgt := 71) hx hb dX8_waiting_23 (by decide) (fun c7 => ?_) (fun c7 => ?_)
      · replace hf := if_t c7 hf
        exact L71 x v4 v5 H locs ls hf hP hD hS (lv_sub hl [0, 4, 5] rfl)
      · replace hf := if_f c7 hf
        refine lv_aload_n hx hb dX8_waiting_26 rfl (lv_at hl 0 rfl) ?_
        refine lv_iload_n hx hb dX8_waiting_27 rfl (lv_at hl 1 rfl) ?_
        obtain ⟨u8, hc9, hf⟩ := bind_t hf
        refine k_V (As := [.int v1]) (rest := []) (n := 1) ⟨hx, hb, hml, hown, hts⟩ (met_X8_typeNow l a x v1 u8 hc9) w912 w914 ws25 w9 w915 ⟨rfl, by decide +kernel, by decide +kernel, by decide +kernel⟩ ⟨Nat.le_of_ble_eq_true rfl, Nat.le_of_ble_eq_true rfl⟩ hK hE hP hD hS hA (isC := [0, 1, 2, 3, 4, 5, 6, 7, 8, 9, 10, 11, 12, 13, 14]) (isR := []) (isB := [0, 1, 2, 3, 4, 5, 6, 7, 8, 9, 10, 11, 12, 13, 14]) (ws' := W_Model cI a x) ⟨([] : List Nat).filterMap (fun i : Nat => (W_Model cI a x : va_W)[i]?), rfl, rfl, rfl, rfl, by decide, rfl, rfl⟩ 0 7 rfl rfl rfl rfl hl.1 rfl (Nat.le_of_ble_eq_true rfl) dX8_waiting_28 ⟨Nat.le_of_ble_eq_true rfl, Nat.le_of_ble_eq_true rfl⟩ (fun H locs hP hD hS => ?_)
        try dsimp only at hf
        refine W.eq (g2 := F0 m 31 ls [.int u8]) rfl ?_
        refine lv_iconst (v := 4) hx hb dX8_waiting_31 (by decide) ?_
        refine lv_icmp_ne (tgt := 71) hx hb dX8_waiting_32 (by decide) (fun c10 => ?_) (fun c10 => ?_)
        · replace hf := if_f c10 hf
          exact L71 x v4 v5 H locs ls hf hP hD hS (lv_sub hl [0, 4, 5] rfl)
        · replace hf := if_t c10 hf
          refine lv_iload hx hb dX8_waiting_35 (lv_at hl 5 rfl) ?_
          refine lv_aload_n hx hb dX8_waiting_37 rfl (lv_at hl 0 rfl) ?_
          refine va_get (D := D) (ci := 7) (v := .ref (a 10)) (C := RX8) (T := TX8) (N := 24) hx hb hg in_X8 hown hK hP 0 rfl rfl 11 (by decide) (hg _ w836) (fun _ h9 => h9) rfl dX8_waiting_38 ?_
          refine lv_iload_n hx hb dX8_waiting_41 rfl (lv_at hl 1 rfl) ?_
          refine lv_iload_n hx hb dX8_waiting_42 rfl (lv_at hl 2 rfl) ?_
          refine lv_iload hx hb dX8_waiting_43 (lv_at hl 6 rfl) ?_
          refine lv_iconst (v := 1) hx hb dX8_waiting_45 (by decide) ?_
          refine lv_iadd hx hb dX8_waiting_46 ?_
          obtain ⟨u11, hc12, hf⟩ := bind_t hf
          refine k_S (As := [.int v1, .int v2, .int (v6 + 1)]) (rest := [.ref (a 10), .int v5]) (n := 3) ⟨hx, hb, hml, hown, hts⟩ (met_X8_spot l v1 v2 (v6 + 1) u11 hc12) w1033 w1034 w9 w1035 ⟨by decide +kernel, by decide +kernel, by decide +kernel⟩ ⟨Nat.le_of_ble_eq_true rfl, Nat.le_of_ble_eq_true rfl⟩ hK hE hP hD hS hA (isC := []) (isR := [0, 1, 2, 3, 4, 5, 6, 7, 8, 9, 10, 11, 12, 13, 14]) (isB := [0, 1, 2, 3, 4, 5, 6, 7, 8, 9, 10, 11, 12, 13, 14]) (ws' := W_Model cI a x) ⟨([0, 1, 2, 3, 4, 5, 6, 7, 8, 9, 10, 11, 12, 13, 14] : List Nat).filterMap (fun i : Nat => (W_Model cI a x : va_W)[i]?), rfl, rfl, rfl, rfl, by decide, rfl, rfl⟩ rfl hl.1 rfl (Nat.le_of_ble_eq_true rfl) dX8_waiting_47 ⟨Nat.le_of_ble_eq_true rfl, Nat.le_of_ble_eq_true rfl⟩ (fun H locs hP hD hS => ?_)
          try dsimp only at hf
          refine W.eq (g2 := F0 m 50 ls [.int u11, .ref (a 10), .int v5]) rfl ?_
          obtain ⟨hi13, hf⟩ := chk_t hf
          refine va_iald hx hb hK hP 10 0 rfl rfl (inb_in hi13) dX8_waiting_50 ?_
          refine lv_iload_n hx hb dX8_waiting_51 rfl (lv_at hl 3 rfl) ?_
          refine lv_iconst (v := 1) hx hb dX8_waiting_52 (by decide) ?_
          refine lv_iadd hx hb dX8_waiting_53 ?_
          refine lv_icmp_ne (tgt := 61) hx hb dX8_waiting_54 (by decide) (fun c14 => ?_) (fun c14 => ?_)
          · replace hf := if_f c14 hf
            refine lv_iconst (v := 0) hx hb dX8_waiting_61 (by decide) ?_
            refine lv_iadd hx hb dX8_waiting_62 ?_
            refine lv_topi (fun y15 hy15 => ?_)
            replace hf := keep_e hf y15 hy15
            refine lv_istore (lv' := [(5, .int y15), (0, .ref (a 0)), (1, .int v1), (2, .int v2), (3, .int v3), (4, .int v4), (6, .int v6)]) hx hb dX8_waiting_63 hl (by decide) rfl (fun ls hl => ?_)
            obtain ⟨y16, hy16⟩ : ∃ z : Int32, z = (v6 + 1) := ⟨_, rfl⟩
            replace hf := keep_e hf y16 hy16
            refine lv_iinc (v := y16) (lv' := [(6, .int y16), (5, .int y15), (0, .ref (a 0)), (1, .int v1), (2, .int v2), (3, .int v3), (4, .int v4)]) hx hb dX8_waiting_65 hl (k := 6) rfl (by rw [hy16]; rfl) (by decide) rfl (fun ls hl => ?_)
            refine lv_goto (tgt := 14) hx hb dX8_waiting_68 (by decide) ?_
            exact hrec14 y15 y16 H locs ls hf hP hD hS (lv_sub hl [2, 3, 4, 5, 6, 1, 0] rfl)
          · replace hf := if_t c14 hf
            refine lv_iconst (v := 1) hx hb dX8_waiting_57 (by decide) ?_
            refine lv_goto (tgt := 62) hx hb dX8_waiting_58 (by decide) ?_
            refine lv_iadd hx hb dX8_waiting_62 ?_
            refine lv_topi (fun y17 hy17 => ?_)
            replace hf := keep_e hf y17 hy17
            refine lv_istore (lv' := [(5, .int y17), (0, .ref (a 0)), (1, .int v1), (2, .int v2), (3, .int v3), (4, .int v4), (6, .int v6)]) hx hb dX8_waiting_63 hl (by decide) rfl (fun ls hl => ?_)
            obtain ⟨y18, hy18⟩ : ∃ z : Int32, z = (v6 + 1) := ⟨_, rfl⟩
            replace hf := keep_e hf y18 hy18
            refine lv_iinc (v := y18) (lv' := [(6, .int y18), (5, .int y17), (0, .ref (a 0)), (1, .int v1), (2, .int v2), (3, .int v3), (4, .int v4)]) hx hb dX8_waiting_65 hl (k := 6) rfl (by rw [hy18]; rfl) (by decide) rfl (fun ls hl => ?_)
            refine lv_goto (tgt := 14) hx hb dX8_waiting_68 (by decide) ?_
            exact hrec14 y17 y18 H locs ls hf hP hD hS (lv_sub hl [2, 3, 4, 5, 6, 1, 0] rfl)
  have L14 : ∀ (x : MSt) (v1 : Int32) (v2 : Int32) (v3 : Int32) (v4 : Int32) (fu : Nat) (v5 : Int32) (v6 : Int32) (H : Heap) (locs : List Loc) (ls : Array Slot), iterK fu (fX8_waiting_14 x v1 v2 v3 v4 ) (v5, v6) = some res → va_P D vwCl (W_Model cI a x) H → va_D A (W_Model cI a x) → va_S A s.heap H locs → lv_has ls 7 [(0, .ref (a 0)), (1, .int v1), (2, .int v2), (3, .int v3), (4, .int v4), (5, .int v5), (6, .int v6)] → W p l e ({ frames := 4, cells := 0, slots := 0, locals := 85 } : Room) s m ([.ref (a 0), .int p1, .int p2, .int p3] : List Value).toArray below meth c H locs 0 0 (MQ below (QW D (TY cI cV cJ cD) (W_Model cI a res.1) A (some (.int res.2))) (([.ref (a 0), .int p1, .int p2, .int p3] : List Value).toArray) s 0 0 A) (F0 m 14 ls []) := by
    intro x v1 v2 v3 v4 fu
    induction fu with
    | zero =>
      intro v5 v6 H locs ls hf
      cases hf
    | succ fu ih =>
      intro v5 v6 H locs ls hf hP hD hS hl
      exact S14 x v1 v2 v3 v4 (iterK fu (fX8_waiting_14 x v1 v2 v3 v4 )) ih v5 v6 H locs ls hf hP hD hS hl
  have M0 : ∀ (H : Heap) (locs : List Loc) (ls : Array Slot), fX8_waiting x p1 p2 p3 = some res → va_P D vwCl (W_Model cI a x) H → va_D A (W_Model cI a x) → va_S A s.heap H locs → lv_has ls 7 [(0, .ref (a 0)), (1, .int p1), (2, .int p2), (3, .int p3)] → W p l e ({ frames := 4, cells := 0, slots := 0, locals := 85 } : Room) s m ([.ref (a 0), .int p1, .int p2, .int p3] : List Value).toArray below meth c H locs 0 0 (MQ below (QW D (TY cI cV cJ cD) (W_Model cI a res.1) A (some (.int res.2))) (([.ref (a 0), .int p1, .int p2, .int p3] : List Value).toArray) s 0 0 A) (F0 m 0 ls []) := by
    intro H locs ls hf hP hD hS hl
    dsimp only [fX8_waiting] at hf
    refine lv_iload_n hx hb dX8_waiting_0 rfl (lv_at hl 1 rfl) ?_
    refine lv_iload_n hx hb dX8_waiting_1 rfl (lv_at hl 2 rfl) ?_
    refine lv_iload_n hx hb dX8_waiting_2 rfl (lv_at hl 3 rfl) ?_
    obtain ⟨u19, hc20, hf⟩ := bind_t hf
    refine k_S (As := [.int p1, .int p2, .int p3]) (rest := []) (n := 3) ⟨hx, hb, hml, hown, hts⟩ (met_X8_isReader l p1 p2 p3 u19 hc20) w1019 w1020 w9 w1021 ⟨by decide +kernel, by decide +kernel, by decide +kernel⟩ ⟨Nat.le_of_ble_eq_true rfl, Nat.le_of_ble_eq_true rfl⟩ hK hE hP hD hS hA (isC := []) (isR := [0, 1, 2, 3, 4, 5, 6, 7, 8, 9, 10, 11, 12, 13, 14]) (isB := [0, 1, 2, 3, 4, 5, 6, 7, 8, 9, 10, 11, 12, 13, 14]) (ws' := W_Model cI a x) ⟨([0, 1, 2, 3, 4, 5, 6, 7, 8, 9, 10, 11, 12, 13, 14] : List Nat).filterMap (fun i : Nat => (W_Model cI a x : va_W)[i]?), rfl, rfl, rfl, rfl, by decide, rfl, rfl⟩ rfl hl.1 rfl (Nat.le_of_ble_eq_true rfl) dX8_waiting_3 ⟨Nat.le_of_ble_eq_true rfl, Nat.le_of_ble_eq_true rfl⟩ (fun H locs hP hD hS => ?_)
    try dsimp only at hf
    refine W.eq (g2 := F0 m 6 ls [.int u19]) rfl ?_
    refine lv_istore (lv' := [(4, .int u19), (0, .ref (a 0)), (1, .int p1), (2, .int p2), (3, .int p3)]) hx hb dX8_waiting_6 hl (by decide) rfl (fun ls hl => ?_)
    refine lv_iconst (v := 0) hx hb dX8_waiting_8 (by decide) ?_
    refine lv_istore (lv' := [(5, .int 0), (4, .int u19), (0, .ref (a 0)), (1, .int p1), (2, .int p2), (3, .int p3)]) hx hb dX8_waiting_9 hl (by decide) rfl (fun ls hl => ?_)
    refine lv_iconst (v := 0) hx hb dX8_waiting_11 (by decide) ?_
    refine lv_istore (lv' := [(6, .int 0), (5, .int 0), (4, .int u19), (0, .ref (a 0)), (1, .int p1), (2, .int p2), (3, .int p3)]) hx hb dX8_waiting_12 hl (by decide) rfl (fun ls hl => ?_)
    exact L14 x p1 p2 p3 u19 FU 0 0 H locs ls hf hP hD hS (lv_sub hl [3, 4, 5, 6, 2, 1, 0] rfl)
  exact M0 s.heap [] ls hf hP hD hS hl
/-! CompactformsModel.remove(I)Z -/
def fX8_remove_24 (x : MSt) (v1 : Int32) (s0 : Int32) : Option (MSt × Int32) := (fX8_can x s0).bind (fun u1 => keep u1.1 (fun x3 => (if u1.2 = 0 then some (x3, 0) else (fX8_isThere x3 v1).bind (fun u5 => (if u5 = 0 then chk (isB u5) (some (x3, u5)) else chk (inb v1 16) (keep (mType_s x3 (upd (mType x3) (v1).toNatClampNeg 0)) (fun x10 => (fX8_writes x10 10 v1 0 0 0).bind (fun u11 => keep u11 (fun x13 => chk (isB u5) (some (x13, u5)))))))))))
def fX8_remove (x : MSt) (p1 : Int32) : Option (MSt × Int32) := (fX8_isKey p1).bind (fun u15 => (if u15 = 0 then fX8_remove_24 x p1 1 else (fX8_isFull x).bind (fun u18 => (if u18 = 0 then fX8_remove_24 x p1 0 else fX8_remove_24 x p1 2))))
set_option maxHeartbeats 4000000 in
set_option maxRecDepth 100000 in
theorem met_X8_remove {D : va_G} {cI cV cJ cD : ClassId} (l : Launch) (a : Nat → Nat) (x : MSt) (p1 : Int32) (res : MSt × Int32) (hf : fX8_remove x p1 = some res) : MM l yX8_remove cX8_remove 3 (some .boolean) { frames := 2, cells := 0, slots := 0, locals := 42 } D (TY cI cV cJ cD) (W_Model cI a x) (W_Model cI a res.1) [.ref (a 0), .int p1] (some (.int res.2)) := by
  intro sz
  refine Met.ofW (cc := cX8_remove) (maxL := 3) (ret := (some .boolean)) (by decide +kernel) rfl ?_
  intro p e s m args below meth c s₁ B hml hv
  obtain ⟨rfl, hsz, hP, hK, hD0, hE⟩ := hv
  have hx := B.exec
  have hb := B.bytes
  have hr := B.returns
  have hts := atoms_spec (ws := .code yX8_remove cX8_remove 3 (some .boolean) :: GW) B.pre
  have hg : ∀ w ∈ GW, w.before (([.ref (a 0), .int p1] : List Value).toArray) s = true := fun w h => hts w (List.mem_cons_of_mem _ h)
  have hown : s.vm.findClass RX8 = some m.cls := findClass_of_methodNamed B.named
  have hlocks := B.notSynchronized
  subst hsz
  have hD := hD0.self (sz := s.heap.size)
  generalize hAe : va_A (W_Model cI a x) s.heap.size = A at hD hE ⊢
  have hA : ∀ q : Nat, s.heap.size ≤ q → A q := fun q h => by rw [← hAe]; exact Or.inr h
  have hS : va_S A s.heap s.heap [] := va_S.rf
  have hl := lv_entry ([.ref (a 0), .int p1]) (n := 3) (Nat.le_of_ble_eq_true rfl)
  rw [lg_entry_eq]
  generalize (lg_sl ([.ref (a 0), .int p1]) ++ List.replicate (3 - (lg_sl ([.ref (a 0), .int p1])).length) Slot.unset).toArray = ls at hl ⊢
  have hl : lv_has ls 3 [(0, .ref (a 0)), (1, .int p1)] := hl
  have L24 : ∀ (x : MSt) (v1 : Int32) (s0 : Int32) (H : Heap) (locs : List Loc) (ls : Array Slot), fX8_remove_24 x v1 s0  = some res → va_P D vwCl (W_Model cI a x) H → va_D A (W_Model cI a x) → va_S A s.heap H locs → lv_has ls 3 [(0, .ref (a 0)), (1, .int v1)] → W p l e ({ frames := 2, cells := 0, slots := 0, locals := 42 } : Room) s m ([.ref (a 0), .int p1] : List Value).toArray below meth c H locs 0 0 (MQ below (QW D (TY cI cV cJ cD) (W_Model cI a res.1) A (some (.int res.2))) (([.ref (a 0), .int p1] : List Value).toArray) s 0 0 A) (F0 m 24 ls [.int s0, .ref (a 0)]) := by
    intro x v1 s0 H locs ls hf hP hD hS hl
    dsimp only [fX8_remove_24] at hf
    obtain ⟨u1, hc2, hf⟩ := bind_t hf
    refine k_V (As := [.int s0]) (rest := []) (n := 1) ⟨hx, hb, hml, hown, hts⟩ (met_X8_can l a x s0 u1 hc2) w927 w929 ws28 w9 w930 ⟨rfl, by decide +kernel, by decide +kernel, by decide +kernel⟩ ⟨Nat.le_of_ble_eq_true rfl, Nat.le_of_ble_eq_true rfl⟩ hK hE hP hD hS hA (isC := [0, 1, 2, 3, 4, 5, 6, 7, 8, 9, 10, 11, 12, 13, 14]) (isR := []) (isB := [0, 1, 2, 3, 4, 5, 6, 7, 8, 9, 10, 11, 12, 13, 14]) (ws' := W_Model cI a u1.1) ⟨([] : List Nat).filterMap (fun i : Nat => (W_Model cI a x : va_W)[i]?), rfl, rfl, rfl, rfl, by decide, rfl, rfl⟩ 0 7 rfl rfl rfl rfl hl.1 rfl (Nat.le_of_ble_eq_true rfl) dX8_remove_24 ⟨Nat.le_of_ble_eq_true rfl, Nat.le_of_ble_eq_true rfl⟩ (fun H locs hP hD hS => ?_)
    try dsimp only at hf
    refine W.eq (g2 := F0 m 27 ls [.int u1.2]) rfl ?_
    obtain ⟨x3, hx3⟩ : ∃ z, z = u1.1 := ⟨_, rfl⟩
    replace hf := keep_e hf x3 hx3
    have hP : va_P D vwCl (W_Model cI a x3) H := by rw [hx3]; exact hP
    have hD : va_D A (W_Model cI a x3) := by rw [hx3]; exact hD
    refine lv_if_ne (tgt := 32) hx hb dX8_remove_27 (by decide) (fun c4 => ?_) (fun c4 => ?_)
    · replace hf := if_f c4 hf
      refine lv_aload_n hx hb dX8_remove_32 rfl (lv_at hl 0 rfl) ?_
      refine lv_iload_n hx hb dX8_remove_33 rfl (lv_at hl 1 rfl) ?_
      obtain ⟨u5, hc6, hf⟩ := bind_t hf
      refine k_V (As := [.int v1]) (rest := []) (n := 1) ⟨hx, hb, hml, hown, hts⟩ (met_X8_isThere l a x3 v1 u5 hc6) w916 w918 ws26 w9 w919 ⟨rfl, by decide +kernel, by decide +kernel, by decide +kernel⟩ ⟨Nat.le_of_ble_eq_true rfl, Nat.le_of_ble_eq_true rfl⟩ hK hE hP hD hS hA (isC := [0, 1, 2, 3, 4, 5, 6, 7, 8, 9, 10, 11, 12, 13, 14]) (isR := []) (isB := [0, 1, 2, 3, 4, 5, 6, 7, 8, 9, 10, 11, 12, 13, 14]) (ws' := W_Model cI a x3) ⟨([] : List Nat).filterMap (fun i : Nat => (W_Model cI a x3 : va_W)[i]?), rfl, rfl, rfl, rfl, by decide, rfl, rfl⟩ 0 7 rfl rfl rfl rfl hl.1 rfl (Nat.le_of_ble_eq_true rfl) dX8_remove_34 ⟨Nat.le_of_ble_eq_true rfl, Nat.le_of_ble_eq_true rfl⟩ (fun H locs hP hD hS => ?_)
      try dsimp only at hf
      refine W.eq (g2 := F0 m 37 ls [.int u5]) rfl ?_
      refine lv_istore_n (lv' := [(2, .int u5), (0, .ref (a 0)), (1, .int v1)]) hx hb dX8_remove_37 rfl hl (by decide) rfl (fun ls hl => ?_)
      refine lv_iload_n hx hb dX8_remove_38 rfl (lv_at hl 0 rfl) ?_
      refine lv_if_eq (tgt := 59) hx hb dX8_remove_39 (by decide) (fun c7 => ?_) (fun c7 => ?_)
      · replace hf := if_t c7 hf
        refine lv_iload_n hx hb dX8_remove_59 rfl (lv_at hl 0 rfl) ?_
        obtain ⟨hz8, hf⟩ := chk_t hf
        obtain rfl := Option.some.inj hf
        exact W.zret (v := u5) hx hb hr (isB_narrow hz8) (fun t ht hW => ⟨rfl, by rw [ht]; exact hP, va_K.moved hW.alike hK, hD, hS.F ht⟩) hS.2.2 dX8_remove_60 hlocks
      · replace hf := if_f c7 hf
        refine lv_aload_n hx hb dX8_remove_42 rfl (lv_at hl 1 rfl) ?_
        refine va_get (D := D) (ci := 7) (v := .ref (a 1)) (C := RX8) (T := TX8) (N := 24) hx hb hg in_X8 hown hK hP 0 rfl rfl 2 (by decide) (hg _ w827) (fun _ h9 => h9) rfl dX8_remove_43 ?_
        refine lv_iload_n hx hb dX8_remove_46 rfl (lv_at hl 2 rfl) ?_
        refine lv_iconst (v := 0) hx hb dX8_remove_47 (by decide) ?_
        obtain ⟨hi9, hf⟩ := chk_t hf
        refine va_iast hx hb hK hP hD hS 1 0 rfl rfl (inb_in hi9) dX8_remove_48 (fun H locs hP hD hS => ?_)
        obtain ⟨x10, hx10⟩ : ∃ z, z = (mType_s x3 (upd (mType x3) (v1).toNatClampNeg 0)) := ⟨_, rfl⟩
        replace hf := keep_e hf x10 hx10
        have hP : va_P D vwCl (W_Model cI a x10) H := by rw [hx10]; exact hP
        have hD : va_D A (W_Model cI a x10) := by rw [hx10]; exact hD
        refine lv_aload_n hx hb dX8_remove_49 rfl (lv_at hl 1 rfl) ?_
        refine lv_bipush (v := 10) hx hb dX8_remove_50 (by decide) ?_
        refine lv_iload_n hx hb dX8_remove_52 rfl (lv_at hl 2 rfl) ?_
        refine lv_iconst (v := 0) hx hb dX8_remove_53 (by decide) ?_
        refine lv_iconst (v := 0) hx hb dX8_remove_54 (by decide) ?_
        refine lv_iconst (v := 0) hx hb dX8_remove_55 (by decide) ?_
        obtain ⟨u11, hc12, hf⟩ := bind_t hf
        refine k_V (As := [.int 10, .int v1, .int 0, .int 0, .int 0]) (rest := []) (n := 5) ⟨hx, hb, hml, hown, hts⟩ (met_X8_writes l a x10 10 v1 0 0 0 u11 hc12) w947 w949 ws33 w9 w950 ⟨rfl, by decide +kernel, by decide +kernel, by decide +kernel⟩ ⟨Nat.le_of_ble_eq_true rfl, Nat.le_of_ble_eq_true rfl⟩ hK hE hP hD hS hA (isC := [0, 1, 2, 3, 4, 5, 6, 7, 8, 9, 10, 11, 12, 13, 14]) (isR := []) (isB := [0, 1, 2, 3, 4, 5, 6, 7, 8, 9, 10, 11, 12, 13, 14]) (ws' := W_Model cI a u11) ⟨([] : List Nat).filterMap (fun i : Nat => (W_Model cI a x10 : va_W)[i]?), rfl, rfl, rfl, rfl, by decide, rfl, rfl⟩ 0 7 rfl rfl rfl rfl hl.1 rfl (Nat.le_of_ble_eq_true rfl) dX8_remove_56 ⟨Nat.le_of_ble_eq_true rfl, Nat.le_of_ble_eq_true rfl⟩ (fun H locs hP hD hS => ?_)
        try dsimp only at hf
        refine W.eq (g2 := F0 m 59 ls []) rfl ?_
        obtain ⟨x13, hx13⟩ : ∃ z, z = u11 := ⟨_, rfl⟩
        replace hf := keep_e hf x13 hx13
        have hP : va_P D vwCl (W_Model cI a x13) H := by rw [hx13]; exact hP
        have hD : va_D A (W_Model cI a x13) := by rw [hx13]; exact hD
        refine lv_iload_n hx hb dX8_remove_59 rfl (lv_at hl 0 rfl) ?_
        obtain ⟨hz14, hf⟩ := chk_t hf
        obtain rfl := Option.some.inj hf
        exact W.zret (v := u5) hx hb hr (isB_narrow hz14) (fun t ht hW => ⟨rfl, by rw [ht]; exact hP, va_K.moved hW.alike hK, hD, hS.F ht⟩) hS.2.2 dX8_remove_60 hlocks
    · replace hf := if_t c4 hf
      refine lv_iconst (v := 0) hx hb dX8_remove_30 (by decide) ?_
      obtain rfl := Option.some.inj hf
      exact W.zret (v := 0) hx hb hr (by decide +kernel) (fun t ht hW => ⟨rfl, by rw [ht]; exact hP, va_K.moved hW.alike hK, hD, hS.F ht⟩) hS.2.2 dX8_remove_31 hlocks
  have M0 : ∀ (H : Heap) (locs : List Loc) (ls : Array Slot), fX8_remove x p1 = some res → va_P D vwCl (W_Model cI a x) H → va_D A (W_Model cI a x) → va_S A s.heap H locs → lv_has ls 3 [(0, .ref (a 0)), (1, .int p1)] → W p l e ({ frames := 2, cells := 0, slots := 0, locals := 42 } : Room) s m ([.ref (a 0), .int p1] : List Value).toArray below meth c H locs 0 0 (MQ below (QW D (TY cI cV cJ cD) (W_Model cI a res.1) A (some (.int res.2))) (([.ref (a 0), .int p1] : List Value).toArray) s 0 0 A) (F0 m 0 ls []) := by
    intro H locs ls hf hP hD hS hl
    dsimp only [fX8_remove] at hf
    refine lv_aload_n hx hb dX8_remove_0 rfl (lv_at hl 0 rfl) ?_
    refine lv_iload_n hx hb dX8_remove_1 rfl (lv_at hl 1 rfl) ?_
    obtain ⟨u15, hc16, hf⟩ := bind_t hf
    refine k_S (As := [.int p1]) (rest := [.ref (a 0)]) (n := 1) ⟨hx, hb, hml, hown, hts⟩ (met_X8_isKey l p1 u15 hc16) w906 w907 w9 w908 ⟨by decide +kernel, by decide +kernel, by decide +kernel⟩ ⟨Nat.le_of_ble_eq_true rfl, Nat.le_of_ble_eq_true rfl⟩ hK hE hP hD hS hA (isC := []) (isR := [0, 1, 2, 3, 4, 5, 6, 7, 8, 9, 10, 11, 12, 13, 14]) (isB := [0, 1, 2, 3, 4, 5, 6, 7, 8, 9, 10, 11, 12, 13, 14]) (ws' := W_Model cI a x) ⟨([0, 1, 2, 3, 4, 5, 6, 7, 8, 9, 10, 11, 12, 13, 14] : List Nat).filterMap (fun i : Nat => (W_Model cI a x : va_W)[i]?), rfl, rfl, rfl, rfl, by decide, rfl, rfl⟩ rfl hl.1 rfl (Nat.le_of_ble_eq_true rfl) dX8_remove_2 ⟨Nat.le_of_ble_eq_true rfl, Nat.le_of_ble_eq_true rfl⟩ (fun H locs hP hD hS => ?_)
    try dsimp only at hf
    refine W.eq (g2 := F0 m 5 ls [.int u15, .ref (a 0)]) rfl ?_
    refine lv_if_ne (tgt := 12) hx hb dX8_remove_5 (by decide) (fun c17 => ?_) (fun c17 => ?_)
    · replace hf := if_f c17 hf
      refine lv_aload_n hx hb dX8_remove_12 rfl (lv_at hl 0 rfl) ?_
      obtain ⟨u18, hc19, hf⟩ := bind_t hf
      refine k_V (As := []) (rest := [.ref (a 0)]) (n := 0) ⟨hx, hb, hml, hown, hts⟩ (met_X8_isFull l a x u18 hc19) w923 w925 ws27 w9 w926 ⟨rfl, by decide +kernel, by decide +kernel, by decide +kernel⟩ ⟨Nat.le_of_ble_eq_true rfl, Nat.le_of_ble_eq_true rfl⟩ hK hE hP hD hS hA (isC := [0, 1, 2, 3, 4, 5, 6, 7, 8, 9, 10, 11, 12, 13, 14]) (isR := []) (isB := [0, 1, 2, 3, 4, 5, 6, 7, 8, 9, 10, 11, 12, 13, 14]) (ws' := W_Model cI a x) ⟨([] : List Nat).filterMap (fun i : Nat => (W_Model cI a x : va_W)[i]?), rfl, rfl, rfl, rfl, by decide, rfl, rfl⟩ 0 7 rfl rfl rfl rfl hl.1 rfl (Nat.le_of_ble_eq_true rfl) dX8_remove_13 ⟨Nat.le_of_ble_eq_true rfl, Nat.le_of_ble_eq_true rfl⟩ (fun H locs hP hD hS => ?_)
      try dsimp only at hf
      refine W.eq (g2 := F0 m 16 ls [.int u18, .ref (a 0)]) rfl ?_
      refine lv_if_eq (tgt := 23) hx hb dX8_remove_16 (by decide) (fun c20 => ?_) (fun c20 => ?_)
      · replace hf := if_t c20 hf
        refine lv_iconst (v := 0) hx hb dX8_remove_23 (by decide) ?_
        exact L24 x p1 0 H locs ls hf hP hD hS (lv_sub hl [0, 1] rfl)
      · replace hf := if_f c20 hf
        refine lv_iconst (v := 2) hx hb dX8_remove_19 (by decide) ?_
        refine lv_goto (tgt := 24) hx hb dX8_remove_20 (by decide) ?_
        exact L24 x p1 2 H locs ls hf hP hD hS (lv_sub hl [0, 1] rfl)
    · replace hf := if_t c17 hf
      refine lv_iconst (v := 1) hx hb dX8_remove_8 (by decide) ?_
      refine lv_goto (tgt := 24) hx hb dX8_remove_9 (by decide) ?_
      exact L24 x p1 1 H locs ls hf hP hD hS (lv_sub hl [0, 1] rfl)
  exact M0 s.heap [] ls hf hP hD hS hl
/-! CompactformsModel.expire(II)Z -/
def fX8_expire_39 (x : MSt) (v1 : Int32) (v2 : Int32) (s0 : Int32) : Option (MSt × Int32) := (fX8_can x s0).bind (fun u1 => keep u1.1 (fun x3 => (if u1.2 = 0 then some (x3, 0) else (fX8_isThere x3 v1).bind (fun u5 => (if u5 = 0 then chk (isB u5) (some (x3, u5)) else chk (inb v1 16) (keep (mEnd_s x3 (upd (mEnd x3) (v1).toNatClampNeg ((mClock x3) + v2))) (fun x10 => chk (inb v1 16) ((fX8_writes x10 11 v1 ((mEnd x10) (v1).toNatClampNeg) 0 0).bind (fun u12 => keep u12 (fun x14 => chk (isB u5) (some (x14, u5))))))))))))
def fX8_expire (x : MSt) (p1 : Int32) (p2 : Int32) : Option (MSt × Int32) := (fX8_isKey p1).bind (fun u16 => (if u16 = 0 then fX8_expire_39 x p1 p2 1 else (fX8_isIn p2 1 1000).bind (fun u19 => (if u19 = 0 then fX8_expire_39 x p1 p2 2 else (fX8_isFull x).bind (fun u22 => (if u22 = 0 then fX8_expire_39 x p1 p2 0 else fX8_expire_39 x p1 p2 3))))))
set_option maxHeartbeats 4000000 in
set_option maxRecDepth 100000 in
theorem met_X8_expire {D : va_G} {cI cV cJ cD : ClassId} (l : Launch) (a : Nat → Nat) (x : MSt) (p1 : Int32) (p2 : Int32) (res : MSt × Int32) (hf : fX8_expire x p1 p2 = some res) : MM l yX8_expire cX8_expire 4 (some .boolean) { frames := 2, cells := 0, slots := 0, locals := 42 } D (TY cI cV cJ cD) (W_Model cI a x) (W_Model cI a res.1) [.ref (a 0), .int p1, .int p2] (some (.int res.2)) := by
  intro sz
  refine Met.ofW (cc := cX8_expire) (maxL := 4) (ret := (some .boolean)) (by decide +kernel) rfl ?_
  intro p e s m args below meth c s₁ B hml hv
  obtain ⟨rfl, hsz, hP, hK, hD0, hE⟩ := hv
  have hx := B.exec
  have hb := B.bytes
  have hr := B.returns
  have hts := atoms_spec (ws := .code yX8_expire cX8_expire 4 (some .boolean) :: GW) B.pre
  have hg : ∀ w ∈ GW, w.before (([.ref (a 0), .int p1, .int p2] : List Value).toArray) s = true := fun w h => hts w (List.mem_cons_of_mem _ h)
  have hown : s.vm.findClass RX8 = some m.cls := findClass_of_methodNamed B.named
  have hlocks := B.notSynchronized
  subst hsz
  have hD := hD0.self (sz := s.heap.size)
  generalize hAe : va_A (W_Model cI a x) s.heap.size = A at hD hE ⊢
  have hA : ∀ q : Nat, s.heap.size ≤ q → A q := fun q h => by rw [← hAe]; exact Or.inr h
  have hS : va_S A s.heap s.heap [] := va_S.rf
  have hl := lv_entry ([.ref (a 0), .int p1, .int p2]) (n := 4) (Nat.le_of_ble_eq_true rfl)
  rw [lg_entry_eq]
  generalize (lg_sl ([.ref (a 0), .int p1, .int p2]) ++ List.replicate (4 - (lg_sl ([.ref (a 0), .int p1, .int p2])).length) Slot.unset).toArray = ls at hl ⊢
  have hl : lv_has ls 4 [(0, .ref (a 0)), (1, .int p1), (2, .int p2)] := hl
  have L39 : ∀ (x : MSt) (v1 : Int32) (v2 : Int32) (s0 : Int32) (H : Heap) (locs : List Loc) (ls : Array Slot), fX8_expire_39 x v1 v2 s0  = some res → va_P D vwCl (W_Model cI a x) H → va_D A (W_Model cI a x) → va_S A s.heap H locs → lv_has ls 4 [(0, .ref (a 0)), (1, .int v1), (2, .int v2)] → W p l e ({ frames := 2, cells := 0, slots := 0, locals := 42 } : Room) s m ([.ref (a 0), .int p1, .int p2] : List Value).toArray below meth c H locs 0 0 (MQ below (QW D (TY cI cV cJ cD) (W_Model cI a res.1) A (some (.int res.2))) (([.ref (a 0), .int p1, .int p2] : List Value).toArray) s 0 0 A) (F0 m 39 ls [.int s0, .ref (a 0)]) := by
    intro x v1 v2 s0 H locs ls hf hP hD hS hl
    dsimp only [fX8_expire_39] at hf
    obtain ⟨u1, hc2, hf⟩ := bind_t hf
    refine k_V (As := [.int s0]) (rest := []) (n := 1) ⟨hx, hb, hml, hown, hts⟩ (met_X8_can l a x s0 u1 hc2) w927 w929 ws28 w9 w930 ⟨rfl, by decide +kernel, by decide +kernel, by decide +kernel⟩ ⟨Nat.le_of_ble_eq_true rfl, Nat.le_of_ble_eq_true rfl⟩ hK hE hP hD hS hA (isC := [0, 1, 2, 3, 4, 5, 6, 7, 8, 9, 10, 11, 12, 13, 14]) (isR := []) (isB := [0, 1, 2, 3, 4, 5, 6, 7, 8, 9, 10, 11, 12, 13, 14]) (ws' := W_Model cI a u1.1) ⟨([] : List Nat).filterMap (fun i : Nat => (W_Model cI a x : va_W)[i]?), rfl, rfl, rfl, rfl, by decide, rfl, rfl⟩ 0 7 rfl rfl rfl rfl hl.1 rfl (Nat.le_of_ble_eq_true rfl) dX8_expire_39 ⟨Nat.le_of_ble_eq_true rfl, Nat.le_of_ble_eq_true rfl⟩ (fun H locs hP hD hS => ?_)
    try dsimp only at hf
    refine W.eq (g2 := F0 m 42 ls [.int u1.2]) rfl ?_
    obtain ⟨x3, hx3⟩ : ∃ z, z = u1.1 := ⟨_, rfl⟩
    replace hf := keep_e hf x3 hx3
    have hP : va_P D vwCl (W_Model cI a x3) H := by rw [hx3]; exact hP
    have hD : va_D A (W_Model cI a x3) := by rw [hx3]; exact hD
    refine lv_if_ne (tgt := 47) hx hb dX8_expire_42 (by decide) (fun c4 => ?_) (fun c4 => ?_)
    · replace hf := if_f c4 hf
      refine lv_aload_n hx hb dX8_expire_47 rfl (lv_at hl 0 rfl) ?_
      refine lv_iload_n hx hb dX8_expire_48 rfl (lv_at hl 1 rfl) ?_
      obtain ⟨u5, hc6, hf⟩ := bind_t hf
      refine k_V (As := [.int v1]) (rest := []) (n := 1) ⟨hx, hb, hml, hown, hts⟩ (met_X8_isThere l a x3 v1 u5 hc6) w916 w918 ws26 w9 w919 ⟨rfl, by decide +kernel, by decide +kernel, by decide +kernel⟩ ⟨Nat.le_of_ble_eq_true rfl, Nat.le_of_ble_eq_true rfl⟩ hK hE hP hD hS hA (isC := [0, 1, 2, 3, 4, 5, 6, 7, 8, 9, 10, 11, 12, 13, 14]) (isR := []) (isB := [0, 1, 2, 3, 4, 5, 6, 7, 8, 9, 10, 11, 12, 13, 14]) (ws' := W_Model cI a x3) ⟨([] : List Nat).filterMap (fun i : Nat => (W_Model cI a x3 : va_W)[i]?), rfl, rfl, rfl, rfl, by decide, rfl, rfl⟩ 0 7 rfl rfl rfl rfl hl.1 rfl (Nat.le_of_ble_eq_true rfl) dX8_expire_49 ⟨Nat.le_of_ble_eq_true rfl, Nat.le_of_ble_eq_true rfl⟩ (fun H locs hP hD hS => ?_)
      try dsimp only at hf
      refine W.eq (g2 := F0 m 52 ls [.int u5]) rfl ?_
      refine lv_istore_n (lv' := [(3, .int u5), (0, .ref (a 0)), (1, .int v1), (2, .int v2)]) hx hb dX8_expire_52 rfl hl (by decide) rfl (fun ls hl => ?_)
      refine lv_iload_n hx hb dX8_expire_53 rfl (lv_at hl 0 rfl) ?_
      refine lv_if_eq (tgt := 84) hx hb dX8_expire_54 (by decide) (fun c7 => ?_) (fun c7 => ?_)
      · replace hf := if_t c7 hf
        refine lv_iload_n hx hb dX8_expire_84 rfl (lv_at hl 0 rfl) ?_
        obtain ⟨hz8, hf⟩ := chk_t hf
        obtain rfl := Option.some.inj hf
        exact W.zret (v := u5) hx hb hr (isB_narrow hz8) (fun t ht hW => ⟨rfl, by rw [ht]; exact hP, va_K.moved hW.alike hK, hD, hS.F ht⟩) hS.2.2 dX8_expire_85 hlocks
      · replace hf := if_f c7 hf
        refine lv_aload_n hx hb dX8_expire_57 rfl (lv_at hl 1 rfl) ?_
        refine va_get (D := D) (ci := 7) (v := .ref (a 2)) (C := RX8) (T := TX8) (N := 24) hx hb hg in_X8 hown hK hP 0 rfl rfl 3 (by decide) (hg _ w828) (fun _ h9 => h9) rfl dX8_expire_58 ?_
        refine lv_iload_n hx hb dX8_expire_61 rfl (lv_at hl 2 rfl) ?_
        refine lv_aload_n hx hb dX8_expire_62 rfl (lv_at hl 1 rfl) ?_
        refine va_get (D := D) (ci := 7) (v := .int (mClock x3)) (C := RX8) (T := TX8) (N := 24) hx hb hg in_X8 hown hK hP 0 rfl rfl 0 (by decide) (hg _ w825) (fun _ h9 => h9) rfl dX8_expire_63 ?_
        refine lv_iload_n hx hb dX8_expire_66 rfl (lv_at hl 3 rfl) ?_
        refine lv_iadd hx hb dX8_expire_67 ?_
        obtain ⟨hi9, hf⟩ := chk_t hf
        refine va_iast hx hb hK hP hD hS 2 0 rfl rfl (inb_in hi9) dX8_expire_68 (fun H locs hP hD hS => ?_)
        obtain ⟨x10, hx10⟩ : ∃ z, z = (mEnd_s x3 (upd (mEnd x3) (v1).toNatClampNeg ((mClock x3) + v2))) := ⟨_, rfl⟩
        replace hf := keep_e hf x10 hx10
        have hP : va_P D vwCl (W_Model cI a x10) H := by rw [hx10]; exact hP
        have hD : va_D A (W_Model cI a x10) := by rw [hx10]; exact hD
        refine lv_aload_n hx hb dX8_expire_69 rfl (lv_at hl 1 rfl) ?_
        refine lv_bipush (v := 11) hx hb dX8_expire_70 (by decide) ?_
        refine lv_iload_n hx hb dX8_expire_72 rfl (lv_at hl 2 rfl) ?_
        refine lv_aload_n hx hb dX8_expire_73 rfl (lv_at hl 1 rfl) ?_
        refine va_get (D := D) (ci := 7) (v := .ref (a 2)) (C := RX8) (T := TX8) (N := 24) hx hb hg in_X8 hown hK hP 0 rfl rfl 3 (by decide) (hg _ w828) (fun _ h9 => h9) rfl dX8_expire_74 ?_
        refine lv_iload_n hx hb dX8_expire_77 rfl (lv_at hl 2 rfl) ?_
        obtain ⟨hi11, hf⟩ := chk_t hf
        refine va_iald hx hb hK hP 2 0 rfl rfl (inb_in hi11) dX8_expire_78 ?_
        refine lv_iconst (v := 0) hx hb dX8_expire_79 (by decide) ?_
        refine lv_iconst (v := 0) hx hb dX8_expire_80 (by decide) ?_
        obtain ⟨u12, hc13, hf⟩ := bind_t hf
        refine k_V (As := [.int 11, .int v1, .int ((mEnd x10) (v1).toNatClampNeg), .int 0, .int 0]) (rest := []) (n := 5) ⟨hx, hb, hml, hown, hts⟩ (met_X8_writes l a x10 11 v1 ((mEnd x10) (v1).toNatClampNeg) 0 0 u12 hc13) w947 w949 ws33 w9 w950 ⟨rfl, by decide +kernel, by decide +kernel, by decide +kernel⟩ ⟨Nat.le_of_ble_eq_true rfl, Nat.le_of_ble_eq_true rfl⟩ hK hE hP hD hS hA (isC := [0, 1, 2, 3, 4, 5, 6, 7, 8, 9, 10, 11, 12, 13, 14]) (isR := []) (isB := [0, 1, 2, 3, 4, 5, 6, 7, 8, 9, 10, 11, 12, 13, 14]) (ws' := W_Model cI a u12) ⟨([] : List Nat).filterMap (fun i : Nat => (W_Model cI a x10 : va_W)[i]?), rfl, rfl, rfl, rfl, by decide, rfl, rfl⟩ 0 7 rfl rfl rfl rfl hl.1 rfl (Nat.le_of_ble_eq_true rfl) dX8_expire_81 ⟨Nat.le_of_ble_eq_true rfl, Nat.le_of_ble_eq_true rfl⟩ (fun H locs hP hD hS => ?_)
        try dsimp only at hf
        refine W.eq (g2 := F0 m 84 ls []) rfl ?_
        obtain ⟨x14, hx14⟩ : ∃ z, z = u12 := ⟨_, rfl⟩
        replace hf := keep_e hf x14 hx14
        have hP : va_P D vwCl (W_Model cI a x14) H := by rw [hx14]; exact hP
        have hD : va_D A (W_Model cI a x14) := by rw [hx14]; exact hD
        refine lv_iload_n hx hb dX8_expire_84 rfl (lv_at hl 0 rfl) ?_
        obtain ⟨hz15, hf⟩ := chk_t hf
        obtain rfl := Option.some.inj hf
        exact W.zret (v := u5) hx hb hr (isB_narrow hz15) (fun t ht hW => ⟨rfl, by rw [ht]; exact hP, va_K.moved hW.alike hK, hD, hS.F ht⟩) hS.2.2 dX8_expire_85 hlocks
    · replace hf := if_t c4 hf
      refine lv_iconst (v := 0) hx hb dX8_expire_45 (by decide) ?_
      obtain rfl := Option.some.inj hf
      exact W.zret (v := 0) hx hb hr (by decide +kernel) (fun t ht hW => ⟨rfl, by rw [ht]; exact hP, va_K.moved hW.alike hK, hD, hS.F ht⟩) hS.2.2 dX8_expire_46 hlocks
  have M0 : ∀ (H : Heap) (locs : List Loc) (ls : Array Slot), fX8_expire x p1 p2 = some res → va_P D vwCl (W_Model cI a x) H → va_D A (W_Model cI a x) → va_S A s.heap H locs → lv_has ls 4 [(0, .ref (a 0)), (1, .int p1), (2, .int p2)] → W p l e ({ frames := 2, cells := 0, slots := 0, locals := 42 } : Room) s m ([.ref (a 0), .int p1, .int p2] : List Value).toArray below meth c H locs 0 0 (MQ below (QW D (TY cI cV cJ cD) (W_Model cI a res.1) A (some (.int res.2))) (([.ref (a 0), .int p1, .int p2] : List Value).toArray) s 0 0 A) (F0 m 0 ls []) := by
    intro H locs ls hf hP hD hS hl
    dsimp only [fX8_expire] at hf
    refine lv_aload_n hx hb dX8_expire_0 rfl (lv_at hl 0 rfl) ?_
    refine lv_iload_n hx hb dX8_expire_1 rfl (lv_at hl 1 rfl) ?_
    obtain ⟨u16, hc17, hf⟩ := bind_t hf
    refine k_S (As := [.int p1]) (rest := [.ref (a 0)]) (n := 1) ⟨hx, hb, hml, hown, hts⟩ (met_X8_isKey l p1 u16 hc17) w906 w907 w9 w908 ⟨by decide +kernel, by decide +kernel, by decide +kernel⟩ ⟨Nat.le_of_ble_eq_true rfl, Nat.le_of_ble_eq_true rfl⟩ hK hE hP hD hS hA (isC := []) (isR := [0, 1, 2, 3, 4, 5, 6, 7, 8, 9, 10, 11, 12, 13, 14]) (isB := [0, 1, 2, 3, 4, 5, 6, 7, 8, 9, 10, 11, 12, 13, 14]) (ws' := W_Model cI a x) ⟨([0, 1, 2, 3, 4, 5, 6, 7, 8, 9, 10, 11, 12, 13, 14] : List Nat).filterMap (fun i : Nat => (W_Model cI a x : va_W)[i]?), rfl, rfl, rfl, rfl, by decide, rfl, rfl⟩ rfl hl.1 rfl (Nat.le_of_ble_eq_true rfl) dX8_expire_2 ⟨Nat.le_of_ble_eq_true rfl, Nat.le_of_ble_eq_true rfl⟩ (fun H locs hP hD hS => ?_)
    try dsimp only at hf
    refine W.eq (g2 := F0 m 5 ls [.int u16, .ref (a 0)]) rfl ?_
    refine lv_if_ne (tgt := 12) hx hb dX8_expire_5 (by decide) (fun c18 => ?_) (fun c18 => ?_)
    · replace hf := if_f c18 hf
      refine lv_iload_n hx hb dX8_expire_12 rfl (lv_at hl 2 rfl) ?_
      refine lv_iconst (v := 1) hx hb dX8_expire_13 (by decide) ?_
      refine lv_sipush (v := 1000) hx hb dX8_expire_14 (by decide) ?_
      obtain ⟨u19, hc20, hf⟩ := bind_t hf
      refine k_S (As := [.int p2, .int 1, .int 1000]) (rest := [.ref (a 0)]) (n := 3) ⟨hx, hb, hml, hown, hts⟩ (met_X8_isIn l p2 1 1000 u19 hc20) w909 w910 w9 w911 ⟨by decide +kernel, by decide +kernel, by decide +kernel⟩ ⟨Nat.le_of_ble_eq_true rfl, Nat.le_of_ble_eq_true rfl⟩ hK hE hP hD hS hA (isC := []) (isR := [0, 1, 2, 3, 4, 5, 6, 7, 8, 9, 10, 11, 12, 13, 14]) (isB := [0, 1, 2, 3, 4, 5, 6, 7, 8, 9, 10, 11, 12, 13, 14]) (ws' := W_Model cI a x) ⟨([0, 1, 2, 3, 4, 5, 6, 7, 8, 9, 10, 11, 12, 13, 14] : List Nat).filterMap (fun i : Nat => (W_Model cI a x : va_W)[i]?), rfl, rfl, rfl, rfl, by decide, rfl, rfl⟩ rfl hl.1 rfl (Nat.le_of_ble_eq_true rfl) dX8_expire_17 ⟨Nat.le_of_ble_eq_true rfl, Nat.le_of_ble_eq_true rfl⟩ (fun H locs hP hD hS => ?_)
      try dsimp only at hf
      refine W.eq (g2 := F0 m 20 ls [.int u19, .ref (a 0)]) rfl ?_
      refine lv_if_ne (tgt := 27) hx hb dX8_expire_20 (by decide) (fun c21 => ?_) (fun c21 => ?_)
      · replace hf := if_f c21 hf
        refine lv_aload_n hx hb dX8_expire_27 rfl (lv_at hl 0 rfl) ?_
        obtain ⟨u22, hc23, hf⟩ := bind_t hf
        refine k_V (As := []) (rest := [.ref (a 0)]) (n := 0) ⟨hx, hb, hml, hown, hts⟩ (met_X8_isFull l a x u22 hc23) w923 w925 ws27 w9 w926 ⟨rfl, by decide +kernel, by decide +kernel, by decide +kernel⟩ ⟨Nat.le_of_ble_eq_true rfl, Nat.le_of_ble_eq_true rfl⟩ hK hE hP hD hS hA (isC := [0, 1, 2, 3, 4, 5, 6, 7, 8, 9, 10, 11, 12, 13, 14]) (isR := []) (isB := [0, 1, 2, 3, 4, 5, 6, 7, 8, 9, 10, 11, 12, 13, 14]) (ws' := W_Model cI a x) ⟨([] : List Nat).filterMap (fun i : Nat => (W_Model cI a x : va_W)[i]?), rfl, rfl, rfl, rfl, by decide, rfl, rfl⟩ 0 7 rfl rfl rfl rfl hl.1 rfl (Nat.le_of_ble_eq_true rfl) dX8_expire_28 ⟨Nat.le_of_ble_eq_true rfl, Nat.le_of_ble_eq_true rfl⟩ (fun H locs hP hD hS => ?_)
        try dsimp only at hf
        refine W.eq (g2 := F0 m 31 ls [.int u22, .ref (a 0)]) rfl ?_
        refine lv_if_eq (tgt := 38) hx hb dX8_expire_31 (by decide) (fun c24 => ?_) (fun c24 => ?_)
        · replace hf := if_t c24 hf
          refine lv_iconst (v := 0) hx hb dX8_expire_38 (by decide) ?_
          exact L39 x p1 p2 0 H locs ls hf hP hD hS (lv_sub hl [0, 1, 2] rfl)
        · replace hf := if_f c24 hf
          refine lv_iconst (v := 3) hx hb dX8_expire_34 (by decide) ?_
          refine lv_goto (tgt := 39) hx hb dX8_expire_35 (by decide) ?_
          exact L39 x p1 p2 3 H locs ls hf hP hD hS (lv_sub hl [0, 1, 2] rfl)
      · replace hf := if_t c21 hf
        refine lv_iconst (v := 2) hx hb dX8_expire_23 (by decide) ?_
        refine lv_goto (tgt := 39) hx hb dX8_expire_24 (by decide) ?_
        exact L39 x p1 p2 2 H locs ls hf hP hD hS (lv_sub hl [0, 1, 2] rfl)
    · replace hf := if_t c18 hf
      refine lv_iconst (v := 1) hx hb dX8_expire_8 (by decide) ?_
      refine lv_goto (tgt := 39) hx hb dX8_expire_9 (by decide) ?_
      exact L39 x p1 p2 1 H locs ls hf hP hD hS (lv_sub hl [0, 1, 2] rfl)
  exact M0 s.heap [] ls hf hP hD hS hl
/-! CompactformsModel.left(I)I -/
def fX8_left_13 (x : MSt) (v1 : Int32) (s0 : Int32) : Option (MSt × Int32) := (fX8_can x s0).bind (fun u1 => keep u1.1 (fun x3 => (if u1.2 = 0 then some (x3, 0) else (fX8_isThere x3 v1).bind (fun u5 => (if u5 = 0 then some (x3, 0) else chk (inb v1 16) ((if ((mEnd x3) (v1).toNatClampNeg) = (-1) then some (x3, (-1)) else chk (inb v1 16) (some (x3, (((mEnd x3) (v1).toNatClampNeg) - (mClock x3)))))))))))
def fX8_left (x : MSt) (p1 : Int32) : Option (MSt × Int32) := (fX8_isKey p1).bind (fun u11 => (if u11 = 0 then fX8_left_13 x p1 1 else fX8_left_13 x p1 0))
set_option maxHeartbeats 4000000 in
set_option maxRecDepth 100000 in
theorem met_X8_left {D : va_G} {cI cV cJ cD : ClassId} (l : Launch) (a : Nat → Nat) (x : MSt) (p1 : Int32) (res : MSt × Int32) (hf : fX8_left x p1 = some res) : MM l yX8_left cX8_left 2 (some .int) { frames := 2, cells := 0, slots := 0, locals := 42 } D (TY cI cV cJ cD) (W_Model cI a x) (W_Model cI a res.1) [.ref (a 0), .int p1] (some (.int res.2)) := by
  intro sz
  refine Met.ofW (cc := cX8_left) (maxL := 2) (ret := (some .int)) (by decide +kernel) rfl ?_
  intro p e s m args below meth c s₁ B hml hv
  obtain ⟨rfl, hsz, hP, hK, hD0, hE⟩ := hv
  have hx := B.exec
  have hb := B.bytes
  have hr := B.returns
  have hts := atoms_spec (ws := .code yX8_left cX8_left 2 (some .int) :: GW) B.pre
  have hg : ∀ w ∈ GW, w.before (([.ref (a 0), .int p1] : List Value).toArray) s = true := fun w h => hts w (List.mem_cons_of_mem _ h)
  have hown : s.vm.findClass RX8 = some m.cls := findClass_of_methodNamed B.named
  have hlocks := B.notSynchronized
  subst hsz
  have hD := hD0.self (sz := s.heap.size)
  generalize hAe : va_A (W_Model cI a x) s.heap.size = A at hD hE ⊢
  have hA : ∀ q : Nat, s.heap.size ≤ q → A q := fun q h => by rw [← hAe]; exact Or.inr h
  have hS : va_S A s.heap s.heap [] := va_S.rf
  have hl := lv_entry ([.ref (a 0), .int p1]) (n := 2) (Nat.le_of_ble_eq_true rfl)
  rw [lg_entry_eq]
  generalize (lg_sl ([.ref (a 0), .int p1]) ++ List.replicate (2 - (lg_sl ([.ref (a 0), .int p1])).length) Slot.unset).toArray = ls at hl ⊢
  have hl : lv_has ls 2 [(0, .ref (a 0)), (1, .int p1)] := hl
  have L13 : ∀ (x : MSt) (v1 : Int32) (s0 : Int32) (H : Heap) (locs : List Loc) (ls : Array Slot), fX8_left_13 x v1 s0  = some res → va_P D vwCl (W_Model cI a x) H → va_D A (W_Model cI a x) → va_S A s.heap H locs → lv_has ls 2 [(0, .ref (a 0)), (1, .int v1)] → W p l e ({ frames := 2, cells := 0, slots := 0, locals := 42 } : Room) s m ([.ref (a 0), .int p1] : List Value).toArray below meth c H locs 0 0 (MQ below (QW D (TY cI cV cJ cD) (W_Model cI a res.1) A (some (.int res.2))) (([.ref (a 0), .int p1] : List Value).toArray) s 0 0 A) (F0 m 13 ls [.int s0, .ref (a 0)]) := by
    intro x v1 s0 H locs ls hf hP hD hS hl
    dsimp only [fX8_left_13] at hf
    obtain ⟨u1, hc2, hf⟩ := bind_t hf
    refine k_V (As := [.int s0]) (rest := []) (n := 1) ⟨hx, hb, hml, hown, hts⟩ (met_X8_can l a x s0 u1 hc2) w927 w929 ws28 w9 w930 ⟨rfl, by decide +kernel, by decide +kernel, by decide +kernel⟩ ⟨Nat.le_of_ble_eq_true rfl, Nat.le_of_ble_eq_true rfl⟩ hK hE hP hD hS hA (isC := [0, 1, 2, 3, 4, 5, 6, 7, 8, 9, 10, 11, 12, 13, 14]) (isR := []) (isB := [0, 1, 2, 3, 4, 5, 6, 7, 8, 9, 10, 11, 12, 13, 14]) (ws' := W_Model cI a u1.1) ⟨([] : List Nat).filterMap (fun i : Nat => (W_Model cI a x : va_W)[i]?), rfl, rfl, rfl, rfl, by decide, rfl, rfl⟩ 0 7 rfl rfl rfl rfl hl.1 rfl (Nat.le_of_ble_eq_true rfl) dX8_left_13 ⟨Nat.le_of_ble_eq_true rfl, Nat.le_of_ble_eq_true rfl⟩ (fun H locs hP hD hS => ?_)
    try dsimp only at hf
    refine W.eq (g2 := F0 m 16 ls [.int u1.2]) rfl ?_
    obtain ⟨x3, hx3⟩ : ∃ z, z = u1.1 := ⟨_, rfl⟩
    replace hf := keep_e hf x3 hx3
    have hP : va_P D vwCl (W_Model cI a x3) H := by rw [hx3]; exact hP
    have hD : va_D A (W_Model cI a x3) := by rw [hx3]; exact hD
    refine lv_if_eq (tgt := 27) hx hb dX8_left_16 (by decide) (fun c4 => ?_) (fun c4 => ?_)
    · replace hf := if_t c4 hf
      refine lv_iconst (v := 0) hx hb dX8_left_27 (by decide) ?_
      obtain rfl := Option.some.inj hf
      exact W.iret (v := 0) hx hb hr (fun t ht hW => ⟨rfl, by rw [ht]; exact hP, va_K.moved hW.alike hK, hD, hS.F ht⟩) hS.2.2 dX8_left_28 hlocks
    · replace hf := if_f c4 hf
      refine lv_aload_n hx hb dX8_left_19 rfl (lv_at hl 0 rfl) ?_
      refine lv_iload_n hx hb dX8_left_20 rfl (lv_at hl 1 rfl) ?_
      obtain ⟨u5, hc6, hf⟩ := bind_t hf
      refine k_V (As := [.int v1]) (rest := []) (n := 1) ⟨hx, hb, hml, hown, hts⟩ (met_X8_isThere l a x3 v1 u5 hc6) w916 w918 ws26 w9 w919 ⟨rfl, by decide +kernel, by decide +kernel, by decide +kernel⟩ ⟨Nat.le_of_ble_eq_true rfl, Nat.le_of_ble_eq_true rfl⟩ hK hE hP hD hS hA (isC := [0, 1, 2, 3, 4, 5, 6, 7, 8, 9, 10, 11, 12, 13, 14]) (isR := []) (isB := [0, 1, 2, 3, 4, 5, 6, 7, 8, 9, 10, 11, 12, 13, 14]) (ws' := W_Model cI a x3) ⟨([] : List Nat).filterMap (fun i : Nat => (W_Model cI a x3 : va_W)[i]?), rfl, rfl, rfl, rfl, by decide, rfl, rfl⟩ 0 7 rfl rfl rfl rfl hl.1 rfl (Nat.le_of_ble_eq_true rfl) dX8_left_21 ⟨Nat.le_of_ble_eq_true rfl, Nat.le_of_ble_eq_true rfl⟩ (fun H locs hP hD hS => ?_)
      try dsimp only at hf
      refine W.eq (g2 := F0 m 24 ls [.int u5]) rfl ?_
      refine lv_if_ne (tgt := 29) hx hb dX8_left_24 (by decide) (fun c7 => ?_) (fun c7 => ?_)
      · replace hf := if_f c7 hf
        refine lv_aload_n hx hb dX8_left_29 rfl (lv_at hl 0 rfl) ?_
        refine va_get (D := D) (ci := 7) (v := .ref (a 2)) (C := RX8) (T := TX8) (N := 24) hx hb hg in_X8 hown hK hP 0 rfl rfl 3 (by decide) (hg _ w828) (fun _ h9 => h9) rfl dX8_left_30 ?_
        refine lv_iload_n hx hb dX8_left_33 rfl (lv_at hl 1 rfl) ?_
        obtain ⟨hi8, hf⟩ := chk_t hf
        refine va_iald hx hb hK hP 2 0 rfl rfl (inb_in hi8) dX8_left_34 ?_
        refine lv_iconst (v := (-1)) hx hb dX8_left_35 (by decide) ?_
        refine lv_icmp_ne (tgt := 43) hx hb dX8_left_36 (by decide) (fun c9 => ?_) (fun c9 => ?_)
        · replace hf := if_f c9 hf
          refine lv_aload_n hx hb dX8_left_43 rfl (lv_at hl 0 rfl) ?_
          refine va_get (D := D) (ci := 7) (v := .ref (a 2)) (C := RX8) (T := TX8) (N := 24) hx hb hg in_X8 hown hK hP 0 rfl rfl 3 (by decide) (hg _ w828) (fun _ h9 => h9) rfl dX8_left_44 ?_
          refine lv_iload_n hx hb dX8_left_47 rfl (lv_at hl 1 rfl) ?_
          obtain ⟨hi10, hf⟩ := chk_t hf
          refine va_iald hx hb hK hP 2 0 rfl rfl (inb_in hi10) dX8_left_48 ?_
          refine lv_aload_n hx hb dX8_left_49 rfl (lv_at hl 0 rfl) ?_
          refine va_get (D := D) (ci := 7) (v := .int (mClock x3)) (C := RX8) (T := TX8) (N := 24) hx hb hg in_X8 hown hK hP 0 rfl rfl 0 (by decide) (hg _ w825) (fun _ h9 => h9) rfl dX8_left_50 ?_
          refine lv_isub hx hb dX8_left_53 ?_
          obtain rfl := Option.some.inj hf
          exact W.iret (v := (((mEnd x3) (v1).toNatClampNeg) - (mClock x3))) hx hb hr (fun t ht hW => ⟨rfl, by rw [ht]; exact hP, va_K.moved hW.alike hK, hD, hS.F ht⟩) hS.2.2 dX8_left_54 hlocks
        · replace hf := if_t c9 hf
          refine lv_iconst (v := (-1)) hx hb dX8_left_39 (by decide) ?_
          refine lv_goto (tgt := 54) hx hb dX8_left_40 (by decide) ?_
          obtain rfl := Option.some.inj hf
          exact W.iret (v := (-1)) hx hb hr (fun t ht hW => ⟨rfl, by rw [ht]; exact hP, va_K.moved hW.alike hK, hD, hS.F ht⟩) hS.2.2 dX8_left_54 hlocks
      · replace hf := if_t c7 hf
        refine lv_iconst (v := 0) hx hb dX8_left_27 (by decide) ?_
        obtain rfl := Option.some.inj hf
        exact W.iret (v := 0) hx hb hr (fun t ht hW => ⟨rfl, by rw [ht]; exact hP, va_K.moved hW.alike hK, hD, hS.F ht⟩) hS.2.2 dX8_left_28 hlocks
  have M0 : ∀ (H : Heap) (locs : List Loc) (ls : Array Slot), fX8_left x p1 = some res → va_P D vwCl (W_Model cI a x) H → va_D A (W_Model cI a x) → va_S A s.heap H locs → lv_has ls 2 [(0, .ref (a 0)), (1, .int p1)] → W p l e ({ frames := 2, cells := 0, slots := 0, locals := 42 } : Room) s m ([.ref (a 0), .int p1] : List Value).toArray below meth c H locs 0 0 (MQ below (QW D (TY cI cV cJ cD) (W_Model cI a res.1) A (some (.int res.2))) (([.ref (a 0), .int p1] : List Value).toArray) s 0 0 A) (F0 m 0 ls []) := by
    intro H locs ls hf hP hD hS hl
    dsimp only [fX8_left] at hf
    refine lv_aload_n hx hb dX8_left_0 rfl (lv_at hl 0 rfl) ?_
    refine lv_iload_n hx hb dX8_left_1 rfl (lv_at hl 1 rfl) ?_
    obtain ⟨u11, hc12, hf⟩ := bind_t hf
    refine k_S (As := [.int p1]) (rest := [.ref (a 0)]) (n := 1) ⟨hx, hb, hml, hown, hts⟩ (met_X8_isKey l p1 u11 hc12) w906 w907 w9 w908 ⟨by decide +kernel, by decide +kernel, by decide +kernel⟩ ⟨Nat.le_of_ble_eq_true rfl, Nat.le_of_ble_eq_true rfl⟩ hK hE hP hD hS hA (isC := []) (isR := [0, 1, 2, 3, 4, 5, 6, 7, 8, 9, 10, 11, 12, 13, 14]) (isB := [0, 1, 2, 3, 4, 5, 6, 7, 8, 9, 10, 11, 12, 13, 14]) (ws' := W_Model cI a x) ⟨([0, 1, 2, 3, 4, 5, 6, 7, 8, 9, 10, 11, 12, 13, 14] : List Nat).filterMap (fun i : Nat => (W_Model cI a x : va_W)[i]?), rfl, rfl, rfl, rfl, by decide, rfl, rfl⟩ rfl hl.1 rfl (Nat.le_of_ble_eq_true rfl) dX8_left_2 ⟨Nat.le_of_ble_eq_true rfl, Nat.le_of_ble_eq_true rfl⟩ (fun H locs hP hD hS => ?_)
    try dsimp only at hf
    refine W.eq (g2 := F0 m 5 ls [.int u11, .ref (a 0)]) rfl ?_
    refine lv_if_eq (tgt := 12) hx hb dX8_left_5 (by decide) (fun c13 => ?_) (fun c13 => ?_)
    · replace hf := if_t c13 hf
      refine lv_iconst (v := 1) hx hb dX8_left_12 (by decide) ?_
      exact L13 x p1 1 H locs ls hf hP hD hS (lv_sub hl [0, 1] rfl)
    · replace hf := if_f c13 hf
      refine lv_iconst (v := 0) hx hb dX8_left_8 (by decide) ?_
      refine lv_goto (tgt := 13) hx hb dX8_left_9 (by decide) ?_
      exact L13 x p1 0 H locs ls hf hP hD hS (lv_sub hl [0, 1] rfl)
  exact M0 s.heap [] ls hf hP hD hS hl
/-! CompactformsModel.tick(I)I -/
def fX8_tick_32 (x : MSt) (v1 : Int32) (s0 : Int32) : Option (MSt × Int32) := (fX8_can x s0).bind (fun u1 => keep u1.1 (fun x3 => (if u1.2 = 0 then some (x3, 0) else keep (mClock_s x3 ((mClock x3) + v1)) (fun x5 => keep (mNow_s x5 (mClock x5)) (fun x6 => some (x6, (mClock x6)))))))
def fX8_tick (x : MSt) (p1 : Int32) : Option (MSt × Int32) := (fX8_isIn p1 1 1000).bind (fun u7 => (if u7 = 0 then fX8_tick_32 x p1 1 else (if ((mClock x) + p1) ≤ 1000000 then fX8_tick_32 x p1 0 else fX8_tick_32 x p1 2)))
set_option maxHeartbeats 4000000 in
set_option maxRecDepth 100000 in
theorem met_X8_tick {D : va_G} {cI cV cJ cD : ClassId} (l : Launch) (a : Nat → Nat) (x : MSt) (p1 : Int32) (res : MSt × Int32) (hf : fX8_tick x p1 = some res) : MM l yX8_tick cX8_tick 2 (some .int) { frames := 1, cells := 0, slots := 0, locals := 22 } D (TY cI cV cJ cD) (W_Model cI a x) (W_Model cI a res.1) [.ref (a 0), .int p1] (some (.int res.2)) := by
  intro sz
  refine Met.ofW (cc := cX8_tick) (maxL := 2) (ret := (some .int)) (by decide +kernel) rfl ?_
  intro p e s m args below meth c s₁ B hml hv
  obtain ⟨rfl, hsz, hP, hK, hD0, hE⟩ := hv
  have hx := B.exec
  have hb := B.bytes
  have hr := B.returns
  have hts := atoms_spec (ws := .code yX8_tick cX8_tick 2 (some .int) :: GW) B.pre
  have hg : ∀ w ∈ GW, w.before (([.ref (a 0), .int p1] : List Value).toArray) s = true := fun w h => hts w (List.mem_cons_of_mem _ h)
  have hown : s.vm.findClass RX8 = some m.cls := findClass_of_methodNamed B.named
  have hlocks := B.notSynchronized
  subst hsz
  have hD := hD0.self (sz := s.heap.size)
  generalize hAe : va_A (W_Model cI a x) s.heap.size = A at hD hE ⊢
  have hA : ∀ q : Nat, s.heap.size ≤ q → A q := fun q h => by rw [← hAe]; exact Or.inr h
  have hS : va_S A s.heap s.heap [] := va_S.rf
  have hl := lv_entry ([.ref (a 0), .int p1]) (n := 2) (Nat.le_of_ble_eq_true rfl)
  rw [lg_entry_eq]
  generalize (lg_sl ([.ref (a 0), .int p1]) ++ List.replicate (2 - (lg_sl ([.ref (a 0), .int p1])).length) Slot.unset).toArray = ls at hl ⊢
  have hl : lv_has ls 2 [(0, .ref (a 0)), (1, .int p1)] := hl
  have L32 : ∀ (x : MSt) (v1 : Int32) (s0 : Int32) (H : Heap) (locs : List Loc) (ls : Array Slot), fX8_tick_32 x v1 s0  = some res → va_P D vwCl (W_Model cI a x) H → va_D A (W_Model cI a x) → va_S A s.heap H locs → lv_has ls 2 [(0, .ref (a 0)), (1, .int v1)] → W p l e ({ frames := 1, cells := 0, slots := 0, locals := 22 } : Room) s m ([.ref (a 0), .int p1] : List Value).toArray below meth c H locs 0 0 (MQ below (QW D (TY cI cV cJ cD) (W_Model cI a res.1) A (some (.int res.2))) (([.ref (a 0), .int p1] : List Value).toArray) s 0 0 A) (F0 m 32 ls [.int s0, .ref (a 0)]) := by
    intro x v1 s0 H locs ls hf hP hD hS hl
    dsimp only [fX8_tick_32] at hf
    obtain ⟨u1, hc2, hf⟩ := bind_t hf
    refine k_V (As := [.int s0]) (rest := []) (n := 1) ⟨hx, hb, hml, hown, hts⟩ (met_X8_can l a x s0 u1 hc2) w927 w929 ws28 w9 w930 ⟨rfl, by decide +kernel, by decide +kernel, by decide +kernel⟩ ⟨Nat.le_of_ble_eq_true rfl, Nat.le_of_ble_eq_true rfl⟩ hK hE hP hD hS hA (isC := [0, 1, 2, 3, 4, 5, 6, 7, 8, 9, 10, 11, 12, 13, 14]) (isR := []) (isB := [0, 1, 2, 3, 4, 5, 6, 7, 8, 9, 10, 11, 12, 13, 14]) (ws' := W_Model cI a u1.1) ⟨([] : List Nat).filterMap (fun i : Nat => (W_Model cI a x : va_W)[i]?), rfl, rfl, rfl, rfl, by decide, rfl, rfl⟩ 0 7 rfl rfl rfl rfl hl.1 rfl (Nat.le_of_ble_eq_true rfl) dX8_tick_32 ⟨Nat.le_of_ble_eq_true rfl, Nat.le_of_ble_eq_true rfl⟩ (fun H locs hP hD hS => ?_)
    try dsimp only at hf
    refine W.eq (g2 := F0 m 35 ls [.int u1.2]) rfl ?_
    obtain ⟨x3, hx3⟩ : ∃ z, z = u1.1 := ⟨_, rfl⟩
    replace hf := keep_e hf x3 hx3
    have hP : va_P D vwCl (W_Model cI a x3) H := by rw [hx3]; exact hP
    have hD : va_D A (W_Model cI a x3) := by rw [hx3]; exact hD
    refine lv_if_ne (tgt := 40) hx hb dX8_tick_35 (by decide) (fun c4 => ?_) (fun c4 => ?_)
    · replace hf := if_f c4 hf
      refine lv_aload_n hx hb dX8_tick_40 rfl (lv_at hl 0 rfl) ?_
      refine lv_dup hx hb dX8_tick_41 rfl ?_
      refine va_get (D := D) (ci := 7) (v := .int (mClock x3)) (C := RX8) (T := TX8) (N := 24) hx hb hg in_X8 hown hK hP 0 rfl rfl 0 (by decide) (hg _ w825) (fun _ h9 => h9) rfl dX8_tick_42 ?_
      refine lv_iload_n hx hb dX8_tick_45 rfl (lv_at hl 1 rfl) ?_
      refine lv_iadd hx hb dX8_tick_46 ?_
      refine va_put (D := D) (ci := 7) (v := .int ((mClock x3) + v1)) (ty := .int) (C := RX8) (T := TX8) (N := 24) hx hb hg in_X8 tyX8 tyX8_ok nmX8 hown hK hP hD hS 0 rfl rfl 0 (by decide) (hg _ w825) (fun _ h9 => h9) rfl (by decide +kernel) rfl rfl (Nat.le_of_ble_eq_true rfl) dX8_tick_47 (fun H locs hP hD hS => ?_)
      obtain ⟨x5, hx5⟩ : ∃ z, z = (mClock_s x3 ((mClock x3) + v1)) := ⟨_, rfl⟩
      replace hf := keep_e hf x5 hx5
      have hP : va_P D vwCl (W_Model cI a x5) H := by rw [hx5]; exact hP
      have hD : va_D A (W_Model cI a x5) := by rw [hx5]; exact hD
      refine lv_aload_n hx hb dX8_tick_50 rfl (lv_at hl 0 rfl) ?_
      refine lv_aload_n hx hb dX8_tick_51 rfl (lv_at hl 0 rfl) ?_
      refine va_get (D := D) (ci := 7) (v := .int (mClock x5)) (C := RX8) (T := TX8) (N := 24) hx hb hg in_X8 hown hK hP 0 rfl rfl 0 (by decide) (hg _ w825) (fun _ h9 => h9) rfl dX8_tick_52 ?_
      refine va_put (D := D) (ci := 7) (v := .int (mClock x5)) (ty := .int) (C := RX8) (T := TX8) (N := 24) hx hb hg in_X8 tyX8 tyX8_ok nmX8 hown hK hP hD hS 0 rfl rfl 1 (by decide) (hg _ w826) (fun _ h9 => h9) rfl (by decide +kernel) rfl rfl (Nat.le_of_ble_eq_true rfl) dX8_tick_55 (fun H locs hP hD hS => ?_)
      obtain ⟨x6, hx6⟩ : ∃ z, z = (mNow_s x5 (mClock x5)) := ⟨_, rfl⟩
      replace hf := keep_e hf x6 hx6
      have hP : va_P D vwCl (W_Model cI a x6) H := by rw [hx6]; exact hP
      have hD : va_D A (W_Model cI a x6) := by rw [hx6]; exact hD
      refine lv_aload_n hx hb dX8_tick_58 rfl (lv_at hl 0 rfl) ?_
      refine va_get (D := D) (ci := 7) (v := .int (mClock x6)) (C := RX8) (T := TX8) (N := 24) hx hb hg in_X8 hown hK hP 0 rfl rfl 0 (by decide) (hg _ w825) (fun _ h9 => h9) rfl dX8_tick_59 ?_
      obtain rfl := Option.some.inj hf
      exact W.iret (v := (mClock x6)) hx hb hr (fun t ht hW => ⟨rfl, by rw [ht]; exact hP, va_K.moved hW.alike hK, hD, hS.F ht⟩) hS.2.2 dX8_tick_62 hlocks
    · replace hf := if_t c4 hf
      refine lv_iconst (v := 0) hx hb dX8_tick_38 (by decide) ?_
      obtain rfl := Option.some.inj hf
      exact W.iret (v := 0) hx hb hr (fun t ht hW => ⟨rfl, by rw [ht]; exact hP, va_K.moved hW.alike hK, hD, hS.F ht⟩) hS.2.2 dX8_tick_39 hlocks
  have M0 : ∀ (H : Heap) (locs : List Loc) (ls : Array Slot), fX8_tick x p1 = some res → va_P D vwCl (W_Model cI a x) H → va_D A (W_Model cI a x) → va_S A s.heap H locs → lv_has ls 2 [(0, .ref (a 0)), (1, .int p1)] → W p l e ({ frames := 1, cells := 0, slots := 0, locals := 22 } : Room) s m ([.ref (a 0), .int p1] : List Value).toArray below meth c H locs 0 0 (MQ below (QW D (TY cI cV cJ cD) (W_Model cI a res.1) A (some (.int res.2))) (([.ref (a 0), .int p1] : List Value).toArray) s 0 0 A) (F0 m 0 ls []) := by
    intro H locs ls hf hP hD hS hl
    dsimp only [fX8_tick] at hf
    refine lv_aload_n hx hb dX8_tick_0 rfl (lv_at hl 0 rfl) ?_
    refine lv_iload_n hx hb dX8_tick_1 rfl (lv_at hl 1 rfl) ?_
    refine lv_iconst (v := 1) hx hb dX8_tick_2 (by decide) ?_
    refine lv_sipush (v := 1000) hx hb dX8_tick_3 (by decide) ?_
    obtain ⟨u7, hc8, hf⟩ := bind_t hf
    refine k_S (As := [.int p1, .int 1, .int 1000]) (rest := [.ref (a 0)]) (n := 3) ⟨hx, hb, hml, hown, hts⟩ (met_X8_isIn l p1 1 1000 u7 hc8) w909 w910 w9 w911 ⟨by decide +kernel, by decide +kernel, by decide +kernel⟩ ⟨Nat.le_of_ble_eq_true rfl, Nat.le_of_ble_eq_true rfl⟩ hK hE hP hD hS hA (isC := []) (isR := [0, 1, 2, 3, 4, 5, 6, 7, 8, 9, 10, 11, 12, 13, 14]) (isB := [0, 1, 2, 3, 4, 5, 6, 7, 8, 9, 10, 11, 12, 13, 14]) (ws' := W_Model cI a x) ⟨([0, 1, 2, 3, 4, 5, 6, 7, 8, 9, 10, 11, 12, 13, 14] : List Nat).filterMap (fun i : Nat => (W_Model cI a x : va_W)[i]?), rfl, rfl, rfl, rfl, by decide, rfl, rfl⟩ rfl hl.1 rfl (Nat.le_of_ble_eq_true rfl) dX8_tick_6 ⟨Nat.le_of_ble_eq_true rfl, Nat.le_of_ble_eq_true rfl⟩ (fun H locs hP hD hS => ?_)
    try dsimp only at hf
    refine W.eq (g2 := F0 m 9 ls [.int u7, .ref (a 0)]) rfl ?_
    refine lv_if_ne (tgt := 16) hx hb dX8_tick_9 (by decide) (fun c9 => ?_) (fun c9 => ?_)
    · replace hf := if_f c9 hf
      refine lv_aload_n hx hb dX8_tick_16 rfl (lv_at hl 0 rfl) ?_
      refine va_get (D := D) (ci := 7) (v := .int (mClock x)) (C := RX8) (T := TX8) (N := 24) hx hb hg in_X8 hown hK hP 0 rfl rfl 0 (by decide) (hg _ w825) (fun _ h9 => h9) rfl dX8_tick_17 ?_
      refine lv_iload_n hx hb dX8_tick_20 rfl (lv_at hl 1 rfl) ?_
      refine lv_iadd hx hb dX8_tick_21 ?_
      refine lv_ldc (own := RX8) (v := 1000000) hx hb hown (hg _ w1072) dX8_tick_22 ?_
      refine lv_icmp_le (tgt := 31) hx hb dX8_tick_24 (by decide) (fun c10 => ?_) (fun c10 => ?_)
      · replace hf := if_t c10 hf
        refine lv_iconst (v := 0) hx hb dX8_tick_31 (by decide) ?_
        exact L32 x p1 0 H locs ls hf hP hD hS (lv_sub hl [0, 1] rfl)
      · replace hf := if_f c10 hf
        refine lv_iconst (v := 2) hx hb dX8_tick_27 (by decide) ?_
        refine lv_goto (tgt := 32) hx hb dX8_tick_28 (by decide) ?_
        exact L32 x p1 2 H locs ls hf hP hD hS (lv_sub hl [0, 1] rfl)
    · replace hf := if_t c9 hf
      refine lv_iconst (v := 1) hx hb dX8_tick_12 (by decide) ?_
      refine lv_goto (tgt := 32) hx hb dX8_tick_13 (by decide) ?_
      exact L32 x p1 1 H locs ls hf hP hD hS (lv_sub hl [0, 1] rfl)
  exact M0 s.heap [] ls hf hP hD hS hl
/-! CompactformsModel.sample(I)I -/
def fX8_sample_133 (rec39 : MSt × Int32 × Int32 × Int32 → Option (MSt × Int32)) (x : MSt) (v2 : Int32) (v3 : Int32) (v4 : Int32) (v5 : Int32) (s0 : Int32) (s1 : Int32) : Option (MSt × Int32) := chk (inb s1 16) (keep (mType_s x (upd (mType x) (s1).toNatClampNeg s0)) (fun x2 => keep (v5 + 1) (fun y3 => rec39 (x2, v2, v3, y3))))
def fX8_sample_105 (rec39 : MSt × Int32 × Int32 × Int32 → Option (MSt × Int32)) (x : MSt) (v3 : Int32) (v4 : Int32) (v5 : Int32) (v6 : Int32) (s0 : Int32) (s1 : Int32) : Option (MSt × Int32) := keep (s1 + s0) (fun y4 => (fX8_isThere x v6).bind (fun u5 => (if u5 = 0 then fX8_sample_133 rec39 x y4 v3 v4 v5 0 v6 else chk (inb v6 16) (fX8_sample_133 rec39 x y4 v3 v4 v5 ((mType x) (v6).toNatClampNeg) v6))))
def fX8_sample_39 (v4 : Int32) (rec39 : MSt × Int32 × Int32 × Int32 → Option (MSt × Int32)) (s : MSt × Int32 × Int32 × Int32) : Option (MSt × Int32) := match s with | (x, v2, v3, v5) => (if 16 ≤ v5 then some (x, v2) else (if v3 ≤ 0 then some (x, v2) else keep ((v4 + v5) - (v4 + v5) / 16 * 16) (fun y11 => chk (inb y11 16) ((if ((mType x) (y11).toNatClampNeg) = 0 then keep (v5 + 1) (fun y14 => rec39 (x, v2, v3, y14)) else chk (inb y11 16) ((if ((mEnd x) (y11).toNatClampNeg) = (-1) then keep (v5 + 1) (fun y17 => rec39 (x, v2, v3, y17)) else keep (mSampled_s x y11) (fun x18 => keep (v3 + (-1)) (fun y19 => (fX8_isThere x18 y11).bind (fun u20 => (if u20 = 0 then fX8_sample_105 rec39 x18 y19 v4 v5 y11 1 v2 else fX8_sample_105 rec39 x18 y19 v4 v5 y11 0 v2)))))))))))
def fX8_sample_16 (x : MSt) (v1 : Int32) (s0 : Int32) : Option (MSt × Int32) := (fX8_can x s0).bind (fun u23 => keep u23.1 (fun x25 => (if u23.2 = 0 then some (x25, 0) else keep ((mSampled x25) + 1) (fun y27 => iterK FU (fX8_sample_39 y27) (x25, 0, v1, 0)))))
def fX8_sample (x : MSt) (p1 : Int32) : Option (MSt × Int32) := (fX8_isIn p1 1 16).bind (fun u28 => (if u28 = 0 then fX8_sample_16 x p1 1 else fX8_sample_16 x p1 0))
set_option maxHeartbeats 4000000 in
set_option maxRecDepth 100000 in
theorem met_X8_sample {D : va_G} {cI cV cJ cD : ClassId} (l : Launch) (a : Nat → Nat) (x : MSt) (p1 : Int32) (res : MSt × Int32) (hf : fX8_sample x p1 = some res) : MM l yX8_sample cX8_sample 7 (some .int) { frames := 1, cells := 0, slots := 0, locals := 22 } D (TY cI cV cJ cD) (W_Model cI a x) (W_Model cI a res.1) [.ref (a 0), .int p1] (some (.int res.2)) := by
  intro sz
  refine Met.ofW (cc := cX8_sample) (maxL := 7) (ret := (some .int)) (by decide +kernel) rfl ?_
  intro p e s m args below meth c s₁ B hml hv
  obtain ⟨rfl, hsz, hP, hK, hD0, hE⟩ := hv
  have hx := B.exec
  have hb := B.bytes
  have hr := B.returns
  have hts := atoms_spec (ws := .code yX8_sample cX8_sample 7 (some .int) :: GW) B.pre
  have hg : ∀ w ∈ GW, w.before (([.ref (a 0), .int p1] : List Value).toArray) s = true := fun w h => hts w (List.mem_cons_of_mem _ h)
  have hown : s.vm.findClass RX8 = some m.cls := findClass_of_methodNamed B.named
  have hlocks := B.notSynchronized
  subst hsz
  have hD := hD0.self (sz := s.heap.size)
  generalize hAe : va_A (W_Model cI a x) s.heap.size = A at hD hE ⊢
  have hA : ∀ q : Nat, s.heap.size ≤ q → A q := fun q h => by rw [← hAe]; exact Or.inr h
  have hS : va_S A s.heap s.heap [] := va_S.rf
  have hl := lv_entry ([.ref (a 0), .int p1]) (n := 7) (Nat.le_of_ble_eq_true rfl)
  rw [lg_entry_eq]
  generalize (lg_sl ([.ref (a 0), .int p1]) ++ List.replicate (7 - (lg_sl ([.ref (a 0), .int p1])).length) Slot.unset).toArray = ls at hl ⊢
  have hl : lv_has ls 7 [(0, .ref (a 0)), (1, .int p1)] := hl
  have L133 : ∀ (x : MSt) (v2 : Int32) (v3 : Int32) (v4 : Int32) (v5 : Int32) (s0 : Int32) (s1 : Int32) (rec39 : MSt × Int32 × Int32 × Int32 → Option (MSt × Int32)) (hrec39 : ∀ (x : MSt), ∀ (v2 : Int32), ∀ (v3 : Int32), ∀ (v5 : Int32), ∀ (H : Heap) (locs : List Loc) (ls : Array Slot), rec39 (x, v2, v3, v5) = some res → va_P D vwCl (W_Model cI a x) H → va_D A (W_Model cI a x) → va_S A s.heap H locs → lv_has ls 7 [(0, .ref (a 0)), (2, .int v2), (3, .int v3), (4, .int v4), (5, .int v5)] → W p l e ({ frames := 1, cells := 0, slots := 0, locals := 22 } : Room) s m ([.ref (a 0), .int p1] : List Value).toArray below meth c H locs 0 0 (MQ below (QW D (TY cI cV cJ cD) (W_Model cI a res.1) A (some (.int res.2))) (([.ref (a 0), .int p1] : List Value).toArray) s 0 0 A) (F0 m 39 ls [])) (H : Heap) (locs : List Loc) (ls : Array Slot), fX8_sample_133 rec39 x v2 v3 v4 v5 s0 s1  = some res → va_P D vwCl (W_Model cI a x) H → va_D A (W_Model cI a x) → va_S A s.heap H locs → lv_has ls 7 [(0, .ref (a 0)), (2, .int v2), (3, .int v3), (4, .int v4), (5, .int v5)] → W p l e ({ frames := 1, cells := 0, slots := 0, locals := 22 } : Room) s m ([.ref (a 0), .int p1] : List Value).toArray below meth c H locs 0 0 (MQ below (QW D (TY cI cV cJ cD) (W_Model cI a res.1) A (some (.int res.2))) (([.ref (a 0), .int p1] : List Value).toArray) s 0 0 A) (F0 m 133 ls [.int s0, .int s1, .ref (a 1)]) := by
    intro x v2 v3 v4 v5 s0 s1 rec39 hrec39 H locs ls hf hP hD hS hl
    dsimp only [fX8_sample_133] at hf
    obtain ⟨hi1, hf⟩ := chk_t hf
    refine va_iast hx hb hK hP hD hS 1 0 rfl rfl (inb_in hi1) dX8_sample_133 (fun H locs hP hD hS => ?_)
    obtain ⟨x2, hx2⟩ : ∃ z, z = (mType_s x (upd (mType x) (s1).toNatClampNeg s0)) := ⟨_, rfl⟩
    replace hf := keep_e hf x2 hx2
    have hP : va_P D vwCl (W_Model cI a x2) H := by rw [hx2]; exact hP
    have hD : va_D A (W_Model cI a x2) := by rw [hx2]; exact hD
    obtain ⟨y3, hy3⟩ : ∃ z : Int32, z = (v5 + 1) := ⟨_, rfl⟩
    replace hf := keep_e hf y3 hy3
    refine lv_iinc (v := y3) (lv' := [(5, .int y3), (0, .ref (a 0)), (2, .int v2), (3, .int v3), (4, .int v4)]) hx hb dX8_sample_134 hl (k := 4) rfl (by rw [hy3]; rfl) (by decide) rfl (fun ls hl => ?_)
    refine lv_goto (tgt := 39) hx hb dX8_sample_137 (by decide) ?_
    exact hrec39 x2 v2 v3 y3 H locs ls hf hP hD hS (lv_sub hl [1, 2, 3, 4, 0] rfl)
  have L105 : ∀ (x : MSt) (v3 : Int32) (v4 : Int32) (v5 : Int32) (v6 : Int32) (s0 : Int32) (s1 : Int32) (rec39 : MSt × Int32 × Int32 × Int32 → Option (MSt × Int32)) (hrec39 : ∀ (x : MSt), ∀ (v2 : Int32), ∀ (v3 : Int32), ∀ (v5 : Int32), ∀ (H : Heap) (locs : List Loc) (ls : Array Slot), rec39 (x, v2, v3, v5) = some res → va_P D vwCl (W_Model cI a x) H → va_D A (W_Model cI a x) → va_S A s.heap H locs → lv_has ls 7 [(0, .ref (a 0)), (2, .int v2), (3, .int v3), (4, .int v4), (5, .int v5)] → W p l e ({ frames := 1, cells := 0, slots := 0, locals := 22 } : Room) s m ([.ref (a 0), .int p1] : List Value).toArray below meth c H locs 0 0 (MQ below (QW D (TY cI cV cJ cD) (W_Model cI a res.1) A (some (.int res.2))) (([.ref (a 0), .int p1] : List Value).toArray) s 0 0 A) (F0 m 39 ls [])) (H : Heap) (locs : List Loc) (ls : Array Slot), fX8_sample_105 rec39 x v3 v4 v5 v6 s0 s1  = some res → va_P D vwCl (W_Model cI a x) H → va_D A (W_Model cI a x) → va_S A s.heap H locs → lv_has ls 7 [(0, .ref (a 0)), (3, .int v3), (4, .int v4), (5, .int v5), (6, .int v6)] → W p l e ({ frames := 1, cells := 0, slots := 0, locals := 22 } : Room) s m ([.ref (a 0), .int p1] : List Value).toArray below meth c H locs 0 0 (MQ below (QW D (TY cI cV cJ cD) (W_Model cI a res.1) A (some (.int res.2))) (([.ref (a 0), .int p1] : List Value).toArray) s 0 0 A) (F0 m 105 ls [.int s0, .int s1]) := by
    intro x v3 v4 v5 v6 s0 s1 rec39 hrec39 H locs ls hf hP hD hS hl
    dsimp only [fX8_sample_105] at hf
    refine lv_iadd hx hb dX8_sample_105 ?_
    refine lv_topi (fun y4 hy4 => ?_)
    replace hf := keep_e hf y4 hy4
    refine lv_istore_n (lv' := [(2, .int y4), (0, .ref (a 0)), (3, .int v3), (4, .int v4), (5, .int v5), (6, .int v6)]) hx hb dX8_sample_106 rfl hl (by decide) rfl (fun ls hl => ?_)
    refine lv_aload_n hx hb dX8_sample_107 rfl (lv_at hl 1 rfl) ?_
    refine va_get (D := D) (ci := 7) (v := .ref (a 1)) (C := RX8) (T := TX8) (N := 24) hx hb hg in_X8 hown hK hP 0 rfl rfl 2 (by decide) (hg _ w827) (fun _ h9 => h9) rfl dX8_sample_108 ?_
    refine lv_iload hx hb dX8_sample_111 (lv_at hl 5 rfl) ?_
    refine lv_aload_n hx hb dX8_sample_113 rfl (lv_at hl 1 rfl) ?_
    refine lv_iload hx hb dX8_sample_114 (lv_at hl 5 rfl) ?_
    obtain ⟨u5, hc6, hf⟩ := bind_t hf
    refine k_V (As := [.int v6]) (rest := [.int v6, .ref (a 1)]) (n := 1) ⟨hx, hb, hml, hown, hts⟩ (met_X8_isThere l a x v6 u5 hc6) w916 w918 ws26 w9 w919 ⟨rfl, by decide +kernel, by decide +kernel, by decide +kernel⟩ ⟨Nat.le_of_ble_eq_true rfl, Nat.le_of_ble_eq_true rfl⟩ hK hE hP hD hS hA (isC := [0, 1, 2, 3, 4, 5, 6, 7, 8, 9, 10, 11, 12, 13, 14]) (isR := []) (isB := [0, 1, 2, 3, 4, 5, 6, 7, 8, 9, 10, 11, 12, 13, 14]) (ws' := W_Model cI a x) ⟨([] : List Nat).filterMap (fun i : Nat => (W_Model cI a x : va_W)[i]?), rfl, rfl, rfl, rfl, by decide, rfl, rfl⟩ 0 7 rfl rfl rfl rfl hl.1 rfl (Nat.le_of_ble_eq_true rfl) dX8_sample_116 ⟨Nat.le_of_ble_eq_true rfl, Nat.le_of_ble_eq_true rfl⟩ (fun H locs hP hD hS => ?_)
    try dsimp only at hf
    refine W.eq (g2 := F0 m 119 ls [.int u5, .int v6, .ref (a 1)]) rfl ?_
    refine lv_if_eq (tgt := 132) hx hb dX8_sample_119 (by decide) (fun c7 => ?_) (fun c7 => ?_)
    · replace hf := if_t c7 hf
      refine lv_iconst (v := 0) hx hb dX8_sample_132 (by decide) ?_
      exact L133 x y4 v3 v4 v5 0 v6 rec39 hrec39 H locs ls hf hP hD hS (lv_sub hl [1, 0, 2, 3, 4] rfl)
    · replace hf := if_f c7 hf
      refine lv_aload_n hx hb dX8_sample_122 rfl (lv_at hl 1 rfl) ?_
      refine va_get (D := D) (ci := 7) (v := .ref (a 1)) (C := RX8) (T := TX8) (N := 24) hx hb hg in_X8 hown hK hP 0 rfl rfl 2 (by decide) (hg _ w827) (fun _ h9 => h9) rfl dX8_sample_123 ?_
      refine lv_iload hx hb dX8_sample_126 (lv_at hl 5 rfl) ?_
      obtain ⟨hi8, hf⟩ := chk_t hf
      refine va_iald hx hb hK hP 1 0 rfl rfl (inb_in hi8) dX8_sample_128 ?_
      refine lv_goto (tgt := 133) hx hb dX8_sample_129 (by decide) ?_
      exact L133 x y4 v3 v4 v5 ((mType x) (v6).toNatClampNeg) v6 rec39 hrec39 H locs ls hf hP hD hS (lv_sub hl [1, 0, 2, 3, 4] rfl)
  have S39 : ∀ (v4 : Int32) (rec39 : MSt × Int32 × Int32 × Int32 → Option (MSt × Int32)) (hrec39 : ∀ (x : MSt), ∀ (v2 : Int32), ∀ (v3 : Int32), ∀ (v5 : Int32), ∀ (H : Heap) (locs : List Loc) (ls : Array Slot), rec39 (x, v2, v3, v5) = some res → va_P D vwCl (W_Model cI a x) H → va_D A (W_Model cI a x) → va_S A s.heap H locs → lv_has ls 7 [(0, .ref (a 0)), (2, .int v2), (3, .int v3), (4, .int v4), (5, .int v5)] → W p l e ({ frames := 1, cells := 0, slots := 0, locals := 22 } : Room) s m ([.ref (a 0), .int p1] : List Value).toArray below meth c H locs 0 0 (MQ below (QW D (TY cI cV cJ cD) (W_Model cI a res.1) A (some (.int res.2))) (([.ref (a 0), .int p1] : List Value).toArray) s 0 0 A) (F0 m 39 ls [])) (x : MSt) (v2 : Int32) (v3 : Int32) (v5 : Int32) (H : Heap) (locs : List Loc) (ls : Array Slot), fX8_sample_39 v4  rec39 (x, v2, v3, v5) = some res → va_P D vwCl (W_Model cI a x) H → va_D A (W_Model cI a x) → va_S A s.heap H locs → lv_has ls 7 [(0, .ref (a 0)), (2, .int v2), (3, .int v3), (4, .int v4), (5, .int v5)] → W p l e ({ frames := 1, cells := 0, slots := 0, locals := 22 } : Room) s m ([.ref (a 0), .int p1] : List Value).toArray below meth c H locs 0 0 (MQ below (QW D (TY cI cV cJ cD) (W_Model cI a res.1) A (some (.int res.2))) (([.ref (a 0), .int p1] : List Value).toArray) s 0 0 A) (F0 m 39 ls []) := by
    intro v4 rec39 hrec39 x v2 v3 v5 H locs ls hf hP hD hS hl
    dsimp only [fX8_sample_39] at hf
    refine lv_iload hx hb dX8_sample_39 (lv_at hl 4 rfl) ?_
    refine lv_bipush (v := 16) hx hb dX8_sample_41 (by decide) ?_
    refine lv_icmp_ge (tgt := 140) hx hb dX8_sample_43 (by decide) (fun c9 => ?_) (fun c9 => ?_)
    · replace hf := if_t c9 hf
      refine lv_iload_n hx hb dX8_sample_140 rfl (lv_at hl 1 rfl) ?_
      obtain rfl := Option.some.inj hf
      exact W.iret (v := v2) hx hb hr (fun t ht hW => ⟨rfl, by rw [ht]; exact hP, va_K.moved hW.alike hK, hD, hS.F ht⟩) hS.2.2 dX8_sample_141 hlocks
    · replace hf := if_f c9 hf
      refine lv_iload_n hx hb dX8_sample_46 rfl (lv_at hl 2 rfl) ?_
      refine lv_if_le (tgt := 140) hx hb dX8_sample_47 (by decide) (fun c10 => ?_) (fun c10 => ?_)
      · replace hf := if_t c10 hf
        refine lv_iload_n hx hb dX8_sample_140 rfl (lv_at hl 1 rfl) ?_
        obtain rfl := Option.some.inj hf
        exact W.iret (v := v2) hx hb hr (fun t ht hW => ⟨rfl, by rw [ht]; exact hP, va_K.moved hW.alike hK, hD, hS.F ht⟩) hS.2.2 dX8_sample_141 hlocks
      · replace hf := if_f c10 hf
        refine lv_iload hx hb dX8_sample_50 (lv_at hl 3 rfl) ?_
        refine lv_iload hx hb dX8_sample_52 (lv_at hl 4 rfl) ?_
        refine lv_iadd hx hb dX8_sample_54 ?_
        refine lv_bipush (v := 16) hx hb dX8_sample_55 (by decide) ?_
        refine lv_irem hx hb dX8_sample_57 (by decide) ?_
        refine lv_topi (fun y11 hy11 => ?_)
        replace hf := keep_e hf y11 hy11
        refine lv_istore (lv' := [(6, .int y11), (0, .ref (a 0)), (2, .int v2), (3, .int v3), (4, .int v4), (5, .int v5)]) hx hb dX8_sample_58 hl (by decide) rfl (fun ls hl => ?_)
        refine lv_aload_n hx hb dX8_sample_60 rfl (lv_at hl 1 rfl) ?_
        refine va_get (D := D) (ci := 7) (v := .ref (a 1)) (C := RX8) (T := TX8) (N := 24) hx hb hg in_X8 hown hK hP 0 rfl rfl 2 (by decide) (hg _ w827) (fun _ h9 => h9) rfl dX8_sample_61 ?_
        refine lv_iload hx hb dX8_sample_64 (lv_at hl 0 rfl) ?_
        obtain ⟨hi12, hf⟩ := chk_t hf
        refine va_iald hx hb hK hP 1 0 rfl rfl (inb_in hi12) dX8_sample_66 ?_
        refine lv_if_eq (tgt := 134) hx hb dX8_sample_67 (by decide) (fun c13 => ?_) (fun c13 => ?_)
        · replace hf := if_t c13 hf
          obtain ⟨y14, hy14⟩ : ∃ z : Int32, z = (v5 + 1) := ⟨_, rfl⟩
          replace hf := keep_e hf y14 hy14
          refine lv_iinc (v := y14) (lv' := [(5, .int y14), (6, .int y11), (0, .ref (a 0)), (2, .int v2), (3, .int v3), (4, .int v4)]) hx hb dX8_sample_134 hl (k := 5) rfl (by rw [hy14]; rfl) (by decide) rfl (fun ls hl => ?_)
          refine lv_goto (tgt := 39) hx hb dX8_sample_137 (by decide) ?_
          exact hrec39 x v2 v3 y14 H locs ls hf hP hD hS (lv_sub hl [2, 3, 4, 5, 0] rfl)
        · replace hf := if_f c13 hf
          refine lv_aload_n hx hb dX8_sample_70 rfl (lv_at hl 1 rfl) ?_
          refine va_get (D := D) (ci := 7) (v := .ref (a 2)) (C := RX8) (T := TX8) (N := 24) hx hb hg in_X8 hown hK hP 0 rfl rfl 3 (by decide) (hg _ w828) (fun _ h9 => h9) rfl dX8_sample_71 ?_
          refine lv_iload hx hb dX8_sample_74 (lv_at hl 0 rfl) ?_
          obtain ⟨hi15, hf⟩ := chk_t hf
          refine va_iald hx hb hK hP 2 0 rfl rfl (inb_in hi15) dX8_sample_76 ?_
          refine lv_iconst (v := (-1)) hx hb dX8_sample_77 (by decide) ?_
          refine lv_icmp_eq (tgt := 134) hx hb dX8_sample_78 (by decide) (fun c16 => ?_) (fun c16 => ?_)
          · replace hf := if_t c16 hf
            obtain ⟨y17, hy17⟩ : ∃ z : Int32, z = (v5 + 1) := ⟨_, rfl⟩
            replace hf := keep_e hf y17 hy17
            refine lv_iinc (v := y17) (lv' := [(5, .int y17), (6, .int y11), (0, .ref (a 0)), (2, .int v2), (3, .int v3), (4, .int v4)]) hx hb dX8_sample_134 hl (k := 5) rfl (by rw [hy17]; rfl) (by decide) rfl (fun ls hl => ?_)
            refine lv_goto (tgt := 39) hx hb dX8_sample_137 (by decide) ?_
            exact hrec39 x v2 v3 y17 H locs ls hf hP hD hS (lv_sub hl [2, 3, 4, 5, 0] rfl)
          · replace hf := if_f c16 hf
            refine lv_aload_n hx hb dX8_sample_81 rfl (lv_at hl 1 rfl) ?_
            refine lv_iload hx hb dX8_sample_82 (lv_at hl 0 rfl) ?_
            refine va_put (D := D) (ci := 7) (v := .int y11) (ty := .int) (C := RX8) (T := TX8) (N := 24) hx hb hg in_X8 tyX8 tyX8_ok nmX8 hown hK hP hD hS 0 rfl rfl 13 (by decide) (hg _ w838) (fun _ h9 => h9) rfl (by decide +kernel) rfl rfl (Nat.le_of_ble_eq_true rfl) dX8_sample_84 (fun H locs hP hD hS => ?_)
            obtain ⟨x18, hx18⟩ : ∃ z, z = (mSampled_s x y11) := ⟨_, rfl⟩
            replace hf := keep_e hf x18 hx18
            have hP : va_P D vwCl (W_Model cI a x18) H := by rw [hx18]; exact hP
            have hD : va_D A (W_Model cI a x18) := by rw [hx18]; exact hD
            obtain ⟨y19, hy19⟩ : ∃ z : Int32, z = (v3 + (-1)) := ⟨_, rfl⟩
            replace hf := keep_e hf y19 hy19
            refine lv_iinc (v := y19) (lv' := [(3, .int y19), (6, .int y11), (0, .ref (a 0)), (2, .int v2), (4, .int v4), (5, .int v5)]) hx hb dX8_sample_87 hl (k := 3) rfl (by rw [hy19]; rfl) (by decide) rfl (fun ls hl => ?_)
            refine lv_iload_n hx hb dX8_sample_90 rfl (lv_at hl 3 rfl) ?_
            refine lv_aload_n hx hb dX8_sample_91 rfl (lv_at hl 2 rfl) ?_
            refine lv_iload hx hb dX8_sample_92 (lv_at hl 1 rfl) ?_
            obtain ⟨u20, hc21, hf⟩ := bind_t hf
            refine k_V (As := [.int y11]) (rest := [.int v2]) (n := 1) ⟨hx, hb, hml, hown, hts⟩ (met_X8_isThere l a x18 y11 u20 hc21) w916 w918 ws26 w9 w919 ⟨rfl, by decide +kernel, by decide +kernel, by decide +kernel⟩ ⟨Nat.le_of_ble_eq_true rfl, Nat.le_of_ble_eq_true rfl⟩ hK hE hP hD hS hA (isC := [0, 1, 2, 3, 4, 5, 6, 7, 8, 9, 10, 11, 12, 13, 14]) (isR := []) (isB := [0, 1, 2, 3, 4, 5, 6, 7, 8, 9, 10, 11, 12, 13, 14]) (ws' := W_Model cI a x18) ⟨([] : List Nat).filterMap (fun i : Nat => (W_Model cI a x18 : va_W)[i]?), rfl, rfl, rfl, rfl, by decide, rfl, rfl⟩ 0 7 rfl rfl rfl rfl hl.1 rfl (Nat.le_of_ble_eq_true rfl) dX8_sample_94 ⟨Nat.le_of_ble_eq_true rfl, Nat.le_of_ble_eq_true rfl⟩ (fun H locs hP hD hS => ?_)
            try dsimp only at hf
            refine W.eq (g2 := F0 m 97 ls [.int u20, .int v2]) rfl ?_
            refine lv_if_eq (tgt := 104) hx hb dX8_sample_97 (by decide) (fun c22 => ?_) (fun c22 => ?_)
            · replace hf := if_t c22 hf
              refine lv_iconst (v := 1) hx hb dX8_sample_104 (by decide) ?_
              exact L105 x18 y19 v4 v5 y11 1 v2 rec39 hrec39 H locs ls hf hP hD hS (lv_sub hl [2, 0, 4, 5, 1] rfl)
            · replace hf := if_f c22 hf
              refine lv_iconst (v := 0) hx hb dX8_sample_100 (by decide) ?_
              refine lv_goto (tgt := 105) hx hb dX8_sample_101 (by decide) ?_
              exact L105 x18 y19 v4 v5 y11 0 v2 rec39 hrec39 H locs ls hf hP hD hS (lv_sub hl [2, 0, 4, 5, 1] rfl)
  have L39 : ∀ (v4 : Int32) (fu : Nat) (x : MSt) (v2 : Int32) (v3 : Int32) (v5 : Int32) (H : Heap) (locs : List Loc) (ls : Array Slot), iterK fu (fX8_sample_39 v4 ) (x, v2, v3, v5) = some res → va_P D vwCl (W_Model cI a x) H → va_D A (W_Model cI a x) → va_S A s.heap H locs → lv_has ls 7 [(0, .ref (a 0)), (2, .int v2), (3, .int v3), (4, .int v4), (5, .int v5)] → W p l e ({ frames := 1, cells := 0, slots := 0, locals := 22 } : Room) s m ([.ref (a 0), .int p1] : List Value).toArray below meth c H locs 0 0 (MQ below (QW D (TY cI cV cJ cD) (W_Model cI a res.1) A (some (.int res.2))) (([.ref (a 0), .int p1] : List Value).toArray) s 0 0 A) (F0 m 39 ls []) := by
    intro v4 fu
    induction fu with
    | zero =>
      intro x v2 v3 v5 H locs ls hf
      cases hf
    | succ fu ih =>
      intro x v2 v3 v5 H locs ls hf hP hD hS hl
      exact S39 v4 (iterK fu (fX8_sample_39 v4 )) ih x v2 v3 v5 H locs ls hf hP hD hS hl
  have L16 : ∀ (x : MSt) (v1 : Int32) (s0 : Int32) (H : Heap) (locs : List Loc) (ls : Array Slot), fX8_sample_16 x v1 s0  = some res → va_P D vwCl (W_Model cI a x) H → va_D A (W_Model cI a x) → va_S A s.heap H locs → lv_has ls 7 [(0, .ref (a 0)), (1, .int v1)] → W p l e ({ frames := 1, cells := 0, slots := 0, locals := 22 } : Room) s m ([.ref (a 0), .int p1] : List Value).toArray below meth c H locs 0 0 (MQ below (QW D (TY cI cV cJ cD) (W_Model cI a res.1) A (some (.int res.2))) (([.ref (a 0), .int p1] : List Value).toArray) s 0 0 A) (F0 m 16 ls [.int s0, .ref (a 0)]) := by
    intro x v1 s0 H locs ls hf hP hD hS hl
    dsimp only [fX8_sample_16] at hf
    obtain ⟨u23, hc24, hf⟩ := bind_t hf
    refine k_V (As := [.int s0]) (rest := []) (n := 1) ⟨hx, hb, hml, hown, hts⟩ (met_X8_can l a x s0 u23 hc24) w927 w929 ws28 w9 w930 ⟨rfl, by decide +kernel, by decide +kernel, by decide +kernel⟩ ⟨Nat.le_of_ble_eq_true rfl, Nat.le_of_ble_eq_true rfl⟩ hK hE hP hD hS hA (isC := [0, 1, 2, 3, 4, 5, 6, 7, 8, 9, 10, 11, 12, 13, 14]) (isR := []) (isB := [0, 1, 2, 3, 4, 5, 6, 7, 8, 9, 10, 11, 12, 13, 14]) (ws' := W_Model cI a u23.1) ⟨([] : List Nat).filterMap (fun i : Nat => (W_Model cI a x : va_W)[i]?), rfl, rfl, rfl, rfl, by decide, rfl, rfl⟩ 0 7 rfl rfl rfl rfl hl.1 rfl (Nat.le_of_ble_eq_true rfl) dX8_sample_16 ⟨Nat.le_of_ble_eq_true rfl, Nat.le_of_ble_eq_true rfl⟩ (fun H locs hP hD hS => ?_)
    try dsimp only at hf
    refine W.eq (g2 := F0 m 19 ls [.int u23.2]) rfl ?_
    obtain ⟨x25, hx25⟩ : ∃ z, z = u23.1 := ⟨_, rfl⟩
    replace hf := keep_e hf x25 hx25
    have hP : va_P D vwCl (W_Model cI a x25) H := by rw [hx25]; exact hP
    have hD : va_D A (W_Model cI a x25) := by rw [hx25]; exact hD
    refine lv_if_ne (tgt := 24) hx hb dX8_sample_19 (by decide) (fun c26 => ?_) (fun c26 => ?_)
    · replace hf := if_f c26 hf
      refine lv_iconst (v := 0) hx hb dX8_sample_24 (by decide) ?_
      refine lv_istore_n (lv' := [(2, .int 0), (0, .ref (a 0)), (1, .int v1)]) hx hb dX8_sample_25 rfl hl (by decide) rfl (fun ls hl => ?_)
      refine lv_iload_n hx hb dX8_sample_26 rfl (lv_at hl 2 rfl) ?_
      refine lv_istore_n (lv' := [(3, .int v1), (2, .int 0), (0, .ref (a 0)), (1, .int v1)]) hx hb dX8_sample_27 rfl hl (by decide) rfl (fun ls hl => ?_)
      refine lv_aload_n hx hb dX8_sample_28 rfl (lv_at hl 2 rfl) ?_
      refine va_get (D := D) (ci := 7) (v := .int (mSampled x25)) (C := RX8) (T := TX8) (N := 24) hx hb hg in_X8 hown hK hP 0 rfl rfl 13 (by decide) (hg _ w838) (fun _ h9 => h9) rfl dX8_sample_29 ?_
      refine lv_iconst (v := 1) hx hb dX8_sample_32 (by decide) ?_
      refine lv_iadd hx hb dX8_sample_33 ?_
      refine lv_topi (fun y27 hy27 => ?_)
      replace hf := keep_e hf y27 hy27
      refine lv_istore (lv' := [(4, .int y27), (3, .int v1), (2, .int 0), (0, .ref (a 0)), (1, .int v1)]) hx hb dX8_sample_34 hl (by decide) rfl (fun ls hl => ?_)
      refine lv_iconst (v := 0) hx hb dX8_sample_36 (by decide) ?_
      refine lv_istore (lv' := [(5, .int 0), (4, .int y27), (3, .int v1), (2, .int 0), (0, .ref (a 0)), (1, .int v1)]) hx hb dX8_sample_37 hl (by decide) rfl (fun ls hl => ?_)
      exact L39 y27 FU x25 0 v1 0 H locs ls hf hP hD hS (lv_sub hl [4, 3, 2, 1, 0] rfl)
    · replace hf := if_t c26 hf
      refine lv_iconst (v := 0) hx hb dX8_sample_22 (by decide) ?_
      obtain rfl := Option.some.inj hf
      exact W.iret (v := 0) hx hb hr (fun t ht hW => ⟨rfl, by rw [ht]; exact hP, va_K.moved hW.alike hK, hD, hS.F ht⟩) hS.2.2 dX8_sample_23 hlocks
  have M0 : ∀ (H : Heap) (locs : List Loc) (ls : Array Slot), fX8_sample x p1 = some res → va_P D vwCl (W_Model cI a x) H → va_D A (W_Model cI a x) → va_S A s.heap H locs → lv_has ls 7 [(0, .ref (a 0)), (1, .int p1)] → W p l e ({ frames := 1, cells := 0, slots := 0, locals := 22 } : Room) s m ([.ref (a 0), .int p1] : List Value).toArray below meth c H locs 0 0 (MQ below (QW D (TY cI cV cJ cD) (W_Model cI a res.1) A (some (.int res.2))) (([.ref (a 0), .int p1] : List Value).toArray) s 0 0 A) (F0 m 0 ls []) := by
    intro H locs ls hf hP hD hS hl
    dsimp only [fX8_sample] at hf
    refine lv_aload_n hx hb dX8_sample_0 rfl (lv_at hl 0 rfl) ?_
    refine lv_iload_n hx hb dX8_sample_1 rfl (lv_at hl 1 rfl) ?_
    refine lv_iconst (v := 1) hx hb dX8_sample_2 (by decide) ?_
    refine lv_bipush (v := 16) hx hb dX8_sample_3 (by decide) ?_
    obtain ⟨u28, hc29, hf⟩ := bind_t hf
    refine k_S (As := [.int p1, .int 1, .int 16]) (rest := [.ref (a 0)]) (n := 3) ⟨hx, hb, hml, hown, hts⟩ (met_X8_isIn l p1 1 16 u28 hc29) w909 w910 w9 w911 ⟨by decide +kernel, by decide +kernel, by decide +kernel⟩ ⟨Nat.le_of_ble_eq_true rfl, Nat.le_of_ble_eq_true rfl⟩ hK hE hP hD hS hA (isC := []) (isR := [0, 1, 2, 3, 4, 5, 6, 7, 8, 9, 10, 11, 12, 13, 14]) (isB := [0, 1, 2, 3, 4, 5, 6, 7, 8, 9, 10, 11, 12, 13, 14]) (ws' := W_Model cI a x) ⟨([0, 1, 2, 3, 4, 5, 6, 7, 8, 9, 10, 11, 12, 13, 14] : List Nat).filterMap (fun i : Nat => (W_Model cI a x : va_W)[i]?), rfl, rfl, rfl, rfl, by decide, rfl, rfl⟩ rfl hl.1 rfl (Nat.le_of_ble_eq_true rfl) dX8_sample_5 ⟨Nat.le_of_ble_eq_true rfl, Nat.le_of_ble_eq_true rfl⟩ (fun H locs hP hD hS => ?_)
    try dsimp only at hf
    refine W.eq (g2 := F0 m 8 ls [.int u28, .ref (a 0)]) rfl ?_
    refine lv_if_eq (tgt := 15) hx hb dX8_sample_8 (by decide) (fun c30 => ?_) (fun c30 => ?_)
    · replace hf := if_t c30 hf
      refine lv_iconst (v := 1) hx hb dX8_sample_15 (by decide) ?_
      exact L16 x p1 1 H locs ls hf hP hD hS (lv_sub hl [0, 1] rfl)
    · replace hf := if_f c30 hf
      refine lv_iconst (v := 0) hx hb dX8_sample_11 (by decide) ?_
      refine lv_goto (tgt := 16) hx hb dX8_sample_12 (by decide) ?_
      exact L16 x p1 0 H locs ls hf hP hD hS (lv_sub hl [0, 1] rfl)
  exact M0 s.heap [] ls hf hP hD hS hl
/-! CompactformsModel.held()I -/
def fX8_held_9 (x : MSt) (rec9 : Int32 × Int32 → Option (MSt × Int32)) (s : Int32 × Int32) : Option (MSt × Int32) := match s with | (v1, v2) => (if 16 ≤ v2 then some (x, v1) else chk (inb v2 16) ((if ((mType x) (v2).toNatClampNeg) = 0 then keep (v1 + 0) (fun y6 => keep (v2 + 1) (fun y7 => rec9 (y6, y7))) else keep (v1 + 1) (fun y4 => keep (v2 + 1) (fun y5 => rec9 (y4, y5))))))
def fX8_held (x : MSt) : Option (MSt × Int32) := keep (mThrown_s x 0) (fun x8 => iterK FU (fX8_held_9 x8) (0, 0))
set_option maxHeartbeats 4000000 in
set_option maxRecDepth 100000 in
theorem met_X8_held {D : va_G} {cI cV cJ cD : ClassId} (l : Launch) (a : Nat → Nat) (x : MSt) (res : MSt × Int32) (hf : fX8_held x = some res) : MM l yX8_held cX8_held 3 (some .int) { frames := 0, cells := 0, slots := 0, locals := 0 } D (TY cI cV cJ cD) (W_Model cI a x) (W_Model cI a res.1) [.ref (a 0)] (some (.int res.2)) := by
  intro sz
  refine Met.ofW (cc := cX8_held) (maxL := 3) (ret := (some .int)) (by decide +kernel) rfl ?_
  intro p e s m args below meth c s₁ B hml hv
  obtain ⟨rfl, hsz, hP, hK, hD0, hE⟩ := hv
  have hx := B.exec
  have hb := B.bytes
  have hr := B.returns
  have hts := atoms_spec (ws := .code yX8_held cX8_held 3 (some .int) :: GW) B.pre
  have hg : ∀ w ∈ GW, w.before (([.ref (a 0)] : List Value).toArray) s = true := fun w h => hts w (List.mem_cons_of_mem _ h)
  have hown : s.vm.findClass RX8 = some m.cls := findClass_of_methodNamed B.named
  have hlocks := B.notSynchronized
  subst hsz
  have hD := hD0.self (sz := s.heap.size)
  generalize hAe : va_A (W_Model cI a x) s.heap.size = A at hD hE ⊢
  have hA : ∀ q : Nat, s.heap.size ≤ q → A q := fun q h => by rw [← hAe]; exact Or.inr h
  have hS : va_S A s.heap s.heap [] := va_S.rf
  have hl := lv_entry ([.ref (a 0)]) (n := 3) (Nat.le_of_ble_eq_true rfl)
  rw [lg_entry_eq]
  generalize (lg_sl ([.ref (a 0)]) ++ List.replicate (3 - (lg_sl ([.ref (a 0)])).length) Slot.unset).toArray = ls at hl ⊢
  have hl : lv_has ls 3 [(0, .ref (a 0))] := hl
  have S9 : ∀ (x : MSt) (rec9 : Int32 × Int32 → Option (MSt × Int32)) (hrec9 : ∀ (v1 : Int32), ∀ (v2 : Int32), ∀ (H : Heap) (locs : List Loc) (ls : Array Slot), rec9 (v1, v2) = some res → va_P D vwCl (W_Model cI a x) H → va_D A (W_Model cI a x) → va_S A s.heap H locs → lv_has ls 3 [(0, .ref (a 0)), (1, .int v1), (2, .int v2)] → W p l e ({ frames := 0, cells := 0, slots := 0, locals := 0 } : Room) s m ([.ref (a 0)] : List Value).toArray below meth c H locs 0 0 (MQ below (QW D (TY cI cV cJ cD) (W_Model cI a res.1) A (some (.int res.2))) (([.ref (a 0)] : List Value).toArray) s 0 0 A) (F0 m 9 ls [])) (v1 : Int32) (v2 : Int32) (H : Heap) (locs : List Loc) (ls : Array Slot), fX8_held_9 x  rec9 (v1, v2) = some res → va_P D vwCl (W_Model cI a x) H → va_D A (W_Model cI a x) → va_S A s.heap H locs → lv_has ls 3 [(0, .ref (a 0)), (1, .int v1), (2, .int v2)] → W p l e ({ frames := 0, cells := 0, slots := 0, locals := 0 } : Room) s m ([.ref (a 0)] : List Value).toArray below meth c H locs 0 0 (MQ below (QW D (TY cI cV cJ cD) (W_Model cI a res.1) A (some (.int res.2))) (([.ref (a 0)] : List Value).toArray) s 0 0 A) (F0 m 9 ls []) := by
    intro x rec9 hrec9 v1 v2 H locs ls hf hP hD hS hl
    dsimp only [fX8_held_9] at hf
    refine lv_iload_n hx hb dX8_held_9 rfl (lv_at hl 2 rfl) ?_
    refine lv_bipush (v := 16) hx hb dX8_held_10 (by decide) ?_
    refine lv_icmp_ge (tgt := 38) hx hb dX8_held_12 (by decide) (fun c1 => ?_) (fun c1 => ?_)
    · replace hf := if_t c1 hf
      refine lv_iload_n hx hb dX8_held_38 rfl (lv_at hl 1 rfl) ?_
      obtain rfl := Option.some.inj hf
      exact W.iret (v := v1) hx hb hr (fun t ht hW => ⟨rfl, by rw [ht]; exact hP, va_K.moved hW.alike hK, hD, hS.F ht⟩) hS.2.2 dX8_held_39 hlocks
    · replace hf := if_f c1 hf
      refine lv_iload_n hx hb dX8_held_15 rfl (lv_at hl 1 rfl) ?_
      refine lv_aload_n hx hb dX8_held_16 rfl (lv_at hl 0 rfl) ?_
      refine va_get (D := D) (ci := 7) (v := .ref (a 1)) (C := RX8) (T := TX8) (N := 24) hx hb hg in_X8 hown hK hP 0 rfl rfl 2 (by decide) (hg _ w827) (fun _ h9 => h9) rfl dX8_held_17 ?_
      refine lv_iload_n hx hb dX8_held_20 rfl (lv_at hl 2 rfl) ?_
      obtain ⟨hi2, hf⟩ := chk_t hf
      refine va_iald hx hb hK hP 1 0 rfl rfl (inb_in hi2) dX8_held_21 ?_
      refine lv_if_ne (tgt := 29) hx hb dX8_held_22 (by decide) (fun c3 => ?_) (fun c3 => ?_)
      · replace hf := if_f c3 hf
        refine lv_iconst (v := 1) hx hb dX8_held_29 (by decide) ?_
        refine lv_iadd hx hb dX8_held_30 ?_
        refine lv_topi (fun y4 hy4 => ?_)
        replace hf := keep_e hf y4 hy4
        refine lv_istore_n (lv' := [(1, .int y4), (0, .ref (a 0)), (2, .int v2)]) hx hb dX8_held_31 rfl hl (by decide) rfl (fun ls hl => ?_)
        obtain ⟨y5, hy5⟩ : ∃ z : Int32, z = (v2 + 1) := ⟨_, rfl⟩
        replace hf := keep_e hf y5 hy5
        refine lv_iinc (v := y5) (lv' := [(2, .int y5), (1, .int y4), (0, .ref (a 0))]) hx hb dX8_held_32 hl (k := 2) rfl (by rw [hy5]; rfl) (by decide) rfl (fun ls hl => ?_)
        refine lv_goto (tgt := 9) hx hb dX8_held_35 (by decide) ?_
        exact hrec9 y4 y5 H locs ls hf hP hD hS (lv_sub hl [2, 1, 0] rfl)
      · replace hf := if_t c3 hf
        refine lv_iconst (v := 0) hx hb dX8_held_25 (by decide) ?_
        refine lv_goto (tgt := 30) hx hb dX8_held_26 (by decide) ?_
        refine lv_iadd hx hb dX8_held_30 ?_
        refine lv_topi (fun y6 hy6 => ?_)
        replace hf := keep_e hf y6 hy6
        refine lv_istore_n (lv' := [(1, .int y6), (0, .ref (a 0)), (2, .int v2)]) hx hb dX8_held_31 rfl hl (by decide) rfl (fun ls hl => ?_)
        obtain ⟨y7, hy7⟩ : ∃ z : Int32, z = (v2 + 1) := ⟨_, rfl⟩
        replace hf := keep_e hf y7 hy7
        refine lv_iinc (v := y7) (lv' := [(2, .int y7), (1, .int y6), (0, .ref (a 0))]) hx hb dX8_held_32 hl (k := 2) rfl (by rw [hy7]; rfl) (by decide) rfl (fun ls hl => ?_)
        refine lv_goto (tgt := 9) hx hb dX8_held_35 (by decide) ?_
        exact hrec9 y6 y7 H locs ls hf hP hD hS (lv_sub hl [2, 1, 0] rfl)
  have L9 : ∀ (x : MSt) (fu : Nat) (v1 : Int32) (v2 : Int32) (H : Heap) (locs : List Loc) (ls : Array Slot), iterK fu (fX8_held_9 x ) (v1, v2) = some res → va_P D vwCl (W_Model cI a x) H → va_D A (W_Model cI a x) → va_S A s.heap H locs → lv_has ls 3 [(0, .ref (a 0)), (1, .int v1), (2, .int v2)] → W p l e ({ frames := 0, cells := 0, slots := 0, locals := 0 } : Room) s m ([.ref (a 0)] : List Value).toArray below meth c H locs 0 0 (MQ below (QW D (TY cI cV cJ cD) (W_Model cI a res.1) A (some (.int res.2))) (([.ref (a 0)] : List Value).toArray) s 0 0 A) (F0 m 9 ls []) := by
    intro x fu
    induction fu with
    | zero =>
      intro v1 v2 H locs ls hf
      cases hf
    | succ fu ih =>
      intro v1 v2 H locs ls hf hP hD hS hl
      exact S9 x (iterK fu (fX8_held_9 x )) ih v1 v2 H locs ls hf hP hD hS hl
  have M0 : ∀ (H : Heap) (locs : List Loc) (ls : Array Slot), fX8_held x = some res → va_P D vwCl (W_Model cI a x) H → va_D A (W_Model cI a x) → va_S A s.heap H locs → lv_has ls 3 [(0, .ref (a 0))] → W p l e ({ frames := 0, cells := 0, slots := 0, locals := 0 } : Room) s m ([.ref (a 0)] : List Value).toArray below meth c H locs 0 0 (MQ below (QW D (TY cI cV cJ cD) (W_Model cI a res.1) A (some (.int res.2))) (([.ref (a 0)] : List Value).toArray) s 0 0 A) (F0 m 0 ls []) := by
    intro H locs ls hf hP hD hS hl
    dsimp only [fX8_held] at hf
    refine lv_aload_n hx hb dX8_held_0 rfl (lv_at hl 0 rfl) ?_
    refine lv_iconst (v := 0) hx hb dX8_held_1 (by decide) ?_
    refine va_put (D := D) (ci := 7) (v := .int 0) (ty := .int) (C := RX8) (T := TX8) (N := 24) hx hb hg in_X8 tyX8 tyX8_ok nmX8 hown hK hP hD hS 0 rfl rfl 23 (by decide) (hg _ w848) (fun _ h9 => h9) rfl (by decide +kernel) rfl rfl (Nat.le_of_ble_eq_true rfl) dX8_held_2 (fun H locs hP hD hS => ?_)
    obtain ⟨x8, hx8⟩ : ∃ z, z = (mThrown_s x 0) := ⟨_, rfl⟩
    replace hf := keep_e hf x8 hx8
    have hP : va_P D vwCl (W_Model cI a x8) H := by rw [hx8]; exact hP
    have hD : va_D A (W_Model cI a x8) := by rw [hx8]; exact hD
    refine lv_iconst (v := 0) hx hb dX8_held_5 (by decide) ?_
    refine lv_istore_n (lv' := [(1, .int 0), (0, .ref (a 0))]) hx hb dX8_held_6 rfl hl (by decide) rfl (fun ls hl => ?_)
    refine lv_iconst (v := 0) hx hb dX8_held_7 (by decide) ?_
    refine lv_istore_n (lv' := [(2, .int 0), (1, .int 0), (0, .ref (a 0))]) hx hb dX8_held_8 rfl hl (by decide) rfl (fun ls hl => ?_)
    exact L9 x8 FU 0 0 H locs ls hf hP hD hS (lv_sub hl [2, 1, 0] rfl)
  exact M0 s.heap [] ls hf hP hD hS hl
/-! CompactformsModel.notes(IIII)V -/
def fX8_notes (x : MSt) (p1 : Int32) (p2 : Int32) (p3 : Int32) (p4 : Int32) : Option (MSt) := keep (6 * (mNewRows x)) (fun y1 => chk (inb y1 3600) (keep (mFresh_s x (upd (mFresh x) (y1).toNatClampNeg p1)) (fun x3 => chk (inb (y1 + 1) 3600) (keep (mFresh_s x3 (upd (mFresh x3) ((y1 + 1)).toNatClampNeg p2)) (fun x5 => chk (inb (y1 + 2) 3600) (keep (mFresh_s x5 (upd (mFresh x5) ((y1 + 2)).toNatClampNeg p3)) (fun x7 => chk (inb (y1 + 3) 3600) (keep (mFresh_s x7 (upd (mFresh x7) ((y1 + 3)).toNatClampNeg p4)) (fun x9 => chk (inb (y1 + 4) 3600) (keep (mFresh_s x9 (upd (mFresh x9) ((y1 + 4)).toNatClampNeg 0)) (fun x11 => chk (inb (y1 + 5) 3600) (keep (mFresh_s x11 (upd (mFresh x11) ((y1 + 5)).toNatClampNeg (mClock x11))) (fun x13 => keep (mNewRows_s x13 ((mNewRows x13) + 1)) (fun x14 => some x14))))))))))))))
set_option maxHeartbeats 4000000 in
set_option maxRecDepth 100000 in
theorem met_X8_notes {D : va_G} {cI cV cJ cD : ClassId} (l : Launch) (a : Nat → Nat) (x : MSt) (p1 : Int32) (p2 : Int32) (p3 : Int32) (p4 : Int32) (res : MSt) (hf : fX8_notes x p1 p2 p3 p4 = some res) : MM l yX8_notes cX8_notes 6 none { frames := 0, cells := 0, slots := 0, locals := 0 } D (TY cI cV cJ cD) (W_Model cI a x) (W_Model cI a res) [.ref (a 0), .int p1, .int p2, .int p3, .int p4] none := by
  intro sz
  refine Met.ofW (cc := cX8_notes) (maxL := 6) (ret := none) (by decide +kernel) rfl ?_
  intro p e s m args below meth c s₁ B hml hv
  obtain ⟨rfl, hsz, hP, hK, hD0, hE⟩ := hv
  have hx := B.exec
  have hb := B.bytes
  have hr := B.returns
  have hts := atoms_spec (ws := .code yX8_notes cX8_notes 6 none :: GW) B.pre
  have hg : ∀ w ∈ GW, w.before (([.ref (a 0), .int p1, .int p2, .int p3, .int p4] : List Value).toArray) s = true := fun w h => hts w (List.mem_cons_of_mem _ h)
  have hown : s.vm.findClass RX8 = some m.cls := findClass_of_methodNamed B.named
  have hlocks := B.notSynchronized
  subst hsz
  have hD := hD0.self (sz := s.heap.size)
  generalize hAe : va_A (W_Model cI a x) s.heap.size = A at hD hE ⊢
  have hA : ∀ q : Nat, s.heap.size ≤ q → A q := fun q h => by rw [← hAe]; exact Or.inr h
  have hS : va_S A s.heap s.heap [] := va_S.rf
  have hl := lv_entry ([.ref (a 0), .int p1, .int p2, .int p3, .int p4]) (n := 6) (Nat.le_of_ble_eq_true rfl)
  rw [lg_entry_eq]
  generalize (lg_sl ([.ref (a 0), .int p1, .int p2, .int p3, .int p4]) ++ List.replicate (6 - (lg_sl ([.ref (a 0), .int p1, .int p2, .int p3, .int p4])).length) Slot.unset).toArray = ls at hl ⊢
  have hl : lv_has ls 6 [(0, .ref (a 0)), (1, .int p1), (2, .int p2), (3, .int p3), (4, .int p4)] := hl
  have M0 : ∀ (H : Heap) (locs : List Loc) (ls : Array Slot), fX8_notes x p1 p2 p3 p4 = some res → va_P D vwCl (W_Model cI a x) H → va_D A (W_Model cI a x) → va_S A s.heap H locs → lv_has ls 6 [(0, .ref (a 0)), (1, .int p1), (2, .int p2), (3, .int p3), (4, .int p4)] → W p l e ({ frames := 0, cells := 0, slots := 0, locals := 0 } : Room) s m ([.ref (a 0), .int p1, .int p2, .int p3, .int p4] : List Value).toArray below meth c H locs 0 0 (MQ below (QW D (TY cI cV cJ cD) (W_Model cI a res) A none) (([.ref (a 0), .int p1, .int p2, .int p3, .int p4] : List Value).toArray) s 0 0 A) (F0 m 0 ls []) := by
    intro H locs ls hf hP hD hS hl
    dsimp only [fX8_notes] at hf
    refine lv_bipush (v := 6) hx hb dX8_notes_0 (by decide) ?_
    refine lv_aload_n hx hb dX8_notes_2 rfl (lv_at hl 0 rfl) ?_
    refine va_get (D := D) (ci := 7) (v := .int (mNewRows x)) (C := RX8) (T := TX8) (N := 24) hx hb hg in_X8 hown hK hP 0 rfl rfl 20 (by decide) (hg _ w845) (fun _ h9 => h9) rfl dX8_notes_3 ?_
    refine lv_imul hx hb dX8_notes_6 ?_
    refine lv_topi (fun y1 hy1 => ?_)
    replace hf := keep_e hf y1 hy1
    refine lv_istore (lv' := [(5, .int y1), (0, .ref (a 0)), (1, .int p1), (2, .int p2), (3, .int p3), (4, .int p4)]) hx hb dX8_notes_7 hl (by decide) rfl (fun ls hl => ?_)
    refine lv_aload_n hx hb dX8_notes_9 rfl (lv_at hl 1 rfl) ?_
    refine va_get (D := D) (ci := 7) (v := .ref (a 13)) (C := RX8) (T := TX8) (N := 24) hx hb hg in_X8 hown hK hP 0 rfl rfl 21 (by decide) (hg _ w846) (fun _ h9 => h9) rfl dX8_notes_10 ?_
    refine lv_iload hx hb dX8_notes_13 (lv_at hl 0 rfl) ?_
    refine lv_iload_n hx hb dX8_notes_15 rfl (lv_at hl 2 rfl) ?_
    obtain ⟨hi2, hf⟩ := chk_t hf
    refine va_iast hx hb hK hP hD hS 13 0 rfl rfl (inb_in hi2) dX8_notes_16 (fun H locs hP hD hS => ?_)
    obtain ⟨x3, hx3⟩ : ∃ z, z = (mFresh_s x (upd (mFresh x) (y1).toNatClampNeg p1)) := ⟨_, rfl⟩
    replace hf := keep_e hf x3 hx3
    have hP : va_P D vwCl (W_Model cI a x3) H := by rw [hx3]; exact hP
    have hD : va_D A (W_Model cI a x3) := by rw [hx3]; exact hD
    refine lv_aload_n hx hb dX8_notes_17 rfl (lv_at hl 1 rfl) ?_
    refine va_get (D := D) (ci := 7) (v := .ref (a 13)) (C := RX8) (T := TX8) (N := 24) hx hb hg in_X8 hown hK hP 0 rfl rfl 21 (by decide) (hg _ w846) (fun _ h9 => h9) rfl dX8_notes_18 ?_
    refine lv_iload hx hb dX8_notes_21 (lv_at hl 0 rfl) ?_
    refine lv_iconst (v := 1) hx hb dX8_notes_23 (by decide) ?_
    refine lv_iadd hx hb dX8_notes_24 ?_
    refine lv_iload_n hx hb dX8_notes_25 rfl (lv_at hl 3 rfl) ?_
    obtain ⟨hi4, hf⟩ := chk_t hf
    refine va_iast hx hb hK hP hD hS 13 0 rfl rfl (inb_in hi4) dX8_notes_26 (fun H locs hP hD hS => ?_)
    obtain ⟨x5, hx5⟩ : ∃ z, z = (mFresh_s x3 (upd (mFresh x3) ((y1 + 1)).toNatClampNeg p2)) := ⟨_, rfl⟩
    replace hf := keep_e hf x5 hx5
    have hP : va_P D vwCl (W_Model cI a x5) H := by rw [hx5]; exact hP
    have hD : va_D A (W_Model cI a x5) := by rw [hx5]; exact hD
    refine lv_aload_n hx hb dX8_notes_27 rfl (lv_at hl 1 rfl) ?_
    refine va_get (D := D) (ci := 7) (v := .ref (a 13)) (C := RX8) (T := TX8) (N := 24) hx hb hg in_X8 hown hK hP 0 rfl rfl 21 (by decide) (hg _ w846) (fun _ h9 => h9) rfl dX8_notes_28 ?_
    refine lv_iload hx hb dX8_notes_31 (lv_at hl 0 rfl) ?_
    refine lv_iconst (v := 2) hx hb dX8_notes_33 (by decide) ?_
    refine lv_iadd hx hb dX8_notes_34 ?_
    refine lv_iload_n hx hb dX8_notes_35 rfl (lv_at hl 4 rfl) ?_
    obtain ⟨hi6, hf⟩ := chk_t hf
    refine va_iast hx hb hK hP hD hS 13 0 rfl rfl (inb_in hi6) dX8_notes_36 (fun H locs hP hD hS => ?_)
    obtain ⟨x7, hx7⟩ : ∃ z, z = (mFresh_s x5 (upd (mFresh x5) ((y1 + 2)).toNatClampNeg p3)) := ⟨_, rfl⟩
    replace hf := keep_e hf x7 hx7
    have hP : va_P D vwCl (W_Model cI a x7) H := by rw [hx7]; exact hP
    have hD : va_D A (W_Model cI a x7) := by rw [hx7]; exact hD
    refine lv_aload_n hx hb dX8_notes_37 rfl (lv_at hl 1 rfl) ?_
    refine va_get (D := D) (ci := 7) (v := .ref (a 13)) (C := RX8) (T := TX8) (N := 24) hx hb hg in_X8 hown hK hP 0 rfl rfl 21 (by decide) (hg _ w846) (fun _ h9 => h9) rfl dX8_notes_38 ?_
    refine lv_iload hx hb dX8_notes_41 (lv_at hl 0 rfl) ?_
    refine lv_iconst (v := 3) hx hb dX8_notes_43 (by decide) ?_
    refine lv_iadd hx hb dX8_notes_44 ?_
    refine lv_iload hx hb dX8_notes_45 (lv_at hl 5 rfl) ?_
    obtain ⟨hi8, hf⟩ := chk_t hf
    refine va_iast hx hb hK hP hD hS 13 0 rfl rfl (inb_in hi8) dX8_notes_47 (fun H locs hP hD hS => ?_)
    obtain ⟨x9, hx9⟩ : ∃ z, z = (mFresh_s x7 (upd (mFresh x7) ((y1 + 3)).toNatClampNeg p4)) := ⟨_, rfl⟩
    replace hf := keep_e hf x9 hx9
    have hP : va_P D vwCl (W_Model cI a x9) H := by rw [hx9]; exact hP
    have hD : va_D A (W_Model cI a x9) := by rw [hx9]; exact hD
    refine lv_aload_n hx hb dX8_notes_48 rfl (lv_at hl 1 rfl) ?_
    refine va_get (D := D) (ci := 7) (v := .ref (a 13)) (C := RX8) (T := TX8) (N := 24) hx hb hg in_X8 hown hK hP 0 rfl rfl 21 (by decide) (hg _ w846) (fun _ h9 => h9) rfl dX8_notes_49 ?_
    refine lv_iload hx hb dX8_notes_52 (lv_at hl 0 rfl) ?_
    refine lv_iconst (v := 4) hx hb dX8_notes_54 (by decide) ?_
    refine lv_iadd hx hb dX8_notes_55 ?_
    refine lv_iconst (v := 0) hx hb dX8_notes_56 (by decide) ?_
    obtain ⟨hi10, hf⟩ := chk_t hf
    refine va_iast hx hb hK hP hD hS 13 0 rfl rfl (inb_in hi10) dX8_notes_57 (fun H locs hP hD hS => ?_)
    obtain ⟨x11, hx11⟩ : ∃ z, z = (mFresh_s x9 (upd (mFresh x9) ((y1 + 4)).toNatClampNeg 0)) := ⟨_, rfl⟩
    replace hf := keep_e hf x11 hx11
    have hP : va_P D vwCl (W_Model cI a x11) H := by rw [hx11]; exact hP
    have hD : va_D A (W_Model cI a x11) := by rw [hx11]; exact hD
    refine lv_aload_n hx hb dX8_notes_58 rfl (lv_at hl 1 rfl) ?_
    refine va_get (D := D) (ci := 7) (v := .ref (a 13)) (C := RX8) (T := TX8) (N := 24) hx hb hg in_X8 hown hK hP 0 rfl rfl 21 (by decide) (hg _ w846) (fun _ h9 => h9) rfl dX8_notes_59 ?_
    refine lv_iload hx hb dX8_notes_62 (lv_at hl 0 rfl) ?_
    refine lv_iconst (v := 5) hx hb dX8_notes_64 (by decide) ?_
    refine lv_iadd hx hb dX8_notes_65 ?_
    refine lv_aload_n hx hb dX8_notes_66 rfl (lv_at hl 1 rfl) ?_
    refine va_get (D := D) (ci := 7) (v := .int (mClock x11)) (C := RX8) (T := TX8) (N := 24) hx hb hg in_X8 hown hK hP 0 rfl rfl 0 (by decide) (hg _ w825) (fun _ h9 => h9) rfl dX8_notes_67 ?_
    obtain ⟨hi12, hf⟩ := chk_t hf
    refine va_iast hx hb hK hP hD hS 13 0 rfl rfl (inb_in hi12) dX8_notes_70 (fun H locs hP hD hS => ?_)
    obtain ⟨x13, hx13⟩ : ∃ z, z = (mFresh_s x11 (upd (mFresh x11) ((y1 + 5)).toNatClampNeg (mClock x11))) := ⟨_, rfl⟩
    replace hf := keep_e hf x13 hx13
    have hP : va_P D vwCl (W_Model cI a x13) H := by rw [hx13]; exact hP
    have hD : va_D A (W_Model cI a x13) := by rw [hx13]; exact hD
    refine lv_aload_n hx hb dX8_notes_71 rfl (lv_at hl 1 rfl) ?_
    refine lv_dup hx hb dX8_notes_72 rfl ?_
    refine va_get (D := D) (ci := 7) (v := .int (mNewRows x13)) (C := RX8) (T := TX8) (N := 24) hx hb hg in_X8 hown hK hP 0 rfl rfl 20 (by decide) (hg _ w845) (fun _ h9 => h9) rfl dX8_notes_73 ?_
    refine lv_iconst (v := 1) hx hb dX8_notes_76 (by decide) ?_
    refine lv_iadd hx hb dX8_notes_77 ?_
    refine va_put (D := D) (ci := 7) (v := .int ((mNewRows x13) + 1)) (ty := .int) (C := RX8) (T := TX8) (N := 24) hx hb hg in_X8 tyX8 tyX8_ok nmX8 hown hK hP hD hS 0 rfl rfl 20 (by decide) (hg _ w845) (fun _ h9 => h9) rfl (by decide +kernel) rfl rfl (Nat.le_of_ble_eq_true rfl) dX8_notes_78 (fun H locs hP hD hS => ?_)
    obtain ⟨x14, hx14⟩ : ∃ z, z = (mNewRows_s x13 ((mNewRows x13) + 1)) := ⟨_, rfl⟩
    replace hf := keep_e hf x14 hx14
    have hP : va_P D vwCl (W_Model cI a x14) H := by rw [hx14]; exact hP
    have hD : va_D A (W_Model cI a x14) := by rw [hx14]; exact hD
    obtain rfl := Option.some.inj hf
    exact W.vret hx hb hr (fun t ht hW => ⟨rfl, by rw [ht]; exact hP, va_K.moved hW.alike hK, hD, hS.F ht⟩) hS.2.2 dX8_notes_81 hlocks
  exact M0 s.heap [] ls hf hP hD hS hl

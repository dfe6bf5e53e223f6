/-! CompactformsModel.thrown()I -/
def fX8_thrown (x : MSt) : Option (Int32) := some (mThrown x)
set_option maxHeartbeats 4000000 in
set_option maxRecDepth 100000 in
theorem met_X8_thrown {D : va_G} {cI cV cJ cD : ClassId} (l : Launch) (a : Nat → Nat) (x : MSt) (res : Int32) (hf : fX8_thrown x = some res) : MM l yX8_thrown cX8_thrown 1 (some .int) { frames := 0, cells := 0, slots := 0, locals := 0 } D (TY cI cV cJ cD) (W_Model cI a x) (W_Model cI a x) [.ref (a 0)] (some (.int res)) := by
  intro sz
  refine Met.ofW (cc := cX8_thrown) (maxL := 1) (ret := (some .int)) (by decide +kernel) rfl ?_
  intro p e s m args below meth c s₁ B hml hv
  obtain ⟨rfl, hsz, hP, hK, hD0, hE⟩ := hv
  have hx := B.exec
  have hb := B.bytes
  have hr := B.returns
  have hts := atoms_spec (ws := .code yX8_thrown cX8_thrown 1 (some .int) :: GW) B.pre
  have hg : ∀ w ∈ GW, w.before (([.ref (a 0)] : List Value).toArray) s = true := fun w h => hts w (List.mem_cons_of_mem _ h)
  have hown : s.vm.findClass RX8 = some m.cls := findClass_of_methodNamed B.named
  have hlocks := B.notSynchronized
  subst hsz
  have hD := hD0.self (sz := s.heap.size)
  generalize hAe : va_A (W_Model cI a x) s.heap.size = A at hD hE ⊢
  have hA : ∀ q : Nat, s.heap.size ≤ q → A q := fun q h => by rw [← hAe]; exact Or.inr h
  have hS : va_S A s.heap s.heap [] := va_S.rf
  have hl := lv_entry ([.ref (a 0)]) (n := 1) (Nat.le_of_ble_eq_true rfl)
  rw [lg_entry_eq]
  generalize (lg_sl ([.ref (a 0)]) ++ List.replicate (1 - (lg_sl ([.ref (a 0)])).length) Slot.unset).toArray = ls at hl ⊢
  have hl : lv_has ls 1 [(0, .ref (a 0))] := hl
  have M0 : ∀ (H : Heap) (locs : List Loc) (ls : Array Slot), fX8_thrown x = some res → va_P D vwCl (W_Model cI a x) H → va_D A (W_Model cI a x) → va_S A s.heap H locs → lv_has ls 1 [(0, .ref (a 0))] → W p l e ({ frames := 0, cells := 0, slots := 0, locals := 0 } : Room) s m ([.ref (a 0)] : List Value).toArray below meth c H locs 0 0 (MQ below (QW D (TY cI cV cJ cD) (W_Model cI a x) A (some (.int res))) (([.ref (a 0)] : List Value).toArray) s 0 0 A) (F0 m 0 ls []) := by
    intro H locs ls hf hP hD hS hl
    dsimp only [fX8_thrown] at hf
    refine lv_aload_n hx hb dX8_thrown_0 rfl (lv_at hl 0 rfl) ?_
    refine va_get (D := D) (ci := 7) (v := .int (mThrown x)) (C := RX8) (T := TX8) (N := 24) hx hb hg in_X8 hown hK hP 0 rfl rfl 23 (by decide) (hg _ w848) (fun _ h9 => h9) rfl dX8_thrown_1 ?_
    obtain rfl := Option.some.inj hf
    exact W.iret (v := (mThrown x)) hx hb hr (fun t ht hW => ⟨rfl, by rw [ht]; exact hP, va_K.moved hW.alike hK, hD, hS.F ht⟩) hS.2.2 dX8_thrown_4 hlocks
  exact M0 s.heap [] ls hf hP hD hS hl
/-! CompactformsModel.can(I)Z -/
def fX8_can (x : MSt) (p1 : Int32) : Option (MSt × Int32) := keep (mThrown_s x p1) (fun x1 => (if p1 = 0 then some (x1, 1) else some (x1, 0)))
set_option maxHeartbeats 4000000 in
set_option maxRecDepth 100000 in
theorem met_X8_can {D : va_G} {cI cV cJ cD : ClassId} (l : Launch) (a : Nat → Nat) (x : MSt) (p1 : Int32) (res : MSt × Int32) (hf : fX8_can x p1 = some res) : MM l yX8_can cX8_can 2 (some .boolean) { frames := 0, cells := 0, slots := 0, locals := 0 } D (TY cI cV cJ cD) (W_Model cI a x) (W_Model cI a res.1) [.ref (a 0), .int p1] (some (.int res.2)) := by
  intro sz
  refine Met.ofW (cc := cX8_can) (maxL := 2) (ret := (some .boolean)) (by decide +kernel) rfl ?_
  intro p e s m args below meth c s₁ B hml hv
  obtain ⟨rfl, hsz, hP, hK, hD0, hE⟩ := hv
  have hx := B.exec
  have hb := B.bytes
  have hr := B.returns
  have hts := atoms_spec (ws := .code yX8_can cX8_can 2 (some .boolean) :: GW) B.pre
  have hg : ∀ w ∈ GW, w.before (([.ref (a 0), .int p1] : List Value).toArray) s = true := fun w h => hts w (List.mem_cons_of_mem _ h)
  have hown : s.vm.findClass RX8 = some m.cls := findClass_of_methodNamed B.named
  have hlocks := B.notSynchronized
  subst hsz
  have hD := hD0.self (sz := s.heap.size)
  generalize hAe : va_A (W_Model cI a x) s.heap.size = A at hD hE ⊢
  have hA : ∀ q : Nat, s.heap.size ≤ q → A q := fun q h => by rw [← hAe]; exact Or.inr h
  have hS : va_S A s.heap s.heap [] := va_S.rf
  have hl := lv_entry ([.ref (a 0), .int p1]) (n := 2) (Nat.le_of_ble_eq_true rfl)
  rw [lg_entry_eq]
  generalize (lg_sl ([.ref (a 0), .int p1]) ++ List.replicate (2 - (lg_sl ([.ref (a 0), .int p1])).length) Slot.unset).toArray = ls at hl ⊢
  have hl : lv_has ls 2 [(0, .ref (a 0)), (1, .int p1)] := hl
  have M0 : ∀ (H : Heap) (locs : List Loc) (ls : Array Slot), fX8_can x p1 = some res → va_P D vwCl (W_Model cI a x) H → va_D A (W_Model cI a x) → va_S A s.heap H locs → lv_has ls 2 [(0, .ref (a 0)), (1, .int p1)] → W p l e ({ frames := 0, cells := 0, slots := 0, locals := 0 } : Room) s m ([.ref (a 0), .int p1] : List Value).toArray below meth c H locs 0 0 (MQ below (QW D (TY cI cV cJ cD) (W_Model cI a res.1) A (some (.int res.2))) (([.ref (a 0), .int p1] : List Value).toArray) s 0 0 A) (F0 m 0 ls []) := by
    intro H locs ls hf hP hD hS hl
    dsimp only [fX8_can] at hf
    refine lv_aload_n hx hb dX8_can_0 rfl (lv_at hl 0 rfl) ?_
    refine lv_iload_n hx hb dX8_can_1 rfl (lv_at hl 1 rfl) ?_
    refine va_put (D := D) (ci := 7) (v := .int p1) (ty := .int) (C := RX8) (T := TX8) (N := 24) hx hb hg in_X8 tyX8 tyX8_ok nmX8 hown hK hP hD hS 0 rfl rfl 23 (by decide) (hg _ w848) (fun _ h9 => h9) rfl (by decide +kernel) rfl rfl (Nat.le_of_ble_eq_true rfl) dX8_can_2 (fun H locs hP hD hS => ?_)
    obtain ⟨x1, hx1⟩ : ∃ z, z = (mThrown_s x p1) := ⟨_, rfl⟩
    replace hf := keep_e hf x1 hx1
    have hP : va_P D vwCl (W_Model cI a x1) H := by rw [hx1]; exact hP
    have hD : va_D A (W_Model cI a x1) := by rw [hx1]; exact hD
    refine lv_iload_n hx hb dX8_can_5 rfl (lv_at hl 1 rfl) ?_
    refine lv_if_ne (tgt := 13) hx hb dX8_can_6 (by decide) (fun c2 => ?_) (fun c2 => ?_)
    · replace hf := if_f c2 hf
      refine lv_iconst (v := 0) hx hb dX8_can_13 (by decide) ?_
      obtain rfl := Option.some.inj hf
      exact W.zret (v := 0) hx hb hr (by decide +kernel) (fun t ht hW => ⟨rfl, by rw [ht]; exact hP, va_K.moved hW.alike hK, hD, hS.F ht⟩) hS.2.2 dX8_can_14 hlocks
    · replace hf := if_t c2 hf
      refine lv_iconst (v := 1) hx hb dX8_can_9 (by decide) ?_
      refine lv_goto (tgt := 14) hx hb dX8_can_10 (by decide) ?_
      obtain rfl := Option.some.inj hf
      exact W.zret (v := 1) hx hb hr (by decide +kernel) (fun t ht hW => ⟨rfl, by rw [ht]; exact hP, va_K.moved hW.alike hK, hD, hS.F ht⟩) hS.2.2 dX8_can_14 hlocks
  exact M0 s.heap [] ls hf hP hD hS hl
/-! CompactformsModel.isIn(III)Z -/
def fX8_isIn (p0 : Int32) (p1 : Int32) (p2 : Int32) : Option (Int32) := (if p0 < p1 then some 0 else (if p2 < p0 then some 0 else some 1))
set_option maxHeartbeats 4000000 in
set_option maxRecDepth 100000 in
theorem met_X8_isIn {D : va_G} {cI cV cJ cD : ClassId} (l : Launch) (p0 : Int32) (p1 : Int32) (p2 : Int32) (res : Int32) (hf : fX8_isIn p0 p1 p2 = some res) : MM l yX8_isIn cX8_isIn 3 (some .boolean) { frames := 0, cells := 0, slots := 0, locals := 0 } D (TY cI cV cJ cD) ([]) ([]) [.int p0, .int p1, .int p2] (some (.int res)) := by
  intro sz
  refine Met.ofW (cc := cX8_isIn) (maxL := 3) (ret := (some .boolean)) (by decide +kernel) rfl ?_
  intro p e s m args below meth c s₁ B hml hv
  obtain ⟨rfl, hsz, hP, hK, hD0, hE⟩ := hv
  have hx := B.exec
  have hb := B.bytes
  have hr := B.returns
  have hts := atoms_spec (ws := .code yX8_isIn cX8_isIn 3 (some .boolean) :: GW) B.pre
  have hg : ∀ w ∈ GW, w.before (([.int p0, .int p1, .int p2] : List Value).toArray) s = true := fun w h => hts w (List.mem_cons_of_mem _ h)
  have hown : s.vm.findClass RX8 = some m.cls := findClass_of_methodNamed B.named
  have hlocks := B.notSynchronized
  subst hsz
  have hD := hD0.self (sz := s.heap.size)
  generalize hAe : va_A ([]) s.heap.size = A at hD hE ⊢
  have hA : ∀ q : Nat, s.heap.size ≤ q → A q := fun q h => by rw [← hAe]; exact Or.inr h
  have hS : va_S A s.heap s.heap [] := va_S.rf
  have hl := lv_entry ([.int p0, .int p1, .int p2]) (n := 3) (Nat.le_of_ble_eq_true rfl)
  rw [lg_entry_eq]
  generalize (lg_sl ([.int p0, .int p1, .int p2]) ++ List.replicate (3 - (lg_sl ([.int p0, .int p1, .int p2])).length) Slot.unset).toArray = ls at hl ⊢
  have hl : lv_has ls 3 [(0, .int p0), (1, .int p1), (2, .int p2)] := hl
  have M0 : ∀ (H : Heap) (locs : List Loc) (ls : Array Slot), fX8_isIn p0 p1 p2 = some res → va_P D vwCl ([]) H → va_D A ([]) → va_S A s.heap H locs → lv_has ls 3 [(0, .int p0), (1, .int p1), (2, .int p2)] → W p l e ({ frames := 0, cells := 0, slots := 0, locals := 0 } : Room) s m ([.int p0, .int p1, .int p2] : List Value).toArray below meth c H locs 0 0 (MQ below (QW D (TY cI cV cJ cD) ([]) A (some (.int res))) (([.int p0, .int p1, .int p2] : List Value).toArray) s 0 0 A) (F0 m 0 ls []) := by
    intro H locs ls hf hP hD hS hl
    dsimp only [fX8_isIn] at hf
    refine lv_iload_n hx hb dX8_isIn_0 rfl (lv_at hl 0 rfl) ?_
    refine lv_iload_n hx hb dX8_isIn_1 rfl (lv_at hl 1 rfl) ?_
    refine lv_icmp_lt (tgt := 14) hx hb dX8_isIn_2 (by decide) (fun c1 => ?_) (fun c1 => ?_)
    · replace hf := if_t c1 hf
      refine lv_iconst (v := 0) hx hb dX8_isIn_14 (by decide) ?_
      obtain rfl := Option.some.inj hf
      exact W.zret (v := 0) hx hb hr (by decide +kernel) (fun t ht hW => ⟨rfl, by rw [ht]; exact hP, va_K.moved hW.alike hK, hD, hS.F ht⟩) hS.2.2 dX8_isIn_15 hlocks
    · replace hf := if_f c1 hf
      refine lv_iload_n hx hb dX8_isIn_5 rfl (lv_at hl 0 rfl) ?_
      refine lv_iload_n hx hb dX8_isIn_6 rfl (lv_at hl 2 rfl) ?_
      refine lv_icmp_gt (tgt := 14) hx hb dX8_isIn_7 (by decide) (fun c2 => ?_) (fun c2 => ?_)
      · replace hf := if_t c2 hf
        refine lv_iconst (v := 0) hx hb dX8_isIn_14 (by decide) ?_
        obtain rfl := Option.some.inj hf
        exact W.zret (v := 0) hx hb hr (by decide +kernel) (fun t ht hW => ⟨rfl, by rw [ht]; exact hP, va_K.moved hW.alike hK, hD, hS.F ht⟩) hS.2.2 dX8_isIn_15 hlocks
      · replace hf := if_f c2 hf
        refine lv_iconst (v := 1) hx hb dX8_isIn_10 (by decide) ?_
        refine lv_goto (tgt := 15) hx hb dX8_isIn_11 (by decide) ?_
        obtain rfl := Option.some.inj hf
        exact W.zret (v := 1) hx hb hr (by decide +kernel) (fun t ht hW => ⟨rfl, by rw [ht]; exact hP, va_K.moved hW.alike hK, hD, hS.F ht⟩) hS.2.2 dX8_isIn_15 hlocks
  exact M0 s.heap [] ls hf hP hD hS hl
/-! CompactformsModel.isKey(I)Z -/
def fX8_isKey (p0 : Int32) : Option (Int32) := (fX8_isIn p0 0 15).bind (fun u1 => chk (isB u1) (some u1))
set_option maxHeartbeats 4000000 in
set_option maxRecDepth 100000 in
theorem met_X8_isKey {D : va_G} {cI cV cJ cD : ClassId} (l : Launch) (p0 : Int32) (res : Int32) (hf : fX8_isKey p0 = some res) : MM l yX8_isKey cX8_isKey 1 (some .boolean) { frames := 1, cells := 0, slots := 0, locals := 22 } D (TY cI cV cJ cD) ([]) ([]) [.int p0] (some (.int res)) := by
  intro sz
  refine Met.ofW (cc := cX8_isKey) (maxL := 1) (ret := (some .boolean)) (by decide +kernel) rfl ?_
  intro p e s m args below meth c s₁ B hml hv
  obtain ⟨rfl, hsz, hP, hK, hD0, hE⟩ := hv
  have hx := B.exec
  have hb := B.bytes
  have hr := B.returns
  have hts := atoms_spec (ws := .code yX8_isKey cX8_isKey 1 (some .boolean) :: GW) B.pre
  have hg : ∀ w ∈ GW, w.before (([.int p0] : List Value).toArray) s = true := fun w h => hts w (List.mem_cons_of_mem _ h)
  have hown : s.vm.findClass RX8 = some m.cls := findClass_of_methodNamed B.named
  have hlocks := B.notSynchronized
  subst hsz
  have hD := hD0.self (sz := s.heap.size)
  generalize hAe : va_A ([]) s.heap.size = A at hD hE ⊢
  have hA : ∀ q : Nat, s.heap.size ≤ q → A q := fun q h => by rw [← hAe]; exact Or.inr h
  have hS : va_S A s.heap s.heap [] := va_S.rf
  have hl := lv_entry ([.int p0]) (n := 1) (Nat.le_of_ble_eq_true rfl)
  rw [lg_entry_eq]
  generalize (lg_sl ([.int p0]) ++ List.replicate (1 - (lg_sl ([.int p0])).length) Slot.unset).toArray = ls at hl ⊢
  have hl : lv_has ls 1 [(0, .int p0)] := hl
  have M0 : ∀ (H : Heap) (locs : List Loc) (ls : Array Slot), fX8_isKey p0 = some res → va_P D vwCl ([]) H → va_D A ([]) → va_S A s.heap H locs → lv_has ls 1 [(0, .int p0)] → W p l e ({ frames := 1, cells := 0, slots := 0, locals := 22 } : Room) s m ([.int p0] : List Value).toArray below meth c H locs 0 0 (MQ below (QW D (TY cI cV cJ cD) ([]) A (some (.int res))) (([.int p0] : List Value).toArray) s 0 0 A) (F0 m 0 ls []) := by
    intro H locs ls hf hP hD hS hl
    dsimp only [fX8_isKey] at hf
    refine lv_iload_n hx hb dX8_isKey_0 rfl (lv_at hl 0 rfl) ?_
    refine lv_iconst (v := 0) hx hb dX8_isKey_1 (by decide) ?_
    refine lv_bipush (v := 15) hx hb dX8_isKey_2 (by decide) ?_
    obtain ⟨u1, hc2, hf⟩ := bind_t hf
    refine k_S (As := [.int p0, .int 0, .int 15]) (rest := []) (n := 3) ⟨hx, hb, hml, hown, hts⟩ (met_X8_isIn l p0 0 15 u1 hc2) w909 w910 w9 w911 ⟨by decide +kernel, by decide +kernel, by decide +kernel⟩ ⟨Nat.le_of_ble_eq_true rfl, Nat.le_of_ble_eq_true rfl⟩ hK hE hP hD hS hA (isC := []) (isR := []) (isB := []) (ws' := []) ⟨([] : List Nat).filterMap (fun i : Nat => ([] : va_W)[i]?), rfl, rfl, rfl, rfl, by decide, rfl, rfl⟩ rfl hl.1 rfl (Nat.le_of_ble_eq_true rfl) dX8_isKey_4 ⟨Nat.le_of_ble_eq_true rfl, Nat.le_of_ble_eq_true rfl⟩ (fun H locs hP hD hS => ?_)
    try dsimp only at hf
    refine W.eq (g2 := F0 m 7 ls [.int u1]) rfl ?_
    obtain ⟨hz3, hf⟩ := chk_t hf
    obtain rfl := Option.some.inj hf
    exact W.zret (v := u1) hx hb hr (isB_narrow hz3) (fun t ht hW => ⟨rfl, by rw [ht]; exact hP, va_K.moved hW.alike hK, hD, hS.F ht⟩) hS.2.2 dX8_isKey_7 hlocks
  exact M0 s.heap [] ls hf hP hD hS hl
/-! CompactformsModel.isValue(I)Z -/
def fX8_isValue (p0 : Int32) : Option (Int32) := (fX8_isIn p0 0 9999).bind (fun u1 => chk (isB u1) (some u1))
set_option maxHeartbeats 4000000 in
set_option maxRecDepth 100000 in
theorem met_X8_isValue {D : va_G} {cI cV cJ cD : ClassId} (l : Launch) (p0 : Int32) (res : Int32) (hf : fX8_isValue p0 = some res) : MM l yX8_isValue cX8_isValue 1 (some .boolean) { frames := 1, cells := 0, slots := 0, locals := 22 } D (TY cI cV cJ cD) ([]) ([]) [.int p0] (some (.int res)) := by
  intro sz
  refine Met.ofW (cc := cX8_isValue) (maxL := 1) (ret := (some .boolean)) (by decide +kernel) rfl ?_
  intro p e s m args below meth c s₁ B hml hv
  obtain ⟨rfl, hsz, hP, hK, hD0, hE⟩ := hv
  have hx := B.exec
  have hb := B.bytes
  have hr := B.returns
  have hts := atoms_spec (ws := .code yX8_isValue cX8_isValue 1 (some .boolean) :: GW) B.pre
  have hg : ∀ w ∈ GW, w.before (([.int p0] : List Value).toArray) s = true := fun w h => hts w (List.mem_cons_of_mem _ h)
  have hown : s.vm.findClass RX8 = some m.cls := findClass_of_methodNamed B.named
  have hlocks := B.notSynchronized
  subst hsz
  have hD := hD0.self (sz := s.heap.size)
  generalize hAe : va_A ([]) s.heap.size = A at hD hE ⊢
  have hA : ∀ q : Nat, s.heap.size ≤ q → A q := fun q h => by rw [← hAe]; exact Or.inr h
  have hS : va_S A s.heap s.heap [] := va_S.rf
  have hl := lv_entry ([.int p0]) (n := 1) (Nat.le_of_ble_eq_true rfl)
  rw [lg_entry_eq]
  generalize (lg_sl ([.int p0]) ++ List.replicate (1 - (lg_sl ([.int p0])).length) Slot.unset).toArray = ls at hl ⊢
  have hl : lv_has ls 1 [(0, .int p0)] := hl
  have M0 : ∀ (H : Heap) (locs : List Loc) (ls : Array Slot), fX8_isValue p0 = some res → va_P D vwCl ([]) H → va_D A ([]) → va_S A s.heap H locs → lv_has ls 1 [(0, .int p0)] → W p l e ({ frames := 1, cells := 0, slots := 0, locals := 22 } : Room) s m ([.int p0] : List Value).toArray below meth c H locs 0 0 (MQ below (QW D (TY cI cV cJ cD) ([]) A (some (.int res))) (([.int p0] : List Value).toArray) s 0 0 A) (F0 m 0 ls []) := by
    intro H locs ls hf hP hD hS hl
    dsimp only [fX8_isValue] at hf
    refine lv_iload_n hx hb dX8_isValue_0 rfl (lv_at hl 0 rfl) ?_
    refine lv_iconst (v := 0) hx hb dX8_isValue_1 (by decide) ?_
    refine lv_sipush (v := 9999) hx hb dX8_isValue_2 (by decide) ?_
    obtain ⟨u1, hc2, hf⟩ := bind_t hf
    refine k_S (As := [.int p0, .int 0, .int 9999]) (rest := []) (n := 3) ⟨hx, hb, hml, hown, hts⟩ (met_X8_isIn l p0 0 9999 u1 hc2) w909 w910 w9 w911 ⟨by decide +kernel, by decide +kernel, by decide +kernel⟩ ⟨Nat.le_of_ble_eq_true rfl, Nat.le_of_ble_eq_true rfl⟩ hK hE hP hD hS hA (isC := []) (isR := []) (isB := []) (ws' := []) ⟨([] : List Nat).filterMap (fun i : Nat => ([] : va_W)[i]?), rfl, rfl, rfl, rfl, by decide, rfl, rfl⟩ rfl hl.1 rfl (Nat.le_of_ble_eq_true rfl) dX8_isValue_5 ⟨Nat.le_of_ble_eq_true rfl, Nat.le_of_ble_eq_true rfl⟩ (fun H locs hP hD hS => ?_)
    try dsimp only at hf
    refine W.eq (g2 := F0 m 8 ls [.int u1]) rfl ?_
    obtain ⟨hz3, hf⟩ := chk_t hf
    obtain rfl := Option.some.inj hf
    exact W.zret (v := u1) hx hb hr (isB_narrow hz3) (fun t ht hW => ⟨rfl, by rw [ht]; exact hP, va_K.moved hW.alike hK, hD, hS.F ht⟩) hS.2.2 dX8_isValue_8 hlocks
  exact M0 s.heap [] ls hf hP hD hS hl
/-! CompactformsModel.isThere(I)Z -/
def fX8_isThere (x : MSt) (p1 : Int32) : Option (Int32) := chk (inb p1 16) ((if ((mType x) (p1).toNatClampNeg) = 0 then some 0 else chk (inb p1 16) ((if ((mEnd x) (p1).toNatClampNeg) = (-1) then some 1 else chk (inb p1 16) ((if ((mEnd x) (p1).toNatClampNeg) ≤ (mNow x) then some 0 else some 1))))))
set_option maxHeartbeats 4000000 in
set_option maxRecDepth 100000 in
theorem met_X8_isThere {D : va_G} {cI cV cJ cD : ClassId} (l : Launch) (a : Nat → Nat) (x : MSt) (p1 : Int32) (res : Int32) (hf : fX8_isThere x p1 = some res) : MM l yX8_isThere cX8_isThere 2 (some .boolean) { frames := 0, cells := 0, slots := 0, locals := 0 } D (TY cI cV cJ cD) (W_Model cI a x) (W_Model cI a x) [.ref (a 0), .int p1] (some (.int res)) := by
  intro sz
  refine Met.ofW (cc := cX8_isThere) (maxL := 2) (ret := (some .boolean)) (by decide +kernel) rfl ?_
  intro p e s m args below meth c s₁ B hml hv
  obtain ⟨rfl, hsz, hP, hK, hD0, hE⟩ := hv
  have hx := B.exec
  have hb := B.bytes
  have hr := B.returns
  have hts := atoms_spec (ws := .code yX8_isThere cX8_isThere 2 (some .boolean) :: GW) B.pre
  have hg : ∀ w ∈ GW, w.before (([.ref (a 0), .int p1] : List Value).toArray) s = true := fun w h => hts w (List.mem_cons_of_mem _ h)
  have hown : s.vm.findClass RX8 = some m.cls := findClass_of_methodNamed B.named
  have hlocks := B.notSynchronized
  subst hsz
  have hD := hD0.self (sz := s.heap.size)
  generalize hAe : va_A (W_Model cI a x) s.heap.size = A at hD hE ⊢
  have hA : ∀ q : Nat, s.heap.size ≤ q → A q := fun q h => by rw [← hAe]; exact Or.inr h
  have hS : va_S A s.heap s.heap [] := va_S.rf
  have hl := lv_entry ([.ref (a 0), .int p1]) (n := 2) (Nat.le_of_ble_eq_true rfl)
  rw [lg_entry_eq]
  generalize (lg_sl ([.ref (a 0), .int p1]) ++ List.replicate (2 - (lg_sl ([.ref (a 0), .int p1])).length) Slot.unset).toArray = ls at hl ⊢
  have hl : lv_has ls 2 [(0, .ref (a 0)), (1, .int p1)] := hl
  have M0 : ∀ (H : Heap) (locs : List Loc) (ls : Array Slot), fX8_isThere x p1 = some res → va_P D vwCl (W_Model cI a x) H → va_D A (W_Model cI a x) → va_S A s.heap H locs → lv_has ls 2 [(0, .ref (a 0)), (1, .int p1)] → W p l e ({ frames := 0, cells := 0, slots := 0, locals := 0 } : Room) s m ([.ref (a 0), .int p1] : List Value).toArray below meth c H locs 0 0 (MQ below (QW D (TY cI cV cJ cD) (W_Model cI a x) A (some (.int res))) (([.ref (a 0), .int p1] : List Value).toArray) s 0 0 A) (F0 m 0 ls []) := by
    intro H locs ls hf hP hD hS hl
    dsimp only [fX8_isThere] at hf
    refine lv_aload_n hx hb dX8_isThere_0 rfl (lv_at hl 0 rfl) ?_
    refine va_get (D := D) (ci := 7) (v := .ref (a 1)) (C := RX8) (T := TX8) (N := 24) hx hb hg in_X8 hown hK hP 0 rfl rfl 2 (by decide) (hg _ w827) (fun _ h9 => h9) rfl dX8_isThere_1 ?_
    refine lv_iload_n hx hb dX8_isThere_4 rfl (lv_at hl 1 rfl) ?_
    obtain ⟨hi1, hf⟩ := chk_t hf
    refine va_iald hx hb hK hP 1 0 rfl rfl (inb_in hi1) dX8_isThere_5 ?_
    refine lv_if_eq (tgt := 36) hx hb dX8_isThere_6 (by decide) (fun c2 => ?_) (fun c2 => ?_)
    · replace hf := if_t c2 hf
      refine lv_iconst (v := 0) hx hb dX8_isThere_36 (by decide) ?_
      obtain rfl := Option.some.inj hf
      exact W.zret (v := 0) hx hb hr (by decide +kernel) (fun t ht hW => ⟨rfl, by rw [ht]; exact hP, va_K.moved hW.alike hK, hD, hS.F ht⟩) hS.2.2 dX8_isThere_37 hlocks
    · replace hf := if_f c2 hf
      refine lv_aload_n hx hb dX8_isThere_9 rfl (lv_at hl 0 rfl) ?_
      refine va_get (D := D) (ci := 7) (v := .ref (a 2)) (C := RX8) (T := TX8) (N := 24) hx hb hg in_X8 hown hK hP 0 rfl rfl 3 (by decide) (hg _ w828) (fun _ h9 => h9) rfl dX8_isThere_10 ?_
      refine lv_iload_n hx hb dX8_isThere_13 rfl (lv_at hl 1 rfl) ?_
      obtain ⟨hi3, hf⟩ := chk_t hf
      refine va_iald hx hb hK hP 2 0 rfl rfl (inb_in hi3) dX8_isThere_14 ?_
      refine lv_iconst (v := (-1)) hx hb dX8_isThere_15 (by decide) ?_
      refine lv_icmp_eq (tgt := 32) hx hb dX8_isThere_16 (by decide) (fun c4 => ?_) (fun c4 => ?_)
      · replace hf := if_t c4 hf
        refine lv_iconst (v := 1) hx hb dX8_isThere_32 (by decide) ?_
        refine lv_goto (tgt := 37) hx hb dX8_isThere_33 (by decide) ?_
        obtain rfl := Option.some.inj hf
        exact W.zret (v := 1) hx hb hr (by decide +kernel) (fun t ht hW => ⟨rfl, by rw [ht]; exact hP, va_K.moved hW.alike hK, hD, hS.F ht⟩) hS.2.2 dX8_isThere_37 hlocks
      · replace hf := if_f c4 hf
        refine lv_aload_n hx hb dX8_isThere_19 rfl (lv_at hl 0 rfl) ?_
        refine va_get (D := D) (ci := 7) (v := .int (mNow x)) (C := RX8) (T := TX8) (N := 24) hx hb hg in_X8 hown hK hP 0 rfl rfl 1 (by decide) (hg _ w826) (fun _ h9 => h9) rfl dX8_isThere_20 ?_
        refine lv_aload_n hx hb dX8_isThere_23 rfl (lv_at hl 0 rfl) ?_
        refine va_get (D := D) (ci := 7) (v := .ref (a 2)) (C := RX8) (T := TX8) (N := 24) hx hb hg in_X8 hown hK hP 0 rfl rfl 3 (by decide) (hg _ w828) (fun _ h9 => h9) rfl dX8_isThere_24 ?_
        refine lv_iload_n hx hb dX8_isThere_27 rfl (lv_at hl 1 rfl) ?_
        obtain ⟨hi5, hf⟩ := chk_t hf
        refine va_iald hx hb hK hP 2 0 rfl rfl (inb_in hi5) dX8_isThere_28 ?_
        refine lv_icmp_ge (tgt := 36) hx hb dX8_isThere_29 (by decide) (fun c6 => ?_) (fun c6 => ?_)
        · replace hf := if_t c6 hf
          refine lv_iconst (v := 0) hx hb dX8_isThere_36 (by decide) ?_
          obtain rfl := Option.some.inj hf
          exact W.zret (v := 0) hx hb hr (by decide +kernel) (fun t ht hW => ⟨rfl, by rw [ht]; exact hP, va_K.moved hW.alike hK, hD, hS.F ht⟩) hS.2.2 dX8_isThere_37 hlocks
        · replace hf := if_f c6 hf
          refine lv_iconst (v := 1) hx hb dX8_isThere_32 (by decide) ?_
          refine lv_goto (tgt := 37) hx hb dX8_isThere_33 (by decide) ?_
          obtain rfl := Option.some.inj hf
          exact W.zret (v := 1) hx hb hr (by decide +kernel) (fun t ht hW => ⟨rfl, by rw [ht]; exact hP, va_K.moved hW.alike hK, hD, hS.F ht⟩) hS.2.2 dX8_isThere_37 hlocks
  exact M0 s.heap [] ls hf hP hD hS hl
/-! CompactformsModel.typeNow(I)I -/
def fX8_typeNow (x : MSt) (p1 : Int32) : Option (Int32) := (fX8_isThere x p1).bind (fun u1 => (if u1 = 0 then some 0 else chk (inb p1 16) (some ((mType x) (p1).toNatClampNeg))))
set_option maxHeartbeats 4000000 in
set_option maxRecDepth 100000 in
theorem met_X8_typeNow {D : va_G} {cI cV cJ cD : ClassId} (l : Launch) (a : Nat → Nat) (x : MSt) (p1 : Int32) (res : Int32) (hf : fX8_typeNow x p1 = some res) : MM l yX8_typeNow cX8_typeNow 2 (some .int) { frames := 1, cells := 0, slots := 0, locals := 21 } D (TY cI cV cJ cD) (W_Model cI a x) (W_Model cI a x) [.ref (a 0), .int p1] (some (.int res)) := by
  intro sz
  refine Met.ofW (cc := cX8_typeNow) (maxL := 2) (ret := (some .int)) (by decide +kernel) rfl ?_
  intro p e s m args below meth c s₁ B hml hv
  obtain ⟨rfl, hsz, hP, hK, hD0, hE⟩ := hv
  have hx := B.exec
  have hb := B.bytes
  have hr := B.returns
  have hts := atoms_spec (ws := .code yX8_typeNow cX8_typeNow 2 (some .int) :: GW) B.pre
  have hg : ∀ w ∈ GW, w.before (([.ref (a 0), .int p1] : List Value).toArray) s = true := fun w h => hts w (List.mem_cons_of_mem _ h)
  have hown : s.vm.findClass RX8 = some m.cls := findClass_of_methodNamed B.named
  have hlocks := B.notSynchronized
  subst hsz
  have hD := hD0.self (sz := s.heap.size)
  generalize hAe : va_A (W_Model cI a x) s.heap.size = A at hD hE ⊢
  have hA : ∀ q : Nat, s.heap.size ≤ q → A q := fun q h => by rw [← hAe]; exact Or.inr h
  have hS : va_S A s.heap s.heap [] := va_S.rf
  have hl := lv_entry ([.ref (a 0), .int p1]) (n := 2) (Nat.le_of_ble_eq_true rfl)
  rw [lg_entry_eq]
  generalize (lg_sl ([.ref (a 0), .int p1]) ++ List.replicate (2 - (lg_sl ([.ref (a 0), .int p1])).length) Slot.unset).toArray = ls at hl ⊢
  have hl : lv_has ls 2 [(0, .ref (a 0)), (1, .int p1)] := hl
  have M0 : ∀ (H : Heap) (locs : List Loc) (ls : Array Slot), fX8_typeNow x p1 = some res → va_P D vwCl (W_Model cI a x) H → va_D A (W_Model cI a x) → va_S A s.heap H locs → lv_has ls 2 [(0, .ref (a 0)), (1, .int p1)] → W p l e ({ frames := 1, cells := 0, slots := 0, locals := 21 } : Room) s m ([.ref (a 0), .int p1] : List Value).toArray below meth c H locs 0 0 (MQ below (QW D (TY cI cV cJ cD) (W_Model cI a x) A (some (.int res))) (([.ref (a 0), .int p1] : List Value).toArray) s 0 0 A) (F0 m 0 ls []) := by
    intro H locs ls hf hP hD hS hl
    dsimp only [fX8_typeNow] at hf
    refine lv_aload_n hx hb dX8_typeNow_0 rfl (lv_at hl 0 rfl) ?_
    refine lv_iload_n hx hb dX8_typeNow_1 rfl (lv_at hl 1 rfl) ?_
    obtain ⟨u1, hc2, hf⟩ := bind_t hf
    refine k_V (As := [.int p1]) (rest := []) (n := 1) ⟨hx, hb, hml, hown, hts⟩ (met_X8_isThere l a x p1 u1 hc2) w916 w918 ws26 w9 w919 ⟨rfl, by decide +kernel, by decide +kernel, by decide +kernel⟩ ⟨Nat.le_of_ble_eq_true rfl, Nat.le_of_ble_eq_true rfl⟩ hK hE hP hD hS hA (isC := [0, 1, 2, 3, 4, 5, 6, 7, 8, 9, 10, 11, 12, 13, 14]) (isR := []) (isB := [0, 1, 2, 3, 4, 5, 6, 7, 8, 9, 10, 11, 12, 13, 14]) (ws' := W_Model cI a x) ⟨([] : List Nat).filterMap (fun i : Nat => (W_Model cI a x : va_W)[i]?), rfl, rfl, rfl, rfl, by decide, rfl, rfl⟩ 0 7 rfl rfl rfl rfl hl.1 rfl (Nat.le_of_ble_eq_true rfl) dX8_typeNow_2 ⟨Nat.le_of_ble_eq_true rfl, Nat.le_of_ble_eq_true rfl⟩ (fun H locs hP hD hS => ?_)
    try dsimp only at hf
    refine W.eq (g2 := F0 m 5 ls [.int u1]) rfl ?_
    refine lv_if_eq (tgt := 17) hx hb dX8_typeNow_5 (by decide) (fun c3 => ?_) (fun c3 => ?_)
    · replace hf := if_t c3 hf
      refine lv_iconst (v := 0) hx hb dX8_typeNow_17 (by decide) ?_
      obtain rfl := Option.some.inj hf
      exact W.iret (v := 0) hx hb hr (fun t ht hW => ⟨rfl, by rw [ht]; exact hP, va_K.moved hW.alike hK, hD, hS.F ht⟩) hS.2.2 dX8_typeNow_18 hlocks
    · replace hf := if_f c3 hf
      refine lv_aload_n hx hb dX8_typeNow_8 rfl (lv_at hl 0 rfl) ?_
      refine va_get (D := D) (ci := 7) (v := .ref (a 1)) (C := RX8) (T := TX8) (N := 24) hx hb hg in_X8 hown hK hP 0 rfl rfl 2 (by decide) (hg _ w827) (fun _ h9 => h9) rfl dX8_typeNow_9 ?_
      refine lv_iload_n hx hb dX8_typeNow_12 rfl (lv_at hl 1 rfl) ?_
      obtain ⟨hi4, hf⟩ := chk_t hf
      refine va_iald hx hb hK hP 1 0 rfl rfl (inb_in hi4) dX8_typeNow_13 ?_
      refine lv_goto (tgt := 18) hx hb dX8_typeNow_14 (by decide) ?_
      obtain rfl := Option.some.inj hf
      exact W.iret (v := ((mType x) (p1).toNatClampNeg)) hx hb hr (fun t ht hW => ⟨rfl, by rw [ht]; exact hP, va_K.moved hW.alike hK, hD, hS.F ht⟩) hS.2.2 dX8_typeNow_18 hlocks
  exact M0 s.heap [] ls hf hP hD hS hl
/-! CompactformsModel.isFull()Z -/
def fX8_isFull (x : MSt) : Option (Int32) := (if (mRows x) = 300 then some 1 else some 0)
set_option maxHeartbeats 4000000 in
set_option maxRecDepth 100000 in
theorem met_X8_isFull {D : va_G} {cI cV cJ cD : ClassId} (l : Launch) (a : Nat → Nat) (x : MSt) (res : Int32) (hf : fX8_isFull x = some res) : MM l yX8_isFull cX8_isFull 1 (some .boolean) { frames := 0, cells := 0, slots := 0, locals := 0 } D (TY cI cV cJ cD) (W_Model cI a x) (W_Model cI a x) [.ref (a 0)] (some (.int res)) := by
  intro sz
  refine Met.ofW (cc := cX8_isFull) (maxL := 1) (ret := (some .boolean)) (by decide +kernel) rfl ?_
  intro p e s m args below meth c s₁ B hml hv
  obtain ⟨rfl, hsz, hP, hK, hD0, hE⟩ := hv
  have hx := B.exec
  have hb := B.bytes
  have hr := B.returns
  have hts := atoms_spec (ws := .code yX8_isFull cX8_isFull 1 (some .boolean) :: GW) B.pre
  have hg : ∀ w ∈ GW, w.before (([.ref (a 0)] : List Value).toArray) s = true := fun w h => hts w (List.mem_cons_of_mem _ h)
  have hown : s.vm.findClass RX8 = some m.cls := findClass_of_methodNamed B.named
  have hlocks := B.notSynchronized
  subst hsz
  have hD := hD0.self (sz := s.heap.size)
  generalize hAe : va_A (W_Model cI a x) s.heap.size = A at hD hE ⊢
  have hA : ∀ q : Nat, s.heap.size ≤ q → A q := fun q h => by rw [← hAe]; exact Or.inr h
  have hS : va_S A s.heap s.heap [] := va_S.rf
  have hl := lv_entry ([.ref (a 0)]) (n := 1) (Nat.le_of_ble_eq_true rfl)
  rw [lg_entry_eq]
  generalize (lg_sl ([.ref (a 0)]) ++ List.replicate (1 - (lg_sl ([.ref (a 0)])).length) Slot.unset).toArray = ls at hl ⊢
  have hl : lv_has ls 1 [(0, .ref (a 0))] := hl
  have M0 : ∀ (H : Heap) (locs : List Loc) (ls : Array Slot), fX8_isFull x = some res → va_P D vwCl (W_Model cI a x) H → va_D A (W_Model cI a x) → va_S A s.heap H locs → lv_has ls 1 [(0, .ref (a 0))] → W p l e ({ frames := 0, cells := 0, slots := 0, locals := 0 } : Room) s m ([.ref (a 0)] : List Value).toArray below meth c H locs 0 0 (MQ below (QW D (TY cI cV cJ cD) (W_Model cI a x) A (some (.int res))) (([.ref (a 0)] : List Value).toArray) s 0 0 A) (F0 m 0 ls []) := by
    intro H locs ls hf hP hD hS hl
    dsimp only [fX8_isFull] at hf
    refine lv_aload_n hx hb dX8_isFull_0 rfl (lv_at hl 0 rfl) ?_
    refine va_get (D := D) (ci := 7) (v := .int (mRows x)) (C := RX8) (T := TX8) (N := 24) hx hb hg in_X8 hown hK hP 0 rfl rfl 14 (by decide) (hg _ w839) (fun _ h9 => h9) rfl dX8_isFull_1 ?_
    refine lv_sipush (v := 300) hx hb dX8_isFull_4 (by decide) ?_
    refine lv_icmp_ne (tgt := 14) hx hb dX8_isFull_7 (by decide) (fun c1 => ?_) (fun c1 => ?_)
    · replace hf := if_f c1 hf
      refine lv_iconst (v := 0) hx hb dX8_isFull_14 (by decide) ?_
      obtain rfl := Option.some.inj hf
      exact W.zret (v := 0) hx hb hr (by decide +kernel) (fun t ht hW => ⟨rfl, by rw [ht]; exact hP, va_K.moved hW.alike hK, hD, hS.F ht⟩) hS.2.2 dX8_isFull_15 hlocks
    · replace hf := if_t c1 hf
      refine lv_iconst (v := 1) hx hb dX8_isFull_10 (by decide) ?_
      refine lv_goto (tgt := 15) hx hb dX8_isFull_11 (by decide) ?_
      obtain rfl := Option.some.inj hf
      exact W.zret (v := 1) hx hb hr (by decide +kernel) (fun t ht hW => ⟨rfl, by rw [ht]; exact hP, va_K.moved hW.alike hK, hD, hS.F ht⟩) hS.2.2 dX8_isFull_15 hlocks
  exact M0 s.heap [] ls hf hP hD hS hl
/-! CompactformsModel.writes(IIIII)V -/
def fX8_writes (x : MSt) (p1 : Int32) (p2 : Int32) (p3 : Int32) (p4 : Int32) (p5 : Int32) : Option (MSt) := keep (6 * (mRows x)) (fun y1 => chk (inb y1 1800) (keep (mLog_s x (upd (mLog x) (y1).toNatClampNeg p1)) (fun x3 => chk (inb (y1 + 1) 1800) (keep (mLog_s x3 (upd (mLog x3) ((y1 + 1)).toNatClampNeg p2)) (fun x5 => chk (inb (y1 + 2) 1800) (keep (mLog_s x5 (upd (mLog x5) ((y1 + 2)).toNatClampNeg p3)) (fun x7 => chk (inb (y1 + 3) 1800) (keep (mLog_s x7 (upd (mLog x7) ((y1 + 3)).toNatClampNeg p4)) (fun x9 => chk (inb (y1 + 4) 1800) (keep (mLog_s x9 (upd (mLog x9) ((y1 + 4)).toNatClampNeg p5)) (fun x11 => chk (inb (y1 + 5) 1800) (keep (mLog_s x11 (upd (mLog x11) ((y1 + 5)).toNatClampNeg (mClock x11))) (fun x13 => keep (mRows_s x13 ((mRows x13) + 1)) (fun x14 => some x14))))))))))))))
set_option maxHeartbeats 4000000 in
set_option maxRecDepth 100000 in
theorem met_X8_writes {D : va_G} {cI cV cJ cD : ClassId} (l : Launch) (a : Nat → Nat) (x : MSt) (p1 : Int32) (p2 : Int32) (p3 : Int32) (p4 : Int32) (p5 : Int32) (res : MSt) (hf : fX8_writes x p1 p2 p3 p4 p5 = some res) : MM l yX8_writes cX8_writes 7 none { frames := 0, cells := 0, slots := 0, locals := 0 } D (TY cI cV cJ cD) (W_Model cI a x) (W_Model cI a res) [.ref (a 0), .int p1, .int p2, .int p3, .int p4, .int p5] none := by
  intro sz
  refine Met.ofW (cc := cX8_writes) (maxL := 7) (ret := none) (by decide +kernel) rfl ?_
  intro p e s m args below meth c s₁ B hml hv
  obtain ⟨rfl, hsz, hP, hK, hD0, hE⟩ := hv
  have hx := B.exec
  have hb := B.bytes
  have hr := B.returns
  have hts := atoms_spec (ws := .code yX8_writes cX8_writes 7 none :: GW) B.pre
  have hg : ∀ w ∈ GW, w.before (([.ref (a 0), .int p1, .int p2, .int p3, .int p4, .int p5] : List Value).toArray) s = true := fun w h => hts w (List.mem_cons_of_mem _ h)
  have hown : s.vm.findClass RX8 = some m.cls := findClass_of_methodNamed B.named
  have hlocks := B.notSynchronized
  subst hsz
  have hD := hD0.self (sz := s.heap.size)
  generalize hAe : va_A (W_Model cI a x) s.heap.size = A at hD hE ⊢
  have hA : ∀ q : Nat, s.heap.size ≤ q → A q := fun q h => by rw [← hAe]; exact Or.inr h
  have hS : va_S A s.heap s.heap [] := va_S.rf
  have hl := lv_entry ([.ref (a 0), .int p1, .int p2, .int p3, .int p4, .int p5]) (n := 7) (Nat.le_of_ble_eq_true rfl)
  rw [lg_entry_eq]
  generalize (lg_sl ([.ref (a 0), .int p1, .int p2, .int p3, .int p4, .int p5]) ++ List.replicate (7 - (lg_sl ([.ref (a 0), .int p1, .int p2, .int p3, .int p4, .int p5])).length) Slot.unset).toArray = ls at hl ⊢
  have hl : lv_has ls 7 [(0, .ref (a 0)), (1, .int p1), (2, .int p2), (3, .int p3), (4, .int p4), (5, .int p5)] := hl
  have M0 : ∀ (H : Heap) (locs : List Loc) (ls : Array Slot), fX8_writes x p1 p2 p3 p4 p5 = some res → va_P D vwCl (W_Model cI a x) H → va_D A (W_Model cI a x) → va_S A s.heap H locs → lv_has ls 7 [(0, .ref (a 0)), (1, .int p1), (2, .int p2), (3, .int p3), (4, .int p4), (5, .int p5)] → W p l e ({ frames := 0, cells := 0, slots := 0, locals := 0 } : Room) s m ([.ref (a 0), .int p1, .int p2, .int p3, .int p4, .int p5] : List Value).toArray below meth c H locs 0 0 (MQ below (QW D (TY cI cV cJ cD) (W_Model cI a res) A none) (([.ref (a 0), .int p1, .int p2, .int p3, .int p4, .int p5] : List Value).toArray) s 0 0 A) (F0 m 0 ls []) := by
    intro H locs ls hf hP hD hS hl
    dsimp only [fX8_writes] at hf
    refine lv_bipush (v := 6) hx hb dX8_writes_0 (by decide) ?_
    refine lv_aload_n hx hb dX8_writes_2 rfl (lv_at hl 0 rfl) ?_
    refine va_get (D := D) (ci := 7) (v := .int (mRows x)) (C := RX8) (T := TX8) (N := 24) hx hb hg in_X8 hown hK hP 0 rfl rfl 14 (by decide) (hg _ w839) (fun _ h9 => h9) rfl dX8_writes_3 ?_
    refine lv_imul hx hb dX8_writes_6 ?_
    refine lv_topi (fun y1 hy1 => ?_)
    replace hf := keep_e hf y1 hy1
    refine lv_istore (lv' := [(6, .int y1), (0, .ref (a 0)), (1, .int p1), (2, .int p2), (3, .int p3), (4, .int p4), (5, .int p5)]) hx hb dX8_writes_7 hl (by decide) rfl (fun ls hl => ?_)
    refine lv_aload_n hx hb dX8_writes_9 rfl (lv_at hl 1 rfl) ?_
    refine va_get (D := D) (ci := 7) (v := .ref (a 12)) (C := RX8) (T := TX8) (N := 24) hx hb hg in_X8 hown hK hP 0 rfl rfl 16 (by decide) (hg _ w841) (fun _ h9 => h9) rfl dX8_writes_10 ?_
    refine lv_iload hx hb dX8_writes_13 (lv_at hl 0 rfl) ?_
    refine lv_iload_n hx hb dX8_writes_15 rfl (lv_at hl 2 rfl) ?_
    obtain ⟨hi2, hf⟩ := chk_t hf
    refine va_iast hx hb hK hP hD hS 12 0 rfl rfl (inb_in hi2) dX8_writes_16 (fun H locs hP hD hS => ?_)
    obtain ⟨x3, hx3⟩ : ∃ z, z = (mLog_s x (upd (mLog x) (y1).toNatClampNeg p1)) := ⟨_, rfl⟩
    replace hf := keep_e hf x3 hx3
    have hP : va_P D vwCl (W_Model cI a x3) H := by rw [hx3]; exact hP
    have hD : va_D A (W_Model cI a x3) := by rw [hx3]; exact hD
    refine lv_aload_n hx hb dX8_writes_17 rfl (lv_at hl 1 rfl) ?_
    refine va_get (D := D) (ci := 7) (v := .ref (a 12)) (C := RX8) (T := TX8) (N := 24) hx hb hg in_X8 hown hK hP 0 rfl rfl 16 (by decide) (hg _ w841) (fun _ h9 => h9) rfl dX8_writes_18 ?_
    refine lv_iload hx hb dX8_writes_21 (lv_at hl 0 rfl) ?_
    refine lv_iconst (v := 1) hx hb dX8_writes_23 (by decide) ?_
    refine lv_iadd hx hb dX8_writes_24 ?_
    refine lv_iload_n hx hb dX8_writes_25 rfl (lv_at hl 3 rfl) ?_
    obtain ⟨hi4, hf⟩ := chk_t hf
    refine va_iast hx hb hK hP hD hS 12 0 rfl rfl (inb_in hi4) dX8_writes_26 (fun H locs hP hD hS => ?_)
    obtain ⟨x5, hx5⟩ : ∃ z, z = (mLog_s x3 (upd (mLog x3) ((y1 + 1)).toNatClampNeg p2)) := ⟨_, rfl⟩
    replace hf := keep_e hf x5 hx5
    have hP : va_P D vwCl (W_Model cI a x5) H := by rw [hx5]; exact hP
    have hD : va_D A (W_Model cI a x5) := by rw [hx5]; exact hD
    refine lv_aload_n hx hb dX8_writes_27 rfl (lv_at hl 1 rfl) ?_
    refine va_get (D := D) (ci := 7) (v := .ref (a 12)) (C := RX8) (T := TX8) (N := 24) hx hb hg in_X8 hown hK hP 0 rfl rfl 16 (by decide) (hg _ w841) (fun _ h9 => h9) rfl dX8_writes_28 ?_
    refine lv_iload hx hb dX8_writes_31 (lv_at hl 0 rfl) ?_
    refine lv_iconst (v := 2) hx hb dX8_writes_33 (by decide) ?_
    refine lv_iadd hx hb dX8_writes_34 ?_
    refine lv_iload_n hx hb dX8_writes_35 rfl (lv_at hl 4 rfl) ?_
    obtain ⟨hi6, hf⟩ := chk_t hf
    refine va_iast hx hb hK hP hD hS 12 0 rfl rfl (inb_in hi6) dX8_writes_36 (fun H locs hP hD hS => ?_)
    obtain ⟨x7, hx7⟩ : ∃ z, z = (mLog_s x5 (upd (mLog x5) ((y1 + 2)).toNatClampNeg p3)) := ⟨_, rfl⟩
    replace hf := keep_e hf x7 hx7
    have hP : va_P D vwCl (W_Model cI a x7) H := by rw [hx7]; exact hP
    have hD : va_D A (W_Model cI a x7) := by rw [hx7]; exact hD
    refine lv_aload_n hx hb dX8_writes_37 rfl (lv_at hl 1 rfl) ?_
    refine va_get (D := D) (ci := 7) (v := .ref (a 12)) (C := RX8) (T := TX8) (N := 24) hx hb hg in_X8 hown hK hP 0 rfl rfl 16 (by decide) (hg _ w841) (fun _ h9 => h9) rfl dX8_writes_38 ?_
    refine lv_iload hx hb dX8_writes_41 (lv_at hl 0 rfl) ?_
    refine lv_iconst (v := 3) hx hb dX8_writes_43 (by decide) ?_
    refine lv_iadd hx hb dX8_writes_44 ?_
    refine lv_iload hx hb dX8_writes_45 (lv_at hl 5 rfl) ?_
    obtain ⟨hi8, hf⟩ := chk_t hf
    refine va_iast hx hb hK hP hD hS 12 0 rfl rfl (inb_in hi8) dX8_writes_47 (fun H locs hP hD hS => ?_)
    obtain ⟨x9, hx9⟩ : ∃ z, z = (mLog_s x7 (upd (mLog x7) ((y1 + 3)).toNatClampNeg p4)) := ⟨_, rfl⟩
    replace hf := keep_e hf x9 hx9
    have hP : va_P D vwCl (W_Model cI a x9) H := by rw [hx9]; exact hP
    have hD : va_D A (W_Model cI a x9) := by rw [hx9]; exact hD
    refine lv_aload_n hx hb dX8_writes_48 rfl (lv_at hl 1 rfl) ?_
    refine va_get (D := D) (ci := 7) (v := .ref (a 12)) (C := RX8) (T := TX8) (N := 24) hx hb hg in_X8 hown hK hP 0 rfl rfl 16 (by decide) (hg _ w841) (fun _ h9 => h9) rfl dX8_writes_49 ?_
    refine lv_iload hx hb dX8_writes_52 (lv_at hl 0 rfl) ?_
    refine lv_iconst (v := 4) hx hb dX8_writes_54 (by decide) ?_
    refine lv_iadd hx hb dX8_writes_55 ?_
    refine lv_iload hx hb dX8_writes_56 (lv_at hl 6 rfl) ?_
    obtain ⟨hi10, hf⟩ := chk_t hf
    refine va_iast hx hb hK hP hD hS 12 0 rfl rfl (inb_in hi10) dX8_writes_58 (fun H locs hP hD hS => ?_)
    obtain ⟨x11, hx11⟩ : ∃ z, z = (mLog_s x9 (upd (mLog x9) ((y1 + 4)).toNatClampNeg p5)) := ⟨_, rfl⟩
    replace hf := keep_e hf x11 hx11
    have hP : va_P D vwCl (W_Model cI a x11) H := by rw [hx11]; exact hP
    have hD : va_D A (W_Model cI a x11) := by rw [hx11]; exact hD
    refine lv_aload_n hx hb dX8_writes_59 rfl (lv_at hl 1 rfl) ?_
    refine va_get (D := D) (ci := 7) (v := .ref (a 12)) (C := RX8) (T := TX8) (N := 24) hx hb hg in_X8 hown hK hP 0 rfl rfl 16 (by decide) (hg _ w841) (fun _ h9 => h9) rfl dX8_writes_60 ?_
    refine lv_iload hx hb dX8_writes_63 (lv_at hl 0 rfl) ?_
    refine lv_iconst (v := 5) hx hb dX8_writes_65 (by decide) ?_
    refine lv_iadd hx hb dX8_writes_66 ?_
    refine lv_aload_n hx hb dX8_writes_67 rfl (lv_at hl 1 rfl) ?_
    refine va_get (D := D) (ci := 7) (v := .int (mClock x11)) (C := RX8) (T := TX8) (N := 24) hx hb hg in_X8 hown hK hP 0 rfl rfl 0 (by decide) (hg _ w825) (fun _ h9 => h9) rfl dX8_writes_68 ?_
    obtain ⟨hi12, hf⟩ := chk_t hf
    refine va_iast hx hb hK hP hD hS 12 0 rfl rfl (inb_in hi12) dX8_writes_71 (fun H locs hP hD hS => ?_)
    obtain ⟨x13, hx13⟩ : ∃ z, z = (mLog_s x11 (upd (mLog x11) ((y1 + 5)).toNatClampNeg (mClock x11))) := ⟨_, rfl⟩
    replace hf := keep_e hf x13 hx13
    have hP : va_P D vwCl (W_Model cI a x13) H := by rw [hx13]; exact hP
    have hD : va_D A (W_Model cI a x13) := by rw [hx13]; exact hD
    refine lv_aload_n hx hb dX8_writes_72 rfl (lv_at hl 1 rfl) ?_
    refine lv_dup hx hb dX8_writes_73 rfl ?_
    refine va_get (D := D) (ci := 7) (v := .int (mRows x13)) (C := RX8) (T := TX8) (N := 24) hx hb hg in_X8 hown hK hP 0 rfl rfl 14 (by decide) (hg _ w839) (fun _ h9 => h9) rfl dX8_writes_74 ?_
    refine lv_iconst (v := 1) hx hb dX8_writes_77 (by decide) ?_
    refine lv_iadd hx hb dX8_writes_78 ?_
    refine va_put (D := D) (ci := 7) (v := .int ((mRows x13) + 1)) (ty := .int) (C := RX8) (T := TX8) (N := 24) hx hb hg in_X8 tyX8 tyX8_ok nmX8 hown hK hP hD hS 0 rfl rfl 14 (by decide) (hg _ w839) (fun _ h9 => h9) rfl (by decide +kernel) rfl rfl (Nat.le_of_ble_eq_true rfl) dX8_writes_79 (fun H locs hP hD hS => ?_)
    obtain ⟨x14, hx14⟩ : ∃ z, z = (mRows_s x13 ((mRows x13) + 1)) := ⟨_, rfl⟩
    replace hf := keep_e hf x14 hx14
    have hP : va_P D vwCl (W_Model cI a x14) H := by rw [hx14]; exact hP
    have hD : va_D A (W_Model cI a x14) := by rw [hx14]; exact hD
    obtain rfl := Option.some.inj hf
    exact W.vret hx hb hr (fun t ht hW => ⟨rfl, by rw [ht]; exact hP, va_K.moved hW.alike hK, hD, hS.F ht⟩) hS.2.2 dX8_writes_82 hlocks
  exact M0 s.heap [] ls hf hP hD hS hl
/-! CompactformsModel.makes(II)V -/
def fX8_makes_83 (v1 : Int32) (rec83 : MSt × Int32 → Option (MSt)) (s : MSt × Int32) : Option (MSt) := match s with | (x, v3) => (if (120 * (v1 + 1)) ≤ v3 then some x else chk (inb v3 1920) (keep (mWaits_s x (upd (mWaits x) (v3).toNatClampNeg 0)) (fun x3 => keep (v3 + 1) (fun y4 => rec83 (x3, y4)))))
def fX8_makes_56 (v1 : Int32) (rec56 : MSt × Int32 → Option (MSt)) (s : MSt × Int32) : Option (MSt) := match s with | (x, v3) => (if 3 ≤ v3 then keep (120 * v1) (fun y6 => iterK FU (fX8_makes_83 v1) (x, y6)) else chk (inb ((3 * v1) + v3) 48) (keep (mPlace_s x (upd (mPlace x) (((3 * v1) + v3)).toNatClampNeg 0)) (fun x8 => keep (v3 + 1) (fun y9 => rec56 (x8, y9)))))
def fX8_makes (x : MSt) (p1 : Int32) (p2 : Int32) : Option (MSt) := (fX8_isThere x p1).bind (fun u10 => (if u10 = 0 then chk (inb p1 16) (keep (mType_s x (upd (mType x) (p1).toNatClampNeg p2)) (fun x14 => chk (inb p1 16) (keep (mEnd_s x14 (upd (mEnd x14) (p1).toNatClampNeg (-1))) (fun x16 => chk (inb p1 16) (keep (mForm_s x16 (upd (mForm x16) (p1).toNatClampNeg 1)) (fun x18 => chk (inb p1 16) (keep (mSize_s x18 (upd (mSize x18) (p1).toNatClampNeg 0)) (fun x20 => chk (inb p1 16) (keep (mBuckets_s x20 (upd (mBuckets x20) (p1).toNatClampNeg 16)) (fun x22 => chk (inb p1 16) (keep (mMadeAt_s x22 (upd (mMadeAt x22) (p1).toNatClampNeg (mWriting x22))) (fun x24 => iterK FU (fX8_makes_56 p1) (x24, 0))))))))))))) else some x))
set_option maxHeartbeats 4000000 in
set_option maxRecDepth 100000 in
theorem met_X8_makes {D : va_G} {cI cV cJ cD : ClassId} (l : Launch) (a : Nat → Nat) (x : MSt) (p1 : Int32) (p2 : Int32) (res : MSt) (hf : fX8_makes x p1 p2 = some res) : MM l yX8_makes cX8_makes 4 none { frames := 1, cells := 0, slots := 0, locals := 21 } D (TY cI cV cJ cD) (W_Model cI a x) (W_Model cI a res) [.ref (a 0), .int p1, .int p2] none := by
  intro sz
  refine Met.ofW (cc := cX8_makes) (maxL := 4) (ret := none) (by decide +kernel) rfl ?_
  intro p e s m args below meth c s₁ B hml hv
  obtain ⟨rfl, hsz, hP, hK, hD0, hE⟩ := hv
  have hx := B.exec
  have hb := B.bytes
  have hr := B.returns
  have hts := atoms_spec (ws := .code yX8_makes cX8_makes 4 none :: GW) B.pre
  have hg : ∀ w ∈ GW, w.before (([.ref (a 0), .int p1, .int p2] : List Value).toArray) s = true := fun w h => hts w (List.mem_cons_of_mem _ h)
  have hown : s.vm.findClass RX8 = some m.cls := findClass_of_methodNamed B.named
  have hlocks := B.notSynchronized
  subst hsz
  have hD := hD0.self (sz := s.heap.size)
  generalize hAe : va_A (W_Model cI a x) s.heap.size = A at hD hE ⊢
  have hA : ∀ q : Nat, s.heap.size ≤ q → A q := fun q h => by rw [← hAe]; exact Or.inr h
  have hS : va_S A s.heap s.heap [] := va_S.rf
  have hl := lv_entry ([.ref (a 0), .int p1, .int p2]) (n := 4) (Nat.le_of_ble_eq_true rfl)
  rw [lg_entry_eq]
  generalize (lg_sl ([.ref (a 0), .int p1, .int p2]) ++ List.replicate (4 - (lg_sl ([.ref (a 0), .int p1, .int p2])).length) Slot.unset).toArray = ls at hl ⊢
  have hl : lv_has ls 4 [(0, .ref (a 0)), (1, .int p1), (2, .int p2)] := hl
  have S83 : ∀ (v1 : Int32) (rec83 : MSt × Int32 → Option (MSt)) (hrec83 : ∀ (x : MSt), ∀ (v3 : Int32), ∀ (H : Heap) (locs : List Loc) (ls : Array Slot), rec83 (x, v3) = some res → va_P D vwCl (W_Model cI a x) H → va_D A (W_Model cI a x) → va_S A s.heap H locs → lv_has ls 4 [(0, .ref (a 0)), (1, .int v1), (3, .int v3)] → W p l e ({ frames := 1, cells := 0, slots := 0, locals := 21 } : Room) s m ([.ref (a 0), .int p1, .int p2] : List Value).toArray below meth c H locs 0 0 (MQ below (QW D (TY cI cV cJ cD) (W_Model cI a res) A none) (([.ref (a 0), .int p1, .int p2] : List Value).toArray) s 0 0 A) (F0 m 83 ls [])) (x : MSt) (v3 : Int32) (H : Heap) (locs : List Loc) (ls : Array Slot), fX8_makes_83 v1  rec83 (x, v3) = some res → va_P D vwCl (W_Model cI a x) H → va_D A (W_Model cI a x) → va_S A s.heap H locs → lv_has ls 4 [(0, .ref (a 0)), (1, .int v1), (3, .int v3)] → W p l e ({ frames := 1, cells := 0, slots := 0, locals := 21 } : Room) s m ([.ref (a 0), .int p1, .int p2] : List Value).toArray below meth c H locs 0 0 (MQ below (QW D (TY cI cV cJ cD) (W_Model cI a res) A none) (([.ref (a 0), .int p1, .int p2] : List Value).toArray) s 0 0 A) (F0 m 83 ls []) := by
    intro v1 rec83 hrec83 x v3 H locs ls hf hP hD hS hl
    dsimp only [fX8_makes_83] at hf
    refine lv_iload_n hx hb dX8_makes_83 rfl (lv_at hl 2 rfl) ?_
    refine lv_bipush (v := 120) hx hb dX8_makes_84 (by decide) ?_
    refine lv_iload_n hx hb dX8_makes_86 rfl (lv_at hl 1 rfl) ?_
    refine lv_iconst (v := 1) hx hb dX8_makes_87 (by decide) ?_
    refine lv_iadd hx hb dX8_makes_88 ?_
    refine lv_imul hx hb dX8_makes_89 ?_
    refine lv_icmp_ge (tgt := 106) hx hb dX8_makes_90 (by decide) (fun c1 => ?_) (fun c1 => ?_)
    · replace hf := if_t c1 hf
      obtain rfl := Option.some.inj hf
      exact W.vret hx hb hr (fun t ht hW => ⟨rfl, by rw [ht]; exact hP, va_K.moved hW.alike hK, hD, hS.F ht⟩) hS.2.2 dX8_makes_106 hlocks
    · replace hf := if_f c1 hf
      refine lv_aload_n hx hb dX8_makes_93 rfl (lv_at hl 0 rfl) ?_
      refine va_get (D := D) (ci := 7) (v := .ref (a 10)) (C := RX8) (T := TX8) (N := 24) hx hb hg in_X8 hown hK hP 0 rfl rfl 11 (by decide) (hg _ w836) (fun _ h9 => h9) rfl dX8_makes_94 ?_
      refine lv_iload_n hx hb dX8_makes_97 rfl (lv_at hl 2 rfl) ?_
      refine lv_iconst (v := 0) hx hb dX8_makes_98 (by decide) ?_
      obtain ⟨hi2, hf⟩ := chk_t hf
      refine va_iast hx hb hK hP hD hS 10 0 rfl rfl (inb_in hi2) dX8_makes_99 (fun H locs hP hD hS => ?_)
      obtain ⟨x3, hx3⟩ : ∃ z, z = (mWaits_s x (upd (mWaits x) (v3).toNatClampNeg 0)) := ⟨_, rfl⟩
      replace hf := keep_e hf x3 hx3
      have hP : va_P D vwCl (W_Model cI a x3) H := by rw [hx3]; exact hP
      have hD : va_D A (W_Model cI a x3) := by rw [hx3]; exact hD
      obtain ⟨y4, hy4⟩ : ∃ z : Int32, z = (v3 + 1) := ⟨_, rfl⟩
      replace hf := keep_e hf y4 hy4
      refine lv_iinc (v := y4) (lv' := [(3, .int y4), (0, .ref (a 0)), (1, .int v1)]) hx hb dX8_makes_100 hl (k := 2) rfl (by rw [hy4]; rfl) (by decide) rfl (fun ls hl => ?_)
      refine lv_goto (tgt := 83) hx hb dX8_makes_103 (by decide) ?_
      exact hrec83 x3 y4 H locs ls hf hP hD hS (lv_sub hl [1, 2, 0] rfl)
  have L83 : ∀ (v1 : Int32) (fu : Nat) (x : MSt) (v3 : Int32) (H : Heap) (locs : List Loc) (ls : Array Slot), iterK fu (fX8_makes_83 v1 ) (x, v3) = some res → va_P D vwCl (W_Model cI a x) H → va_D A (W_Model cI a x) → va_S A s.heap H locs → lv_has ls 4 [(0, .ref (a 0)), (1, .int v1), (3, .int v3)] → W p l e ({ frames := 1, cells := 0, slots := 0, locals := 21 } : Room) s m ([.ref (a 0), .int p1, .int p2] : List Value).toArray below meth c H locs 0 0 (MQ below (QW D (TY cI cV cJ cD) (W_Model cI a res) A none) (([.ref (a 0), .int p1, .int p2] : List Value).toArray) s 0 0 A) (F0 m 83 ls []) := by
    intro v1 fu
    induction fu with
    | zero =>
      intro x v3 H locs ls hf
      cases hf
    | succ fu ih =>
      intro x v3 H locs ls hf hP hD hS hl
      exact S83 v1 (iterK fu (fX8_makes_83 v1 )) ih x v3 H locs ls hf hP hD hS hl
  have S56 : ∀ (v1 : Int32) (rec56 : MSt × Int32 → Option (MSt)) (hrec56 : ∀ (x : MSt), ∀ (v3 : Int32), ∀ (H : Heap) (locs : List Loc) (ls : Array Slot), rec56 (x, v3) = some res → va_P D vwCl (W_Model cI a x) H → va_D A (W_Model cI a x) → va_S A s.heap H locs → lv_has ls 4 [(0, .ref (a 0)), (1, .int v1), (3, .int v3)] → W p l e ({ frames := 1, cells := 0, slots := 0, locals := 21 } : Room) s m ([.ref (a 0), .int p1, .int p2] : List Value).toArray below meth c H locs 0 0 (MQ below (QW D (TY cI cV cJ cD) (W_Model cI a res) A none) (([.ref (a 0), .int p1, .int p2] : List Value).toArray) s 0 0 A) (F0 m 56 ls [])) (x : MSt) (v3 : Int32) (H : Heap) (locs : List Loc) (ls : Array Slot), fX8_makes_56 v1  rec56 (x, v3) = some res → va_P D vwCl (W_Model cI a x) H → va_D A (W_Model cI a x) → va_S A s.heap H locs → lv_has ls 4 [(0, .ref (a 0)), (1, .int v1), (3, .int v3)] → W p l e ({ frames := 1, cells := 0, slots := 0, locals := 21 } : Room) s m ([.ref (a 0), .int p1, .int p2] : List Value).toArray below meth c H locs 0 0 (MQ below (QW D (TY cI cV cJ cD) (W_Model cI a res) A none) (([.ref (a 0), .int p1, .int p2] : List Value).toArray) s 0 0 A) (F0 m 56 ls []) := by
    intro v1 rec56 hrec56 x v3 H locs ls hf hP hD hS hl
    dsimp only [fX8_makes_56] at hf
    refine lv_iload_n hx hb dX8_makes_56 rfl (lv_at hl 2 rfl) ?_
    refine lv_iconst (v := 3) hx hb dX8_makes_57 (by decide) ?_
    refine lv_icmp_ge (tgt := 78) hx hb dX8_makes_58 (by decide) (fun c5 => ?_) (fun c5 => ?_)
    · replace hf := if_t c5 hf
      refine lv_bipush (v := 120) hx hb dX8_makes_78 (by decide) ?_
      refine lv_iload_n hx hb dX8_makes_80 rfl (lv_at hl 1 rfl) ?_
      refine lv_imul hx hb dX8_makes_81 ?_
      refine lv_topi (fun y6 hy6 => ?_)
      replace hf := keep_e hf y6 hy6
      refine lv_istore_n (lv' := [(3, .int y6), (0, .ref (a 0)), (1, .int v1)]) hx hb dX8_makes_82 rfl hl (by decide) rfl (fun ls hl => ?_)
      exact L83 v1 FU x y6 H locs ls hf hP hD hS (lv_sub hl [1, 2, 0] rfl)
    · replace hf := if_f c5 hf
      refine lv_aload_n hx hb dX8_makes_61 rfl (lv_at hl 0 rfl) ?_
      refine va_get (D := D) (ci := 7) (v := .ref (a 9)) (C := RX8) (T := TX8) (N := 24) hx hb hg in_X8 hown hK hP 0 rfl rfl 10 (by decide) (hg _ w835) (fun _ h9 => h9) rfl dX8_makes_62 ?_
      refine lv_iconst (v := 3) hx hb dX8_makes_65 (by decide) ?_
      refine lv_iload_n hx hb dX8_makes_66 rfl (lv_at hl 1 rfl) ?_
      refine lv_imul hx hb dX8_makes_67 ?_
      refine lv_iload_n hx hb dX8_makes_68 rfl (lv_at hl 2 rfl) ?_
      refine lv_iadd hx hb dX8_makes_69 ?_
      refine lv_iconst (v := 0) hx hb dX8_makes_70 (by decide) ?_
      obtain ⟨hi7, hf⟩ := chk_t hf
      refine va_iast hx hb hK hP hD hS 9 0 rfl rfl (inb_in hi7) dX8_makes_71 (fun H locs hP hD hS => ?_)
      obtain ⟨x8, hx8⟩ : ∃ z, z = (mPlace_s x (upd (mPlace x) (((3 * v1) + v3)).toNatClampNeg 0)) := ⟨_, rfl⟩
      replace hf := keep_e hf x8 hx8
      have hP : va_P D vwCl (W_Model cI a x8) H := by rw [hx8]; exact hP
      have hD : va_D A (W_Model cI a x8) := by rw [hx8]; exact hD
      obtain ⟨y9, hy9⟩ : ∃ z : Int32, z = (v3 + 1) := ⟨_, rfl⟩
      replace hf := keep_e hf y9 hy9
      refine lv_iinc (v := y9) (lv' := [(3, .int y9), (0, .ref (a 0)), (1, .int v1)]) hx hb dX8_makes_72 hl (k := 2) rfl (by rw [hy9]; rfl) (by decide) rfl (fun ls hl => ?_)
      refine lv_goto (tgt := 56) hx hb dX8_makes_75 (by decide) ?_
      exact hrec56 x8 y9 H locs ls hf hP hD hS (lv_sub hl [1, 2, 0] rfl)
  have L56 : ∀ (v1 : Int32) (fu : Nat) (x : MSt) (v3 : Int32) (H : Heap) (locs : List Loc) (ls : Array Slot), iterK fu (fX8_makes_56 v1 ) (x, v3) = some res → va_P D vwCl (W_Model cI a x) H → va_D A (W_Model cI a x) → va_S A s.heap H locs → lv_has ls 4 [(0, .ref (a 0)), (1, .int v1), (3, .int v3)] → W p l e ({ frames := 1, cells := 0, slots := 0, locals := 21 } : Room) s m ([.ref (a 0), .int p1, .int p2] : List Value).toArray below meth c H locs 0 0 (MQ below (QW D (TY cI cV cJ cD) (W_Model cI a res) A none) (([.ref (a 0), .int p1, .int p2] : List Value).toArray) s 0 0 A) (F0 m 56 ls []) := by
    intro v1 fu
    induction fu with
    | zero =>
      intro x v3 H locs ls hf
      cases hf
    | succ fu ih =>
      intro x v3 H locs ls hf hP hD hS hl
      exact S56 v1 (iterK fu (fX8_makes_56 v1 )) ih x v3 H locs ls hf hP hD hS hl
  have M0 : ∀ (H : Heap) (locs : List Loc) (ls : Array Slot), fX8_makes x p1 p2 = some res → va_P D vwCl (W_Model cI a x) H → va_D A (W_Model cI a x) → va_S A s.heap H locs → lv_has ls 4 [(0, .ref (a 0)), (1, .int p1), (2, .int p2)] → W p l e ({ frames := 1, cells := 0, slots := 0, locals := 21 } : Room) s m ([.ref (a 0), .int p1, .int p2] : List Value).toArray below meth c H locs 0 0 (MQ below (QW D (TY cI cV cJ cD) (W_Model cI a res) A none) (([.ref (a 0), .int p1, .int p2] : List Value).toArray) s 0 0 A) (F0 m 0 ls []) := by
    intro H locs ls hf hP hD hS hl
    dsimp only [fX8_makes] at hf
    refine lv_aload_n hx hb dX8_makes_0 rfl (lv_at hl 0 rfl) ?_
    refine lv_iload_n hx hb dX8_makes_1 rfl (lv_at hl 1 rfl) ?_
    obtain ⟨u10, hc11, hf⟩ := bind_t hf
    refine k_V (As := [.int p1]) (rest := []) (n := 1) ⟨hx, hb, hml, hown, hts⟩ (met_X8_isThere l a x p1 u10 hc11) w916 w918 ws26 w9 w919 ⟨rfl, by decide +kernel, by decide +kernel, by decide +kernel⟩ ⟨Nat.le_of_ble_eq_true rfl, Nat.le_of_ble_eq_true rfl⟩ hK hE hP hD hS hA (isC := [0, 1, 2, 3, 4, 5, 6, 7, 8, 9, 10, 11, 12, 13, 14]) (isR := []) (isB := [0, 1, 2, 3, 4, 5, 6, 7, 8, 9, 10, 11, 12, 13, 14]) (ws' := W_Model cI a x) ⟨([] : List Nat).filterMap (fun i : Nat => (W_Model cI a x : va_W)[i]?), rfl, rfl, rfl, rfl, by decide, rfl, rfl⟩ 0 7 rfl rfl rfl rfl hl.1 rfl (Nat.le_of_ble_eq_true rfl) dX8_makes_2 ⟨Nat.le_of_ble_eq_true rfl, Nat.le_of_ble_eq_true rfl⟩ (fun H locs hP hD hS => ?_)
    try dsimp only at hf
    refine W.eq (g2 := F0 m 5 ls [.int u10]) rfl ?_
    refine lv_if_ne (tgt := 106) hx hb dX8_makes_5 (by decide) (fun c12 => ?_) (fun c12 => ?_)
    · replace hf := if_f c12 hf
      obtain rfl := Option.some.inj hf
      exact W.vret hx hb hr (fun t ht hW => ⟨rfl, by rw [ht]; exact hP, va_K.moved hW.alike hK, hD, hS.F ht⟩) hS.2.2 dX8_makes_106 hlocks
    · replace hf := if_t c12 hf
      refine lv_aload_n hx hb dX8_makes_8 rfl (lv_at hl 0 rfl) ?_
      refine va_get (D := D) (ci := 7) (v := .ref (a 1)) (C := RX8) (T := TX8) (N := 24) hx hb hg in_X8 hown hK hP 0 rfl rfl 2 (by decide) (hg _ w827) (fun _ h9 => h9) rfl dX8_makes_9 ?_
      refine lv_iload_n hx hb dX8_makes_12 rfl (lv_at hl 1 rfl) ?_
      refine lv_iload_n hx hb dX8_makes_13 rfl (lv_at hl 2 rfl) ?_
      obtain ⟨hi13, hf⟩ := chk_t hf
      refine va_iast hx hb hK hP hD hS 1 0 rfl rfl (inb_in hi13) dX8_makes_14 (fun H locs hP hD hS => ?_)
      obtain ⟨x14, hx14⟩ : ∃ z, z = (mType_s x (upd (mType x) (p1).toNatClampNeg p2)) := ⟨_, rfl⟩
      replace hf := keep_e hf x14 hx14
      have hP : va_P D vwCl (W_Model cI a x14) H := by rw [hx14]; exact hP
      have hD : va_D A (W_Model cI a x14) := by rw [hx14]; exact hD
      refine lv_aload_n hx hb dX8_makes_15 rfl (lv_at hl 0 rfl) ?_
      refine va_get (D := D) (ci := 7) (v := .ref (a 2)) (C := RX8) (T := TX8) (N := 24) hx hb hg in_X8 hown hK hP 0 rfl rfl 3 (by decide) (hg _ w828) (fun _ h9 => h9) rfl dX8_makes_16 ?_
      refine lv_iload_n hx hb dX8_makes_19 rfl (lv_at hl 1 rfl) ?_
      refine lv_iconst (v := (-1)) hx hb dX8_makes_20 (by decide) ?_
      obtain ⟨hi15, hf⟩ := chk_t hf
      refine va_iast hx hb hK hP hD hS 2 0 rfl rfl (inb_in hi15) dX8_makes_21 (fun H locs hP hD hS => ?_)
      obtain ⟨x16, hx16⟩ : ∃ z, z = (mEnd_s x14 (upd (mEnd x14) (p1).toNatClampNeg (-1))) := ⟨_, rfl⟩
      replace hf := keep_e hf x16 hx16
      have hP : va_P D vwCl (W_Model cI a x16) H := by rw [hx16]; exact hP
      have hD : va_D A (W_Model cI a x16) := by rw [hx16]; exact hD
      refine lv_aload_n hx hb dX8_makes_22 rfl (lv_at hl 0 rfl) ?_
      refine va_get (D := D) (ci := 7) (v := .ref (a 3)) (C := RX8) (T := TX8) (N := 24) hx hb hg in_X8 hown hK hP 0 rfl rfl 4 (by decide) (hg _ w829) (fun _ h9 => h9) rfl dX8_makes_23 ?_
      refine lv_iload_n hx hb dX8_makes_26 rfl (lv_at hl 1 rfl) ?_
      refine lv_iconst (v := 1) hx hb dX8_makes_27 (by decide) ?_
      obtain ⟨hi17, hf⟩ := chk_t hf
      refine va_iast hx hb hK hP hD hS 3 0 rfl rfl (inb_in hi17) dX8_makes_28 (fun H locs hP hD hS => ?_)
      obtain ⟨x18, hx18⟩ : ∃ z, z = (mForm_s x16 (upd (mForm x16) (p1).toNatClampNeg 1)) := ⟨_, rfl⟩
      replace hf := keep_e hf x18 hx18
      have hP : va_P D vwCl (W_Model cI a x18) H := by rw [hx18]; exact hP
      have hD : va_D A (W_Model cI a x18) := by rw [hx18]; exact hD
      refine lv_aload_n hx hb dX8_makes_29 rfl (lv_at hl 0 rfl) ?_
      refine va_get (D := D) (ci := 7) (v := .ref (a 4)) (C := RX8) (T := TX8) (N := 24) hx hb hg in_X8 hown hK hP 0 rfl rfl 5 (by decide) (hg _ w830) (fun _ h9 => h9) rfl dX8_makes_30 ?_
      refine lv_iload_n hx hb dX8_makes_33 rfl (lv_at hl 1 rfl) ?_
      refine lv_iconst (v := 0) hx hb dX8_makes_34 (by decide) ?_
      obtain ⟨hi19, hf⟩ := chk_t hf
      refine va_iast hx hb hK hP hD hS 4 0 rfl rfl (inb_in hi19) dX8_makes_35 (fun H locs hP hD hS => ?_)
      obtain ⟨x20, hx20⟩ : ∃ z, z = (mSize_s x18 (upd (mSize x18) (p1).toNatClampNeg 0)) := ⟨_, rfl⟩
      replace hf := keep_e hf x20 hx20
      have hP : va_P D vwCl (W_Model cI a x20) H := by rw [hx20]; exact hP
      have hD : va_D A (W_Model cI a x20) := by rw [hx20]; exact hD
      refine lv_aload_n hx hb dX8_makes_36 rfl (lv_at hl 0 rfl) ?_
      refine va_get (D := D) (ci := 7) (v := .ref (a 5)) (C := RX8) (T := TX8) (N := 24) hx hb hg in_X8 hown hK hP 0 rfl rfl 6 (by decide) (hg _ w831) (fun _ h9 => h9) rfl dX8_makes_37 ?_
      refine lv_iload_n hx hb dX8_makes_40 rfl (lv_at hl 1 rfl) ?_
      refine lv_bipush (v := 16) hx hb dX8_makes_41 (by decide) ?_
      obtain ⟨hi21, hf⟩ := chk_t hf
      refine va_iast hx hb hK hP hD hS 5 0 rfl rfl (inb_in hi21) dX8_makes_43 (fun H locs hP hD hS => ?_)
      obtain ⟨x22, hx22⟩ : ∃ z, z = (mBuckets_s x20 (upd (mBuckets x20) (p1).toNatClampNeg 16)) := ⟨_, rfl⟩
      replace hf := keep_e hf x22 hx22
      have hP : va_P D vwCl (W_Model cI a x22) H := by rw [hx22]; exact hP
      have hD : va_D A (W_Model cI a x22) := by rw [hx22]; exact hD
      refine lv_aload_n hx hb dX8_makes_44 rfl (lv_at hl 0 rfl) ?_
      refine va_get (D := D) (ci := 7) (v := .ref (a 8)) (C := RX8) (T := TX8) (N := 24) hx hb hg in_X8 hown hK hP 0 rfl rfl 9 (by decide) (hg _ w834) (fun _ h9 => h9) rfl dX8_makes_45 ?_
      refine lv_iload_n hx hb dX8_makes_48 rfl (lv_at hl 1 rfl) ?_
      refine lv_aload_n hx hb dX8_makes_49 rfl (lv_at hl 0 rfl) ?_
      refine va_get (D := D) (ci := 7) (v := .int (mWriting x22)) (C := RX8) (T := TX8) (N := 24) hx hb hg in_X8 hown hK hP 0 rfl rfl 15 (by decide) (hg _ w840) (fun _ h9 => h9) rfl dX8_makes_50 ?_
      obtain ⟨hi23, hf⟩ := chk_t hf
      refine va_iast hx hb hK hP hD hS 8 0 rfl rfl (inb_in hi23) dX8_makes_53 (fun H locs hP hD hS => ?_)
      obtain ⟨x24, hx24⟩ : ∃ z, z = (mMadeAt_s x22 (upd (mMadeAt x22) (p1).toNatClampNeg (mWriting x22))) := ⟨_, rfl⟩
      replace hf := keep_e hf x24 hx24
      have hP : va_P D vwCl (W_Model cI a x24) H := by rw [hx24]; exact hP
      have hD : va_D A (W_Model cI a x24) := by rw [hx24]; exact hD
      refine lv_iconst (v := 0) hx hb dX8_makes_54 (by decide) ?_
      refine lv_istore_n (lv' := [(3, .int 0), (0, .ref (a 0)), (1, .int p1), (2, .int p2)]) hx hb dX8_makes_55 rfl hl (by decide) rfl (fun ls hl => ?_)
      exact L56 p1 FU x24 0 H locs ls hf hP hD hS (lv_sub hl [1, 2, 0] rfl)
  exact M0 s.heap [] ls hf hP hD hS hl
/-! CompactformsModel.putsIn(IIII)V -/
def fX8_putsIn_13 (v1 : Int32) (v2 : Int32) (v3 : Int32) (v4 : Int32) (rec13 : MSt × Int32 → Option (MSt)) (s : MSt × Int32) : Option (MSt) := match s with | (x, v5) => (if v5 ≤ ((40 * v1) + v2) then chk (inb ((40 * v1) + v2) 640) (keep (mValues_s x (upd (mValues x) (((40 * v1) + v2)).toNatClampNeg v3)) (fun x3 => chk (inb ((40 * v1) + v2) 640) (keep (mBits_s x3 (upd (mBits x3) (((40 * v1) + v2)).toNatClampNeg v4)) (fun x5 => chk (inb v1 16) (chk (inb v1 16) (keep (mSize_s x5 (upd (mSize x5) (v1).toNatClampNeg (((mSize x5) (v1).toNatClampNeg) + 1))) (fun x8 => some x8))))))) else chk (inb (v5 - 1) 640) (chk (inb v5 640) (keep (mValues_s x (upd (mValues x) (v5).toNatClampNeg ((mValues x) ((v5 - 1)).toNatClampNeg))) (fun x11 => chk (inb (v5 - 1) 640) (chk (inb v5 640) (keep (mBits_s x11 (upd (mBits x11) (v5).toNatClampNeg ((mBits x11) ((v5 - 1)).toNatClampNeg))) (fun x14 => keep (v5 + (-1)) (fun y15 => rec13 (x14, y15)))))))))
def fX8_putsIn (x : MSt) (p1 : Int32) (p2 : Int32) (p3 : Int32) (p4 : Int32) : Option (MSt) := chk (inb p1 16) (keep ((40 * p1) + ((mSize x) (p1).toNatClampNeg)) (fun y17 => iterK FU (fX8_putsIn_13 p1 p2 p3 p4) (x, y17)))
set_option maxHeartbeats 4000000 in
set_option maxRecDepth 100000 in
theorem met_X8_putsIn {D : va_G} {cI cV cJ cD : ClassId} (l : Launch) (a : Nat → Nat) (x : MSt) (p1 : Int32) (p2 : Int32) (p3 : Int32) (p4 : Int32) (res : MSt) (hf : fX8_putsIn x p1 p2 p3 p4 = some res) : MM l yX8_putsIn cX8_putsIn 6 none { frames := 0, cells := 0, slots := 0, locals := 0 } D (TY cI cV cJ cD) (W_Model cI a x) (W_Model cI a res) [.ref (a 0), .int p1, .int p2, .int p3, .int p4] none := by
  intro sz
  refine Met.ofW (cc := cX8_putsIn) (maxL := 6) (ret := none) (by decide +kernel) rfl ?_
  intro p e s m args below meth c s₁ B hml hv
  obtain ⟨rfl, hsz, hP, hK, hD0, hE⟩ := hv
  have hx := B.exec
  have hb := B.bytes
  have hr := B.returns
  have hts := atoms_spec (ws := .code yX8_putsIn cX8_putsIn 6 none :: GW) B.pre
  have hg : ∀ w ∈ GW, w.before (([.ref (a 0), .int p1, .int p2, .int p3, .int p4] : List Value).toArray) s = true := fun w h => hts w (List.mem_cons_of_mem _ h)
  have hown : s.vm.findClass RX8 = some m.cls := findClass_of_methodNamed B.named
  have hlocks := B.notSynchronized
  subst hsz
  have hD := hD0.self (sz := s.heap.size)
  generalize hAe : va_A (W_Model cI a x) s.heap.size = A at hD hE ⊢
  have hA : ∀ q : Nat, s.heap.size ≤ q → A q := fun q h => by rw [← hAe]; exact Or.inr h
  have hS : va_S A s.heap s.heap [] := va_S.rf
  have hl := lv_entry ([.ref (a 0), .int p1, .int p2, .int p3, .int p4]) (n := 6) (Nat.le_of_ble_eq_true rfl)
  rw [lg_entry_eq]
  generalize (lg_sl ([.ref (a 0), .int p1, .int p2, .int p3, .int p4]) ++ List.replicate (6 - (lg_sl ([.ref (a 0), .int p1, .int p2, .int p3, .int p4])).length) Slot.unset).toArray = ls at hl ⊢
  have hl : lv_has ls 6 [(0, .ref (a 0)), (1, .int p1), (2, .int p2), (3, .int p3), (4, .int p4)] := hl
  have S13 : ∀ (v1 : Int32) (v2 : Int32) (v3 : Int32) (v4 : Int32) (rec13 : MSt × Int32 → Option (MSt)) (hrec13 : ∀ (x : MSt), ∀ (v5 : Int32), ∀ (H : Heap) (locs : List Loc) (ls : Array Slot), rec13 (x, v5) = some res → va_P D vwCl (W_Model cI a x) H → va_D A (W_Model cI a x) → va_S A s.heap H locs → lv_has ls 6 [(0, .ref (a 0)), (1, .int v1), (2, .int v2), (3, .int v3), (4, .int v4), (5, .int v5)] → W p l e ({ frames := 0, cells := 0, slots := 0, locals := 0 } : Room) s m ([.ref (a 0), .int p1, .int p2, .int p3, .int p4] : List Value).toArray below meth c H locs 0 0 (MQ below (QW D (TY cI cV cJ cD) (W_Model cI a res) A none) (([.ref (a 0), .int p1, .int p2, .int p3, .int p4] : List Value).toArray) s 0 0 A) (F0 m 13 ls [])) (x : MSt) (v5 : Int32) (H : Heap) (locs : List Loc) (ls : Array Slot), fX8_putsIn_13 v1 v2 v3 v4  rec13 (x, v5) = some res → va_P D vwCl (W_Model cI a x) H → va_D A (W_Model cI a x) → va_S A s.heap H locs → lv_has ls 6 [(0, .ref (a 0)), (1, .int v1), (2, .int v2), (3, .int v3), (4, .int v4), (5, .int v5)] → W p l e ({ frames := 0, cells := 0, slots := 0, locals := 0 } : Room) s m ([.ref (a 0), .int p1, .int p2, .int p3, .int p4] : List Value).toArray below meth c H locs 0 0 (MQ below (QW D (TY cI cV cJ cD) (W_Model cI a res) A none) (([.ref (a 0), .int p1, .int p2, .int p3, .int p4] : List Value).toArray) s 0 0 A) (F0 m 13 ls []) := by
    intro v1 v2 v3 v4 rec13 hrec13 x v5 H locs ls hf hP hD hS hl
    dsimp only [fX8_putsIn_13] at hf
    refine lv_iload hx hb dX8_putsIn_13 (lv_at hl 5 rfl) ?_
    refine lv_bipush (v := 40) hx hb dX8_putsIn_15 (by decide) ?_
    refine lv_iload_n hx hb dX8_putsIn_17 rfl (lv_at hl 1 rfl) ?_
    refine lv_imul hx hb dX8_putsIn_18 ?_
    refine lv_iload_n hx hb dX8_putsIn_19 rfl (lv_at hl 2 rfl) ?_
    refine lv_iadd hx hb dX8_putsIn_20 ?_
    refine lv_icmp_le (tgt := 62) hx hb dX8_putsIn_21 (by decide) (fun c1 => ?_) (fun c1 => ?_)
    · replace hf := if_t c1 hf
      refine lv_aload_n hx hb dX8_putsIn_62 rfl (lv_at hl 0 rfl) ?_
      refine va_get (D := D) (ci := 7) (v := .ref (a 6)) (C := RX8) (T := TX8) (N := 24) hx hb hg in_X8 hown hK hP 0 rfl rfl 7 (by decide) (hg _ w832) (fun _ h9 => h9) rfl dX8_putsIn_63 ?_
      refine lv_bipush (v := 40) hx hb dX8_putsIn_66 (by decide) ?_
      refine lv_iload_n hx hb dX8_putsIn_68 rfl (lv_at hl 1 rfl) ?_
      refine lv_imul hx hb dX8_putsIn_69 ?_
      refine lv_iload_n hx hb dX8_putsIn_70 rfl (lv_at hl 2 rfl) ?_
      refine lv_iadd hx hb dX8_putsIn_71 ?_
      refine lv_iload_n hx hb dX8_putsIn_72 rfl (lv_at hl 3 rfl) ?_
      obtain ⟨hi2, hf⟩ := chk_t hf
      refine va_iast hx hb hK hP hD hS 6 0 rfl rfl (inb_in hi2) dX8_putsIn_73 (fun H locs hP hD hS => ?_)
      obtain ⟨x3, hx3⟩ : ∃ z, z = (mValues_s x (upd (mValues x) (((40 * v1) + v2)).toNatClampNeg v3)) := ⟨_, rfl⟩
      replace hf := keep_e hf x3 hx3
      have hP : va_P D vwCl (W_Model cI a x3) H := by rw [hx3]; exact hP
      have hD : va_D A (W_Model cI a x3) := by rw [hx3]; exact hD
      refine lv_aload_n hx hb dX8_putsIn_74 rfl (lv_at hl 0 rfl) ?_
      refine va_get (D := D) (ci := 7) (v := .ref (a 7)) (C := RX8) (T := TX8) (N := 24) hx hb hg in_X8 hown hK hP 0 rfl rfl 8 (by decide) (hg _ w833) (fun _ h9 => h9) rfl dX8_putsIn_75 ?_
      refine lv_bipush (v := 40) hx hb dX8_putsIn_78 (by decide) ?_
      refine lv_iload_n hx hb dX8_putsIn_80 rfl (lv_at hl 1 rfl) ?_
      refine lv_imul hx hb dX8_putsIn_81 ?_
      refine lv_iload_n hx hb dX8_putsIn_82 rfl (lv_at hl 2 rfl) ?_
      refine lv_iadd hx hb dX8_putsIn_83 ?_
      refine lv_iload hx hb dX8_putsIn_84 (lv_at hl 4 rfl) ?_
      obtain ⟨hi4, hf⟩ := chk_t hf
      refine va_iast hx hb hK hP hD hS 7 0 rfl rfl (inb_in hi4) dX8_putsIn_86 (fun H locs hP hD hS => ?_)
      obtain ⟨x5, hx5⟩ : ∃ z, z = (mBits_s x3 (upd (mBits x3) (((40 * v1) + v2)).toNatClampNeg v4)) := ⟨_, rfl⟩
      replace hf := keep_e hf x5 hx5
      have hP : va_P D vwCl (W_Model cI a x5) H := by rw [hx5]; exact hP
      have hD : va_D A (W_Model cI a x5) := by rw [hx5]; exact hD
      refine lv_aload_n hx hb dX8_putsIn_87 rfl (lv_at hl 0 rfl) ?_
      refine va_get (D := D) (ci := 7) (v := .ref (a 4)) (C := RX8) (T := TX8) (N := 24) hx hb hg in_X8 hown hK hP 0 rfl rfl 5 (by decide) (hg _ w830) (fun _ h9 => h9) rfl dX8_putsIn_88 ?_
      refine lv_iload_n hx hb dX8_putsIn_91 rfl (lv_at hl 1 rfl) ?_
      refine lv_dup2_11 hx hb dX8_putsIn_92 rfl rfl ?_
      obtain ⟨hi6, hf⟩ := chk_t hf
      refine va_iald hx hb hK hP 4 0 rfl rfl (inb_in hi6) dX8_putsIn_93 ?_
      refine lv_iconst (v := 1) hx hb dX8_putsIn_94 (by decide) ?_
      refine lv_iadd hx hb dX8_putsIn_95 ?_
      obtain ⟨hi7, hf⟩ := chk_t hf
      refine va_iast hx hb hK hP hD hS 4 0 rfl rfl (inb_in hi7) dX8_putsIn_96 (fun H locs hP hD hS => ?_)
      obtain ⟨x8, hx8⟩ : ∃ z, z = (mSize_s x5 (upd (mSize x5) (v1).toNatClampNeg (((mSize x5) (v1).toNatClampNeg) + 1))) := ⟨_, rfl⟩
      replace hf := keep_e hf x8 hx8
      have hP : va_P D vwCl (W_Model cI a x8) H := by rw [hx8]; exact hP
      have hD : va_D A (W_Model cI a x8) := by rw [hx8]; exact hD
      obtain rfl := Option.some.inj hf
      exact W.vret hx hb hr (fun t ht hW => ⟨rfl, by rw [ht]; exact hP, va_K.moved hW.alike hK, hD, hS.F ht⟩) hS.2.2 dX8_putsIn_97 hlocks
    · replace hf := if_f c1 hf
      refine lv_aload_n hx hb dX8_putsIn_24 rfl (lv_at hl 0 rfl) ?_
      refine va_get (D := D) (ci := 7) (v := .ref (a 6)) (C := RX8) (T := TX8) (N := 24) hx hb hg in_X8 hown hK hP 0 rfl rfl 7 (by decide) (hg _ w832) (fun _ h9 => h9) rfl dX8_putsIn_25 ?_
      refine lv_iload hx hb dX8_putsIn_28 (lv_at hl 5 rfl) ?_
      refine lv_aload_n hx hb dX8_putsIn_30 rfl (lv_at hl 0 rfl) ?_
      refine va_get (D := D) (ci := 7) (v := .ref (a 6)) (C := RX8) (T := TX8) (N := 24) hx hb hg in_X8 hown hK hP 0 rfl rfl 7 (by decide) (hg _ w832) (fun _ h9 => h9) rfl dX8_putsIn_31 ?_
      refine lv_iload hx hb dX8_putsIn_34 (lv_at hl 5 rfl) ?_
      refine lv_iconst (v := 1) hx hb dX8_putsIn_36 (by decide) ?_
      refine lv_isub hx hb dX8_putsIn_37 ?_
      obtain ⟨hi9, hf⟩ := chk_t hf
      refine va_iald hx hb hK hP 6 0 rfl rfl (inb_in hi9) dX8_putsIn_38 ?_
      obtain ⟨hi10, hf⟩ := chk_t hf
      refine va_iast hx hb hK hP hD hS 6 0 rfl rfl (inb_in hi10) dX8_putsIn_39 (fun H locs hP hD hS => ?_)
      obtain ⟨x11, hx11⟩ : ∃ z, z = (mValues_s x (upd (mValues x) (v5).toNatClampNeg ((mValues x) ((v5 - 1)).toNatClampNeg))) := ⟨_, rfl⟩
      replace hf := keep_e hf x11 hx11
      have hP : va_P D vwCl (W_Model cI a x11) H := by rw [hx11]; exact hP
      have hD : va_D A (W_Model cI a x11) := by rw [hx11]; exact hD
      refine lv_aload_n hx hb dX8_putsIn_40 rfl (lv_at hl 0 rfl) ?_
      refine va_get (D := D) (ci := 7) (v := .ref (a 7)) (C := RX8) (T := TX8) (N := 24) hx hb hg in_X8 hown hK hP 0 rfl rfl 8 (by decide) (hg _ w833) (fun _ h9 => h9) rfl dX8_putsIn_41 ?_
      refine lv_iload hx hb dX8_putsIn_44 (lv_at hl 5 rfl) ?_
      refine lv_aload_n hx hb dX8_putsIn_46 rfl (lv_at hl 0 rfl) ?_
      refine va_get (D := D) (ci := 7) (v := .ref (a 7)) (C := RX8) (T := TX8) (N := 24) hx hb hg in_X8 hown hK hP 0 rfl rfl 8 (by decide) (hg _ w833) (fun _ h9 => h9) rfl dX8_putsIn_47 ?_
      refine lv_iload hx hb dX8_putsIn_50 (lv_at hl 5 rfl) ?_
      refine lv_iconst (v := 1) hx hb dX8_putsIn_52 (by decide) ?_
      refine lv_isub hx hb dX8_putsIn_53 ?_
      obtain ⟨hi12, hf⟩ := chk_t hf
      refine va_iald hx hb hK hP 7 0 rfl rfl (inb_in hi12) dX8_putsIn_54 ?_
      obtain ⟨hi13, hf⟩ := chk_t hf
      refine va_iast hx hb hK hP hD hS 7 0 rfl rfl (inb_in hi13) dX8_putsIn_55 (fun H locs hP hD hS => ?_)
      obtain ⟨x14, hx14⟩ : ∃ z, z = (mBits_s x11 (upd (mBits x11) (v5).toNatClampNeg ((mBits x11) ((v5 - 1)).toNatClampNeg))) := ⟨_, rfl⟩
      replace hf := keep_e hf x14 hx14
      have hP : va_P D vwCl (W_Model cI a x14) H := by rw [hx14]; exact hP
      have hD : va_D A (W_Model cI a x14) := by rw [hx14]; exact hD
      obtain ⟨y15, hy15⟩ : ∃ z : Int32, z = (v5 + (-1)) := ⟨_, rfl⟩
      replace hf := keep_e hf y15 hy15
      refine lv_iinc (v := y15) (lv' := [(5, .int y15), (0, .ref (a 0)), (1, .int v1), (2, .int v2), (3, .int v3), (4, .int v4)]) hx hb dX8_putsIn_56 hl (k := 5) rfl (by rw [hy15]; rfl) (by decide) rfl (fun ls hl => ?_)
      refine lv_goto (tgt := 13) hx hb dX8_putsIn_59 (by decide) ?_
      exact hrec13 x14 y15 H locs ls hf hP hD hS (lv_sub hl [1, 2, 3, 4, 5, 0] rfl)
  have L13 : ∀ (v1 : Int32) (v2 : Int32) (v3 : Int32) (v4 : Int32) (fu : Nat) (x : MSt) (v5 : Int32) (H : Heap) (locs : List Loc) (ls : Array Slot), iterK fu (fX8_putsIn_13 v1 v2 v3 v4 ) (x, v5) = some res → va_P D vwCl (W_Model cI a x) H → va_D A (W_Model cI a x) → va_S A s.heap H locs → lv_has ls 6 [(0, .ref (a 0)), (1, .int v1), (2, .int v2), (3, .int v3), (4, .int v4), (5, .int v5)] → W p l e ({ frames := 0, cells := 0, slots := 0, locals := 0 } : Room) s m ([.ref (a 0), .int p1, .int p2, .int p3, .int p4] : List Value).toArray below meth c H locs 0 0 (MQ below (QW D (TY cI cV cJ cD) (W_Model cI a res) A none) (([.ref (a 0), .int p1, .int p2, .int p3, .int p4] : List Value).toArray) s 0 0 A) (F0 m 13 ls []) := by
    intro v1 v2 v3 v4 fu
    induction fu with
    | zero =>
      intro x v5 H locs ls hf
      cases hf
    | succ fu ih =>
      intro x v5 H locs ls hf hP hD hS hl
      exact S13 v1 v2 v3 v4 (iterK fu (fX8_putsIn_13 v1 v2 v3 v4 )) ih x v5 H locs ls hf hP hD hS hl
  have M0 : ∀ (H : Heap) (locs : List Loc) (ls : Array Slot), fX8_putsIn x p1 p2 p3 p4 = some res → va_P D vwCl (W_Model cI a x) H → va_D A (W_Model cI a x) → va_S A s.heap H locs → lv_has ls 6 [(0, .ref (a 0)), (1, .int p1), (2, .int p2), (3, .int p3), (4, .int p4)] → W p l e ({ frames := 0, cells := 0, slots := 0, locals := 0 } : Room) s m ([.ref (a 0), .int p1, .int p2, .int p3, .int p4] : List Value).toArray below meth c H locs 0 0 (MQ below (QW D (TY cI cV cJ cD) (W_Model cI a res) A none) (([.ref (a 0), .int p1, .int p2, .int p3, .int p4] : List Value).toArray) s 0 0 A) (F0 m 0 ls []) := by
    intro H locs ls hf hP hD hS hl
    dsimp only [fX8_putsIn] at hf
    refine lv_bipush (v := 40) hx hb dX8_putsIn_0 (by decide) ?_
    refine lv_iload_n hx hb dX8_putsIn_2 rfl (lv_at hl 1 rfl) ?_
    refine lv_imul hx hb dX8_putsIn_3 ?_
    refine lv_aload_n hx hb dX8_putsIn_4 rfl (lv_at hl 0 rfl) ?_
    refine va_get (D := D) (ci := 7) (v := .ref (a 4)) (C := RX8) (T := TX8) (N := 24) hx hb hg in_X8 hown hK hP 0 rfl rfl 5 (by decide) (hg _ w830) (fun _ h9 => h9) rfl dX8_putsIn_5 ?_
    refine lv_iload_n hx hb dX8_putsIn_8 rfl (lv_at hl 1 rfl) ?_
    obtain ⟨hi16, hf⟩ := chk_t hf
    refine va_iald hx hb hK hP 4 0 rfl rfl (inb_in hi16) dX8_putsIn_9 ?_
    refine lv_iadd hx hb dX8_putsIn_10 ?_
    refine lv_topi (fun y17 hy17 => ?_)
    replace hf := keep_e hf y17 hy17
    refine lv_istore (lv' := [(5, .int y17), (0, .ref (a 0)), (1, .int p1), (2, .int p2), (3, .int p3), (4, .int p4)]) hx hb dX8_putsIn_11 hl (by decide) rfl (fun ls hl => ?_)
    exact L13 p1 p2 p3 p4 FU x y17 H locs ls hf hP hD hS (lv_sub hl [1, 2, 3, 4, 5, 0] rfl)
  exact M0 s.heap [] ls hf hP hD hS hl
/-! CompactformsModel.takesOut(II)I -/
def fX8_takesOut_20 (v1 : Int32) (v3 : Int32) (rec20 : MSt × Int32 → Option (MSt × Int32)) (s : MSt × Int32) : Option (MSt × Int32) := match s with | (x, v4) => chk (inb v1 16) ((if (((40 * v1) + ((mSize x) (v1).toNatClampNeg)) - 1) ≤ v4 then chk (inb v1 16) (chk (inb v1 16) (keep (mSize_s x (upd (mSize x) (v1).toNatClampNeg (((mSize x) (v1).toNatClampNeg) - 1))) (fun x5 => some (x5, v3)))) else chk (inb (v4 + 1) 640) (chk (inb v4 640) (keep (mValues_s x (upd (mValues x) (v4).toNatClampNeg ((mValues x) ((v4 + 1)).toNatClampNeg))) (fun x8 => chk (inb (v4 + 1) 640) (chk (inb v4 640) (keep (mBits_s x8 (upd (mBits x8) (v4).toNatClampNeg ((mBits x8) ((v4 + 1)).toNatClampNeg))) (fun x11 => keep (v4 + 1) (fun y12 => rec20 (x11, y12))))))))))
def fX8_takesOut (x : MSt) (p1 : Int32) (p2 : Int32) : Option (MSt × Int32) := chk (inb ((40 * p1) + p2) 640) (keep ((mValues x) (((40 * p1) + p2)).toNatClampNeg) (fun y14 => keep ((40 * p1) + p2) (fun y15 => iterK FU (fX8_takesOut_20 p1 y14) (x, y15))))
set_option maxHeartbeats 4000000 in
set_option maxRecDepth 100000 in
theorem met_X8_takesOut {D : va_G} {cI cV cJ cD : ClassId} (l : Launch) (a : Nat → Nat) (x : MSt) (p1 : Int32) (p2 : Int32) (res : MSt × Int32) (hf : fX8_takesOut x p1 p2 = some res) : MM l yX8_takesOut cX8_takesOut 5 (some .int) { frames := 0, cells := 0, slots := 0, locals := 0 } D (TY cI cV cJ cD) (W_Model cI a x) (W_Model cI a res.1) [.ref (a 0), .int p1, .int p2] (some (.int res.2)) := by
  intro sz
  refine Met.ofW (cc := cX8_takesOut) (maxL := 5) (ret := (some .int)) (by decide +kernel) rfl ?_
  intro p e s m args below meth c s₁ B hml hv
  obtain ⟨rfl, hsz, hP, hK, hD0, hE⟩ := hv
  have hx := B.exec
  have hb := B.bytes
  have hr := B.returns
  have hts := atoms_spec (ws := .code yX8_takesOut cX8_takesOut 5 (some .int) :: GW) B.pre
  have hg : ∀ w ∈ GW, w.before (([.ref (a 0), .int p1, .int p2] : List Value).toArray) s = true := fun w h => hts w (List.mem_cons_of_mem _ h)
  have hown : s.vm.findClass RX8 = some m.cls := findClass_of_methodNamed B.named
  have hlocks := B.notSynchronized
  subst hsz
  have hD := hD0.self (sz := s.heap.size)
  generalize hAe : va_A (W_Model cI a x) s.heap.size = A at hD hE ⊢
  have hA : ∀ q : Nat, s.heap.size ≤ q → A q := fun q h => by rw [← hAe]; exact Or.inr h
  have hS : va_S A s.heap s.heap [] := va_S.rf
  have hl := lv_entry ([.ref (a 0), .int p1, .int p2]) (n := 5) (Nat.le_of_ble_eq_true rfl)
  rw [lg_entry_eq]
  generalize (lg_sl ([.ref (a 0), .int p1, .int p2]) ++ List.replicate (5 - (lg_sl ([.ref (a 0), .int p1, .int p2])).length) Slot.unset).toArray = ls at hl ⊢
  have hl : lv_has ls 5 [(0, .ref (a 0)), (1, .int p1), (2, .int p2)] := hl
  have S20 : ∀ (v1 : Int32) (v3 : Int32) (rec20 : MSt × Int32 → Option (MSt × Int32)) (hrec20 : ∀ (x : MSt), ∀ (v4 : Int32), ∀ (H : Heap) (locs : List Loc) (ls : Array Slot), rec20 (x, v4) = some res → va_P D vwCl (W_Model cI a x) H → va_D A (W_Model cI a x) → va_S A s.heap H locs → lv_has ls 5 [(0, .ref (a 0)), (1, .int v1), (3, .int v3), (4, .int v4)] → W p l e ({ frames := 0, cells := 0, slots := 0, locals := 0 } : Room) s m ([.ref (a 0), .int p1, .int p2] : List Value).toArray below meth c H locs 0 0 (MQ below (QW D (TY cI cV cJ cD) (W_Model cI a res.1) A (some (.int res.2))) (([.ref (a 0), .int p1, .int p2] : List Value).toArray) s 0 0 A) (F0 m 20 ls [])) (x : MSt) (v4 : Int32) (H : Heap) (locs : List Loc) (ls : Array Slot), fX8_takesOut_20 v1 v3  rec20 (x, v4) = some res → va_P D vwCl (W_Model cI a x) H → va_D A (W_Model cI a x) → va_S A s.heap H locs → lv_has ls 5 [(0, .ref (a 0)), (1, .int v1), (3, .int v3), (4, .int v4)] → W p l e ({ frames := 0, cells := 0, slots := 0, locals := 0 } : Room) s m ([.ref (a 0), .int p1, .int p2] : List Value).toArray below meth c H locs 0 0 (MQ below (QW D (TY cI cV cJ cD) (W_Model cI a res.1) A (some (.int res.2))) (([.ref (a 0), .int p1, .int p2] : List Value).toArray) s 0 0 A) (F0 m 20 ls []) := by
    intro v1 v3 rec20 hrec20 x v4 H locs ls hf hP hD hS hl
    dsimp only [fX8_takesOut_20] at hf
    refine lv_iload hx hb dX8_takesOut_20 (lv_at hl 3 rfl) ?_
    refine lv_bipush (v := 40) hx hb dX8_takesOut_22 (by decide) ?_
    refine lv_iload_n hx hb dX8_takesOut_24 rfl (lv_at hl 1 rfl) ?_
    refine lv_imul hx hb dX8_takesOut_25 ?_
    refine lv_aload_n hx hb dX8_takesOut_26 rfl (lv_at hl 0 rfl) ?_
    refine va_get (D := D) (ci := 7) (v := .ref (a 4)) (C := RX8) (T := TX8) (N := 24) hx hb hg in_X8 hown hK hP 0 rfl rfl 5 (by decide) (hg _ w830) (fun _ h9 => h9) rfl dX8_takesOut_27 ?_
    refine lv_iload_n hx hb dX8_takesOut_30 rfl (lv_at hl 1 rfl) ?_
    obtain ⟨hi1, hf⟩ := chk_t hf
    refine va_iald hx hb hK hP 4 0 rfl rfl (inb_in hi1) dX8_takesOut_31 ?_
    refine lv_iadd hx hb dX8_takesOut_32 ?_
    refine lv_iconst (v := 1) hx hb dX8_takesOut_33 (by decide) ?_
    refine lv_isub hx hb dX8_takesOut_34 ?_
    refine lv_icmp_ge (tgt := 76) hx hb dX8_takesOut_35 (by decide) (fun c2 => ?_) (fun c2 => ?_)
    · replace hf := if_t c2 hf
      refine lv_aload_n hx hb dX8_takesOut_76 rfl (lv_at hl 0 rfl) ?_
      refine va_get (D := D) (ci := 7) (v := .ref (a 4)) (C := RX8) (T := TX8) (N := 24) hx hb hg in_X8 hown hK hP 0 rfl rfl 5 (by decide) (hg _ w830) (fun _ h9 => h9) rfl dX8_takesOut_77 ?_
      refine lv_iload_n hx hb dX8_takesOut_80 rfl (lv_at hl 1 rfl) ?_
      refine lv_dup2_11 hx hb dX8_takesOut_81 rfl rfl ?_
      obtain ⟨hi3, hf⟩ := chk_t hf
      refine va_iald hx hb hK hP 4 0 rfl rfl (inb_in hi3) dX8_takesOut_82 ?_
      refine lv_iconst (v := 1) hx hb dX8_takesOut_83 (by decide) ?_
      refine lv_isub hx hb dX8_takesOut_84 ?_
      obtain ⟨hi4, hf⟩ := chk_t hf
      refine va_iast hx hb hK hP hD hS 4 0 rfl rfl (inb_in hi4) dX8_takesOut_85 (fun H locs hP hD hS => ?_)
      obtain ⟨x5, hx5⟩ : ∃ z, z = (mSize_s x (upd (mSize x) (v1).toNatClampNeg (((mSize x) (v1).toNatClampNeg) - 1))) := ⟨_, rfl⟩
      replace hf := keep_e hf x5 hx5
      have hP : va_P D vwCl (W_Model cI a x5) H := by rw [hx5]; exact hP
      have hD : va_D A (W_Model cI a x5) := by rw [hx5]; exact hD
      refine lv_iload_n hx hb dX8_takesOut_86 rfl (lv_at hl 2 rfl) ?_
      obtain rfl := Option.some.inj hf
      exact W.iret (v := v3) hx hb hr (fun t ht hW => ⟨rfl, by rw [ht]; exact hP, va_K.moved hW.alike hK, hD, hS.F ht⟩) hS.2.2 dX8_takesOut_87 hlocks
    · replace hf := if_f c2 hf
      refine lv_aload_n hx hb dX8_takesOut_38 rfl (lv_at hl 0 rfl) ?_
      refine va_get (D := D) (ci := 7) (v := .ref (a 6)) (C := RX8) (T := TX8) (N := 24) hx hb hg in_X8 hown hK hP 0 rfl rfl 7 (by decide) (hg _ w832) (fun _ h9 => h9) rfl dX8_takesOut_39 ?_
      refine lv_iload hx hb dX8_takesOut_42 (lv_at hl 3 rfl) ?_
      refine lv_aload_n hx hb dX8_takesOut_44 rfl (lv_at hl 0 rfl) ?_
      refine va_get (D := D) (ci := 7) (v := .ref (a 6)) (C := RX8) (T := TX8) (N := 24) hx hb hg in_X8 hown hK hP 0 rfl rfl 7 (by decide) (hg _ w832) (fun _ h9 => h9) rfl dX8_takesOut_45 ?_
      refine lv_iload hx hb dX8_takesOut_48 (lv_at hl 3 rfl) ?_
      refine lv_iconst (v := 1) hx hb dX8_takesOut_50 (by decide) ?_
      refine lv_iadd hx hb dX8_takesOut_51 ?_
      obtain ⟨hi6, hf⟩ := chk_t hf
      refine va_iald hx hb hK hP 6 0 rfl rfl (inb_in hi6) dX8_takesOut_52 ?_
      obtain ⟨hi7, hf⟩ := chk_t hf
      refine va_iast hx hb hK hP hD hS 6 0 rfl rfl (inb_in hi7) dX8_takesOut_53 (fun H locs hP hD hS => ?_)
      obtain ⟨x8, hx8⟩ : ∃ z, z = (mValues_s x (upd (mValues x) (v4).toNatClampNeg ((mValues x) ((v4 + 1)).toNatClampNeg))) := ⟨_, rfl⟩
      replace hf := keep_e hf x8 hx8
      have hP : va_P D vwCl (W_Model cI a x8) H := by rw [hx8]; exact hP
      have hD : va_D A (W_Model cI a x8) := by rw [hx8]; exact hD
      refine lv_aload_n hx hb dX8_takesOut_54 rfl (lv_at hl 0 rfl) ?_
      refine va_get (D := D) (ci := 7) (v := .ref (a 7)) (C := RX8) (T := TX8) (N := 24) hx hb hg in_X8 hown hK hP 0 rfl rfl 8 (by decide) (hg _ w833) (fun _ h9 => h9) rfl dX8_takesOut_55 ?_
      refine lv_iload hx hb dX8_takesOut_58 (lv_at hl 3 rfl) ?_
      refine lv_aload_n hx hb dX8_takesOut_60 rfl (lv_at hl 0 rfl) ?_
      refine va_get (D := D) (ci := 7) (v := .ref (a 7)) (C := RX8) (T := TX8) (N := 24) hx hb hg in_X8 hown hK hP 0 rfl rfl 8 (by decide) (hg _ w833) (fun _ h9 => h9) rfl dX8_takesOut_61 ?_
      refine lv_iload hx hb dX8_takesOut_64 (lv_at hl 3 rfl) ?_
      refine lv_iconst (v := 1) hx hb dX8_takesOut_66 (by decide) ?_
      refine lv_iadd hx hb dX8_takesOut_67 ?_
      obtain ⟨hi9, hf⟩ := chk_t hf
      refine va_iald hx hb hK hP 7 0 rfl rfl (inb_in hi9) dX8_takesOut_68 ?_
      obtain ⟨hi10, hf⟩ := chk_t hf
      refine va_iast hx hb hK hP hD hS 7 0 rfl rfl (inb_in hi10) dX8_takesOut_69 (fun H locs hP hD hS => ?_)
      obtain ⟨x11, hx11⟩ : ∃ z, z = (mBits_s x8 (upd (mBits x8) (v4).toNatClampNeg ((mBits x8) ((v4 + 1)).toNatClampNeg))) := ⟨_, rfl⟩
      replace hf := keep_e hf x11 hx11
      have hP : va_P D vwCl (W_Model cI a x11) H := by rw [hx11]; exact hP
      have hD : va_D A (W_Model cI a x11) := by rw [hx11]; exact hD
      obtain ⟨y12, hy12⟩ : ∃ z : Int32, z = (v4 + 1) := ⟨_, rfl⟩
      replace hf := keep_e hf y12 hy12
      refine lv_iinc (v := y12) (lv' := [(4, .int y12), (0, .ref (a 0)), (1, .int v1), (3, .int v3)]) hx hb dX8_takesOut_70 hl (k := 3) rfl (by rw [hy12]; rfl) (by decide) rfl (fun ls hl => ?_)
      refine lv_goto (tgt := 20) hx hb dX8_takesOut_73 (by decide) ?_
      exact hrec20 x11 y12 H locs ls hf hP hD hS (lv_sub hl [1, 2, 3, 0] rfl)
  have L20 : ∀ (v1 : Int32) (v3 : Int32) (fu : Nat) (x : MSt) (v4 : Int32) (H : Heap) (locs : List Loc) (ls : Array Slot), iterK fu (fX8_takesOut_20 v1 v3 ) (x, v4) = some res → va_P D vwCl (W_Model cI a x) H → va_D A (W_Model cI a x) → va_S A s.heap H locs → lv_has ls 5 [(0, .ref (a 0)), (1, .int v1), (3, .int v3), (4, .int v4)] → W p l e ({ frames := 0, cells := 0, slots := 0, locals := 0 } : Room) s m ([.ref (a 0), .int p1, .int p2] : List Value).toArray below meth c H locs 0 0 (MQ below (QW D (TY cI cV cJ cD) (W_Model cI a res.1) A (some (.int res.2))) (([.ref (a 0), .int p1, .int p2] : List Value).toArray) s 0 0 A) (F0 m 20 ls []) := by
    intro v1 v3 fu
    induction fu with
    | zero =>
      intro x v4 H locs ls hf
      cases hf
    | succ fu ih =>
      intro x v4 H locs ls hf hP hD hS hl
      exact S20 v1 v3 (iterK fu (fX8_takesOut_20 v1 v3 )) ih x v4 H locs ls hf hP hD hS hl
  have M0 : ∀ (H : Heap) (locs : List Loc) (ls : Array Slot), fX8_takesOut x p1 p2 = some res → va_P D vwCl (W_Model cI a x) H → va_D A (W_Model cI a x) → va_S A s.heap H locs → lv_has ls 5 [(0, .ref (a 0)), (1, .int p1), (2, .int p2)] → W p l e ({ frames := 0, cells := 0, slots := 0, locals := 0 } : Room) s m ([.ref (a 0), .int p1, .int p2] : List Value).toArray below meth c H locs 0 0 (MQ below (QW D (TY cI cV cJ cD) (W_Model cI a res.1) A (some (.int res.2))) (([.ref (a 0), .int p1, .int p2] : List Value).toArray) s 0 0 A) (F0 m 0 ls []) := by
    intro H locs ls hf hP hD hS hl
    dsimp only [fX8_takesOut] at hf
    refine lv_aload_n hx hb dX8_takesOut_0 rfl (lv_at hl 0 rfl) ?_
    refine va_get (D := D) (ci := 7) (v := .ref (a 6)) (C := RX8) (T := TX8) (N := 24) hx hb hg in_X8 hown hK hP 0 rfl rfl 7 (by decide) (hg _ w832) (fun _ h9 => h9) rfl dX8_takesOut_1 ?_
    refine lv_bipush (v := 40) hx hb dX8_takesOut_4 (by decide) ?_
    refine lv_iload_n hx hb dX8_takesOut_6 rfl (lv_at hl 1 rfl) ?_
    refine lv_imul hx hb dX8_takesOut_7 ?_
    refine lv_iload_n hx hb dX8_takesOut_8 rfl (lv_at hl 2 rfl) ?_
    refine lv_iadd hx hb dX8_takesOut_9 ?_
    obtain ⟨hi13, hf⟩ := chk_t hf
    refine va_iald hx hb hK hP 6 0 rfl rfl (inb_in hi13) dX8_takesOut_10 ?_
    refine lv_topi (fun y14 hy14 => ?_)
    replace hf := keep_e hf y14 hy14
    refine lv_istore_n (lv' := [(3, .int y14), (0, .ref (a 0)), (1, .int p1), (2, .int p2)]) hx hb dX8_takesOut_11 rfl hl (by decide) rfl (fun ls hl => ?_)
    refine lv_bipush (v := 40) hx hb dX8_takesOut_12 (by decide) ?_
    refine lv_iload_n hx hb dX8_takesOut_14 rfl (lv_at hl 2 rfl) ?_
    refine lv_imul hx hb dX8_takesOut_15 ?_
    refine lv_iload_n hx hb dX8_takesOut_16 rfl (lv_at hl 3 rfl) ?_
    refine lv_iadd hx hb dX8_takesOut_17 ?_
    refine lv_topi (fun y15 hy15 => ?_)
    replace hf := keep_e hf y15 hy15
    refine lv_istore (lv' := [(4, .int y15), (3, .int y14), (0, .ref (a 0)), (1, .int p1), (2, .int p2)]) hx hb dX8_takesOut_18 hl (by decide) rfl (fun ls hl => ?_)
    exact L20 p1 y14 FU x y15 H locs ls hf hP hD hS (lv_sub hl [2, 3, 1, 0] rfl)
  exact M0 s.heap [] ls hf hP hD hS hl

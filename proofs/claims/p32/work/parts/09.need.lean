/-! Compactforms.isWithin(III)Z -/
def fX7_isWithin (p0 : Int32) (p1 : Int32) (p2 : Int32) : Option (Int32) := (if p0 < p1 then some 0 else (if p2 < p0 then some 0 else some 1))
set_option maxHeartbeats 4000000 in
set_option maxRecDepth 100000 in
theorem met_X7_isWithin {D : va_G} {cI cV cJ cD : ClassId} (l : Launch) (p0 : Int32) (p1 : Int32) (p2 : Int32) (res : Int32) (hf : fX7_isWithin p0 p1 p2 = some res) : MM l yX7_isWithin cX7_isWithin 3 (some .boolean) { frames := 0, cells := 0, slots := 0, locals := 0 } D (TY cI cV cJ cD) ([]) ([]) [.int p0, .int p1, .int p2] (some (.int res)) := by
  intro sz
  refine Met.ofW (cc := cX7_isWithin) (maxL := 3) (ret := (some .boolean)) (by decide +kernel) rfl ?_
  intro p e s m args below meth c s₁ B hml hv
  obtain ⟨rfl, hsz, hP, hK, hD0, hE⟩ := hv
  have hx := B.exec
  have hb := B.bytes
  have hr := B.returns
  have hts := atoms_spec (ws := .code yX7_isWithin cX7_isWithin 3 (some .boolean) :: GW) B.pre
  have hg : ∀ w ∈ GW, w.before (([.int p0, .int p1, .int p2] : List Value).toArray) s = true := fun w h => hts w (List.mem_cons_of_mem _ h)
  have hown : s.vm.findClass RX7 = some m.cls := findClass_of_methodNamed B.named
  have hlocks := B.notSynchronized
  subst hsz
  have hD := hD0.self (sz := s.heap.size)
  generalize hAe : va_A ([]) s.heap.size = A at hD hE ⊢
  have hA : ∀ q : Nat, s.heap.size ≤ q → A q := fun q h => by rw [← hAe]; exact Or.inr h
  have hS : va_S A s.heap s.heap [] := va_S.rf
  have hl := lv_entry ([.int p0, .int p1, .int p2]) (n := 3) (Nat.le_of_ble_eq_true rfl)
  rw [lg_entry_eq]
  generalize (lg_sl ([.int p0, .int p1, .int p2]) ++ List.replicate (3 - (lg_sl ([.int p0, .int p1, .int p2])).length) Slot.unset).toArray = ls at hl ⊢
  have hl : lv_has ls 3 [(0, .int p0), (1, .int p1), (2, .int p2)] := hl
  have M0 : ∀ (H : Heap) (locs : List Loc) (ls : Array Slot), fX7_isWithin p0 p1 p2 = some res → va_P D vwCl ([]) H → va_D A ([]) → va_S A s.heap H locs → lv_has ls 3 [(0, .int p0), (1, .int p1), (2, .int p2)] → W p l e ({ frames := 0, cells := 0, slots := 0, locals := 0 } : Room) s m ([.int p0, .int p1, .int p2] : List Value).toArray below meth c H locs 0 0 (MQ below (QW D (TY cI cV cJ cD) ([]) A (some (.int res))) (([.int p0, .int p1, .int p2] : List Value).toArray) s 0 0 A) (F0 m 0 ls []) := by
    intro H locs ls hf hP hD hS hl
    dsimp only [fX7_isWithin] at hf
    refine lv_iload_n hx hb dX7_isWithin_0 rfl (lv_at hl 1 rfl) ?_
    refine lv_iload_n hx hb dX7_isWithin_1 rfl (lv_at hl 0 rfl) ?_
    refine lv_icmp_gt (tgt := 14) hx hb dX7_isWithin_2 (by decide) (fun c1 => ?_) (fun c1 => ?_)
    · replace hf := if_t c1 hf
      refine lv_iconst (v := 0) hx hb dX7_isWithin_14 (by decide) ?_
      obtain rfl := Option.some.inj hf
      exact W.zret (v := 0) hx hb hr (by decide +kernel) (fun t ht hW => ⟨rfl, by rw [ht]; exact hP, va_K.moved hW.alike hK, hD, hS.F ht⟩) hS.2.2 dX7_isWithin_15 hlocks
    · replace hf := if_f c1 hf
      refine lv_iload_n hx hb dX7_isWithin_5 rfl (lv_at hl 0 rfl) ?_
      refine lv_iload_n hx hb dX7_isWithin_6 rfl (lv_at hl 2 rfl) ?_
      refine lv_icmp_gt (tgt := 14) hx hb dX7_isWithin_7 (by decide) (fun c2 => ?_) (fun c2 => ?_)
      · replace hf := if_t c2 hf
        refine lv_iconst (v := 0) hx hb dX7_isWithin_14 (by decide) ?_
        obtain rfl := Option.some.inj hf
        exact W.zret (v := 0) hx hb hr (by decide +kernel) (fun t ht hW => ⟨rfl, by rw [ht]; exact hP, va_K.moved hW.alike hK, hD, hS.F ht⟩) hS.2.2 dX7_isWithin_15 hlocks
      · replace hf := if_f c2 hf
        refine lv_iconst (v := 1) hx hb dX7_isWithin_10 (by decide) ?_
        refine lv_goto (tgt := 15) hx hb dX7_isWithin_11 (by decide) ?_
        obtain rfl := Option.some.inj hf
        exact W.zret (v := 1) hx hb hr (by decide +kernel) (fun t ht hW => ⟨rfl, by rw [ht]; exact hP, va_K.moved hW.alike hK, hD, hS.F ht⟩) hS.2.2 dX7_isWithin_15 hlocks
  exact M0 s.heap [] ls hf hP hD hS hl
/-! Compactforms.isKey(I)Z -/
def fX7_isKey (p0 : Int32) : Option (Int32) := (fX7_isWithin p0 0 15).bind (fun u1 => chk (isB u1) (some u1))
set_option maxHeartbeats 4000000 in
set_option maxRecDepth 100000 in
theorem met_X7_isKey {D : va_G} {cI cV cJ cD : ClassId} (l : Launch) (p0 : Int32) (res : Int32) (hf : fX7_isKey p0 = some res) : MM l yX7_isKey cX7_isKey 1 (some .boolean) { frames := 1, cells := 0, slots := 0, locals := 22 } D (TY cI cV cJ cD) ([]) ([]) [.int p0] (some (.int res)) := by
  intro sz
  refine Met.ofW (cc := cX7_isKey) (maxL := 1) (ret := (some .boolean)) (by decide +kernel) rfl ?_
  intro p e s m args below meth c s₁ B hml hv
  obtain ⟨rfl, hsz, hP, hK, hD0, hE⟩ := hv
  have hx := B.exec
  have hb := B.bytes
  have hr := B.returns
  have hts := atoms_spec (ws := .code yX7_isKey cX7_isKey 1 (some .boolean) :: GW) B.pre
  have hg : ∀ w ∈ GW, w.before (([.int p0] : List Value).toArray) s = true := fun w h => hts w (List.mem_cons_of_mem _ h)
  have hown : s.vm.findClass RX7 = some m.cls := findClass_of_methodNamed B.named
  have hlocks := B.notSynchronized
  subst hsz
  have hD := hD0.self (sz := s.heap.size)
  generalize hAe : va_A ([]) s.heap.size = A at hD hE ⊢
  have hA : ∀ q : Nat, s.heap.size ≤ q → A q := fun q h => by rw [← hAe]; exact Or.inr h
  have hS : va_S A s.heap s.heap [] := va_S.rf
  have hl := lv_entry ([.int p0]) (n := 1) (Nat.le_of_ble_eq_true rfl)
  rw [lg_entry_eq]
  generalize (lg_sl ([.int p0]) ++ List.replicate (1 - (lg_sl ([.int p0])).length) Slot.unset).toArray = ls at hl ⊢
  have hl : lv_has ls 1 [(0, .int p0)] := hl
  have M0 : ∀ (H : Heap) (locs : List Loc) (ls : Array Slot), fX7_isKey p0 = some res → va_P D vwCl ([]) H → va_D A ([]) → va_S A s.heap H locs → lv_has ls 1 [(0, .int p0)] → W p l e ({ frames := 1, cells := 0, slots := 0, locals := 22 } : Room) s m ([.int p0] : List Value).toArray below meth c H locs 0 0 (MQ below (QW D (TY cI cV cJ cD) ([]) A (some (.int res))) (([.int p0] : List Value).toArray) s 0 0 A) (F0 m 0 ls []) := by
    intro H locs ls hf hP hD hS hl
    dsimp only [fX7_isKey] at hf
    refine lv_iload_n hx hb dX7_isKey_0 rfl (lv_at hl 0 rfl) ?_
    refine lv_iconst (v := 0) hx hb dX7_isKey_1 (by decide) ?_
    refine lv_bipush (v := 15) hx hb dX7_isKey_2 (by decide) ?_
    obtain ⟨u1, hc2, hf⟩ := bind_t hf
    refine k_S (As := [.int p0, .int 0, .int 15]) (rest := []) (n := 3) ⟨hx, hb, hml, hown, hts⟩ (met_X7_isWithin l p0 0 15 u1 hc2) w215 w216 w1 w217 ⟨by decide +kernel, by decide +kernel, by decide +kernel⟩ ⟨Nat.le_of_ble_eq_true rfl, Nat.le_of_ble_eq_true rfl⟩ hK hE hP hD hS hA (isC := []) (isR := []) (isB := []) (ws' := []) ⟨([] : List Nat).filterMap (fun i : Nat => ([] : va_W)[i]?), rfl, rfl, rfl, rfl, by decide, rfl, rfl⟩ rfl hl.1 rfl (Nat.le_of_ble_eq_true rfl) dX7_isKey_4 ⟨Nat.le_of_ble_eq_true rfl, Nat.le_of_ble_eq_true rfl⟩ (fun H locs hP hD hS => ?_)
    try dsimp only at hf
    refine W.eq (g2 := F0 m 7 ls [.int u1]) rfl ?_
    obtain ⟨hz3, hf⟩ := chk_t hf
    obtain rfl := Option.some.inj hf
    exact W.zret (v := u1) hx hb hr (isB_narrow hz3) (fun t ht hW => ⟨rfl, by rw [ht]; exact hP, va_K.moved hW.alike hK, hD, hS.F ht⟩) hS.2.2 dX7_isKey_7 hlocks
  exact M0 s.heap [] ls hf hP hD hS hl
/-! Compactforms.isGroup(I)Z -/
def fX7_isGroup (p0 : Int32) : Option (Int32) := (fX7_isWithin p0 0 2).bind (fun u1 => chk (isB u1) (some u1))
set_option maxHeartbeats 4000000 in
set_option maxRecDepth 100000 in
theorem met_X7_isGroup {D : va_G} {cI cV cJ cD : ClassId} (l : Launch) (p0 : Int32) (res : Int32) (hf : fX7_isGroup p0 = some res) : MM l yX7_isGroup cX7_isGroup 1 (some .boolean) { frames := 1, cells := 0, slots := 0, locals := 22 } D (TY cI cV cJ cD) ([]) ([]) [.int p0] (some (.int res)) := by
  intro sz
  refine Met.ofW (cc := cX7_isGroup) (maxL := 1) (ret := (some .boolean)) (by decide +kernel) rfl ?_
  intro p e s m args below meth c s₁ B hml hv
  obtain ⟨rfl, hsz, hP, hK, hD0, hE⟩ := hv
  have hx := B.exec
  have hb := B.bytes
  have hr := B.returns
  have hts := atoms_spec (ws := .code yX7_isGroup cX7_isGroup 1 (some .boolean) :: GW) B.pre
  have hg : ∀ w ∈ GW, w.before (([.int p0] : List Value).toArray) s = true := fun w h => hts w (List.mem_cons_of_mem _ h)
  have hown : s.vm.findClass RX7 = some m.cls := findClass_of_methodNamed B.named
  have hlocks := B.notSynchronized
  subst hsz
  have hD := hD0.self (sz := s.heap.size)
  generalize hAe : va_A ([]) s.heap.size = A at hD hE ⊢
  have hA : ∀ q : Nat, s.heap.size ≤ q → A q := fun q h => by rw [← hAe]; exact Or.inr h
  have hS : va_S A s.heap s.heap [] := va_S.rf
  have hl := lv_entry ([.int p0]) (n := 1) (Nat.le_of_ble_eq_true rfl)
  rw [lg_entry_eq]
  generalize (lg_sl ([.int p0]) ++ List.replicate (1 - (lg_sl ([.int p0])).length) Slot.unset).toArray = ls at hl ⊢
  have hl : lv_has ls 1 [(0, .int p0)] := hl
  have M0 : ∀ (H : Heap) (locs : List Loc) (ls : Array Slot), fX7_isGroup p0 = some res → va_P D vwCl ([]) H → va_D A ([]) → va_S A s.heap H locs → lv_has ls 1 [(0, .int p0)] → W p l e ({ frames := 1, cells := 0, slots := 0, locals := 22 } : Room) s m ([.int p0] : List Value).toArray below meth c H locs 0 0 (MQ below (QW D (TY cI cV cJ cD) ([]) A (some (.int res))) (([.int p0] : List Value).toArray) s 0 0 A) (F0 m 0 ls []) := by
    intro H locs ls hf hP hD hS hl
    dsimp only [fX7_isGroup] at hf
    refine lv_iload_n hx hb dX7_isGroup_0 rfl (lv_at hl 0 rfl) ?_
    refine lv_iconst (v := 0) hx hb dX7_isGroup_1 (by decide) ?_
    refine lv_iconst (v := 2) hx hb dX7_isGroup_2 (by decide) ?_
    obtain ⟨u1, hc2, hf⟩ := bind_t hf
    refine k_S (As := [.int p0, .int 0, .int 2]) (rest := []) (n := 3) ⟨hx, hb, hml, hown, hts⟩ (met_X7_isWithin l p0 0 2 u1 hc2) w215 w216 w1 w217 ⟨by decide +kernel, by decide +kernel, by decide +kernel⟩ ⟨Nat.le_of_ble_eq_true rfl, Nat.le_of_ble_eq_true rfl⟩ hK hE hP hD hS hA (isC := []) (isR := []) (isB := []) (ws' := []) ⟨([] : List Nat).filterMap (fun i : Nat => ([] : va_W)[i]?), rfl, rfl, rfl, rfl, by decide, rfl, rfl⟩ rfl hl.1 rfl (Nat.le_of_ble_eq_true rfl) dX7_isGroup_3 ⟨Nat.le_of_ble_eq_true rfl, Nat.le_of_ble_eq_true rfl⟩ (fun H locs hP hD hS => ?_)
    try dsimp only at hf
    refine W.eq (g2 := F0 m 6 ls [.int u1]) rfl ?_
    obtain ⟨hz3, hf⟩ := chk_t hf
    obtain rfl := Option.some.inj hf
    exact W.zret (v := u1) hx hb hr (isB_narrow hz3) (fun t ht hW => ⟨rfl, by rw [ht]; exact hP, va_K.moved hW.alike hK, hD, hS.F ht⟩) hS.2.2 dX7_isGroup_6 hlocks
  exact M0 s.heap [] ls hf hP hD hS hl

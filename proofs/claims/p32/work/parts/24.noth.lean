/-! throws that don't come -/
theorem thr_n {α β : Type} {j : Nat} {k : α → Option β} {r : β} (hf : thr (.inr j : α ⊕ Nat) (fun _ => none) k = some r) : False := by cases hf
theorem thr_e {α β : Type} {j : Nat} {k : α → Option (β ⊕ Nat)} {v : β} (hf : thr (.inr j : α ⊕ Nat) (fun n => some (.inr n)) k = some (.inl v)) : False := by cases hf
theorem thr_w {α β σ : Type} {j : Nat} {x w : σ} {k : α → Option (σ × (β ⊕ Nat))} {v : β} (hf : thr (.inr j : α ⊕ Nat) (fun n => some (x, .inr n)) k = some (w, .inl v)) : False := by cases hf
/-! Compactforms.needKey(I)V -/
set_option maxHeartbeats 4000000 in
set_option maxRecDepth 100000 in
theorem met0_X7_needKey {D : va_G} {cI cV cJ cD : ClassId} (l : Launch) (p0 : Int32) (v : Int32) (hf : fX7_needKey p0 = some (.inl v)) : MM l yX7_needKey cX7_needKey 1 none { frames := 2, cells := 0, slots := 0, locals := 42 } D (TY cI cV cJ cD) ([]) ([]) [.int p0] none := by
  intro sz
  refine Met.ofW (cc := cX7_needKey) (maxL := 1) (ret := none) (by decide +kernel) rfl ?_
  intro p e s m args below meth c s₁ B hml hv
  obtain ⟨rfl, hsz, hP, hK, hD0, hE⟩ := hv
  have hx := B.exec
  have hb := B.bytes
  have hr := B.returns
  have hts := atoms_spec (ws := .code yX7_needKey cX7_needKey 1 none :: GW) B.pre
  have hg : ∀ w ∈ GW, w.before (([.int p0] : List Value).toArray) s = true := fun w h => hts w (List.mem_cons_of_mem _ h)
  have hown : s.vm.findClass RX7 = some m.cls := findClass_of_methodNamed B.named
  have hlocks := B.notSynchronized
  subst hsz
  have hD := hD0.self (sz := s.heap.size)
  generalize hAe : va_A ([]) s.heap.size = A at hD hE ⊢
  have hA : ∀ q : Nat, s.heap.size ≤ q → A q := fun q h => by rw [← hAe]; exact Or.inr h
  have hS : va_S A s.heap s.heap [] := va_S.rf
  have hl := lv_entry ([.int p0]) (n := 1) (Nat.le_of_ble_eq_true rfl)
  rw [lg_entry_eq]
  generalize (lg_sl ([.int p0]) ++ List.replicate (1 - (lg_sl ([.int p0])).length) Slot.unset).toArray = ls at hl ⊢
  have hl : lv_has ls 1 [(0, .int p0)] := hl
  have M0 : ∀ (H : Heap) (locs : List Loc) (ls : Array Slot), fX7_needKey p0 = some (.inl v) → va_P D vwCl ([]) H → va_D A ([]) → va_S A s.heap H locs → lv_has ls 1 [(0, .int p0)] → W p l e ({ frames := 2, cells := 0, slots := 0, locals := 42 } : Room) s m ([.int p0] : List Value).toArray below meth c H locs 0 0 (MQ below (QW D (TY cI cV cJ cD) ([]) A none) (([.int p0] : List Value).toArray) s 0 0 A) (F0 m 0 ls []) := by
    intro H locs ls hf hP hD hS hl
    dsimp only [fX7_needKey] at hf
    refine lv_iload_n hx hb dX7_needKey_0 rfl (lv_at hl 0 rfl) ?_
    obtain ⟨u1, hc2, hf⟩ := bind_t hf
    refine k_S (As := [.int p0]) (rest := []) (n := 1) ⟨hx, hb, hml, hown, hts⟩ (met_X7_isKey l p0 u1 hc2) w212 w213 w1 w214 ⟨by decide +kernel, by decide +kernel, by decide +kernel⟩ ⟨Nat.le_of_ble_eq_true rfl, Nat.le_of_ble_eq_true rfl⟩ hK hE hP hD hS hA (isC := []) (isR := []) (isB := []) (ws' := []) ⟨([] : List Nat).filterMap (fun i : Nat => ([] : va_W)[i]?), rfl, rfl, rfl, rfl, by decide, rfl, rfl⟩ rfl hl.1 rfl (Nat.le_of_ble_eq_true rfl) dX7_needKey_1 ⟨Nat.le_of_ble_eq_true rfl, Nat.le_of_ble_eq_true rfl⟩ (fun H locs hP hD hS => ?_)
    try dsimp only at hf
    refine W.eq (g2 := F0 m 4 ls [.int u1]) rfl ?_
    refine lv_if_ne (tgt := 17) hx hb dX7_needKey_4 (by decide) (fun c3 => ?_) (fun c3 => ?_)
    · replace hf := if_f c3 hf
      obtain rfl := Sum.inl.inj (Option.some.inj hf)
      exact W.vret hx hb hr (fun t ht hW => ⟨rfl, by rw [ht]; exact hP, va_K.moved hW.alike hK, hD, hS.F ht⟩) hS.2.2 dX7_needKey_17 hlocks
    · replace hf := if_t c3 hf
      cases hf
  exact M0 s.heap [] ls hf hP hD hS hl
/-! Compactforms.needWithin(III)V -/
set_option maxHeartbeats 4000000 in
set_option maxRecDepth 100000 in
theorem met0_X7_needWithin {D : va_G} {cI cV cJ cD : ClassId} (l : Launch) (p0 : Int32) (p1 : Int32) (p2 : Int32) (v : Int32) (hf : fX7_needWithin p0 p1 p2 = some (.inl v)) : MM l yX7_needWithin cX7_needWithin 3 none { frames := 1, cells := 0, slots := 0, locals := 22 } D (TY cI cV cJ cD) ([]) ([]) [.int p0, .int p1, .int p2] none := by
  intro sz
  refine Met.ofW (cc := cX7_needWithin) (maxL := 3) (ret := none) (by decide +kernel) rfl ?_
  intro p e s m args below meth c s₁ B hml hv
  obtain ⟨rfl, hsz, hP, hK, hD0, hE⟩ := hv
  have hx := B.exec
  have hb := B.bytes
  have hr := B.returns
  have hts := atoms_spec (ws := .code yX7_needWithin cX7_needWithin 3 none :: GW) B.pre
  have hg : ∀ w ∈ GW, w.before (([.int p0, .int p1, .int p2] : List Value).toArray) s = true := fun w h => hts w (List.mem_cons_of_mem _ h)
  have hown : s.vm.findClass RX7 = some m.cls := findClass_of_methodNamed B.named
  have hlocks := B.notSynchronized
  subst hsz
  have hD := hD0.self (sz := s.heap.size)
  generalize hAe : va_A ([]) s.heap.size = A at hD hE ⊢
  have hA : ∀ q : Nat, s.heap.size ≤ q → A q := fun q h => by rw [← hAe]; exact Or.inr h
  have hS : va_S A s.heap s.heap [] := va_S.rf
  have hl := lv_entry ([.int p0, .int p1, .int p2]) (n := 3) (Nat.le_of_ble_eq_true rfl)
  rw [lg_entry_eq]
  generalize (lg_sl ([.int p0, .int p1, .int p2]) ++ List.replicate (3 - (lg_sl ([.int p0, .int p1, .int p2])).length) Slot.unset).toArray = ls at hl ⊢
  have hl : lv_has ls 3 [(0, .int p0), (1, .int p1), (2, .int p2)] := hl
  have M0 : ∀ (H : Heap) (locs : List Loc) (ls : Array Slot), fX7_needWithin p0 p1 p2 = some (.inl v) → va_P D vwCl ([]) H → va_D A ([]) → va_S A s.heap H locs → lv_has ls 3 [(0, .int p0), (1, .int p1), (2, .int p2)] → W p l e ({ frames := 1, cells := 0, slots := 0, locals := 22 } : Room) s m ([.int p0, .int p1, .int p2] : List Value).toArray below meth c H locs 0 0 (MQ below (QW D (TY cI cV cJ cD) ([]) A none) (([.int p0, .int p1, .int p2] : List Value).toArray) s 0 0 A) (F0 m 0 ls []) := by
    intro H locs ls hf hP hD hS hl
    dsimp only [fX7_needWithin] at hf
    refine lv_iload_n hx hb dX7_needWithin_0 rfl (lv_at hl 0 rfl) ?_
    refine lv_iload_n hx hb dX7_needWithin_1 rfl (lv_at hl 1 rfl) ?_
    refine lv_iload_n hx hb dX7_needWithin_2 rfl (lv_at hl 2 rfl) ?_
    obtain ⟨u1, hc2, hf⟩ := bind_t hf
    refine k_S (As := [.int p0, .int p1, .int p2]) (rest := []) (n := 3) ⟨hx, hb, hml, hown, hts⟩ (met_X7_isWithin l p0 p1 p2 u1 hc2) w215 w216 w1 w217 ⟨by decide +kernel, by decide +kernel, by decide +kernel⟩ ⟨Nat.le_of_ble_eq_true rfl, Nat.le_of_ble_eq_true rfl⟩ hK hE hP hD hS hA (isC := []) (isR := []) (isB := []) (ws' := []) ⟨([] : List Nat).filterMap (fun i : Nat => ([] : va_W)[i]?), rfl, rfl, rfl, rfl, by decide, rfl, rfl⟩ rfl hl.1 rfl (Nat.le_of_ble_eq_true rfl) dX7_needWithin_3 ⟨Nat.le_of_ble_eq_true rfl, Nat.le_of_ble_eq_true rfl⟩ (fun H locs hP hD hS => ?_)
    try dsimp only at hf
    refine W.eq (g2 := F0 m 6 ls [.int u1]) rfl ?_
    refine lv_if_ne (tgt := 19) hx hb dX7_needWithin_6 (by decide) (fun c3 => ?_) (fun c3 => ?_)
    · replace hf := if_f c3 hf
      obtain rfl := Sum.inl.inj (Option.some.inj hf)
      exact W.vret hx hb hr (fun t ht hW => ⟨rfl, by rw [ht]; exact hP, va_K.moved hW.alike hK, hD, hS.F ht⟩) hS.2.2 dX7_needWithin_19 hlocks
    · replace hf := if_t c3 hf
      cases hf
  exact M0 s.heap [] ls hf hP hD hS hl
/-! Compactforms.needValue(I)V -/
set_option maxHeartbeats 4000000 in
set_option maxRecDepth 100000 in
theorem met0_X7_needValue {D : va_G} {cI cV cJ cD : ClassId} (l : Launch) (p0 : Int32) (v : Int32) (hf : fX7_needValue p0 = some (.inl v)) : MM l yX7_needValue cX7_needValue 1 none { frames := 7, cells := 0, slots := 0, locals := 122 } D (TY cI cV cJ cD) ([]) ([]) [.int p0] none := by
  intro sz
  refine Met.ofW (cc := cX7_needValue) (maxL := 1) (ret := none) (by decide +kernel) rfl ?_
  intro p e s m args below meth c s₁ B hml hv
  obtain ⟨rfl, hsz, hP, hK, hD0, hE⟩ := hv
  have hx := B.exec
  have hb := B.bytes
  have hr := B.returns
  have hts := atoms_spec (ws := .code yX7_needValue cX7_needValue 1 none :: GW) B.pre
  have hg : ∀ w ∈ GW, w.before (([.int p0] : List Value).toArray) s = true := fun w h => hts w (List.mem_cons_of_mem _ h)
  have hown : s.vm.findClass RX7 = some m.cls := findClass_of_methodNamed B.named
  have hlocks := B.notSynchronized
  subst hsz
  have hD := hD0.self (sz := s.heap.size)
  generalize hAe : va_A ([]) s.heap.size = A at hD hE ⊢
  have hA : ∀ q : Nat, s.heap.size ≤ q → A q := fun q h => by rw [← hAe]; exact Or.inr h
  have hS : va_S A s.heap s.heap [] := va_S.rf
  have hl := lv_entry ([.int p0]) (n := 1) (Nat.le_of_ble_eq_true rfl)
  rw [lg_entry_eq]
  generalize (lg_sl ([.int p0]) ++ List.replicate (1 - (lg_sl ([.int p0])).length) Slot.unset).toArray = ls at hl ⊢
  have hl : lv_has ls 1 [(0, .int p0)] := hl
  have M0 : ∀ (H : Heap) (locs : List Loc) (ls : Array Slot), fX7_needValue p0 = some (.inl v) → va_P D vwCl ([]) H → va_D A ([]) → va_S A s.heap H locs → lv_has ls 1 [(0, .int p0)] → W p l e ({ frames := 7, cells := 0, slots := 0, locals := 122 } : Room) s m ([.int p0] : List Value).toArray below meth c H locs 0 0 (MQ below (QW D (TY cI cV cJ cD) ([]) A none) (([.int p0] : List Value).toArray) s 0 0 A) (F0 m 0 ls []) := by
    intro H locs ls hf hP hD hS hl
    dsimp only [fX7_needValue] at hf
    refine lv_iload_n hx hb dX7_needValue_0 rfl (lv_at hl 0 rfl) ?_
    refine lv_iconst (v := 0) hx hb dX7_needValue_1 (by decide) ?_
    refine lv_sipush (v := 9999) hx hb dX7_needValue_2 (by decide) ?_
    obtain ⟨u1, hc2, hf⟩ := bind_t hf
    rcases u1 with r3 | k4
    rotate_left
    · exact (thr_e hf).elim
    replace hf := thr_v hf rfl
    refine k_S (As := [.int p0, .int 0, .int 9999]) (rest := []) (n := 3) ⟨hx, hb, hml, hown, hts⟩ (met0_X7_needWithin l p0 0 9999 r3 hc2) w317 w318 w1 w319 ⟨by decide +kernel, by decide +kernel, by decide +kernel⟩ ⟨Nat.le_of_ble_eq_true rfl, Nat.le_of_ble_eq_true rfl⟩ hK hE hP hD hS hA (isC := []) (isR := []) (isB := []) (ws' := []) ⟨([] : List Nat).filterMap (fun i : Nat => ([] : va_W)[i]?), rfl, rfl, rfl, rfl, by decide, rfl, rfl⟩ rfl hl.1 rfl (Nat.le_of_ble_eq_true rfl) dX7_needValue_5 ⟨Nat.le_of_ble_eq_true rfl, Nat.le_of_ble_eq_true rfl⟩ (fun H locs hP hD hS => ?_)
    try dsimp only at hf
    refine W.eq (g2 := F0 m 8 ls []) rfl ?_
    obtain rfl := Sum.inl.inj (Option.some.inj hf)
    exact W.vret hx hb hr (fun t ht hW => ⟨rfl, by rw [ht]; exact hP, va_K.moved hW.alike hK, hD, hS.F ht⟩) hS.2.2 dX7_needValue_8 hlocks
  exact M0 s.heap [] ls hf hP hD hS hl
/-! Compactforms.needGroup(I)V -/
set_option maxHeartbeats 4000000 in
set_option maxRecDepth 100000 in
theorem met0_X7_needGroup {D : va_G} {cI cV cJ cD : ClassId} (l : Launch) (p0 : Int32) (v : Int32) (hf : fX7_needGroup p0 = some (.inl v)) : MM l yX7_needGroup cX7_needGroup 1 none { frames := 2, cells := 0, slots := 0, locals := 42 } D (TY cI cV cJ cD) ([]) ([]) [.int p0] none := by
  intro sz
  refine Met.ofW (cc := cX7_needGroup) (maxL := 1) (ret := none) (by decide +kernel) rfl ?_
  intro p e s m args below meth c s₁ B hml hv
  obtain ⟨rfl, hsz, hP, hK, hD0, hE⟩ := hv
  have hx := B.exec
  have hb := B.bytes
  have hr := B.returns
  have hts := atoms_spec (ws := .code yX7_needGroup cX7_needGroup 1 none :: GW) B.pre
  have hg : ∀ w ∈ GW, w.before (([.int p0] : List Value).toArray) s = true := fun w h => hts w (List.mem_cons_of_mem _ h)
  have hown : s.vm.findClass RX7 = some m.cls := findClass_of_methodNamed B.named
  have hlocks := B.notSynchronized
  subst hsz
  have hD := hD0.self (sz := s.heap.size)
  generalize hAe : va_A ([]) s.heap.size = A at hD hE ⊢
  have hA : ∀ q : Nat, s.heap.size ≤ q → A q := fun q h => by rw [← hAe]; exact Or.inr h
  have hS : va_S A s.heap s.heap [] := va_S.rf
  have hl := lv_entry ([.int p0]) (n := 1) (Nat.le_of_ble_eq_true rfl)
  rw [lg_entry_eq]
  generalize (lg_sl ([.int p0]) ++ List.replicate (1 - (lg_sl ([.int p0])).length) Slot.unset).toArray = ls at hl ⊢
  have hl : lv_has ls 1 [(0, .int p0)] := hl
  have M0 : ∀ (H : Heap) (locs : List Loc) (ls : Array Slot), fX7_needGroup p0 = some (.inl v) → va_P D vwCl ([]) H → va_D A ([]) → va_S A s.heap H locs → lv_has ls 1 [(0, .int p0)] → W p l e ({ frames := 2, cells := 0, slots := 0, locals := 42 } : Room) s m ([.int p0] : List Value).toArray below meth c H locs 0 0 (MQ below (QW D (TY cI cV cJ cD) ([]) A none) (([.int p0] : List Value).toArray) s 0 0 A) (F0 m 0 ls []) := by
    intro H locs ls hf hP hD hS hl
    dsimp only [fX7_needGroup] at hf
    refine lv_iload_n hx hb dX7_needGroup_0 rfl (lv_at hl 0 rfl) ?_
    obtain ⟨u1, hc2, hf⟩ := bind_t hf
    refine k_S (As := [.int p0]) (rest := []) (n := 1) ⟨hx, hb, hml, hown, hts⟩ (met_X7_isGroup l p0 u1 hc2) w603 w550 w1 w551 ⟨by decide +kernel, by decide +kernel, by decide +kernel⟩ ⟨Nat.le_of_ble_eq_true rfl, Nat.le_of_ble_eq_true rfl⟩ hK hE hP hD hS hA (isC := []) (isR := []) (isB := []) (ws' := []) ⟨([] : List Nat).filterMap (fun i : Nat => ([] : va_W)[i]?), rfl, rfl, rfl, rfl, by decide, rfl, rfl⟩ rfl hl.1 rfl (Nat.le_of_ble_eq_true rfl) dX7_needGroup_1 ⟨Nat.le_of_ble_eq_true rfl, Nat.le_of_ble_eq_true rfl⟩ (fun H locs hP hD hS => ?_)
    try dsimp only at hf
    refine W.eq (g2 := F0 m 4 ls [.int u1]) rfl ?_
    refine lv_if_ne (tgt := 17) hx hb dX7_needGroup_4 (by decide) (fun c3 => ?_) (fun c3 => ?_)
    · replace hf := if_f c3 hf
      obtain rfl := Sum.inl.inj (Option.some.inj hf)
      exact W.vret hx hb hr (fun t ht hW => ⟨rfl, by rw [ht]; exact hP, va_K.moved hW.alike hK, hD, hS.F ht⟩) hS.2.2 dX7_needGroup_17 hlocks
    · replace hf := if_t c3 hf
      cases hf
  exact M0 s.heap [] ls hf hP hD hS hl
/-! Compactforms.needReader(I)V -/
set_option maxHeartbeats 4000000 in
set_option maxRecDepth 100000 in
theorem met0_X7_needReader {D : va_G} {cI cV cJ cD : ClassId} (l : Launch) (p0 : Int32) (v : Int32) (hf : fX7_needReader p0 = some (.inl v)) : MM l yX7_needReader cX7_needReader 1 none { frames := 1, cells := 0, slots := 0, locals := 22 } D (TY cI cV cJ cD) ([]) ([]) [.int p0] none := by
  intro sz
  refine Met.ofW (cc := cX7_needReader) (maxL := 1) (ret := none) (by decide +kernel) rfl ?_
  intro p e s m args below meth c s₁ B hml hv
  obtain ⟨rfl, hsz, hP, hK, hD0, hE⟩ := hv
  have hx := B.exec
  have hb := B.bytes
  have hr := B.returns
  have hts := atoms_spec (ws := .code yX7_needReader cX7_needReader 1 none :: GW) B.pre
  have hg : ∀ w ∈ GW, w.before (([.int p0] : List Value).toArray) s = true := fun w h => hts w (List.mem_cons_of_mem _ h)
  have hown : s.vm.findClass RX7 = some m.cls := findClass_of_methodNamed B.named
  have hlocks := B.notSynchronized
  subst hsz
  have hD := hD0.self (sz := s.heap.size)
  generalize hAe : va_A ([]) s.heap.size = A at hD hE ⊢
  have hA : ∀ q : Nat, s.heap.size ≤ q → A q := fun q h => by rw [← hAe]; exact Or.inr h
  have hS : va_S A s.heap s.heap [] := va_S.rf
  have hl := lv_entry ([.int p0]) (n := 1) (Nat.le_of_ble_eq_true rfl)
  rw [lg_entry_eq]
  generalize (lg_sl ([.int p0]) ++ List.replicate (1 - (lg_sl ([.int p0])).length) Slot.unset).toArray = ls at hl ⊢
  have hl : lv_has ls 1 [(0, .int p0)] := hl
  have M0 : ∀ (H : Heap) (locs : List Loc) (ls : Array Slot), fX7_needReader p0 = some (.inl v) → va_P D vwCl ([]) H → va_D A ([]) → va_S A s.heap H locs → lv_has ls 1 [(0, .int p0)] → W p l e ({ frames := 1, cells := 0, slots := 0, locals := 22 } : Room) s m ([.int p0] : List Value).toArray below meth c H locs 0 0 (MQ below (QW D (TY cI cV cJ cD) ([]) A none) (([.int p0] : List Value).toArray) s 0 0 A) (F0 m 0 ls []) := by
    intro H locs ls hf hP hD hS hl
    dsimp only [fX7_needReader] at hf
    refine lv_iload_n hx hb dX7_needReader_0 rfl (lv_at hl 0 rfl) ?_
    refine lv_iconst (v := 0) hx hb dX7_needReader_1 (by decide) ?_
    refine lv_iconst (v := 3) hx hb dX7_needReader_2 (by decide) ?_
    obtain ⟨u1, hc2, hf⟩ := bind_t hf
    refine k_S (As := [.int p0, .int 0, .int 3]) (rest := []) (n := 3) ⟨hx, hb, hml, hown, hts⟩ (met_X7_isWithin l p0 0 3 u1 hc2) w215 w216 w1 w217 ⟨by decide +kernel, by decide +kernel, by decide +kernel⟩ ⟨Nat.le_of_ble_eq_true rfl, Nat.le_of_ble_eq_true rfl⟩ hK hE hP hD hS hA (isC := []) (isR := []) (isB := []) (ws' := []) ⟨([] : List Nat).filterMap (fun i : Nat => ([] : va_W)[i]?), rfl, rfl, rfl, rfl, by decide, rfl, rfl⟩ rfl hl.1 rfl (Nat.le_of_ble_eq_true rfl) dX7_needReader_3 ⟨Nat.le_of_ble_eq_true rfl, Nat.le_of_ble_eq_true rfl⟩ (fun H locs hP hD hS => ?_)
    try dsimp only at hf
    refine W.eq (g2 := F0 m 6 ls [.int u1]) rfl ?_
    refine lv_if_ne (tgt := 19) hx hb dX7_needReader_6 (by decide) (fun c3 => ?_) (fun c3 => ?_)
    · replace hf := if_f c3 hf
      obtain rfl := Sum.inl.inj (Option.some.inj hf)
      exact W.vret hx hb hr (fun t ht hW => ⟨rfl, by rw [ht]; exact hP, va_K.moved hW.alike hK, hD, hS.F ht⟩) hS.2.2 dX7_needReader_19 hlocks
    · replace hf := if_t c3 hf
      cases hf
  exact M0 s.heap [] ls hf hP hD hS hl
/-! Compactforms.needIndex(II)V -/
set_option maxHeartbeats 4000000 in
set_option maxRecDepth 100000 in
theorem met0_X7_needIndex {D : va_G} {cI cV cJ cD : ClassId} (l : Launch) (k : Nat) (vf : Nat → Option Nat) (a : Nat → Nat) (hvf : vf k = some (a 6)) (x : FSt) (p1 : Int32) (p2 : Int32) (v : Int32) (hf : fX7_needIndex k x p1 p2 = some (.inl v)) : MM l yX7_needIndex cX7_needIndex 3 none { frames := 3, cells := 0, slots := 0, locals := 63 } D (TY cI cV cJ cD) (W_F cI cV vf a x) (W_F cI cV vf a x) [.ref (a 0), .int p1, .int p2] none := by
  intro sz
  refine Met.ofW (cc := cX7_needIndex) (maxL := 3) (ret := none) (by decide +kernel) rfl ?_
  intro p e s m args below meth c s₁ B hml hv
  obtain ⟨rfl, hsz, hP, hK, hD0, hE⟩ := hv
  have hx := B.exec
  have hb := B.bytes
  have hr := B.returns
  have hts := atoms_spec (ws := .code yX7_needIndex cX7_needIndex 3 none :: GW) B.pre
  have hg : ∀ w ∈ GW, w.before (([.ref (a 0), .int p1, .int p2] : List Value).toArray) s = true := fun w h => hts w (List.mem_cons_of_mem _ h)
  have hown : s.vm.findClass RX7 = some m.cls := findClass_of_methodNamed B.named
  have hlocks := B.notSynchronized
  subst hsz
  have hD := hD0.self (sz := s.heap.size)
  generalize hAe : va_A (W_F cI cV vf a x) s.heap.size = A at hD hE ⊢
  have hA : ∀ q : Nat, s.heap.size ≤ q → A q := fun q h => by rw [← hAe]; exact Or.inr h
  have hS : va_S A s.heap s.heap [] := va_S.rf
  have hl := lv_entry ([.ref (a 0), .int p1, .int p2]) (n := 3) (Nat.le_of_ble_eq_true rfl)
  rw [lg_entry_eq]
  generalize (lg_sl ([.ref (a 0), .int p1, .int p2]) ++ List.replicate (3 - (lg_sl ([.ref (a 0), .int p1, .int p2])).length) Slot.unset).toArray = ls at hl ⊢
  have hl : lv_has ls 3 [(0, .ref (a 0)), (1, .int p1), (2, .int p2)] := hl
  have M0 : ∀ (H : Heap) (locs : List Loc) (ls : Array Slot), fX7_needIndex k x p1 p2 = some (.inl v) → va_P D vwCl (W_F cI cV vf a x) H → va_D A (W_F cI cV vf a x) → va_S A s.heap H locs → lv_has ls 3 [(0, .ref (a 0)), (1, .int p1), (2, .int p2)] → W p l e ({ frames := 3, cells := 0, slots := 0, locals := 63 } : Room) s m ([.ref (a 0), .int p1, .int p2] : List Value).toArray below meth c H locs 0 0 (MQ below (QW D (TY cI cV cJ cD) (W_F cI cV vf a x) A none) (([.ref (a 0), .int p1, .int p2] : List Value).toArray) s 0 0 A) (F0 m 0 ls []) := by
    intro H locs ls hf hP hD hS hl
    dsimp only [fX7_needIndex] at hf
    refine lv_iload_n hx hb dX7_needIndex_0 rfl (lv_at hl 2 rfl) ?_
    refine lv_iconst (v := 0) hx hb dX7_needIndex_1 (by decide) ?_
    refine lv_aload_n hx hb dX7_needIndex_2 rfl (lv_at hl 0 rfl) ?_
    refine lv_iload_n hx hb dX7_needIndex_3 rfl (lv_at hl 1 rfl) ?_
    obtain ⟨u1, hc2, hf⟩ := bind_t hf
    refine k_V (As := [.int p1]) (rest := [.int 0, .int p2]) (n := 1) ⟨hx, hb, hml, hown, hts⟩ (met_X7_sizeNow l k vf a hvf x p1 u1 hc2) w302 w304 ws3 w1 w305 ⟨rfl, by decide +kernel, by decide +kernel, by decide +kernel⟩ ⟨Nat.le_of_ble_eq_true rfl, Nat.le_of_ble_eq_true rfl⟩ hK hE hP hD hS hA (isC := [0, 1, 2, 3, 4, 5, 6, 7, 8, 9, 10, 11, 12, 13, 14, 15, 16, 17, 18, 19, 20, 21, 22, 23]) (isR := []) (isB := [0, 1, 2, 3, 4, 5, 6, 7, 8, 9, 10, 11, 12, 13, 14, 15, 16, 17, 18, 19, 20, 21, 22, 23]) (ws' := W_F cI cV vf a x) ⟨([] : List Nat).filterMap (fun i : Nat => (W_F cI cV vf a x : va_W)[i]?), rfl, rfl, rfl, rfl, by decide, rfl, rfl⟩ 0 6 rfl rfl rfl rfl hl.1 rfl (Nat.le_of_ble_eq_true rfl) dX7_needIndex_4 ⟨Nat.le_of_ble_eq_true rfl, Nat.le_of_ble_eq_true rfl⟩ (fun H locs hP hD hS => ?_)
    try dsimp only at hf
    refine W.eq (g2 := F0 m 7 ls [.int u1, .int 0, .int p2]) rfl ?_
    refine lv_iconst (v := 1) hx hb dX7_needIndex_7 (by decide) ?_
    refine lv_isub hx hb dX7_needIndex_8 ?_
    obtain ⟨u3, hc4, hf⟩ := bind_t hf
    refine k_S (As := [.int p2, .int 0, .int (u1 - 1)]) (rest := []) (n := 3) ⟨hx, hb, hml, hown, hts⟩ (met_X7_isWithin l p2 0 (u1 - 1) u3 hc4) w215 w216 w1 w217 ⟨by decide +kernel, by decide +kernel, by decide +kernel⟩ ⟨Nat.le_of_ble_eq_true rfl, Nat.le_of_ble_eq_true rfl⟩ hK hE hP hD hS hA (isC := []) (isR := [0, 1, 2, 3, 4, 5, 6, 7, 8, 9, 10, 11, 12, 13, 14, 15, 16, 17, 18, 19, 20, 21, 22, 23]) (isB := [0, 1, 2, 3, 4, 5, 6, 7, 8, 9, 10, 11, 12, 13, 14, 15, 16, 17, 18, 19, 20, 21, 22, 23]) (ws' := W_F cI cV vf a x) ⟨([0, 1, 2, 3, 4, 5, 6, 7, 8, 9, 10, 11, 12, 13, 14, 15, 16, 17, 18, 19, 20, 21, 22, 23] : List Nat).filterMap (fun i : Nat => (W_F cI cV vf a x : va_W)[i]?), rfl, rfl, rfl, rfl, by decide, rfl, rfl⟩ rfl hl.1 rfl (Nat.le_of_ble_eq_true rfl) dX7_needIndex_9 ⟨Nat.le_of_ble_eq_true rfl, Nat.le_of_ble_eq_true rfl⟩ (fun H locs hP hD hS => ?_)
    try dsimp only at hf
    refine W.eq (g2 := F0 m 12 ls [.int u3]) rfl ?_
    refine lv_if_ne (tgt := 25) hx hb dX7_needIndex_12 (by decide) (fun c5 => ?_) (fun c5 => ?_)
    · replace hf := if_f c5 hf
      obtain rfl := Sum.inl.inj (Option.some.inj hf)
      exact W.vret hx hb hr (fun t ht hW => ⟨rfl, by rw [ht]; exact hP, va_K.moved hW.alike hK, hD, hS.F ht⟩) hS.2.2 dX7_needIndex_25 hlocks
    · replace hf := if_t c5 hf
      cases hf
  exact M0 s.heap [] ls hf hP hD hS hl
/-! Compactforms.needType(II)V -/
set_option maxHeartbeats 4000000 in
set_option maxRecDepth 100000 in
theorem met0_X7_needType {D : va_G} {cI cV cJ cD : ClassId} (l : Launch) (k : Nat) (vf : Nat → Option Nat) (a : Nat → Nat) (hvf : vf k = some (a 6)) (x : FSt) (p1 : Int32) (p2 : Int32) (v : Int32) (hf : fX7_needType k x p1 p2 = some (.inl v)) : MM l yX7_needType cX7_needType 3 none { frames := 3, cells := 0, slots := 0, locals := 63 } D (TY cI cV cJ cD) (W_F cI cV vf a x) (W_F cI cV vf a x) [.ref (a 0), .int p1, .int p2] none := by
  intro sz
  refine Met.ofW (cc := cX7_needType) (maxL := 3) (ret := none) (by decide +kernel) rfl ?_
  intro p e s m args below meth c s₁ B hml hv
  obtain ⟨rfl, hsz, hP, hK, hD0, hE⟩ := hv
  have hx := B.exec
  have hb := B.bytes
  have hr := B.returns
  have hts := atoms_spec (ws := .code yX7_needType cX7_needType 3 none :: GW) B.pre
  have hg : ∀ w ∈ GW, w.before (([.ref (a 0), .int p1, .int p2] : List Value).toArray) s = true := fun w h => hts w (List.mem_cons_of_mem _ h)
  have hown : s.vm.findClass RX7 = some m.cls := findClass_of_methodNamed B.named
  have hlocks := B.notSynchronized
  subst hsz
  have hD := hD0.self (sz := s.heap.size)
  generalize hAe : va_A (W_F cI cV vf a x) s.heap.size = A at hD hE ⊢
  have hA : ∀ q : Nat, s.heap.size ≤ q → A q := fun q h => by rw [← hAe]; exact Or.inr h
  have hS : va_S A s.heap s.heap [] := va_S.rf
  have hl := lv_entry ([.ref (a 0), .int p1, .int p2]) (n := 3) (Nat.le_of_ble_eq_true rfl)
  rw [lg_entry_eq]
  generalize (lg_sl ([.ref (a 0), .int p1, .int p2]) ++ List.replicate (3 - (lg_sl ([.ref (a 0), .int p1, .int p2])).length) Slot.unset).toArray = ls at hl ⊢
  have hl : lv_has ls 3 [(0, .ref (a 0)), (1, .int p1), (2, .int p2)] := hl
  have M0 : ∀ (H : Heap) (locs : List Loc) (ls : Array Slot), fX7_needType k x p1 p2 = some (.inl v) → va_P D vwCl (W_F cI cV vf a x) H → va_D A (W_F cI cV vf a x) → va_S A s.heap H locs → lv_has ls 3 [(0, .ref (a 0)), (1, .int p1), (2, .int p2)] → W p l e ({ frames := 3, cells := 0, slots := 0, locals := 63 } : Room) s m ([.ref (a 0), .int p1, .int p2] : List Value).toArray below meth c H locs 0 0 (MQ below (QW D (TY cI cV cJ cD) (W_F cI cV vf a x) A none) (([.ref (a 0), .int p1, .int p2] : List Value).toArray) s 0 0 A) (F0 m 0 ls []) := by
    intro H locs ls hf hP hD hS hl
    dsimp only [fX7_needType] at hf
    refine lv_aload_n hx hb dX7_needType_0 rfl (lv_at hl 0 rfl) ?_
    refine lv_iload_n hx hb dX7_needType_1 rfl (lv_at hl 1 rfl) ?_
    obtain ⟨u1, hc2, hf⟩ := bind_t hf
    refine k_V (As := [.int p1]) (rest := []) (n := 1) ⟨hx, hb, hml, hown, hts⟩ (met_X7_typeNow l k vf a hvf x p1 u1 hc2) w286 w288 ws1 w1 w289 ⟨rfl, by decide +kernel, by decide +kernel, by decide +kernel⟩ ⟨Nat.le_of_ble_eq_true rfl, Nat.le_of_ble_eq_true rfl⟩ hK hE hP hD hS hA (isC := [0, 1, 2, 3, 4, 5, 6, 7, 8, 9, 10, 11, 12, 13, 14, 15, 16, 17, 18, 19, 20, 21, 22, 23]) (isR := []) (isB := [0, 1, 2, 3, 4, 5, 6, 7, 8, 9, 10, 11, 12, 13, 14, 15, 16, 17, 18, 19, 20, 21, 22, 23]) (ws' := W_F cI cV vf a x) ⟨([] : List Nat).filterMap (fun i : Nat => (W_F cI cV vf a x : va_W)[i]?), rfl, rfl, rfl, rfl, by decide, rfl, rfl⟩ 0 6 rfl rfl rfl rfl hl.1 rfl (Nat.le_of_ble_eq_true rfl) dX7_needType_2 ⟨Nat.le_of_ble_eq_true rfl, Nat.le_of_ble_eq_true rfl⟩ (fun H locs hP hD hS => ?_)
    try dsimp only at hf
    refine W.eq (g2 := F0 m 5 ls [.int u1]) rfl ?_
    refine lv_iload_n hx hb dX7_needType_5 rfl (lv_at hl 2 rfl) ?_
    refine lv_icmp_eq (tgt := 19) hx hb dX7_needType_6 (by decide) (fun c3 => ?_) (fun c3 => ?_)
    · replace hf := if_t c3 hf
      obtain rfl := Sum.inl.inj (Option.some.inj hf)
      exact W.vret hx hb hr (fun t ht hW => ⟨rfl, by rw [ht]; exact hP, va_K.moved hW.alike hK, hD, hS.F ht⟩) hS.2.2 dX7_needType_19 hlocks
    · replace hf := if_f c3 hf
      cases hf
  exact M0 s.heap [] ls hf hP hD hS hl
/-! Compactforms.typeOf(I)I -/
set_option maxHeartbeats 4000000 in
set_option maxRecDepth 100000 in
theorem met0_X7_typeOf {D : va_G} {cI cV cJ cD : ClassId} (l : Launch) (k : Nat) (vf : Nat → Option Nat) (a : Nat → Nat) (hvf : vf k = some (a 6)) (x : FSt) (p1 : Int32) (v : Int32) (hf : fX7_typeOf k x p1 = some (.inl v)) : MM l yX7_typeOf cX7_typeOf 2 (some .int) { frames := 7, cells := 0, slots := 0, locals := 120 } D (TY cI cV cJ cD) (W_F cI cV vf a x) (W_F cI cV vf a x) [.ref (a 0), .int p1] (some (.int v)) := by
  intro sz
  refine Met.ofW (cc := cX7_typeOf) (maxL := 2) (ret := (some .int)) (by decide +kernel) rfl ?_
  intro p e s m args below meth c s₁ B hml hv
  obtain ⟨rfl, hsz, hP, hK, hD0, hE⟩ := hv
  have hx := B.exec
  have hb := B.bytes
  have hr := B.returns
  have hts := atoms_spec (ws := .code yX7_typeOf cX7_typeOf 2 (some .int) :: GW) B.pre
  have hg : ∀ w ∈ GW, w.before (([.ref (a 0), .int p1] : List Value).toArray) s = true := fun w h => hts w (List.mem_cons_of_mem _ h)
  have hown : s.vm.findClass RX7 = some m.cls := findClass_of_methodNamed B.named
  have hlocks := B.notSynchronized
  subst hsz
  have hD := hD0.self (sz := s.heap.size)
  generalize hAe : va_A (W_F cI cV vf a x) s.heap.size = A at hD hE ⊢
  have hA : ∀ q : Nat, s.heap.size ≤ q → A q := fun q h => by rw [← hAe]; exact Or.inr h
  have hS : va_S A s.heap s.heap [] := va_S.rf
  have hl := lv_entry ([.ref (a 0), .int p1]) (n := 2) (Nat.le_of_ble_eq_true rfl)
  rw [lg_entry_eq]
  generalize (lg_sl ([.ref (a 0), .int p1]) ++ List.replicate (2 - (lg_sl ([.ref (a 0), .int p1])).length) Slot.unset).toArray = ls at hl ⊢
  have hl : lv_has ls 2 [(0, .ref (a 0)), (1, .int p1)] := hl
  have M0 : ∀ (H : Heap) (locs : List Loc) (ls : Array Slot), fX7_typeOf k x p1 = some (.inl v) → va_P D vwCl (W_F cI cV vf a x) H → va_D A (W_F cI cV vf a x) → va_S A s.heap H locs → lv_has ls 2 [(0, .ref (a 0)), (1, .int p1)] → W p l e ({ frames := 7, cells := 0, slots := 0, locals := 120 } : Room) s m ([.ref (a 0), .int p1] : List Value).toArray below meth c H locs 0 0 (MQ below (QW D (TY cI cV cJ cD) (W_F cI cV vf a x) A (some (.int v))) (([.ref (a 0), .int p1] : List Value).toArray) s 0 0 A) (F0 m 0 ls []) := by
    intro H locs ls hf hP hD hS hl
    dsimp only [fX7_typeOf] at hf
    refine lv_iload_n hx hb dX7_typeOf_0 rfl (lv_at hl 1 rfl) ?_
    obtain ⟨u1, hc2, hf⟩ := bind_t hf
    rcases u1 with r3 | k4
    rotate_left
    · exact (thr_e hf).elim
    replace hf := thr_v hf rfl
    refine k_S (As := [.int p1]) (rest := []) (n := 1) ⟨hx, hb, hml, hown, hts⟩ (met0_X7_needKey l p1 r3 hc2) w209 w210 w1 w211 ⟨by decide +kernel, by decide +kernel, by decide +kernel⟩ ⟨Nat.le_of_ble_eq_true rfl, Nat.le_of_ble_eq_true rfl⟩ hK hE hP hD hS hA (isC := []) (isR := [0, 1, 2, 3, 4, 5, 6, 7, 8, 9, 10, 11, 12, 13, 14, 15, 16, 17, 18, 19, 20, 21, 22, 23]) (isB := [0, 1, 2, 3, 4, 5, 6, 7, 8, 9, 10, 11, 12, 13, 14, 15, 16, 17, 18, 19, 20, 21, 22, 23]) (ws' := W_F cI cV vf a x) ⟨([0, 1, 2, 3, 4, 5, 6, 7, 8, 9, 10, 11, 12, 13, 14, 15, 16, 17, 18, 19, 20, 21, 22, 23] : List Nat).filterMap (fun i : Nat => (W_F cI cV vf a x : va_W)[i]?), rfl, rfl, rfl, rfl, by decide, rfl, rfl⟩ rfl hl.1 rfl (Nat.le_of_ble_eq_true rfl) dX7_typeOf_1 ⟨Nat.le_of_ble_eq_true rfl, Nat.le_of_ble_eq_true rfl⟩ (fun H locs hP hD hS => ?_)
    try dsimp only at hf
    refine W.eq (g2 := F0 m 4 ls []) rfl ?_
    refine lv_aload_n hx hb dX7_typeOf_4 rfl (lv_at hl 0 rfl) ?_
    refine lv_iload_n hx hb dX7_typeOf_5 rfl (lv_at hl 1 rfl) ?_
    obtain ⟨u5, hc6, hf⟩ := bind_t hf
    refine k_V (As := [.int p1]) (rest := []) (n := 1) ⟨hx, hb, hml, hown, hts⟩ (met_X7_typeNow l k vf a hvf x p1 u5 hc6) w286 w288 ws1 w1 w289 ⟨rfl, by decide +kernel, by decide +kernel, by decide +kernel⟩ ⟨Nat.le_of_ble_eq_true rfl, Nat.le_of_ble_eq_true rfl⟩ hK hE hP hD hS hA (isC := [0, 1, 2, 3, 4, 5, 6, 7, 8, 9, 10, 11, 12, 13, 14, 15, 16, 17, 18, 19, 20, 21, 22, 23]) (isR := []) (isB := [0, 1, 2, 3, 4, 5, 6, 7, 8, 9, 10, 11, 12, 13, 14, 15, 16, 17, 18, 19, 20, 21, 22, 23]) (ws' := W_F cI cV vf a x) ⟨([] : List Nat).filterMap (fun i : Nat => (W_F cI cV vf a x : va_W)[i]?), rfl, rfl, rfl, rfl, by decide, rfl, rfl⟩ 0 6 rfl rfl rfl rfl hl.1 rfl (Nat.le_of_ble_eq_true rfl) dX7_typeOf_6 ⟨Nat.le_of_ble_eq_true rfl, Nat.le_of_ble_eq_true rfl⟩ (fun H locs hP hD hS => ?_)
    try dsimp only at hf
    refine W.eq (g2 := F0 m 9 ls [.int u5]) rfl ?_
    obtain rfl := Sum.inl.inj (Option.some.inj hf)
    exact W.iret (v := u5) hx hb hr (fun t ht hW => ⟨rfl, by rw [ht]; exact hP, va_K.moved hW.alike hK, hD, hS.F ht⟩) hS.2.2 dX7_typeOf_9 hlocks
  exact M0 s.heap [] ls hf hP hD hS hl
/-! Compactforms.size(I)I -/
set_option maxHeartbeats 4000000 in
set_option maxRecDepth 100000 in
theorem met0_X7_size {D : va_G} {cI cV cJ cD : ClassId} (l : Launch) (k : Nat) (vf : Nat → Option Nat) (a : Nat → Nat) (hvf : vf k = some (a 6)) (x : FSt) (p1 : Int32) (v : Int32) (hf : fX7_size k x p1 = some (.inl v)) : MM l yX7_size cX7_size 2 (some .int) { frames := 7, cells := 0, slots := 0, locals := 120 } D (TY cI cV cJ cD) (W_F cI cV vf a x) (W_F cI cV vf a x) [.ref (a 0), .int p1] (some (.int v)) := by
  intro sz
  refine Met.ofW (cc := cX7_size) (maxL := 2) (ret := (some .int)) (by decide +kernel) rfl ?_
  intro p e s m args below meth c s₁ B hml hv
  obtain ⟨rfl, hsz, hP, hK, hD0, hE⟩ := hv
  have hx := B.exec
  have hb := B.bytes
  have hr := B.returns
  have hts := atoms_spec (ws := .code yX7_size cX7_size 2 (some .int) :: GW) B.pre
  have hg : ∀ w ∈ GW, w.before (([.ref (a 0), .int p1] : List Value).toArray) s = true := fun w h => hts w (List.mem_cons_of_mem _ h)
  have hown : s.vm.findClass RX7 = some m.cls := findClass_of_methodNamed B.named
  have hlocks := B.notSynchronized
  subst hsz
  have hD := hD0.self (sz := s.heap.size)
  generalize hAe : va_A (W_F cI cV vf a x) s.heap.size = A at hD hE ⊢
  have hA : ∀ q : Nat, s.heap.size ≤ q → A q := fun q h => by rw [← hAe]; exact Or.inr h
  have hS : va_S A s.heap s.heap [] := va_S.rf
  have hl := lv_entry ([.ref (a 0), .int p1]) (n := 2) (Nat.le_of_ble_eq_true rfl)
  rw [lg_entry_eq]
  generalize (lg_sl ([.ref (a 0), .int p1]) ++ List.replicate (2 - (lg_sl ([.ref (a 0), .int p1])).length) Slot.unset).toArray = ls at hl ⊢
  have hl : lv_has ls 2 [(0, .ref (a 0)), (1, .int p1)] := hl
  have M0 : ∀ (H : Heap) (locs : List Loc) (ls : Array Slot), fX7_size k x p1 = some (.inl v) → va_P D vwCl (W_F cI cV vf a x) H → va_D A (W_F cI cV vf a x) → va_S A s.heap H locs → lv_has ls 2 [(0, .ref (a 0)), (1, .int p1)] → W p l e ({ frames := 7, cells := 0, slots := 0, locals := 120 } : Room) s m ([.ref (a 0), .int p1] : List Value).toArray below meth c H locs 0 0 (MQ below (QW D (TY cI cV cJ cD) (W_F cI cV vf a x) A (some (.int v))) (([.ref (a 0), .int p1] : List Value).toArray) s 0 0 A) (F0 m 0 ls []) := by
    intro H locs ls hf hP hD hS hl
    dsimp only [fX7_size] at hf
    refine lv_iload_n hx hb dX7_size_0 rfl (lv_at hl 1 rfl) ?_
    obtain ⟨u1, hc2, hf⟩ := bind_t hf
    rcases u1 with r3 | k4
    rotate_left
    · exact (thr_e hf).elim
    replace hf := thr_v hf rfl
    refine k_S (As := [.int p1]) (rest := []) (n := 1) ⟨hx, hb, hml, hown, hts⟩ (met0_X7_needKey l p1 r3 hc2) w209 w210 w1 w211 ⟨by decide +kernel, by decide +kernel, by decide +kernel⟩ ⟨Nat.le_of_ble_eq_true rfl, Nat.le_of_ble_eq_true rfl⟩ hK hE hP hD hS hA (isC := []) (isR := [0, 1, 2, 3, 4, 5, 6, 7, 8, 9, 10, 11, 12, 13, 14, 15, 16, 17, 18, 19, 20, 21, 22, 23]) (isB := [0, 1, 2, 3, 4, 5, 6, 7, 8, 9, 10, 11, 12, 13, 14, 15, 16, 17, 18, 19, 20, 21, 22, 23]) (ws' := W_F cI cV vf a x) ⟨([0, 1, 2, 3, 4, 5, 6, 7, 8, 9, 10, 11, 12, 13, 14, 15, 16, 17, 18, 19, 20, 21, 22, 23] : List Nat).filterMap (fun i : Nat => (W_F cI cV vf a x : va_W)[i]?), rfl, rfl, rfl, rfl, by decide, rfl, rfl⟩ rfl hl.1 rfl (Nat.le_of_ble_eq_true rfl) dX7_size_1 ⟨Nat.le_of_ble_eq_true rfl, Nat.le_of_ble_eq_true rfl⟩ (fun H locs hP hD hS => ?_)
    try dsimp only at hf
    refine W.eq (g2 := F0 m 4 ls []) rfl ?_
    refine lv_aload_n hx hb dX7_size_4 rfl (lv_at hl 0 rfl) ?_
    refine lv_iload_n hx hb dX7_size_5 rfl (lv_at hl 1 rfl) ?_
    obtain ⟨u5, hc6, hf⟩ := bind_t hf
    refine k_V (As := [.int p1]) (rest := []) (n := 1) ⟨hx, hb, hml, hown, hts⟩ (met_X7_sizeNow l k vf a hvf x p1 u5 hc6) w302 w304 ws3 w1 w305 ⟨rfl, by decide +kernel, by decide +kernel, by decide +kernel⟩ ⟨Nat.le_of_ble_eq_true rfl, Nat.le_of_ble_eq_true rfl⟩ hK hE hP hD hS hA (isC := [0, 1, 2, 3, 4, 5, 6, 7, 8, 9, 10, 11, 12, 13, 14, 15, 16, 17, 18, 19, 20, 21, 22, 23]) (isR := []) (isB := [0, 1, 2, 3, 4, 5, 6, 7, 8, 9, 10, 11, 12, 13, 14, 15, 16, 17, 18, 19, 20, 21, 22, 23]) (ws' := W_F cI cV vf a x) ⟨([] : List Nat).filterMap (fun i : Nat => (W_F cI cV vf a x : va_W)[i]?), rfl, rfl, rfl, rfl, by decide, rfl, rfl⟩ 0 6 rfl rfl rfl rfl hl.1 rfl (Nat.le_of_ble_eq_true rfl) dX7_size_6 ⟨Nat.le_of_ble_eq_true rfl, Nat.le_of_ble_eq_true rfl⟩ (fun H locs hP hD hS => ?_)
    try dsimp only at hf
    refine W.eq (g2 := F0 m 9 ls [.int u5]) rfl ?_
    obtain rfl := Sum.inl.inj (Option.some.inj hf)
    exact W.iret (v := u5) hx hb hr (fun t ht hW => ⟨rfl, by rw [ht]; exact hP, va_K.moved hW.alike hK, hD, hS.F ht⟩) hS.2.2 dX7_size_9 hlocks
  exact M0 s.heap [] ls hf hP hD hS hl
/-! Compactforms.formOf(I)I -/
set_option maxHeartbeats 4000000 in
set_option maxRecDepth 100000 in
theorem met0_X7_formOf {D : va_G} {cI cV cJ cD : ClassId} (l : Launch) (k : Nat) (vf : Nat → Option Nat) (a : Nat → Nat) (hvf : vf k = some (a 6)) (x : FSt) (p1 : Int32) (v : Int32) (hf : fX7_formOf k x p1 = some (.inl v)) : MM l yX7_formOf cX7_formOf 2 (some .int) { frames := 7, cells := 0, slots := 0, locals := 120 } D (TY cI cV cJ cD) (W_F cI cV vf a x) (W_F cI cV vf a x) [.ref (a 0), .int p1] (some (.int v)) := by
  intro sz
  refine Met.ofW (cc := cX7_formOf) (maxL := 2) (ret := (some .int)) (by decide +kernel) rfl ?_
  intro p e s m args below meth c s₁ B hml hv
  obtain ⟨rfl, hsz, hP, hK, hD0, hE⟩ := hv
  have hx := B.exec
  have hb := B.bytes
  have hr := B.returns
  have hts := atoms_spec (ws := .code yX7_formOf cX7_formOf 2 (some .int) :: GW) B.pre
  have hg : ∀ w ∈ GW, w.before (([.ref (a 0), .int p1] : List Value).toArray) s = true := fun w h => hts w (List.mem_cons_of_mem _ h)
  have hown : s.vm.findClass RX7 = some m.cls := findClass_of_methodNamed B.named
  have hlocks := B.notSynchronized
  subst hsz
  have hD := hD0.self (sz := s.heap.size)
  generalize hAe : va_A (W_F cI cV vf a x) s.heap.size = A at hD hE ⊢
  have hA : ∀ q : Nat, s.heap.size ≤ q → A q := fun q h => by rw [← hAe]; exact Or.inr h
  have hS : va_S A s.heap s.heap [] := va_S.rf
  have hl := lv_entry ([.ref (a 0), .int p1]) (n := 2) (Nat.le_of_ble_eq_true rfl)
  rw [lg_entry_eq]
  generalize (lg_sl ([.ref (a 0), .int p1]) ++ List.replicate (2 - (lg_sl ([.ref (a 0), .int p1])).length) Slot.unset).toArray = ls at hl ⊢
  have hl : lv_has ls 2 [(0, .ref (a 0)), (1, .int p1)] := hl
  have M0 : ∀ (H : Heap) (locs : List Loc) (ls : Array Slot), fX7_formOf k x p1 = some (.inl v) → va_P D vwCl (W_F cI cV vf a x) H → va_D A (W_F cI cV vf a x) → va_S A s.heap H locs → lv_has ls 2 [(0, .ref (a 0)), (1, .int p1)] → W p l e ({ frames := 7, cells := 0, slots := 0, locals := 120 } : Room) s m ([.ref (a 0), .int p1] : List Value).toArray below meth c H locs 0 0 (MQ below (QW D (TY cI cV cJ cD) (W_F cI cV vf a x) A (some (.int v))) (([.ref (a 0), .int p1] : List Value).toArray) s 0 0 A) (F0 m 0 ls []) := by
    intro H locs ls hf hP hD hS hl
    dsimp only [fX7_formOf] at hf
    refine lv_iload_n hx hb dX7_formOf_0 rfl (lv_at hl 1 rfl) ?_
    obtain ⟨u1, hc2, hf⟩ := bind_t hf
    rcases u1 with r3 | k4
    rotate_left
    · exact (thr_e hf).elim
    replace hf := thr_v hf rfl
    refine k_S (As := [.int p1]) (rest := []) (n := 1) ⟨hx, hb, hml, hown, hts⟩ (met0_X7_needKey l p1 r3 hc2) w209 w210 w1 w211 ⟨by decide +kernel, by decide +kernel, by decide +kernel⟩ ⟨Nat.le_of_ble_eq_true rfl, Nat.le_of_ble_eq_true rfl⟩ hK hE hP hD hS hA (isC := []) (isR := [0, 1, 2, 3, 4, 5, 6, 7, 8, 9, 10, 11, 12, 13, 14, 15, 16, 17, 18, 19, 20, 21, 22, 23]) (isB := [0, 1, 2, 3, 4, 5, 6, 7, 8, 9, 10, 11, 12, 13, 14, 15, 16, 17, 18, 19, 20, 21, 22, 23]) (ws' := W_F cI cV vf a x) ⟨([0, 1, 2, 3, 4, 5, 6, 7, 8, 9, 10, 11, 12, 13, 14, 15, 16, 17, 18, 19, 20, 21, 22, 23] : List Nat).filterMap (fun i : Nat => (W_F cI cV vf a x : va_W)[i]?), rfl, rfl, rfl, rfl, by decide, rfl, rfl⟩ rfl hl.1 rfl (Nat.le_of_ble_eq_true rfl) dX7_formOf_1 ⟨Nat.le_of_ble_eq_true rfl, Nat.le_of_ble_eq_true rfl⟩ (fun H locs hP hD hS => ?_)
    try dsimp only at hf
    refine W.eq (g2 := F0 m 4 ls []) rfl ?_
    refine lv_aload_n hx hb dX7_formOf_4 rfl (lv_at hl 0 rfl) ?_
    refine lv_iload_n hx hb dX7_formOf_5 rfl (lv_at hl 1 rfl) ?_
    obtain ⟨u5, hc6, hf⟩ := bind_t hf
    refine k_V (As := [.int p1]) (rest := []) (n := 1) ⟨hx, hb, hml, hown, hts⟩ (met_X7_isThere l k vf a hvf x p1 u5 hc6) w290 w292 ws2 w1 w293 ⟨rfl, by decide +kernel, by decide +kernel, by decide +kernel⟩ ⟨Nat.le_of_ble_eq_true rfl, Nat.le_of_ble_eq_true rfl⟩ hK hE hP hD hS hA (isC := [0, 1, 2, 3, 4, 5, 6, 7, 8, 9, 10, 11, 12, 13, 14, 15, 16, 17, 18, 19, 20, 21, 22, 23]) (isR := []) (isB := [0, 1, 2, 3, 4, 5, 6, 7, 8, 9, 10, 11, 12, 13, 14, 15, 16, 17, 18, 19, 20, 21, 22, 23]) (ws' := W_F cI cV vf a x) ⟨([] : List Nat).filterMap (fun i : Nat => (W_F cI cV vf a x : va_W)[i]?), rfl, rfl, rfl, rfl, by decide, rfl, rfl⟩ 0 6 rfl rfl rfl rfl hl.1 rfl (Nat.le_of_ble_eq_true rfl) dX7_formOf_6 ⟨Nat.le_of_ble_eq_true rfl, Nat.le_of_ble_eq_true rfl⟩ (fun H locs hP hD hS => ?_)
    try dsimp only at hf
    refine W.eq (g2 := F0 m 9 ls [.int u5]) rfl ?_
    refine lv_if_ne (tgt := 14) hx hb dX7_formOf_9 (by decide) (fun c7 => ?_) (fun c7 => ?_)
    · replace hf := if_f c7 hf
      refine lv_aload_n hx hb dX7_formOf_14 rfl (lv_at hl 0 rfl) ?_
      refine va_get (D := D) (ci := 6) (v := .ref (a 1)) (C := RX7) (T := TX7) (N := 8) hx hb hg in_X7 hown hK hP 0 rfl rfl 0 (by decide) (hg _ w167) (fun _ h9 => h9) rfl dX7_formOf_15 ?_
      refine lv_iload_n hx hb dX7_formOf_18 rfl (lv_at hl 1 rfl) ?_
      obtain ⟨hi8, hf⟩ := chk_t hf
      refine va_aldq hx hb hK hP 1 1 rfl rfl (keyok_i hi8) dX7_formOf_19 ?_
      refine W.eq (g2 := F0 m 20 ls [.ref (a 6)]) (by rw [keyok_k hi8, hvf]; rfl) ?_
      obtain ⟨u9, hc10, hf⟩ := bind_t hf
      refine k_V (As := []) (rest := []) (n := 0) ⟨hx, hb, hml, hown, hts⟩ (met_X6_isSmall l (fun j => a (6 + j)) (fV x) u9 hc10) w649 w650 w651 w3 w652 ⟨rfl, by decide +kernel, by decide +kernel, by decide +kernel⟩ ⟨Nat.le_of_ble_eq_true rfl, Nat.le_of_ble_eq_true rfl⟩ hK hE hP hD hS hA (isC := [6, 7, 8, 9, 10, 11, 12, 13, 14, 15, 16, 17, 18, 19, 20, 21, 22, 23]) (isR := [0, 1, 2, 3, 4, 5]) (isB := [0, 1, 2, 3, 4, 5, 6, 7, 8, 9, 10, 11, 12, 13, 14, 15, 16, 17, 18, 19, 20, 21, 22, 23]) (ws' := W_F cI cV vf a x) ⟨([0, 1, 2, 3, 4, 5] : List Nat).filterMap (fun i : Nat => (W_F cI cV vf a x : va_W)[i]?), rfl, rfl, rfl, rfl, by decide, rfl, rfl⟩ 6 5 rfl rfl rfl rfl hl.1 rfl (Nat.le_of_ble_eq_true rfl) dX7_formOf_20 ⟨Nat.le_of_ble_eq_true rfl, Nat.le_of_ble_eq_true rfl⟩ (fun H locs hP hD hS => ?_)
      try dsimp only at hf
      refine W.eq (g2 := F0 m 23 ls [.int u9]) rfl ?_
      refine lv_if_eq (tgt := 30) hx hb dX7_formOf_23 (by decide) (fun c11 => ?_) (fun c11 => ?_)
      · replace hf := if_t c11 hf
        refine lv_iconst (v := 2) hx hb dX7_formOf_30 (by decide) ?_
        obtain rfl := Sum.inl.inj (Option.some.inj hf)
        exact W.iret (v := 2) hx hb hr (fun t ht hW => ⟨rfl, by rw [ht]; exact hP, va_K.moved hW.alike hK, hD, hS.F ht⟩) hS.2.2 dX7_formOf_31 hlocks
      · replace hf := if_f c11 hf
        refine lv_iconst (v := 1) hx hb dX7_formOf_26 (by decide) ?_
        refine lv_goto (tgt := 31) hx hb dX7_formOf_27 (by decide) ?_
        obtain rfl := Sum.inl.inj (Option.some.inj hf)
        exact W.iret (v := 1) hx hb hr (fun t ht hW => ⟨rfl, by rw [ht]; exact hP, va_K.moved hW.alike hK, hD, hS.F ht⟩) hS.2.2 dX7_formOf_31 hlocks
    · replace hf := if_t c7 hf
      refine lv_iconst (v := 0) hx hb dX7_formOf_12 (by decide) ?_
      obtain rfl := Sum.inl.inj (Option.some.inj hf)
      exact W.iret (v := 0) hx hb hr (fun t ht hW => ⟨rfl, by rw [ht]; exact hP, va_K.moved hW.alike hK, hD, hS.F ht⟩) hS.2.2 dX7_formOf_13 hlocks
  exact M0 s.heap [] ls hf hP hD hS hl
/-! Compactforms.at(II)I -/
set_option maxHeartbeats 4000000 in
set_option maxRecDepth 100000 in
theorem met0_X7_at {D : va_G} {cI cV cJ cD : ClassId} (l : Launch) (k : Nat) (vf : Nat → Option Nat) (a : Nat → Nat) (hvf : vf k = some (a 6)) (x : FSt) (p1 : Int32) (p2 : Int32) (v : Int32) (hf : fX7_at k x p1 p2 = some (.inl v)) : MM l yX7_at cX7_at 3 (some .int) { frames := 7, cells := 0, slots := 0, locals := 122 } D (TY cI cV cJ cD) (W_F cI cV vf a x) (W_F cI cV vf a x) [.ref (a 0), .int p1, .int p2] (some (.int v)) := by
  intro sz
  refine Met.ofW (cc := cX7_at) (maxL := 3) (ret := (some .int)) (by decide +kernel) rfl ?_
  intro p e s m args below meth c s₁ B hml hv
  obtain ⟨rfl, hsz, hP, hK, hD0, hE⟩ := hv
  have hx := B.exec
  have hb := B.bytes
  have hr := B.returns
  have hts := atoms_spec (ws := .code yX7_at cX7_at 3 (some .int) :: GW) B.pre
  have hg : ∀ w ∈ GW, w.before (([.ref (a 0), .int p1, .int p2] : List Value).toArray) s = true := fun w h => hts w (List.mem_cons_of_mem _ h)
  have hown : s.vm.findClass RX7 = some m.cls := findClass_of_methodNamed B.named
  have hlocks := B.notSynchronized
  subst hsz
  have hD := hD0.self (sz := s.heap.size)
  generalize hAe : va_A (W_F cI cV vf a x) s.heap.size = A at hD hE ⊢
  have hA : ∀ q : Nat, s.heap.size ≤ q → A q := fun q h => by rw [← hAe]; exact Or.inr h
  have hS : va_S A s.heap s.heap [] := va_S.rf
  have hl := lv_entry ([.ref (a 0), .int p1, .int p2]) (n := 3) (Nat.le_of_ble_eq_true rfl)
  rw [lg_entry_eq]
  generalize (lg_sl ([.ref (a 0), .int p1, .int p2]) ++ List.replicate (3 - (lg_sl ([.ref (a 0), .int p1, .int p2])).length) Slot.unset).toArray = ls at hl ⊢
  have hl : lv_has ls 3 [(0, .ref (a 0)), (1, .int p1), (2, .int p2)] := hl
  have M0 : ∀ (H : Heap) (locs : List Loc) (ls : Array Slot), fX7_at k x p1 p2 = some (.inl v) → va_P D vwCl (W_F cI cV vf a x) H → va_D A (W_F cI cV vf a x) → va_S A s.heap H locs → lv_has ls 3 [(0, .ref (a 0)), (1, .int p1), (2, .int p2)] → W p l e ({ frames := 7, cells := 0, slots := 0, locals := 122 } : Room) s m ([.ref (a 0), .int p1, .int p2] : List Value).toArray below meth c H locs 0 0 (MQ below (QW D (TY cI cV cJ cD) (W_F cI cV vf a x) A (some (.int v))) (([.ref (a 0), .int p1, .int p2] : List Value).toArray) s 0 0 A) (F0 m 0 ls []) := by
    intro H locs ls hf hP hD hS hl
    dsimp only [fX7_at] at hf
    refine lv_iload_n hx hb dX7_at_0 rfl (lv_at hl 1 rfl) ?_
    obtain ⟨u1, hc2, hf⟩ := bind_t hf
    rcases u1 with r3 | k4
    rotate_left
    · exact (thr_e hf).elim
    replace hf := thr_v hf rfl
    refine k_S (As := [.int p1]) (rest := []) (n := 1) ⟨hx, hb, hml, hown, hts⟩ (met0_X7_needKey l p1 r3 hc2) w209 w210 w1 w211 ⟨by decide +kernel, by decide +kernel, by decide +kernel⟩ ⟨Nat.le_of_ble_eq_true rfl, Nat.le_of_ble_eq_true rfl⟩ hK hE hP hD hS hA (isC := []) (isR := [0, 1, 2, 3, 4, 5, 6, 7, 8, 9, 10, 11, 12, 13, 14, 15, 16, 17, 18, 19, 20, 21, 22, 23]) (isB := [0, 1, 2, 3, 4, 5, 6, 7, 8, 9, 10, 11, 12, 13, 14, 15, 16, 17, 18, 19, 20, 21, 22, 23]) (ws' := W_F cI cV vf a x) ⟨([0, 1, 2, 3, 4, 5, 6, 7, 8, 9, 10, 11, 12, 13, 14, 15, 16, 17, 18, 19, 20, 21, 22, 23] : List Nat).filterMap (fun i : Nat => (W_F cI cV vf a x : va_W)[i]?), rfl, rfl, rfl, rfl, by decide, rfl, rfl⟩ rfl hl.1 rfl (Nat.le_of_ble_eq_true rfl) dX7_at_1 ⟨Nat.le_of_ble_eq_true rfl, Nat.le_of_ble_eq_true rfl⟩ (fun H locs hP hD hS => ?_)
    try dsimp only at hf
    refine W.eq (g2 := F0 m 4 ls []) rfl ?_
    refine lv_aload_n hx hb dX7_at_4 rfl (lv_at hl 0 rfl) ?_
    refine lv_iload_n hx hb dX7_at_5 rfl (lv_at hl 1 rfl) ?_
    refine lv_iload_n hx hb dX7_at_6 rfl (lv_at hl 2 rfl) ?_
    obtain ⟨u5, hc6, hf⟩ := bind_t hf
    rcases u5 with r7 | k8
    rotate_left
    · exact (thr_e hf).elim
    replace hf := thr_v hf rfl
    refine k_V (As := [.int p1, .int p2]) (rest := []) (n := 2) ⟨hx, hb, hml, hown, hts⟩ (met0_X7_needIndex l k vf a hvf x p1 p2 r7 hc6) w629 w631 ws20 w1 w632 ⟨rfl, by decide +kernel, by decide +kernel, by decide +kernel⟩ ⟨Nat.le_of_ble_eq_true rfl, Nat.le_of_ble_eq_true rfl⟩ hK hE hP hD hS hA (isC := [0, 1, 2, 3, 4, 5, 6, 7, 8, 9, 10, 11, 12, 13, 14, 15, 16, 17, 18, 19, 20, 21, 22, 23]) (isR := []) (isB := [0, 1, 2, 3, 4, 5, 6, 7, 8, 9, 10, 11, 12, 13, 14, 15, 16, 17, 18, 19, 20, 21, 22, 23]) (ws' := W_F cI cV vf a x) ⟨([] : List Nat).filterMap (fun i : Nat => (W_F cI cV vf a x : va_W)[i]?), rfl, rfl, rfl, rfl, by decide, rfl, rfl⟩ 0 6 rfl rfl rfl rfl hl.1 rfl (Nat.le_of_ble_eq_true rfl) dX7_at_7 ⟨Nat.le_of_ble_eq_true rfl, Nat.le_of_ble_eq_true rfl⟩ (fun H locs hP hD hS => ?_)
    try dsimp only at hf
    refine W.eq (g2 := F0 m 10 ls []) rfl ?_
    refine lv_aload_n hx hb dX7_at_10 rfl (lv_at hl 0 rfl) ?_
    refine va_get (D := D) (ci := 6) (v := .ref (a 1)) (C := RX7) (T := TX7) (N := 8) hx hb hg in_X7 hown hK hP 0 rfl rfl 0 (by decide) (hg _ w167) (fun _ h9 => h9) rfl dX7_at_11 ?_
    refine lv_iload_n hx hb dX7_at_14 rfl (lv_at hl 1 rfl) ?_
    obtain ⟨hi9, hf⟩ := chk_t hf
    refine va_aldq hx hb hK hP 1 1 rfl rfl (keyok_i hi9) dX7_at_15 ?_
    refine W.eq (g2 := F0 m 16 ls [.ref (a 6)]) (by rw [keyok_k hi9, hvf]; rfl) ?_
    refine va_getN (D := D) (ci := 5) (v := .ref (a (6 + (vlFm (fV x))))) (C := RX6) (T := TX6) (N := 10) hx hb hg in_X6 hown hK hP 6 rfl rfl 9 (by decide) (nwF_148 hE.1) (fun _ h9 => h9) rfl dX7_at_16 ?_
    refine lv_iload_n hx hb dX7_at_19 rfl (lv_at hl 2 rfl) ?_
    rcases sel_t hf with ⟨hq10, hf⟩ | ⟨hq10, hf⟩ | ⟨hq10, hf⟩
    · rw [hq10]
      obtain ⟨u11, hc12, hf⟩ := bind_t hf
      refine k_U (owner := "Compactforms$Form") (x := ⟨"Compactforms$Form", "valueAt", "(I)I"⟩) (As := [.int p2]) (rest := []) (n := 1) ⟨hx, hb, hml, hown, hts⟩ (met_X4_valueAt l 16 (fun j => a (7 + j)) (vlSm (fV x)) p2 u11 hc12) w634 w495 w499 w454 w5 w456 (hE.1.2.2.1 _ (List.mem_append_left _ (List.mem_of_getElem? (i := 2) rfl))) ⟨by decide +kernel, by decide +kernel, by decide +kernel⟩ ⟨Nat.le_of_ble_eq_true rfl, Nat.le_of_ble_eq_true rfl⟩ hK hE hP hD hS hA (isC := [7, 8, 9]) (isR := [0, 1, 2, 3, 4, 5, 6, 10, 11, 12, 13, 14, 15, 16, 17, 18, 19, 20, 21, 22, 23]) (isB := [0, 1, 2, 3, 4, 5, 6, 21, 22, 23, 7, 8, 9, 10, 11, 12, 13, 14, 15, 16, 17, 18, 19, 20]) (ws' := W_F cI cV vf a x) ⟨([0, 1, 2, 3, 4, 5, 6, 10, 11, 12, 13, 14, 15, 16, 17, 18, 19, 20, 21, 22, 23] : List Nat).filterMap (fun i : Nat => (W_F cI cV vf a x : va_W)[i]?), rfl, rfl, rfl, rfl, by decide, rfl, rfl⟩ 7 3 rfl rfl rfl rfl hl.1 rfl (Nat.le_of_ble_eq_true rfl) dX7_at_20 ⟨Nat.le_of_ble_eq_true rfl, Nat.le_of_ble_eq_true rfl⟩ (fun H locs hP hD hS => ?_)
      try dsimp only at hf
      refine W.eq (g2 := F0 m 23 ls [.int u11]) rfl ?_
      obtain rfl := Sum.inl.inj (Option.some.inj hf)
      exact W.iret (v := u11) hx hb hr (fun t ht hW => ⟨rfl, by rw [ht]; exact hP, va_K.moved hW.alike hK, hD, hS.F ht⟩) hS.2.2 dX7_at_23 hlocks
    · rw [hq10]
      obtain ⟨u13, hc14, hf⟩ := bind_t hf
      refine k_U (owner := "Compactforms$Form") (x := ⟨"Compactforms$Form", "valueAt", "(I)I"⟩) (As := [.int p2]) (rest := []) (n := 1) ⟨hx, hb, hml, hown, hts⟩ (met_X0_valueAt l (fun j => a (10 + j)) (vlCh (fV x)) p2 u13 hc14) w634 w495 w496 w497 w6 w498 (hE.1.2.2.1 _ (List.mem_append_left _ (List.mem_of_getElem? (i := 2) rfl))) ⟨by decide +kernel, by decide +kernel, by decide +kernel⟩ ⟨Nat.le_of_ble_eq_true rfl, Nat.le_of_ble_eq_true rfl⟩ hK hE hP hD hS hA (isC := [10, 11, 12, 13]) (isR := [0, 1, 2, 3, 4, 5, 6, 7, 8, 9, 14, 15, 16, 17, 18, 19, 20, 21, 22, 23]) (isB := [0, 1, 2, 3, 4, 5, 6, 7, 8, 9, 20, 21, 22, 23, 10, 11, 12, 13, 14, 15, 16, 17, 18, 19]) (ws' := W_F cI cV vf a x) ⟨([0, 1, 2, 3, 4, 5, 6, 7, 8, 9, 14, 15, 16, 17, 18, 19, 20, 21, 22, 23] : List Nat).filterMap (fun i : Nat => (W_F cI cV vf a x : va_W)[i]?), rfl, rfl, rfl, rfl, by decide, rfl, rfl⟩ 10 0 rfl rfl rfl rfl hl.1 rfl (Nat.le_of_ble_eq_true rfl) dX7_at_20 ⟨Nat.le_of_ble_eq_true rfl, Nat.le_of_ble_eq_true rfl⟩ (fun H locs hP hD hS => ?_)
      try dsimp only at hf
      refine W.eq (g2 := F0 m 23 ls [.int u13]) rfl ?_
      obtain rfl := Sum.inl.inj (Option.some.inj hf)
      exact W.iret (v := u13) hx hb hr (fun t ht hW => ⟨rfl, by rw [ht]; exact hP, va_K.moved hW.alike hK, hD, hS.F ht⟩) hS.2.2 dX7_at_23 hlocks
    · rw [hq10]
      obtain ⟨u15, hc16, hf⟩ := bind_t hf
      refine k_U (owner := "Compactforms$Form") (x := ⟨"Compactforms$Form", "valueAt", "(I)I"⟩) (As := [.int p2]) (rest := []) (n := 1) ⟨hx, hb, hml, hown, hts⟩ (met_X5_valueAt l (fun j => a (14 + j)) (vlTb (fV x)) p2 u15 hc16) w634 w495 w500 w501 w7 w502 (hE.1.2.2.1 _ (List.mem_append_left _ (List.mem_of_getElem? (i := 2) rfl))) ⟨by decide +kernel, by decide +kernel, by decide +kernel⟩ ⟨Nat.le_of_ble_eq_true rfl, Nat.le_of_ble_eq_true rfl⟩ hK hE hP hD hS hA (isC := [14, 15, 16, 17]) (isR := [0, 1, 2, 3, 4, 5, 6, 7, 8, 9, 10, 11, 12, 13, 18, 19, 20, 21, 22, 23]) (isB := [0, 1, 2, 3, 4, 5, 6, 7, 8, 9, 10, 11, 12, 13, 20, 21, 22, 23, 14, 15, 16, 17, 18, 19]) (ws' := W_F cI cV vf a x) ⟨([0, 1, 2, 3, 4, 5, 6, 7, 8, 9, 10, 11, 12, 13, 18, 19, 20, 21, 22, 23] : List Nat).filterMap (fun i : Nat => (W_F cI cV vf a x : va_W)[i]?), rfl, rfl, rfl, rfl, by decide, rfl, rfl⟩ 14 4 rfl rfl rfl rfl hl.1 rfl (Nat.le_of_ble_eq_true rfl) dX7_at_20 ⟨Nat.le_of_ble_eq_true rfl, Nat.le_of_ble_eq_true rfl⟩ (fun H locs hP hD hS => ?_)
      try dsimp only at hf
      refine W.eq (g2 := F0 m 23 ls [.int u15]) rfl ?_
      obtain rfl := Sum.inl.inj (Option.some.inj hf)
      exact W.iret (v := u15) hx hb hr (fun t ht hW => ⟨rfl, by rw [ht]; exact hP, va_K.moved hW.alike hK, hD, hS.F ht⟩) hS.2.2 dX7_at_23 hlocks
  exact M0 s.heap [] ls hf hP hD hS hl
/-! Compactforms.atByPlain(II)I -/
set_option maxHeartbeats 4000000 in
set_option maxRecDepth 100000 in
theorem met0_X7_atByPlain {D : va_G} {cI cV cJ cD : ClassId} (l : Launch) (k : Nat) (vf : Nat → Option Nat) (a : Nat → Nat) (hvf : vf k = some (a 6)) (x : FSt) (p1 : Int32) (p2 : Int32) (v : Int32) (hf : fX7_atByPlain k x p1 p2 = some (.inl v)) : MM l yX7_atByPlain cX7_atByPlain 3 (some .int) { frames := 7, cells := 0, slots := 0, locals := 122 } D (TY cI cV cJ cD) (W_F cI cV vf a x) (W_F cI cV vf a x) [.ref (a 0), .int p1, .int p2] (some (.int v)) := by
  intro sz
  refine Met.ofW (cc := cX7_atByPlain) (maxL := 3) (ret := (some .int)) (by decide +kernel) rfl ?_
  intro p e s m args below meth c s₁ B hml hv
  obtain ⟨rfl, hsz, hP, hK, hD0, hE⟩ := hv
  have hx := B.exec
  have hb := B.bytes
  have hr := B.returns
  have hts := atoms_spec (ws := .code yX7_atByPlain cX7_atByPlain 3 (some .int) :: GW) B.pre
  have hg : ∀ w ∈ GW, w.before (([.ref (a 0), .int p1, .int p2] : List Value).toArray) s = true := fun w h => hts w (List.mem_cons_of_mem _ h)
  have hown : s.vm.findClass RX7 = some m.cls := findClass_of_methodNamed B.named
  have hlocks := B.notSynchronized
  subst hsz
  have hD := hD0.self (sz := s.heap.size)
  generalize hAe : va_A (W_F cI cV vf a x) s.heap.size = A at hD hE ⊢
  have hA : ∀ q : Nat, s.heap.size ≤ q → A q := fun q h => by rw [← hAe]; exact Or.inr h
  have hS : va_S A s.heap s.heap [] := va_S.rf
  have hl := lv_entry ([.ref (a 0), .int p1, .int p2]) (n := 3) (Nat.le_of_ble_eq_true rfl)
  rw [lg_entry_eq]
  generalize (lg_sl ([.ref (a 0), .int p1, .int p2]) ++ List.replicate (3 - (lg_sl ([.ref (a 0), .int p1, .int p2])).length) Slot.unset).toArray = ls at hl ⊢
  have hl : lv_has ls 3 [(0, .ref (a 0)), (1, .int p1), (2, .int p2)] := hl
  have M0 : ∀ (H : Heap) (locs : List Loc) (ls : Array Slot), fX7_atByPlain k x p1 p2 = some (.inl v) → va_P D vwCl (W_F cI cV vf a x) H → va_D A (W_F cI cV vf a x) → va_S A s.heap H locs → lv_has ls 3 [(0, .ref (a 0)), (1, .int p1), (2, .int p2)] → W p l e ({ frames := 7, cells := 0, slots := 0, locals := 122 } : Room) s m ([.ref (a 0), .int p1, .int p2] : List Value).toArray below meth c H locs 0 0 (MQ below (QW D (TY cI cV cJ cD) (W_F cI cV vf a x) A (some (.int v))) (([.ref (a 0), .int p1, .int p2] : List Value).toArray) s 0 0 A) (F0 m 0 ls []) := by
    intro H locs ls hf hP hD hS hl
    dsimp only [fX7_atByPlain] at hf
    refine lv_iload_n hx hb dX7_atByPlain_0 rfl (lv_at hl 1 rfl) ?_
    obtain ⟨u1, hc2, hf⟩ := bind_t hf
    rcases u1 with r3 | k4
    rotate_left
    · exact (thr_e hf).elim
    replace hf := thr_v hf rfl
    refine k_S (As := [.int p1]) (rest := []) (n := 1) ⟨hx, hb, hml, hown, hts⟩ (met0_X7_needKey l p1 r3 hc2) w209 w210 w1 w211 ⟨by decide +kernel, by decide +kernel, by decide +kernel⟩ ⟨Nat.le_of_ble_eq_true rfl, Nat.le_of_ble_eq_true rfl⟩ hK hE hP hD hS hA (isC := []) (isR := [0, 1, 2, 3, 4, 5, 6, 7, 8, 9, 10, 11, 12, 13, 14, 15, 16, 17, 18, 19, 20, 21, 22, 23]) (isB := [0, 1, 2, 3, 4, 5, 6, 7, 8, 9, 10, 11, 12, 13, 14, 15, 16, 17, 18, 19, 20, 21, 22, 23]) (ws' := W_F cI cV vf a x) ⟨([0, 1, 2, 3, 4, 5, 6, 7, 8, 9, 10, 11, 12, 13, 14, 15, 16, 17, 18, 19, 20, 21, 22, 23] : List Nat).filterMap (fun i : Nat => (W_F cI cV vf a x : va_W)[i]?), rfl, rfl, rfl, rfl, by decide, rfl, rfl⟩ rfl hl.1 rfl (Nat.le_of_ble_eq_true rfl) dX7_atByPlain_1 ⟨Nat.le_of_ble_eq_true rfl, Nat.le_of_ble_eq_true rfl⟩ (fun H locs hP hD hS => ?_)
    try dsimp only at hf
    refine W.eq (g2 := F0 m 4 ls []) rfl ?_
    refine lv_aload_n hx hb dX7_atByPlain_4 rfl (lv_at hl 0 rfl) ?_
    refine lv_iload_n hx hb dX7_atByPlain_5 rfl (lv_at hl 1 rfl) ?_
    refine lv_iload_n hx hb dX7_atByPlain_6 rfl (lv_at hl 2 rfl) ?_
    obtain ⟨u5, hc6, hf⟩ := bind_t hf
    rcases u5 with r7 | k8
    rotate_left
    · exact (thr_e hf).elim
    replace hf := thr_v hf rfl
    refine k_V (As := [.int p1, .int p2]) (rest := []) (n := 2) ⟨hx, hb, hml, hown, hts⟩ (met0_X7_needIndex l k vf a hvf x p1 p2 r7 hc6) w629 w631 ws20 w1 w632 ⟨rfl, by decide +kernel, by decide +kernel, by decide +kernel⟩ ⟨Nat.le_of_ble_eq_true rfl, Nat.le_of_ble_eq_true rfl⟩ hK hE hP hD hS hA (isC := [0, 1, 2, 3, 4, 5, 6, 7, 8, 9, 10, 11, 12, 13, 14, 15, 16, 17, 18, 19, 20, 21, 22, 23]) (isR := []) (isB := [0, 1, 2, 3, 4, 5, 6, 7, 8, 9, 10, 11, 12, 13, 14, 15, 16, 17, 18, 19, 20, 21, 22, 23]) (ws' := W_F cI cV vf a x) ⟨([] : List Nat).filterMap (fun i : Nat => (W_F cI cV vf a x : va_W)[i]?), rfl, rfl, rfl, rfl, by decide, rfl, rfl⟩ 0 6 rfl rfl rfl rfl hl.1 rfl (Nat.le_of_ble_eq_true rfl) dX7_atByPlain_7 ⟨Nat.le_of_ble_eq_true rfl, Nat.le_of_ble_eq_true rfl⟩ (fun H locs hP hD hS => ?_)
    try dsimp only at hf
    refine W.eq (g2 := F0 m 10 ls []) rfl ?_
    refine lv_aload_n hx hb dX7_atByPlain_10 rfl (lv_at hl 0 rfl) ?_
    refine va_get (D := D) (ci := 6) (v := .ref (a 1)) (C := RX7) (T := TX7) (N := 8) hx hb hg in_X7 hown hK hP 0 rfl rfl 0 (by decide) (hg _ w167) (fun _ h9 => h9) rfl dX7_atByPlain_11 ?_
    refine lv_iload_n hx hb dX7_atByPlain_14 rfl (lv_at hl 1 rfl) ?_
    obtain ⟨hi9, hf⟩ := chk_t hf
    refine va_aldq hx hb hK hP 1 1 rfl rfl (keyok_i hi9) dX7_atByPlain_15 ?_
    refine W.eq (g2 := F0 m 16 ls [.ref (a 6)]) (by rw [keyok_k hi9, hvf]; rfl) ?_
    refine va_getN (D := D) (ci := 5) (v := .ref (a 18)) (C := RX6) (T := TX6) (N := 10) hx hb hg in_X6 hown hK hP 6 rfl rfl 7 (by decide) (nwF_157 hE.1) (fun _ h9 => h9) rfl dX7_atByPlain_16 ?_
    refine lv_iload_n hx hb dX7_atByPlain_19 rfl (lv_at hl 2 rfl) ?_
    obtain ⟨u10, hc11, hf⟩ := bind_t hf
    refine k_V (As := [.int p2]) (rest := []) (n := 1) ⟨hx, hb, hml, hown, hts⟩ (met_X4_valueAt l 40 (fun j => a (18 + j)) (vlPl (fV x)) p2 u10 hc11) w731 w454 w455 w5 w456 ⟨rfl, by decide +kernel, by decide +kernel, by decide +kernel⟩ ⟨Nat.le_of_ble_eq_true rfl, Nat.le_of_ble_eq_true rfl⟩ hK hE hP hD hS hA (isC := [18, 19, 20]) (isR := [0, 1, 2, 3, 4, 5, 6, 7, 8, 9, 10, 11, 12, 13, 14, 15, 16, 17, 21, 22, 23]) (isB := [0, 1, 2, 3, 4, 5, 6, 7, 8, 9, 10, 11, 12, 13, 14, 15, 16, 17, 21, 22, 23, 18, 19, 20]) (ws' := W_F cI cV vf a x) ⟨([0, 1, 2, 3, 4, 5, 6, 7, 8, 9, 10, 11, 12, 13, 14, 15, 16, 17, 21, 22, 23] : List Nat).filterMap (fun i : Nat => (W_F cI cV vf a x : va_W)[i]?), rfl, rfl, rfl, rfl, by decide, rfl, rfl⟩ 18 3 rfl rfl rfl rfl hl.1 rfl (Nat.le_of_ble_eq_true rfl) dX7_atByPlain_20 ⟨Nat.le_of_ble_eq_true rfl, Nat.le_of_ble_eq_true rfl⟩ (fun H locs hP hD hS => ?_)
    try dsimp only at hf
    refine W.eq (g2 := F0 m 23 ls [.int u10]) rfl ?_
    obtain rfl := Sum.inl.inj (Option.some.inj hf)
    exact W.iret (v := u10) hx hb hr (fun t ht hW => ⟨rfl, by rw [ht]; exact hP, va_K.moved hW.alike hK, hD, hS.F ht⟩) hS.2.2 dX7_atByPlain_23 hlocks
  exact M0 s.heap [] ls hf hP hD hS hl
/-! Compactforms.indexOf(II)I -/
set_option maxHeartbeats 4000000 in
set_option maxRecDepth 100000 in
theorem met0_X7_indexOf {D : va_G} {cI cV cJ cD : ClassId} (l : Launch) (k : Nat) (vf : Nat → Option Nat) (a : Nat → Nat) (hvf : vf k = some (a 6)) (x : FSt) (p1 : Int32) (p2 : Int32) (v : Int32) (hf : fX7_indexOf k x p1 p2 = some (.inl v)) : MM l yX7_indexOf cX7_indexOf 3 (some .int) { frames := 8, cells := 0, slots := 0, locals := 142 } D (TY cI cV cJ cD) (W_F cI cV vf a x) (W_F cI cV vf a x) [.ref (a 0), .int p1, .int p2] (some (.int v)) := by
  intro sz
  refine Met.ofW (cc := cX7_indexOf) (maxL := 3) (ret := (some .int)) (by decide +kernel) rfl ?_
  intro p e s m args below meth c s₁ B hml hv
  obtain ⟨rfl, hsz, hP, hK, hD0, hE⟩ := hv
  have hx := B.exec
  have hb := B.bytes
  have hr := B.returns
  have hts := atoms_spec (ws := .code yX7_indexOf cX7_indexOf 3 (some .int) :: GW) B.pre
  have hg : ∀ w ∈ GW, w.before (([.ref (a 0), .int p1, .int p2] : List Value).toArray) s = true := fun w h => hts w (List.mem_cons_of_mem _ h)
  have hown : s.vm.findClass RX7 = some m.cls := findClass_of_methodNamed B.named
  have hlocks := B.notSynchronized
  subst hsz
  have hD := hD0.self (sz := s.heap.size)
  generalize hAe : va_A (W_F cI cV vf a x) s.heap.size = A at hD hE ⊢
  have hA : ∀ q : Nat, s.heap.size ≤ q → A q := fun q h => by rw [← hAe]; exact Or.inr h
  have hS : va_S A s.heap s.heap [] := va_S.rf
  have hl := lv_entry ([.ref (a 0), .int p1, .int p2]) (n := 3) (Nat.le_of_ble_eq_true rfl)
  rw [lg_entry_eq]
  generalize (lg_sl ([.ref (a 0), .int p1, .int p2]) ++ List.replicate (3 - (lg_sl ([.ref (a 0), .int p1, .int p2])).length) Slot.unset).toArray = ls at hl ⊢
  have hl : lv_has ls 3 [(0, .ref (a 0)), (1, .int p1), (2, .int p2)] := hl
  have M0 : ∀ (H : Heap) (locs : List Loc) (ls : Array Slot), fX7_indexOf k x p1 p2 = some (.inl v) → va_P D vwCl (W_F cI cV vf a x) H → va_D A (W_F cI cV vf a x) → va_S A s.heap H locs → lv_has ls 3 [(0, .ref (a 0)), (1, .int p1), (2, .int p2)] → W p l e ({ frames := 8, cells := 0, slots := 0, locals := 142 } : Room) s m ([.ref (a 0), .int p1, .int p2] : List Value).toArray below meth c H locs 0 0 (MQ below (QW D (TY cI cV cJ cD) (W_F cI cV vf a x) A (some (.int v))) (([.ref (a 0), .int p1, .int p2] : List Value).toArray) s 0 0 A) (F0 m 0 ls []) := by
    intro H locs ls hf hP hD hS hl
    dsimp only [fX7_indexOf] at hf
    refine lv_iload_n hx hb dX7_indexOf_0 rfl (lv_at hl 1 rfl) ?_
    obtain ⟨u1, hc2, hf⟩ := bind_t hf
    rcases u1 with r3 | k4
    rotate_left
    · exact (thr_e hf).elim
    replace hf := thr_v hf rfl
    refine k_S (As := [.int p1]) (rest := []) (n := 1) ⟨hx, hb, hml, hown, hts⟩ (met0_X7_needKey l p1 r3 hc2) w209 w210 w1 w211 ⟨by decide +kernel, by decide +kernel, by decide +kernel⟩ ⟨Nat.le_of_ble_eq_true rfl, Nat.le_of_ble_eq_true rfl⟩ hK hE hP hD hS hA (isC := []) (isR := [0, 1, 2, 3, 4, 5, 6, 7, 8, 9, 10, 11, 12, 13, 14, 15, 16, 17, 18, 19, 20, 21, 22, 23]) (isB := [0, 1, 2, 3, 4, 5, 6, 7, 8, 9, 10, 11, 12, 13, 14, 15, 16, 17, 18, 19, 20, 21, 22, 23]) (ws' := W_F cI cV vf a x) ⟨([0, 1, 2, 3, 4, 5, 6, 7, 8, 9, 10, 11, 12, 13, 14, 15, 16, 17, 18, 19, 20, 21, 22, 23] : List Nat).filterMap (fun i : Nat => (W_F cI cV vf a x : va_W)[i]?), rfl, rfl, rfl, rfl, by decide, rfl, rfl⟩ rfl hl.1 rfl (Nat.le_of_ble_eq_true rfl) dX7_indexOf_1 ⟨Nat.le_of_ble_eq_true rfl, Nat.le_of_ble_eq_true rfl⟩ (fun H locs hP hD hS => ?_)
    try dsimp only at hf
    refine W.eq (g2 := F0 m 4 ls []) rfl ?_
    refine lv_iload_n hx hb dX7_indexOf_4 rfl (lv_at hl 2 rfl) ?_
    obtain ⟨u5, hc6, hf⟩ := bind_t hf
    rcases u5 with r7 | k8
    rotate_left
    · exact (thr_e hf).elim
    replace hf := thr_v hf rfl
    refine k_S (As := [.int p2]) (rest := []) (n := 1) ⟨hx, hb, hml, hown, hts⟩ (met0_X7_needValue l p2 r7 hc6) w314 w315 w1 w316 ⟨by decide +kernel, by decide +kernel, by decide +kernel⟩ ⟨Nat.le_of_ble_eq_true rfl, Nat.le_of_ble_eq_true rfl⟩ hK hE hP hD hS hA (isC := []) (isR := [0, 1, 2, 3, 4, 5, 6, 7, 8, 9, 10, 11, 12, 13, 14, 15, 16, 17, 18, 19, 20, 21, 22, 23]) (isB := [0, 1, 2, 3, 4, 5, 6, 7, 8, 9, 10, 11, 12, 13, 14, 15, 16, 17, 18, 19, 20, 21, 22, 23]) (ws' := W_F cI cV vf a x) ⟨([0, 1, 2, 3, 4, 5, 6, 7, 8, 9, 10, 11, 12, 13, 14, 15, 16, 17, 18, 19, 20, 21, 22, 23] : List Nat).filterMap (fun i : Nat => (W_F cI cV vf a x : va_W)[i]?), rfl, rfl, rfl, rfl, by decide, rfl, rfl⟩ rfl hl.1 rfl (Nat.le_of_ble_eq_true rfl) dX7_indexOf_5 ⟨Nat.le_of_ble_eq_true rfl, Nat.le_of_ble_eq_true rfl⟩ (fun H locs hP hD hS => ?_)
    try dsimp only at hf
    refine W.eq (g2 := F0 m 8 ls []) rfl ?_
    refine lv_aload_n hx hb dX7_indexOf_8 rfl (lv_at hl 0 rfl) ?_
    refine lv_iload_n hx hb dX7_indexOf_9 rfl (lv_at hl 1 rfl) ?_
    refine lv_iload_n hx hb dX7_indexOf_10 rfl (lv_at hl 2 rfl) ?_
    obtain ⟨u9, hc10, hf⟩ := bind_t hf
    refine k_V (As := [.int p1, .int p2]) (rest := []) (n := 2) ⟨hx, hb, hml, hown, hts⟩ (met_X7_placeIn l k vf a hvf x p1 p2 u9 hc10) w336 w338 ws4 w1 w339 ⟨rfl, by decide +kernel, by decide +kernel, by decide +kernel⟩ ⟨Nat.le_of_ble_eq_true rfl, Nat.le_of_ble_eq_true rfl⟩ hK hE hP hD hS hA (isC := [0, 1, 2, 3, 4, 5, 6, 7, 8, 9, 10, 11, 12, 13, 14, 15, 16, 17, 18, 19, 20, 21, 22, 23]) (isR := []) (isB := [0, 1, 2, 3, 4, 5, 6, 7, 8, 9, 10, 11, 12, 13, 14, 15, 16, 17, 18, 19, 20, 21, 22, 23]) (ws' := W_F cI cV vf a x) ⟨([] : List Nat).filterMap (fun i : Nat => (W_F cI cV vf a x : va_W)[i]?), rfl, rfl, rfl, rfl, by decide, rfl, rfl⟩ 0 6 rfl rfl rfl rfl hl.1 rfl (Nat.le_of_ble_eq_true rfl) dX7_indexOf_11 ⟨Nat.le_of_ble_eq_true rfl, Nat.le_of_ble_eq_true rfl⟩ (fun H locs hP hD hS => ?_)
    try dsimp only at hf
    refine W.eq (g2 := F0 m 14 ls [.int u9]) rfl ?_
    obtain rfl := Sum.inl.inj (Option.some.inj hf)
    exact W.iret (v := u9) hx hb hr (fun t ht hW => ⟨rfl, by rw [ht]; exact hP, va_K.moved hW.alike hK, hD, hS.F ht⟩) hS.2.2 dX7_indexOf_14 hlocks
  exact M0 s.heap [] ls hf hP hD hS hl
/-! Compactforms.left(I)I -/
set_option maxHeartbeats 4000000 in
set_option maxRecDepth 100000 in
theorem met0_X7_left {D : va_G} {cI cV cJ cD : ClassId} (l : Launch) (k : Nat) (vf : Nat → Option Nat) (a : Nat → Nat) (hvf : vf k = some (a 6)) (x : FSt) (p1 : Int32) (v : Int32) (hf : fX7_left k x p1 = some (.inl v)) : MM l yX7_left cX7_left 3 (some .int) { frames := 7, cells := 0, slots := 0, locals := 120 } D (TY cI cV cJ cD) (W_F cI cV vf a x) (W_F cI cV vf a x) [.ref (a 0), .int p1] (some (.int v)) := by
  intro sz
  refine Met.ofW (cc := cX7_left) (maxL := 3) (ret := (some .int)) (by decide +kernel) rfl ?_
  intro p e s m args below meth c s₁ B hml hv
  obtain ⟨rfl, hsz, hP, hK, hD0, hE⟩ := hv
  have hx := B.exec
  have hb := B.bytes
  have hr := B.returns
  have hts := atoms_spec (ws := .code yX7_left cX7_left 3 (some .int) :: GW) B.pre
  have hg : ∀ w ∈ GW, w.before (([.ref (a 0), .int p1] : List Value).toArray) s = true := fun w h => hts w (List.mem_cons_of_mem _ h)
  have hown : s.vm.findClass RX7 = some m.cls := findClass_of_methodNamed B.named
  have hlocks := B.notSynchronized
  subst hsz
  have hD := hD0.self (sz := s.heap.size)
  generalize hAe : va_A (W_F cI cV vf a x) s.heap.size = A at hD hE ⊢
  have hA : ∀ q : Nat, s.heap.size ≤ q → A q := fun q h => by rw [← hAe]; exact Or.inr h
  have hS : va_S A s.heap s.heap [] := va_S.rf
  have hl := lv_entry ([.ref (a 0), .int p1]) (n := 3) (Nat.le_of_ble_eq_true rfl)
  rw [lg_entry_eq]
  generalize (lg_sl ([.ref (a 0), .int p1]) ++ List.replicate (3 - (lg_sl ([.ref (a 0), .int p1])).length) Slot.unset).toArray = ls at hl ⊢
  have hl : lv_has ls 3 [(0, .ref (a 0)), (1, .int p1)] := hl
  have M0 : ∀ (H : Heap) (locs : List Loc) (ls : Array Slot), fX7_left k x p1 = some (.inl v) → va_P D vwCl (W_F cI cV vf a x) H → va_D A (W_F cI cV vf a x) → va_S A s.heap H locs → lv_has ls 3 [(0, .ref (a 0)), (1, .int p1)] → W p l e ({ frames := 7, cells := 0, slots := 0, locals := 120 } : Room) s m ([.ref (a 0), .int p1] : List Value).toArray below meth c H locs 0 0 (MQ below (QW D (TY cI cV cJ cD) (W_F cI cV vf a x) A (some (.int v))) (([.ref (a 0), .int p1] : List Value).toArray) s 0 0 A) (F0 m 0 ls []) := by
    intro H locs ls hf hP hD hS hl
    dsimp only [fX7_left] at hf
    refine lv_iload_n hx hb dX7_left_0 rfl (lv_at hl 1 rfl) ?_
    obtain ⟨u1, hc2, hf⟩ := bind_t hf
    rcases u1 with r3 | k4
    rotate_left
    · exact (thr_e hf).elim
    replace hf := thr_v hf rfl
    refine k_S (As := [.int p1]) (rest := []) (n := 1) ⟨hx, hb, hml, hown, hts⟩ (met0_X7_needKey l p1 r3 hc2) w209 w210 w1 w211 ⟨by decide +kernel, by decide +kernel, by decide +kernel⟩ ⟨Nat.le_of_ble_eq_true rfl, Nat.le_of_ble_eq_true rfl⟩ hK hE hP hD hS hA (isC := []) (isR := [0, 1, 2, 3, 4, 5, 6, 7, 8, 9, 10, 11, 12, 13, 14, 15, 16, 17, 18, 19, 20, 21, 22, 23]) (isB := [0, 1, 2, 3, 4, 5, 6, 7, 8, 9, 10, 11, 12, 13, 14, 15, 16, 17, 18, 19, 20, 21, 22, 23]) (ws' := W_F cI cV vf a x) ⟨([0, 1, 2, 3, 4, 5, 6, 7, 8, 9, 10, 11, 12, 13, 14, 15, 16, 17, 18, 19, 20, 21, 22, 23] : List Nat).filterMap (fun i : Nat => (W_F cI cV vf a x : va_W)[i]?), rfl, rfl, rfl, rfl, by decide, rfl, rfl⟩ rfl hl.1 rfl (Nat.le_of_ble_eq_true rfl) dX7_left_1 ⟨Nat.le_of_ble_eq_true rfl, Nat.le_of_ble_eq_true rfl⟩ (fun H locs hP hD hS => ?_)
    try dsimp only at hf
    refine W.eq (g2 := F0 m 4 ls []) rfl ?_
    refine lv_aload_n hx hb dX7_left_4 rfl (lv_at hl 0 rfl) ?_
    refine lv_iload_n hx hb dX7_left_5 rfl (lv_at hl 1 rfl) ?_
    obtain ⟨u5, hc6, hf⟩ := bind_t hf
    refine k_V (As := [.int p1]) (rest := []) (n := 1) ⟨hx, hb, hml, hown, hts⟩ (met_X7_isThere l k vf a hvf x p1 u5 hc6) w290 w292 ws2 w1 w293 ⟨rfl, by decide +kernel, by decide +kernel, by decide +kernel⟩ ⟨Nat.le_of_ble_eq_true rfl, Nat.le_of_ble_eq_true rfl⟩ hK hE hP hD hS hA (isC := [0, 1, 2, 3, 4, 5, 6, 7, 8, 9, 10, 11, 12, 13, 14, 15, 16, 17, 18, 19, 20, 21, 22, 23]) (isR := []) (isB := [0, 1, 2, 3, 4, 5, 6, 7, 8, 9, 10, 11, 12, 13, 14, 15, 16, 17, 18, 19, 20, 21, 22, 23]) (ws' := W_F cI cV vf a x) ⟨([] : List Nat).filterMap (fun i : Nat => (W_F cI cV vf a x : va_W)[i]?), rfl, rfl, rfl, rfl, by decide, rfl, rfl⟩ 0 6 rfl rfl rfl rfl hl.1 rfl (Nat.le_of_ble_eq_true rfl) dX7_left_6 ⟨Nat.le_of_ble_eq_true rfl, Nat.le_of_ble_eq_true rfl⟩ (fun H locs hP hD hS => ?_)
    try dsimp only at hf
    refine W.eq (g2 := F0 m 9 ls [.int u5]) rfl ?_
    refine lv_if_ne (tgt := 14) hx hb dX7_left_9 (by decide) (fun c7 => ?_) (fun c7 => ?_)
    · replace hf := if_f c7 hf
      refine lv_aload_n hx hb dX7_left_14 rfl (lv_at hl 0 rfl) ?_
      refine va_get (D := D) (ci := 6) (v := .ref (a 1)) (C := RX7) (T := TX7) (N := 8) hx hb hg in_X7 hown hK hP 0 rfl rfl 0 (by decide) (hg _ w167) (fun _ h9 => h9) rfl dX7_left_15 ?_
      refine lv_iload_n hx hb dX7_left_18 rfl (lv_at hl 1 rfl) ?_
      obtain ⟨hi8, hf⟩ := chk_t hf
      refine va_aldq hx hb hK hP 1 1 rfl rfl (keyok_i hi8) dX7_left_19 ?_
      refine W.eq (g2 := F0 m 20 ls [.ref (a 6)]) (by rw [keyok_k hi8, hvf]; rfl) ?_
      refine va_getN (D := D) (ci := 5) (v := .int (vlEnd (fV x))) (C := RX6) (T := TX6) (N := 10) hx hb hg in_X6 hown hK hP 6 rfl rfl 2 (by decide) (nwF_106 hE.1) (fun _ h9 => h9) rfl dX7_left_20 ?_
      refine lv_topi (fun y9 hy9 => ?_)
      replace hf := keep_e hf y9 hy9
      refine lv_istore_n (lv' := [(2, .int y9), (0, .ref (a 0)), (1, .int p1)]) hx hb dX7_left_23 rfl hl (by decide) rfl (fun ls hl => ?_)
      refine lv_iload_n hx hb dX7_left_24 rfl (lv_at hl 0 rfl) ?_
      refine lv_iconst (v := (-1)) hx hb dX7_left_25 (by decide) ?_
      refine lv_icmp_ne (tgt := 33) hx hb dX7_left_26 (by decide) (fun c10 => ?_) (fun c10 => ?_)
      · replace hf := if_f c10 hf
        refine lv_iload_n hx hb dX7_left_33 rfl (lv_at hl 0 rfl) ?_
        refine lv_aload_n hx hb dX7_left_34 rfl (lv_at hl 1 rfl) ?_
        refine va_get (D := D) (ci := 6) (v := .int (fClk x)) (C := RX7) (T := TX7) (N := 8) hx hb hg in_X7 hown hK hP 0 rfl rfl 5 (by decide) (hg _ w172) (fun _ h9 => h9) rfl dX7_left_35 ?_
        refine lv_isub hx hb dX7_left_38 ?_
        obtain rfl := Sum.inl.inj (Option.some.inj hf)
        exact W.iret (v := (y9 - (fClk x))) hx hb hr (fun t ht hW => ⟨rfl, by rw [ht]; exact hP, va_K.moved hW.alike hK, hD, hS.F ht⟩) hS.2.2 dX7_left_39 hlocks
      · replace hf := if_t c10 hf
        refine lv_iconst (v := (-1)) hx hb dX7_left_29 (by decide) ?_
        refine lv_goto (tgt := 39) hx hb dX7_left_30 (by decide) ?_
        obtain rfl := Sum.inl.inj (Option.some.inj hf)
        exact W.iret (v := (-1)) hx hb hr (fun t ht hW => ⟨rfl, by rw [ht]; exact hP, va_K.moved hW.alike hK, hD, hS.F ht⟩) hS.2.2 dX7_left_39 hlocks
    · replace hf := if_t c7 hf
      refine lv_iconst (v := 0) hx hb dX7_left_12 (by decide) ?_
      obtain rfl := Sum.inl.inj (Option.some.inj hf)
      exact W.iret (v := 0) hx hb hr (fun t ht hW => ⟨rfl, by rw [ht]; exact hP, va_K.moved hW.alike hK, hD, hS.F ht⟩) hS.2.2 dX7_left_13 hlocks
  exact M0 s.heap [] ls hf hP hD hS hl
/-! Compactforms.points(II)F -/
set_option maxHeartbeats 4000000 in
set_option maxRecDepth 100000 in
theorem met0_X7_points {D : va_G} {cI cV cJ cD : ClassId} (l : Launch) (k : Nat) (vf : Nat → Option Nat) (a : Nat → Nat) (hvf : vf k = some (a 6)) (x : FSt) (p1 : Int32) (p2 : Int32) (v : UInt32) (hf : fX7_points k x p1 p2 = some (.inl v)) : MM l yX7_points cX7_points 4 (some .float) { frames := 8, cells := 0, slots := 0, locals := 142 } D (TY cI cV cJ cD) (W_F cI cV vf a x) (W_F cI cV vf a x) [.ref (a 0), .int p1, .int p2] (some (.float v)) := by
  intro sz
  refine Met.ofW (cc := cX7_points) (maxL := 4) (ret := (some .float)) (by decide +kernel) rfl ?_
  intro p e s m args below meth c s₁ B hml hv
  obtain ⟨rfl, hsz, hP, hK, hD0, hE⟩ := hv
  have hx := B.exec
  have hb := B.bytes
  have hr := B.returns
  have hts := atoms_spec (ws := .code yX7_points cX7_points 4 (some .float) :: GW) B.pre
  have hg : ∀ w ∈ GW, w.before (([.ref (a 0), .int p1, .int p2] : List Value).toArray) s = true := fun w h => hts w (List.mem_cons_of_mem _ h)
  have hown : s.vm.findClass RX7 = some m.cls := findClass_of_methodNamed B.named
  have hlocks := B.notSynchronized
  subst hsz
  have hD := hD0.self (sz := s.heap.size)
  generalize hAe : va_A (W_F cI cV vf a x) s.heap.size = A at hD hE ⊢
  have hA : ∀ q : Nat, s.heap.size ≤ q → A q := fun q h => by rw [← hAe]; exact Or.inr h
  have hS : va_S A s.heap s.heap [] := va_S.rf
  have hl := lv_entry ([.ref (a 0), .int p1, .int p2]) (n := 4) (Nat.le_of_ble_eq_true rfl)
  rw [lg_entry_eq]
  generalize (lg_sl ([.ref (a 0), .int p1, .int p2]) ++ List.replicate (4 - (lg_sl ([.ref (a 0), .int p1, .int p2])).length) Slot.unset).toArray = ls at hl ⊢
  have hl : lv_has ls 4 [(0, .ref (a 0)), (1, .int p1), (2, .int p2)] := hl
  have L49 : ∀ (x : FSt) (s0 : Int32) (H : Heap) (locs : List Loc) (ls : Array Slot), fX7_points_49 k x s0  = some (.inl v) → va_P D vwCl (W_F cI cV vf a x) H → va_D A (W_F cI cV vf a x) → va_S A s.heap H locs → lv_has ls 4 [] → W p l e ({ frames := 8, cells := 0, slots := 0, locals := 142 } : Room) s m ([.ref (a 0), .int p1, .int p2] : List Value).toArray below meth c H locs 0 0 (MQ below (QW D (TY cI cV cJ cD) (W_F cI cV vf a x) A (some (.float v))) (([.ref (a 0), .int p1, .int p2] : List Value).toArray) s 0 0 A) (F0 m 49 ls [.int s0]) := by
    intro x s0 H locs ls hf hP hD hS hl
    dsimp only [fX7_points_49] at hf
    obtain ⟨u1, hc2, hf⟩ := bind_t hf
    refine k_S (As := [.int s0]) (rest := []) (n := 1) ⟨hx, hb, hml, hown, hts⟩ (met_X7_floatOf l s0 u1 hc2) w762 w763 w1 w764 ⟨by decide +kernel, by decide +kernel, by decide +kernel⟩ ⟨Nat.le_of_ble_eq_true rfl, Nat.le_of_ble_eq_true rfl⟩ hK hE hP hD hS hA (isC := []) (isR := [0, 1, 2, 3, 4, 5, 6, 7, 8, 9, 10, 11, 12, 13, 14, 15, 16, 17, 18, 19, 20, 21, 22, 23]) (isB := [0, 1, 2, 3, 4, 5, 6, 7, 8, 9, 10, 11, 12, 13, 14, 15, 16, 17, 18, 19, 20, 21, 22, 23]) (ws' := W_F cI cV vf a x) ⟨([0, 1, 2, 3, 4, 5, 6, 7, 8, 9, 10, 11, 12, 13, 14, 15, 16, 17, 18, 19, 20, 21, 22, 23] : List Nat).filterMap (fun i : Nat => (W_F cI cV vf a x : va_W)[i]?), rfl, rfl, rfl, rfl, by decide, rfl, rfl⟩ rfl hl.1 rfl (Nat.le_of_ble_eq_true rfl) dX7_points_49 ⟨Nat.le_of_ble_eq_true rfl, Nat.le_of_ble_eq_true rfl⟩ (fun H locs hP hD hS => ?_)
    try dsimp only at hf
    refine W.eq (g2 := F0 m 52 ls [.float u1]) rfl ?_
    obtain rfl := Sum.inl.inj (Option.some.inj hf)
    exact W.fret (v := u1) hx hb hr (fun t ht hW => ⟨rfl, by rw [ht]; exact hP, va_K.moved hW.alike hK, hD, hS.F ht⟩) hS.2.2 dX7_points_52 hlocks
  have M0 : ∀ (H : Heap) (locs : List Loc) (ls : Array Slot), fX7_points k x p1 p2 = some (.inl v) → va_P D vwCl (W_F cI cV vf a x) H → va_D A (W_F cI cV vf a x) → va_S A s.heap H locs → lv_has ls 4 [(0, .ref (a 0)), (1, .int p1), (2, .int p2)] → W p l e ({ frames := 8, cells := 0, slots := 0, locals := 142 } : Room) s m ([.ref (a 0), .int p1, .int p2] : List Value).toArray below meth c H locs 0 0 (MQ below (QW D (TY cI cV cJ cD) (W_F cI cV vf a x) A (some (.float v))) (([.ref (a 0), .int p1, .int p2] : List Value).toArray) s 0 0 A) (F0 m 0 ls []) := by
    intro H locs ls hf hP hD hS hl
    dsimp only [fX7_points] at hf
    refine lv_iload_n hx hb dX7_points_0 rfl (lv_at hl 1 rfl) ?_
    obtain ⟨u3, hc4, hf⟩ := bind_t hf
    rcases u3 with r5 | k6
    rotate_left
    · exact (thr_e hf).elim
    replace hf := thr_v hf rfl
    refine k_S (As := [.int p1]) (rest := []) (n := 1) ⟨hx, hb, hml, hown, hts⟩ (met0_X7_needKey l p1 r5 hc4) w209 w210 w1 w211 ⟨by decide +kernel, by decide +kernel, by decide +kernel⟩ ⟨Nat.le_of_ble_eq_true rfl, Nat.le_of_ble_eq_true rfl⟩ hK hE hP hD hS hA (isC := []) (isR := [0, 1, 2, 3, 4, 5, 6, 7, 8, 9, 10, 11, 12, 13, 14, 15, 16, 17, 18, 19, 20, 21, 22, 23]) (isB := [0, 1, 2, 3, 4, 5, 6, 7, 8, 9, 10, 11, 12, 13, 14, 15, 16, 17, 18, 19, 20, 21, 22, 23]) (ws' := W_F cI cV vf a x) ⟨([0, 1, 2, 3, 4, 5, 6, 7, 8, 9, 10, 11, 12, 13, 14, 15, 16, 17, 18, 19, 20, 21, 22, 23] : List Nat).filterMap (fun i : Nat => (W_F cI cV vf a x : va_W)[i]?), rfl, rfl, rfl, rfl, by decide, rfl, rfl⟩ rfl hl.1 rfl (Nat.le_of_ble_eq_true rfl) dX7_points_1 ⟨Nat.le_of_ble_eq_true rfl, Nat.le_of_ble_eq_true rfl⟩ (fun H locs hP hD hS => ?_)
    try dsimp only at hf
    refine W.eq (g2 := F0 m 4 ls []) rfl ?_
    refine lv_iload_n hx hb dX7_points_4 rfl (lv_at hl 2 rfl) ?_
    obtain ⟨u7, hc8, hf⟩ := bind_t hf
    rcases u7 with r9 | k10
    rotate_left
    · exact (thr_e hf).elim
    replace hf := thr_v hf rfl
    refine k_S (As := [.int p2]) (rest := []) (n := 1) ⟨hx, hb, hml, hown, hts⟩ (met0_X7_needValue l p2 r9 hc8) w314 w315 w1 w316 ⟨by decide +kernel, by decide +kernel, by decide +kernel⟩ ⟨Nat.le_of_ble_eq_true rfl, Nat.le_of_ble_eq_true rfl⟩ hK hE hP hD hS hA (isC := []) (isR := [0, 1, 2, 3, 4, 5, 6, 7, 8, 9, 10, 11, 12, 13, 14, 15, 16, 17, 18, 19, 20, 21, 22, 23]) (isB := [0, 1, 2, 3, 4, 5, 6, 7, 8, 9, 10, 11, 12, 13, 14, 15, 16, 17, 18, 19, 20, 21, 22, 23]) (ws' := W_F cI cV vf a x) ⟨([0, 1, 2, 3, 4, 5, 6, 7, 8, 9, 10, 11, 12, 13, 14, 15, 16, 17, 18, 19, 20, 21, 22, 23] : List Nat).filterMap (fun i : Nat => (W_F cI cV vf a x : va_W)[i]?), rfl, rfl, rfl, rfl, by decide, rfl, rfl⟩ rfl hl.1 rfl (Nat.le_of_ble_eq_true rfl) dX7_points_5 ⟨Nat.le_of_ble_eq_true rfl, Nat.le_of_ble_eq_true rfl⟩ (fun H locs hP hD hS => ?_)
    try dsimp only at hf
    refine W.eq (g2 := F0 m 8 ls []) rfl ?_
    refine lv_aload_n hx hb dX7_points_8 rfl (lv_at hl 0 rfl) ?_
    refine lv_iload_n hx hb dX7_points_9 rfl (lv_at hl 1 rfl) ?_
    refine lv_iconst (v := 3) hx hb dX7_points_10 (by decide) ?_
    obtain ⟨u11, hc12, hf⟩ := bind_t hf
    rcases u11 with r13 | k14
    rotate_left
    · exact (thr_e hf).elim
    replace hf := thr_v hf rfl
    refine k_V (As := [.int p1, .int 3]) (rest := []) (n := 2) ⟨hx, hb, hml, hown, hts⟩ (met0_X7_needType l k vf a hvf x p1 3 r13 hc12) w373 w375 ws8 w1 w376 ⟨rfl, by decide +kernel, by decide +kernel, by decide +kernel⟩ ⟨Nat.le_of_ble_eq_true rfl, Nat.le_of_ble_eq_true rfl⟩ hK hE hP hD hS hA (isC := [0, 1, 2, 3, 4, 5, 6, 7, 8, 9, 10, 11, 12, 13, 14, 15, 16, 17, 18, 19, 20, 21, 22, 23]) (isR := []) (isB := [0, 1, 2, 3, 4, 5, 6, 7, 8, 9, 10, 11, 12, 13, 14, 15, 16, 17, 18, 19, 20, 21, 22, 23]) (ws' := W_F cI cV vf a x) ⟨([] : List Nat).filterMap (fun i : Nat => (W_F cI cV vf a x : va_W)[i]?), rfl, rfl, rfl, rfl, by decide, rfl, rfl⟩ 0 6 rfl rfl rfl rfl hl.1 rfl (Nat.le_of_ble_eq_true rfl) dX7_points_11 ⟨Nat.le_of_ble_eq_true rfl, Nat.le_of_ble_eq_true rfl⟩ (fun H locs hP hD hS => ?_)
    try dsimp only at hf
    refine W.eq (g2 := F0 m 14 ls []) rfl ?_
    refine lv_aload_n hx hb dX7_points_14 rfl (lv_at hl 0 rfl) ?_
    refine lv_iload_n hx hb dX7_points_15 rfl (lv_at hl 1 rfl) ?_
    refine lv_iload_n hx hb dX7_points_16 rfl (lv_at hl 2 rfl) ?_
    obtain ⟨u15, hc16, hf⟩ := bind_t hf
    refine k_V (As := [.int p1, .int p2]) (rest := []) (n := 2) ⟨hx, hb, hml, hown, hts⟩ (met_X7_placeIn l k vf a hvf x p1 p2 u15 hc16) w336 w338 ws4 w1 w339 ⟨rfl, by decide +kernel, by decide +kernel, by decide +kernel⟩ ⟨Nat.le_of_ble_eq_true rfl, Nat.le_of_ble_eq_true rfl⟩ hK hE hP hD hS hA (isC := [0, 1, 2, 3, 4, 5, 6, 7, 8, 9, 10, 11, 12, 13, 14, 15, 16, 17, 18, 19, 20, 21, 22, 23]) (isR := []) (isB := [0, 1, 2, 3, 4, 5, 6, 7, 8, 9, 10, 11, 12, 13, 14, 15, 16, 17, 18, 19, 20, 21, 22, 23]) (ws' := W_F cI cV vf a x) ⟨([] : List Nat).filterMap (fun i : Nat => (W_F cI cV vf a x : va_W)[i]?), rfl, rfl, rfl, rfl, by decide, rfl, rfl⟩ 0 6 rfl rfl rfl rfl hl.1 rfl (Nat.le_of_ble_eq_true rfl) dX7_points_17 ⟨Nat.le_of_ble_eq_true rfl, Nat.le_of_ble_eq_true rfl⟩ (fun H locs hP hD hS => ?_)
    try dsimp only at hf
    refine W.eq (g2 := F0 m 20 ls [.int u15]) rfl ?_
    refine lv_istore_n (lv' := [(3, .int u15), (0, .ref (a 0)), (1, .int p1), (2, .int p2)]) hx hb dX7_points_20 rfl hl (by decide) rfl (fun ls hl => ?_)
    refine lv_iload_n hx hb dX7_points_21 rfl (lv_at hl 0 rfl) ?_
    refine lv_iconst (v := (-1)) hx hb dX7_points_22 (by decide) ?_
    refine lv_icmp_ne (tgt := 36) hx hb dX7_points_23 (by decide) (fun c17 => ?_) (fun c17 => ?_)
    · replace hf := if_f c17 hf
      refine lv_aload_n hx hb dX7_points_36 rfl (lv_at hl 1 rfl) ?_
      refine va_get (D := D) (ci := 6) (v := .ref (a 1)) (C := RX7) (T := TX7) (N := 8) hx hb hg in_X7 hown hK hP 0 rfl rfl 0 (by decide) (hg _ w167) (fun _ h9 => h9) rfl dX7_points_37 ?_
      refine lv_iload_n hx hb dX7_points_40 rfl (lv_at hl 2 rfl) ?_
      obtain ⟨hi18, hf⟩ := chk_t hf
      refine va_aldq hx hb hK hP 1 1 rfl rfl (keyok_i hi18) dX7_points_41 ?_
      refine W.eq (g2 := F0 m 42 ls [.ref (a 6)]) (by rw [keyok_k hi18, hvf]; rfl) ?_
      refine va_getN (D := D) (ci := 5) (v := .ref (a (6 + (vlFm (fV x))))) (C := RX6) (T := TX6) (N := 10) hx hb hg in_X6 hown hK hP 6 rfl rfl 9 (by decide) (nwF_148 hE.1) (fun _ h9 => h9) rfl dX7_points_42 ?_
      refine lv_iload_n hx hb dX7_points_45 rfl (lv_at hl 0 rfl) ?_
      rcases sel_t hf with ⟨hq19, hf⟩ | ⟨hq19, hf⟩ | ⟨hq19, hf⟩
      · rw [hq19]
        obtain ⟨u20, hc21, hf⟩ := bind_t hf
        refine k_U (owner := "Compactforms$Form") (x := ⟨"Compactforms$Form", "bitsAt", "(I)I"⟩) (As := [.int u15]) (rest := []) (n := 1) ⟨hx, hb, hml, hown, hts⟩ (met_X4_bitsAt l 16 (fun j => a (7 + j)) (vlSm (fV x)) u15 u20 hc21) w752 w754 w758 w458 w5 w460 (hE.1.2.2.1 _ (List.mem_append_left _ (List.mem_of_getElem? (i := 5) rfl))) ⟨by decide +kernel, by decide +kernel, by decide +kernel⟩ ⟨Nat.le_of_ble_eq_true rfl, Nat.le_of_ble_eq_true rfl⟩ hK hE hP hD hS hA (isC := [7, 8, 9]) (isR := [0, 1, 2, 3, 4, 5, 6, 10, 11, 12, 13, 14, 15, 16, 17, 18, 19, 20, 21, 22, 23]) (isB := [0, 1, 2, 3, 4, 5, 6, 21, 22, 23, 7, 8, 9, 10, 11, 12, 13, 14, 15, 16, 17, 18, 19, 20]) (ws' := W_F cI cV vf a x) ⟨([0, 1, 2, 3, 4, 5, 6, 10, 11, 12, 13, 14, 15, 16, 17, 18, 19, 20, 21, 22, 23] : List Nat).filterMap (fun i : Nat => (W_F cI cV vf a x : va_W)[i]?), rfl, rfl, rfl, rfl, by decide, rfl, rfl⟩ 7 3 rfl rfl rfl rfl hl.1 rfl (Nat.le_of_ble_eq_true rfl) dX7_points_46 ⟨Nat.le_of_ble_eq_true rfl, Nat.le_of_ble_eq_true rfl⟩ (fun H locs hP hD hS => ?_)
        try dsimp only at hf
        refine W.eq (g2 := F0 m 49 ls [.int u20]) rfl ?_
        exact L49 x u20 H locs ls hf hP hD hS (lv_sub hl [] rfl)
      · rw [hq19]
        obtain ⟨u22, hc23, hf⟩ := bind_t hf
        refine k_U (owner := "Compactforms$Form") (x := ⟨"Compactforms$Form", "bitsAt", "(I)I"⟩) (As := [.int u15]) (rest := []) (n := 1) ⟨hx, hb, hml, hown, hts⟩ (met_X0_bitsAt l (fun j => a (10 + j)) (vlCh (fV x)) u15 u22 hc23) w752 w754 w755 w756 w6 w757 (hE.1.2.2.1 _ (List.mem_append_left _ (List.mem_of_getElem? (i := 5) rfl))) ⟨by decide +kernel, by decide +kernel, by decide +kernel⟩ ⟨Nat.le_of_ble_eq_true rfl, Nat.le_of_ble_eq_true rfl⟩ hK hE hP hD hS hA (isC := [10, 11, 12, 13]) (isR := [0, 1, 2, 3, 4, 5, 6, 7, 8, 9, 14, 15, 16, 17, 18, 19, 20, 21, 22, 23]) (isB := [0, 1, 2, 3, 4, 5, 6, 7, 8, 9, 20, 21, 22, 23, 10, 11, 12, 13, 14, 15, 16, 17, 18, 19]) (ws' := W_F cI cV vf a x) ⟨([0, 1, 2, 3, 4, 5, 6, 7, 8, 9, 14, 15, 16, 17, 18, 19, 20, 21, 22, 23] : List Nat).filterMap (fun i : Nat => (W_F cI cV vf a x : va_W)[i]?), rfl, rfl, rfl, rfl, by decide, rfl, rfl⟩ 10 0 rfl rfl rfl rfl hl.1 rfl (Nat.le_of_ble_eq_true rfl) dX7_points_46 ⟨Nat.le_of_ble_eq_true rfl, Nat.le_of_ble_eq_true rfl⟩ (fun H locs hP hD hS => ?_)
        try dsimp only at hf
        refine W.eq (g2 := F0 m 49 ls [.int u22]) rfl ?_
        exact L49 x u22 H locs ls hf hP hD hS (lv_sub hl [] rfl)
      · rw [hq19]
        obtain ⟨u24, hc25, hf⟩ := bind_t hf
        refine k_U (owner := "Compactforms$Form") (x := ⟨"Compactforms$Form", "bitsAt", "(I)I"⟩) (As := [.int u15]) (rest := []) (n := 1) ⟨hx, hb, hml, hown, hts⟩ (met_X5_bitsAt l (fun j => a (14 + j)) (vlTb (fV x)) u15 u24 hc25) w752 w754 w759 w760 w7 w761 (hE.1.2.2.1 _ (List.mem_append_left _ (List.mem_of_getElem? (i := 5) rfl))) ⟨by decide +kernel, by decide +kernel, by decide +kernel⟩ ⟨Nat.le_of_ble_eq_true rfl, Nat.le_of_ble_eq_true rfl⟩ hK hE hP hD hS hA (isC := [14, 15, 16, 17]) (isR := [0, 1, 2, 3, 4, 5, 6, 7, 8, 9, 10, 11, 12, 13, 18, 19, 20, 21, 22, 23]) (isB := [0, 1, 2, 3, 4, 5, 6, 7, 8, 9, 10, 11, 12, 13, 20, 21, 22, 23, 14, 15, 16, 17, 18, 19]) (ws' := W_F cI cV vf a x) ⟨([0, 1, 2, 3, 4, 5, 6, 7, 8, 9, 10, 11, 12, 13, 18, 19, 20, 21, 22, 23] : List Nat).filterMap (fun i : Nat => (W_F cI cV vf a x : va_W)[i]?), rfl, rfl, rfl, rfl, by decide, rfl, rfl⟩ 14 4 rfl rfl rfl rfl hl.1 rfl (Nat.le_of_ble_eq_true rfl) dX7_points_46 ⟨Nat.le_of_ble_eq_true rfl, Nat.le_of_ble_eq_true rfl⟩ (fun H locs hP hD hS => ?_)
        try dsimp only at hf
        refine W.eq (g2 := F0 m 49 ls [.int u24]) rfl ?_
        exact L49 x u24 H locs ls hf hP hD hS (lv_sub hl [] rfl)
    · replace hf := if_t c17 hf
      cases hf
  exact M0 s.heap [] ls hf hP hD hS hl
/-! Compactforms.next(II)I -/
set_option maxHeartbeats 4000000 in
set_option maxRecDepth 100000 in
theorem met0_X7_next {D : va_G} {cI cV cJ cD : ClassId} (l : Launch) (k : Nat) (vf : Nat → Option Nat) (a : Nat → Nat) (hvf : vf k = some (a 6)) (x : FSt) (p1 : Int32) (p2 : Int32) (v : Int32) (hf : fX7_next k x p1 p2 = some (.inl v)) : MM l yX7_next cX7_next 3 (some .int) { frames := 7, cells := 0, slots := 0, locals := 122 } D (TY cI cV cJ cD) (W_F cI cV vf a x) (W_F cI cV vf a x) [.ref (a 0), .int p1, .int p2] (some (.int v)) := by
  intro sz
  refine Met.ofW (cc := cX7_next) (maxL := 3) (ret := (some .int)) (by decide +kernel) rfl ?_
  intro p e s m args below meth c s₁ B hml hv
  obtain ⟨rfl, hsz, hP, hK, hD0, hE⟩ := hv
  have hx := B.exec
  have hb := B.bytes
  have hr := B.returns
  have hts := atoms_spec (ws := .code yX7_next cX7_next 3 (some .int) :: GW) B.pre
  have hg : ∀ w ∈ GW, w.before (([.ref (a 0), .int p1, .int p2] : List Value).toArray) s = true := fun w h => hts w (List.mem_cons_of_mem _ h)
  have hown : s.vm.findClass RX7 = some m.cls := findClass_of_methodNamed B.named
  have hlocks := B.notSynchronized
  subst hsz
  have hD := hD0.self (sz := s.heap.size)
  generalize hAe : va_A (W_F cI cV vf a x) s.heap.size = A at hD hE ⊢
  have hA : ∀ q : Nat, s.heap.size ≤ q → A q := fun q h => by rw [← hAe]; exact Or.inr h
  have hS : va_S A s.heap s.heap [] := va_S.rf
  have hl := lv_entry ([.ref (a 0), .int p1, .int p2]) (n := 3) (Nat.le_of_ble_eq_true rfl)
  rw [lg_entry_eq]
  generalize (lg_sl ([.ref (a 0), .int p1, .int p2]) ++ List.replicate (3 - (lg_sl ([.ref (a 0), .int p1, .int p2])).length) Slot.unset).toArray = ls at hl ⊢
  have hl : lv_has ls 3 [(0, .ref (a 0)), (1, .int p1), (2, .int p2)] := hl
  have M0 : ∀ (H : Heap) (locs : List Loc) (ls : Array Slot), fX7_next k x p1 p2 = some (.inl v) → va_P D vwCl (W_F cI cV vf a x) H → va_D A (W_F cI cV vf a x) → va_S A s.heap H locs → lv_has ls 3 [(0, .ref (a 0)), (1, .int p1), (2, .int p2)] → W p l e ({ frames := 7, cells := 0, slots := 0, locals := 122 } : Room) s m ([.ref (a 0), .int p1, .int p2] : List Value).toArray below meth c H locs 0 0 (MQ below (QW D (TY cI cV cJ cD) (W_F cI cV vf a x) A (some (.int v))) (([.ref (a 0), .int p1, .int p2] : List Value).toArray) s 0 0 A) (F0 m 0 ls []) := by
    intro H locs ls hf hP hD hS hl
    dsimp only [fX7_next] at hf
    refine lv_iload_n hx hb dX7_next_0 rfl (lv_at hl 1 rfl) ?_
    obtain ⟨u1, hc2, hf⟩ := bind_t hf
    rcases u1 with r3 | k4
    rotate_left
    · exact (thr_e hf).elim
    replace hf := thr_v hf rfl
    refine k_S (As := [.int p1]) (rest := []) (n := 1) ⟨hx, hb, hml, hown, hts⟩ (met0_X7_needKey l p1 r3 hc2) w209 w210 w1 w211 ⟨by decide +kernel, by decide +kernel, by decide +kernel⟩ ⟨Nat.le_of_ble_eq_true rfl, Nat.le_of_ble_eq_true rfl⟩ hK hE hP hD hS hA (isC := []) (isR := [0, 1, 2, 3, 4, 5, 6, 7, 8, 9, 10, 11, 12, 13, 14, 15, 16, 17, 18, 19, 20, 21, 22, 23]) (isB := [0, 1, 2, 3, 4, 5, 6, 7, 8, 9, 10, 11, 12, 13, 14, 15, 16, 17, 18, 19, 20, 21, 22, 23]) (ws' := W_F cI cV vf a x) ⟨([0, 1, 2, 3, 4, 5, 6, 7, 8, 9, 10, 11, 12, 13, 14, 15, 16, 17, 18, 19, 20, 21, 22, 23] : List Nat).filterMap (fun i : Nat => (W_F cI cV vf a x : va_W)[i]?), rfl, rfl, rfl, rfl, by decide, rfl, rfl⟩ rfl hl.1 rfl (Nat.le_of_ble_eq_true rfl) dX7_next_1 ⟨Nat.le_of_ble_eq_true rfl, Nat.le_of_ble_eq_true rfl⟩ (fun H locs hP hD hS => ?_)
    try dsimp only at hf
    refine W.eq (g2 := F0 m 4 ls []) rfl ?_
    refine lv_iload_n hx hb dX7_next_4 rfl (lv_at hl 2 rfl) ?_
    refine lv_iconst (v := 0) hx hb dX7_next_5 (by decide) ?_
    refine lv_sipush (v := 1023) hx hb dX7_next_6 (by decide) ?_
    obtain ⟨u5, hc6, hf⟩ := bind_t hf
    rcases u5 with r7 | k8
    rotate_left
    · exact (thr_e hf).elim
    replace hf := thr_v hf rfl
    refine k_S (As := [.int p2, .int 0, .int 1023]) (rest := []) (n := 3) ⟨hx, hb, hml, hown, hts⟩ (met0_X7_needWithin l p2 0 1023 r7 hc6) w317 w318 w1 w319 ⟨by decide +kernel, by decide +kernel, by decide +kernel⟩ ⟨Nat.le_of_ble_eq_true rfl, Nat.le_of_ble_eq_true rfl⟩ hK hE hP hD hS hA (isC := []) (isR := [0, 1, 2, 3, 4, 5, 6, 7, 8, 9, 10, 11, 12, 13, 14, 15, 16, 17, 18, 19, 20, 21, 22, 23]) (isB := [0, 1, 2, 3, 4, 5, 6, 7, 8, 9, 10, 11, 12, 13, 14, 15, 16, 17, 18, 19, 20, 21, 22, 23]) (ws' := W_F cI cV vf a x) ⟨([0, 1, 2, 3, 4, 5, 6, 7, 8, 9, 10, 11, 12, 13, 14, 15, 16, 17, 18, 19, 20, 21, 22, 23] : List Nat).filterMap (fun i : Nat => (W_F cI cV vf a x : va_W)[i]?), rfl, rfl, rfl, rfl, by decide, rfl, rfl⟩ rfl hl.1 rfl (Nat.le_of_ble_eq_true rfl) dX7_next_9 ⟨Nat.le_of_ble_eq_true rfl, Nat.le_of_ble_eq_true rfl⟩ (fun H locs hP hD hS => ?_)
    try dsimp only at hf
    refine W.eq (g2 := F0 m 12 ls []) rfl ?_
    refine lv_aload_n hx hb dX7_next_12 rfl (lv_at hl 0 rfl) ?_
    refine lv_iload_n hx hb dX7_next_13 rfl (lv_at hl 1 rfl) ?_
    refine lv_iconst (v := 2) hx hb dX7_next_14 (by decide) ?_
    obtain ⟨u9, hc10, hf⟩ := bind_t hf
    rcases u9 with r11 | k12
    rotate_left
    · exact (thr_e hf).elim
    replace hf := thr_v hf rfl
    refine k_V (As := [.int p1, .int 2]) (rest := []) (n := 2) ⟨hx, hb, hml, hown, hts⟩ (met0_X7_needType l k vf a hvf x p1 2 r11 hc10) w373 w375 ws8 w1 w376 ⟨rfl, by decide +kernel, by decide +kernel, by decide +kernel⟩ ⟨Nat.le_of_ble_eq_true rfl, Nat.le_of_ble_eq_true rfl⟩ hK hE hP hD hS hA (isC := [0, 1, 2, 3, 4, 5, 6, 7, 8, 9, 10, 11, 12, 13, 14, 15, 16, 17, 18, 19, 20, 21, 22, 23]) (isR := []) (isB := [0, 1, 2, 3, 4, 5, 6, 7, 8, 9, 10, 11, 12, 13, 14, 15, 16, 17, 18, 19, 20, 21, 22, 23]) (ws' := W_F cI cV vf a x) ⟨([] : List Nat).filterMap (fun i : Nat => (W_F cI cV vf a x : va_W)[i]?), rfl, rfl, rfl, rfl, by decide, rfl, rfl⟩ 0 6 rfl rfl rfl rfl hl.1 rfl (Nat.le_of_ble_eq_true rfl) dX7_next_15 ⟨Nat.le_of_ble_eq_true rfl, Nat.le_of_ble_eq_true rfl⟩ (fun H locs hP hD hS => ?_)
    try dsimp only at hf
    refine W.eq (g2 := F0 m 18 ls []) rfl ?_
    refine lv_aload_n hx hb dX7_next_18 rfl (lv_at hl 0 rfl) ?_
    refine va_get (D := D) (ci := 6) (v := .ref (a 1)) (C := RX7) (T := TX7) (N := 8) hx hb hg in_X7 hown hK hP 0 rfl rfl 0 (by decide) (hg _ w167) (fun _ h9 => h9) rfl dX7_next_19 ?_
    refine lv_iload_n hx hb dX7_next_22 rfl (lv_at hl 1 rfl) ?_
    obtain ⟨hi13, hf⟩ := chk_t hf
    refine va_aldq hx hb hK hP 1 1 rfl rfl (keyok_i hi13) dX7_next_23 ?_
    refine W.eq (g2 := F0 m 24 ls [.ref (a 6)]) (by rw [keyok_k hi13, hvf]; rfl) ?_
    obtain ⟨u14, hc15, hf⟩ := bind_t hf
    refine k_V (As := []) (rest := []) (n := 0) ⟨hx, hb, hml, hown, hts⟩ (met_X6_isSmall l (fun j => a (6 + j)) (fV x) u14 hc15) w649 w650 w651 w3 w652 ⟨rfl, by decide +kernel, by decide +kernel, by decide +kernel⟩ ⟨Nat.le_of_ble_eq_true rfl, Nat.le_of_ble_eq_true rfl⟩ hK hE hP hD hS hA (isC := [6, 7, 8, 9, 10, 11, 12, 13, 14, 15, 16, 17, 18, 19, 20, 21, 22, 23]) (isR := [0, 1, 2, 3, 4, 5]) (isB := [0, 1, 2, 3, 4, 5, 6, 7, 8, 9, 10, 11, 12, 13, 14, 15, 16, 17, 18, 19, 20, 21, 22, 23]) (ws' := W_F cI cV vf a x) ⟨([0, 1, 2, 3, 4, 5] : List Nat).filterMap (fun i : Nat => (W_F cI cV vf a x : va_W)[i]?), rfl, rfl, rfl, rfl, by decide, rfl, rfl⟩ 6 5 rfl rfl rfl rfl hl.1 rfl (Nat.le_of_ble_eq_true rfl) dX7_next_24 ⟨Nat.le_of_ble_eq_true rfl, Nat.le_of_ble_eq_true rfl⟩ (fun H locs hP hD hS => ?_)
    try dsimp only at hf
    refine W.eq (g2 := F0 m 27 ls [.int u14]) rfl ?_
    refine lv_if_eq (tgt := 34) hx hb dX7_next_27 (by decide) (fun c16 => ?_) (fun c16 => ?_)
    · replace hf := if_t c16 hf
      refine lv_aload_n hx hb dX7_next_34 rfl (lv_at hl 0 rfl) ?_
      refine va_get (D := D) (ci := 6) (v := .ref (a 1)) (C := RX7) (T := TX7) (N := 8) hx hb hg in_X7 hown hK hP 0 rfl rfl 0 (by decide) (hg _ w167) (fun _ h9 => h9) rfl dX7_next_35 ?_
      refine lv_iload_n hx hb dX7_next_38 rfl (lv_at hl 1 rfl) ?_
      obtain ⟨hi17, hf⟩ := chk_t hf
      refine va_aldq hx hb hK hP 1 1 rfl rfl (keyok_i hi17) dX7_next_39 ?_
      refine W.eq (g2 := F0 m 40 ls [.ref (a 6)]) (by rw [keyok_k hi17, hvf]; rfl) ?_
      refine va_getN (D := D) (ci := 5) (v := .ref (a 14)) (C := RX6) (T := TX6) (N := 10) hx hb hg in_X6 hown hK hP 6 rfl rfl 6 (by decide) (nwF_173 hE.1) (fun _ h9 => h9) rfl dX7_next_40 ?_
      refine lv_iload_n hx hb dX7_next_43 rfl (lv_at hl 2 rfl) ?_
      obtain ⟨u18, hc19, hf⟩ := bind_t hf
      refine k_V (As := [.int p2]) (rest := []) (n := 1) ⟨hx, hb, hml, hown, hts⟩ (met_X5_cursorBehind l (fun j => a (14 + j)) (vlTb (fV x)) p2 u18 hc19) w653 w654 w655 w7 w656 ⟨rfl, by decide +kernel, by decide +kernel, by decide +kernel⟩ ⟨Nat.le_of_ble_eq_true rfl, Nat.le_of_ble_eq_true rfl⟩ hK hE hP hD hS hA (isC := [14, 15, 16, 17]) (isR := [0, 1, 2, 3, 4, 5, 6, 7, 8, 9, 10, 11, 12, 13, 18, 19, 20, 21, 22, 23]) (isB := [0, 1, 2, 3, 4, 5, 6, 7, 8, 9, 10, 11, 12, 13, 20, 21, 22, 23, 14, 15, 16, 17, 18, 19]) (ws' := W_F cI cV vf a x) ⟨([0, 1, 2, 3, 4, 5, 6, 7, 8, 9, 10, 11, 12, 13, 18, 19, 20, 21, 22, 23] : List Nat).filterMap (fun i : Nat => (W_F cI cV vf a x : va_W)[i]?), rfl, rfl, rfl, rfl, by decide, rfl, rfl⟩ 14 4 rfl rfl rfl rfl hl.1 rfl (Nat.le_of_ble_eq_true rfl) dX7_next_44 ⟨Nat.le_of_ble_eq_true rfl, Nat.le_of_ble_eq_true rfl⟩ (fun H locs hP hD hS => ?_)
      try dsimp only at hf
      refine W.eq (g2 := F0 m 47 ls [.int u18]) rfl ?_
      obtain rfl := Sum.inl.inj (Option.some.inj hf)
      exact W.iret (v := u18) hx hb hr (fun t ht hW => ⟨rfl, by rw [ht]; exact hP, va_K.moved hW.alike hK, hD, hS.F ht⟩) hS.2.2 dX7_next_47 hlocks
    · replace hf := if_f c16 hf
      refine lv_iconst (v := 0) hx hb dX7_next_30 (by decide) ?_
      refine lv_goto (tgt := 47) hx hb dX7_next_31 (by decide) ?_
      obtain rfl := Sum.inl.inj (Option.some.inj hf)
      exact W.iret (v := 0) hx hb hr (fun t ht hW => ⟨rfl, by rw [ht]; exact hP, va_K.moved hW.alike hK, hD, hS.F ht⟩) hS.2.2 dX7_next_47 hlocks
  exact M0 s.heap [] ls hf hP hD hS hl
/-! Compactforms.scanned(III)I -/
set_option maxHeartbeats 4000000 in
set_option maxRecDepth 100000 in
theorem met0_X7_scanned {D : va_G} {cI cV cJ cD : ClassId} (l : Launch) (k : Nat) (vf : Nat → Option Nat) (a : Nat → Nat) (hvf : vf k = some (a 6)) (x : FSt) (p1 : Int32) (p2 : Int32) (p3 : Int32) (v : Int32) (hf : fX7_scanned k x p1 p2 p3 = some (.inl v)) : MM l yX7_scanned cX7_scanned 5 (some .int) { frames := 7, cells := 0, slots := 0, locals := 122 } D (TY cI cV cJ cD) (W_F cI cV vf a x) (W_F cI cV vf a x) [.ref (a 0), .int p1, .int p2, .int p3] (some (.int v)) := by
  intro sz
  refine Met.ofW (cc := cX7_scanned) (maxL := 5) (ret := (some .int)) (by decide +kernel) rfl ?_
  intro p e s m args below meth c s₁ B hml hv
  obtain ⟨rfl, hsz, hP, hK, hD0, hE⟩ := hv
  have hx := B.exec
  have hb := B.bytes
  have hr := B.returns
  have hts := atoms_spec (ws := .code yX7_scanned cX7_scanned 5 (some .int) :: GW) B.pre
  have hg : ∀ w ∈ GW, w.before (([.ref (a 0), .int p1, .int p2, .int p3] : List Value).toArray) s = true := fun w h => hts w (List.mem_cons_of_mem _ h)
  have hown : s.vm.findClass RX7 = some m.cls := findClass_of_methodNamed B.named
  have hlocks := B.notSynchronized
  subst hsz
  have hD := hD0.self (sz := s.heap.size)
  generalize hAe : va_A (W_F cI cV vf a x) s.heap.size = A at hD hE ⊢
  have hA : ∀ q : Nat, s.heap.size ≤ q → A q := fun q h => by rw [← hAe]; exact Or.inr h
  have hS : va_S A s.heap s.heap [] := va_S.rf
  have hl := lv_entry ([.ref (a 0), .int p1, .int p2, .int p3]) (n := 5) (Nat.le_of_ble_eq_true rfl)
  rw [lg_entry_eq]
  generalize (lg_sl ([.ref (a 0), .int p1, .int p2, .int p3]) ++ List.replicate (5 - (lg_sl ([.ref (a 0), .int p1, .int p2, .int p3])).length) Slot.unset).toArray = ls at hl ⊢
  have hl : lv_has ls 5 [(0, .ref (a 0)), (1, .int p1), (2, .int p2), (3, .int p3)] := hl
  have M0 : ∀ (H : Heap) (locs : List Loc) (ls : Array Slot), fX7_scanned k x p1 p2 p3 = some (.inl v) → va_P D vwCl (W_F cI cV vf a x) H → va_D A (W_F cI cV vf a x) → va_S A s.heap H locs → lv_has ls 5 [(0, .ref (a 0)), (1, .int p1), (2, .int p2), (3, .int p3)] → W p l e ({ frames := 7, cells := 0, slots := 0, locals := 122 } : Room) s m ([.ref (a 0), .int p1, .int p2, .int p3] : List Value).toArray below meth c H locs 0 0 (MQ below (QW D (TY cI cV cJ cD) (W_F cI cV vf a x) A (some (.int v))) (([.ref (a 0), .int p1, .int p2, .int p3] : List Value).toArray) s 0 0 A) (F0 m 0 ls []) := by
    intro H locs ls hf hP hD hS hl
    dsimp only [fX7_scanned] at hf
    refine lv_iload_n hx hb dX7_scanned_0 rfl (lv_at hl 1 rfl) ?_
    obtain ⟨u1, hc2, hf⟩ := bind_t hf
    rcases u1 with r3 | k4
    rotate_left
    · exact (thr_e hf).elim
    replace hf := thr_v hf rfl
    refine k_S (As := [.int p1]) (rest := []) (n := 1) ⟨hx, hb, hml, hown, hts⟩ (met0_X7_needKey l p1 r3 hc2) w209 w210 w1 w211 ⟨by decide +kernel, by decide +kernel, by decide +kernel⟩ ⟨Nat.le_of_ble_eq_true rfl, Nat.le_of_ble_eq_true rfl⟩ hK hE hP hD hS hA (isC := []) (isR := [0, 1, 2, 3, 4, 5, 6, 7, 8, 9, 10, 11, 12, 13, 14, 15, 16, 17, 18, 19, 20, 21, 22, 23]) (isB := [0, 1, 2, 3, 4, 5, 6, 7, 8, 9, 10, 11, 12, 13, 14, 15, 16, 17, 18, 19, 20, 21, 22, 23]) (ws' := W_F cI cV vf a x) ⟨([0, 1, 2, 3, 4, 5, 6, 7, 8, 9, 10, 11, 12, 13, 14, 15, 16, 17, 18, 19, 20, 21, 22, 23] : List Nat).filterMap (fun i : Nat => (W_F cI cV vf a x : va_W)[i]?), rfl, rfl, rfl, rfl, by decide, rfl, rfl⟩ rfl hl.1 rfl (Nat.le_of_ble_eq_true rfl) dX7_scanned_1 ⟨Nat.le_of_ble_eq_true rfl, Nat.le_of_ble_eq_true rfl⟩ (fun H locs hP hD hS => ?_)
    try dsimp only at hf
    refine W.eq (g2 := F0 m 4 ls []) rfl ?_
    refine lv_iload_n hx hb dX7_scanned_4 rfl (lv_at hl 2 rfl) ?_
    refine lv_iconst (v := 0) hx hb dX7_scanned_5 (by decide) ?_
    refine lv_sipush (v := 1023) hx hb dX7_scanned_6 (by decide) ?_
    obtain ⟨u5, hc6, hf⟩ := bind_t hf
    rcases u5 with r7 | k8
    rotate_left
    · exact (thr_e hf).elim
    replace hf := thr_v hf rfl
    refine k_S (As := [.int p2, .int 0, .int 1023]) (rest := []) (n := 3) ⟨hx, hb, hml, hown, hts⟩ (met0_X7_needWithin l p2 0 1023 r7 hc6) w317 w318 w1 w319 ⟨by decide +kernel, by decide +kernel, by decide +kernel⟩ ⟨Nat.le_of_ble_eq_true rfl, Nat.le_of_ble_eq_true rfl⟩ hK hE hP hD hS hA (isC := []) (isR := [0, 1, 2, 3, 4, 5, 6, 7, 8, 9, 10, 11, 12, 13, 14, 15, 16, 17, 18, 19, 20, 21, 22, 23]) (isB := [0, 1, 2, 3, 4, 5, 6, 7, 8, 9, 10, 11, 12, 13, 14, 15, 16, 17, 18, 19, 20, 21, 22, 23]) (ws' := W_F cI cV vf a x) ⟨([0, 1, 2, 3, 4, 5, 6, 7, 8, 9, 10, 11, 12, 13, 14, 15, 16, 17, 18, 19, 20, 21, 22, 23] : List Nat).filterMap (fun i : Nat => (W_F cI cV vf a x : va_W)[i]?), rfl, rfl, rfl, rfl, by decide, rfl, rfl⟩ rfl hl.1 rfl (Nat.le_of_ble_eq_true rfl) dX7_scanned_9 ⟨Nat.le_of_ble_eq_true rfl, Nat.le_of_ble_eq_true rfl⟩ (fun H locs hP hD hS => ?_)
    try dsimp only at hf
    refine W.eq (g2 := F0 m 12 ls []) rfl ?_
    refine lv_aload_n hx hb dX7_scanned_12 rfl (lv_at hl 0 rfl) ?_
    refine lv_iload_n hx hb dX7_scanned_13 rfl (lv_at hl 1 rfl) ?_
    refine lv_iconst (v := 2) hx hb dX7_scanned_14 (by decide) ?_
    obtain ⟨u9, hc10, hf⟩ := bind_t hf
    rcases u9 with r11 | k12
    rotate_left
    · exact (thr_e hf).elim
    replace hf := thr_v hf rfl
    refine k_V (As := [.int p1, .int 2]) (rest := []) (n := 2) ⟨hx, hb, hml, hown, hts⟩ (met0_X7_needType l k vf a hvf x p1 2 r11 hc10) w373 w375 ws8 w1 w376 ⟨rfl, by decide +kernel, by decide +kernel, by decide +kernel⟩ ⟨Nat.le_of_ble_eq_true rfl, Nat.le_of_ble_eq_true rfl⟩ hK hE hP hD hS hA (isC := [0, 1, 2, 3, 4, 5, 6, 7, 8, 9, 10, 11, 12, 13, 14, 15, 16, 17, 18, 19, 20, 21, 22, 23]) (isR := []) (isB := [0, 1, 2, 3, 4, 5, 6, 7, 8, 9, 10, 11, 12, 13, 14, 15, 16, 17, 18, 19, 20, 21, 22, 23]) (ws' := W_F cI cV vf a x) ⟨([] : List Nat).filterMap (fun i : Nat => (W_F cI cV vf a x : va_W)[i]?), rfl, rfl, rfl, rfl, by decide, rfl, rfl⟩ 0 6 rfl rfl rfl rfl hl.1 rfl (Nat.le_of_ble_eq_true rfl) dX7_scanned_15 ⟨Nat.le_of_ble_eq_true rfl, Nat.le_of_ble_eq_true rfl⟩ (fun H locs hP hD hS => ?_)
    try dsimp only at hf
    refine W.eq (g2 := F0 m 18 ls []) rfl ?_
    refine lv_aload_n hx hb dX7_scanned_18 rfl (lv_at hl 0 rfl) ?_
    refine va_get (D := D) (ci := 6) (v := .ref (a 1)) (C := RX7) (T := TX7) (N := 8) hx hb hg in_X7 hown hK hP 0 rfl rfl 0 (by decide) (hg _ w167) (fun _ h9 => h9) rfl dX7_scanned_19 ?_
    refine lv_iload_n hx hb dX7_scanned_22 rfl (lv_at hl 1 rfl) ?_
    obtain ⟨hi13, hf⟩ := chk_t hf
    refine va_aldq hx hb hK hP 1 1 rfl rfl (keyok_i hi13) dX7_scanned_23 ?_
    refine W.eq (g2 := F0 m 24 ls [.ref (a 6)]) (by rw [keyok_k hi13, hvf]; rfl) ?_
    refine lv_astore (lv' := [(4, .ref (a 6)), (0, .ref (a 0)), (1, .int p1), (2, .int p2), (3, .int p3)]) hx hb dX7_scanned_24 hl (by decide) rfl (fun ls hl => ?_)
    refine lv_aload hx hb dX7_scanned_26 (lv_at hl 0 rfl) ?_
    obtain ⟨u14, hc15, hf⟩ := bind_t hf
    refine k_V (As := []) (rest := []) (n := 0) ⟨hx, hb, hml, hown, hts⟩ (met_X6_isSmall l (fun j => a (6 + j)) (fV x) u14 hc15) w649 w650 w651 w3 w652 ⟨rfl, by decide +kernel, by decide +kernel, by decide +kernel⟩ ⟨Nat.le_of_ble_eq_true rfl, Nat.le_of_ble_eq_true rfl⟩ hK hE hP hD hS hA (isC := [6, 7, 8, 9, 10, 11, 12, 13, 14, 15, 16, 17, 18, 19, 20, 21, 22, 23]) (isR := [0, 1, 2, 3, 4, 5]) (isB := [0, 1, 2, 3, 4, 5, 6, 7, 8, 9, 10, 11, 12, 13, 14, 15, 16, 17, 18, 19, 20, 21, 22, 23]) (ws' := W_F cI cV vf a x) ⟨([0, 1, 2, 3, 4, 5] : List Nat).filterMap (fun i : Nat => (W_F cI cV vf a x : va_W)[i]?), rfl, rfl, rfl, rfl, by decide, rfl, rfl⟩ 6 5 rfl rfl rfl rfl hl.1 rfl (Nat.le_of_ble_eq_true rfl) dX7_scanned_28 ⟨Nat.le_of_ble_eq_true rfl, Nat.le_of_ble_eq_true rfl⟩ (fun H locs hP hD hS => ?_)
    try dsimp only at hf
    refine W.eq (g2 := F0 m 31 ls [.int u14]) rfl ?_
    refine lv_if_eq (tgt := 46) hx hb dX7_scanned_31 (by decide) (fun c16 => ?_) (fun c16 => ?_)
    · replace hf := if_t c16 hf
      refine lv_aload hx hb dX7_scanned_46 (lv_at hl 0 rfl) ?_
      refine va_getN (D := D) (ci := 5) (v := .ref (a 14)) (C := RX6) (T := TX6) (N := 10) hx hb hg in_X6 hown hK hP 6 rfl rfl 6 (by decide) (nwF_173 hE.1) (fun _ h9 => h9) rfl dX7_scanned_48 ?_
      refine lv_iload_n hx hb dX7_scanned_51 rfl (lv_at hl 3 rfl) ?_
      refine lv_iload_n hx hb dX7_scanned_52 rfl (lv_at hl 4 rfl) ?_
      obtain ⟨u17, hc18, hf⟩ := bind_t hf
      refine k_V (As := [.int p2, .int p3]) (rest := []) (n := 2) ⟨hx, hb, hml, hown, hts⟩ (met_X5_memberOfBucket l (fun j => a (14 + j)) (vlTb (fV x)) p2 p3 u17 hc18) w665 w666 w667 w7 w668 ⟨rfl, by decide +kernel, by decide +kernel, by decide +kernel⟩ ⟨Nat.le_of_ble_eq_true rfl, Nat.le_of_ble_eq_true rfl⟩ hK hE hP hD hS hA (isC := [14, 15, 16, 17]) (isR := [0, 1, 2, 3, 4, 5, 6, 7, 8, 9, 10, 11, 12, 13, 18, 19, 20, 21, 22, 23]) (isB := [0, 1, 2, 3, 4, 5, 6, 7, 8, 9, 10, 11, 12, 13, 20, 21, 22, 23, 14, 15, 16, 17, 18, 19]) (ws' := W_F cI cV vf a x) ⟨([0, 1, 2, 3, 4, 5, 6, 7, 8, 9, 10, 11, 12, 13, 18, 19, 20, 21, 22, 23] : List Nat).filterMap (fun i : Nat => (W_F cI cV vf a x : va_W)[i]?), rfl, rfl, rfl, rfl, by decide, rfl, rfl⟩ 14 4 rfl rfl rfl rfl hl.1 rfl (Nat.le_of_ble_eq_true rfl) dX7_scanned_53 ⟨Nat.le_of_ble_eq_true rfl, Nat.le_of_ble_eq_true rfl⟩ (fun H locs hP hD hS => ?_)
      try dsimp only at hf
      refine W.eq (g2 := F0 m 56 ls [.int u17]) rfl ?_
      obtain rfl := Sum.inl.inj (Option.some.inj hf)
      exact W.iret (v := u17) hx hb hr (fun t ht hW => ⟨rfl, by rw [ht]; exact hP, va_K.moved hW.alike hK, hD, hS.F ht⟩) hS.2.2 dX7_scanned_56 hlocks
    · replace hf := if_f c16 hf
      refine lv_aload hx hb dX7_scanned_34 (lv_at hl 0 rfl) ?_
      refine va_getN (D := D) (ci := 5) (v := .ref (a (6 + (vlFm (fV x))))) (C := RX6) (T := TX6) (N := 10) hx hb hg in_X6 hown hK hP 6 rfl rfl 9 (by decide) (nwF_148 hE.1) (fun _ h9 => h9) rfl dX7_scanned_36 ?_
      refine lv_iload_n hx hb dX7_scanned_39 rfl (lv_at hl 4 rfl) ?_
      rcases sel_t hf with ⟨hq19, hf⟩ | ⟨hq19, hf⟩ | ⟨hq19, hf⟩
      · rw [hq19]
        obtain ⟨u20, hc21, hf⟩ := bind_t hf
        refine k_U (owner := "Compactforms$Form") (x := ⟨"Compactforms$Form", "valueAt", "(I)I"⟩) (As := [.int p3]) (rest := []) (n := 1) ⟨hx, hb, hml, hown, hts⟩ (met_X4_valueAt l 16 (fun j => a (7 + j)) (vlSm (fV x)) p3 u20 hc21) w634 w495 w499 w454 w5 w456 (hE.1.2.2.1 _ (List.mem_append_left _ (List.mem_of_getElem? (i := 2) rfl))) ⟨by decide +kernel, by decide +kernel, by decide +kernel⟩ ⟨Nat.le_of_ble_eq_true rfl, Nat.le_of_ble_eq_true rfl⟩ hK hE hP hD hS hA (isC := [7, 8, 9]) (isR := [0, 1, 2, 3, 4, 5, 6, 10, 11, 12, 13, 14, 15, 16, 17, 18, 19, 20, 21, 22, 23]) (isB := [0, 1, 2, 3, 4, 5, 6, 21, 22, 23, 7, 8, 9, 10, 11, 12, 13, 14, 15, 16, 17, 18, 19, 20]) (ws' := W_F cI cV vf a x) ⟨([0, 1, 2, 3, 4, 5, 6, 10, 11, 12, 13, 14, 15, 16, 17, 18, 19, 20, 21, 22, 23] : List Nat).filterMap (fun i : Nat => (W_F cI cV vf a x : va_W)[i]?), rfl, rfl, rfl, rfl, by decide, rfl, rfl⟩ 7 3 rfl rfl rfl rfl hl.1 rfl (Nat.le_of_ble_eq_true rfl) dX7_scanned_40 ⟨Nat.le_of_ble_eq_true rfl, Nat.le_of_ble_eq_true rfl⟩ (fun H locs hP hD hS => ?_)
        try dsimp only at hf
        refine W.eq (g2 := F0 m 43 ls [.int u20]) rfl ?_
        refine lv_goto (tgt := 56) hx hb dX7_scanned_43 (by decide) ?_
        obtain rfl := Sum.inl.inj (Option.some.inj hf)
        exact W.iret (v := u20) hx hb hr (fun t ht hW => ⟨rfl, by rw [ht]; exact hP, va_K.moved hW.alike hK, hD, hS.F ht⟩) hS.2.2 dX7_scanned_56 hlocks
      · rw [hq19]
        obtain ⟨u22, hc23, hf⟩ := bind_t hf
        refine k_U (owner := "Compactforms$Form") (x := ⟨"Compactforms$Form", "valueAt", "(I)I"⟩) (As := [.int p3]) (rest := []) (n := 1) ⟨hx, hb, hml, hown, hts⟩ (met_X0_valueAt l (fun j => a (10 + j)) (vlCh (fV x)) p3 u22 hc23) w634 w495 w496 w497 w6 w498 (hE.1.2.2.1 _ (List.mem_append_left _ (List.mem_of_getElem? (i := 2) rfl))) ⟨by decide +kernel, by decide +kernel, by decide +kernel⟩ ⟨Nat.le_of_ble_eq_true rfl, Nat.le_of_ble_eq_true rfl⟩ hK hE hP hD hS hA (isC := [10, 11, 12, 13]) (isR := [0, 1, 2, 3, 4, 5, 6, 7, 8, 9, 14, 15, 16, 17, 18, 19, 20, 21, 22, 23]) (isB := [0, 1, 2, 3, 4, 5, 6, 7, 8, 9, 20, 21, 22, 23, 10, 11, 12, 13, 14, 15, 16, 17, 18, 19]) (ws' := W_F cI cV vf a x) ⟨([0, 1, 2, 3, 4, 5, 6, 7, 8, 9, 14, 15, 16, 17, 18, 19, 20, 21, 22, 23] : List Nat).filterMap (fun i : Nat => (W_F cI cV vf a x : va_W)[i]?), rfl, rfl, rfl, rfl, by decide, rfl, rfl⟩ 10 0 rfl rfl rfl rfl hl.1 rfl (Nat.le_of_ble_eq_true rfl) dX7_scanned_40 ⟨Nat.le_of_ble_eq_true rfl, Nat.le_of_ble_eq_true rfl⟩ (fun H locs hP hD hS => ?_)
        try dsimp only at hf
        refine W.eq (g2 := F0 m 43 ls [.int u22]) rfl ?_
        refine lv_goto (tgt := 56) hx hb dX7_scanned_43 (by decide) ?_
        obtain rfl := Sum.inl.inj (Option.some.inj hf)
        exact W.iret (v := u22) hx hb hr (fun t ht hW => ⟨rfl, by rw [ht]; exact hP, va_K.moved hW.alike hK, hD, hS.F ht⟩) hS.2.2 dX7_scanned_56 hlocks
      · rw [hq19]
        obtain ⟨u24, hc25, hf⟩ := bind_t hf
        refine k_U (owner := "Compactforms$Form") (x := ⟨"Compactforms$Form", "valueAt", "(I)I"⟩) (As := [.int p3]) (rest := []) (n := 1) ⟨hx, hb, hml, hown, hts⟩ (met_X5_valueAt l (fun j => a (14 + j)) (vlTb (fV x)) p3 u24 hc25) w634 w495 w500 w501 w7 w502 (hE.1.2.2.1 _ (List.mem_append_left _ (List.mem_of_getElem? (i := 2) rfl))) ⟨by decide +kernel, by decide +kernel, by decide +kernel⟩ ⟨Nat.le_of_ble_eq_true rfl, Nat.le_of_ble_eq_true rfl⟩ hK hE hP hD hS hA (isC := [14, 15, 16, 17]) (isR := [0, 1, 2, 3, 4, 5, 6, 7, 8, 9, 10, 11, 12, 13, 18, 19, 20, 21, 22, 23]) (isB := [0, 1, 2, 3, 4, 5, 6, 7, 8, 9, 10, 11, 12, 13, 20, 21, 22, 23, 14, 15, 16, 17, 18, 19]) (ws' := W_F cI cV vf a x) ⟨([0, 1, 2, 3, 4, 5, 6, 7, 8, 9, 10, 11, 12, 13, 18, 19, 20, 21, 22, 23] : List Nat).filterMap (fun i : Nat => (W_F cI cV vf a x : va_W)[i]?), rfl, rfl, rfl, rfl, by decide, rfl, rfl⟩ 14 4 rfl rfl rfl rfl hl.1 rfl (Nat.le_of_ble_eq_true rfl) dX7_scanned_40 ⟨Nat.le_of_ble_eq_true rfl, Nat.le_of_ble_eq_true rfl⟩ (fun H locs hP hD hS => ?_)
        try dsimp only at hf
        refine W.eq (g2 := F0 m 43 ls [.int u24]) rfl ?_
        refine lv_goto (tgt := 56) hx hb dX7_scanned_43 (by decide) ?_
        obtain rfl := Sum.inl.inj (Option.some.inj hf)
        exact W.iret (v := u24) hx hb hr (fun t ht hW => ⟨rfl, by rw [ht]; exact hP, va_K.moved hW.alike hK, hD, hS.F ht⟩) hS.2.2 dX7_scanned_56 hlocks
  exact M0 s.heap [] ls hf hP hD hS hl
/-! Compactforms.waiting(III)I -/
set_option maxHeartbeats 4000000 in
set_option maxRecDepth 100000 in
theorem met0_X7_waiting {D : va_G} {cI cV cJ cD : ClassId} (l : Launch) (k : Nat) (vf : Nat → Option Nat) (a : Nat → Nat) (hvf : vf k = some (a 6)) (x : FSt) (p1 : Int32) (p2 : Int32) (p3 : Int32) (v : Int32) (hf : fX7_waiting k x p1 p2 p3 = some (.inl v)) : MM l yX7_waiting cX7_waiting 4 (some .int) { frames := 7, cells := 0, slots := 0, locals := 120 } D (TY cI cV cJ cD) (W_F cI cV vf a x) (W_F cI cV vf a x) [.ref (a 0), .int p1, .int p2, .int p3] (some (.int v)) := by
  intro sz
  refine Met.ofW (cc := cX7_waiting) (maxL := 4) (ret := (some .int)) (by decide +kernel) rfl ?_
  intro p e s m args below meth c s₁ B hml hv
  obtain ⟨rfl, hsz, hP, hK, hD0, hE⟩ := hv
  have hx := B.exec
  have hb := B.bytes
  have hr := B.returns
  have hts := atoms_spec (ws := .code yX7_waiting cX7_waiting 4 (some .int) :: GW) B.pre
  have hg : ∀ w ∈ GW, w.before (([.ref (a 0), .int p1, .int p2, .int p3] : List Value).toArray) s = true := fun w h => hts w (List.mem_cons_of_mem _ h)
  have hown : s.vm.findClass RX7 = some m.cls := findClass_of_methodNamed B.named
  have hlocks := B.notSynchronized
  subst hsz
  have hD := hD0.self (sz := s.heap.size)
  generalize hAe : va_A (W_F cI cV vf a x) s.heap.size = A at hD hE ⊢
  have hA : ∀ q : Nat, s.heap.size ≤ q → A q := fun q h => by rw [← hAe]; exact Or.inr h
  have hS : va_S A s.heap s.heap [] := va_S.rf
  have hl := lv_entry ([.ref (a 0), .int p1, .int p2, .int p3]) (n := 4) (Nat.le_of_ble_eq_true rfl)
  rw [lg_entry_eq]
  generalize (lg_sl ([.ref (a 0), .int p1, .int p2, .int p3]) ++ List.replicate (4 - (lg_sl ([.ref (a 0), .int p1, .int p2, .int p3])).length) Slot.unset).toArray = ls at hl ⊢
  have hl : lv_has ls 4 [(0, .ref (a 0)), (1, .int p1), (2, .int p2), (3, .int p3)] := hl
  have M0 : ∀ (H : Heap) (locs : List Loc) (ls : Array Slot), fX7_waiting k x p1 p2 p3 = some (.inl v) → va_P D vwCl (W_F cI cV vf a x) H → va_D A (W_F cI cV vf a x) → va_S A s.heap H locs → lv_has ls 4 [(0, .ref (a 0)), (1, .int p1), (2, .int p2), (3, .int p3)] → W p l e ({ frames := 7, cells := 0, slots := 0, locals := 120 } : Room) s m ([.ref (a 0), .int p1, .int p2, .int p3] : List Value).toArray below meth c H locs 0 0 (MQ below (QW D (TY cI cV cJ cD) (W_F cI cV vf a x) A (some (.int v))) (([.ref (a 0), .int p1, .int p2, .int p3] : List Value).toArray) s 0 0 A) (F0 m 0 ls []) := by
    intro H locs ls hf hP hD hS hl
    dsimp only [fX7_waiting] at hf
    refine lv_iload_n hx hb dX7_waiting_0 rfl (lv_at hl 1 rfl) ?_
    obtain ⟨u1, hc2, hf⟩ := bind_t hf
    rcases u1 with r3 | k4
    rotate_left
    · exact (thr_e hf).elim
    replace hf := thr_v hf rfl
    refine k_S (As := [.int p1]) (rest := []) (n := 1) ⟨hx, hb, hml, hown, hts⟩ (met0_X7_needKey l p1 r3 hc2) w209 w210 w1 w211 ⟨by decide +kernel, by decide +kernel, by decide +kernel⟩ ⟨Nat.le_of_ble_eq_true rfl, Nat.le_of_ble_eq_true rfl⟩ hK hE hP hD hS hA (isC := []) (isR := [0, 1, 2, 3, 4, 5, 6, 7, 8, 9, 10, 11, 12, 13, 14, 15, 16, 17, 18, 19, 20, 21, 22, 23]) (isB := [0, 1, 2, 3, 4, 5, 6, 7, 8, 9, 10, 11, 12, 13, 14, 15, 16, 17, 18, 19, 20, 21, 22, 23]) (ws' := W_F cI cV vf a x) ⟨([0, 1, 2, 3, 4, 5, 6, 7, 8, 9, 10, 11, 12, 13, 14, 15, 16, 17, 18, 19, 20, 21, 22, 23] : List Nat).filterMap (fun i : Nat => (W_F cI cV vf a x : va_W)[i]?), rfl, rfl, rfl, rfl, by decide, rfl, rfl⟩ rfl hl.1 rfl (Nat.le_of_ble_eq_true rfl) dX7_waiting_1 ⟨Nat.le_of_ble_eq_true rfl, Nat.le_of_ble_eq_true rfl⟩ (fun H locs hP hD hS => ?_)
    try dsimp only at hf
    refine W.eq (g2 := F0 m 4 ls []) rfl ?_
    refine lv_iload_n hx hb dX7_waiting_4 rfl (lv_at hl 2 rfl) ?_
    obtain ⟨u5, hc6, hf⟩ := bind_t hf
    rcases u5 with r7 | k8
    rotate_left
    · exact (thr_e hf).elim
    replace hf := thr_v hf rfl
    refine k_S (As := [.int p2]) (rest := []) (n := 1) ⟨hx, hb, hml, hown, hts⟩ (met0_X7_needGroup l p2 r7 hc6) w600 w601 w1 w602 ⟨by decide +kernel, by decide +kernel, by decide +kernel⟩ ⟨Nat.le_of_ble_eq_true rfl, Nat.le_of_ble_eq_true rfl⟩ hK hE hP hD hS hA (isC := []) (isR := [0, 1, 2, 3, 4, 5, 6, 7, 8, 9, 10, 11, 12, 13, 14, 15, 16, 17, 18, 19, 20, 21, 22, 23]) (isB := [0, 1, 2, 3, 4, 5, 6, 7, 8, 9, 10, 11, 12, 13, 14, 15, 16, 17, 18, 19, 20, 21, 22, 23]) (ws' := W_F cI cV vf a x) ⟨([0, 1, 2, 3, 4, 5, 6, 7, 8, 9, 10, 11, 12, 13, 14, 15, 16, 17, 18, 19, 20, 21, 22, 23] : List Nat).filterMap (fun i : Nat => (W_F cI cV vf a x : va_W)[i]?), rfl, rfl, rfl, rfl, by decide, rfl, rfl⟩ rfl hl.1 rfl (Nat.le_of_ble_eq_true rfl) dX7_waiting_5 ⟨Nat.le_of_ble_eq_true rfl, Nat.le_of_ble_eq_true rfl⟩ (fun H locs hP hD hS => ?_)
    try dsimp only at hf
    refine W.eq (g2 := F0 m 8 ls []) rfl ?_
    refine lv_iload_n hx hb dX7_waiting_8 rfl (lv_at hl 3 rfl) ?_
    obtain ⟨u9, hc10, hf⟩ := bind_t hf
    rcases u9 with r11 | k12
    rotate_left
    · exact (thr_e hf).elim
    replace hf := thr_v hf rfl
    refine k_S (As := [.int p3]) (rest := []) (n := 1) ⟨hx, hb, hml, hown, hts⟩ (met0_X7_needReader l p3 r11 hc10) w605 w606 w1 w607 ⟨by decide +kernel, by decide +kernel, by decide +kernel⟩ ⟨Nat.le_of_ble_eq_true rfl, Nat.le_of_ble_eq_true rfl⟩ hK hE hP hD hS hA (isC := []) (isR := [0, 1, 2, 3, 4, 5, 6, 7, 8, 9, 10, 11, 12, 13, 14, 15, 16, 17, 18, 19, 20, 21, 22, 23]) (isB := [0, 1, 2, 3, 4, 5, 6, 7, 8, 9, 10, 11, 12, 13, 14, 15, 16, 17, 18, 19, 20, 21, 22, 23]) (ws' := W_F cI cV vf a x) ⟨([0, 1, 2, 3, 4, 5, 6, 7, 8, 9, 10, 11, 12, 13, 14, 15, 16, 17, 18, 19, 20, 21, 22, 23] : List Nat).filterMap (fun i : Nat => (W_F cI cV vf a x : va_W)[i]?), rfl, rfl, rfl, rfl, by decide, rfl, rfl⟩ rfl hl.1 rfl (Nat.le_of_ble_eq_true rfl) dX7_waiting_9 ⟨Nat.le_of_ble_eq_true rfl, Nat.le_of_ble_eq_true rfl⟩ (fun H locs hP hD hS => ?_)
    try dsimp only at hf
    refine W.eq (g2 := F0 m 12 ls []) rfl ?_
    refine lv_aload_n hx hb dX7_waiting_12 rfl (lv_at hl 0 rfl) ?_
    refine lv_iload_n hx hb dX7_waiting_13 rfl (lv_at hl 1 rfl) ?_
    obtain ⟨u13, hc14, hf⟩ := bind_t hf
    refine k_V (As := [.int p1]) (rest := []) (n := 1) ⟨hx, hb, hml, hown, hts⟩ (met_X7_typeNow l k vf a hvf x p1 u13 hc14) w286 w288 ws1 w1 w289 ⟨rfl, by decide +kernel, by decide +kernel, by decide +kernel⟩ ⟨Nat.le_of_ble_eq_true rfl, Nat.le_of_ble_eq_true rfl⟩ hK hE hP hD hS hA (isC := [0, 1, 2, 3, 4, 5, 6, 7, 8, 9, 10, 11, 12, 13, 14, 15, 16, 17, 18, 19, 20, 21, 22, 23]) (isR := []) (isB := [0, 1, 2, 3, 4, 5, 6, 7, 8, 9, 10, 11, 12, 13, 14, 15, 16, 17, 18, 19, 20, 21, 22, 23]) (ws' := W_F cI cV vf a x) ⟨([] : List Nat).filterMap (fun i : Nat => (W_F cI cV vf a x : va_W)[i]?), rfl, rfl, rfl, rfl, by decide, rfl, rfl⟩ 0 6 rfl rfl rfl rfl hl.1 rfl (Nat.le_of_ble_eq_true rfl) dX7_waiting_14 ⟨Nat.le_of_ble_eq_true rfl, Nat.le_of_ble_eq_true rfl⟩ (fun H locs hP hD hS => ?_)
    try dsimp only at hf
    refine W.eq (g2 := F0 m 17 ls [.int u13]) rfl ?_
    refine lv_iconst (v := 4) hx hb dX7_waiting_17 (by decide) ?_
    refine lv_icmp_ne (tgt := 38) hx hb dX7_waiting_18 (by decide) (fun c15 => ?_) (fun c15 => ?_)
    · replace hf := if_f c15 hf
      refine lv_iconst (v := 0) hx hb dX7_waiting_38 (by decide) ?_
      obtain rfl := Sum.inl.inj (Option.some.inj hf)
      exact W.iret (v := 0) hx hb hr (fun t ht hW => ⟨rfl, by rw [ht]; exact hP, va_K.moved hW.alike hK, hD, hS.F ht⟩) hS.2.2 dX7_waiting_39 hlocks
    · replace hf := if_t c15 hf
      refine lv_aload_n hx hb dX7_waiting_21 rfl (lv_at hl 0 rfl) ?_
      refine va_get (D := D) (ci := 6) (v := .ref (a 1)) (C := RX7) (T := TX7) (N := 8) hx hb hg in_X7 hown hK hP 0 rfl rfl 0 (by decide) (hg _ w167) (fun _ h9 => h9) rfl dX7_waiting_22 ?_
      refine lv_iload_n hx hb dX7_waiting_25 rfl (lv_at hl 1 rfl) ?_
      obtain ⟨hi16, hf⟩ := chk_t hf
      refine va_aldq hx hb hK hP 1 1 rfl rfl (keyok_i hi16) dX7_waiting_26 ?_
      refine W.eq (g2 := F0 m 27 ls [.ref (a 6)]) (by rw [keyok_k hi16, hvf]; rfl) ?_
      refine va_getN (D := D) (ci := 5) (v := .ref (a 21)) (C := RX6) (T := TX6) (N := 10) hx hb hg in_X6 hown hK hP 6 rfl rfl 8 (by decide) (nwF_93 hE.1) (fun _ h9 => h9) rfl dX7_waiting_27 ?_
      refine lv_iload_n hx hb dX7_waiting_30 rfl (lv_at hl 2 rfl) ?_
      refine lv_iload_n hx hb dX7_waiting_31 rfl (lv_at hl 3 rfl) ?_
      obtain ⟨u17, hc18, hf⟩ := bind_t hf
      refine k_V (As := [.int p2, .int p3]) (rest := []) (n := 2) ⟨hx, hb, hml, hown, hts⟩ (met_X2_countWaiting l (fun j => a (21 + j)) (vlGr (fV x)) p2 p3 u17 hc18) w689 w690 w691 w8 w692 ⟨rfl, by decide +kernel, by decide +kernel, by decide +kernel⟩ ⟨Nat.le_of_ble_eq_true rfl, Nat.le_of_ble_eq_true rfl⟩ hK hE hP hD hS hA (isC := [21, 22, 23]) (isR := [0, 1, 2, 3, 4, 5, 6, 7, 8, 9, 10, 11, 12, 13, 14, 15, 16, 17, 18, 19, 20]) (isB := [0, 1, 2, 3, 4, 5, 6, 7, 8, 9, 10, 11, 12, 13, 14, 15, 16, 17, 18, 19, 20, 21, 22, 23]) (ws' := W_F cI cV vf a x) ⟨([0, 1, 2, 3, 4, 5, 6, 7, 8, 9, 10, 11, 12, 13, 14, 15, 16, 17, 18, 19, 20] : List Nat).filterMap (fun i : Nat => (W_F cI cV vf a x : va_W)[i]?), rfl, rfl, rfl, rfl, by decide, rfl, rfl⟩ 21 1 rfl rfl rfl rfl hl.1 rfl (Nat.le_of_ble_eq_true rfl) dX7_waiting_32 ⟨Nat.le_of_ble_eq_true rfl, Nat.le_of_ble_eq_true rfl⟩ (fun H locs hP hD hS => ?_)
      try dsimp only at hf
      refine W.eq (g2 := F0 m 35 ls [.int u17]) rfl ?_
      refine lv_goto (tgt := 39) hx hb dX7_waiting_35 (by decide) ?_
      obtain rfl := Sum.inl.inj (Option.some.inj hf)
      exact W.iret (v := u17) hx hb hr (fun t ht hW => ⟨rfl, by rw [ht]; exact hP, va_K.moved hW.alike hK, hD, hS.F ht⟩) hS.2.2 dX7_waiting_39 hlocks
  exact M0 s.heap [] ls hf hP hD hS hl
/-! Compactforms.tick(I)I -/
set_option maxHeartbeats 4000000 in
set_option maxRecDepth 100000 in
theorem met0_X7_tick {D : va_G} {cI cV cJ cD : ClassId} (l : Launch) (k : Nat) (vf : Nat → Option Nat) (a : Nat → Nat) (hvf : vf k = some (a 6)) (x : FSt) (p1 : Int32) (w : FSt) (v : Int32) (hf : fX7_tick k x p1 = some (w, .inl v)) : MM l yX7_tick cX7_tick 2 (some .int) { frames := 7, cells := 0, slots := 0, locals := 122 } D (TY cI cV cJ cD) (W_F cI cV vf a x) (W_F cI cV vf a w) [.ref (a 0), .int p1] (some (.int v)) := by
  intro sz
  refine Met.ofW (cc := cX7_tick) (maxL := 2) (ret := (some .int)) (by decide +kernel) rfl ?_
  intro p e s m args below meth c s₁ B hml hv
  obtain ⟨rfl, hsz, hP, hK, hD0, hE⟩ := hv
  have hx := B.exec
  have hb := B.bytes
  have hr := B.returns
  have hts := atoms_spec (ws := .code yX7_tick cX7_tick 2 (some .int) :: GW) B.pre
  have hg : ∀ w ∈ GW, w.before (([.ref (a 0), .int p1] : List Value).toArray) s = true := fun w h => hts w (List.mem_cons_of_mem _ h)
  have hown : s.vm.findClass RX7 = some m.cls := findClass_of_methodNamed B.named
  have hlocks := B.notSynchronized
  subst hsz
  have hD := hD0.self (sz := s.heap.size)
  generalize hAe : va_A (W_F cI cV vf a x) s.heap.size = A at hD hE ⊢
  have hA : ∀ q : Nat, s.heap.size ≤ q → A q := fun q h => by rw [← hAe]; exact Or.inr h
  have hS : va_S A s.heap s.heap [] := va_S.rf
  have hl := lv_entry ([.ref (a 0), .int p1]) (n := 2) (Nat.le_of_ble_eq_true rfl)
  rw [lg_entry_eq]
  generalize (lg_sl ([.ref (a 0), .int p1]) ++ List.replicate (2 - (lg_sl ([.ref (a 0), .int p1])).length) Slot.unset).toArray = ls at hl ⊢
  have hl : lv_has ls 2 [(0, .ref (a 0)), (1, .int p1)] := hl
  have M0 : ∀ (H : Heap) (locs : List Loc) (ls : Array Slot), fX7_tick k x p1 = some (w, .inl v) → va_P D vwCl (W_F cI cV vf a x) H → va_D A (W_F cI cV vf a x) → va_S A s.heap H locs → lv_has ls 2 [(0, .ref (a 0)), (1, .int p1)] → W p l e ({ frames := 7, cells := 0, slots := 0, locals := 122 } : Room) s m ([.ref (a 0), .int p1] : List Value).toArray below meth c H locs 0 0 (MQ below (QW D (TY cI cV cJ cD) (W_F cI cV vf a w) A (some (.int v))) (([.ref (a 0), .int p1] : List Value).toArray) s 0 0 A) (F0 m 0 ls []) := by
    intro H locs ls hf hP hD hS hl
    dsimp only [fX7_tick] at hf
    refine lv_iload_n hx hb dX7_tick_0 rfl (lv_at hl 1 rfl) ?_
    refine lv_iconst (v := 1) hx hb dX7_tick_1 (by decide) ?_
    refine lv_sipush (v := 1000) hx hb dX7_tick_2 (by decide) ?_
    obtain ⟨u1, hc2, hf⟩ := bind_t hf
    rcases u1 with r3 | k4
    rotate_left
    · exact (thr_w hf).elim
    replace hf := thr_v hf rfl
    refine k_S (As := [.int p1, .int 1, .int 1000]) (rest := []) (n := 3) ⟨hx, hb, hml, hown, hts⟩ (met0_X7_needWithin l p1 1 1000 r3 hc2) w317 w318 w1 w319 ⟨by decide +kernel, by decide +kernel, by decide +kernel⟩ ⟨Nat.le_of_ble_eq_true rfl, Nat.le_of_ble_eq_true rfl⟩ hK hE hP hD hS hA (isC := []) (isR := [0, 1, 2, 3, 4, 5, 6, 7, 8, 9, 10, 11, 12, 13, 14, 15, 16, 17, 18, 19, 20, 21, 22, 23]) (isB := [0, 1, 2, 3, 4, 5, 6, 7, 8, 9, 10, 11, 12, 13, 14, 15, 16, 17, 18, 19, 20, 21, 22, 23]) (ws' := W_F cI cV vf a x) ⟨([0, 1, 2, 3, 4, 5, 6, 7, 8, 9, 10, 11, 12, 13, 14, 15, 16, 17, 18, 19, 20, 21, 22, 23] : List Nat).filterMap (fun i : Nat => (W_F cI cV vf a x : va_W)[i]?), rfl, rfl, rfl, rfl, by decide, rfl, rfl⟩ rfl hl.1 rfl (Nat.le_of_ble_eq_true rfl) dX7_tick_5 ⟨Nat.le_of_ble_eq_true rfl, Nat.le_of_ble_eq_true rfl⟩ (fun H locs hP hD hS => ?_)
    try dsimp only at hf
    refine W.eq (g2 := F0 m 8 ls []) rfl ?_
    refine lv_aload_n hx hb dX7_tick_8 rfl (lv_at hl 0 rfl) ?_
    refine va_get (D := D) (ci := 6) (v := .int (fClk x)) (C := RX7) (T := TX7) (N := 8) hx hb hg in_X7 hown hK hP 0 rfl rfl 5 (by decide) (hg _ w172) (fun _ h9 => h9) rfl dX7_tick_9 ?_
    refine lv_iload_n hx hb dX7_tick_12 rfl (lv_at hl 1 rfl) ?_
    refine lv_iadd hx hb dX7_tick_13 ?_
    refine lv_ldc (own := RX7) (v := 1000000) hx hb hown (hg _ w701) dX7_tick_14 ?_
    refine lv_icmp_le (tgt := 29) hx hb dX7_tick_16 (by decide) (fun c5 => ?_) (fun c5 => ?_)
    · replace hf := if_t c5 hf
      refine lv_aload_n hx hb dX7_tick_29 rfl (lv_at hl 0 rfl) ?_
      refine lv_dup hx hb dX7_tick_30 rfl ?_
      refine va_get (D := D) (ci := 6) (v := .int (fClk x)) (C := RX7) (T := TX7) (N := 8) hx hb hg in_X7 hown hK hP 0 rfl rfl 5 (by decide) (hg _ w172) (fun _ h9 => h9) rfl dX7_tick_31 ?_
      refine lv_iload_n hx hb dX7_tick_34 rfl (lv_at hl 1 rfl) ?_
      refine lv_iadd hx hb dX7_tick_35 ?_
      refine va_put (D := D) (ci := 6) (v := .int ((fClk x) + p1)) (ty := .int) (C := RX7) (T := TX7) (N := 8) hx hb hg in_X7 tyX7 tyX7_ok nmX7 hown hK hP hD hS 0 rfl rfl 5 (by decide) (hg _ w172) (fun _ h9 => h9) rfl (by decide +kernel) rfl rfl (Nat.le_of_ble_eq_true rfl) dX7_tick_36 (fun H locs hP hD hS => ?_)
      obtain ⟨x6, hx6⟩ : ∃ z, z = (fClk_s x ((fClk x) + p1)) := ⟨_, rfl⟩
      replace hf := keep_e hf x6 hx6
      have hP : va_P D vwCl (W_F cI cV vf a x6) H := by rw [hx6]; exact hP
      have hD : va_D A (W_F cI cV vf a x6) := by rw [hx6]; exact hD
      refine lv_aload_n hx hb dX7_tick_39 rfl (lv_at hl 0 rfl) ?_
      refine va_get (D := D) (ci := 6) (v := .int (fClk x6)) (C := RX7) (T := TX7) (N := 8) hx hb hg in_X7 hown hK hP 0 rfl rfl 5 (by decide) (hg _ w172) (fun _ h9 => h9) rfl dX7_tick_40 ?_
      obtain ⟨h8, h9⟩ := Prod.mk.inj (Option.some.inj hf)
      obtain rfl := Sum.inl.inj h9
      subst h8
      exact W.iret (v := (fClk x6)) hx hb hr (fun t ht hW => ⟨rfl, by rw [ht]; exact hP, va_K.moved hW.alike hK, hD, hS.F ht⟩) hS.2.2 dX7_tick_43 hlocks
    · replace hf := if_f c5 hf
      cases hf
  exact M0 s.heap [] ls hf hP hD hS hl
/-! Compactforms.sample(I)I -/
set_option maxHeartbeats 4000000 in
set_option maxRecDepth 100000 in
theorem met0_X7_sample {D : va_G} {cI cV cJ cD : ClassId} (l : Launch) (vf : Nat → Option Nat) (ad : Nat → Nat → Nat) (a : Nat → Nat) (hvf : ∀ k, k < 16 → vf k = some (ad k 0)) (x : SSt) (p1 : Int32) (w : SSt) (v : Int32) (hf : fX7_sample x p1 = some (w, .inl v)) : MM l yX7_sample cX7_sample 8 (some .int) { frames := 7, cells := 0, slots := 0, locals := 122 } D (TY cI cV cJ cD) (W_S cI cV vf a ad x) (W_S cI cV vf a ad w) [.ref (a 0), .int p1] (some (.int v)) := by
  intro sz
  refine Met.ofW (cc := cX7_sample) (maxL := 8) (ret := (some .int)) (by decide +kernel) rfl ?_
  intro p e s m args below meth c s₁ B hml hv
  obtain ⟨rfl, hsz, hP, hK, hD0, hE⟩ := hv
  have hx := B.exec
  have hb := B.bytes
  have hr := B.returns
  have hts := atoms_spec (ws := .code yX7_sample cX7_sample 8 (some .int) :: GW) B.pre
  have hg : ∀ w ∈ GW, w.before (([.ref (a 0), .int p1] : List Value).toArray) s = true := fun w h => hts w (List.mem_cons_of_mem _ h)
  have hown : s.vm.findClass RX7 = some m.cls := findClass_of_methodNamed B.named
  have hlocks := B.notSynchronized
  subst hsz
  have hD := hD0.self (sz := s.heap.size)
  generalize hAe : va_A (W_S cI cV vf a ad x) s.heap.size = A at hD hE ⊢
  have hA : ∀ q : Nat, s.heap.size ≤ q → A q := fun q h => by rw [← hAe]; exact Or.inr h
  have hS : va_S A s.heap s.heap [] := va_S.rf
  have hl := lv_entry ([.ref (a 0), .int p1]) (n := 8) (Nat.le_of_ble_eq_true rfl)
  rw [lg_entry_eq]
  generalize (lg_sl ([.ref (a 0), .int p1]) ++ List.replicate (8 - (lg_sl ([.ref (a 0), .int p1])).length) Slot.unset).toArray = ls at hl ⊢
  have hl : lv_has ls 8 [(0, .ref (a 0)), (1, .int p1)] := hl
  have S22 : ∀ (v1 : Int32) (v2 : Int32) (rec22 : SSt × Int32 × Int32 × Int32 → Option (SSt × (Int32 ⊕ Nat))) (hrec22 : ∀ (x : SSt), ∀ (v3 : Int32), ∀ (v4 : Int32), ∀ (v5 : Int32), ∀ (H : Heap) (locs : List Loc) (ls : Array Slot), rec22 (x, v3, v4, v5) = some (w, .inl v) → va_P D vwCl (W_S cI cV vf a ad x) H → va_D A (W_S cI cV vf a ad x) → va_S A s.heap H locs → lv_has ls 8 [(0, .ref (a 0)), (1, .int v1), (2, .int v2), (3, .int v3), (4, .int v4), (5, .int v5)] → W p l e ({ frames := 7, cells := 0, slots := 0, locals := 122 } : Room) s m ([.ref (a 0), .int p1] : List Value).toArray below meth c H locs 0 0 (MQ below (QW D (TY cI cV cJ cD) (W_S cI cV vf a ad w) A (some (.int v))) (([.ref (a 0), .int p1] : List Value).toArray) s 0 0 A) (F0 m 22 ls [])) (x : SSt) (v3 : Int32) (v4 : Int32) (v5 : Int32) (H : Heap) (locs : List Loc) (ls : Array Slot), fX7_sample_22 v1 v2  rec22 (x, v3, v4, v5) = some (w, .inl v) → va_P D vwCl (W_S cI cV vf a ad x) H → va_D A (W_S cI cV vf a ad x) → va_S A s.heap H locs → lv_has ls 8 [(0, .ref (a 0)), (1, .int v1), (2, .int v2), (3, .int v3), (4, .int v4), (5, .int v5)] → W p l e ({ frames := 7, cells := 0, slots := 0, locals := 122 } : Room) s m ([.ref (a 0), .int p1] : List Value).toArray below meth c H locs 0 0 (MQ below (QW D (TY cI cV cJ cD) (W_S cI cV vf a ad w) A (some (.int v))) (([.ref (a 0), .int p1] : List Value).toArray) s 0 0 A) (F0 m 22 ls []) := by
    intro v1 v2 rec22 hrec22 x v3 v4 v5 H locs ls hf hP hD hS hl
    dsimp only [fX7_sample_22] at hf
    refine lv_iload hx hb dX7_sample_22 (lv_at hl 5 rfl) ?_
    refine lv_bipush (v := 16) hx hb dX7_sample_24 (by decide) ?_
    refine lv_icmp_ge (tgt := 105) hx hb dX7_sample_26 (by decide) (fun c1 => ?_) (fun c1 => ?_)
    · replace hf := if_t c1 hf
      refine lv_iload hx hb dX7_sample_105 (lv_at hl 4 rfl) ?_
      obtain ⟨h8, h9⟩ := Prod.mk.inj (Option.some.inj hf)
      obtain rfl := Sum.inl.inj h9
      subst h8
      exact W.iret (v := v4) hx hb hr (fun t ht hW => ⟨rfl, by rw [ht]; exact hP, va_K.moved hW.alike hK, hD, hS.F ht⟩) hS.2.2 dX7_sample_107 hlocks
    · replace hf := if_f c1 hf
      refine lv_iload_n hx hb dX7_sample_29 rfl (lv_at hl 3 rfl) ?_
      refine lv_iload_n hx hb dX7_sample_30 rfl (lv_at hl 1 rfl) ?_
      refine lv_icmp_ge (tgt := 105) hx hb dX7_sample_31 (by decide) (fun c2 => ?_) (fun c2 => ?_)
      · replace hf := if_t c2 hf
        refine lv_iload hx hb dX7_sample_105 (lv_at hl 4 rfl) ?_
        obtain ⟨h8, h9⟩ := Prod.mk.inj (Option.some.inj hf)
        obtain rfl := Sum.inl.inj h9
        subst h8
        exact W.iret (v := v4) hx hb hr (fun t ht hW => ⟨rfl, by rw [ht]; exact hP, va_K.moved hW.alike hK, hD, hS.F ht⟩) hS.2.2 dX7_sample_107 hlocks
      · replace hf := if_f c2 hf
        refine lv_iload_n hx hb dX7_sample_34 rfl (lv_at hl 2 rfl) ?_
        refine lv_iload hx hb dX7_sample_35 (lv_at hl 5 rfl) ?_
        refine lv_iadd hx hb dX7_sample_37 ?_
        refine lv_bipush (v := 16) hx hb dX7_sample_38 (by decide) ?_
        refine lv_irem hx hb dX7_sample_40 (by decide) ?_
        refine lv_topi (fun y3 hy3 => ?_)
        replace hf := keep_e hf y3 hy3
        refine lv_istore (lv' := [(6, .int y3), (0, .ref (a 0)), (1, .int v1), (2, .int v2), (3, .int v3), (4, .int v4), (5, .int v5)]) hx hb dX7_sample_41 hl (by decide) rfl (fun ls hl => ?_)
        refine lv_aload_n hx hb dX7_sample_43 rfl (lv_at hl 1 rfl) ?_
        refine va_get (D := D) (ci := 6) (v := .ref (a 1)) (C := RX7) (T := TX7) (N := 8) hx hb hg in_X7 hown hK hP 0 rfl rfl 0 (by decide) (hg _ w167) (fun _ h9 => h9) rfl dX7_sample_44 ?_
        refine lv_iload hx hb dX7_sample_47 (lv_at hl 0 rfl) ?_
        obtain ⟨hi4, hf⟩ := chk_t hf
        have hk5 := inb_lt hi4
        refine va_aldq hx hb hK hP 1 1 rfl rfl (inb_in hi4) dX7_sample_49 ?_
        refine W.eq (g2 := F0 m 50 ls [.ref (ad (y3.toNatClampNeg) 0)]) (by rw [hvf _ hk5]; rfl) ?_
        refine lv_astore (lv' := [(7, .ref (ad (y3.toNatClampNeg) 0)), (6, .int y3), (0, .ref (a 0)), (1, .int v1), (2, .int v2), (3, .int v3), (4, .int v4), (5, .int v5)]) hx hb dX7_sample_50 hl (by decide) rfl (fun ls hl => ?_)
        refine lv_aload hx hb dX7_sample_52 (lv_at hl 0 rfl) ?_
        obtain ⟨wr9, p19, p29⟩ := cut_V (cI := cI) (cV := cV) (vf := vf) (a := a) (ad := ad) x hk5 (sV x (y3.toNatClampNeg))
        have hPk := hP.perm p19
        refine va_getN (D := D) (ci := 5) (v := .int (vlHeld (sV x (y3.toNatClampNeg)))) (C := RX6) (T := TX6) (N := 10) hx hb hg in_X6 hown hK hPk 0 rfl rfl 0 (by decide) (nwF_115 hE.1) (fun _ h9 => h9) rfl dX7_sample_54 ?_
        refine lv_if_eq (tgt := 99) hx hb dX7_sample_57 (by decide) (fun c6 => ?_) (fun c6 => ?_)
        · replace hf := if_t c6 hf
          obtain ⟨y7, hy7⟩ : ∃ z : Int32, z = (v5 + 1) := ⟨_, rfl⟩
          replace hf := keep_e hf y7 hy7
          refine lv_iinc (v := y7) (lv' := [(5, .int y7), (7, .ref (ad (y3.toNatClampNeg) 0)), (6, .int y3), (0, .ref (a 0)), (1, .int v1), (2, .int v2), (3, .int v3), (4, .int v4)]) hx hb dX7_sample_99 hl (k := 7) rfl (by rw [hy7]; rfl) (by decide) rfl (fun ls hl => ?_)
          refine lv_goto (tgt := 22) hx hb dX7_sample_102 (by decide) ?_
          exact hrec22 x v3 v4 y7 H locs ls hf hP hD hS (lv_sub hl [3, 4, 5, 6, 7, 0] rfl)
        · replace hf := if_f c6 hf
          refine lv_aload hx hb dX7_sample_60 (lv_at hl 0 rfl) ?_
          obtain ⟨wr9, p19, p29⟩ := cut_V (cI := cI) (cV := cV) (vf := vf) (a := a) (ad := ad) x hk5 (sV x (y3.toNatClampNeg))
          have hPk := hP.perm p19
          refine va_getN (D := D) (ci := 5) (v := .int (vlEnd (sV x (y3.toNatClampNeg)))) (C := RX6) (T := TX6) (N := 10) hx hb hg in_X6 hown hK hPk 0 rfl rfl 2 (by decide) (nwF_106 hE.1) (fun _ h9 => h9) rfl dX7_sample_62 ?_
          refine lv_iconst (v := (-1)) hx hb dX7_sample_65 (by decide) ?_
          refine lv_icmp_eq (tgt := 99) hx hb dX7_sample_66 (by decide) (fun c8 => ?_) (fun c8 => ?_)
          · replace hf := if_t c8 hf
            obtain ⟨y9, hy9⟩ : ∃ z : Int32, z = (v5 + 1) := ⟨_, rfl⟩
            replace hf := keep_e hf y9 hy9
            refine lv_iinc (v := y9) (lv' := [(5, .int y9), (7, .ref (ad (y3.toNatClampNeg) 0)), (6, .int y3), (0, .ref (a 0)), (1, .int v1), (2, .int v2), (3, .int v3), (4, .int v4)]) hx hb dX7_sample_99 hl (k := 7) rfl (by rw [hy9]; rfl) (by decide) rfl (fun ls hl => ?_)
            refine lv_goto (tgt := 22) hx hb dX7_sample_102 (by decide) ?_
            exact hrec22 x v3 v4 y9 H locs ls hf hP hD hS (lv_sub hl [3, 4, 5, 6, 7, 0] rfl)
          · replace hf := if_f c8 hf
            obtain ⟨y10, hy10⟩ : ∃ z : Int32, z = (v3 + 1) := ⟨_, rfl⟩
            replace hf := keep_e hf y10 hy10
            refine lv_iinc (v := y10) (lv' := [(3, .int y10), (7, .ref (ad (y3.toNatClampNeg) 0)), (6, .int y3), (0, .ref (a 0)), (1, .int v1), (2, .int v2), (4, .int v4), (5, .int v5)]) hx hb dX7_sample_69 hl (k := 5) rfl (by rw [hy10]; rfl) (by decide) rfl (fun ls hl => ?_)
            refine lv_aload_n hx hb dX7_sample_72 rfl (lv_at hl 3 rfl) ?_
            refine lv_iload hx hb dX7_sample_73 (lv_at hl 2 rfl) ?_
            refine va_put (D := D) (ci := 6) (v := .int y3) (ty := .int) (C := RX7) (T := TX7) (N := 8) hx hb hg in_X7 tyX7 tyX7_ok nmX7 hown hK hP hD hS 0 rfl rfl 6 (by decide) (hg _ w173) (fun _ h9 => h9) rfl (by decide +kernel) rfl rfl (Nat.le_of_ble_eq_true rfl) dX7_sample_75 (fun H locs hP hD hS => ?_)
            obtain ⟨x11, hx11⟩ : ∃ z, z = (sLs_s x y3) := ⟨_, rfl⟩
            replace hf := keep_e hf x11 hx11
            have hP : va_P D vwCl (W_S cI cV vf a ad x11) H := by rw [hx11]; exact hP
            have hD : va_D A (W_S cI cV vf a ad x11) := by rw [hx11]; exact hD
            refine lv_aload hx hb dX7_sample_78 (lv_at hl 1 rfl) ?_
            refine lv_aload_n hx hb dX7_sample_80 rfl (lv_at hl 3 rfl) ?_
            refine va_get (D := D) (ci := 6) (v := .int (sClk x11)) (C := RX7) (T := TX7) (N := 8) hx hb hg in_X7 hown hK hP 0 rfl rfl 5 (by decide) (hg _ w172) (fun _ h9 => h9) rfl dX7_sample_81 ?_
            obtain ⟨u12, hc13, hf⟩ := bind_t hf
            refine k_VP (ws' := W_S cI cV vf a ad x11) (As := [.int (sClk x11)]) (rest := []) (n := 1) ⟨hx, hb, hml, hown, hts⟩ (met_X6_isThere l (ad (y3.toNatClampNeg)) (sV x11 (y3.toNatClampNeg)) (sClk x11) u12 hc13) w294 w295 w296 w3 w297 ⟨rfl, by decide +kernel, by decide +kernel, by decide +kernel⟩ ⟨Nat.le_of_ble_eq_true rfl, Nat.le_of_ble_eq_true rfl⟩ hK hE hP hD hS hA (cut_idV x11 hk5) 0 5 rfl rfl rfl rfl hl.1 rfl (Nat.le_of_ble_eq_true rfl) dX7_sample_84 ⟨Nat.le_of_ble_eq_true rfl, Nat.le_of_ble_eq_true rfl⟩ (fun H locs hP hD hS => ?_)
            try dsimp only at hf
            refine W.eq (g2 := F0 m 87 ls [.int u12]) rfl ?_
            refine lv_if_ne (tgt := 99) hx hb dX7_sample_87 (by decide) (fun c14 => ?_) (fun c14 => ?_)
            · replace hf := if_f c14 hf
              obtain ⟨y15, hy15⟩ : ∃ z : Int32, z = (v5 + 1) := ⟨_, rfl⟩
              replace hf := keep_e hf y15 hy15
              refine lv_iinc (v := y15) (lv' := [(5, .int y15), (3, .int y10), (7, .ref (ad (y3.toNatClampNeg) 0)), (6, .int y3), (0, .ref (a 0)), (1, .int v1), (2, .int v2), (4, .int v4)]) hx hb dX7_sample_99 hl (k := 7) rfl (by rw [hy15]; rfl) (by decide) rfl (fun ls hl => ?_)
              refine lv_goto (tgt := 22) hx hb dX7_sample_102 (by decide) ?_
              exact hrec22 x11 y10 v4 y15 H locs ls hf hP hD hS (lv_sub hl [4, 5, 6, 1, 7, 0] rfl)
            · replace hf := if_t c14 hf
              refine lv_aload hx hb dX7_sample_90 (lv_at hl 1 rfl) ?_
              refine lv_iconst (v := 0) hx hb dX7_sample_92 (by decide) ?_
              obtain ⟨wr9, p19, p29⟩ := cut_V (cI := cI) (cV := cV) (vf := vf) (a := a) (ad := ad) x11 hk5 (vlHeld_s (sV x11 (y3.toNatClampNeg)) 0)
              have hPk := hP.perm p19
              have hDk := hD.perm p19
              refine va_putN (D := D) (ci := 5) (v := .int 0) (ty := .boolean) (C := RX6) (T := TX6) (N := 10) hx hb hg in_X6 tyX6 tyX6_ok nmX6 hown hK hPk hDk hS 0 rfl rfl 0 (by decide) (nwF_115 hE.1) (fun _ h9 => h9) rfl (by decide +kernel) (by decide +kernel) (by decide +kernel) (Nat.le_of_ble_eq_true rfl) dX7_sample_93 (fun H locs hP hD hS => ?_)
              replace hP : va_P D vwCl (W_S cI cV vf a ad (sV_s x11 (vup (sV x11) (y3.toNatClampNeg) (vlHeld_s (sV x11 (y3.toNatClampNeg)) 0)))) H := (show va_P D vwCl (W_Value cI (ad (y3.toNatClampNeg)) (vlHeld_s (sV x11 (y3.toNatClampNeg)) 0) ++ wr9) H from hP).perm (List.perm_append_comm.trans p29)
              replace hD : va_D A (W_S cI cV vf a ad (sV_s x11 (vup (sV x11) (y3.toNatClampNeg) (vlHeld_s (sV x11 (y3.toNatClampNeg)) 0)))) := (show va_D A (W_Value cI (ad (y3.toNatClampNeg)) (vlHeld_s (sV x11 (y3.toNatClampNeg)) 0) ++ wr9) from hD).perm (List.perm_append_comm.trans p29)
              obtain ⟨x16, hx16⟩ : ∃ z, z = (sV_s x11 (vup (sV x11) (y3.toNatClampNeg) (vlHeld_s (sV x11 (y3.toNatClampNeg)) 0))) := ⟨_, rfl⟩
              replace hf := keep_e hf x16 hx16
              have hP : va_P D vwCl (W_S cI cV vf a ad x16) H := by rw [hx16]; exact hP
              have hD : va_D A (W_S cI cV vf a ad x16) := by rw [hx16]; exact hD
              obtain ⟨y17, hy17⟩ : ∃ z : Int32, z = (v4 + 1) := ⟨_, rfl⟩
              replace hf := keep_e hf y17 hy17
              refine lv_iinc (v := y17) (lv' := [(4, .int y17), (3, .int y10), (7, .ref (ad (y3.toNatClampNeg) 0)), (6, .int y3), (0, .ref (a 0)), (1, .int v1), (2, .int v2), (5, .int v5)]) hx hb dX7_sample_96 hl (k := 6) rfl (by rw [hy17]; rfl) (by decide) rfl (fun ls hl => ?_)
              obtain ⟨y18, hy18⟩ : ∃ z : Int32, z = (v5 + 1) := ⟨_, rfl⟩
              replace hf := keep_e hf y18 hy18
              refine lv_iinc (v := y18) (lv' := [(5, .int y18), (4, .int y17), (3, .int y10), (7, .ref (ad (y3.toNatClampNeg) 0)), (6, .int y3), (0, .ref (a 0)), (1, .int v1), (2, .int v2)]) hx hb dX7_sample_99 hl (k := 7) rfl (by rw [hy18]; rfl) (by decide) rfl (fun ls hl => ?_)
              refine lv_goto (tgt := 22) hx hb dX7_sample_102 (by decide) ?_
              exact hrec22 x16 y10 y17 y18 H locs ls hf hP hD hS (lv_sub hl [5, 6, 7, 2, 1, 0] rfl)
  have L22 : ∀ (v1 : Int32) (v2 : Int32) (fu : Nat) (x : SSt) (v3 : Int32) (v4 : Int32) (v5 : Int32) (H : Heap) (locs : List Loc) (ls : Array Slot), iterK fu (fX7_sample_22 v1 v2 ) (x, v3, v4, v5) = some (w, .inl v) → va_P D vwCl (W_S cI cV vf a ad x) H → va_D A (W_S cI cV vf a ad x) → va_S A s.heap H locs → lv_has ls 8 [(0, .ref (a 0)), (1, .int v1), (2, .int v2), (3, .int v3), (4, .int v4), (5, .int v5)] → W p l e ({ frames := 7, cells := 0, slots := 0, locals := 122 } : Room) s m ([.ref (a 0), .int p1] : List Value).toArray below meth c H locs 0 0 (MQ below (QW D (TY cI cV cJ cD) (W_S cI cV vf a ad w) A (some (.int v))) (([.ref (a 0), .int p1] : List Value).toArray) s 0 0 A) (F0 m 22 ls []) := by
    intro v1 v2 fu
    induction fu with
    | zero =>
      intro x v3 v4 v5 H locs ls hf
      cases hf
    | succ fu ih =>
      intro x v3 v4 v5 H locs ls hf hP hD hS hl
      exact S22 v1 v2 (iterK fu (fX7_sample_22 v1 v2 )) ih x v3 v4 v5 H locs ls hf hP hD hS hl
  have M0 : ∀ (H : Heap) (locs : List Loc) (ls : Array Slot), fX7_sample x p1 = some (w, .inl v) → va_P D vwCl (W_S cI cV vf a ad x) H → va_D A (W_S cI cV vf a ad x) → va_S A s.heap H locs → lv_has ls 8 [(0, .ref (a 0)), (1, .int p1)] → W p l e ({ frames := 7, cells := 0, slots := 0, locals := 122 } : Room) s m ([.ref (a 0), .int p1] : List Value).toArray below meth c H locs 0 0 (MQ below (QW D (TY cI cV cJ cD) (W_S cI cV vf a ad w) A (some (.int v))) (([.ref (a 0), .int p1] : List Value).toArray) s 0 0 A) (F0 m 0 ls []) := by
    intro H locs ls hf hP hD hS hl
    dsimp only [fX7_sample] at hf
    refine lv_iload_n hx hb dX7_sample_0 rfl (lv_at hl 1 rfl) ?_
    refine lv_iconst (v := 1) hx hb dX7_sample_1 (by decide) ?_
    refine lv_bipush (v := 16) hx hb dX7_sample_2 (by decide) ?_
    obtain ⟨u19, hc20, hf⟩ := bind_t hf
    rcases u19 with r21 | k22
    rotate_left
    · exact (thr_w hf).elim
    replace hf := thr_v hf rfl
    refine k_S (As := [.int p1, .int 1, .int 16]) (rest := []) (n := 3) ⟨hx, hb, hml, hown, hts⟩ (met0_X7_needWithin l p1 1 16 r21 hc20) w317 w318 w1 w319 ⟨by decide +kernel, by decide +kernel, by decide +kernel⟩ ⟨Nat.le_of_ble_eq_true rfl, Nat.le_of_ble_eq_true rfl⟩ hK hE hP hD hS hA (Cut.nil _) rfl hl.1 rfl (Nat.le_of_ble_eq_true rfl) dX7_sample_4 ⟨Nat.le_of_ble_eq_true rfl, Nat.le_of_ble_eq_true rfl⟩ (fun H locs hP hD hS => ?_)
    refine W.eq (g2 := F0 m 7 ls []) rfl ?_
    refine lv_aload_n hx hb dX7_sample_7 rfl (lv_at hl 0 rfl) ?_
    refine va_get (D := D) (ci := 6) (v := .int (sLs x)) (C := RX7) (T := TX7) (N := 8) hx hb hg in_X7 hown hK hP 0 rfl rfl 6 (by decide) (hg _ w173) (fun _ h9 => h9) rfl dX7_sample_8 ?_
    refine lv_iconst (v := 1) hx hb dX7_sample_11 (by decide) ?_
    refine lv_iadd hx hb dX7_sample_12 ?_
    refine lv_topi (fun y23 hy23 => ?_)
    replace hf := keep_e hf y23 hy23
    refine lv_istore_n (lv' := [(2, .int y23), (0, .ref (a 0)), (1, .int p1)]) hx hb dX7_sample_13 rfl hl (by decide) rfl (fun ls hl => ?_)
    refine lv_iconst (v := 0) hx hb dX7_sample_14 (by decide) ?_
    refine lv_istore_n (lv' := [(3, .int 0), (2, .int y23), (0, .ref (a 0)), (1, .int p1)]) hx hb dX7_sample_15 rfl hl (by decide) rfl (fun ls hl => ?_)
    refine lv_iconst (v := 0) hx hb dX7_sample_16 (by decide) ?_
    refine lv_istore (lv' := [(4, .int 0), (3, .int 0), (2, .int y23), (0, .ref (a 0)), (1, .int p1)]) hx hb dX7_sample_17 hl (by decide) rfl (fun ls hl => ?_)
    refine lv_iconst (v := 0) hx hb dX7_sample_19 (by decide) ?_
    refine lv_istore (lv' := [(5, .int 0), (4, .int 0), (3, .int 0), (2, .int y23), (0, .ref (a 0)), (1, .int p1)]) hx hb dX7_sample_20 hl (by decide) rfl (fun ls hl => ?_)
    exact L22 p1 y23 FU x 0 0 0 H locs ls hf hP hD hS (lv_sub hl [4, 5, 3, 2, 1, 0] rfl)
  exact M0 s.heap [] ls hf hP hD hS hl

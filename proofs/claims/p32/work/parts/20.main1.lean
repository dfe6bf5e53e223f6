/-! Compactforms.needKey(I)V -/
def fX7_needKey (p0 : Int32) : Option ((Int32 ⊕ Nat)) := (fX7_isKey p0).bind (fun u1 => (if u1 = 0 then some (.inr 0) else some (.inl 0)))
set_option maxHeartbeats 4000000 in
set_option maxRecDepth 100000 in
theorem met_X7_needKey {D : va_G} {cI cV cJ cD : ClassId} (l : Launch) (hlt : l.stackTraces = false) (p0 : Int32) (res : (Int32 ⊕ Nat)) (hf : fX7_needKey p0 = some res) : MX l yX7_needKey cX7_needKey 1 none { frames := 6, cells := 1, slots := 6, locals := 100 } D (TY cI cV cJ cD) ([]) ([]) [.int p0] (rsV res) := by
  intro sz
  refine vx_ofW (cc := cX7_needKey) (maxL := 1) (ret := none) (by decide +kernel) rfl ?_
  intro p e s m args below meth c s₁ B hml htab hv
  obtain ⟨rfl, hsz, hP, hK, hD0, hE⟩ := hv
  have hx := B.exec
  have hb := B.bytes
  have hr := B.returns
  have hts := atoms_spec (ws := .code yX7_needKey cX7_needKey 1 none :: GW) B.pre
  have hg : ∀ w ∈ GW, w.before (([.int p0] : List Value).toArray) s = true := fun w h => hts w (List.mem_cons_of_mem _ h)
  have hown : s.vm.findClass RX7 = some m.cls := findClass_of_methodNamed B.named
  have hlocks := B.notSynchronized
  subst hsz
  have hD := hD0.self (sz := s.heap.size)
  generalize hAe : va_A ([]) s.heap.size = A at hD hE ⊢
  have hA : ∀ q : Nat, s.heap.size ≤ q → A q := fun q h => by rw [← hAe]; exact Or.inr h
  have hS : va_S A s.heap s.heap [] := va_S.rf
  have hl := lv_entry ([.int p0]) (n := 1) (Nat.le_of_ble_eq_true rfl)
  rw [lg_entry_eq]
  generalize (lg_sl ([.int p0]) ++ List.replicate (1 - (lg_sl ([.int p0])).length) Slot.unset).toArray = ls at hl ⊢
  have hl : lv_has ls 1 [(0, .int p0)] := hl
  have M0 : ∀ (H : Heap) (locs : List Loc) (ls : Array Slot), fX7_needKey p0 = some res → va_P D vwCl ([]) H → va_D A ([]) → va_S A s.heap H locs → lv_has ls 1 [(0, .int p0)] → W p l e ({ frames := 6, cells := 1, slots := 6, locals := 100 } : Room) s m ([.int p0] : List Value).toArray below meth c H locs 0 0 (vx_MQ below (QR D (TY cI cV cJ cD) ([]) A (rsV res)) (XR D (TY cI cV cJ cD) ([]) A (rsV res)) (([.int p0] : List Value).toArray) s 1 6 A) (F0 m 0 ls []) := by
    intro H locs ls hf hP hD hS hl
    dsimp only [fX7_needKey] at hf
    refine lv_iload_n hx hb dX7_needKey_0 rfl (lv_at hl 0 rfl) ?_
    obtain ⟨u1, hc2, hf⟩ := bind_t hf
    refine k_S (As := [.int p0]) (rest := []) (n := 1) ⟨hx, hb, hml, hown, hts⟩ (met_X7_isKey l p0 u1 hc2) w212 w213 w1 w214 ⟨by decide +kernel, by decide +kernel, by decide +kernel⟩ ⟨Nat.le_of_ble_eq_true rfl, Nat.le_of_ble_eq_true rfl⟩ hK hE hP hD hS hA (isC := []) (isR := []) (isB := []) (ws' := []) ⟨([] : List Nat).filterMap (fun i : Nat => ([] : va_W)[i]?), rfl, rfl, rfl, rfl, by decide, rfl, rfl⟩ rfl hl.1 rfl (Nat.le_of_ble_eq_true rfl) dX7_needKey_1 ⟨Nat.le_of_ble_eq_true rfl, Nat.le_of_ble_eq_true rfl⟩ (fun H locs hP hD hS => ?_)
    try dsimp only at hf
    refine W.eq (g2 := F0 m 4 ls [.int u1]) rfl ?_
    refine lv_if_ne (tgt := 17) hx hb dX7_needKey_4 (by decide) (fun c3 => ?_) (fun c3 => ?_)
    · replace hf := if_f c3 hf
      obtain rfl := Option.some.inj hf
      refine W.widen (k := 1) (n := 6) (Nat.le_of_ble_eq_true rfl) (Nat.le_of_ble_eq_true rfl) ?_
      refine vx_ret ?_
      exact W.vret hx hb hr (fun t ht hW => ⟨_, rfl, ⟨rfl, by rw [ht]; exact hP, va_K.moved hW.alike hK, hD, hS.F ht⟩⟩) hS.2.2 dX7_needKey_17 hlocks
    · replace hf := if_t c3 hf
      obtain rfl := Option.some.inj hf
      exact k_throw hx hb hlt (own := RX7) (text := "no such key") hown (by decide +kernel) htab hlocks (hg _ w218) (hg _ w12) (hE.1.2.2.2.1 _ (List.mem_of_getElem? (i := 0) rfl)) (thr_at196 hg hE.1) thr_ok196_192 hE (by rw [hml]; exact hl.1) dX7_needKey_7 dX7_needKey_10 dX7_needKey_11 dX7_needKey_13 dX7_needKey_16 (Nat.le_of_ble_eq_true rfl) (Nat.le_of_ble_eq_true rfl) (Nat.le_of_ble_eq_true rfl) (Nat.le_of_ble_eq_true rfl) rfl hK hP hD hS (Nat.le_of_ble_eq_true rfl) (Nat.le_of_ble_eq_true rfl)
  exact M0 s.heap [] ls hf hP hD hS hl
/-! Compactforms.needWithin(III)V -/
def fX7_needWithin (p0 : Int32) (p1 : Int32) (p2 : Int32) : Option ((Int32 ⊕ Nat)) := (fX7_isWithin p0 p1 p2).bind (fun u1 => (if u1 = 0 then some (.inr 1) else some (.inl 0)))
set_option maxHeartbeats 4000000 in
set_option maxRecDepth 100000 in
theorem met_X7_needWithin {D : va_G} {cI cV cJ cD : ClassId} (l : Launch) (hlt : l.stackTraces = false) (p0 : Int32) (p1 : Int32) (p2 : Int32) (res : (Int32 ⊕ Nat)) (hf : fX7_needWithin p0 p1 p2 = some res) : MX l yX7_needWithin cX7_needWithin 3 none { frames := 6, cells := 1, slots := 6, locals := 100 } D (TY cI cV cJ cD) ([]) ([]) [.int p0, .int p1, .int p2] (rsV res) := by
  intro sz
  refine vx_ofW (cc := cX7_needWithin) (maxL := 3) (ret := none) (by decide +kernel) rfl ?_
  intro p e s m args below meth c s₁ B hml htab hv
  obtain ⟨rfl, hsz, hP, hK, hD0, hE⟩ := hv
  have hx := B.exec
  have hb := B.bytes
  have hr := B.returns
  have hts := atoms_spec (ws := .code yX7_needWithin cX7_needWithin 3 none :: GW) B.pre
  have hg : ∀ w ∈ GW, w.before (([.int p0, .int p1, .int p2] : List Value).toArray) s = true := fun w h => hts w (List.mem_cons_of_mem _ h)
  have hown : s.vm.findClass RX7 = some m.cls := findClass_of_methodNamed B.named
  have hlocks := B.notSynchronized
  subst hsz
  have hD := hD0.self (sz := s.heap.size)
  generalize hAe : va_A ([]) s.heap.size = A at hD hE ⊢
  have hA : ∀ q : Nat, s.heap.size ≤ q → A q := fun q h => by rw [← hAe]; exact Or.inr h
  have hS : va_S A s.heap s.heap [] := va_S.rf
  have hl := lv_entry ([.int p0, .int p1, .int p2]) (n := 3) (Nat.le_of_ble_eq_true rfl)
  rw [lg_entry_eq]
  generalize (lg_sl ([.int p0, .int p1, .int p2]) ++ List.replicate (3 - (lg_sl ([.int p0, .int p1, .int p2])).length) Slot.unset).toArray = ls at hl ⊢
  have hl : lv_has ls 3 [(0, .int p0), (1, .int p1), (2, .int p2)] := hl
  have M0 : ∀ (H : Heap) (locs : List Loc) (ls : Array Slot), fX7_needWithin p0 p1 p2 = some res → va_P D vwCl ([]) H → va_D A ([]) → va_S A s.heap H locs → lv_has ls 3 [(0, .int p0), (1, .int p1), (2, .int p2)] → W p l e ({ frames := 6, cells := 1, slots := 6, locals := 100 } : Room) s m ([.int p0, .int p1, .int p2] : List Value).toArray below meth c H locs 0 0 (vx_MQ below (QR D (TY cI cV cJ cD) ([]) A (rsV res)) (XR D (TY cI cV cJ cD) ([]) A (rsV res)) (([.int p0, .int p1, .int p2] : List Value).toArray) s 1 6 A) (F0 m 0 ls []) := by
    intro H locs ls hf hP hD hS hl
    dsimp only [fX7_needWithin] at hf
    refine lv_iload_n hx hb dX7_needWithin_0 rfl (lv_at hl 0 rfl) ?_
    refine lv_iload_n hx hb dX7_needWithin_1 rfl (lv_at hl 1 rfl) ?_
    refine lv_iload_n hx hb dX7_needWithin_2 rfl (lv_at hl 2 rfl) ?_
    obtain ⟨u1, hc2, hf⟩ := bind_t hf
    refine k_S (As := [.int p0, .int p1, .int p2]) (rest := []) (n := 3) ⟨hx, hb, hml, hown, hts⟩ (met_X7_isWithin l p0 p1 p2 u1 hc2) w215 w216 w1 w217 ⟨by decide +kernel, by decide +kernel, by decide +kernel⟩ ⟨Nat.le_of_ble_eq_true rfl, Nat.le_of_ble_eq_true rfl⟩ hK hE hP hD hS hA (isC := []) (isR := []) (isB := []) (ws' := []) ⟨([] : List Nat).filterMap (fun i : Nat => ([] : va_W)[i]?), rfl, rfl, rfl, rfl, by decide, rfl, rfl⟩ rfl hl.1 rfl (Nat.le_of_ble_eq_true rfl) dX7_needWithin_3 ⟨Nat.le_of_ble_eq_true rfl, Nat.le_of_ble_eq_true rfl⟩ (fun H locs hP hD hS => ?_)
    try dsimp only at hf
    refine W.eq (g2 := F0 m 6 ls [.int u1]) rfl ?_
    refine lv_if_ne (tgt := 19) hx hb dX7_needWithin_6 (by decide) (fun c3 => ?_) (fun c3 => ?_)
    · replace hf := if_f c3 hf
      obtain rfl := Option.some.inj hf
      refine W.widen (k := 1) (n := 6) (Nat.le_of_ble_eq_true rfl) (Nat.le_of_ble_eq_true rfl) ?_
      refine vx_ret ?_
      exact W.vret hx hb hr (fun t ht hW => ⟨_, rfl, ⟨rfl, by rw [ht]; exact hP, va_K.moved hW.alike hK, hD, hS.F ht⟩⟩) hS.2.2 dX7_needWithin_19 hlocks
    · replace hf := if_t c3 hf
      obtain rfl := Option.some.inj hf
      exact k_throw hx hb hlt (own := RX7) (text := "out of range") hown (by decide +kernel) htab hlocks (hg _ w320) (hg _ w13) (hE.1.2.2.2.1 _ (List.mem_of_getElem? (i := 1) rfl)) (thr_at80 hg hE.1) thr_ok80_76 hE (by rw [hml]; exact hl.1) dX7_needWithin_9 dX7_needWithin_12 dX7_needWithin_13 dX7_needWithin_15 dX7_needWithin_18 (Nat.le_of_ble_eq_true rfl) (Nat.le_of_ble_eq_true rfl) (Nat.le_of_ble_eq_true rfl) (Nat.le_of_ble_eq_true rfl) rfl hK hP hD hS (Nat.le_of_ble_eq_true rfl) (Nat.le_of_ble_eq_true rfl)
  exact M0 s.heap [] ls hf hP hD hS hl
/-! Compactforms.needValue(I)V -/
def fX7_needValue (p0 : Int32) : Option ((Int32 ⊕ Nat)) := (fX7_needWithin p0 0 9999).bind (fun u1 => thr u1 (fun k3 => some (.inr k3)) (fun r4 => some (.inl 0)))
set_option maxHeartbeats 4000000 in
set_option maxRecDepth 100000 in
theorem met_X7_needValue {D : va_G} {cI cV cJ cD : ClassId} (l : Launch) (hlt : l.stackTraces = false) (p0 : Int32) (res : (Int32 ⊕ Nat)) (hf : fX7_needValue p0 = some res) : MX l yX7_needValue cX7_needValue 1 none { frames := 7, cells := 1, slots := 6, locals := 122 } D (TY cI cV cJ cD) ([]) ([]) [.int p0] (rsV res) := by
  intro sz
  refine vx_ofW (cc := cX7_needValue) (maxL := 1) (ret := none) (by decide +kernel) rfl ?_
  intro p e s m args below meth c s₁ B hml htab hv
  obtain ⟨rfl, hsz, hP, hK, hD0, hE⟩ := hv
  have hx := B.exec
  have hb := B.bytes
  have hr := B.returns
  have hts := atoms_spec (ws := .code yX7_needValue cX7_needValue 1 none :: GW) B.pre
  have hg : ∀ w ∈ GW, w.before (([.int p0] : List Value).toArray) s = true := fun w h => hts w (List.mem_cons_of_mem _ h)
  have hown : s.vm.findClass RX7 = some m.cls := findClass_of_methodNamed B.named
  have hlocks := B.notSynchronized
  subst hsz
  have hD := hD0.self (sz := s.heap.size)
  generalize hAe : va_A ([]) s.heap.size = A at hD hE ⊢
  have hA : ∀ q : Nat, s.heap.size ≤ q → A q := fun q h => by rw [← hAe]; exact Or.inr h
  have hS : va_S A s.heap s.heap [] := va_S.rf
  have hl := lv_entry ([.int p0]) (n := 1) (Nat.le_of_ble_eq_true rfl)
  rw [lg_entry_eq]
  generalize (lg_sl ([.int p0]) ++ List.replicate (1 - (lg_sl ([.int p0])).length) Slot.unset).toArray = ls at hl ⊢
  have hl : lv_has ls 1 [(0, .int p0)] := hl
  have M0 : ∀ (H : Heap) (locs : List Loc) (ls : Array Slot), fX7_needValue p0 = some res → va_P D vwCl ([]) H → va_D A ([]) → va_S A s.heap H locs → lv_has ls 1 [(0, .int p0)] → W p l e ({ frames := 7, cells := 1, slots := 6, locals := 122 } : Room) s m ([.int p0] : List Value).toArray below meth c H locs 0 0 (vx_MQ below (QR D (TY cI cV cJ cD) ([]) A (rsV res)) (XR D (TY cI cV cJ cD) ([]) A (rsV res)) (([.int p0] : List Value).toArray) s 1 6 A) (F0 m 0 ls []) := by
    intro H locs ls hf hP hD hS hl
    dsimp only [fX7_needValue] at hf
    refine lv_iload_n hx hb dX7_needValue_0 rfl (lv_at hl 0 rfl) ?_
    refine lv_iconst (v := 0) hx hb dX7_needValue_1 (by decide) ?_
    refine lv_sipush (v := 9999) hx hb dX7_needValue_2 (by decide) ?_
    obtain ⟨u1, hc2, hf⟩ := bind_t hf
    refine k_SX (As := [.int p0, .int 0, .int 9999]) (rest := []) (n := 3) ⟨hx, hb, hml, hown, hts⟩ (met_X7_needWithin l hlt p0 0 9999 u1 hc2) w317 w318 w1 w319 ⟨by decide +kernel, by decide +kernel, by decide +kernel⟩ ⟨Nat.le_of_ble_eq_true rfl, Nat.le_of_ble_eq_true rfl⟩ hK hE hP hD hS hA (isC := []) (isR := []) (isB := []) (ws' := []) ⟨([] : List Nat).filterMap (fun i : Nat => ([] : va_W)[i]?), rfl, rfl, rfl, rfl, by decide, rfl, rfl⟩ rfl hl.1 rfl (Nat.le_of_ble_eq_true rfl) dX7_needValue_5 ⟨Nat.le_of_ble_eq_true rfl, Nat.le_of_ble_eq_true rfl⟩ (fun E ce q9 H locs h5 hP hD hS hce hcv hcl => ?_) (fun rv9 H locs h5 hP hD hS => ?_)
    · obtain ⟨k3, hq9, hE9⟩ := rsV_x h5
      replace hf := thr_x hf hq9
      obtain rfl := Option.some.inj hf
      exact k_out htab hlocks hce hcv hcl (by rw [hE9]; rfl) hK hP hD hS (Nat.le_of_ble_eq_true rfl) (Nat.le_of_ble_eq_true rfl)
    obtain ⟨r4, hq9, rfl⟩ := rsV_v h5
    replace hf := thr_v hf hq9
    refine W.eq (g2 := F0 m 8 ls []) rfl ?_
    obtain rfl := Option.some.inj hf
    refine vx_ret ?_
    exact W.vret hx hb hr (fun t ht hW => ⟨_, rfl, ⟨rfl, by rw [ht]; exact hP, va_K.moved hW.alike hK, hD, hS.F ht⟩⟩) hS.2.2 dX7_needValue_8 hlocks
  exact M0 s.heap [] ls hf hP hD hS hl
/-! Compactforms.isThere(I)Z -/
def fX7_isThere (k : Nat) (x : FSt) (p1 : Int32) : Option (Int32) := chk (keyok p1 k) ((fX6_isThere (fV x) (fClk x)).bind (fun u2 => chk (isB u2) (some u2)))
set_option maxHeartbeats 4000000 in
set_option maxRecDepth 100000 in
theorem met_X7_isThere {D : va_G} {cI cV cJ cD : ClassId} (l : Launch) (k : Nat) (vf : Nat → Option Nat) (a : Nat → Nat) (hvf : vf k = some (a 6)) (x : FSt) (p1 : Int32) (res : Int32) (hf : fX7_isThere k x p1 = some res) : MM l yX7_isThere cX7_isThere 2 (some .boolean) { frames := 1, cells := 0, slots := 0, locals := 21 } D (TY cI cV cJ cD) (W_F cI cV vf a x) (W_F cI cV vf a x) [.ref (a 0), .int p1] (some (.int res)) := by
  intro sz
  refine Met.ofW (cc := cX7_isThere) (maxL := 2) (ret := (some .boolean)) (by decide +kernel) rfl ?_
  intro p e s m args below meth c s₁ B hml hv
  obtain ⟨rfl, hsz, hP, hK, hD0, hE⟩ := hv
  have hx := B.exec
  have hb := B.bytes
  have hr := B.returns
  have hts := atoms_spec (ws := .code yX7_isThere cX7_isThere 2 (some .boolean) :: GW) B.pre
  have hg : ∀ w ∈ GW, w.before (([.ref (a 0), .int p1] : List Value).toArray) s = true := fun w h => hts w (List.mem_cons_of_mem _ h)
  have hown : s.vm.findClass RX7 = some m.cls := findClass_of_methodNamed B.named
  have hlocks := B.notSynchronized
  subst hsz
  have hD := hD0.self (sz := s.heap.size)
  generalize hAe : va_A (W_F cI cV vf a x) s.heap.size = A at hD hE ⊢
  have hA : ∀ q : Nat, s.heap.size ≤ q → A q := fun q h => by rw [← hAe]; exact Or.inr h
  have hS : va_S A s.heap s.heap [] := va_S.rf
  have hl := lv_entry ([.ref (a 0), .int p1]) (n := 2) (Nat.le_of_ble_eq_true rfl)
  rw [lg_entry_eq]
  generalize (lg_sl ([.ref (a 0), .int p1]) ++ List.replicate (2 - (lg_sl ([.ref (a 0), .int p1])).length) Slot.unset).toArray = ls at hl ⊢
  have hl : lv_has ls 2 [(0, .ref (a 0)), (1, .int p1)] := hl
  have M0 : ∀ (H : Heap) (locs : List Loc) (ls : Array Slot), fX7_isThere k x p1 = some res → va_P D vwCl (W_F cI cV vf a x) H → va_D A (W_F cI cV vf a x) → va_S A s.heap H locs → lv_has ls 2 [(0, .ref (a 0)), (1, .int p1)] → W p l e ({ frames := 1, cells := 0, slots := 0, locals := 21 } : Room) s m ([.ref (a 0), .int p1] : List Value).toArray below meth c H locs 0 0 (MQ below (QW D (TY cI cV cJ cD) (W_F cI cV vf a x) A (some (.int res))) (([.ref (a 0), .int p1] : List Value).toArray) s 0 0 A) (F0 m 0 ls []) := by
    intro H locs ls hf hP hD hS hl
    dsimp only [fX7_isThere] at hf
    refine lv_aload_n hx hb dX7_isThere_0 rfl (lv_at hl 0 rfl) ?_
    refine va_get (D := D) (ci := 6) (v := .ref (a 1)) (C := RX7) (T := TX7) (N := 8) hx hb hg in_X7 hown hK hP 0 rfl rfl 0 (by decide) (hg _ w167) (fun _ h9 => h9) rfl dX7_isThere_1 ?_
    refine lv_iload_n hx hb dX7_isThere_4 rfl (lv_at hl 1 rfl) ?_
    obtain ⟨hi1, hf⟩ := chk_t hf
    refine va_aldq hx hb hK hP 1 1 rfl rfl (keyok_i hi1) dX7_isThere_5 ?_
    refine W.eq (g2 := F0 m 6 ls [.ref (a 6)]) (by rw [keyok_k hi1, hvf]; rfl) ?_
    refine lv_aload_n hx hb dX7_isThere_6 rfl (lv_at hl 0 rfl) ?_
    refine va_get (D := D) (ci := 6) (v := .int (fClk x)) (C := RX7) (T := TX7) (N := 8) hx hb hg in_X7 hown hK hP 0 rfl rfl 5 (by decide) (hg _ w172) (fun _ h9 => h9) rfl dX7_isThere_7 ?_
    obtain ⟨u2, hc3, hf⟩ := bind_t hf
    refine k_V (As := [.int (fClk x)]) (rest := []) (n := 1) ⟨hx, hb, hml, hown, hts⟩ (met_X6_isThere l (fun j => a (6 + j)) (fV x) (fClk x) u2 hc3) w294 w295 w296 w3 w297 ⟨rfl, by decide +kernel, by decide +kernel, by decide +kernel⟩ ⟨Nat.le_of_ble_eq_true rfl, Nat.le_of_ble_eq_true rfl⟩ hK hE hP hD hS hA (isC := [6, 7, 8, 9, 10, 11, 12, 13, 14, 15, 16, 17, 18, 19, 20, 21, 22, 23]) (isR := [0, 1, 2, 3, 4, 5]) (isB := [0, 1, 2, 3, 4, 5, 6, 7, 8, 9, 10, 11, 12, 13, 14, 15, 16, 17, 18, 19, 20, 21, 22, 23]) (ws' := W_F cI cV vf a x) ⟨([0, 1, 2, 3, 4, 5] : List Nat).filterMap (fun i : Nat => (W_F cI cV vf a x : va_W)[i]?), rfl, rfl, rfl, rfl, by decide, rfl, rfl⟩ 6 5 rfl rfl rfl rfl hl.1 rfl (Nat.le_of_ble_eq_true rfl) dX7_isThere_10 ⟨Nat.le_of_ble_eq_true rfl, Nat.le_of_ble_eq_true rfl⟩ (fun H locs hP hD hS => ?_)
    try dsimp only at hf
    refine W.eq (g2 := F0 m 13 ls [.int u2]) rfl ?_
    obtain ⟨hz4, hf⟩ := chk_t hf
    obtain rfl := Option.some.inj hf
    exact W.zret (v := u2) hx hb hr (isB_narrow hz4) (fun t ht hW => ⟨rfl, by rw [ht]; exact hP, va_K.moved hW.alike hK, hD, hS.F ht⟩) hS.2.2 dX7_isThere_13 hlocks
  exact M0 s.heap [] ls hf hP hD hS hl
/-! Compactforms.typeNow(I)I -/
def fX7_typeNow (k : Nat) (x : FSt) (p1 : Int32) : Option (Int32) := (fX7_isThere k x p1).bind (fun u1 => (if u1 = 0 then some 0 else chk (keyok p1 k) (some (vlTyp (fV x)))))
set_option maxHeartbeats 4000000 in
set_option maxRecDepth 100000 in
theorem met_X7_typeNow {D : va_G} {cI cV cJ cD : ClassId} (l : Launch) (k : Nat) (vf : Nat → Option Nat) (a : Nat → Nat) (hvf : vf k = some (a 6)) (x : FSt) (p1 : Int32) (res : Int32) (hf : fX7_typeNow k x p1 = some res) : MM l yX7_typeNow cX7_typeNow 2 (some .int) { frames := 2, cells := 0, slots := 0, locals := 42 } D (TY cI cV cJ cD) (W_F cI cV vf a x) (W_F cI cV vf a x) [.ref (a 0), .int p1] (some (.int res)) := by
  intro sz
  refine Met.ofW (cc := cX7_typeNow) (maxL := 2) (ret := (some .int)) (by decide +kernel) rfl ?_
  intro p e s m args below meth c s₁ B hml hv
  obtain ⟨rfl, hsz, hP, hK, hD0, hE⟩ := hv
  have hx := B.exec
  have hb := B.bytes
  have hr := B.returns
  have hts := atoms_spec (ws := .code yX7_typeNow cX7_typeNow 2 (some .int) :: GW) B.pre
  have hg : ∀ w ∈ GW, w.before (([.ref (a 0), .int p1] : List Value).toArray) s = true := fun w h => hts w (List.mem_cons_of_mem _ h)
  have hown : s.vm.findClass RX7 = some m.cls := findClass_of_methodNamed B.named
  have hlocks := B.notSynchronized
  subst hsz
  have hD := hD0.self (sz := s.heap.size)
  generalize hAe : va_A (W_F cI cV vf a x) s.heap.size = A at hD hE ⊢
  have hA : ∀ q : Nat, s.heap.size ≤ q → A q := fun q h => by rw [← hAe]; exact Or.inr h
  have hS : va_S A s.heap s.heap [] := va_S.rf
  have hl := lv_entry ([.ref (a 0), .int p1]) (n := 2) (Nat.le_of_ble_eq_true rfl)
  rw [lg_entry_eq]
  generalize (lg_sl ([.ref (a 0), .int p1]) ++ List.replicate (2 - (lg_sl ([.ref (a 0), .int p1])).length) Slot.unset).toArray = ls at hl ⊢
  have hl : lv_has ls 2 [(0, .ref (a 0)), (1, .int p1)] := hl
  have M0 : ∀ (H : Heap) (locs : List Loc) (ls : Array Slot), fX7_typeNow k x p1 = some res → va_P D vwCl (W_F cI cV vf a x) H → va_D A (W_F cI cV vf a x) → va_S A s.heap H locs → lv_has ls 2 [(0, .ref (a 0)), (1, .int p1)] → W p l e ({ frames := 2, cells := 0, slots := 0, locals := 42 } : Room) s m ([.ref (a 0), .int p1] : List Value).toArray below meth c H locs 0 0 (MQ below (QW D (TY cI cV cJ cD) (W_F cI cV vf a x) A (some (.int res))) (([.ref (a 0), .int p1] : List Value).toArray) s 0 0 A) (F0 m 0 ls []) := by
    intro H locs ls hf hP hD hS hl
    dsimp only [fX7_typeNow] at hf
    refine lv_aload_n hx hb dX7_typeNow_0 rfl (lv_at hl 0 rfl) ?_
    refine lv_iload_n hx hb dX7_typeNow_1 rfl (lv_at hl 1 rfl) ?_
    obtain ⟨u1, hc2, hf⟩ := bind_t hf
    refine k_V (As := [.int p1]) (rest := []) (n := 1) ⟨hx, hb, hml, hown, hts⟩ (met_X7_isThere l k vf a hvf x p1 u1 hc2) w290 w292 ws2 w1 w293 ⟨rfl, by decide +kernel, by decide +kernel, by decide +kernel⟩ ⟨Nat.le_of_ble_eq_true rfl, Nat.le_of_ble_eq_true rfl⟩ hK hE hP hD hS hA (isC := [0, 1, 2, 3, 4, 5, 6, 7, 8, 9, 10, 11, 12, 13, 14, 15, 16, 17, 18, 19, 20, 21, 22, 23]) (isR := []) (isB := [0, 1, 2, 3, 4, 5, 6, 7, 8, 9, 10, 11, 12, 13, 14, 15, 16, 17, 18, 19, 20, 21, 22, 23]) (ws' := W_F cI cV vf a x) ⟨([] : List Nat).filterMap (fun i : Nat => (W_F cI cV vf a x : va_W)[i]?), rfl, rfl, rfl, rfl, by decide, rfl, rfl⟩ 0 6 rfl rfl rfl rfl hl.1 rfl (Nat.le_of_ble_eq_true rfl) dX7_typeNow_2 ⟨Nat.le_of_ble_eq_true rfl, Nat.le_of_ble_eq_true rfl⟩ (fun H locs hP hD hS => ?_)
    try dsimp only at hf
    refine W.eq (g2 := F0 m 5 ls [.int u1]) rfl ?_
    refine lv_if_eq (tgt := 20) hx hb dX7_typeNow_5 (by decide) (fun c3 => ?_) (fun c3 => ?_)
    · replace hf := if_t c3 hf
      refine lv_iconst (v := 0) hx hb dX7_typeNow_20 (by decide) ?_
      obtain rfl := Option.some.inj hf
      exact W.iret (v := 0) hx hb hr (fun t ht hW => ⟨rfl, by rw [ht]; exact hP, va_K.moved hW.alike hK, hD, hS.F ht⟩) hS.2.2 dX7_typeNow_21 hlocks
    · replace hf := if_f c3 hf
      refine lv_aload_n hx hb dX7_typeNow_8 rfl (lv_at hl 0 rfl) ?_
      refine va_get (D := D) (ci := 6) (v := .ref (a 1)) (C := RX7) (T := TX7) (N := 8) hx hb hg in_X7 hown hK hP 0 rfl rfl 0 (by decide) (hg _ w167) (fun _ h9 => h9) rfl dX7_typeNow_9 ?_
      refine lv_iload_n hx hb dX7_typeNow_12 rfl (lv_at hl 1 rfl) ?_
      obtain ⟨hi4, hf⟩ := chk_t hf
      refine va_aldq hx hb hK hP 1 1 rfl rfl (keyok_i hi4) dX7_typeNow_13 ?_
      refine W.eq (g2 := F0 m 14 ls [.ref (a 6)]) (by rw [keyok_k hi4, hvf]; rfl) ?_
      refine va_getN (D := D) (ci := 5) (v := .int (vlTyp (fV x))) (C := RX6) (T := TX6) (N := 10) hx hb hg in_X6 hown hK hP 6 rfl rfl 1 (by decide) (nwF_214 hE.1) (fun _ h9 => h9) rfl dX7_typeNow_14 ?_
      refine lv_goto (tgt := 21) hx hb dX7_typeNow_17 (by decide) ?_
      obtain rfl := Option.some.inj hf
      exact W.iret (v := (vlTyp (fV x))) hx hb hr (fun t ht hW => ⟨rfl, by rw [ht]; exact hP, va_K.moved hW.alike hK, hD, hS.F ht⟩) hS.2.2 dX7_typeNow_21 hlocks
  exact M0 s.heap [] ls hf hP hD hS hl
/-! Compactforms.needType(II)V -/
def fX7_needType (k : Nat) (x : FSt) (p1 : Int32) (p2 : Int32) : Option ((Int32 ⊕ Nat)) := (fX7_typeNow k x p1).bind (fun u1 => (if u1 = p2 then some (.inl 0) else some (.inr 2)))
set_option maxHeartbeats 4000000 in
set_option maxRecDepth 100000 in
theorem met_X7_needType {D : va_G} {cI cV cJ cD : ClassId} (l : Launch) (hlt : l.stackTraces = false) (k : Nat) (vf : Nat → Option Nat) (a : Nat → Nat) (hvf : vf k = some (a 6)) (x : FSt) (p1 : Int32) (p2 : Int32) (res : (Int32 ⊕ Nat)) (hf : fX7_needType k x p1 p2 = some res) : MX l yX7_needType cX7_needType 3 none { frames := 6, cells := 1, slots := 6, locals := 100 } D (TY cI cV cJ cD) (W_F cI cV vf a x) (W_F cI cV vf a x) [.ref (a 0), .int p1, .int p2] (rsV res) := by
  intro sz
  refine vx_ofW (cc := cX7_needType) (maxL := 3) (ret := none) (by decide +kernel) rfl ?_
  intro p e s m args below meth c s₁ B hml htab hv
  obtain ⟨rfl, hsz, hP, hK, hD0, hE⟩ := hv
  have hx := B.exec
  have hb := B.bytes
  have hr := B.returns
  have hts := atoms_spec (ws := .code yX7_needType cX7_needType 3 none :: GW) B.pre
  have hg : ∀ w ∈ GW, w.before (([.ref (a 0), .int p1, .int p2] : List Value).toArray) s = true := fun w h => hts w (List.mem_cons_of_mem _ h)
  have hown : s.vm.findClass RX7 = some m.cls := findClass_of_methodNamed B.named
  have hlocks := B.notSynchronized
  subst hsz
  have hD := hD0.self (sz := s.heap.size)
  generalize hAe : va_A (W_F cI cV vf a x) s.heap.size = A at hD hE ⊢
  have hA : ∀ q : Nat, s.heap.size ≤ q → A q := fun q h => by rw [← hAe]; exact Or.inr h
  have hS : va_S A s.heap s.heap [] := va_S.rf
  have hl := lv_entry ([.ref (a 0), .int p1, .int p2]) (n := 3) (Nat.le_of_ble_eq_true rfl)
  rw [lg_entry_eq]
  generalize (lg_sl ([.ref (a 0), .int p1, .int p2]) ++ List.replicate (3 - (lg_sl ([.ref (a 0), .int p1, .int p2])).length) Slot.unset).toArray = ls at hl ⊢
  have hl : lv_has ls 3 [(0, .ref (a 0)), (1, .int p1), (2, .int p2)] := hl
  have M0 : ∀ (H : Heap) (locs : List Loc) (ls : Array Slot), fX7_needType k x p1 p2 = some res → va_P D vwCl (W_F cI cV vf a x) H → va_D A (W_F cI cV vf a x) → va_S A s.heap H locs → lv_has ls 3 [(0, .ref (a 0)), (1, .int p1), (2, .int p2)] → W p l e ({ frames := 6, cells := 1, slots := 6, locals := 100 } : Room) s m ([.ref (a 0), .int p1, .int p2] : List Value).toArray below meth c H locs 0 0 (vx_MQ below (QR D (TY cI cV cJ cD) (W_F cI cV vf a x) A (rsV res)) (XR D (TY cI cV cJ cD) (W_F cI cV vf a x) A (rsV res)) (([.ref (a 0), .int p1, .int p2] : List Value).toArray) s 1 6 A) (F0 m 0 ls []) := by
    intro H locs ls hf hP hD hS hl
    dsimp only [fX7_needType] at hf
    refine lv_aload_n hx hb dX7_needType_0 rfl (lv_at hl 0 rfl) ?_
    refine lv_iload_n hx hb dX7_needType_1 rfl (lv_at hl 1 rfl) ?_
    obtain ⟨u1, hc2, hf⟩ := bind_t hf
    refine k_V (As := [.int p1]) (rest := []) (n := 1) ⟨hx, hb, hml, hown, hts⟩ (met_X7_typeNow l k vf a hvf x p1 u1 hc2) w286 w288 ws1 w1 w289 ⟨rfl, by decide +kernel, by decide +kernel, by decide +kernel⟩ ⟨Nat.le_of_ble_eq_true rfl, Nat.le_of_ble_eq_true rfl⟩ hK hE hP hD hS hA (isC := [0, 1, 2, 3, 4, 5, 6, 7, 8, 9, 10, 11, 12, 13, 14, 15, 16, 17, 18, 19, 20, 21, 22, 23]) (isR := []) (isB := [0, 1, 2, 3, 4, 5, 6, 7, 8, 9, 10, 11, 12, 13, 14, 15, 16, 17, 18, 19, 20, 21, 22, 23]) (ws' := W_F cI cV vf a x) ⟨([] : List Nat).filterMap (fun i : Nat => (W_F cI cV vf a x : va_W)[i]?), rfl, rfl, rfl, rfl, by decide, rfl, rfl⟩ 0 6 rfl rfl rfl rfl hl.1 rfl (Nat.le_of_ble_eq_true rfl) dX7_needType_2 ⟨Nat.le_of_ble_eq_true rfl, Nat.le_of_ble_eq_true rfl⟩ (fun H locs hP hD hS => ?_)
    try dsimp only at hf
    refine W.eq (g2 := F0 m 5 ls [.int u1]) rfl ?_
    refine lv_iload_n hx hb dX7_needType_5 rfl (lv_at hl 2 rfl) ?_
    refine lv_icmp_eq (tgt := 19) hx hb dX7_needType_6 (by decide) (fun c3 => ?_) (fun c3 => ?_)
    · replace hf := if_t c3 hf
      obtain rfl := Option.some.inj hf
      refine W.widen (k := 1) (n := 6) (Nat.le_of_ble_eq_true rfl) (Nat.le_of_ble_eq_true rfl) ?_
      refine vx_ret ?_
      exact W.vret hx hb hr (fun t ht hW => ⟨_, rfl, ⟨rfl, by rw [ht]; exact hP, va_K.moved hW.alike hK, hD, hS.F ht⟩⟩) hS.2.2 dX7_needType_19 hlocks
    · replace hf := if_f c3 hf
      obtain rfl := Option.some.inj hf
      exact k_throw hx hb hlt (own := RX7) (text := "no value of this type") hown (by decide +kernel) htab hlocks (hg _ w377) (hg _ w14) (hE.1.2.2.2.1 _ (List.mem_of_getElem? (i := 2) rfl)) (thr_at114 hg hE.1) thr_ok114_110 hE (by rw [hml]; exact hl.1) dX7_needType_9 dX7_needType_12 dX7_needType_13 dX7_needType_15 dX7_needType_18 (Nat.le_of_ble_eq_true rfl) (Nat.le_of_ble_eq_true rfl) (Nat.le_of_ble_eq_true rfl) (Nat.le_of_ble_eq_true rfl) rfl hK hP hD hS (Nat.le_of_ble_eq_true rfl) (Nat.le_of_ble_eq_true rfl)
  exact M0 s.heap [] ls hf hP hD hS hl
/-! Compactforms.needTypeOrAbsent(II)V -/
def fX7_needTypeOrAbsent (k : Nat) (x : FSt) (p1 : Int32) (p2 : Int32) : Option ((Int32 ⊕ Nat)) := (fX7_typeNow k x p1).bind (fun u1 => (if u1 = 0 then some (.inl 0) else (fX7_needType k x p1 p2).bind (fun u4 => thr u4 (fun k6 => some (.inr k6)) (fun r7 => some (.inl 0)))))
set_option maxHeartbeats 4000000 in
set_option maxRecDepth 100000 in
theorem met_X7_needTypeOrAbsent {D : va_G} {cI cV cJ cD : ClassId} (l : Launch) (hlt : l.stackTraces = false) (k : Nat) (vf : Nat → Option Nat) (a : Nat → Nat) (hvf : vf k = some (a 6)) (x : FSt) (p1 : Int32) (p2 : Int32) (res : (Int32 ⊕ Nat)) (hf : fX7_needTypeOrAbsent k x p1 p2 = some res) : MX l yX7_needTypeOrAbsent cX7_needTypeOrAbsent 3 none { frames := 7, cells := 1, slots := 6, locals := 122 } D (TY cI cV cJ cD) (W_F cI cV vf a x) (W_F cI cV vf a x) [.ref (a 0), .int p1, .int p2] (rsV res) := by
  intro sz
  refine vx_ofW (cc := cX7_needTypeOrAbsent) (maxL := 3) (ret := none) (by decide +kernel) rfl ?_
  intro p e s m args below meth c s₁ B hml htab hv
  obtain ⟨rfl, hsz, hP, hK, hD0, hE⟩ := hv
  have hx := B.exec
  have hb := B.bytes
  have hr := B.returns
  have hts := atoms_spec (ws := .code yX7_needTypeOrAbsent cX7_needTypeOrAbsent 3 none :: GW) B.pre
  have hg : ∀ w ∈ GW, w.before (([.ref (a 0), .int p1, .int p2] : List Value).toArray) s = true := fun w h => hts w (List.mem_cons_of_mem _ h)
  have hown : s.vm.findClass RX7 = some m.cls := findClass_of_methodNamed B.named
  have hlocks := B.notSynchronized
  subst hsz
  have hD := hD0.self (sz := s.heap.size)
  generalize hAe : va_A (W_F cI cV vf a x) s.heap.size = A at hD hE ⊢
  have hA : ∀ q : Nat, s.heap.size ≤ q → A q := fun q h => by rw [← hAe]; exact Or.inr h
  have hS : va_S A s.heap s.heap [] := va_S.rf
  have hl := lv_entry ([.ref (a 0), .int p1, .int p2]) (n := 3) (Nat.le_of_ble_eq_true rfl)
  rw [lg_entry_eq]
  generalize (lg_sl ([.ref (a 0), .int p1, .int p2]) ++ List.replicate (3 - (lg_sl ([.ref (a 0), .int p1, .int p2])).length) Slot.unset).toArray = ls at hl ⊢
  have hl : lv_has ls 3 [(0, .ref (a 0)), (1, .int p1), (2, .int p2)] := hl
  have M0 : ∀ (H : Heap) (locs : List Loc) (ls : Array Slot), fX7_needTypeOrAbsent k x p1 p2 = some res → va_P D vwCl (W_F cI cV vf a x) H → va_D A (W_F cI cV vf a x) → va_S A s.heap H locs → lv_has ls 3 [(0, .ref (a 0)), (1, .int p1), (2, .int p2)] → W p l e ({ frames := 7, cells := 1, slots := 6, locals := 122 } : Room) s m ([.ref (a 0), .int p1, .int p2] : List Value).toArray below meth c H locs 0 0 (vx_MQ below (QR D (TY cI cV cJ cD) (W_F cI cV vf a x) A (rsV res)) (XR D (TY cI cV cJ cD) (W_F cI cV vf a x) A (rsV res)) (([.ref (a 0), .int p1, .int p2] : List Value).toArray) s 1 6 A) (F0 m 0 ls []) := by
    intro H locs ls hf hP hD hS hl
    dsimp only [fX7_needTypeOrAbsent] at hf
    refine lv_aload_n hx hb dX7_needTypeOrAbsent_0 rfl (lv_at hl 0 rfl) ?_
    refine lv_iload_n hx hb dX7_needTypeOrAbsent_1 rfl (lv_at hl 1 rfl) ?_
    obtain ⟨u1, hc2, hf⟩ := bind_t hf
    refine k_V (As := [.int p1]) (rest := []) (n := 1) ⟨hx, hb, hml, hown, hts⟩ (met_X7_typeNow l k vf a hvf x p1 u1 hc2) w286 w288 ws1 w1 w289 ⟨rfl, by decide +kernel, by decide +kernel, by decide +kernel⟩ ⟨Nat.le_of_ble_eq_true rfl, Nat.le_of_ble_eq_true rfl⟩ hK hE hP hD hS hA (isC := [0, 1, 2, 3, 4, 5, 6, 7, 8, 9, 10, 11, 12, 13, 14, 15, 16, 17, 18, 19, 20, 21, 22, 23]) (isR := []) (isB := [0, 1, 2, 3, 4, 5, 6, 7, 8, 9, 10, 11, 12, 13, 14, 15, 16, 17, 18, 19, 20, 21, 22, 23]) (ws' := W_F cI cV vf a x) ⟨([] : List Nat).filterMap (fun i : Nat => (W_F cI cV vf a x : va_W)[i]?), rfl, rfl, rfl, rfl, by decide, rfl, rfl⟩ 0 6 rfl rfl rfl rfl hl.1 rfl (Nat.le_of_ble_eq_true rfl) dX7_needTypeOrAbsent_2 ⟨Nat.le_of_ble_eq_true rfl, Nat.le_of_ble_eq_true rfl⟩ (fun H locs hP hD hS => ?_)
    try dsimp only at hf
    refine W.eq (g2 := F0 m 5 ls [.int u1]) rfl ?_
    refine lv_if_eq (tgt := 14) hx hb dX7_needTypeOrAbsent_5 (by decide) (fun c3 => ?_) (fun c3 => ?_)
    · replace hf := if_t c3 hf
      obtain rfl := Option.some.inj hf
      refine W.widen (k := 1) (n := 6) (Nat.le_of_ble_eq_true rfl) (Nat.le_of_ble_eq_true rfl) ?_
      refine vx_ret ?_
      exact W.vret hx hb hr (fun t ht hW => ⟨_, rfl, ⟨rfl, by rw [ht]; exact hP, va_K.moved hW.alike hK, hD, hS.F ht⟩⟩) hS.2.2 dX7_needTypeOrAbsent_14 hlocks
    · replace hf := if_f c3 hf
      refine lv_aload_n hx hb dX7_needTypeOrAbsent_8 rfl (lv_at hl 0 rfl) ?_
      refine lv_iload_n hx hb dX7_needTypeOrAbsent_9 rfl (lv_at hl 1 rfl) ?_
      refine lv_iload_n hx hb dX7_needTypeOrAbsent_10 rfl (lv_at hl 2 rfl) ?_
      obtain ⟨u4, hc5, hf⟩ := bind_t hf
      refine k_VX (As := [.int p1, .int p2]) (rest := []) (n := 2) ⟨hx, hb, hml, hown, hts⟩ (met_X7_needType l hlt k vf a hvf x p1 p2 u4 hc5) w373 w375 ws8 w1 w376 ⟨rfl, by decide +kernel, by decide +kernel, by decide +kernel⟩ ⟨Nat.le_of_ble_eq_true rfl, Nat.le_of_ble_eq_true rfl⟩ hK hE hP hD hS hA (isC := [0, 1, 2, 3, 4, 5, 6, 7, 8, 9, 10, 11, 12, 13, 14, 15, 16, 17, 18, 19, 20, 21, 22, 23]) (isR := []) (isB := [0, 1, 2, 3, 4, 5, 6, 7, 8, 9, 10, 11, 12, 13, 14, 15, 16, 17, 18, 19, 20, 21, 22, 23]) (ws' := W_F cI cV vf a x) ⟨([] : List Nat).filterMap (fun i : Nat => (W_F cI cV vf a x : va_W)[i]?), rfl, rfl, rfl, rfl, by decide, rfl, rfl⟩ 0 6 rfl rfl rfl rfl hl.1 rfl (Nat.le_of_ble_eq_true rfl) dX7_needTypeOrAbsent_11 ⟨Nat.le_of_ble_eq_true rfl, Nat.le_of_ble_eq_true rfl⟩ (fun E ce q9 H locs h8 hP hD hS hce hcv hcl => ?_) (fun rv9 H locs h8 hP hD hS => ?_)
      · obtain ⟨k6, hq9, hE9⟩ := rsV_x h8
        replace hf := thr_x hf hq9
        obtain rfl := Option.some.inj hf
        exact k_out htab hlocks hce hcv hcl (by rw [hE9]; rfl) hK hP hD hS (Nat.le_of_ble_eq_true rfl) (Nat.le_of_ble_eq_true rfl)
      obtain ⟨r7, hq9, rfl⟩ := rsV_v h8
      replace hf := thr_v hf hq9
      refine W.eq (g2 := F0 m 14 ls []) rfl ?_
      obtain rfl := Option.some.inj hf
      refine vx_ret ?_
      exact W.vret hx hb hr (fun t ht hW => ⟨_, rfl, ⟨rfl, by rw [ht]; exact hP, va_K.moved hW.alike hK, hD, hS.F ht⟩⟩) hS.2.2 dX7_needTypeOrAbsent_14 hlocks
  exact M0 s.heap [] ls hf hP hD hS hl
/-! Compactforms.sizeNow(I)I -/
def fX7_sizeNow (k : Nat) (x : FSt) (p1 : Int32) : Option (Int32) := (fX7_isThere k x p1).bind (fun u1 => (if u1 = 0 then some 0 else chk (keyok p1 k) ((fX6_count (fV x)).bind (fun u5 => some u5))))
set_option maxHeartbeats 4000000 in
set_option maxRecDepth 100000 in
theorem met_X7_sizeNow {D : va_G} {cI cV cJ cD : ClassId} (l : Launch) (k : Nat) (vf : Nat → Option Nat) (a : Nat → Nat) (hvf : vf k = some (a 6)) (x : FSt) (p1 : Int32) (res : Int32) (hf : fX7_sizeNow k x p1 = some res) : MM l yX7_sizeNow cX7_sizeNow 2 (some .int) { frames := 2, cells := 0, slots := 0, locals := 42 } D (TY cI cV cJ cD) (W_F cI cV vf a x) (W_F cI cV vf a x) [.ref (a 0), .int p1] (some (.int res)) := by
  intro sz
  refine Met.ofW (cc := cX7_sizeNow) (maxL := 2) (ret := (some .int)) (by decide +kernel) rfl ?_
  intro p e s m args below meth c s₁ B hml hv
  obtain ⟨rfl, hsz, hP, hK, hD0, hE⟩ := hv
  have hx := B.exec
  have hb := B.bytes
  have hr := B.returns
  have hts := atoms_spec (ws := .code yX7_sizeNow cX7_sizeNow 2 (some .int) :: GW) B.pre
  have hg : ∀ w ∈ GW, w.before (([.ref (a 0), .int p1] : List Value).toArray) s = true := fun w h => hts w (List.mem_cons_of_mem _ h)
  have hown : s.vm.findClass RX7 = some m.cls := findClass_of_methodNamed B.named
  have hlocks := B.notSynchronized
  subst hsz
  have hD := hD0.self (sz := s.heap.size)
  generalize hAe : va_A (W_F cI cV vf a x) s.heap.size = A at hD hE ⊢
  have hA : ∀ q : Nat, s.heap.size ≤ q → A q := fun q h => by rw [← hAe]; exact Or.inr h
  have hS : va_S A s.heap s.heap [] := va_S.rf
  have hl := lv_entry ([.ref (a 0), .int p1]) (n := 2) (Nat.le_of_ble_eq_true rfl)
  rw [lg_entry_eq]
  generalize (lg_sl ([.ref (a 0), .int p1]) ++ List.replicate (2 - (lg_sl ([.ref (a 0), .int p1])).length) Slot.unset).toArray = ls at hl ⊢
  have hl : lv_has ls 2 [(0, .ref (a 0)), (1, .int p1)] := hl
  have M0 : ∀ (H : Heap) (locs : List Loc) (ls : Array Slot), fX7_sizeNow k x p1 = some res → va_P D vwCl (W_F cI cV vf a x) H → va_D A (W_F cI cV vf a x) → va_S A s.heap H locs → lv_has ls 2 [(0, .ref (a 0)), (1, .int p1)] → W p l e ({ frames := 2, cells := 0, slots := 0, locals := 42 } : Room) s m ([.ref (a 0), .int p1] : List Value).toArray below meth c H locs 0 0 (MQ below (QW D (TY cI cV cJ cD) (W_F cI cV vf a x) A (some (.int res))) (([.ref (a 0), .int p1] : List Value).toArray) s 0 0 A) (F0 m 0 ls []) := by
    intro H locs ls hf hP hD hS hl
    dsimp only [fX7_sizeNow] at hf
    refine lv_aload_n hx hb dX7_sizeNow_0 rfl (lv_at hl 0 rfl) ?_
    refine lv_iload_n hx hb dX7_sizeNow_1 rfl (lv_at hl 1 rfl) ?_
    obtain ⟨u1, hc2, hf⟩ := bind_t hf
    refine k_V (As := [.int p1]) (rest := []) (n := 1) ⟨hx, hb, hml, hown, hts⟩ (met_X7_isThere l k vf a hvf x p1 u1 hc2) w290 w292 ws2 w1 w293 ⟨rfl, by decide +kernel, by decide +kernel, by decide +kernel⟩ ⟨Nat.le_of_ble_eq_true rfl, Nat.le_of_ble_eq_true rfl⟩ hK hE hP hD hS hA (isC := [0, 1, 2, 3, 4, 5, 6, 7, 8, 9, 10, 11, 12, 13, 14, 15, 16, 17, 18, 19, 20, 21, 22, 23]) (isR := []) (isB := [0, 1, 2, 3, 4, 5, 6, 7, 8, 9, 10, 11, 12, 13, 14, 15, 16, 17, 18, 19, 20, 21, 22, 23]) (ws' := W_F cI cV vf a x) ⟨([] : List Nat).filterMap (fun i : Nat => (W_F cI cV vf a x : va_W)[i]?), rfl, rfl, rfl, rfl, by decide, rfl, rfl⟩ 0 6 rfl rfl rfl rfl hl.1 rfl (Nat.le_of_ble_eq_true rfl) dX7_sizeNow_2 ⟨Nat.le_of_ble_eq_true rfl, Nat.le_of_ble_eq_true rfl⟩ (fun H locs hP hD hS => ?_)
    try dsimp only at hf
    refine W.eq (g2 := F0 m 5 ls [.int u1]) rfl ?_
    refine lv_if_eq (tgt := 20) hx hb dX7_sizeNow_5 (by decide) (fun c3 => ?_) (fun c3 => ?_)
    · replace hf := if_t c3 hf
      refine lv_iconst (v := 0) hx hb dX7_sizeNow_20 (by decide) ?_
      obtain rfl := Option.some.inj hf
      exact W.iret (v := 0) hx hb hr (fun t ht hW => ⟨rfl, by rw [ht]; exact hP, va_K.moved hW.alike hK, hD, hS.F ht⟩) hS.2.2 dX7_sizeNow_21 hlocks
    · replace hf := if_f c3 hf
      refine lv_aload_n hx hb dX7_sizeNow_8 rfl (lv_at hl 0 rfl) ?_
      refine va_get (D := D) (ci := 6) (v := .ref (a 1)) (C := RX7) (T := TX7) (N := 8) hx hb hg in_X7 hown hK hP 0 rfl rfl 0 (by decide) (hg _ w167) (fun _ h9 => h9) rfl dX7_sizeNow_9 ?_
      refine lv_iload_n hx hb dX7_sizeNow_12 rfl (lv_at hl 1 rfl) ?_
      obtain ⟨hi4, hf⟩ := chk_t hf
      refine va_aldq hx hb hK hP 1 1 rfl rfl (keyok_i hi4) dX7_sizeNow_13 ?_
      refine W.eq (g2 := F0 m 14 ls [.ref (a 6)]) (by rw [keyok_k hi4, hvf]; rfl) ?_
      obtain ⟨u5, hc6, hf⟩ := bind_t hf
      refine k_V (As := []) (rest := []) (n := 0) ⟨hx, hb, hml, hown, hts⟩ (met_X6_count l (fun j => a (6 + j)) (fV x) u5 hc6) w306 w307 w308 w3 w309 ⟨rfl, by decide +kernel, by decide +kernel, by decide +kernel⟩ ⟨Nat.le_of_ble_eq_true rfl, Nat.le_of_ble_eq_true rfl⟩ hK hE hP hD hS hA (isC := [6, 7, 8, 9, 10, 11, 12, 13, 14, 15, 16, 17, 18, 19, 20, 21, 22, 23]) (isR := [0, 1, 2, 3, 4, 5]) (isB := [0, 1, 2, 3, 4, 5, 6, 7, 8, 9, 10, 11, 12, 13, 14, 15, 16, 17, 18, 19, 20, 21, 22, 23]) (ws' := W_F cI cV vf a x) ⟨([0, 1, 2, 3, 4, 5] : List Nat).filterMap (fun i : Nat => (W_F cI cV vf a x : va_W)[i]?), rfl, rfl, rfl, rfl, by decide, rfl, rfl⟩ 6 5 rfl rfl rfl rfl hl.1 rfl (Nat.le_of_ble_eq_true rfl) dX7_sizeNow_14 ⟨Nat.le_of_ble_eq_true rfl, Nat.le_of_ble_eq_true rfl⟩ (fun H locs hP hD hS => ?_)
      try dsimp only at hf
      refine W.eq (g2 := F0 m 17 ls [.int u5]) rfl ?_
      refine lv_goto (tgt := 21) hx hb dX7_sizeNow_17 (by decide) ?_
      obtain rfl := Option.some.inj hf
      exact W.iret (v := u5) hx hb hr (fun t ht hW => ⟨rfl, by rw [ht]; exact hP, va_K.moved hW.alike hK, hD, hS.F ht⟩) hS.2.2 dX7_sizeNow_21 hlocks
  exact M0 s.heap [] ls hf hP hD hS hl
/-! Compactforms.needRoom(I)V -/
def fX7_needRoom (k : Nat) (x : FSt) (p1 : Int32) : Option ((Int32 ⊕ Nat)) := (fX7_sizeNow k x p1).bind (fun u1 => (if u1 < 40 then some (.inl 0) else some (.inr 2)))
set_option maxHeartbeats 4000000 in
set_option maxRecDepth 100000 in
theorem met_X7_needRoom {D : va_G} {cI cV cJ cD : ClassId} (l : Launch) (hlt : l.stackTraces = false) (k : Nat) (vf : Nat → Option Nat) (a : Nat → Nat) (hvf : vf k = some (a 6)) (x : FSt) (p1 : Int32) (res : (Int32 ⊕ Nat)) (hf : fX7_needRoom k x p1 = some res) : MX l yX7_needRoom cX7_needRoom 2 none { frames := 6, cells := 1, slots := 6, locals := 100 } D (TY cI cV cJ cD) (W_F cI cV vf a x) (W_F cI cV vf a x) [.ref (a 0), .int p1] (rsV res) := by
  intro sz
  refine vx_ofW (cc := cX7_needRoom) (maxL := 2) (ret := none) (by decide +kernel) rfl ?_
  intro p e s m args below meth c s₁ B hml htab hv
  obtain ⟨rfl, hsz, hP, hK, hD0, hE⟩ := hv
  have hx := B.exec
  have hb := B.bytes
  have hr := B.returns
  have hts := atoms_spec (ws := .code yX7_needRoom cX7_needRoom 2 none :: GW) B.pre
  have hg : ∀ w ∈ GW, w.before (([.ref (a 0), .int p1] : List Value).toArray) s = true := fun w h => hts w (List.mem_cons_of_mem _ h)
  have hown : s.vm.findClass RX7 = some m.cls := findClass_of_methodNamed B.named
  have hlocks := B.notSynchronized
  subst hsz
  have hD := hD0.self (sz := s.heap.size)
  generalize hAe : va_A (W_F cI cV vf a x) s.heap.size = A at hD hE ⊢
  have hA : ∀ q : Nat, s.heap.size ≤ q → A q := fun q h => by rw [← hAe]; exact Or.inr h
  have hS : va_S A s.heap s.heap [] := va_S.rf
  have hl := lv_entry ([.ref (a 0), .int p1]) (n := 2) (Nat.le_of_ble_eq_true rfl)
  rw [lg_entry_eq]
  generalize (lg_sl ([.ref (a 0), .int p1]) ++ List.replicate (2 - (lg_sl ([.ref (a 0), .int p1])).length) Slot.unset).toArray = ls at hl ⊢
  have hl : lv_has ls 2 [(0, .ref (a 0)), (1, .int p1)] := hl
  have M0 : ∀ (H : Heap) (locs : List Loc) (ls : Array Slot), fX7_needRoom k x p1 = some res → va_P D vwCl (W_F cI cV vf a x) H → va_D A (W_F cI cV vf a x) → va_S A s.heap H locs → lv_has ls 2 [(0, .ref (a 0)), (1, .int p1)] → W p l e ({ frames := 6, cells := 1, slots := 6, locals := 100 } : Room) s m ([.ref (a 0), .int p1] : List Value).toArray below meth c H locs 0 0 (vx_MQ below (QR D (TY cI cV cJ cD) (W_F cI cV vf a x) A (rsV res)) (XR D (TY cI cV cJ cD) (W_F cI cV vf a x) A (rsV res)) (([.ref (a 0), .int p1] : List Value).toArray) s 1 6 A) (F0 m 0 ls []) := by
    intro H locs ls hf hP hD hS hl
    dsimp only [fX7_needRoom] at hf
    refine lv_aload_n hx hb dX7_needRoom_0 rfl (lv_at hl 0 rfl) ?_
    refine lv_iload_n hx hb dX7_needRoom_1 rfl (lv_at hl 1 rfl) ?_
    obtain ⟨u1, hc2, hf⟩ := bind_t hf
    refine k_V (As := [.int p1]) (rest := []) (n := 1) ⟨hx, hb, hml, hown, hts⟩ (met_X7_sizeNow l k vf a hvf x p1 u1 hc2) w302 w304 ws3 w1 w305 ⟨rfl, by decide +kernel, by decide +kernel, by decide +kernel⟩ ⟨Nat.le_of_ble_eq_true rfl, Nat.le_of_ble_eq_true rfl⟩ hK hE hP hD hS hA (isC := [0, 1, 2, 3, 4, 5, 6, 7, 8, 9, 10, 11, 12, 13, 14, 15, 16, 17, 18, 19, 20, 21, 22, 23]) (isR := []) (isB := [0, 1, 2, 3, 4, 5, 6, 7, 8, 9, 10, 11, 12, 13, 14, 15, 16, 17, 18, 19, 20, 21, 22, 23]) (ws' := W_F cI cV vf a x) ⟨([] : List Nat).filterMap (fun i : Nat => (W_F cI cV vf a x : va_W)[i]?), rfl, rfl, rfl, rfl, by decide, rfl, rfl⟩ 0 6 rfl rfl rfl rfl hl.1 rfl (Nat.le_of_ble_eq_true rfl) dX7_needRoom_2 ⟨Nat.le_of_ble_eq_true rfl, Nat.le_of_ble_eq_true rfl⟩ (fun H locs hP hD hS => ?_)
    try dsimp only at hf
    refine W.eq (g2 := F0 m 5 ls [.int u1]) rfl ?_
    refine lv_bipush (v := 40) hx hb dX7_needRoom_5 (by decide) ?_
    refine lv_icmp_lt (tgt := 20) hx hb dX7_needRoom_7 (by decide) (fun c3 => ?_) (fun c3 => ?_)
    · replace hf := if_t c3 hf
      obtain rfl := Option.some.inj hf
      refine W.widen (k := 1) (n := 6) (Nat.le_of_ble_eq_true rfl) (Nat.le_of_ble_eq_true rfl) ?_
      refine vx_ret ?_
      exact W.vret hx hb hr (fun t ht hW => ⟨_, rfl, ⟨rfl, by rw [ht]; exact hP, va_K.moved hW.alike hK, hD, hS.F ht⟩⟩) hS.2.2 dX7_needRoom_20 hlocks
    · replace hf := if_f c3 hf
      obtain rfl := Option.some.inj hf
      exact k_throw hx hb hlt (own := RX7) (text := "no room in the value") hown (by decide +kernel) htab hlocks (hg _ w377) (hg _ w14) (hE.1.2.2.2.1 _ (List.mem_of_getElem? (i := 3) rfl)) (thr_at114 hg hE.1) thr_ok114_110 hE (by rw [hml]; exact hl.1) dX7_needRoom_10 dX7_needRoom_13 dX7_needRoom_14 dX7_needRoom_16 dX7_needRoom_19 (Nat.le_of_ble_eq_true rfl) (Nat.le_of_ble_eq_true rfl) (Nat.le_of_ble_eq_true rfl) (Nat.le_of_ble_eq_true rfl) rfl hK hP hD hS (Nat.le_of_ble_eq_true rfl) (Nat.le_of_ble_eq_true rfl)
  exact M0 s.heap [] ls hf hP hD hS hl
/-! Compactforms.needRowLeft()V -/
def fX7_needRowLeft (k : Nat) (x : FSt) : Option ((Int32 ⊕ Nat)) := (if (loN (fLog x)) < 300 then some (.inl 0) else some (.inr 2))
set_option maxHeartbeats 4000000 in
set_option maxRecDepth 100000 in
theorem met_X7_needRowLeft {D : va_G} {cI cV cJ cD : ClassId} (l : Launch) (hlt : l.stackTraces = false) (k : Nat) (vf : Nat → Option Nat) (a : Nat → Nat) (hvf : vf k = some (a 6)) (x : FSt) (res : (Int32 ⊕ Nat)) (hf : fX7_needRowLeft k x = some res) : MX l yX7_needRowLeft cX7_needRowLeft 1 none { frames := 6, cells := 1, slots := 6, locals := 100 } D (TY cI cV cJ cD) (W_F cI cV vf a x) (W_F cI cV vf a x) [.ref (a 0)] (rsV res) := by
  intro sz
  refine vx_ofW (cc := cX7_needRowLeft) (maxL := 1) (ret := none) (by decide +kernel) rfl ?_
  intro p e s m args below meth c s₁ B hml htab hv
  obtain ⟨rfl, hsz, hP, hK, hD0, hE⟩ := hv
  have hx := B.exec
  have hb := B.bytes
  have hr := B.returns
  have hts := atoms_spec (ws := .code yX7_needRowLeft cX7_needRowLeft 1 none :: GW) B.pre
  have hg : ∀ w ∈ GW, w.before (([.ref (a 0)] : List Value).toArray) s = true := fun w h => hts w (List.mem_cons_of_mem _ h)
  have hown : s.vm.findClass RX7 = some m.cls := findClass_of_methodNamed B.named
  have hlocks := B.notSynchronized
  subst hsz
  have hD := hD0.self (sz := s.heap.size)
  generalize hAe : va_A (W_F cI cV vf a x) s.heap.size = A at hD hE ⊢
  have hA : ∀ q : Nat, s.heap.size ≤ q → A q := fun q h => by rw [← hAe]; exact Or.inr h
  have hS : va_S A s.heap s.heap [] := va_S.rf
  have hl := lv_entry ([.ref (a 0)]) (n := 1) (Nat.le_of_ble_eq_true rfl)
  rw [lg_entry_eq]
  generalize (lg_sl ([.ref (a 0)]) ++ List.replicate (1 - (lg_sl ([.ref (a 0)])).length) Slot.unset).toArray = ls at hl ⊢
  have hl : lv_has ls 1 [(0, .ref (a 0))] := hl
  have M0 : ∀ (H : Heap) (locs : List Loc) (ls : Array Slot), fX7_needRowLeft k x = some res → va_P D vwCl (W_F cI cV vf a x) H → va_D A (W_F cI cV vf a x) → va_S A s.heap H locs → lv_has ls 1 [(0, .ref (a 0))] → W p l e ({ frames := 6, cells := 1, slots := 6, locals := 100 } : Room) s m ([.ref (a 0)] : List Value).toArray below meth c H locs 0 0 (vx_MQ below (QR D (TY cI cV cJ cD) (W_F cI cV vf a x) A (rsV res)) (XR D (TY cI cV cJ cD) (W_F cI cV vf a x) A (rsV res)) (([.ref (a 0)] : List Value).toArray) s 1 6 A) (F0 m 0 ls []) := by
    intro H locs ls hf hP hD hS hl
    dsimp only [fX7_needRowLeft] at hf
    refine lv_aload_n hx hb dX7_needRowLeft_0 rfl (lv_at hl 0 rfl) ?_
    refine va_get (D := D) (ci := 6) (v := .ref (a 2)) (C := RX7) (T := TX7) (N := 8) hx hb hg in_X7 hown hK hP 0 rfl rfl 1 (by decide) (hg _ w168) (fun _ h9 => h9) rfl dX7_needRowLeft_1 ?_
    refine va_getN (D := D) (ci := 2) (v := .int (loN (fLog x))) (C := RX3) (T := TX3) (N := 2) hx hb hg in_X3 hown hK hP 2 rfl rfl 1 (by decide) (nwF_123 hE.1) (fun _ h9 => h9) rfl dX7_needRowLeft_4 ?_
    refine lv_sipush (v := 300) hx hb dX7_needRowLeft_7 (by decide) ?_
    refine lv_icmp_lt (tgt := 23) hx hb dX7_needRowLeft_10 (by decide) (fun c1 => ?_) (fun c1 => ?_)
    · replace hf := if_t c1 hf
      obtain rfl := Option.some.inj hf
      refine W.widen (k := 1) (n := 6) (Nat.le_of_ble_eq_true rfl) (Nat.le_of_ble_eq_true rfl) ?_
      refine vx_ret ?_
      exact W.vret hx hb hr (fun t ht hW => ⟨_, rfl, ⟨rfl, by rw [ht]; exact hP, va_K.moved hW.alike hK, hD, hS.F ht⟩⟩) hS.2.2 dX7_needRowLeft_23 hlocks
    · replace hf := if_f c1 hf
      obtain rfl := Option.some.inj hf
      exact k_throw hx hb hlt (own := RX7) (text := "the log is full") hown (by decide +kernel) htab hlocks (hg _ w377) (hg _ w14) (hE.1.2.2.2.1 _ (List.mem_of_getElem? (i := 4) rfl)) (thr_at114 hg hE.1) thr_ok114_110 hE (by rw [hml]; exact hl.1) dX7_needRowLeft_13 dX7_needRowLeft_16 dX7_needRowLeft_17 dX7_needRowLeft_19 dX7_needRowLeft_22 (Nat.le_of_ble_eq_true rfl) (Nat.le_of_ble_eq_true rfl) (Nat.le_of_ble_eq_true rfl) (Nat.le_of_ble_eq_true rfl) rfl hK hP hD hS (Nat.le_of_ble_eq_true rfl) (Nat.le_of_ble_eq_true rfl)
  exact M0 s.heap [] ls hf hP hD hS hl
/-! Compactforms.makeIfAbsent(LCompactforms$Value;I)V -/
def fX7_makeIfAbsent (k : Nat) (x : FSt) (p2 : Int32) : Option (FSt) := (fX6_isThere (fV x) (fClk x)).bind (fun u1 => (if u1 = 0 then keep (fLvi_s x ((fLvi x) + 1)) (fun x4 => (fX6_make (fV x4) p2 (fLvi x4)).bind (fun u5 => keep (fV_s x4 u5) (fun x7 => some x7))) else some x))
set_option maxHeartbeats 4000000 in
set_option maxRecDepth 100000 in
theorem met_X7_makeIfAbsent {D : va_G} {cI cV cJ cD : ClassId} (l : Launch) (k : Nat) (vf : Nat → Option Nat) (a : Nat → Nat) (hvf : vf k = some (a 6)) (x : FSt) (p2 : Int32) (res : FSt) (hf : fX7_makeIfAbsent k x p2 = some res) : MM l yX7_makeIfAbsent cX7_makeIfAbsent 3 none { frames := 3, cells := 0, slots := 0, locals := 65 } D (TY cI cV cJ cD) (W_F cI cV vf a x) (W_F cI cV vf a res) [.ref (a 0), .ref (a 6), .int p2] none := by
  intro sz
  refine Met.ofW (cc := cX7_makeIfAbsent) (maxL := 3) (ret := none) (by decide +kernel) rfl ?_
  intro p e s m args below meth c s₁ B hml hv
  obtain ⟨rfl, hsz, hP, hK, hD0, hE⟩ := hv
  have hx := B.exec
  have hb := B.bytes
  have hr := B.returns
  have hts := atoms_spec (ws := .code yX7_makeIfAbsent cX7_makeIfAbsent 3 none :: GW) B.pre
  have hg : ∀ w ∈ GW, w.before (([.ref (a 0), .ref (a 6), .int p2] : List Value).toArray) s = true := fun w h => hts w (List.mem_cons_of_mem _ h)
  have hown : s.vm.findClass RX7 = some m.cls := findClass_of_methodNamed B.named
  have hlocks := B.notSynchronized
  subst hsz
  have hD := hD0.self (sz := s.heap.size)
  generalize hAe : va_A (W_F cI cV vf a x) s.heap.size = A at hD hE ⊢
  have hA : ∀ q : Nat, s.heap.size ≤ q → A q := fun q h => by rw [← hAe]; exact Or.inr h
  have hS : va_S A s.heap s.heap [] := va_S.rf
  have hl := lv_entry ([.ref (a 0), .ref (a 6), .int p2]) (n := 3) (Nat.le_of_ble_eq_true rfl)
  rw [lg_entry_eq]
  generalize (lg_sl ([.ref (a 0), .ref (a 6), .int p2]) ++ List.replicate (3 - (lg_sl ([.ref (a 0), .ref (a 6), .int p2])).length) Slot.unset).toArray = ls at hl ⊢
  have hl : lv_has ls 3 [(0, .ref (a 0)), (1, .ref (a 6)), (2, .int p2)] := hl
  have M0 : ∀ (H : Heap) (locs : List Loc) (ls : Array Slot), fX7_makeIfAbsent k x p2 = some res → va_P D vwCl (W_F cI cV vf a x) H → va_D A (W_F cI cV vf a x) → va_S A s.heap H locs → lv_has ls 3 [(0, .ref (a 0)), (1, .ref (a 6)), (2, .int p2)] → W p l e ({ frames := 3, cells := 0, slots := 0, locals := 65 } : Room) s m ([.ref (a 0), .ref (a 6), .int p2] : List Value).toArray below meth c H locs 0 0 (MQ below (QW D (TY cI cV cJ cD) (W_F cI cV vf a res) A none) (([.ref (a 0), .ref (a 6), .int p2] : List Value).toArray) s 0 0 A) (F0 m 0 ls []) := by
    intro H locs ls hf hP hD hS hl
    dsimp only [fX7_makeIfAbsent] at hf
    refine lv_aload_n hx hb dX7_makeIfAbsent_0 rfl (lv_at hl 1 rfl) ?_
    refine lv_aload_n hx hb dX7_makeIfAbsent_1 rfl (lv_at hl 0 rfl) ?_
    refine va_get (D := D) (ci := 6) (v := .int (fClk x)) (C := RX7) (T := TX7) (N := 8) hx hb hg in_X7 hown hK hP 0 rfl rfl 5 (by decide) (hg _ w172) (fun _ h9 => h9) rfl dX7_makeIfAbsent_2 ?_
    obtain ⟨u1, hc2, hf⟩ := bind_t hf
    refine k_V (As := [.int (fClk x)]) (rest := []) (n := 1) ⟨hx, hb, hml, hown, hts⟩ (met_X6_isThere l (fun j => a (6 + j)) (fV x) (fClk x) u1 hc2) w294 w295 w296 w3 w297 ⟨rfl, by decide +kernel, by decide +kernel, by decide +kernel⟩ ⟨Nat.le_of_ble_eq_true rfl, Nat.le_of_ble_eq_true rfl⟩ hK hE hP hD hS hA (isC := [6, 7, 8, 9, 10, 11, 12, 13, 14, 15, 16, 17, 18, 19, 20, 21, 22, 23]) (isR := [0, 1, 2, 3, 4, 5]) (isB := [0, 1, 2, 3, 4, 5, 6, 7, 8, 9, 10, 11, 12, 13, 14, 15, 16, 17, 18, 19, 20, 21, 22, 23]) (ws' := W_F cI cV vf a x) ⟨([0, 1, 2, 3, 4, 5] : List Nat).filterMap (fun i : Nat => (W_F cI cV vf a x : va_W)[i]?), rfl, rfl, rfl, rfl, by decide, rfl, rfl⟩ 6 5 rfl rfl rfl rfl hl.1 rfl (Nat.le_of_ble_eq_true rfl) dX7_makeIfAbsent_5 ⟨Nat.le_of_ble_eq_true rfl, Nat.le_of_ble_eq_true rfl⟩ (fun H locs hP hD hS => ?_)
    try dsimp only at hf
    refine W.eq (g2 := F0 m 8 ls [.int u1]) rfl ?_
    refine lv_if_ne (tgt := 30) hx hb dX7_makeIfAbsent_8 (by decide) (fun c3 => ?_) (fun c3 => ?_)
    · replace hf := if_f c3 hf
      obtain rfl := Option.some.inj hf
      exact W.vret hx hb hr (fun t ht hW => ⟨rfl, by rw [ht]; exact hP, va_K.moved hW.alike hK, hD, hS.F ht⟩) hS.2.2 dX7_makeIfAbsent_30 hlocks
    · replace hf := if_t c3 hf
      refine lv_aload_n hx hb dX7_makeIfAbsent_11 rfl (lv_at hl 0 rfl) ?_
      refine lv_dup hx hb dX7_makeIfAbsent_12 rfl ?_
      refine va_get (D := D) (ci := 6) (v := .int (fLvi x)) (C := RX7) (T := TX7) (N := 8) hx hb hg in_X7 hown hK hP 0 rfl rfl 7 (by decide) (hg _ w174) (fun _ h9 => h9) rfl dX7_makeIfAbsent_13 ?_
      refine lv_iconst (v := 1) hx hb dX7_makeIfAbsent_16 (by decide) ?_
      refine lv_iadd hx hb dX7_makeIfAbsent_17 ?_
      refine va_put (D := D) (ci := 6) (v := .int ((fLvi x) + 1)) (ty := .int) (C := RX7) (T := TX7) (N := 8) hx hb hg in_X7 tyX7 tyX7_ok nmX7 hown hK hP hD hS 0 rfl rfl 7 (by decide) (hg _ w174) (fun _ h9 => h9) rfl (by decide +kernel) rfl rfl (Nat.le_of_ble_eq_true rfl) dX7_makeIfAbsent_18 (fun H locs hP hD hS => ?_)
      obtain ⟨x4, hx4⟩ : ∃ z, z = (fLvi_s x ((fLvi x) + 1)) := ⟨_, rfl⟩
      replace hf := keep_e hf x4 hx4
      have hP : va_P D vwCl (W_F cI cV vf a x4) H := by rw [hx4]; exact hP
      have hD : va_D A (W_F cI cV vf a x4) := by rw [hx4]; exact hD
      refine lv_aload_n hx hb dX7_makeIfAbsent_21 rfl (lv_at hl 1 rfl) ?_
      refine lv_iload_n hx hb dX7_makeIfAbsent_22 rfl (lv_at hl 2 rfl) ?_
      refine lv_aload_n hx hb dX7_makeIfAbsent_23 rfl (lv_at hl 0 rfl) ?_
      refine va_get (D := D) (ci := 6) (v := .int (fLvi x4)) (C := RX7) (T := TX7) (N := 8) hx hb hg in_X7 hown hK hP 0 rfl rfl 7 (by decide) (hg _ w174) (fun _ h9 => h9) rfl dX7_makeIfAbsent_24 ?_
      obtain ⟨u5, hc6, hf⟩ := bind_t hf
      refine k_V (As := [.int p2, .int (fLvi x4)]) (rest := []) (n := 2) ⟨hx, hb, hml, hown, hts⟩ (met_X6_make l (fun j => a (6 + j)) (fV x4) p2 (fLvi x4) u5 hc6) w415 w416 w417 w3 w418 ⟨rfl, by decide +kernel, by decide +kernel, by decide +kernel⟩ ⟨Nat.le_of_ble_eq_true rfl, Nat.le_of_ble_eq_true rfl⟩ hK hE hP hD hS hA (isC := [6, 7, 8, 9, 10, 11, 12, 13, 14, 15, 16, 17, 18, 19, 20, 21, 22, 23]) (isR := [0, 1, 2, 3, 4, 5]) (isB := [0, 1, 2, 3, 4, 5, 6, 7, 8, 9, 10, 11, 12, 13, 14, 15, 16, 17, 18, 19, 20, 21, 22, 23]) (ws' := W_F cI cV vf a (fV_s x4 u5)) ⟨([0, 1, 2, 3, 4, 5] : List Nat).filterMap (fun i : Nat => (W_F cI cV vf a x4 : va_W)[i]?), rfl, rfl, rfl, rfl, by decide, rfl, rfl⟩ 6 5 rfl rfl rfl rfl hl.1 rfl (Nat.le_of_ble_eq_true rfl) dX7_makeIfAbsent_27 ⟨Nat.le_of_ble_eq_true rfl, Nat.le_of_ble_eq_true rfl⟩ (fun H locs hP hD hS => ?_)
      try dsimp only at hf
      refine W.eq (g2 := F0 m 30 ls []) rfl ?_
      obtain ⟨x7, hx7⟩ : ∃ z, z = (fV_s x4 u5) := ⟨_, rfl⟩
      replace hf := keep_e hf x7 hx7
      have hP : va_P D vwCl (W_F cI cV vf a x7) H := by rw [hx7]; exact hP
      have hD : va_D A (W_F cI cV vf a x7) := by rw [hx7]; exact hD
      obtain rfl := Option.some.inj hf
      exact W.vret hx hb hr (fun t ht hW => ⟨rfl, by rw [ht]; exact hP, va_K.moved hW.alike hK, hD, hS.F ht⟩) hS.2.2 dX7_makeIfAbsent_30 hlocks
  exact M0 s.heap [] ls hf hP hD hS hl
/-! Compactforms.perform(IIIII)I -/
def fX7_perform_239 (k : Nat) (x : FSt) (s0 : Int32) : Option (FSt × Int32) := (fX6_letGo (fV x) s0).bind (fun u1 => keep (fV_s x u1.1) (fun x3 => (if u1.2 = (-1) then some (x3, 0) else some (x3, 1))))
def fX7_perform_204 (k : Nat) (x : FSt) (v3 : Int32) (s0 : Int32) : Option (FSt × Int32) := (if s0 = (-1) then (fX4_countAhead 40 (vlPl (fV x)) v3 0).bind (fun u6 => (fX6_insert (fV x) u6 v3 0).bind (fun u8 => keep (fV_s x u8.1) (fun x10 => some (x10, u8.2)))) else some (x, 0))
def fX7_perform_138 (k : Nat) (x : FSt) (v3 : Int32) (v4 : Int32) (s0 : Int32) : Option (FSt × Int32) := (fX6_dropOut (fV x) s0).bind (fun u11 => keep (fV_s x u11) (fun x13 => (fX4_countAhead 40 (vlPl (fV x13)) v3 v4).bind (fun u14 => (fX6_insert (fV x13) u14 v3 v4).bind (fun u16 => keep (fV_s x13 u16.1) (fun x18 => some (x18, u14))))))
def fX7_perform_116 (k : Nat) (x : FSt) (s0 : Int32) : Option (FSt × Int32) := (fX6_letGo (fV x) s0).bind (fun u19 => keep (fV_s x u19.1) (fun x21 => some (x21, u19.2)))
def fX7_perform_92 (k : Nat) (x : FSt) (v3 : Int32) (s0 : Int32) : Option (FSt × Int32) := (fX6_insert (fV x) s0 v3 0).bind (fun u22 => keep (fV_s x u22.1) (fun x24 => some (x24, u22.2)))
def fX7_perform (k : Nat) (x : FSt) (p1 : Int32) (p2 : Int32) (p3 : Int32) (p4 : Int32) (p5 : Int32) : Option (FSt × Int32) := chk (keyok p2 k) ((if p1 = 1 then (fX7_makeIfAbsent k x 1).bind (fun u27 => keep u27 (fun x29 => (if p4 = 1 then (fX6_count (fV x29)).bind (fun u31 => fX7_perform_92 k x29 p3 u31) else fX7_perform_92 k x29 p3 0))) else (if p1 = 2 then (if p3 = 1 then (fX6_count (fV x)).bind (fun u35 => fX7_perform_116 k x (u35 - 1)) else fX7_perform_116 k x 0) else (if p1 = 3 then (fX7_makeIfAbsent k x 3).bind (fun u38 => keep u38 (fun x40 => sel (vlFm (fV x40)) ((fX4_placeOf 16 (vlSm (fV x40)) p3).bind (fun u42 => fX7_perform_138 k x40 p3 p4 u42)) ((fX0_placeOf (vlCh (fV x40)) p3).bind (fun u44 => fX7_perform_138 k x40 p3 p4 u44)) ((fX5_placeOf (vlTb (fV x40)) p3).bind (fun u46 => fX7_perform_138 k x40 p3 p4 u46)))) else (if p1 = 4 then (fX7_makeIfAbsent k x 4).bind (fun u49 => keep u49 (fun x51 => (fX6_count (fV x51)).bind (fun u52 => (fX6_insert (fV x51) u52 p3 0).bind (fun u54 => keep (fV_s x51 u54.1) (fun x56 => some (x56, u54.2)))))) else (if p1 = 5 then (fX7_makeIfAbsent k x 2).bind (fun u58 => keep u58 (fun x60 => sel (vlFm (fV x60)) ((fX4_placeOf 16 (vlSm (fV x60)) p3).bind (fun u62 => fX7_perform_204 k x60 p3 u62)) ((fX0_placeOf (vlCh (fV x60)) p3).bind (fun u64 => fX7_perform_204 k x60 p3 u64)) ((fX5_placeOf (vlTb (fV x60)) p3).bind (fun u66 => fX7_perform_204 k x60 p3 u66)))) else (if p1 = 6 then sel (vlFm (fV x)) ((fX4_placeOf 16 (vlSm (fV x)) p3).bind (fun u70 => fX7_perform_239 k x u70)) ((fX0_placeOf (vlCh (fV x)) p3).bind (fun u72 => fX7_perform_239 k x u72)) ((fX5_placeOf (vlTb (fV x)) p3).bind (fun u74 => fX7_perform_239 k x u74)) else (if p1 = 7 then (fX6_removeIfThere (fV x) (fClk x)).bind (fun u77 => keep (fV_s x u77.1) (fun x79 => some (x79, u77.2))) else (if p1 = 8 then (fX6_endIfThere (fV x) (fClk x) p3).bind (fun u81 => keep (fV_s x u81.1) (fun x83 => some (x83, u81.2))) else (if p1 = 9 then (fX6_count (fV x)).bind (fun u85 => (fX2_giveNext (vlGr (fV x)) p3 p4 u85 (fClk x)).bind (fun u87 => keep (fV_s x (vlGr_s (fV x) u87.1)) (fun x89 => some (x89, u87.2)))) else (if p1 = 10 then (fX2_finish (vlGr (fV x)) p3 p4).bind (fun u91 => keep (fV_s x (vlGr_s (fV x) u91.1)) (fun x93 => some (x93, u91.2))) else (if p1 = 11 then (fX2_moveTo (vlGr (fV x)) p3 p4 p5 (fClk x)).bind (fun u95 => keep (fV_s x (vlGr_s (fV x) u95.1)) (fun x97 => some (x97, u95.2))) else some (x, (-1))))))))))))))
set_option maxHeartbeats 4000000 in
set_option maxRecDepth 100000 in
theorem met_X7_perform {D : va_G} {cI cV cJ cD : ClassId} (l : Launch) (k : Nat) (vf : Nat → Option Nat) (a : Nat → Nat) (hvf : vf k = some (a 6)) (x : FSt) (p1 : Int32) (p2 : Int32) (p3 : Int32) (p4 : Int32) (p5 : Int32) (res : FSt × Int32) (hf : fX7_perform k x p1 p2 p3 p4 p5 = some res) : MM l yX7_perform cX7_perform 8 (some .int) { frames := 4, cells := 0, slots := 0, locals := 127 } D (TY cI cV cJ cD) (W_F cI cV vf a x) (W_F cI cV vf a res.1) [.ref (a 0), .int p1, .int p2, .int p3, .int p4, .int p5] (some (.int res.2)) := by
  intro sz
  refine Met.ofW (cc := cX7_perform) (maxL := 8) (ret := (some .int)) (by decide +kernel) rfl ?_
  intro p e s m args below meth c s₁ B hml hv
  obtain ⟨rfl, hsz, hP, hK, hD0, hE⟩ := hv
  have hx := B.exec
  have hb := B.bytes
  have hr := B.returns
  have hts := atoms_spec (ws := .code yX7_perform cX7_perform 8 (some .int) :: GW) B.pre
  have hg : ∀ w ∈ GW, w.before (([.ref (a 0), .int p1, .int p2, .int p3, .int p4, .int p5] : List Value).toArray) s = true := fun w h => hts w (List.mem_cons_of_mem _ h)
  have hown : s.vm.findClass RX7 = some m.cls := findClass_of_methodNamed B.named
  have hlocks := B.notSynchronized
  subst hsz
  have hD := hD0.self (sz := s.heap.size)
  generalize hAe : va_A (W_F cI cV vf a x) s.heap.size = A at hD hE ⊢
  have hA : ∀ q : Nat, s.heap.size ≤ q → A q := fun q h => by rw [← hAe]; exact Or.inr h
  have hS : va_S A s.heap s.heap [] := va_S.rf
  have hl := lv_entry ([.ref (a 0), .int p1, .int p2, .int p3, .int p4, .int p5]) (n := 8) (Nat.le_of_ble_eq_true rfl)
  rw [lg_entry_eq]
  generalize (lg_sl ([.ref (a 0), .int p1, .int p2, .int p3, .int p4, .int p5]) ++ List.replicate (8 - (lg_sl ([.ref (a 0), .int p1, .int p2, .int p3, .int p4, .int p5])).length) Slot.unset).toArray = ls at hl ⊢
  have hl : lv_has ls 8 [(0, .ref (a 0)), (1, .int p1), (2, .int p2), (3, .int p3), (4, .int p4), (5, .int p5)] := hl
  have L239 : ∀ (x : FSt) (s0 : Int32) (H : Heap) (locs : List Loc) (ls : Array Slot), fX7_perform_239 k x s0  = some res → va_P D vwCl (W_F cI cV vf a x) H → va_D A (W_F cI cV vf a x) → va_S A s.heap H locs → lv_has ls 8 [] → W p l e ({ frames := 4, cells := 0, slots := 0, locals := 127 } : Room) s m ([.ref (a 0), .int p1, .int p2, .int p3, .int p4, .int p5] : List Value).toArray below meth c H locs 0 0 (MQ below (QW D (TY cI cV cJ cD) (W_F cI cV vf a res.1) A (some (.int res.2))) (([.ref (a 0), .int p1, .int p2, .int p3, .int p4, .int p5] : List Value).toArray) s 0 0 A) (F0 m 239 ls [.int s0, .ref (a 6)]) := by
    intro x s0 H locs ls hf hP hD hS hl
    dsimp only [fX7_perform_239] at hf
    obtain ⟨u1, hc2, hf⟩ := bind_t hf
    refine k_V (As := [.int s0]) (rest := []) (n := 1) ⟨hx, hb, hml, hown, hts⟩ (met_X6_letGo l (fun j => a (6 + j)) (fV x) s0 u1 hc2) w489 w490 w491 w3 w492 ⟨rfl, by decide +kernel, by decide +kernel, by decide +kernel⟩ ⟨Nat.le_of_ble_eq_true rfl, Nat.le_of_ble_eq_true rfl⟩ hK hE hP hD hS hA (isC := [6, 7, 8, 9, 10, 11, 12, 13, 14, 15, 16, 17, 18, 19, 20, 21, 22, 23]) (isR := [0, 1, 2, 3, 4, 5]) (isB := [0, 1, 2, 3, 4, 5, 6, 7, 8, 9, 10, 11, 12, 13, 14, 15, 16, 17, 18, 19, 20, 21, 22, 23]) (ws' := W_F cI cV vf a (fV_s x u1.1)) ⟨([0, 1, 2, 3, 4, 5] : List Nat).filterMap (fun i : Nat => (W_F cI cV vf a x : va_W)[i]?), rfl, rfl, rfl, rfl, by decide, rfl, rfl⟩ 6 5 rfl rfl rfl rfl hl.1 rfl (Nat.le_of_ble_eq_true rfl) dX7_perform_239 ⟨Nat.le_of_ble_eq_true rfl, Nat.le_of_ble_eq_true rfl⟩ (fun H locs hP hD hS => ?_)
    try dsimp only at hf
    refine W.eq (g2 := F0 m 242 ls [.int u1.2]) rfl ?_
    obtain ⟨x3, hx3⟩ : ∃ z, z = (fV_s x u1.1) := ⟨_, rfl⟩
    replace hf := keep_e hf x3 hx3
    have hP : va_P D vwCl (W_F cI cV vf a x3) H := by rw [hx3]; exact hP
    have hD : va_D A (W_F cI cV vf a x3) := by rw [hx3]; exact hD
    refine lv_iconst (v := (-1)) hx hb dX7_perform_242 (by decide) ?_
    refine lv_icmp_ne (tgt := 250) hx hb dX7_perform_243 (by decide) (fun c4 => ?_) (fun c4 => ?_)
    · replace hf := if_f c4 hf
      refine lv_iconst (v := 1) hx hb dX7_perform_250 (by decide) ?_
      obtain rfl := Option.some.inj hf
      exact W.iret (v := 1) hx hb hr (fun t ht hW => ⟨rfl, by rw [ht]; exact hP, va_K.moved hW.alike hK, hD, hS.F ht⟩) hS.2.2 dX7_perform_251 hlocks
    · replace hf := if_t c4 hf
      refine lv_iconst (v := 0) hx hb dX7_perform_246 (by decide) ?_
      refine lv_goto (tgt := 251) hx hb dX7_perform_247 (by decide) ?_
      obtain rfl := Option.some.inj hf
      exact W.iret (v := 0) hx hb hr (fun t ht hW => ⟨rfl, by rw [ht]; exact hP, va_K.moved hW.alike hK, hD, hS.F ht⟩) hS.2.2 dX7_perform_251 hlocks
  have L204 : ∀ (x : FSt) (v3 : Int32) (s0 : Int32) (H : Heap) (locs : List Loc) (ls : Array Slot), fX7_perform_204 k x v3 s0  = some res → va_P D vwCl (W_F cI cV vf a x) H → va_D A (W_F cI cV vf a x) → va_S A s.heap H locs → lv_has ls 8 [(3, .int v3), (6, .ref (a 6))] → W p l e ({ frames := 4, cells := 0, slots := 0, locals := 127 } : Room) s m ([.ref (a 0), .int p1, .int p2, .int p3, .int p4, .int p5] : List Value).toArray below meth c H locs 0 0 (MQ below (QW D (TY cI cV cJ cD) (W_F cI cV vf a res.1) A (some (.int res.2))) (([.ref (a 0), .int p1, .int p2, .int p3, .int p4, .int p5] : List Value).toArray) s 0 0 A) (F0 m 204 ls [.int s0]) := by
    intro x v3 s0 H locs ls hf hP hD hS hl
    dsimp only [fX7_perform_204] at hf
    refine lv_iconst (v := (-1)) hx hb dX7_perform_204 (by decide) ?_
    refine lv_icmp_eq (tgt := 210) hx hb dX7_perform_205 (by decide) (fun c5 => ?_) (fun c5 => ?_)
    · replace hf := if_t c5 hf
      refine lv_aload hx hb dX7_perform_210 (lv_at hl 1 rfl) ?_
      refine lv_aload hx hb dX7_perform_212 (lv_at hl 1 rfl) ?_
      refine va_getN (D := D) (ci := 5) (v := .ref (a 18)) (C := RX6) (T := TX6) (N := 10) hx hb hg in_X6 hown hK hP 6 rfl rfl 7 (by decide) (nwF_157 hE.1) (fun _ h9 => h9) rfl dX7_perform_214 ?_
      refine lv_iload_n hx hb dX7_perform_217 rfl (lv_at hl 0 rfl) ?_
      refine lv_iconst (v := 0) hx hb dX7_perform_218 (by decide) ?_
      obtain ⟨u6, hc7, hf⟩ := bind_t hf
      refine k_V (As := [.int v3, .int 0]) (rest := [.ref (a 6)]) (n := 2) ⟨hx, hb, hml, hown, hts⟩ (met_X4_countAhead l 40 (fun j => a (18 + j)) (vlPl (fV x)) v3 0 u6 hc7) w525 w526 w527 w5 w528 ⟨rfl, by decide +kernel, by decide +kernel, by decide +kernel⟩ ⟨Nat.le_of_ble_eq_true rfl, Nat.le_of_ble_eq_true rfl⟩ hK hE hP hD hS hA (isC := [18, 19, 20]) (isR := [0, 1, 2, 3, 4, 5, 6, 7, 8, 9, 10, 11, 12, 13, 14, 15, 16, 17, 21, 22, 23]) (isB := [0, 1, 2, 3, 4, 5, 6, 7, 8, 9, 10, 11, 12, 13, 14, 15, 16, 17, 21, 22, 23, 18, 19, 20]) (ws' := W_F cI cV vf a x) ⟨([0, 1, 2, 3, 4, 5, 6, 7, 8, 9, 10, 11, 12, 13, 14, 15, 16, 17, 21, 22, 23] : List Nat).filterMap (fun i : Nat => (W_F cI cV vf a x : va_W)[i]?), rfl, rfl, rfl, rfl, by decide, rfl, rfl⟩ 18 3 rfl rfl rfl rfl hl.1 rfl (Nat.le_of_ble_eq_true rfl) dX7_perform_219 ⟨Nat.le_of_ble_eq_true rfl, Nat.le_of_ble_eq_true rfl⟩ (fun H locs hP hD hS => ?_)
      try dsimp only at hf
      refine W.eq (g2 := F0 m 222 ls [.int u6, .ref (a 6)]) rfl ?_
      refine lv_iload_n hx hb dX7_perform_222 rfl (lv_at hl 0 rfl) ?_
      refine lv_iconst (v := 0) hx hb dX7_perform_223 (by decide) ?_
      obtain ⟨u8, hc9, hf⟩ := bind_t hf
      refine k_V (As := [.int u6, .int v3, .int 0]) (rest := []) (n := 3) ⟨hx, hb, hml, hown, hts⟩ (met_X6_insert l (fun j => a (6 + j)) (fV x) u6 v3 0 u8 hc9) w430 w431 w432 w3 w433 ⟨rfl, by decide +kernel, by decide +kernel, by decide +kernel⟩ ⟨Nat.le_of_ble_eq_true rfl, Nat.le_of_ble_eq_true rfl⟩ hK hE hP hD hS hA (isC := [6, 7, 8, 9, 10, 11, 12, 13, 14, 15, 16, 17, 18, 19, 20, 21, 22, 23]) (isR := [0, 1, 2, 3, 4, 5]) (isB := [0, 1, 2, 3, 4, 5, 6, 7, 8, 9, 10, 11, 12, 13, 14, 15, 16, 17, 18, 19, 20, 21, 22, 23]) (ws' := W_F cI cV vf a (fV_s x u8.1)) ⟨([0, 1, 2, 3, 4, 5] : List Nat).filterMap (fun i : Nat => (W_F cI cV vf a x : va_W)[i]?), rfl, rfl, rfl, rfl, by decide, rfl, rfl⟩ 6 5 rfl rfl rfl rfl hl.1 rfl (Nat.le_of_ble_eq_true rfl) dX7_perform_224 ⟨Nat.le_of_ble_eq_true rfl, Nat.le_of_ble_eq_true rfl⟩ (fun H locs hP hD hS => ?_)
      try dsimp only at hf
      refine W.eq (g2 := F0 m 227 ls [.int u8.2]) rfl ?_
      obtain ⟨x10, hx10⟩ : ∃ z, z = (fV_s x u8.1) := ⟨_, rfl⟩
      replace hf := keep_e hf x10 hx10
      have hP : va_P D vwCl (W_F cI cV vf a x10) H := by rw [hx10]; exact hP
      have hD : va_D A (W_F cI cV vf a x10) := by rw [hx10]; exact hD
      obtain rfl := Option.some.inj hf
      exact W.iret (v := u8.2) hx hb hr (fun t ht hW => ⟨rfl, by rw [ht]; exact hP, va_K.moved hW.alike hK, hD, hS.F ht⟩) hS.2.2 dX7_perform_227 hlocks
    · replace hf := if_f c5 hf
      refine lv_iconst (v := 0) hx hb dX7_perform_208 (by decide) ?_
      obtain rfl := Option.some.inj hf
      exact W.iret (v := 0) hx hb hr (fun t ht hW => ⟨rfl, by rw [ht]; exact hP, va_K.moved hW.alike hK, hD, hS.F ht⟩) hS.2.2 dX7_perform_209 hlocks
  have L138 : ∀ (x : FSt) (v3 : Int32) (v4 : Int32) (s0 : Int32) (H : Heap) (locs : List Loc) (ls : Array Slot), fX7_perform_138 k x v3 v4 s0  = some res → va_P D vwCl (W_F cI cV vf a x) H → va_D A (W_F cI cV vf a x) → va_S A s.heap H locs → lv_has ls 8 [(3, .int v3), (4, .int v4), (6, .ref (a 6))] → W p l e ({ frames := 4, cells := 0, slots := 0, locals := 127 } : Room) s m ([.ref (a 0), .int p1, .int p2, .int p3, .int p4, .int p5] : List Value).toArray below meth c H locs 0 0 (MQ below (QW D (TY cI cV cJ cD) (W_F cI cV vf a res.1) A (some (.int res.2))) (([.ref (a 0), .int p1, .int p2, .int p3, .int p4, .int p5] : List Value).toArray) s 0 0 A) (F0 m 138 ls [.int s0, .ref (a 6)]) := by
    intro x v3 v4 s0 H locs ls hf hP hD hS hl
    dsimp only [fX7_perform_138] at hf
    obtain ⟨u11, hc12, hf⟩ := bind_t hf
    refine k_V (As := [.int s0]) (rest := []) (n := 1) ⟨hx, hb, hml, hown, hts⟩ (met_X6_dropOut l (fun j => a (6 + j)) (fV x) s0 u11 hc12) w524 w508 w509 w3 w510 ⟨rfl, by decide +kernel, by decide +kernel, by decide +kernel⟩ ⟨Nat.le_of_ble_eq_true rfl, Nat.le_of_ble_eq_true rfl⟩ hK hE hP hD hS hA (isC := [6, 7, 8, 9, 10, 11, 12, 13, 14, 15, 16, 17, 18, 19, 20, 21, 22, 23]) (isR := [0, 1, 2, 3, 4, 5]) (isB := [0, 1, 2, 3, 4, 5, 6, 7, 8, 9, 10, 11, 12, 13, 14, 15, 16, 17, 18, 19, 20, 21, 22, 23]) (ws' := W_F cI cV vf a (fV_s x u11)) ⟨([0, 1, 2, 3, 4, 5] : List Nat).filterMap (fun i : Nat => (W_F cI cV vf a x : va_W)[i]?), rfl, rfl, rfl, rfl, by decide, rfl, rfl⟩ 6 5 rfl rfl rfl rfl hl.1 rfl (Nat.le_of_ble_eq_true rfl) dX7_perform_138 ⟨Nat.le_of_ble_eq_true rfl, Nat.le_of_ble_eq_true rfl⟩ (fun H locs hP hD hS => ?_)
    try dsimp only at hf
    refine W.eq (g2 := F0 m 141 ls []) rfl ?_
    obtain ⟨x13, hx13⟩ : ∃ z, z = (fV_s x u11) := ⟨_, rfl⟩
    replace hf := keep_e hf x13 hx13
    have hP : va_P D vwCl (W_F cI cV vf a x13) H := by rw [hx13]; exact hP
    have hD : va_D A (W_F cI cV vf a x13) := by rw [hx13]; exact hD
    refine lv_aload hx hb dX7_perform_141 (lv_at hl 2 rfl) ?_
    refine va_getN (D := D) (ci := 5) (v := .ref (a 18)) (C := RX6) (T := TX6) (N := 10) hx hb hg in_X6 hown hK hP 6 rfl rfl 7 (by decide) (nwF_157 hE.1) (fun _ h9 => h9) rfl dX7_perform_143 ?_
    refine lv_iload_n hx hb dX7_perform_146 rfl (lv_at hl 0 rfl) ?_
    refine lv_iload hx hb dX7_perform_147 (lv_at hl 1 rfl) ?_
    obtain ⟨u14, hc15, hf⟩ := bind_t hf
    refine k_V (As := [.int v3, .int v4]) (rest := []) (n := 2) ⟨hx, hb, hml, hown, hts⟩ (met_X4_countAhead l 40 (fun j => a (18 + j)) (vlPl (fV x13)) v3 v4 u14 hc15) w525 w526 w527 w5 w528 ⟨rfl, by decide +kernel, by decide +kernel, by decide +kernel⟩ ⟨Nat.le_of_ble_eq_true rfl, Nat.le_of_ble_eq_true rfl⟩ hK hE hP hD hS hA (isC := [18, 19, 20]) (isR := [0, 1, 2, 3, 4, 5, 6, 7, 8, 9, 10, 11, 12, 13, 14, 15, 16, 17, 21, 22, 23]) (isB := [0, 1, 2, 3, 4, 5, 6, 7, 8, 9, 10, 11, 12, 13, 14, 15, 16, 17, 21, 22, 23, 18, 19, 20]) (ws' := W_F cI cV vf a x13) ⟨([0, 1, 2, 3, 4, 5, 6, 7, 8, 9, 10, 11, 12, 13, 14, 15, 16, 17, 21, 22, 23] : List Nat).filterMap (fun i : Nat => (W_F cI cV vf a x13 : va_W)[i]?), rfl, rfl, rfl, rfl, by decide, rfl, rfl⟩ 18 3 rfl rfl rfl rfl hl.1 rfl (Nat.le_of_ble_eq_true rfl) dX7_perform_149 ⟨Nat.le_of_ble_eq_true rfl, Nat.le_of_ble_eq_true rfl⟩ (fun H locs hP hD hS => ?_)
    try dsimp only at hf
    refine W.eq (g2 := F0 m 152 ls [.int u14]) rfl ?_
    refine lv_istore (lv' := [(7, .int u14), (3, .int v3), (4, .int v4), (6, .ref (a 6))]) hx hb dX7_perform_152 hl (by decide) rfl (fun ls hl => ?_)
    refine lv_aload hx hb dX7_perform_154 (lv_at hl 3 rfl) ?_
    refine lv_iload hx hb dX7_perform_156 (lv_at hl 0 rfl) ?_
    refine lv_iload_n hx hb dX7_perform_158 rfl (lv_at hl 1 rfl) ?_
    refine lv_iload hx hb dX7_perform_159 (lv_at hl 2 rfl) ?_
    obtain ⟨u16, hc17, hf⟩ := bind_t hf
    refine k_V (As := [.int u14, .int v3, .int v4]) (rest := []) (n := 3) ⟨hx, hb, hml, hown, hts⟩ (met_X6_insert l (fun j => a (6 + j)) (fV x13) u14 v3 v4 u16 hc17) w430 w431 w432 w3 w433 ⟨rfl, by decide +kernel, by decide +kernel, by decide +kernel⟩ ⟨Nat.le_of_ble_eq_true rfl, Nat.le_of_ble_eq_true rfl⟩ hK hE hP hD hS hA (isC := [6, 7, 8, 9, 10, 11, 12, 13, 14, 15, 16, 17, 18, 19, 20, 21, 22, 23]) (isR := [0, 1, 2, 3, 4, 5]) (isB := [0, 1, 2, 3, 4, 5, 6, 7, 8, 9, 10, 11, 12, 13, 14, 15, 16, 17, 18, 19, 20, 21, 22, 23]) (ws' := W_F cI cV vf a (fV_s x13 u16.1)) ⟨([0, 1, 2, 3, 4, 5] : List Nat).filterMap (fun i : Nat => (W_F cI cV vf a x13 : va_W)[i]?), rfl, rfl, rfl, rfl, by decide, rfl, rfl⟩ 6 5 rfl rfl rfl rfl hl.1 rfl (Nat.le_of_ble_eq_true rfl) dX7_perform_161 ⟨Nat.le_of_ble_eq_true rfl, Nat.le_of_ble_eq_true rfl⟩ (fun H locs hP hD hS => ?_)
    try dsimp only at hf
    refine W.eq (g2 := F0 m 164 ls [.int u16.2]) rfl ?_
    obtain ⟨x18, hx18⟩ : ∃ z, z = (fV_s x13 u16.1) := ⟨_, rfl⟩
    replace hf := keep_e hf x18 hx18
    have hP : va_P D vwCl (W_F cI cV vf a x18) H := by rw [hx18]; exact hP
    have hD : va_D A (W_F cI cV vf a x18) := by rw [hx18]; exact hD
    refine lv_pop hx hb dX7_perform_164 rfl ?_
    refine lv_iload hx hb dX7_perform_165 (lv_at hl 0 rfl) ?_
    obtain rfl := Option.some.inj hf
    exact W.iret (v := u14) hx hb hr (fun t ht hW => ⟨rfl, by rw [ht]; exact hP, va_K.moved hW.alike hK, hD, hS.F ht⟩) hS.2.2 dX7_perform_167 hlocks
  have L116 : ∀ (x : FSt) (s0 : Int32) (H : Heap) (locs : List Loc) (ls : Array Slot), fX7_perform_116 k x s0  = some res → va_P D vwCl (W_F cI cV vf a x) H → va_D A (W_F cI cV vf a x) → va_S A s.heap H locs → lv_has ls 8 [] → W p l e ({ frames := 4, cells := 0, slots := 0, locals := 127 } : Room) s m ([.ref (a 0), .int p1, .int p2, .int p3, .int p4, .int p5] : List Value).toArray below meth c H locs 0 0 (MQ below (QW D (TY cI cV cJ cD) (W_F cI cV vf a res.1) A (some (.int res.2))) (([.ref (a 0), .int p1, .int p2, .int p3, .int p4, .int p5] : List Value).toArray) s 0 0 A) (F0 m 116 ls [.int s0, .ref (a 6)]) := by
    intro x s0 H locs ls hf hP hD hS hl
    dsimp only [fX7_perform_116] at hf
    obtain ⟨u19, hc20, hf⟩ := bind_t hf
    refine k_V (As := [.int s0]) (rest := []) (n := 1) ⟨hx, hb, hml, hown, hts⟩ (met_X6_letGo l (fun j => a (6 + j)) (fV x) s0 u19 hc20) w489 w490 w491 w3 w492 ⟨rfl, by decide +kernel, by decide +kernel, by decide +kernel⟩ ⟨Nat.le_of_ble_eq_true rfl, Nat.le_of_ble_eq_true rfl⟩ hK hE hP hD hS hA (isC := [6, 7, 8, 9, 10, 11, 12, 13, 14, 15, 16, 17, 18, 19, 20, 21, 22, 23]) (isR := [0, 1, 2, 3, 4, 5]) (isB := [0, 1, 2, 3, 4, 5, 6, 7, 8, 9, 10, 11, 12, 13, 14, 15, 16, 17, 18, 19, 20, 21, 22, 23]) (ws' := W_F cI cV vf a (fV_s x u19.1)) ⟨([0, 1, 2, 3, 4, 5] : List Nat).filterMap (fun i : Nat => (W_F cI cV vf a x : va_W)[i]?), rfl, rfl, rfl, rfl, by decide, rfl, rfl⟩ 6 5 rfl rfl rfl rfl hl.1 rfl (Nat.le_of_ble_eq_true rfl) dX7_perform_116 ⟨Nat.le_of_ble_eq_true rfl, Nat.le_of_ble_eq_true rfl⟩ (fun H locs hP hD hS => ?_)
    try dsimp only at hf
    refine W.eq (g2 := F0 m 119 ls [.int u19.2]) rfl ?_
    obtain ⟨x21, hx21⟩ : ∃ z, z = (fV_s x u19.1) := ⟨_, rfl⟩
    replace hf := keep_e hf x21 hx21
    have hP : va_P D vwCl (W_F cI cV vf a x21) H := by rw [hx21]; exact hP
    have hD : va_D A (W_F cI cV vf a x21) := by rw [hx21]; exact hD
    obtain rfl := Option.some.inj hf
    exact W.iret (v := u19.2) hx hb hr (fun t ht hW => ⟨rfl, by rw [ht]; exact hP, va_K.moved hW.alike hK, hD, hS.F ht⟩) hS.2.2 dX7_perform_119 hlocks
  have L92 : ∀ (x : FSt) (v3 : Int32) (s0 : Int32) (H : Heap) (locs : List Loc) (ls : Array Slot), fX7_perform_92 k x v3 s0  = some res → va_P D vwCl (W_F cI cV vf a x) H → va_D A (W_F cI cV vf a x) → va_S A s.heap H locs → lv_has ls 8 [(3, .int v3)] → W p l e ({ frames := 4, cells := 0, slots := 0, locals := 127 } : Room) s m ([.ref (a 0), .int p1, .int p2, .int p3, .int p4, .int p5] : List Value).toArray below meth c H locs 0 0 (MQ below (QW D (TY cI cV cJ cD) (W_F cI cV vf a res.1) A (some (.int res.2))) (([.ref (a 0), .int p1, .int p2, .int p3, .int p4, .int p5] : List Value).toArray) s 0 0 A) (F0 m 92 ls [.int s0, .ref (a 6)]) := by
    intro x v3 s0 H locs ls hf hP hD hS hl
    dsimp only [fX7_perform_92] at hf
    refine lv_iload_n hx hb dX7_perform_92 rfl (lv_at hl 0 rfl) ?_
    refine lv_iconst (v := 0) hx hb dX7_perform_93 (by decide) ?_
    obtain ⟨u22, hc23, hf⟩ := bind_t hf
    refine k_V (As := [.int s0, .int v3, .int 0]) (rest := []) (n := 3) ⟨hx, hb, hml, hown, hts⟩ (met_X6_insert l (fun j => a (6 + j)) (fV x) s0 v3 0 u22 hc23) w430 w431 w432 w3 w433 ⟨rfl, by decide +kernel, by decide +kernel, by decide +kernel⟩ ⟨Nat.le_of_ble_eq_true rfl, Nat.le_of_ble_eq_true rfl⟩ hK hE hP hD hS hA (isC := [6, 7, 8, 9, 10, 11, 12, 13, 14, 15, 16, 17, 18, 19, 20, 21, 22, 23]) (isR := [0, 1, 2, 3, 4, 5]) (isB := [0, 1, 2, 3, 4, 5, 6, 7, 8, 9, 10, 11, 12, 13, 14, 15, 16, 17, 18, 19, 20, 21, 22, 23]) (ws' := W_F cI cV vf a (fV_s x u22.1)) ⟨([0, 1, 2, 3, 4, 5] : List Nat).filterMap (fun i : Nat => (W_F cI cV vf a x : va_W)[i]?), rfl, rfl, rfl, rfl, by decide, rfl, rfl⟩ 6 5 rfl rfl rfl rfl hl.1 rfl (Nat.le_of_ble_eq_true rfl) dX7_perform_94 ⟨Nat.le_of_ble_eq_true rfl, Nat.le_of_ble_eq_true rfl⟩ (fun H locs hP hD hS => ?_)
    try dsimp only at hf
    refine W.eq (g2 := F0 m 97 ls [.int u22.2]) rfl ?_
    obtain ⟨x24, hx24⟩ : ∃ z, z = (fV_s x u22.1) := ⟨_, rfl⟩
    replace hf := keep_e hf x24 hx24
    have hP : va_P D vwCl (W_F cI cV vf a x24) H := by rw [hx24]; exact hP
    have hD : va_D A (W_F cI cV vf a x24) := by rw [hx24]; exact hD
    obtain rfl := Option.some.inj hf
    exact W.iret (v := u22.2) hx hb hr (fun t ht hW => ⟨rfl, by rw [ht]; exact hP, va_K.moved hW.alike hK, hD, hS.F ht⟩) hS.2.2 dX7_perform_97 hlocks
  have M0 : ∀ (H : Heap) (locs : List Loc) (ls : Array Slot), fX7_perform k x p1 p2 p3 p4 p5 = some res → va_P D vwCl (W_F cI cV vf a x) H → va_D A (W_F cI cV vf a x) → va_S A s.heap H locs → lv_has ls 8 [(0, .ref (a 0)), (1, .int p1), (2, .int p2), (3, .int p3), (4, .int p4), (5, .int p5)] → W p l e ({ frames := 4, cells := 0, slots := 0, locals := 127 } : Room) s m ([.ref (a 0), .int p1, .int p2, .int p3, .int p4, .int p5] : List Value).toArray below meth c H locs 0 0 (MQ below (QW D (TY cI cV cJ cD) (W_F cI cV vf a res.1) A (some (.int res.2))) (([.ref (a 0), .int p1, .int p2, .int p3, .int p4, .int p5] : List Value).toArray) s 0 0 A) (F0 m 0 ls []) := by
    intro H locs ls hf hP hD hS hl
    dsimp only [fX7_perform] at hf
    refine lv_aload_n hx hb dX7_perform_0 rfl (lv_at hl 0 rfl) ?_
    refine va_get (D := D) (ci := 6) (v := .ref (a 1)) (C := RX7) (T := TX7) (N := 8) hx hb hg in_X7 hown hK hP 0 rfl rfl 0 (by decide) (hg _ w167) (fun _ h9 => h9) rfl dX7_perform_1 ?_
    refine lv_iload_n hx hb dX7_perform_4 rfl (lv_at hl 2 rfl) ?_
    obtain ⟨hi25, hf⟩ := chk_t hf
    refine va_aldq hx hb hK hP 1 1 rfl rfl (keyok_i hi25) dX7_perform_5 ?_
    refine W.eq (g2 := F0 m 6 ls [.ref (a 6)]) (by rw [keyok_k hi25, hvf]; rfl) ?_
    refine lv_astore (lv' := [(6, .ref (a 6)), (0, .ref (a 0)), (1, .int p1), (2, .int p2), (3, .int p3), (4, .int p4), (5, .int p5)]) hx hb dX7_perform_6 hl (by decide) rfl (fun ls hl => ?_)
    refine lv_iload_n hx hb dX7_perform_8 rfl (lv_at hl 2 rfl) ?_
    by_cases c26 : p1 = 1
    · replace hf := if_t c26 hf
      refine k_tsw (tgt := 68) hx hb dX7_perform_9 1 c26 (by decide) (by decide) rfl (by decide) ?_
      refine lv_aload_n hx hb dX7_perform_68 rfl (lv_at hl 1 rfl) ?_
      refine lv_aload hx hb dX7_perform_69 (lv_at hl 0 rfl) ?_
      refine lv_iconst (v := 1) hx hb dX7_perform_71 (by decide) ?_
      obtain ⟨u27, hc28, hf⟩ := bind_t hf
      refine k_V (As := [.ref (a 6), .int 1]) (rest := []) (n := 2) ⟨hx, hb, hml, hown, hts⟩ (met_X7_makeIfAbsent l k vf a hvf x 1 u27 hc28) w411 w413 ws13 w1 w414 ⟨rfl, by decide +kernel, by decide +kernel, by decide +kernel⟩ ⟨Nat.le_of_ble_eq_true rfl, Nat.le_of_ble_eq_true rfl⟩ hK hE hP hD hS hA (isC := [0, 1, 2, 3, 4, 5, 6, 7, 8, 9, 10, 11, 12, 13, 14, 15, 16, 17, 18, 19, 20, 21, 22, 23]) (isR := []) (isB := [0, 1, 2, 3, 4, 5, 6, 7, 8, 9, 10, 11, 12, 13, 14, 15, 16, 17, 18, 19, 20, 21, 22, 23]) (ws' := W_F cI cV vf a u27) ⟨([] : List Nat).filterMap (fun i : Nat => (W_F cI cV vf a x : va_W)[i]?), rfl, rfl, rfl, rfl, by decide, rfl, rfl⟩ 0 6 rfl rfl rfl rfl hl.1 rfl (Nat.le_of_ble_eq_true rfl) dX7_perform_72 ⟨Nat.le_of_ble_eq_true rfl, Nat.le_of_ble_eq_true rfl⟩ (fun H locs hP hD hS => ?_)
      try dsimp only at hf
      refine W.eq (g2 := F0 m 75 ls []) rfl ?_
      obtain ⟨x29, hx29⟩ : ∃ z, z = u27 := ⟨_, rfl⟩
      replace hf := keep_e hf x29 hx29
      have hP : va_P D vwCl (W_F cI cV vf a x29) H := by rw [hx29]; exact hP
      have hD : va_D A (W_F cI cV vf a x29) := by rw [hx29]; exact hD
      refine lv_aload hx hb dX7_perform_75 (lv_at hl 0 rfl) ?_
      refine lv_iload hx hb dX7_perform_77 (lv_at hl 5 rfl) ?_
      refine lv_iconst (v := 1) hx hb dX7_perform_79 (by decide) ?_
      refine lv_icmp_ne (tgt := 91) hx hb dX7_perform_80 (by decide) (fun c30 => ?_) (fun c30 => ?_)
      · replace hf := if_f c30 hf
        refine lv_iconst (v := 0) hx hb dX7_perform_91 (by decide) ?_
        exact L92 x29 p3 0 H locs ls hf hP hD hS (lv_sub hl [4] rfl)
      · replace hf := if_t c30 hf
        refine lv_aload hx hb dX7_perform_83 (lv_at hl 0 rfl) ?_
        obtain ⟨u31, hc32, hf⟩ := bind_t hf
        refine k_V (As := []) (rest := [.ref (a 6)]) (n := 0) ⟨hx, hb, hml, hown, hts⟩ (met_X6_count l (fun j => a (6 + j)) (fV x29) u31 hc32) w306 w307 w308 w3 w309 ⟨rfl, by decide +kernel, by decide +kernel, by decide +kernel⟩ ⟨Nat.le_of_ble_eq_true rfl, Nat.le_of_ble_eq_true rfl⟩ hK hE hP hD hS hA (isC := [6, 7, 8, 9, 10, 11, 12, 13, 14, 15, 16, 17, 18, 19, 20, 21, 22, 23]) (isR := [0, 1, 2, 3, 4, 5]) (isB := [0, 1, 2, 3, 4, 5, 6, 7, 8, 9, 10, 11, 12, 13, 14, 15, 16, 17, 18, 19, 20, 21, 22, 23]) (ws' := W_F cI cV vf a x29) ⟨([0, 1, 2, 3, 4, 5] : List Nat).filterMap (fun i : Nat => (W_F cI cV vf a x29 : va_W)[i]?), rfl, rfl, rfl, rfl, by decide, rfl, rfl⟩ 6 5 rfl rfl rfl rfl hl.1 rfl (Nat.le_of_ble_eq_true rfl) dX7_perform_85 ⟨Nat.le_of_ble_eq_true rfl, Nat.le_of_ble_eq_true rfl⟩ (fun H locs hP hD hS => ?_)
        try dsimp only at hf
        refine W.eq (g2 := F0 m 88 ls [.int u31, .ref (a 6)]) rfl ?_
        refine lv_goto (tgt := 92) hx hb dX7_perform_88 (by decide) ?_
        exact L92 x29 p3 u31 H locs ls hf hP hD hS (lv_sub hl [4] rfl)
    replace hf := if_f c26 hf
    by_cases c33 : p1 = 2
    · replace hf := if_t c33 hf
      refine k_tsw (tgt := 98) hx hb dX7_perform_9 2 c33 (by decide) (by decide) rfl (by decide) ?_
      refine lv_aload hx hb dX7_perform_98 (lv_at hl 0 rfl) ?_
      refine lv_iload_n hx hb dX7_perform_100 rfl (lv_at hl 4 rfl) ?_
      refine lv_iconst (v := 1) hx hb dX7_perform_101 (by decide) ?_
      refine lv_icmp_ne (tgt := 115) hx hb dX7_perform_102 (by decide) (fun c34 => ?_) (fun c34 => ?_)
      · replace hf := if_f c34 hf
        refine lv_iconst (v := 0) hx hb dX7_perform_115 (by decide) ?_
        exact L116 x 0 H locs ls hf hP hD hS (lv_sub hl [] rfl)
      · replace hf := if_t c34 hf
        refine lv_aload hx hb dX7_perform_105 (lv_at hl 0 rfl) ?_
        obtain ⟨u35, hc36, hf⟩ := bind_t hf
        refine k_V (As := []) (rest := [.ref (a 6)]) (n := 0) ⟨hx, hb, hml, hown, hts⟩ (met_X6_count l (fun j => a (6 + j)) (fV x) u35 hc36) w306 w307 w308 w3 w309 ⟨rfl, by decide +kernel, by decide +kernel, by decide +kernel⟩ ⟨Nat.le_of_ble_eq_true rfl, Nat.le_of_ble_eq_true rfl⟩ hK hE hP hD hS hA (isC := [6, 7, 8, 9, 10, 11, 12, 13, 14, 15, 16, 17, 18, 19, 20, 21, 22, 23]) (isR := [0, 1, 2, 3, 4, 5]) (isB := [0, 1, 2, 3, 4, 5, 6, 7, 8, 9, 10, 11, 12, 13, 14, 15, 16, 17, 18, 19, 20, 21, 22, 23]) (ws' := W_F cI cV vf a x) ⟨([0, 1, 2, 3, 4, 5] : List Nat).filterMap (fun i : Nat => (W_F cI cV vf a x : va_W)[i]?), rfl, rfl, rfl, rfl, by decide, rfl, rfl⟩ 6 5 rfl rfl rfl rfl hl.1 rfl (Nat.le_of_ble_eq_true rfl) dX7_perform_107 ⟨Nat.le_of_ble_eq_true rfl, Nat.le_of_ble_eq_true rfl⟩ (fun H locs hP hD hS => ?_)
        try dsimp only at hf
        refine W.eq (g2 := F0 m 110 ls [.int u35, .ref (a 6)]) rfl ?_
        refine lv_iconst (v := 1) hx hb dX7_perform_110 (by decide) ?_
        refine lv_isub hx hb dX7_perform_111 ?_
        refine lv_goto (tgt := 116) hx hb dX7_perform_112 (by decide) ?_
        exact L116 x (u35 - 1) H locs ls hf hP hD hS (lv_sub hl [] rfl)
    replace hf := if_f c33 hf
    by_cases c37 : p1 = 3
    · replace hf := if_t c37 hf
      refine k_tsw (tgt := 120) hx hb dX7_perform_9 3 c37 (by decide) (by decide) rfl (by decide) ?_
      refine lv_aload_n hx hb dX7_perform_120 rfl (lv_at hl 1 rfl) ?_
      refine lv_aload hx hb dX7_perform_121 (lv_at hl 0 rfl) ?_
      refine lv_iconst (v := 3) hx hb dX7_perform_123 (by decide) ?_
      obtain ⟨u38, hc39, hf⟩ := bind_t hf
      refine k_V (As := [.ref (a 6), .int 3]) (rest := []) (n := 2) ⟨hx, hb, hml, hown, hts⟩ (met_X7_makeIfAbsent l k vf a hvf x 3 u38 hc39) w411 w413 ws13 w1 w414 ⟨rfl, by decide +kernel, by decide +kernel, by decide +kernel⟩ ⟨Nat.le_of_ble_eq_true rfl, Nat.le_of_ble_eq_true rfl⟩ hK hE hP hD hS hA (isC := [0, 1, 2, 3, 4, 5, 6, 7, 8, 9, 10, 11, 12, 13, 14, 15, 16, 17, 18, 19, 20, 21, 22, 23]) (isR := []) (isB := [0, 1, 2, 3, 4, 5, 6, 7, 8, 9, 10, 11, 12, 13, 14, 15, 16, 17, 18, 19, 20, 21, 22, 23]) (ws' := W_F cI cV vf a u38) ⟨([] : List Nat).filterMap (fun i : Nat => (W_F cI cV vf a x : va_W)[i]?), rfl, rfl, rfl, rfl, by decide, rfl, rfl⟩ 0 6 rfl rfl rfl rfl hl.1 rfl (Nat.le_of_ble_eq_true rfl) dX7_perform_124 ⟨Nat.le_of_ble_eq_true rfl, Nat.le_of_ble_eq_true rfl⟩ (fun H locs hP hD hS => ?_)
      try dsimp only at hf
      refine W.eq (g2 := F0 m 127 ls []) rfl ?_
      obtain ⟨x40, hx40⟩ : ∃ z, z = u38 := ⟨_, rfl⟩
      replace hf := keep_e hf x40 hx40
      have hP : va_P D vwCl (W_F cI cV vf a x40) H := by rw [hx40]; exact hP
      have hD : va_D A (W_F cI cV vf a x40) := by rw [hx40]; exact hD
      refine lv_aload hx hb dX7_perform_127 (lv_at hl 0 rfl) ?_
      refine lv_aload hx hb dX7_perform_129 (lv_at hl 0 rfl) ?_
      refine va_getN (D := D) (ci := 5) (v := .ref (a (6 + (vlFm (fV x40))))) (C := RX6) (T := TX6) (N := 10) hx hb hg in_X6 hown hK hP 6 rfl rfl 9 (by decide) (nwF_148 hE.1) (fun _ h9 => h9) rfl dX7_perform_131 ?_
      refine lv_iload_n hx hb dX7_perform_134 rfl (lv_at hl 4 rfl) ?_
      rcases sel_t hf with ⟨hq41, hf⟩ | ⟨hq41, hf⟩ | ⟨hq41, hf⟩
      · rw [hq41]
        obtain ⟨u42, hc43, hf⟩ := bind_t hf
        refine k_U (owner := "Compactforms$Form") (x := ⟨"Compactforms$Form", "placeOf", "(I)I"⟩) (As := [.int p3]) (rest := [.ref (a 6)]) (n := 1) ⟨hx, hb, hml, hown, hts⟩ (met_X4_placeOf l 16 (fun j => a (7 + j)) (vlSm (fV x40)) p3 u42 hc43) w340 w342 w346 w347 w5 w348 (hE.1.2.2.1 _ (List.mem_append_left _ (List.mem_of_getElem? (i := 4) rfl))) ⟨by decide +kernel, by decide +kernel, by decide +kernel⟩ ⟨Nat.le_of_ble_eq_true rfl, Nat.le_of_ble_eq_true rfl⟩ hK hE hP hD hS hA (isC := [7, 8, 9]) (isR := [0, 1, 2, 3, 4, 5, 6, 10, 11, 12, 13, 14, 15, 16, 17, 18, 19, 20, 21, 22, 23]) (isB := [0, 1, 2, 3, 4, 5, 6, 21, 22, 23, 7, 8, 9, 10, 11, 12, 13, 14, 15, 16, 17, 18, 19, 20]) (ws' := W_F cI cV vf a x40) ⟨([0, 1, 2, 3, 4, 5, 6, 10, 11, 12, 13, 14, 15, 16, 17, 18, 19, 20, 21, 22, 23] : List Nat).filterMap (fun i : Nat => (W_F cI cV vf a x40 : va_W)[i]?), rfl, rfl, rfl, rfl, by decide, rfl, rfl⟩ 7 3 rfl rfl rfl rfl hl.1 rfl (Nat.le_of_ble_eq_true rfl) dX7_perform_135 ⟨Nat.le_of_ble_eq_true rfl, Nat.le_of_ble_eq_true rfl⟩ (fun H locs hP hD hS => ?_)
        try dsimp only at hf
        refine W.eq (g2 := F0 m 138 ls [.int u42, .ref (a 6)]) rfl ?_
        exact L138 x40 p3 p4 u42 H locs ls hf hP hD hS (lv_sub hl [4, 5, 0] rfl)
      · rw [hq41]
        obtain ⟨u44, hc45, hf⟩ := bind_t hf
        refine k_U (owner := "Compactforms$Form") (x := ⟨"Compactforms$Form", "placeOf", "(I)I"⟩) (As := [.int p3]) (rest := [.ref (a 6)]) (n := 1) ⟨hx, hb, hml, hown, hts⟩ (met_X0_placeOf l (fun j => a (10 + j)) (vlCh (fV x40)) p3 u44 hc45) w340 w342 w343 w344 w6 w345 (hE.1.2.2.1 _ (List.mem_append_left _ (List.mem_of_getElem? (i := 4) rfl))) ⟨by decide +kernel, by decide +kernel, by decide +kernel⟩ ⟨Nat.le_of_ble_eq_true rfl, Nat.le_of_ble_eq_true rfl⟩ hK hE hP hD hS hA (isC := [10, 11, 12, 13]) (isR := [0, 1, 2, 3, 4, 5, 6, 7, 8, 9, 14, 15, 16, 17, 18, 19, 20, 21, 22, 23]) (isB := [0, 1, 2, 3, 4, 5, 6, 7, 8, 9, 20, 21, 22, 23, 10, 11, 12, 13, 14, 15, 16, 17, 18, 19]) (ws' := W_F cI cV vf a x40) ⟨([0, 1, 2, 3, 4, 5, 6, 7, 8, 9, 14, 15, 16, 17, 18, 19, 20, 21, 22, 23] : List Nat).filterMap (fun i : Nat => (W_F cI cV vf a x40 : va_W)[i]?), rfl, rfl, rfl, rfl, by decide, rfl, rfl⟩ 10 0 rfl rfl rfl rfl hl.1 rfl (Nat.le_of_ble_eq_true rfl) dX7_perform_135 ⟨Nat.le_of_ble_eq_true rfl, Nat.le_of_ble_eq_true rfl⟩ (fun H locs hP hD hS => ?_)
        try dsimp only at hf
        refine W.eq (g2 := F0 m 138 ls [.int u44, .ref (a 6)]) rfl ?_
        exact L138 x40 p3 p4 u44 H locs ls hf hP hD hS (lv_sub hl [4, 5, 0] rfl)
      · rw [hq41]
        obtain ⟨u46, hc47, hf⟩ := bind_t hf
        refine k_U (owner := "Compactforms$Form") (x := ⟨"Compactforms$Form", "placeOf", "(I)I"⟩) (As := [.int p3]) (rest := [.ref (a 6)]) (n := 1) ⟨hx, hb, hml, hown, hts⟩ (met_X5_placeOf l (fun j => a (14 + j)) (vlTb (fV x40)) p3 u46 hc47) w340 w342 w349 w350 w7 w351 (hE.1.2.2.1 _ (List.mem_append_left _ (List.mem_of_getElem? (i := 4) rfl))) ⟨by decide +kernel, by decide +kernel, by decide +kernel⟩ ⟨Nat.le_of_ble_eq_true rfl, Nat.le_of_ble_eq_true rfl⟩ hK hE hP hD hS hA (isC := [14, 15, 16, 17]) (isR := [0, 1, 2, 3, 4, 5, 6, 7, 8, 9, 10, 11, 12, 13, 18, 19, 20, 21, 22, 23]) (isB := [0, 1, 2, 3, 4, 5, 6, 7, 8, 9, 10, 11, 12, 13, 20, 21, 22, 23, 14, 15, 16, 17, 18, 19]) (ws' := W_F cI cV vf a x40) ⟨([0, 1, 2, 3, 4, 5, 6, 7, 8, 9, 10, 11, 12, 13, 18, 19, 20, 21, 22, 23] : List Nat).filterMap (fun i : Nat => (W_F cI cV vf a x40 : va_W)[i]?), rfl, rfl, rfl, rfl, by decide, rfl, rfl⟩ 14 4 rfl rfl rfl rfl hl.1 rfl (Nat.le_of_ble_eq_true rfl) dX7_perform_135 ⟨Nat.le_of_ble_eq_true rfl, Nat.le_of_ble_eq_true rfl⟩ (fun H locs hP hD hS => ?_)
        try dsimp only at hf
        refine W.eq (g2 := F0 m 138 ls [.int u46, .ref (a 6)]) rfl ?_
        exact L138 x40 p3 p4 u46 H locs ls hf hP hD hS (lv_sub hl [4, 5, 0] rfl)
    replace hf := if_f c37 hf
    by_cases c48 : p1 = 4
    · replace hf := if_t c48 hf
      refine k_tsw (tgt := 168) hx hb dX7_perform_9 4 c48 (by decide) (by decide) rfl (by decide) ?_
      refine lv_aload_n hx hb dX7_perform_168 rfl (lv_at hl 1 rfl) ?_
      refine lv_aload hx hb dX7_perform_169 (lv_at hl 0 rfl) ?_
      refine lv_iconst (v := 4) hx hb dX7_perform_171 (by decide) ?_
      obtain ⟨u49, hc50, hf⟩ := bind_t hf
      refine k_V (As := [.ref (a 6), .int 4]) (rest := []) (n := 2) ⟨hx, hb, hml, hown, hts⟩ (met_X7_makeIfAbsent l k vf a hvf x 4 u49 hc50) w411 w413 ws13 w1 w414 ⟨rfl, by decide +kernel, by decide +kernel, by decide +kernel⟩ ⟨Nat.le_of_ble_eq_true rfl, Nat.le_of_ble_eq_true rfl⟩ hK hE hP hD hS hA (isC := [0, 1, 2, 3, 4, 5, 6, 7, 8, 9, 10, 11, 12, 13, 14, 15, 16, 17, 18, 19, 20, 21, 22, 23]) (isR := []) (isB := [0, 1, 2, 3, 4, 5, 6, 7, 8, 9, 10, 11, 12, 13, 14, 15, 16, 17, 18, 19, 20, 21, 22, 23]) (ws' := W_F cI cV vf a u49) ⟨([] : List Nat).filterMap (fun i : Nat => (W_F cI cV vf a x : va_W)[i]?), rfl, rfl, rfl, rfl, by decide, rfl, rfl⟩ 0 6 rfl rfl rfl rfl hl.1 rfl (Nat.le_of_ble_eq_true rfl) dX7_perform_172 ⟨Nat.le_of_ble_eq_true rfl, Nat.le_of_ble_eq_true rfl⟩ (fun H locs hP hD hS => ?_)
      try dsimp only at hf
      refine W.eq (g2 := F0 m 175 ls []) rfl ?_
      obtain ⟨x51, hx51⟩ : ∃ z, z = u49 := ⟨_, rfl⟩
      replace hf := keep_e hf x51 hx51
      have hP : va_P D vwCl (W_F cI cV vf a x51) H := by rw [hx51]; exact hP
      have hD : va_D A (W_F cI cV vf a x51) := by rw [hx51]; exact hD
      refine lv_aload hx hb dX7_perform_175 (lv_at hl 0 rfl) ?_
      refine lv_aload hx hb dX7_perform_177 (lv_at hl 0 rfl) ?_
      obtain ⟨u52, hc53, hf⟩ := bind_t hf
      refine k_V (As := []) (rest := [.ref (a 6)]) (n := 0) ⟨hx, hb, hml, hown, hts⟩ (met_X6_count l (fun j => a (6 + j)) (fV x51) u52 hc53) w306 w307 w308 w3 w309 ⟨rfl, by decide +kernel, by decide +kernel, by decide +kernel⟩ ⟨Nat.le_of_ble_eq_true rfl, Nat.le_of_ble_eq_true rfl⟩ hK hE hP hD hS hA (isC := [6, 7, 8, 9, 10, 11, 12, 13, 14, 15, 16, 17, 18, 19, 20, 21, 22, 23]) (isR := [0, 1, 2, 3, 4, 5]) (isB := [0, 1, 2, 3, 4, 5, 6, 7, 8, 9, 10, 11, 12, 13, 14, 15, 16, 17, 18, 19, 20, 21, 22, 23]) (ws' := W_F cI cV vf a x51) ⟨([0, 1, 2, 3, 4, 5] : List Nat).filterMap (fun i : Nat => (W_F cI cV vf a x51 : va_W)[i]?), rfl, rfl, rfl, rfl, by decide, rfl, rfl⟩ 6 5 rfl rfl rfl rfl hl.1 rfl (Nat.le_of_ble_eq_true rfl) dX7_perform_179 ⟨Nat.le_of_ble_eq_true rfl, Nat.le_of_ble_eq_true rfl⟩ (fun H locs hP hD hS => ?_)
      try dsimp only at hf
      refine W.eq (g2 := F0 m 182 ls [.int u52, .ref (a 6)]) rfl ?_
      refine lv_iload_n hx hb dX7_perform_182 rfl (lv_at hl 4 rfl) ?_
      refine lv_iconst (v := 0) hx hb dX7_perform_183 (by decide) ?_
      obtain ⟨u54, hc55, hf⟩ := bind_t hf
      refine k_V (As := [.int u52, .int p3, .int 0]) (rest := []) (n := 3) ⟨hx, hb, hml, hown, hts⟩ (met_X6_insert l (fun j => a (6 + j)) (fV x51) u52 p3 0 u54 hc55) w430 w431 w432 w3 w433 ⟨rfl, by decide +kernel, by decide +kernel, by decide +kernel⟩ ⟨Nat.le_of_ble_eq_true rfl, Nat.le_of_ble_eq_true rfl⟩ hK hE hP hD hS hA (isC := [6, 7, 8, 9, 10, 11, 12, 13, 14, 15, 16, 17, 18, 19, 20, 21, 22, 23]) (isR := [0, 1, 2, 3, 4, 5]) (isB := [0, 1, 2, 3, 4, 5, 6, 7, 8, 9, 10, 11, 12, 13, 14, 15, 16, 17, 18, 19, 20, 21, 22, 23]) (ws' := W_F cI cV vf a (fV_s x51 u54.1)) ⟨([0, 1, 2, 3, 4, 5] : List Nat).filterMap (fun i : Nat => (W_F cI cV vf a x51 : va_W)[i]?), rfl, rfl, rfl, rfl, by decide, rfl, rfl⟩ 6 5 rfl rfl rfl rfl hl.1 rfl (Nat.le_of_ble_eq_true rfl) dX7_perform_184 ⟨Nat.le_of_ble_eq_true rfl, Nat.le_of_ble_eq_true rfl⟩ (fun H locs hP hD hS => ?_)
      try dsimp only at hf
      refine W.eq (g2 := F0 m 187 ls [.int u54.2]) rfl ?_
      obtain ⟨x56, hx56⟩ : ∃ z, z = (fV_s x51 u54.1) := ⟨_, rfl⟩
      replace hf := keep_e hf x56 hx56
      have hP : va_P D vwCl (W_F cI cV vf a x56) H := by rw [hx56]; exact hP
      have hD : va_D A (W_F cI cV vf a x56) := by rw [hx56]; exact hD
      obtain rfl := Option.some.inj hf
      exact W.iret (v := u54.2) hx hb hr (fun t ht hW => ⟨rfl, by rw [ht]; exact hP, va_K.moved hW.alike hK, hD, hS.F ht⟩) hS.2.2 dX7_perform_187 hlocks
    replace hf := if_f c48 hf
    by_cases c57 : p1 = 5
    · replace hf := if_t c57 hf
      refine k_tsw (tgt := 188) hx hb dX7_perform_9 5 c57 (by decide) (by decide) rfl (by decide) ?_
      refine lv_aload_n hx hb dX7_perform_188 rfl (lv_at hl 1 rfl) ?_
      refine lv_aload hx hb dX7_perform_189 (lv_at hl 0 rfl) ?_
      refine lv_iconst (v := 2) hx hb dX7_perform_191 (by decide) ?_
      obtain ⟨u58, hc59, hf⟩ := bind_t hf
      refine k_V (As := [.ref (a 6), .int 2]) (rest := []) (n := 2) ⟨hx, hb, hml, hown, hts⟩ (met_X7_makeIfAbsent l k vf a hvf x 2 u58 hc59) w411 w413 ws13 w1 w414 ⟨rfl, by decide +kernel, by decide +kernel, by decide +kernel⟩ ⟨Nat.le_of_ble_eq_true rfl, Nat.le_of_ble_eq_true rfl⟩ hK hE hP hD hS hA (isC := [0, 1, 2, 3, 4, 5, 6, 7, 8, 9, 10, 11, 12, 13, 14, 15, 16, 17, 18, 19, 20, 21, 22, 23]) (isR := []) (isB := [0, 1, 2, 3, 4, 5, 6, 7, 8, 9, 10, 11, 12, 13, 14, 15, 16, 17, 18, 19, 20, 21, 22, 23]) (ws' := W_F cI cV vf a u58) ⟨([] : List Nat).filterMap (fun i : Nat => (W_F cI cV vf a x : va_W)[i]?), rfl, rfl, rfl, rfl, by decide, rfl, rfl⟩ 0 6 rfl rfl rfl rfl hl.1 rfl (Nat.le_of_ble_eq_true rfl) dX7_perform_192 ⟨Nat.le_of_ble_eq_true rfl, Nat.le_of_ble_eq_true rfl⟩ (fun H locs hP hD hS => ?_)
      try dsimp only at hf
      refine W.eq (g2 := F0 m 195 ls []) rfl ?_
      obtain ⟨x60, hx60⟩ : ∃ z, z = u58 := ⟨_, rfl⟩
      replace hf := keep_e hf x60 hx60
      have hP : va_P D vwCl (W_F cI cV vf a x60) H := by rw [hx60]; exact hP
      have hD : va_D A (W_F cI cV vf a x60) := by rw [hx60]; exact hD
      refine lv_aload hx hb dX7_perform_195 (lv_at hl 0 rfl) ?_
      refine va_getN (D := D) (ci := 5) (v := .ref (a (6 + (vlFm (fV x60))))) (C := RX6) (T := TX6) (N := 10) hx hb hg in_X6 hown hK hP 6 rfl rfl 9 (by decide) (nwF_148 hE.1) (fun _ h9 => h9) rfl dX7_perform_197 ?_
      refine lv_iload_n hx hb dX7_perform_200 rfl (lv_at hl 4 rfl) ?_
      rcases sel_t hf with ⟨hq61, hf⟩ | ⟨hq61, hf⟩ | ⟨hq61, hf⟩
      · rw [hq61]
        obtain ⟨u62, hc63, hf⟩ := bind_t hf
        refine k_U (owner := "Compactforms$Form") (x := ⟨"Compactforms$Form", "placeOf", "(I)I"⟩) (As := [.int p3]) (rest := []) (n := 1) ⟨hx, hb, hml, hown, hts⟩ (met_X4_placeOf l 16 (fun j => a (7 + j)) (vlSm (fV x60)) p3 u62 hc63) w340 w342 w346 w347 w5 w348 (hE.1.2.2.1 _ (List.mem_append_left _ (List.mem_of_getElem? (i := 4) rfl))) ⟨by decide +kernel, by decide +kernel, by decide +kernel⟩ ⟨Nat.le_of_ble_eq_true rfl, Nat.le_of_ble_eq_true rfl⟩ hK hE hP hD hS hA (isC := [7, 8, 9]) (isR := [0, 1, 2, 3, 4, 5, 6, 10, 11, 12, 13, 14, 15, 16, 17, 18, 19, 20, 21, 22, 23]) (isB := [0, 1, 2, 3, 4, 5, 6, 21, 22, 23, 7, 8, 9, 10, 11, 12, 13, 14, 15, 16, 17, 18, 19, 20]) (ws' := W_F cI cV vf a x60) ⟨([0, 1, 2, 3, 4, 5, 6, 10, 11, 12, 13, 14, 15, 16, 17, 18, 19, 20, 21, 22, 23] : List Nat).filterMap (fun i : Nat => (W_F cI cV vf a x60 : va_W)[i]?), rfl, rfl, rfl, rfl, by decide, rfl, rfl⟩ 7 3 rfl rfl rfl rfl hl.1 rfl (Nat.le_of_ble_eq_true rfl) dX7_perform_201 ⟨Nat.le_of_ble_eq_true rfl, Nat.le_of_ble_eq_true rfl⟩ (fun H locs hP hD hS => ?_)
        try dsimp only at hf
        refine W.eq (g2 := F0 m 204 ls [.int u62]) rfl ?_
        exact L204 x60 p3 u62 H locs ls hf hP hD hS (lv_sub hl [4, 0] rfl)
      · rw [hq61]
        obtain ⟨u64, hc65, hf⟩ := bind_t hf
        refine k_U (owner := "Compactforms$Form") (x := ⟨"Compactforms$Form", "placeOf", "(I)I"⟩) (As := [.int p3]) (rest := []) (n := 1) ⟨hx, hb, hml, hown, hts⟩ (met_X0_placeOf l (fun j => a (10 + j)) (vlCh (fV x60)) p3 u64 hc65) w340 w342 w343 w344 w6 w345 (hE.1.2.2.1 _ (List.mem_append_left _ (List.mem_of_getElem? (i := 4) rfl))) ⟨by decide +kernel, by decide +kernel, by decide +kernel⟩ ⟨Nat.le_of_ble_eq_true rfl, Nat.le_of_ble_eq_true rfl⟩ hK hE hP hD hS hA (isC := [10, 11, 12, 13]) (isR := [0, 1, 2, 3, 4, 5, 6, 7, 8, 9, 14, 15, 16, 17, 18, 19, 20, 21, 22, 23]) (isB := [0, 1, 2, 3, 4, 5, 6, 7, 8, 9, 20, 21, 22, 23, 10, 11, 12, 13, 14, 15, 16, 17, 18, 19]) (ws' := W_F cI cV vf a x60) ⟨([0, 1, 2, 3, 4, 5, 6, 7, 8, 9, 14, 15, 16, 17, 18, 19, 20, 21, 22, 23] : List Nat).filterMap (fun i : Nat => (W_F cI cV vf a x60 : va_W)[i]?), rfl, rfl, rfl, rfl, by decide, rfl, rfl⟩ 10 0 rfl rfl rfl rfl hl.1 rfl (Nat.le_of_ble_eq_true rfl) dX7_perform_201 ⟨Nat.le_of_ble_eq_true rfl, Nat.le_of_ble_eq_true rfl⟩ (fun H locs hP hD hS => ?_)
        try dsimp only at hf
        refine W.eq (g2 := F0 m 204 ls [.int u64]) rfl ?_
        exact L204 x60 p3 u64 H locs ls hf hP hD hS (lv_sub hl [4, 0] rfl)
      · rw [hq61]
        obtain ⟨u66, hc67, hf⟩ := bind_t hf
        refine k_U (owner := "Compactforms$Form") (x := ⟨"Compactforms$Form", "placeOf", "(I)I"⟩) (As := [.int p3]) (rest := []) (n := 1) ⟨hx, hb, hml, hown, hts⟩ (met_X5_placeOf l (fun j => a (14 + j)) (vlTb (fV x60)) p3 u66 hc67) w340 w342 w349 w350 w7 w351 (hE.1.2.2.1 _ (List.mem_append_left _ (List.mem_of_getElem? (i := 4) rfl))) ⟨by decide +kernel, by decide +kernel, by decide +kernel⟩ ⟨Nat.le_of_ble_eq_true rfl, Nat.le_of_ble_eq_true rfl⟩ hK hE hP hD hS hA (isC := [14, 15, 16, 17]) (isR := [0, 1, 2, 3, 4, 5, 6, 7, 8, 9, 10, 11, 12, 13, 18, 19, 20, 21, 22, 23]) (isB := [0, 1, 2, 3, 4, 5, 6, 7, 8, 9, 10, 11, 12, 13, 20, 21, 22, 23, 14, 15, 16, 17, 18, 19]) (ws' := W_F cI cV vf a x60) ⟨([0, 1, 2, 3, 4, 5, 6, 7, 8, 9, 10, 11, 12, 13, 18, 19, 20, 21, 22, 23] : List Nat).filterMap (fun i : Nat => (W_F cI cV vf a x60 : va_W)[i]?), rfl, rfl, rfl, rfl, by decide, rfl, rfl⟩ 14 4 rfl rfl rfl rfl hl.1 rfl (Nat.le_of_ble_eq_true rfl) dX7_perform_201 ⟨Nat.le_of_ble_eq_true rfl, Nat.le_of_ble_eq_true rfl⟩ (fun H locs hP hD hS => ?_)
        try dsimp only at hf
        refine W.eq (g2 := F0 m 204 ls [.int u66]) rfl ?_
        exact L204 x60 p3 u66 H locs ls hf hP hD hS (lv_sub hl [4, 0] rfl)
    replace hf := if_f c57 hf
    by_cases c68 : p1 = 6
    · replace hf := if_t c68 hf
      refine k_tsw (tgt := 228) hx hb dX7_perform_9 6 c68 (by decide) (by decide) rfl (by decide) ?_
      refine lv_aload hx hb dX7_perform_228 (lv_at hl 0 rfl) ?_
      refine lv_aload hx hb dX7_perform_230 (lv_at hl 0 rfl) ?_
      refine va_getN (D := D) (ci := 5) (v := .ref (a (6 + (vlFm (fV x))))) (C := RX6) (T := TX6) (N := 10) hx hb hg in_X6 hown hK hP 6 rfl rfl 9 (by decide) (nwF_148 hE.1) (fun _ h9 => h9) rfl dX7_perform_232 ?_
      refine lv_iload_n hx hb dX7_perform_235 rfl (lv_at hl 4 rfl) ?_
      rcases sel_t hf with ⟨hq69, hf⟩ | ⟨hq69, hf⟩ | ⟨hq69, hf⟩
      · rw [hq69]
        obtain ⟨u70, hc71, hf⟩ := bind_t hf
        refine k_U (owner := "Compactforms$Form") (x := ⟨"Compactforms$Form", "placeOf", "(I)I"⟩) (As := [.int p3]) (rest := [.ref (a 6)]) (n := 1) ⟨hx, hb, hml, hown, hts⟩ (met_X4_placeOf l 16 (fun j => a (7 + j)) (vlSm (fV x)) p3 u70 hc71) w340 w342 w346 w347 w5 w348 (hE.1.2.2.1 _ (List.mem_append_left _ (List.mem_of_getElem? (i := 4) rfl))) ⟨by decide +kernel, by decide +kernel, by decide +kernel⟩ ⟨Nat.le_of_ble_eq_true rfl, Nat.le_of_ble_eq_true rfl⟩ hK hE hP hD hS hA (isC := [7, 8, 9]) (isR := [0, 1, 2, 3, 4, 5, 6, 10, 11, 12, 13, 14, 15, 16, 17, 18, 19, 20, 21, 22, 23]) (isB := [0, 1, 2, 3, 4, 5, 6, 21, 22, 23, 7, 8, 9, 10, 11, 12, 13, 14, 15, 16, 17, 18, 19, 20]) (ws' := W_F cI cV vf a x) ⟨([0, 1, 2, 3, 4, 5, 6, 10, 11, 12, 13, 14, 15, 16, 17, 18, 19, 20, 21, 22, 23] : List Nat).filterMap (fun i : Nat => (W_F cI cV vf a x : va_W)[i]?), rfl, rfl, rfl, rfl, by decide, rfl, rfl⟩ 7 3 rfl rfl rfl rfl hl.1 rfl (Nat.le_of_ble_eq_true rfl) dX7_perform_236 ⟨Nat.le_of_ble_eq_true rfl, Nat.le_of_ble_eq_true rfl⟩ (fun H locs hP hD hS => ?_)
        try dsimp only at hf
        refine W.eq (g2 := F0 m 239 ls [.int u70, .ref (a 6)]) rfl ?_
        exact L239 x u70 H locs ls hf hP hD hS (lv_sub hl [] rfl)
      · rw [hq69]
        obtain ⟨u72, hc73, hf⟩ := bind_t hf
        refine k_U (owner := "Compactforms$Form") (x := ⟨"Compactforms$Form", "placeOf", "(I)I"⟩) (As := [.int p3]) (rest := [.ref (a 6)]) (n := 1) ⟨hx, hb, hml, hown, hts⟩ (met_X0_placeOf l (fun j => a (10 + j)) (vlCh (fV x)) p3 u72 hc73) w340 w342 w343 w344 w6 w345 (hE.1.2.2.1 _ (List.mem_append_left _ (List.mem_of_getElem? (i := 4) rfl))) ⟨by decide +kernel, by decide +kernel, by decide +kernel⟩ ⟨Nat.le_of_ble_eq_true rfl, Nat.le_of_ble_eq_true rfl⟩ hK hE hP hD hS hA (isC := [10, 11, 12, 13]) (isR := [0, 1, 2, 3, 4, 5, 6, 7, 8, 9, 14, 15, 16, 17, 18, 19, 20, 21, 22, 23]) (isB := [0, 1, 2, 3, 4, 5, 6, 7, 8, 9, 20, 21, 22, 23, 10, 11, 12, 13, 14, 15, 16, 17, 18, 19]) (ws' := W_F cI cV vf a x) ⟨([0, 1, 2, 3, 4, 5, 6, 7, 8, 9, 14, 15, 16, 17, 18, 19, 20, 21, 22, 23] : List Nat).filterMap (fun i : Nat => (W_F cI cV vf a x : va_W)[i]?), rfl, rfl, rfl, rfl, by decide, rfl, rfl⟩ 10 0 rfl rfl rfl rfl hl.1 rfl (Nat.le_of_ble_eq_true rfl) dX7_perform_236 ⟨Nat.le_of_ble_eq_true rfl, Nat.le_of_ble_eq_true rfl⟩ (fun H locs hP hD hS => ?_)
        try dsimp only at hf
        refine W.eq (g2 := F0 m 239 ls [.int u72, .ref (a 6)]) rfl ?_
        exact L239 x u72 H locs ls hf hP hD hS (lv_sub hl [] rfl)
      · rw [hq69]
        obtain ⟨u74, hc75, hf⟩ := bind_t hf
        refine k_U (owner := "Compactforms$Form") (x := ⟨"Compactforms$Form", "placeOf", "(I)I"⟩) (As := [.int p3]) (rest := [.ref (a 6)]) (n := 1) ⟨hx, hb, hml, hown, hts⟩ (met_X5_placeOf l (fun j => a (14 + j)) (vlTb (fV x)) p3 u74 hc75) w340 w342 w349 w350 w7 w351 (hE.1.2.2.1 _ (List.mem_append_left _ (List.mem_of_getElem? (i := 4) rfl))) ⟨by decide +kernel, by decide +kernel, by decide +kernel⟩ ⟨Nat.le_of_ble_eq_true rfl, Nat.le_of_ble_eq_true rfl⟩ hK hE hP hD hS hA (isC := [14, 15, 16, 17]) (isR := [0, 1, 2, 3, 4, 5, 6, 7, 8, 9, 10, 11, 12, 13, 18, 19, 20, 21, 22, 23]) (isB := [0, 1, 2, 3, 4, 5, 6, 7, 8, 9, 10, 11, 12, 13, 20, 21, 22, 23, 14, 15, 16, 17, 18, 19]) (ws' := W_F cI cV vf a x) ⟨([0, 1, 2, 3, 4, 5, 6, 7, 8, 9, 10, 11, 12, 13, 18, 19, 20, 21, 22, 23] : List Nat).filterMap (fun i : Nat => (W_F cI cV vf a x : va_W)[i]?), rfl, rfl, rfl, rfl, by decide, rfl, rfl⟩ 14 4 rfl rfl rfl rfl hl.1 rfl (Nat.le_of_ble_eq_true rfl) dX7_perform_236 ⟨Nat.le_of_ble_eq_true rfl, Nat.le_of_ble_eq_true rfl⟩ (fun H locs hP hD hS => ?_)
        try dsimp only at hf
        refine W.eq (g2 := F0 m 239 ls [.int u74, .ref (a 6)]) rfl ?_
        exact L239 x u74 H locs ls hf hP hD hS (lv_sub hl [] rfl)
    replace hf := if_f c68 hf
    by_cases c76 : p1 = 7
    · replace hf := if_t c76 hf
      refine k_tsw (tgt := 252) hx hb dX7_perform_9 7 c76 (by decide) (by decide) rfl (by decide) ?_
      refine lv_aload hx hb dX7_perform_252 (lv_at hl 0 rfl) ?_
      refine lv_aload_n hx hb dX7_perform_254 rfl (lv_at hl 1 rfl) ?_
      refine va_get (D := D) (ci := 6) (v := .int (fClk x)) (C := RX7) (T := TX7) (N := 8) hx hb hg in_X7 hown hK hP 0 rfl rfl 5 (by decide) (hg _ w172) (fun _ h9 => h9) rfl dX7_perform_255 ?_
      obtain ⟨u77, hc78, hf⟩ := bind_t hf
      refine k_V (As := [.int (fClk x)]) (rest := []) (n := 1) ⟨hx, hb, hml, hown, hts⟩ (met_X6_removeIfThere l (fun j => a (6 + j)) (fV x) (fClk x) u77 hc78) w536 w537 w538 w3 w539 ⟨rfl, by decide +kernel, by decide +kernel, by decide +kernel⟩ ⟨Nat.le_of_ble_eq_true rfl, Nat.le_of_ble_eq_true rfl⟩ hK hE hP hD hS hA (isC := [6, 7, 8, 9, 10, 11, 12, 13, 14, 15, 16, 17, 18, 19, 20, 21, 22, 23]) (isR := [0, 1, 2, 3, 4, 5]) (isB := [0, 1, 2, 3, 4, 5, 6, 7, 8, 9, 10, 11, 12, 13, 14, 15, 16, 17, 18, 19, 20, 21, 22, 23]) (ws' := W_F cI cV vf a (fV_s x u77.1)) ⟨([0, 1, 2, 3, 4, 5] : List Nat).filterMap (fun i : Nat => (W_F cI cV vf a x : va_W)[i]?), rfl, rfl, rfl, rfl, by decide, rfl, rfl⟩ 6 5 rfl rfl rfl rfl hl.1 rfl (Nat.le_of_ble_eq_true rfl) dX7_perform_258 ⟨Nat.le_of_ble_eq_true rfl, Nat.le_of_ble_eq_true rfl⟩ (fun H locs hP hD hS => ?_)
      try dsimp only at hf
      refine W.eq (g2 := F0 m 261 ls [.int u77.2]) rfl ?_
      obtain ⟨x79, hx79⟩ : ∃ z, z = (fV_s x u77.1) := ⟨_, rfl⟩
      replace hf := keep_e hf x79 hx79
      have hP : va_P D vwCl (W_F cI cV vf a x79) H := by rw [hx79]; exact hP
      have hD : va_D A (W_F cI cV vf a x79) := by rw [hx79]; exact hD
      obtain rfl := Option.some.inj hf
      exact W.iret (v := u77.2) hx hb hr (fun t ht hW => ⟨rfl, by rw [ht]; exact hP, va_K.moved hW.alike hK, hD, hS.F ht⟩) hS.2.2 dX7_perform_261 hlocks
    replace hf := if_f c76 hf
    by_cases c80 : p1 = 8
    · replace hf := if_t c80 hf
      refine k_tsw (tgt := 262) hx hb dX7_perform_9 8 c80 (by decide) (by decide) rfl (by decide) ?_
      refine lv_aload hx hb dX7_perform_262 (lv_at hl 0 rfl) ?_
      refine lv_aload_n hx hb dX7_perform_264 rfl (lv_at hl 1 rfl) ?_
      refine va_get (D := D) (ci := 6) (v := .int (fClk x)) (C := RX7) (T := TX7) (N := 8) hx hb hg in_X7 hown hK hP 0 rfl rfl 5 (by decide) (hg _ w172) (fun _ h9 => h9) rfl dX7_perform_265 ?_
      refine lv_iload_n hx hb dX7_perform_268 rfl (lv_at hl 4 rfl) ?_
      obtain ⟨u81, hc82, hf⟩ := bind_t hf
      refine k_V (As := [.int (fClk x), .int p3]) (rest := []) (n := 2) ⟨hx, hb, hml, hown, hts⟩ (met_X6_endIfThere l (fun j => a (6 + j)) (fV x) (fClk x) p3 u81 hc82) w541 w542 w543 w3 w544 ⟨rfl, by decide +kernel, by decide +kernel, by decide +kernel⟩ ⟨Nat.le_of_ble_eq_true rfl, Nat.le_of_ble_eq_true rfl⟩ hK hE hP hD hS hA (isC := [6, 7, 8, 9, 10, 11, 12, 13, 14, 15, 16, 17, 18, 19, 20, 21, 22, 23]) (isR := [0, 1, 2, 3, 4, 5]) (isB := [0, 1, 2, 3, 4, 5, 6, 7, 8, 9, 10, 11, 12, 13, 14, 15, 16, 17, 18, 19, 20, 21, 22, 23]) (ws' := W_F cI cV vf a (fV_s x u81.1)) ⟨([0, 1, 2, 3, 4, 5] : List Nat).filterMap (fun i : Nat => (W_F cI cV vf a x : va_W)[i]?), rfl, rfl, rfl, rfl, by decide, rfl, rfl⟩ 6 5 rfl rfl rfl rfl hl.1 rfl (Nat.le_of_ble_eq_true rfl) dX7_perform_269 ⟨Nat.le_of_ble_eq_true rfl, Nat.le_of_ble_eq_true rfl⟩ (fun H locs hP hD hS => ?_)
      try dsimp only at hf
      refine W.eq (g2 := F0 m 272 ls [.int u81.2]) rfl ?_
      obtain ⟨x83, hx83⟩ : ∃ z, z = (fV_s x u81.1) := ⟨_, rfl⟩
      replace hf := keep_e hf x83 hx83
      have hP : va_P D vwCl (W_F cI cV vf a x83) H := by rw [hx83]; exact hP
      have hD : va_D A (W_F cI cV vf a x83) := by rw [hx83]; exact hD
      obtain rfl := Option.some.inj hf
      exact W.iret (v := u81.2) hx hb hr (fun t ht hW => ⟨rfl, by rw [ht]; exact hP, va_K.moved hW.alike hK, hD, hS.F ht⟩) hS.2.2 dX7_perform_272 hlocks
    replace hf := if_f c80 hf
    by_cases c84 : p1 = 9
    · replace hf := if_t c84 hf
      refine k_tsw (tgt := 273) hx hb dX7_perform_9 9 c84 (by decide) (by decide) rfl (by decide) ?_
      refine lv_aload hx hb dX7_perform_273 (lv_at hl 0 rfl) ?_
      refine va_getN (D := D) (ci := 5) (v := .ref (a 21)) (C := RX6) (T := TX6) (N := 10) hx hb hg in_X6 hown hK hP 6 rfl rfl 8 (by decide) (nwF_93 hE.1) (fun _ h9 => h9) rfl dX7_perform_275 ?_
      refine lv_iload_n hx hb dX7_perform_278 rfl (lv_at hl 4 rfl) ?_
      refine lv_iload hx hb dX7_perform_279 (lv_at hl 5 rfl) ?_
      refine lv_aload hx hb dX7_perform_281 (lv_at hl 0 rfl) ?_
      obtain ⟨u85, hc86, hf⟩ := bind_t hf
      refine k_V (As := []) (rest := [.int p4, .int p3, .ref (a 21)]) (n := 0) ⟨hx, hb, hml, hown, hts⟩ (met_X6_count l (fun j => a (6 + j)) (fV x) u85 hc86) w306 w307 w308 w3 w309 ⟨rfl, by decide +kernel, by decide +kernel, by decide +kernel⟩ ⟨Nat.le_of_ble_eq_true rfl, Nat.le_of_ble_eq_true rfl⟩ hK hE hP hD hS hA (isC := [6, 7, 8, 9, 10, 11, 12, 13, 14, 15, 16, 17, 18, 19, 20, 21, 22, 23]) (isR := [0, 1, 2, 3, 4, 5]) (isB := [0, 1, 2, 3, 4, 5, 6, 7, 8, 9, 10, 11, 12, 13, 14, 15, 16, 17, 18, 19, 20, 21, 22, 23]) (ws' := W_F cI cV vf a x) ⟨([0, 1, 2, 3, 4, 5] : List Nat).filterMap (fun i : Nat => (W_F cI cV vf a x : va_W)[i]?), rfl, rfl, rfl, rfl, by decide, rfl, rfl⟩ 6 5 rfl rfl rfl rfl hl.1 rfl (Nat.le_of_ble_eq_true rfl) dX7_perform_283 ⟨Nat.le_of_ble_eq_true rfl, Nat.le_of_ble_eq_true rfl⟩ (fun H locs hP hD hS => ?_)
      try dsimp only at hf
      refine W.eq (g2 := F0 m 286 ls [.int u85, .int p4, .int p3, .ref (a 21)]) rfl ?_
      refine lv_aload_n hx hb dX7_perform_286 rfl (lv_at hl 1 rfl) ?_
      refine va_get (D := D) (ci := 6) (v := .int (fClk x)) (C := RX7) (T := TX7) (N := 8) hx hb hg in_X7 hown hK hP 0 rfl rfl 5 (by decide) (hg _ w172) (fun _ h9 => h9) rfl dX7_perform_287 ?_
      obtain ⟨u87, hc88, hf⟩ := bind_t hf
      refine k_V (As := [.int p3, .int p4, .int u85, .int (fClk x)]) (rest := []) (n := 4) ⟨hx, hb, hml, hown, hts⟩ (met_X2_giveNext l (fun j => a (21 + j)) (vlGr (fV x)) p3 p4 u85 (fClk x) u87 hc88) w545 w546 w547 w8 w548 ⟨rfl, by decide +kernel, by decide +kernel, by decide +kernel⟩ ⟨Nat.le_of_ble_eq_true rfl, Nat.le_of_ble_eq_true rfl⟩ hK hE hP hD hS hA (isC := [21, 22, 23]) (isR := [0, 1, 2, 3, 4, 5, 6, 7, 8, 9, 10, 11, 12, 13, 14, 15, 16, 17, 18, 19, 20]) (isB := [0, 1, 2, 3, 4, 5, 6, 7, 8, 9, 10, 11, 12, 13, 14, 15, 16, 17, 18, 19, 20, 21, 22, 23]) (ws' := W_F cI cV vf a (fV_s x (vlGr_s (fV x) u87.1))) ⟨([0, 1, 2, 3, 4, 5, 6, 7, 8, 9, 10, 11, 12, 13, 14, 15, 16, 17, 18, 19, 20] : List Nat).filterMap (fun i : Nat => (W_F cI cV vf a x : va_W)[i]?), rfl, rfl, rfl, rfl, by decide, rfl, rfl⟩ 21 1 rfl rfl rfl rfl hl.1 rfl (Nat.le_of_ble_eq_true rfl) dX7_perform_290 ⟨Nat.le_of_ble_eq_true rfl, Nat.le_of_ble_eq_true rfl⟩ (fun H locs hP hD hS => ?_)
      try dsimp only at hf
      refine W.eq (g2 := F0 m 293 ls [.int u87.2]) rfl ?_
      obtain ⟨x89, hx89⟩ : ∃ z, z = (fV_s x (vlGr_s (fV x) u87.1)) := ⟨_, rfl⟩
      replace hf := keep_e hf x89 hx89
      have hP : va_P D vwCl (W_F cI cV vf a x89) H := by rw [hx89]; exact hP
      have hD : va_D A (W_F cI cV vf a x89) := by rw [hx89]; exact hD
      obtain rfl := Option.some.inj hf
      exact W.iret (v := u87.2) hx hb hr (fun t ht hW => ⟨rfl, by rw [ht]; exact hP, va_K.moved hW.alike hK, hD, hS.F ht⟩) hS.2.2 dX7_perform_293 hlocks
    replace hf := if_f c84 hf
    by_cases c90 : p1 = 10
    · replace hf := if_t c90 hf
      refine k_tsw (tgt := 294) hx hb dX7_perform_9 10 c90 (by decide) (by decide) rfl (by decide) ?_
      refine lv_aload hx hb dX7_perform_294 (lv_at hl 0 rfl) ?_
      refine va_getN (D := D) (ci := 5) (v := .ref (a 21)) (C := RX6) (T := TX6) (N := 10) hx hb hg in_X6 hown hK hP 6 rfl rfl 8 (by decide) (nwF_93 hE.1) (fun _ h9 => h9) rfl dX7_perform_296 ?_
      refine lv_iload_n hx hb dX7_perform_299 rfl (lv_at hl 4 rfl) ?_
      refine lv_iload hx hb dX7_perform_300 (lv_at hl 5 rfl) ?_
      obtain ⟨u91, hc92, hf⟩ := bind_t hf
      refine k_V (As := [.int p3, .int p4]) (rest := []) (n := 2) ⟨hx, hb, hml, hown, hts⟩ (met_X2_finish l (fun j => a (21 + j)) (vlGr (fV x)) p3 p4 u91 hc92) w553 w554 w555 w8 w556 ⟨rfl, by decide +kernel, by decide +kernel, by decide +kernel⟩ ⟨Nat.le_of_ble_eq_true rfl, Nat.le_of_ble_eq_true rfl⟩ hK hE hP hD hS hA (isC := [21, 22, 23]) (isR := [0, 1, 2, 3, 4, 5, 6, 7, 8, 9, 10, 11, 12, 13, 14, 15, 16, 17, 18, 19, 20]) (isB := [0, 1, 2, 3, 4, 5, 6, 7, 8, 9, 10, 11, 12, 13, 14, 15, 16, 17, 18, 19, 20, 21, 22, 23]) (ws' := W_F cI cV vf a (fV_s x (vlGr_s (fV x) u91.1))) ⟨([0, 1, 2, 3, 4, 5, 6, 7, 8, 9, 10, 11, 12, 13, 14, 15, 16, 17, 18, 19, 20] : List Nat).filterMap (fun i : Nat => (W_F cI cV vf a x : va_W)[i]?), rfl, rfl, rfl, rfl, by decide, rfl, rfl⟩ 21 1 rfl rfl rfl rfl hl.1 rfl (Nat.le_of_ble_eq_true rfl) dX7_perform_302 ⟨Nat.le_of_ble_eq_true rfl, Nat.le_of_ble_eq_true rfl⟩ (fun H locs hP hD hS => ?_)
      try dsimp only at hf
      refine W.eq (g2 := F0 m 305 ls [.int u91.2]) rfl ?_
      obtain ⟨x93, hx93⟩ : ∃ z, z = (fV_s x (vlGr_s (fV x) u91.1)) := ⟨_, rfl⟩
      replace hf := keep_e hf x93 hx93
      have hP : va_P D vwCl (W_F cI cV vf a x93) H := by rw [hx93]; exact hP
      have hD : va_D A (W_F cI cV vf a x93) := by rw [hx93]; exact hD
      obtain rfl := Option.some.inj hf
      exact W.iret (v := u91.2) hx hb hr (fun t ht hW => ⟨rfl, by rw [ht]; exact hP, va_K.moved hW.alike hK, hD, hS.F ht⟩) hS.2.2 dX7_perform_305 hlocks
    replace hf := if_f c90 hf
    by_cases c94 : p1 = 11
    · replace hf := if_t c94 hf
      refine k_tsw (tgt := 306) hx hb dX7_perform_9 11 c94 (by decide) (by decide) rfl (by decide) ?_
      refine lv_aload hx hb dX7_perform_306 (lv_at hl 0 rfl) ?_
      refine va_getN (D := D) (ci := 5) (v := .ref (a 21)) (C := RX6) (T := TX6) (N := 10) hx hb hg in_X6 hown hK hP 6 rfl rfl 8 (by decide) (nwF_93 hE.1) (fun _ h9 => h9) rfl dX7_perform_308 ?_
      refine lv_iload_n hx hb dX7_perform_311 rfl (lv_at hl 4 rfl) ?_
      refine lv_iload hx hb dX7_perform_312 (lv_at hl 5 rfl) ?_
      refine lv_iload hx hb dX7_perform_314 (lv_at hl 6 rfl) ?_
      refine lv_aload_n hx hb dX7_perform_316 rfl (lv_at hl 1 rfl) ?_
      refine va_get (D := D) (ci := 6) (v := .int (fClk x)) (C := RX7) (T := TX7) (N := 8) hx hb hg in_X7 hown hK hP 0 rfl rfl 5 (by decide) (hg _ w172) (fun _ h9 => h9) rfl dX7_perform_317 ?_
      obtain ⟨u95, hc96, hf⟩ := bind_t hf
      refine k_V (As := [.int p3, .int p4, .int p5, .int (fClk x)]) (rest := []) (n := 4) ⟨hx, hb, hml, hown, hts⟩ (met_X2_moveTo l (fun j => a (21 + j)) (vlGr (fV x)) p3 p4 p5 (fClk x) u95 hc96) w557 w558 w559 w8 w560 ⟨rfl, by decide +kernel, by decide +kernel, by decide +kernel⟩ ⟨Nat.le_of_ble_eq_true rfl, Nat.le_of_ble_eq_true rfl⟩ hK hE hP hD hS hA (isC := [21, 22, 23]) (isR := [0, 1, 2, 3, 4, 5, 6, 7, 8, 9, 10, 11, 12, 13, 14, 15, 16, 17, 18, 19, 20]) (isB := [0, 1, 2, 3, 4, 5, 6, 7, 8, 9, 10, 11, 12, 13, 14, 15, 16, 17, 18, 19, 20, 21, 22, 23]) (ws' := W_F cI cV vf a (fV_s x (vlGr_s (fV x) u95.1))) ⟨([0, 1, 2, 3, 4, 5, 6, 7, 8, 9, 10, 11, 12, 13, 14, 15, 16, 17, 18, 19, 20] : List Nat).filterMap (fun i : Nat => (W_F cI cV vf a x : va_W)[i]?), rfl, rfl, rfl, rfl, by decide, rfl, rfl⟩ 21 1 rfl rfl rfl rfl hl.1 rfl (Nat.le_of_ble_eq_true rfl) dX7_perform_320 ⟨Nat.le_of_ble_eq_true rfl, Nat.le_of_ble_eq_true rfl⟩ (fun H locs hP hD hS => ?_)
      try dsimp only at hf
      refine W.eq (g2 := F0 m 323 ls [.int u95.2]) rfl ?_
      obtain ⟨x97, hx97⟩ : ∃ z, z = (fV_s x (vlGr_s (fV x) u95.1)) := ⟨_, rfl⟩
      replace hf := keep_e hf x97 hx97
      have hP : va_P D vwCl (W_F cI cV vf a x97) H := by rw [hx97]; exact hP
      have hD : va_D A (W_F cI cV vf a x97) := by rw [hx97]; exact hD
      obtain rfl := Option.some.inj hf
      exact W.iret (v := u95.2) hx hb hr (fun t ht hW => ⟨rfl, by rw [ht]; exact hP, va_K.moved hW.alike hK, hD, hS.F ht⟩) hS.2.2 dX7_perform_323 hlocks
    replace hf := if_f c94 hf
    refine lv_tableOut (tgt := 324) hx hb dX7_perform_9 (by have q0 := lv_neT c26 (show (1 : Int32).toInt = 1 by decide); have q1 := lv_neT c33 (show (2 : Int32).toInt = 2 by decide); have q2 := lv_neT c37 (show (3 : Int32).toInt = 3 by decide); have q3 := lv_neT c48 (show (4 : Int32).toInt = 4 by decide); have q4 := lv_neT c57 (show (5 : Int32).toInt = 5 by decide); have q5 := lv_neT c68 (show (6 : Int32).toInt = 6 by decide); have q6 := lv_neT c76 (show (7 : Int32).toInt = 7 by decide); have q7 := lv_neT c80 (show (8 : Int32).toInt = 8 by decide); have q8 := lv_neT c84 (show (9 : Int32).toInt = 9 by decide); have q9 := lv_neT c90 (show (10 : Int32).toInt = 10 by decide); have q10 := lv_neT c94 (show (11 : Int32).toInt = 11 by decide); omega) (by decide) ?_
    refine lv_iconst (v := (-1)) hx hb dX7_perform_324 (by decide) ?_
    obtain rfl := Option.some.inj hf
    exact W.iret (v := (-1)) hx hb hr (fun t ht hW => ⟨rfl, by rw [ht]; exact hP, va_K.moved hW.alike hK, hD, hS.F ht⟩) hS.2.2 dX7_perform_325 hlocks
  exact M0 s.heap [] ls hf hP hD hS hl

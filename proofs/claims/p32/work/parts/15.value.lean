/-! Compactforms$Value.isThere(I)Z -/
def fX6_isThere (x : VSt) (p1 : Int32) : Option (Int32) := (if (vlHeld x) = 0 then some 0 else (if (vlEnd x) = (-1) then some 1 else (if (vlEnd x) ≤ p1 then some 0 else some 1)))
set_option maxHeartbeats 4000000 in
set_option maxRecDepth 100000 in
theorem met_X6_isThere {D : va_G} {cI cV cJ cD : ClassId} (l : Launch) (a : Nat → Nat) (x : VSt) (p1 : Int32) (res : Int32) (hf : fX6_isThere x p1 = some res) : MM l yX6_isThere cX6_isThere 2 (some .boolean) { frames := 0, cells := 0, slots := 0, locals := 0 } D (TY cI cV cJ cD) (W_Value cI a x) (W_Value cI a x) [.ref (a 0), .int p1] (some (.int res)) := by
  intro sz
  refine Met.ofW (cc := cX6_isThere) (maxL := 2) (ret := (some .boolean)) (by decide +kernel) rfl ?_
  intro p e s m args below meth c s₁ B hml hv
  obtain ⟨rfl, hsz, hP, hK, hD0, hE⟩ := hv
  have hx := B.exec
  have hb := B.bytes
  have hr := B.returns
  have hts := atoms_spec (ws := .code yX6_isThere cX6_isThere 2 (some .boolean) :: GW) B.pre
  have hg : ∀ w ∈ GW, w.before (([.ref (a 0), .int p1] : List Value).toArray) s = true := fun w h => hts w (List.mem_cons_of_mem _ h)
  have hown : s.vm.findClass RX6 = some m.cls := findClass_of_methodNamed B.named
  have hlocks := B.notSynchronized
  subst hsz
  have hD := hD0.self (sz := s.heap.size)
  generalize hAe : va_A (W_Value cI a x) s.heap.size = A at hD hE ⊢
  have hA : ∀ q : Nat, s.heap.size ≤ q → A q := fun q h => by rw [← hAe]; exact Or.inr h
  have hS : va_S A s.heap s.heap [] := va_S.rf
  have hl := lv_entry ([.ref (a 0), .int p1]) (n := 2) (Nat.le_of_ble_eq_true rfl)
  rw [lg_entry_eq]
  generalize (lg_sl ([.ref (a 0), .int p1]) ++ List.replicate (2 - (lg_sl ([.ref (a 0), .int p1])).length) Slot.unset).toArray = ls at hl ⊢
  have hl : lv_has ls 2 [(0, .ref (a 0)), (1, .int p1)] := hl
  have M0 : ∀ (H : Heap) (locs : List Loc) (ls : Array Slot), fX6_isThere x p1 = some res → va_P D vwCl (W_Value cI a x) H → va_D A (W_Value cI a x) → va_S A s.heap H locs → lv_has ls 2 [(0, .ref (a 0)), (1, .int p1)] → W p l e ({ frames := 0, cells := 0, slots := 0, locals := 0 } : Room) s m ([.ref (a 0), .int p1] : List Value).toArray below meth c H locs 0 0 (MQ below (QW D (TY cI cV cJ cD) (W_Value cI a x) A (some (.int res))) (([.ref (a 0), .int p1] : List Value).toArray) s 0 0 A) (F0 m 0 ls []) := by
    intro H locs ls hf hP hD hS hl
    dsimp only [fX6_isThere] at hf
    refine lv_aload_n hx hb dX6_isThere_0 rfl (lv_at hl 0 rfl) ?_
    refine va_get (D := D) (ci := 5) (v := .int (vlHeld x)) (C := RX6) (T := TX6) (N := 10) hx hb hg in_X6 hown hK hP 0 rfl rfl 0 (by decide) (hg _ w128) (fun _ h9 => h9) rfl dX6_isThere_1 ?_
    refine lv_if_eq (tgt := 27) hx hb dX6_isThere_4 (by decide) (fun c1 => ?_) (fun c1 => ?_)
    · replace hf := if_t c1 hf
      refine lv_iconst (v := 0) hx hb dX6_isThere_27 (by decide) ?_
      obtain rfl := Option.some.inj hf
      exact W.zret (v := 0) hx hb hr (by decide +kernel) (fun t ht hW => ⟨rfl, by rw [ht]; exact hP, va_K.moved hW.alike hK, hD, hS.F ht⟩) hS.2.2 dX6_isThere_28 hlocks
    · replace hf := if_f c1 hf
      refine lv_aload_n hx hb dX6_isThere_7 rfl (lv_at hl 0 rfl) ?_
      refine va_get (D := D) (ci := 5) (v := .int (vlEnd x)) (C := RX6) (T := TX6) (N := 10) hx hb hg in_X6 hown hK hP 0 rfl rfl 2 (by decide) (hg _ w132) (fun _ h9 => h9) rfl dX6_isThere_8 ?_
      refine lv_iconst (v := (-1)) hx hb dX6_isThere_11 (by decide) ?_
      refine lv_icmp_eq (tgt := 23) hx hb dX6_isThere_12 (by decide) (fun c2 => ?_) (fun c2 => ?_)
      · replace hf := if_t c2 hf
        refine lv_iconst (v := 1) hx hb dX6_isThere_23 (by decide) ?_
        refine lv_goto (tgt := 28) hx hb dX6_isThere_24 (by decide) ?_
        obtain rfl := Option.some.inj hf
        exact W.zret (v := 1) hx hb hr (by decide +kernel) (fun t ht hW => ⟨rfl, by rw [ht]; exact hP, va_K.moved hW.alike hK, hD, hS.F ht⟩) hS.2.2 dX6_isThere_28 hlocks
      · replace hf := if_f c2 hf
        refine lv_iload_n hx hb dX6_isThere_15 rfl (lv_at hl 1 rfl) ?_
        refine lv_aload_n hx hb dX6_isThere_16 rfl (lv_at hl 0 rfl) ?_
        refine va_get (D := D) (ci := 5) (v := .int (vlEnd x)) (C := RX6) (T := TX6) (N := 10) hx hb hg in_X6 hown hK hP 0 rfl rfl 2 (by decide) (hg _ w132) (fun _ h9 => h9) rfl dX6_isThere_17 ?_
        refine lv_icmp_ge (tgt := 27) hx hb dX6_isThere_20 (by decide) (fun c3 => ?_) (fun c3 => ?_)
        · replace hf := if_t c3 hf
          refine lv_iconst (v := 0) hx hb dX6_isThere_27 (by decide) ?_
          obtain rfl := Option.some.inj hf
          exact W.zret (v := 0) hx hb hr (by decide +kernel) (fun t ht hW => ⟨rfl, by rw [ht]; exact hP, va_K.moved hW.alike hK, hD, hS.F ht⟩) hS.2.2 dX6_isThere_28 hlocks
        · replace hf := if_f c3 hf
          refine lv_iconst (v := 1) hx hb dX6_isThere_23 (by decide) ?_
          refine lv_goto (tgt := 28) hx hb dX6_isThere_24 (by decide) ?_
          obtain rfl := Option.some.inj hf
          exact W.zret (v := 1) hx hb hr (by decide +kernel) (fun t ht hW => ⟨rfl, by rw [ht]; exact hP, va_K.moved hW.alike hK, hD, hS.F ht⟩) hS.2.2 dX6_isThere_28 hlocks
  exact M0 s.heap [] ls hf hP hD hS hl
/-! Compactforms$Value.isSmall()Z -/
def fX6_isSmall (x : VSt) : Option (Int32) := (chk (isF (vlFm x)) (if (vlFm x) = 1 then some 1 else some 0))
set_option maxHeartbeats 4000000 in
set_option maxRecDepth 100000 in
theorem met_X6_isSmall {D : va_G} {cI cV cJ cD : ClassId} (l : Launch) (a : Nat → Nat) (x : VSt) (res : Int32) (hf : fX6_isSmall x = some res) : MM l yX6_isSmall cX6_isSmall 1 (some .boolean) { frames := 0, cells := 0, slots := 0, locals := 0 } D (TY cI cV cJ cD) (W_Value cI a x) (W_Value cI a x) [.ref (a 0)] (some (.int res)) := by
  intro sz
  refine Met.ofW (cc := cX6_isSmall) (maxL := 1) (ret := (some .boolean)) (by decide +kernel) rfl ?_
  intro p e s m args below meth c s₁ B hml hv
  obtain ⟨rfl, hsz, hP, hK, hD0, hE⟩ := hv
  have hx := B.exec
  have hb := B.bytes
  have hr := B.returns
  have hts := atoms_spec (ws := .code yX6_isSmall cX6_isSmall 1 (some .boolean) :: GW) B.pre
  have hg : ∀ w ∈ GW, w.before (([.ref (a 0)] : List Value).toArray) s = true := fun w h => hts w (List.mem_cons_of_mem _ h)
  have hown : s.vm.findClass RX6 = some m.cls := findClass_of_methodNamed B.named
  have hlocks := B.notSynchronized
  subst hsz
  have hD := hD0.self (sz := s.heap.size)
  generalize hAe : va_A (W_Value cI a x) s.heap.size = A at hD hE ⊢
  have hA : ∀ q : Nat, s.heap.size ≤ q → A q := fun q h => by rw [← hAe]; exact Or.inr h
  have hS : va_S A s.heap s.heap [] := va_S.rf
  have hl := lv_entry ([.ref (a 0)]) (n := 1) (Nat.le_of_ble_eq_true rfl)
  rw [lg_entry_eq]
  generalize (lg_sl ([.ref (a 0)]) ++ List.replicate (1 - (lg_sl ([.ref (a 0)])).length) Slot.unset).toArray = ls at hl ⊢
  have hl : lv_has ls 1 [(0, .ref (a 0))] := hl
  have M0 : ∀ (H : Heap) (locs : List Loc) (ls : Array Slot), fX6_isSmall x = some res → va_P D vwCl (W_Value cI a x) H → va_D A (W_Value cI a x) → va_S A s.heap H locs → lv_has ls 1 [(0, .ref (a 0))] → W p l e ({ frames := 0, cells := 0, slots := 0, locals := 0 } : Room) s m ([.ref (a 0)] : List Value).toArray below meth c H locs 0 0 (MQ below (QW D (TY cI cV cJ cD) (W_Value cI a x) A (some (.int res))) (([.ref (a 0)] : List Value).toArray) s 0 0 A) (F0 m 0 ls []) := by
    intro H locs ls hf hP hD hS hl
    dsimp only [fX6_isSmall] at hf
    refine lv_aload_n hx hb dX6_isSmall_0 rfl (lv_at hl 0 rfl) ?_
    refine va_get (D := D) (ci := 5) (v := .ref (a (vlFm x))) (C := RX6) (T := TX6) (N := 10) hx hb hg in_X6 hown hK hP 0 rfl rfl 9 (by decide) (hg _ w144) (fun _ h9 => h9) rfl dX6_isSmall_1 ?_
    refine lv_aload_n hx hb dX6_isSmall_4 rfl (lv_at hl 0 rfl) ?_
    refine va_get (D := D) (ci := 5) (v := .ref (a 1)) (C := RX6) (T := TX6) (N := 10) hx hb hg in_X6 hown hK hP 0 rfl rfl 4 (by decide) (hg _ w136) (fun _ h9 => h9) rfl dX6_isSmall_5 ?_
    obtain ⟨hq2, hf⟩ := chk_t hf
    refine lv_acmp_ne (tgt := 15) (rx := some (a (vlFm x))) (ry := some (a 1)) hx hb dX6_isSmall_8 (by decide) (fun c1 => ?_) (fun c1 => ?_)
    · have c1 : ¬ (vlFm x) = 1 := fun h9 => c1 (by rw [h9])
      replace hf := if_f c1 hf
      refine lv_iconst (v := 0) hx hb dX6_isSmall_15 (by decide) ?_
      obtain rfl := Option.some.inj hf
      exact W.zret (v := 0) hx hb hr (by decide +kernel) (fun t ht hW => ⟨rfl, by rw [ht]; exact hP, va_K.moved hW.alike hK, hD, hS.F ht⟩) hS.2.2 dX6_isSmall_16 hlocks
    · have c1 : (vlFm x) = 1 := by
        rcases isF_t hq2 with h9 | h9 | h9
        · exact h9
        · exact absurd (Option.some.inj (h9 ▸ c1)) (k_ne hD 4 1 rfl rfl (by decide))
        · exact absurd (Option.some.inj (h9 ▸ c1)) (k_ne hD 8 1 rfl rfl (by decide))
      replace hf := if_t c1 hf
      refine lv_iconst (v := 1) hx hb dX6_isSmall_11 (by decide) ?_
      refine lv_goto (tgt := 16) hx hb dX6_isSmall_12 (by decide) ?_
      obtain rfl := Option.some.inj hf
      exact W.zret (v := 1) hx hb hr (by decide +kernel) (fun t ht hW => ⟨rfl, by rw [ht]; exact hP, va_K.moved hW.alike hK, hD, hS.F ht⟩) hS.2.2 dX6_isSmall_16 hlocks
  exact M0 s.heap [] ls hf hP hD hS hl
/-! Compactforms$Value.count()I -/
def fX6_count (x : VSt) : Option (Int32) := some (rwN (vlPl x))
set_option maxHeartbeats 4000000 in
set_option maxRecDepth 100000 in
theorem met_X6_count {D : va_G} {cI cV cJ cD : ClassId} (l : Launch) (a : Nat → Nat) (x : VSt) (res : Int32) (hf : fX6_count x = some res) : MM l yX6_count cX6_count 1 (some .int) { frames := 0, cells := 0, slots := 0, locals := 0 } D (TY cI cV cJ cD) (W_Value cI a x) (W_Value cI a x) [.ref (a 0)] (some (.int res)) := by
  intro sz
  refine Met.ofW (cc := cX6_count) (maxL := 1) (ret := (some .int)) (by decide +kernel) rfl ?_
  intro p e s m args below meth c s₁ B hml hv
  obtain ⟨rfl, hsz, hP, hK, hD0, hE⟩ := hv
  have hx := B.exec
  have hb := B.bytes
  have hr := B.returns
  have hts := atoms_spec (ws := .code yX6_count cX6_count 1 (some .int) :: GW) B.pre
  have hg : ∀ w ∈ GW, w.before (([.ref (a 0)] : List Value).toArray) s = true := fun w h => hts w (List.mem_cons_of_mem _ h)
  have hown : s.vm.findClass RX6 = some m.cls := findClass_of_methodNamed B.named
  have hlocks := B.notSynchronized
  subst hsz
  have hD := hD0.self (sz := s.heap.size)
  generalize hAe : va_A (W_Value cI a x) s.heap.size = A at hD hE ⊢
  have hA : ∀ q : Nat, s.heap.size ≤ q → A q := fun q h => by rw [← hAe]; exact Or.inr h
  have hS : va_S A s.heap s.heap [] := va_S.rf
  have hl := lv_entry ([.ref (a 0)]) (n := 1) (Nat.le_of_ble_eq_true rfl)
  rw [lg_entry_eq]
  generalize (lg_sl ([.ref (a 0)]) ++ List.replicate (1 - (lg_sl ([.ref (a 0)])).length) Slot.unset).toArray = ls at hl ⊢
  have hl : lv_has ls 1 [(0, .ref (a 0))] := hl
  have M0 : ∀ (H : Heap) (locs : List Loc) (ls : Array Slot), fX6_count x = some res → va_P D vwCl (W_Value cI a x) H → va_D A (W_Value cI a x) → va_S A s.heap H locs → lv_has ls 1 [(0, .ref (a 0))] → W p l e ({ frames := 0, cells := 0, slots := 0, locals := 0 } : Room) s m ([.ref (a 0)] : List Value).toArray below meth c H locs 0 0 (MQ below (QW D (TY cI cV cJ cD) (W_Value cI a x) A (some (.int res))) (([.ref (a 0)] : List Value).toArray) s 0 0 A) (F0 m 0 ls []) := by
    intro H locs ls hf hP hD hS hl
    dsimp only [fX6_count] at hf
    refine lv_aload_n hx hb dX6_count_0 rfl (lv_at hl 0 rfl) ?_
    refine va_get (D := D) (ci := 5) (v := .ref (a 12)) (C := RX6) (T := TX6) (N := 10) hx hb hg in_X6 hown hK hP 0 rfl rfl 7 (by decide) (hg _ w140) (fun _ h9 => h9) rfl dX6_count_1 ?_
    refine va_getN (D := D) (ci := 3) (v := .int (rwN (vlPl x))) (C := RX4) (T := TX4) (N := 3) hx hb hg in_X4 hown hK hP 12 rfl rfl 2 (by decide) (nwF_62 hE.1) (fun _ h9 => h9) rfl dX6_count_4 ?_
    obtain rfl := Option.some.inj hf
    exact W.iret (v := (rwN (vlPl x))) hx hb hr (fun t ht hW => ⟨rfl, by rw [ht]; exact hP, va_K.moved hW.alike hK, hD, hS.F ht⟩) hS.2.2 dX6_count_7 hlocks
  exact M0 s.heap [] ls hf hP hD hS hl
/-! Compactforms$Value.make(II)V -/
def fX6_make (x : VSt) (p1 : Int32) (p2 : Int32) : Option (VSt) := keep (vlHeld_s x 1) (fun x1 => keep (vlTyp_s x1 p1) (fun x2 => keep (vlEnd_s x2 (-1)) (fun x3 => keep (vlId_s x3 p2) (fun x4 => keep (vlFm_s x4 1) (fun x5 => (fX4_makeEmpty 16 (vlSm x5)).bind (fun u6 => keep (vlSm_s x5 u6) (fun x8 => (fX4_makeEmpty 40 (vlPl x8)).bind (fun u9 => keep (vlPl_s x8 u9) (fun x11 => (fX2_makeEmpty (vlGr x11)).bind (fun u12 => keep (vlGr_s x11 u12) (fun x14 => some x14)))))))))))
set_option maxHeartbeats 4000000 in
set_option maxRecDepth 100000 in
theorem met_X6_make {D : va_G} {cI cV cJ cD : ClassId} (l : Launch) (a : Nat → Nat) (x : VSt) (p1 : Int32) (p2 : Int32) (res : VSt) (hf : fX6_make x p1 p2 = some res) : MM l yX6_make cX6_make 3 none { frames := 2, cells := 0, slots := 0, locals := 43 } D (TY cI cV cJ cD) (W_Value cI a x) (W_Value cI a res) [.ref (a 0), .int p1, .int p2] none := by
  intro sz
  refine Met.ofW (cc := cX6_make) (maxL := 3) (ret := none) (by decide +kernel) rfl ?_
  intro p e s m args below meth c s₁ B hml hv
  obtain ⟨rfl, hsz, hP, hK, hD0, hE⟩ := hv
  have hx := B.exec
  have hb := B.bytes
  have hr := B.returns
  have hts := atoms_spec (ws := .code yX6_make cX6_make 3 none :: GW) B.pre
  have hg : ∀ w ∈ GW, w.before (([.ref (a 0), .int p1, .int p2] : List Value).toArray) s = true := fun w h => hts w (List.mem_cons_of_mem _ h)
  have hown : s.vm.findClass RX6 = some m.cls := findClass_of_methodNamed B.named
  have hlocks := B.notSynchronized
  subst hsz
  have hD := hD0.self (sz := s.heap.size)
  generalize hAe : va_A (W_Value cI a x) s.heap.size = A at hD hE ⊢
  have hA : ∀ q : Nat, s.heap.size ≤ q → A q := fun q h => by rw [← hAe]; exact Or.inr h
  have hS : va_S A s.heap s.heap [] := va_S.rf
  have hl := lv_entry ([.ref (a 0), .int p1, .int p2]) (n := 3) (Nat.le_of_ble_eq_true rfl)
  rw [lg_entry_eq]
  generalize (lg_sl ([.ref (a 0), .int p1, .int p2]) ++ List.replicate (3 - (lg_sl ([.ref (a 0), .int p1, .int p2])).length) Slot.unset).toArray = ls at hl ⊢
  have hl : lv_has ls 3 [(0, .ref (a 0)), (1, .int p1), (2, .int p2)] := hl
  have M0 : ∀ (H : Heap) (locs : List Loc) (ls : Array Slot), fX6_make x p1 p2 = some res → va_P D vwCl (W_Value cI a x) H → va_D A (W_Value cI a x) → va_S A s.heap H locs → lv_has ls 3 [(0, .ref (a 0)), (1, .int p1), (2, .int p2)] → W p l e ({ frames := 2, cells := 0, slots := 0, locals := 43 } : Room) s m ([.ref (a 0), .int p1, .int p2] : List Value).toArray below meth c H locs 0 0 (MQ below (QW D (TY cI cV cJ cD) (W_Value cI a res) A none) (([.ref (a 0), .int p1, .int p2] : List Value).toArray) s 0 0 A) (F0 m 0 ls []) := by
    intro H locs ls hf hP hD hS hl
    dsimp only [fX6_make] at hf
    refine lv_aload_n hx hb dX6_make_0 rfl (lv_at hl 0 rfl) ?_
    refine lv_iconst (v := 1) hx hb dX6_make_1 (by decide) ?_
    refine va_put (D := D) (ci := 5) (v := .int 1) (ty := .boolean) (C := RX6) (T := TX6) (N := 10) hx hb hg in_X6 tyX6 tyX6_ok nmX6 hown hK hP hD hS 0 rfl rfl 0 (by decide) (hg _ w128) (fun _ h9 => h9) rfl (by decide +kernel) (by decide +kernel) (by decide +kernel) (Nat.le_of_ble_eq_true rfl) dX6_make_2 (fun H locs hP hD hS => ?_)
    obtain ⟨x1, hx1⟩ : ∃ z, z = (vlHeld_s x 1) := ⟨_, rfl⟩
    replace hf := keep_e hf x1 hx1
    have hP : va_P D vwCl (W_Value cI a x1) H := by rw [hx1]; exact hP
    have hD : va_D A (W_Value cI a x1) := by rw [hx1]; exact hD
    refine lv_aload_n hx hb dX6_make_5 rfl (lv_at hl 0 rfl) ?_
    refine lv_iload_n hx hb dX6_make_6 rfl (lv_at hl 1 rfl) ?_
    refine va_put (D := D) (ci := 5) (v := .int p1) (ty := .int) (C := RX6) (T := TX6) (N := 10) hx hb hg in_X6 tyX6 tyX6_ok nmX6 hown hK hP hD hS 0 rfl rfl 1 (by decide) (hg _ w130) (fun _ h9 => h9) rfl (by decide +kernel) rfl rfl (Nat.le_of_ble_eq_true rfl) dX6_make_7 (fun H locs hP hD hS => ?_)
    obtain ⟨x2, hx2⟩ : ∃ z, z = (vlTyp_s x1 p1) := ⟨_, rfl⟩
    replace hf := keep_e hf x2 hx2
    have hP : va_P D vwCl (W_Value cI a x2) H := by rw [hx2]; exact hP
    have hD : va_D A (W_Value cI a x2) := by rw [hx2]; exact hD
    refine lv_aload_n hx hb dX6_make_10 rfl (lv_at hl 0 rfl) ?_
    refine lv_iconst (v := (-1)) hx hb dX6_make_11 (by decide) ?_
    refine va_put (D := D) (ci := 5) (v := .int (-1)) (ty := .int) (C := RX6) (T := TX6) (N := 10) hx hb hg in_X6 tyX6 tyX6_ok nmX6 hown hK hP hD hS 0 rfl rfl 2 (by decide) (hg _ w132) (fun _ h9 => h9) rfl (by decide +kernel) rfl rfl (Nat.le_of_ble_eq_true rfl) dX6_make_12 (fun H locs hP hD hS => ?_)
    obtain ⟨x3, hx3⟩ : ∃ z, z = (vlEnd_s x2 (-1)) := ⟨_, rfl⟩
    replace hf := keep_e hf x3 hx3
    have hP : va_P D vwCl (W_Value cI a x3) H := by rw [hx3]; exact hP
    have hD : va_D A (W_Value cI a x3) := by rw [hx3]; exact hD
    refine lv_aload_n hx hb dX6_make_15 rfl (lv_at hl 0 rfl) ?_
    refine lv_iload_n hx hb dX6_make_16 rfl (lv_at hl 2 rfl) ?_
    refine va_put (D := D) (ci := 5) (v := .int p2) (ty := .int) (C := RX6) (T := TX6) (N := 10) hx hb hg in_X6 tyX6 tyX6_ok nmX6 hown hK hP hD hS 0 rfl rfl 3 (by decide) (hg _ w134) (fun _ h9 => h9) rfl (by decide +kernel) rfl rfl (Nat.le_of_ble_eq_true rfl) dX6_make_17 (fun H locs hP hD hS => ?_)
    obtain ⟨x4, hx4⟩ : ∃ z, z = (vlId_s x3 p2) := ⟨_, rfl⟩
    replace hf := keep_e hf x4 hx4
    have hP : va_P D vwCl (W_Value cI a x4) H := by rw [hx4]; exact hP
    have hD : va_D A (W_Value cI a x4) := by rw [hx4]; exact hD
    refine lv_aload_n hx hb dX6_make_20 rfl (lv_at hl 0 rfl) ?_
    refine lv_aload_n hx hb dX6_make_21 rfl (lv_at hl 0 rfl) ?_
    refine va_get (D := D) (ci := 5) (v := .ref (a 1)) (C := RX6) (T := TX6) (N := 10) hx hb hg in_X6 hown hK hP 0 rfl rfl 4 (by decide) (hg _ w136) (fun _ h9 => h9) rfl dX6_make_22 ?_
    refine va_put (D := D) (ci := 5) (v := .ref (a 1)) (ty := (.object "Compactforms$Form")) (C := RX6) (T := TX6) (N := 10) hx hb hg in_X6 tyX6 tyX6_ok nmX6 hown hK hP hD hS 0 rfl rfl 9 (by decide) (hg _ w144) (fun _ h9 => h9) rfl (by decide +kernel) rfl rfl (Nat.le_of_ble_eq_true rfl) dX6_make_25 (fun H locs hP hD hS => ?_)
    obtain ⟨x5, hx5⟩ : ∃ z, z = (vlFm_s x4 1) := ⟨_, rfl⟩
    replace hf := keep_e hf x5 hx5
    have hP : va_P D vwCl (W_Value cI a x5) H := by rw [hx5]; exact hP
    have hD : va_D A (W_Value cI a x5) := by rw [hx5]; exact hD
    refine lv_aload_n hx hb dX6_make_28 rfl (lv_at hl 0 rfl) ?_
    refine va_get (D := D) (ci := 5) (v := .ref (a 1)) (C := RX6) (T := TX6) (N := 10) hx hb hg in_X6 hown hK hP 0 rfl rfl 4 (by decide) (hg _ w136) (fun _ h9 => h9) rfl dX6_make_29 ?_
    obtain ⟨u6, hc7, hf⟩ := bind_t hf
    refine k_V (As := []) (rest := []) (n := 0) ⟨hx, hb, hml, hown, hts⟩ (met_X4_makeEmpty l 16 (fun j => a (1 + j)) (vlSm x5) u6 hc7) w419 w420 w421 w5 w422 ⟨rfl, by decide +kernel, by decide +kernel, by decide +kernel⟩ ⟨Nat.le_of_ble_eq_true rfl, Nat.le_of_ble_eq_true rfl⟩ hK hE hP hD hS hA (isC := [1, 2, 3]) (isR := [0, 4, 5, 6, 7, 8, 9, 10, 11, 12, 13, 14, 15, 16, 17]) (isB := [0, 15, 16, 17, 1, 2, 3, 4, 5, 6, 7, 8, 9, 10, 11, 12, 13, 14]) (ws' := W_Value cI a (vlSm_s x5 u6)) ⟨([0, 4, 5, 6, 7, 8, 9, 10, 11, 12, 13, 14, 15, 16, 17] : List Nat).filterMap (fun i : Nat => (W_Value cI a x5 : va_W)[i]?), rfl, rfl, rfl, rfl, by decide, rfl, rfl⟩ 1 3 rfl rfl rfl rfl hl.1 rfl (Nat.le_of_ble_eq_true rfl) dX6_make_32 ⟨Nat.le_of_ble_eq_true rfl, Nat.le_of_ble_eq_true rfl⟩ (fun H locs hP hD hS => ?_)
    try dsimp only at hf
    refine W.eq (g2 := F0 m 35 ls []) rfl ?_
    obtain ⟨x8, hx8⟩ : ∃ z, z = (vlSm_s x5 u6) := ⟨_, rfl⟩
    replace hf := keep_e hf x8 hx8
    have hP : va_P D vwCl (W_Value cI a x8) H := by rw [hx8]; exact hP
    have hD : va_D A (W_Value cI a x8) := by rw [hx8]; exact hD
    refine lv_aload_n hx hb dX6_make_35 rfl (lv_at hl 0 rfl) ?_
    refine va_get (D := D) (ci := 5) (v := .ref (a 12)) (C := RX6) (T := TX6) (N := 10) hx hb hg in_X6 hown hK hP 0 rfl rfl 7 (by decide) (hg _ w140) (fun _ h9 => h9) rfl dX6_make_36 ?_
    obtain ⟨u9, hc10, hf⟩ := bind_t hf
    refine k_V (As := []) (rest := []) (n := 0) ⟨hx, hb, hml, hown, hts⟩ (met_X4_makeEmpty l 40 (fun j => a (12 + j)) (vlPl x8) u9 hc10) w419 w420 w421 w5 w422 ⟨rfl, by decide +kernel, by decide +kernel, by decide +kernel⟩ ⟨Nat.le_of_ble_eq_true rfl, Nat.le_of_ble_eq_true rfl⟩ hK hE hP hD hS hA (isC := [12, 13, 14]) (isR := [0, 1, 2, 3, 4, 5, 6, 7, 8, 9, 10, 11, 15, 16, 17]) (isB := [0, 1, 2, 3, 4, 5, 6, 7, 8, 9, 10, 11, 15, 16, 17, 12, 13, 14]) (ws' := W_Value cI a (vlPl_s x8 u9)) ⟨([0, 1, 2, 3, 4, 5, 6, 7, 8, 9, 10, 11, 15, 16, 17] : List Nat).filterMap (fun i : Nat => (W_Value cI a x8 : va_W)[i]?), rfl, rfl, rfl, rfl, by decide, rfl, rfl⟩ 12 3 rfl rfl rfl rfl hl.1 rfl (Nat.le_of_ble_eq_true rfl) dX6_make_39 ⟨Nat.le_of_ble_eq_true rfl, Nat.le_of_ble_eq_true rfl⟩ (fun H locs hP hD hS => ?_)
    try dsimp only at hf
    refine W.eq (g2 := F0 m 42 ls []) rfl ?_
    obtain ⟨x11, hx11⟩ : ∃ z, z = (vlPl_s x8 u9) := ⟨_, rfl⟩
    replace hf := keep_e hf x11 hx11
    have hP : va_P D vwCl (W_Value cI a x11) H := by rw [hx11]; exact hP
    have hD : va_D A (W_Value cI a x11) := by rw [hx11]; exact hD
    refine lv_aload_n hx hb dX6_make_42 rfl (lv_at hl 0 rfl) ?_
    refine va_get (D := D) (ci := 5) (v := .ref (a 15)) (C := RX6) (T := TX6) (N := 10) hx hb hg in_X6 hown hK hP 0 rfl rfl 8 (by decide) (hg _ w142) (fun _ h9 => h9) rfl dX6_make_43 ?_
    obtain ⟨u12, hc13, hf⟩ := bind_t hf
    refine k_V (As := []) (rest := []) (n := 0) ⟨hx, hb, hml, hown, hts⟩ (met_X2_makeEmpty l (fun j => a (15 + j)) (vlGr x11) u12 hc13) w423 w424 w425 w8 w426 ⟨rfl, by decide +kernel, by decide +kernel, by decide +kernel⟩ ⟨Nat.le_of_ble_eq_true rfl, Nat.le_of_ble_eq_true rfl⟩ hK hE hP hD hS hA (isC := [15, 16, 17]) (isR := [0, 1, 2, 3, 4, 5, 6, 7, 8, 9, 10, 11, 12, 13, 14]) (isB := [0, 1, 2, 3, 4, 5, 6, 7, 8, 9, 10, 11, 12, 13, 14, 15, 16, 17]) (ws' := W_Value cI a (vlGr_s x11 u12)) ⟨([0, 1, 2, 3, 4, 5, 6, 7, 8, 9, 10, 11, 12, 13, 14] : List Nat).filterMap (fun i : Nat => (W_Value cI a x11 : va_W)[i]?), rfl, rfl, rfl, rfl, by decide, rfl, rfl⟩ 15 1 rfl rfl rfl rfl hl.1 rfl (Nat.le_of_ble_eq_true rfl) dX6_make_46 ⟨Nat.le_of_ble_eq_true rfl, Nat.le_of_ble_eq_true rfl⟩ (fun H locs hP hD hS => ?_)
    try dsimp only at hf
    refine W.eq (g2 := F0 m 49 ls []) rfl ?_
    obtain ⟨x14, hx14⟩ : ∃ z, z = (vlGr_s x11 u12) := ⟨_, rfl⟩
    replace hf := keep_e hf x14 hx14
    have hP : va_P D vwCl (W_Value cI a x14) H := by rw [hx14]; exact hP
    have hD : va_D A (W_Value cI a x14) := by rw [hx14]; exact hD
    obtain rfl := Option.some.inj hf
    exact W.vret hx hb hr (fun t ht hW => ⟨rfl, by rw [ht]; exact hP, va_K.moved hW.alike hK, hD, hS.F ht⟩) hS.2.2 dX6_make_49 hlocks
  exact M0 s.heap [] ls hf hP hD hS hl
/-! Compactforms$Value.outgrowsSmall(I)Z -/
def fX6_outgrowsSmall (x : VSt) (p1 : Int32) : Option (Int32) := keep ((rwN (vlPl x)) + 1) (fun y1 => (if (vlTyp x) = 1 then (if 8 < y1 then some 1 else (if p1 ≤ 255 then some 0 else some 1)) else (if (vlTyp x) = 2 then (if y1 ≤ 8 then some 0 else some 1) else (if (vlTyp x) = 3 then (if y1 ≤ 6 then some 0 else some 1) else (if y1 ≤ 16 then some 0 else some 1)))))
set_option maxHeartbeats 4000000 in
set_option maxRecDepth 100000 in
theorem met_X6_outgrowsSmall {D : va_G} {cI cV cJ cD : ClassId} (l : Launch) (a : Nat → Nat) (x : VSt) (p1 : Int32) (res : Int32) (hf : fX6_outgrowsSmall x p1 = some res) : MM l yX6_outgrowsSmall cX6_outgrowsSmall 3 (some .boolean) { frames := 0, cells := 0, slots := 0, locals := 0 } D (TY cI cV cJ cD) (W_Value cI a x) (W_Value cI a x) [.ref (a 0), .int p1] (some (.int res)) := by
  intro sz
  refine Met.ofW (cc := cX6_outgrowsSmall) (maxL := 3) (ret := (some .boolean)) (by decide +kernel) rfl ?_
  intro p e s m args below meth c s₁ B hml hv
  obtain ⟨rfl, hsz, hP, hK, hD0, hE⟩ := hv
  have hx := B.exec
  have hb := B.bytes
  have hr := B.returns
  have hts := atoms_spec (ws := .code yX6_outgrowsSmall cX6_outgrowsSmall 3 (some .boolean) :: GW) B.pre
  have hg : ∀ w ∈ GW, w.before (([.ref (a 0), .int p1] : List Value).toArray) s = true := fun w h => hts w (List.mem_cons_of_mem _ h)
  have hown : s.vm.findClass RX6 = some m.cls := findClass_of_methodNamed B.named
  have hlocks := B.notSynchronized
  subst hsz
  have hD := hD0.self (sz := s.heap.size)
  generalize hAe : va_A (W_Value cI a x) s.heap.size = A at hD hE ⊢
  have hA : ∀ q : Nat, s.heap.size ≤ q → A q := fun q h => by rw [← hAe]; exact Or.inr h
  have hS : va_S A s.heap s.heap [] := va_S.rf
  have hl := lv_entry ([.ref (a 0), .int p1]) (n := 3) (Nat.le_of_ble_eq_true rfl)
  rw [lg_entry_eq]
  generalize (lg_sl ([.ref (a 0), .int p1]) ++ List.replicate (3 - (lg_sl ([.ref (a 0), .int p1])).length) Slot.unset).toArray = ls at hl ⊢
  have hl : lv_has ls 3 [(0, .ref (a 0)), (1, .int p1)] := hl
  have M0 : ∀ (H : Heap) (locs : List Loc) (ls : Array Slot), fX6_outgrowsSmall x p1 = some res → va_P D vwCl (W_Value cI a x) H → va_D A (W_Value cI a x) → va_S A s.heap H locs → lv_has ls 3 [(0, .ref (a 0)), (1, .int p1)] → W p l e ({ frames := 0, cells := 0, slots := 0, locals := 0 } : Room) s m ([.ref (a 0), .int p1] : List Value).toArray below meth c H locs 0 0 (MQ below (QW D (TY cI cV cJ cD) (W_Value cI a x) A (some (.int res))) (([.ref (a 0), .int p1] : List Value).toArray) s 0 0 A) (F0 m 0 ls []) := by
    intro H locs ls hf hP hD hS hl
    dsimp only [fX6_outgrowsSmall] at hf
    refine lv_aload_n hx hb dX6_outgrowsSmall_0 rfl (lv_at hl 0 rfl) ?_
    refine va_get (D := D) (ci := 5) (v := .ref (a 12)) (C := RX6) (T := TX6) (N := 10) hx hb hg in_X6 hown hK hP 0 rfl rfl 7 (by decide) (hg _ w140) (fun _ h9 => h9) rfl dX6_outgrowsSmall_1 ?_
    refine va_getN (D := D) (ci := 3) (v := .int (rwN (vlPl x))) (C := RX4) (T := TX4) (N := 3) hx hb hg in_X4 hown hK hP 12 rfl rfl 2 (by decide) (nwF_62 hE.1) (fun _ h9 => h9) rfl dX6_outgrowsSmall_4 ?_
    refine lv_iconst (v := 1) hx hb dX6_outgrowsSmall_7 (by decide) ?_
    refine lv_iadd hx hb dX6_outgrowsSmall_8 ?_
    refine lv_topi (fun y1 hy1 => ?_)
    replace hf := keep_e hf y1 hy1
    refine lv_istore_n (lv' := [(2, .int y1), (0, .ref (a 0)), (1, .int p1)]) hx hb dX6_outgrowsSmall_9 rfl hl (by decide) rfl (fun ls hl => ?_)
    refine lv_aload_n hx hb dX6_outgrowsSmall_10 rfl (lv_at hl 1 rfl) ?_
    refine va_get (D := D) (ci := 5) (v := .int (vlTyp x)) (C := RX6) (T := TX6) (N := 10) hx hb hg in_X6 hown hK hP 0 rfl rfl 1 (by decide) (hg _ w130) (fun _ h9 => h9) rfl dX6_outgrowsSmall_11 ?_
    by_cases c2 : (vlTyp x) = 1
    · replace hf := if_t c2 hf
      refine k_tsw (tgt := 40) hx hb dX6_outgrowsSmall_14 1 c2 (by decide) (by decide) rfl (by decide) ?_
      refine lv_iload_n hx hb dX6_outgrowsSmall_40 rfl (lv_at hl 0 rfl) ?_
      refine lv_bipush (v := 8) hx hb dX6_outgrowsSmall_41 (by decide) ?_
      refine lv_icmp_gt (tgt := 53) hx hb dX6_outgrowsSmall_43 (by decide) (fun c3 => ?_) (fun c3 => ?_)
      · replace hf := if_t c3 hf
        refine lv_iconst (v := 1) hx hb dX6_outgrowsSmall_53 (by decide) ?_
        refine lv_goto (tgt := 58) hx hb dX6_outgrowsSmall_54 (by decide) ?_
        obtain rfl := Option.some.inj hf
        exact W.zret (v := 1) hx hb hr (by decide +kernel) (fun t ht hW => ⟨rfl, by rw [ht]; exact hP, va_K.moved hW.alike hK, hD, hS.F ht⟩) hS.2.2 dX6_outgrowsSmall_58 hlocks
      · replace hf := if_f c3 hf
        refine lv_iload_n hx hb dX6_outgrowsSmall_46 rfl (lv_at hl 2 rfl) ?_
        refine lv_sipush (v := 255) hx hb dX6_outgrowsSmall_47 (by decide) ?_
        refine lv_icmp_le (tgt := 57) hx hb dX6_outgrowsSmall_50 (by decide) (fun c4 => ?_) (fun c4 => ?_)
        · replace hf := if_t c4 hf
          refine lv_iconst (v := 0) hx hb dX6_outgrowsSmall_57 (by decide) ?_
          obtain rfl := Option.some.inj hf
          exact W.zret (v := 0) hx hb hr (by decide +kernel) (fun t ht hW => ⟨rfl, by rw [ht]; exact hP, va_K.moved hW.alike hK, hD, hS.F ht⟩) hS.2.2 dX6_outgrowsSmall_58 hlocks
        · replace hf := if_f c4 hf
          refine lv_iconst (v := 1) hx hb dX6_outgrowsSmall_53 (by decide) ?_
          refine lv_goto (tgt := 58) hx hb dX6_outgrowsSmall_54 (by decide) ?_
          obtain rfl := Option.some.inj hf
          exact W.zret (v := 1) hx hb hr (by decide +kernel) (fun t ht hW => ⟨rfl, by rw [ht]; exact hP, va_K.moved hW.alike hK, hD, hS.F ht⟩) hS.2.2 dX6_outgrowsSmall_58 hlocks
    replace hf := if_f c2 hf
    by_cases c5 : (vlTyp x) = 2
    · replace hf := if_t c5 hf
      refine k_tsw (tgt := 59) hx hb dX6_outgrowsSmall_14 2 c5 (by decide) (by decide) rfl (by decide) ?_
      refine lv_iload_n hx hb dX6_outgrowsSmall_59 rfl (lv_at hl 0 rfl) ?_
      refine lv_bipush (v := 8) hx hb dX6_outgrowsSmall_60 (by decide) ?_
      refine lv_icmp_le (tgt := 69) hx hb dX6_outgrowsSmall_62 (by decide) (fun c6 => ?_) (fun c6 => ?_)
      · replace hf := if_t c6 hf
        refine lv_iconst (v := 0) hx hb dX6_outgrowsSmall_69 (by decide) ?_
        obtain rfl := Option.some.inj hf
        exact W.zret (v := 0) hx hb hr (by decide +kernel) (fun t ht hW => ⟨rfl, by rw [ht]; exact hP, va_K.moved hW.alike hK, hD, hS.F ht⟩) hS.2.2 dX6_outgrowsSmall_70 hlocks
      · replace hf := if_f c6 hf
        refine lv_iconst (v := 1) hx hb dX6_outgrowsSmall_65 (by decide) ?_
        refine lv_goto (tgt := 70) hx hb dX6_outgrowsSmall_66 (by decide) ?_
        obtain rfl := Option.some.inj hf
        exact W.zret (v := 1) hx hb hr (by decide +kernel) (fun t ht hW => ⟨rfl, by rw [ht]; exact hP, va_K.moved hW.alike hK, hD, hS.F ht⟩) hS.2.2 dX6_outgrowsSmall_70 hlocks
    replace hf := if_f c5 hf
    by_cases c7 : (vlTyp x) = 3
    · replace hf := if_t c7 hf
      refine k_tsw (tgt := 71) hx hb dX6_outgrowsSmall_14 3 c7 (by decide) (by decide) rfl (by decide) ?_
      refine lv_iload_n hx hb dX6_outgrowsSmall_71 rfl (lv_at hl 0 rfl) ?_
      refine lv_bipush (v := 6) hx hb dX6_outgrowsSmall_72 (by decide) ?_
      refine lv_icmp_le (tgt := 81) hx hb dX6_outgrowsSmall_74 (by decide) (fun c8 => ?_) (fun c8 => ?_)
      · replace hf := if_t c8 hf
        refine lv_iconst (v := 0) hx hb dX6_outgrowsSmall_81 (by decide) ?_
        obtain rfl := Option.some.inj hf
        exact W.zret (v := 0) hx hb hr (by decide +kernel) (fun t ht hW => ⟨rfl, by rw [ht]; exact hP, va_K.moved hW.alike hK, hD, hS.F ht⟩) hS.2.2 dX6_outgrowsSmall_82 hlocks
      · replace hf := if_f c8 hf
        refine lv_iconst (v := 1) hx hb dX6_outgrowsSmall_77 (by decide) ?_
        refine lv_goto (tgt := 82) hx hb dX6_outgrowsSmall_78 (by decide) ?_
        obtain rfl := Option.some.inj hf
        exact W.zret (v := 1) hx hb hr (by decide +kernel) (fun t ht hW => ⟨rfl, by rw [ht]; exact hP, va_K.moved hW.alike hK, hD, hS.F ht⟩) hS.2.2 dX6_outgrowsSmall_82 hlocks
    replace hf := if_f c7 hf
    refine lv_tableOut (tgt := 83) hx hb dX6_outgrowsSmall_14 (by have q0 := lv_neT c2 (show (1 : Int32).toInt = 1 by decide); have q1 := lv_neT c5 (show (2 : Int32).toInt = 2 by decide); have q2 := lv_neT c7 (show (3 : Int32).toInt = 3 by decide); omega) (by decide) ?_
    refine lv_iload_n hx hb dX6_outgrowsSmall_83 rfl (lv_at hl 0 rfl) ?_
    refine lv_bipush (v := 16) hx hb dX6_outgrowsSmall_84 (by decide) ?_
    refine lv_icmp_le (tgt := 93) hx hb dX6_outgrowsSmall_86 (by decide) (fun c9 => ?_) (fun c9 => ?_)
    · replace hf := if_t c9 hf
      refine lv_iconst (v := 0) hx hb dX6_outgrowsSmall_93 (by decide) ?_
      obtain rfl := Option.some.inj hf
      exact W.zret (v := 0) hx hb hr (by decide +kernel) (fun t ht hW => ⟨rfl, by rw [ht]; exact hP, va_K.moved hW.alike hK, hD, hS.F ht⟩) hS.2.2 dX6_outgrowsSmall_94 hlocks
    · replace hf := if_f c9 hf
      refine lv_iconst (v := 1) hx hb dX6_outgrowsSmall_89 (by decide) ?_
      refine lv_goto (tgt := 94) hx hb dX6_outgrowsSmall_90 (by decide) ?_
      obtain rfl := Option.some.inj hf
      exact W.zret (v := 1) hx hb hr (by decide +kernel) (fun t ht hW => ⟨rfl, by rw [ht]; exact hP, va_K.moved hW.alike hK, hD, hS.F ht⟩) hS.2.2 dX6_outgrowsSmall_94 hlocks
  exact M0 s.heap [] ls hf hP hD hS hl
/-! Compactforms$Value.becomeBig()V -/
def fX6_becomeBig_32 (rec32 : VSt × Int32 → Option (VSt)) (s : VSt × Int32) : Option (VSt) := match s with | (x, v1) => (if (rwN (vlSm x)) ≤ v1 then some x else (fX4_valueAt 16 (vlSm x) v1).bind (fun u2 => (fX4_bitsAt 16 (vlSm x) v1).bind (fun u4 => sel (vlFm x) ((fX4_putIn 16 (vlSm x) v1 u2 u4).bind (fun u7 => keep (vlSm_s x u7) (fun x9 => keep (v1 + 1) (fun y16 => rec32 (x9, y16))))) ((fX0_putIn (vlCh x) v1 u2 u4).bind (fun u10 => keep (vlCh_s x u10) (fun x12 => keep (v1 + 1) (fun y17 => rec32 (x12, y17))))) ((fX5_putIn (vlTb x) v1 u2 u4).bind (fun u13 => keep (vlTb_s x u13) (fun x15 => keep (v1 + 1) (fun y18 => rec32 (x15, y18))))))))
def fX6_becomeBig (x : VSt) : Option (VSt) := (if (vlTyp x) = 2 then keep (vlFm_s x 8) (fun x31 => sel (vlFm x31) ((fX4_makeEmpty 16 (vlSm x31)).bind (fun u33 => keep (vlSm_s x31 u33) (fun x35 => iterK FU (fX6_becomeBig_32 ) (x35, 0)))) ((fX0_makeEmpty (vlCh x31)).bind (fun u36 => keep (vlCh_s x31 u36) (fun x38 => iterK FU (fX6_becomeBig_32 ) (x38, 0)))) ((fX5_makeEmpty (vlTb x31)).bind (fun u39 => keep (vlTb_s x31 u39) (fun x41 => iterK FU (fX6_becomeBig_32 ) (x41, 0))))) else keep (vlFm_s x 4) (fun x20 => sel (vlFm x20) ((fX4_makeEmpty 16 (vlSm x20)).bind (fun u22 => keep (vlSm_s x20 u22) (fun x24 => iterK FU (fX6_becomeBig_32 ) (x24, 0)))) ((fX0_makeEmpty (vlCh x20)).bind (fun u25 => keep (vlCh_s x20 u25) (fun x27 => iterK FU (fX6_becomeBig_32 ) (x27, 0)))) ((fX5_makeEmpty (vlTb x20)).bind (fun u28 => keep (vlTb_s x20 u28) (fun x30 => iterK FU (fX6_becomeBig_32 ) (x30, 0))))))
set_option maxHeartbeats 4000000 in
set_option maxRecDepth 100000 in
theorem met_X6_becomeBig {D : va_G} {cI cV cJ cD : ClassId} (l : Launch) (a : Nat → Nat) (x : VSt) (res : VSt) (hf : fX6_becomeBig x = some res) : MM l yX6_becomeBig cX6_becomeBig 2 none { frames := 2, cells := 0, slots := 0, locals := 83 } D (TY cI cV cJ cD) (W_Value cI a x) (W_Value cI a res) [.ref (a 0)] none := by
  intro sz
  refine Met.ofW (cc := cX6_becomeBig) (maxL := 2) (ret := none) (by decide +kernel) rfl ?_
  intro p e s m args below meth c s₁ B hml hv
  obtain ⟨rfl, hsz, hP, hK, hD0, hE⟩ := hv
  have hx := B.exec
  have hb := B.bytes
  have hr := B.returns
  have hts := atoms_spec (ws := .code yX6_becomeBig cX6_becomeBig 2 none :: GW) B.pre
  have hg : ∀ w ∈ GW, w.before (([.ref (a 0)] : List Value).toArray) s = true := fun w h => hts w (List.mem_cons_of_mem _ h)
  have hown : s.vm.findClass RX6 = some m.cls := findClass_of_methodNamed B.named
  have hlocks := B.notSynchronized
  subst hsz
  have hD := hD0.self (sz := s.heap.size)
  generalize hAe : va_A (W_Value cI a x) s.heap.size = A at hD hE ⊢
  have hA : ∀ q : Nat, s.heap.size ≤ q → A q := fun q h => by rw [← hAe]; exact Or.inr h
  have hS : va_S A s.heap s.heap [] := va_S.rf
  have hl := lv_entry ([.ref (a 0)]) (n := 2) (Nat.le_of_ble_eq_true rfl)
  rw [lg_entry_eq]
  generalize (lg_sl ([.ref (a 0)]) ++ List.replicate (2 - (lg_sl ([.ref (a 0)])).length) Slot.unset).toArray = ls at hl ⊢
  have hl : lv_has ls 2 [(0, .ref (a 0))] := hl
  have S32 : ∀ (rec32 : VSt × Int32 → Option (VSt)) (hrec32 : ∀ (x : VSt), ∀ (v1 : Int32), ∀ (H : Heap) (locs : List Loc) (ls : Array Slot), rec32 (x, v1) = some res → va_P D vwCl (W_Value cI a x) H → va_D A (W_Value cI a x) → va_S A s.heap H locs → lv_has ls 2 [(0, .ref (a 0)), (1, .int v1)] → W p l e ({ frames := 2, cells := 0, slots := 0, locals := 83 } : Room) s m ([.ref (a 0)] : List Value).toArray below meth c H locs 0 0 (MQ below (QW D (TY cI cV cJ cD) (W_Value cI a res) A none) (([.ref (a 0)] : List Value).toArray) s 0 0 A) (F0 m 32 ls [])) (x : VSt) (v1 : Int32) (H : Heap) (locs : List Loc) (ls : Array Slot), fX6_becomeBig_32  rec32 (x, v1) = some res → va_P D vwCl (W_Value cI a x) H → va_D A (W_Value cI a x) → va_S A s.heap H locs → lv_has ls 2 [(0, .ref (a 0)), (1, .int v1)] → W p l e ({ frames := 2, cells := 0, slots := 0, locals := 83 } : Room) s m ([.ref (a 0)] : List Value).toArray below meth c H locs 0 0 (MQ below (QW D (TY cI cV cJ cD) (W_Value cI a res) A none) (([.ref (a 0)] : List Value).toArray) s 0 0 A) (F0 m 32 ls []) := by
    intro rec32 hrec32 x v1 H locs ls hf hP hD hS hl
    dsimp only [fX6_becomeBig_32] at hf
    refine lv_iload_n hx hb dX6_becomeBig_32 rfl (lv_at hl 1 rfl) ?_
    refine lv_aload_n hx hb dX6_becomeBig_33 rfl (lv_at hl 0 rfl) ?_
    refine va_get (D := D) (ci := 5) (v := .ref (a 1)) (C := RX6) (T := TX6) (N := 10) hx hb hg in_X6 hown hK hP 0 rfl rfl 4 (by decide) (hg _ w136) (fun _ h9 => h9) rfl dX6_becomeBig_34 ?_
    refine va_getN (D := D) (ci := 3) (v := .int (rwN (vlSm x))) (C := RX4) (T := TX4) (N := 3) hx hb hg in_X4 hown hK hP 1 rfl rfl 2 (by decide) (nwF_62 hE.1) (fun _ h9 => h9) rfl dX6_becomeBig_37 ?_
    refine lv_icmp_ge (tgt := 73) hx hb dX6_becomeBig_40 (by decide) (fun c1 => ?_) (fun c1 => ?_)
    · replace hf := if_t c1 hf
      obtain rfl := Option.some.inj hf
      exact W.vret hx hb hr (fun t ht hW => ⟨rfl, by rw [ht]; exact hP, va_K.moved hW.alike hK, hD, hS.F ht⟩) hS.2.2 dX6_becomeBig_73 hlocks
    · replace hf := if_f c1 hf
      refine lv_aload_n hx hb dX6_becomeBig_43 rfl (lv_at hl 0 rfl) ?_
      refine va_get (D := D) (ci := 5) (v := .ref (a (vlFm x))) (C := RX6) (T := TX6) (N := 10) hx hb hg in_X6 hown hK hP 0 rfl rfl 9 (by decide) (hg _ w144) (fun _ h9 => h9) rfl dX6_becomeBig_44 ?_
      refine lv_iload_n hx hb dX6_becomeBig_47 rfl (lv_at hl 1 rfl) ?_
      refine lv_aload_n hx hb dX6_becomeBig_48 rfl (lv_at hl 0 rfl) ?_
      refine va_get (D := D) (ci := 5) (v := .ref (a 1)) (C := RX6) (T := TX6) (N := 10) hx hb hg in_X6 hown hK hP 0 rfl rfl 4 (by decide) (hg _ w136) (fun _ h9 => h9) rfl dX6_becomeBig_49 ?_
      refine lv_iload_n hx hb dX6_becomeBig_52 rfl (lv_at hl 1 rfl) ?_
      obtain ⟨u2, hc3, hf⟩ := bind_t hf
      refine k_V (As := [.int v1]) (rest := [.int v1, .ref (a (vlFm x))]) (n := 1) ⟨hx, hb, hml, hown, hts⟩ (met_X4_valueAt l 16 (fun j => a (1 + j)) (vlSm x) v1 u2 hc3) w453 w454 w455 w5 w456 ⟨rfl, by decide +kernel, by decide +kernel, by decide +kernel⟩ ⟨Nat.le_of_ble_eq_true rfl, Nat.le_of_ble_eq_true rfl⟩ hK hE hP hD hS hA (isC := [1, 2, 3]) (isR := [0, 4, 5, 6, 7, 8, 9, 10, 11, 12, 13, 14, 15, 16, 17]) (isB := [0, 15, 16, 17, 1, 2, 3, 4, 5, 6, 7, 8, 9, 10, 11, 12, 13, 14]) (ws' := W_Value cI a x) ⟨([0, 4, 5, 6, 7, 8, 9, 10, 11, 12, 13, 14, 15, 16, 17] : List Nat).filterMap (fun i : Nat => (W_Value cI a x : va_W)[i]?), rfl, rfl, rfl, rfl, by decide, rfl, rfl⟩ 1 3 rfl rfl rfl rfl hl.1 rfl (Nat.le_of_ble_eq_true rfl) dX6_becomeBig_53 ⟨Nat.le_of_ble_eq_true rfl, Nat.le_of_ble_eq_true rfl⟩ (fun H locs hP hD hS => ?_)
      try dsimp only at hf
      refine W.eq (g2 := F0 m 56 ls [.int u2, .int v1, .ref (a (vlFm x))]) rfl ?_
      refine lv_aload_n hx hb dX6_becomeBig_56 rfl (lv_at hl 0 rfl) ?_
      refine va_get (D := D) (ci := 5) (v := .ref (a 1)) (C := RX6) (T := TX6) (N := 10) hx hb hg in_X6 hown hK hP 0 rfl rfl 4 (by decide) (hg _ w136) (fun _ h9 => h9) rfl dX6_becomeBig_57 ?_
      refine lv_iload_n hx hb dX6_becomeBig_60 rfl (lv_at hl 1 rfl) ?_
      obtain ⟨u4, hc5, hf⟩ := bind_t hf
      refine k_V (As := [.int v1]) (rest := [.int u2, .int v1, .ref (a (vlFm x))]) (n := 1) ⟨hx, hb, hml, hown, hts⟩ (met_X4_bitsAt l 16 (fun j => a (1 + j)) (vlSm x) v1 u4 hc5) w457 w458 w459 w5 w460 ⟨rfl, by decide +kernel, by decide +kernel, by decide +kernel⟩ ⟨Nat.le_of_ble_eq_true rfl, Nat.le_of_ble_eq_true rfl⟩ hK hE hP hD hS hA (isC := [1, 2, 3]) (isR := [0, 4, 5, 6, 7, 8, 9, 10, 11, 12, 13, 14, 15, 16, 17]) (isB := [0, 15, 16, 17, 1, 2, 3, 4, 5, 6, 7, 8, 9, 10, 11, 12, 13, 14]) (ws' := W_Value cI a x) ⟨([0, 4, 5, 6, 7, 8, 9, 10, 11, 12, 13, 14, 15, 16, 17] : List Nat).filterMap (fun i : Nat => (W_Value cI a x : va_W)[i]?), rfl, rfl, rfl, rfl, by decide, rfl, rfl⟩ 1 3 rfl rfl rfl rfl hl.1 rfl (Nat.le_of_ble_eq_true rfl) dX6_becomeBig_61 ⟨Nat.le_of_ble_eq_true rfl, Nat.le_of_ble_eq_true rfl⟩ (fun H locs hP hD hS => ?_)
      try dsimp only at hf
      refine W.eq (g2 := F0 m 64 ls [.int u4, .int u2, .int v1, .ref (a (vlFm x))]) rfl ?_
      rcases sel_t hf with ⟨hq6, hf⟩ | ⟨hq6, hf⟩ | ⟨hq6, hf⟩
      · rw [hq6]
        obtain ⟨u7, hc8, hf⟩ := bind_t hf
        refine k_U (owner := "Compactforms$Form") (x := ⟨"Compactforms$Form", "putIn", "(III)V"⟩) (As := [.int v1, .int u2, .int u4]) (rest := []) (n := 3) ⟨hx, hb, hml, hown, hts⟩ (met_X4_putIn l 16 (fun j => a (1 + j)) (vlSm x) v1 u2 u4 u7 hc8) w461 w463 w471 w472 w5 w473 (hE.1.2.2.1 _ (List.mem_append_left _ (List.mem_of_getElem? (i := 1) rfl))) ⟨by decide +kernel, by decide +kernel, by decide +kernel⟩ ⟨Nat.le_of_ble_eq_true rfl, Nat.le_of_ble_eq_true rfl⟩ hK hE hP hD hS hA (isC := [1, 2, 3]) (isR := [0, 4, 5, 6, 7, 8, 9, 10, 11, 12, 13, 14, 15, 16, 17]) (isB := [0, 15, 16, 17, 1, 2, 3, 4, 5, 6, 7, 8, 9, 10, 11, 12, 13, 14]) (ws' := W_Value cI a (vlSm_s x u7)) ⟨([0, 4, 5, 6, 7, 8, 9, 10, 11, 12, 13, 14, 15, 16, 17] : List Nat).filterMap (fun i : Nat => (W_Value cI a x : va_W)[i]?), rfl, rfl, rfl, rfl, by decide, rfl, rfl⟩ 1 3 rfl rfl rfl rfl hl.1 rfl (Nat.le_of_ble_eq_true rfl) dX6_becomeBig_64 ⟨Nat.le_of_ble_eq_true rfl, Nat.le_of_ble_eq_true rfl⟩ (fun H locs hP hD hS => ?_)
        try dsimp only at hf
        refine W.eq (g2 := F0 m 67 ls []) rfl ?_
        obtain ⟨x9, hx9⟩ : ∃ z, z = (vlSm_s x u7) := ⟨_, rfl⟩
        replace hf := keep_e hf x9 hx9
        have hP : va_P D vwCl (W_Value cI a x9) H := by rw [hx9]; exact hP
        have hD : va_D A (W_Value cI a x9) := by rw [hx9]; exact hD
        obtain ⟨y16, hy16⟩ : ∃ z : Int32, z = (v1 + 1) := ⟨_, rfl⟩
        replace hf := keep_e hf y16 hy16
        refine lv_iinc (v := y16) (lv' := [(1, .int y16), (0, .ref (a 0))]) hx hb dX6_becomeBig_67 hl (k := 1) rfl (by rw [hy16]; rfl) (by decide) rfl (fun ls hl => ?_)
        refine lv_goto (tgt := 32) hx hb dX6_becomeBig_70 (by decide) ?_
        exact hrec32 x9 y16 H locs ls hf hP hD hS (lv_sub hl [1, 0] rfl)
      · rw [hq6]
        obtain ⟨u10, hc11, hf⟩ := bind_t hf
        refine k_U (owner := "Compactforms$Form") (x := ⟨"Compactforms$Form", "putIn", "(III)V"⟩) (As := [.int v1, .int u2, .int u4]) (rest := []) (n := 3) ⟨hx, hb, hml, hown, hts⟩ (met_X0_putIn l (fun j => a (4 + j)) (vlCh x) v1 u2 u4 u10 hc11) w461 w463 w464 w465 w6 w466 (hE.1.2.2.1 _ (List.mem_append_left _ (List.mem_of_getElem? (i := 1) rfl))) ⟨by decide +kernel, by decide +kernel, by decide +kernel⟩ ⟨Nat.le_of_ble_eq_true rfl, Nat.le_of_ble_eq_true rfl⟩ hK hE hP hD hS hA (isC := [4, 5, 6, 7]) (isR := [0, 1, 2, 3, 8, 9, 10, 11, 12, 13, 14, 15, 16, 17]) (isB := [0, 1, 2, 3, 14, 15, 16, 17, 4, 5, 6, 7, 8, 9, 10, 11, 12, 13]) (ws' := W_Value cI a (vlCh_s x u10)) ⟨([0, 1, 2, 3, 8, 9, 10, 11, 12, 13, 14, 15, 16, 17] : List Nat).filterMap (fun i : Nat => (W_Value cI a x : va_W)[i]?), rfl, rfl, rfl, rfl, by decide, rfl, rfl⟩ 4 0 rfl rfl rfl rfl hl.1 rfl (Nat.le_of_ble_eq_true rfl) dX6_becomeBig_64 ⟨Nat.le_of_ble_eq_true rfl, Nat.le_of_ble_eq_true rfl⟩ (fun H locs hP hD hS => ?_)
        try dsimp only at hf
        refine W.eq (g2 := F0 m 67 ls []) rfl ?_
        obtain ⟨x12, hx12⟩ : ∃ z, z = (vlCh_s x u10) := ⟨_, rfl⟩
        replace hf := keep_e hf x12 hx12
        have hP : va_P D vwCl (W_Value cI a x12) H := by rw [hx12]; exact hP
        have hD : va_D A (W_Value cI a x12) := by rw [hx12]; exact hD
        obtain ⟨y17, hy17⟩ : ∃ z : Int32, z = (v1 + 1) := ⟨_, rfl⟩
        replace hf := keep_e hf y17 hy17
        refine lv_iinc (v := y17) (lv' := [(1, .int y17), (0, .ref (a 0))]) hx hb dX6_becomeBig_67 hl (k := 1) rfl (by rw [hy17]; rfl) (by decide) rfl (fun ls hl => ?_)
        refine lv_goto (tgt := 32) hx hb dX6_becomeBig_70 (by decide) ?_
        exact hrec32 x12 y17 H locs ls hf hP hD hS (lv_sub hl [1, 0] rfl)
      · rw [hq6]
        obtain ⟨u13, hc14, hf⟩ := bind_t hf
        refine k_U (owner := "Compactforms$Form") (x := ⟨"Compactforms$Form", "putIn", "(III)V"⟩) (As := [.int v1, .int u2, .int u4]) (rest := []) (n := 3) ⟨hx, hb, hml, hown, hts⟩ (met_X5_putIn l (fun j => a (8 + j)) (vlTb x) v1 u2 u4 u13 hc14) w461 w463 w477 w478 w7 w479 (hE.1.2.2.1 _ (List.mem_append_left _ (List.mem_of_getElem? (i := 1) rfl))) ⟨by decide +kernel, by decide +kernel, by decide +kernel⟩ ⟨Nat.le_of_ble_eq_true rfl, Nat.le_of_ble_eq_true rfl⟩ hK hE hP hD hS hA (isC := [8, 9, 10, 11]) (isR := [0, 1, 2, 3, 4, 5, 6, 7, 12, 13, 14, 15, 16, 17]) (isB := [0, 1, 2, 3, 4, 5, 6, 7, 14, 15, 16, 17, 8, 9, 10, 11, 12, 13]) (ws' := W_Value cI a (vlTb_s x u13)) ⟨([0, 1, 2, 3, 4, 5, 6, 7, 12, 13, 14, 15, 16, 17] : List Nat).filterMap (fun i : Nat => (W_Value cI a x : va_W)[i]?), rfl, rfl, rfl, rfl, by decide, rfl, rfl⟩ 8 4 rfl rfl rfl rfl hl.1 rfl (Nat.le_of_ble_eq_true rfl) dX6_becomeBig_64 ⟨Nat.le_of_ble_eq_true rfl, Nat.le_of_ble_eq_true rfl⟩ (fun H locs hP hD hS => ?_)
        try dsimp only at hf
        refine W.eq (g2 := F0 m 67 ls []) rfl ?_
        obtain ⟨x15, hx15⟩ : ∃ z, z = (vlTb_s x u13) := ⟨_, rfl⟩
        replace hf := keep_e hf x15 hx15
        have hP : va_P D vwCl (W_Value cI a x15) H := by rw [hx15]; exact hP
        have hD : va_D A (W_Value cI a x15) := by rw [hx15]; exact hD
        obtain ⟨y18, hy18⟩ : ∃ z : Int32, z = (v1 + 1) := ⟨_, rfl⟩
        replace hf := keep_e hf y18 hy18
        refine lv_iinc (v := y18) (lv' := [(1, .int y18), (0, .ref (a 0))]) hx hb dX6_becomeBig_67 hl (k := 1) rfl (by rw [hy18]; rfl) (by decide) rfl (fun ls hl => ?_)
        refine lv_goto (tgt := 32) hx hb dX6_becomeBig_70 (by decide) ?_
        exact hrec32 x15 y18 H locs ls hf hP hD hS (lv_sub hl [1, 0] rfl)
  have L32 : ∀ (fu : Nat) (x : VSt) (v1 : Int32) (H : Heap) (locs : List Loc) (ls : Array Slot), iterK fu (fX6_becomeBig_32 ) (x, v1) = some res → va_P D vwCl (W_Value cI a x) H → va_D A (W_Value cI a x) → va_S A s.heap H locs → lv_has ls 2 [(0, .ref (a 0)), (1, .int v1)] → W p l e ({ frames := 2, cells := 0, slots := 0, locals := 83 } : Room) s m ([.ref (a 0)] : List Value).toArray below meth c H locs 0 0 (MQ below (QW D (TY cI cV cJ cD) (W_Value cI a res) A none) (([.ref (a 0)] : List Value).toArray) s 0 0 A) (F0 m 32 ls []) := by
    intro fu
    induction fu with
    | zero =>
      intro x v1 H locs ls hf
      cases hf
    | succ fu ih =>
      intro x v1 H locs ls hf hP hD hS hl
      exact S32 (iterK fu (fX6_becomeBig_32 )) ih x v1 H locs ls hf hP hD hS hl
  have M0 : ∀ (H : Heap) (locs : List Loc) (ls : Array Slot), fX6_becomeBig x = some res → va_P D vwCl (W_Value cI a x) H → va_D A (W_Value cI a x) → va_S A s.heap H locs → lv_has ls 2 [(0, .ref (a 0))] → W p l e ({ frames := 2, cells := 0, slots := 0, locals := 83 } : Room) s m ([.ref (a 0)] : List Value).toArray below meth c H locs 0 0 (MQ below (QW D (TY cI cV cJ cD) (W_Value cI a res) A none) (([.ref (a 0)] : List Value).toArray) s 0 0 A) (F0 m 0 ls []) := by
    intro H locs ls hf hP hD hS hl
    dsimp only [fX6_becomeBig] at hf
    refine lv_aload_n hx hb dX6_becomeBig_0 rfl (lv_at hl 0 rfl) ?_
    refine lv_aload_n hx hb dX6_becomeBig_1 rfl (lv_at hl 0 rfl) ?_
    refine va_get (D := D) (ci := 5) (v := .int (vlTyp x)) (C := RX6) (T := TX6) (N := 10) hx hb hg in_X6 hown hK hP 0 rfl rfl 1 (by decide) (hg _ w130) (fun _ h9 => h9) rfl dX6_becomeBig_2 ?_
    refine lv_iconst (v := 2) hx hb dX6_becomeBig_5 (by decide) ?_
    refine lv_icmp_ne (tgt := 16) hx hb dX6_becomeBig_6 (by decide) (fun c19 => ?_) (fun c19 => ?_)
    · replace hf := if_f c19 hf
      refine lv_aload_n hx hb dX6_becomeBig_16 rfl (lv_at hl 0 rfl) ?_
      refine va_get (D := D) (ci := 5) (v := .ref (a 4)) (C := RX6) (T := TX6) (N := 10) hx hb hg in_X6 hown hK hP 0 rfl rfl 5 (by decide) (hg _ w137) (fun _ h9 => h9) rfl dX6_becomeBig_17 ?_
      refine va_put (D := D) (ci := 5) (v := .ref (a 4)) (ty := (.object "Compactforms$Form")) (C := RX6) (T := TX6) (N := 10) hx hb hg in_X6 tyX6 tyX6_ok nmX6 hown hK hP hD hS 0 rfl rfl 9 (by decide) (hg _ w144) (fun _ h9 => h9) rfl (by decide +kernel) rfl rfl (Nat.le_of_ble_eq_true rfl) dX6_becomeBig_20 (fun H locs hP hD hS => ?_)
      obtain ⟨x20, hx20⟩ : ∃ z, z = (vlFm_s x 4) := ⟨_, rfl⟩
      replace hf := keep_e hf x20 hx20
      have hP : va_P D vwCl (W_Value cI a x20) H := by rw [hx20]; exact hP
      have hD : va_D A (W_Value cI a x20) := by rw [hx20]; exact hD
      refine lv_aload_n hx hb dX6_becomeBig_23 rfl (lv_at hl 0 rfl) ?_
      refine va_get (D := D) (ci := 5) (v := .ref (a (vlFm x20))) (C := RX6) (T := TX6) (N := 10) hx hb hg in_X6 hown hK hP 0 rfl rfl 9 (by decide) (hg _ w144) (fun _ h9 => h9) rfl dX6_becomeBig_24 ?_
      rcases sel_t hf with ⟨hq21, hf⟩ | ⟨hq21, hf⟩ | ⟨hq21, hf⟩
      · rw [hq21]
        obtain ⟨u22, hc23, hf⟩ := bind_t hf
        refine k_U (owner := "Compactforms$Form") (x := ⟨"Compactforms$Form", "makeEmpty", "()V"⟩) (As := []) (rest := []) (n := 0) ⟨hx, hb, hml, hown, hts⟩ (met_X4_makeEmpty l 16 (fun j => a (1 + j)) (vlSm x20) u22 hc23) w442 w444 w448 w420 w5 w422 (hE.1.2.2.1 _ (List.mem_append_left _ (List.mem_of_getElem? (i := 0) rfl))) ⟨by decide +kernel, by decide +kernel, by decide +kernel⟩ ⟨Nat.le_of_ble_eq_true rfl, Nat.le_of_ble_eq_true rfl⟩ hK hE hP hD hS hA (isC := [1, 2, 3]) (isR := [0, 4, 5, 6, 7, 8, 9, 10, 11, 12, 13, 14, 15, 16, 17]) (isB := [0, 15, 16, 17, 1, 2, 3, 4, 5, 6, 7, 8, 9, 10, 11, 12, 13, 14]) (ws' := W_Value cI a (vlSm_s x20 u22)) ⟨([0, 4, 5, 6, 7, 8, 9, 10, 11, 12, 13, 14, 15, 16, 17] : List Nat).filterMap (fun i : Nat => (W_Value cI a x20 : va_W)[i]?), rfl, rfl, rfl, rfl, by decide, rfl, rfl⟩ 1 3 rfl rfl rfl rfl hl.1 rfl (Nat.le_of_ble_eq_true rfl) dX6_becomeBig_27 ⟨Nat.le_of_ble_eq_true rfl, Nat.le_of_ble_eq_true rfl⟩ (fun H locs hP hD hS => ?_)
        try dsimp only at hf
        refine W.eq (g2 := F0 m 30 ls []) rfl ?_
        obtain ⟨x24, hx24⟩ : ∃ z, z = (vlSm_s x20 u22) := ⟨_, rfl⟩
        replace hf := keep_e hf x24 hx24
        have hP : va_P D vwCl (W_Value cI a x24) H := by rw [hx24]; exact hP
        have hD : va_D A (W_Value cI a x24) := by rw [hx24]; exact hD
        refine lv_iconst (v := 0) hx hb dX6_becomeBig_30 (by decide) ?_
        refine lv_istore_n (lv' := [(1, .int 0), (0, .ref (a 0))]) hx hb dX6_becomeBig_31 rfl hl (by decide) rfl (fun ls hl => ?_)
        exact L32  FU x24 0 H locs ls hf hP hD hS (lv_sub hl [1, 0] rfl)
      · rw [hq21]
        obtain ⟨u25, hc26, hf⟩ := bind_t hf
        refine k_U (owner := "Compactforms$Form") (x := ⟨"Compactforms$Form", "makeEmpty", "()V"⟩) (As := []) (rest := []) (n := 0) ⟨hx, hb, hml, hown, hts⟩ (met_X0_makeEmpty l (fun j => a (4 + j)) (vlCh x20) u25 hc26) w442 w444 w445 w446 w6 w447 (hE.1.2.2.1 _ (List.mem_append_left _ (List.mem_of_getElem? (i := 0) rfl))) ⟨by decide +kernel, by decide +kernel, by decide +kernel⟩ ⟨Nat.le_of_ble_eq_true rfl, Nat.le_of_ble_eq_true rfl⟩ hK hE hP hD hS hA (isC := [4, 5, 6, 7]) (isR := [0, 1, 2, 3, 8, 9, 10, 11, 12, 13, 14, 15, 16, 17]) (isB := [0, 1, 2, 3, 14, 15, 16, 17, 4, 5, 6, 7, 8, 9, 10, 11, 12, 13]) (ws' := W_Value cI a (vlCh_s x20 u25)) ⟨([0, 1, 2, 3, 8, 9, 10, 11, 12, 13, 14, 15, 16, 17] : List Nat).filterMap (fun i : Nat => (W_Value cI a x20 : va_W)[i]?), rfl, rfl, rfl, rfl, by decide, rfl, rfl⟩ 4 0 rfl rfl rfl rfl hl.1 rfl (Nat.le_of_ble_eq_true rfl) dX6_becomeBig_27 ⟨Nat.le_of_ble_eq_true rfl, Nat.le_of_ble_eq_true rfl⟩ (fun H locs hP hD hS => ?_)
        try dsimp only at hf
        refine W.eq (g2 := F0 m 30 ls []) rfl ?_
        obtain ⟨x27, hx27⟩ : ∃ z, z = (vlCh_s x20 u25) := ⟨_, rfl⟩
        replace hf := keep_e hf x27 hx27
        have hP : va_P D vwCl (W_Value cI a x27) H := by rw [hx27]; exact hP
        have hD : va_D A (W_Value cI a x27) := by rw [hx27]; exact hD
        refine lv_iconst (v := 0) hx hb dX6_becomeBig_30 (by decide) ?_
        refine lv_istore_n (lv' := [(1, .int 0), (0, .ref (a 0))]) hx hb dX6_becomeBig_31 rfl hl (by decide) rfl (fun ls hl => ?_)
        exact L32  FU x27 0 H locs ls hf hP hD hS (lv_sub hl [1, 0] rfl)
      · rw [hq21]
        obtain ⟨u28, hc29, hf⟩ := bind_t hf
        refine k_U (owner := "Compactforms$Form") (x := ⟨"Compactforms$Form", "makeEmpty", "()V"⟩) (As := []) (rest := []) (n := 0) ⟨hx, hb, hml, hown, hts⟩ (met_X5_makeEmpty l (fun j => a (8 + j)) (vlTb x20) u28 hc29) w442 w444 w449 w450 w7 w451 (hE.1.2.2.1 _ (List.mem_append_left _ (List.mem_of_getElem? (i := 0) rfl))) ⟨by decide +kernel, by decide +kernel, by decide +kernel⟩ ⟨Nat.le_of_ble_eq_true rfl, Nat.le_of_ble_eq_true rfl⟩ hK hE hP hD hS hA (isC := [8, 9, 10, 11]) (isR := [0, 1, 2, 3, 4, 5, 6, 7, 12, 13, 14, 15, 16, 17]) (isB := [0, 1, 2, 3, 4, 5, 6, 7, 14, 15, 16, 17, 8, 9, 10, 11, 12, 13]) (ws' := W_Value cI a (vlTb_s x20 u28)) ⟨([0, 1, 2, 3, 4, 5, 6, 7, 12, 13, 14, 15, 16, 17] : List Nat).filterMap (fun i : Nat => (W_Value cI a x20 : va_W)[i]?), rfl, rfl, rfl, rfl, by decide, rfl, rfl⟩ 8 4 rfl rfl rfl rfl hl.1 rfl (Nat.le_of_ble_eq_true rfl) dX6_becomeBig_27 ⟨Nat.le_of_ble_eq_true rfl, Nat.le_of_ble_eq_true rfl⟩ (fun H locs hP hD hS => ?_)
        try dsimp only at hf
        refine W.eq (g2 := F0 m 30 ls []) rfl ?_
        obtain ⟨x30, hx30⟩ : ∃ z, z = (vlTb_s x20 u28) := ⟨_, rfl⟩
        replace hf := keep_e hf x30 hx30
        have hP : va_P D vwCl (W_Value cI a x30) H := by rw [hx30]; exact hP
        have hD : va_D A (W_Value cI a x30) := by rw [hx30]; exact hD
        refine lv_iconst (v := 0) hx hb dX6_becomeBig_30 (by decide) ?_
        refine lv_istore_n (lv' := [(1, .int 0), (0, .ref (a 0))]) hx hb dX6_becomeBig_31 rfl hl (by decide) rfl (fun ls hl => ?_)
        exact L32  FU x30 0 H locs ls hf hP hD hS (lv_sub hl [1, 0] rfl)
    · replace hf := if_t c19 hf
      refine lv_aload_n hx hb dX6_becomeBig_9 rfl (lv_at hl 0 rfl) ?_
      refine va_get (D := D) (ci := 5) (v := .ref (a 8)) (C := RX6) (T := TX6) (N := 10) hx hb hg in_X6 hown hK hP 0 rfl rfl 6 (by decide) (hg _ w138) (fun _ h9 => h9) rfl dX6_becomeBig_10 ?_
      refine lv_goto (tgt := 20) hx hb dX6_becomeBig_13 (by decide) ?_
      refine va_put (D := D) (ci := 5) (v := .ref (a 8)) (ty := (.object "Compactforms$Form")) (C := RX6) (T := TX6) (N := 10) hx hb hg in_X6 tyX6 tyX6_ok nmX6 hown hK hP hD hS 0 rfl rfl 9 (by decide) (hg _ w144) (fun _ h9 => h9) rfl (by decide +kernel) rfl rfl (Nat.le_of_ble_eq_true rfl) dX6_becomeBig_20 (fun H locs hP hD hS => ?_)
      obtain ⟨x31, hx31⟩ : ∃ z, z = (vlFm_s x 8) := ⟨_, rfl⟩
      replace hf := keep_e hf x31 hx31
      have hP : va_P D vwCl (W_Value cI a x31) H := by rw [hx31]; exact hP
      have hD : va_D A (W_Value cI a x31) := by rw [hx31]; exact hD
      refine lv_aload_n hx hb dX6_becomeBig_23 rfl (lv_at hl 0 rfl) ?_
      refine va_get (D := D) (ci := 5) (v := .ref (a (vlFm x31))) (C := RX6) (T := TX6) (N := 10) hx hb hg in_X6 hown hK hP 0 rfl rfl 9 (by decide) (hg _ w144) (fun _ h9 => h9) rfl dX6_becomeBig_24 ?_
      rcases sel_t hf with ⟨hq32, hf⟩ | ⟨hq32, hf⟩ | ⟨hq32, hf⟩
      · rw [hq32]
        obtain ⟨u33, hc34, hf⟩ := bind_t hf
        refine k_U (owner := "Compactforms$Form") (x := ⟨"Compactforms$Form", "makeEmpty", "()V"⟩) (As := []) (rest := []) (n := 0) ⟨hx, hb, hml, hown, hts⟩ (met_X4_makeEmpty l 16 (fun j => a (1 + j)) (vlSm x31) u33 hc34) w442 w444 w448 w420 w5 w422 (hE.1.2.2.1 _ (List.mem_append_left _ (List.mem_of_getElem? (i := 0) rfl))) ⟨by decide +kernel, by decide +kernel, by decide +kernel⟩ ⟨Nat.le_of_ble_eq_true rfl, Nat.le_of_ble_eq_true rfl⟩ hK hE hP hD hS hA (isC := [1, 2, 3]) (isR := [0, 4, 5, 6, 7, 8, 9, 10, 11, 12, 13, 14, 15, 16, 17]) (isB := [0, 15, 16, 17, 1, 2, 3, 4, 5, 6, 7, 8, 9, 10, 11, 12, 13, 14]) (ws' := W_Value cI a (vlSm_s x31 u33)) ⟨([0, 4, 5, 6, 7, 8, 9, 10, 11, 12, 13, 14, 15, 16, 17] : List Nat).filterMap (fun i : Nat => (W_Value cI a x31 : va_W)[i]?), rfl, rfl, rfl, rfl, by decide, rfl, rfl⟩ 1 3 rfl rfl rfl rfl hl.1 rfl (Nat.le_of_ble_eq_true rfl) dX6_becomeBig_27 ⟨Nat.le_of_ble_eq_true rfl, Nat.le_of_ble_eq_true rfl⟩ (fun H locs hP hD hS => ?_)
        try dsimp only at hf
        refine W.eq (g2 := F0 m 30 ls []) rfl ?_
        obtain ⟨x35, hx35⟩ : ∃ z, z = (vlSm_s x31 u33) := ⟨_, rfl⟩
        replace hf := keep_e hf x35 hx35
        have hP : va_P D vwCl (W_Value cI a x35) H := by rw [hx35]; exact hP
        have hD : va_D A (W_Value cI a x35) := by rw [hx35]; exact hD
        refine lv_iconst (v := 0) hx hb dX6_becomeBig_30 (by decide) ?_
        refine lv_istore_n (lv' := [(1, .int 0), (0, .ref (a 0))]) hx hb dX6_becomeBig_31 rfl hl (by decide) rfl (fun ls hl => ?_)
        exact L32  FU x35 0 H locs ls hf hP hD hS (lv_sub hl [1, 0] rfl)
      · rw [hq32]
        obtain ⟨u36, hc37, hf⟩ := bind_t hf
        refine k_U (owner := "Compactforms$Form") (x := ⟨"Compactforms$Form", "makeEmpty", "()V"⟩) (As := []) (rest := []) (n := 0) ⟨hx, hb, hml, hown, hts⟩ (met_X0_makeEmpty l (fun j => a (4 + j)) (vlCh x31) u36 hc37) w442 w444 w445 w446 w6 w447 (hE.1.2.2.1 _ (List.mem_append_left _ (List.mem_of_getElem? (i := 0) rfl))) ⟨by decide +kernel, by decide +kernel, by decide +kernel⟩ ⟨Nat.le_of_ble_eq_true rfl, Nat.le_of_ble_eq_true rfl⟩ hK hE hP hD hS hA (isC := [4, 5, 6, 7]) (isR := [0, 1, 2, 3, 8, 9, 10, 11, 12, 13, 14, 15, 16, 17]) (isB := [0, 1, 2, 3, 14, 15, 16, 17, 4, 5, 6, 7, 8, 9, 10, 11, 12, 13]) (ws' := W_Value cI a (vlCh_s x31 u36)) ⟨([0, 1, 2, 3, 8, 9, 10, 11, 12, 13, 14, 15, 16, 17] : List Nat).filterMap (fun i : Nat => (W_Value cI a x31 : va_W)[i]?), rfl, rfl, rfl, rfl, by decide, rfl, rfl⟩ 4 0 rfl rfl rfl rfl hl.1 rfl (Nat.le_of_ble_eq_true rfl) dX6_becomeBig_27 ⟨Nat.le_of_ble_eq_true rfl, Nat.le_of_ble_eq_true rfl⟩ (fun H locs hP hD hS => ?_)
        try dsimp only at hf
        refine W.eq (g2 := F0 m 30 ls []) rfl ?_
        obtain ⟨x38, hx38⟩ : ∃ z, z = (vlCh_s x31 u36) := ⟨_, rfl⟩
        replace hf := keep_e hf x38 hx38
        have hP : va_P D vwCl (W_Value cI a x38) H := by rw [hx38]; exact hP
        have hD : va_D A (W_Value cI a x38) := by rw [hx38]; exact hD
        refine lv_iconst (v := 0) hx hb dX6_becomeBig_30 (by decide) ?_
        refine lv_istore_n (lv' := [(1, .int 0), (0, .ref (a 0))]) hx hb dX6_becomeBig_31 rfl hl (by decide) rfl (fun ls hl => ?_)
        exact L32  FU x38 0 H locs ls hf hP hD hS (lv_sub hl [1, 0] rfl)
      · rw [hq32]
        obtain ⟨u39, hc40, hf⟩ := bind_t hf
        refine k_U (owner := "Compactforms$Form") (x := ⟨"Compactforms$Form", "makeEmpty", "()V"⟩) (As := []) (rest := []) (n := 0) ⟨hx, hb, hml, hown, hts⟩ (met_X5_makeEmpty l (fun j => a (8 + j)) (vlTb x31) u39 hc40) w442 w444 w449 w450 w7 w451 (hE.1.2.2.1 _ (List.mem_append_left _ (List.mem_of_getElem? (i := 0) rfl))) ⟨by decide +kernel, by decide +kernel, by decide +kernel⟩ ⟨Nat.le_of_ble_eq_true rfl, Nat.le_of_ble_eq_true rfl⟩ hK hE hP hD hS hA (isC := [8, 9, 10, 11]) (isR := [0, 1, 2, 3, 4, 5, 6, 7, 12, 13, 14, 15, 16, 17]) (isB := [0, 1, 2, 3, 4, 5, 6, 7, 14, 15, 16, 17, 8, 9, 10, 11, 12, 13]) (ws' := W_Value cI a (vlTb_s x31 u39)) ⟨([0, 1, 2, 3, 4, 5, 6, 7, 12, 13, 14, 15, 16, 17] : List Nat).filterMap (fun i : Nat => (W_Value cI a x31 : va_W)[i]?), rfl, rfl, rfl, rfl, by decide, rfl, rfl⟩ 8 4 rfl rfl rfl rfl hl.1 rfl (Nat.le_of_ble_eq_true rfl) dX6_becomeBig_27 ⟨Nat.le_of_ble_eq_true rfl, Nat.le_of_ble_eq_true rfl⟩ (fun H locs hP hD hS => ?_)
        try dsimp only at hf
        refine W.eq (g2 := F0 m 30 ls []) rfl ?_
        obtain ⟨x41, hx41⟩ : ∃ z, z = (vlTb_s x31 u39) := ⟨_, rfl⟩
        replace hf := keep_e hf x41 hx41
        have hP : va_P D vwCl (W_Value cI a x41) H := by rw [hx41]; exact hP
        have hD : va_D A (W_Value cI a x41) := by rw [hx41]; exact hD
        refine lv_iconst (v := 0) hx hb dX6_becomeBig_30 (by decide) ?_
        refine lv_istore_n (lv' := [(1, .int 0), (0, .ref (a 0))]) hx hb dX6_becomeBig_31 rfl hl (by decide) rfl (fun ls hl => ?_)
        exact L32  FU x41 0 H locs ls hf hP hD hS (lv_sub hl [1, 0] rfl)
  exact M0 s.heap [] ls hf hP hD hS hl
/-! Compactforms$Value.insert(III)I -/
def fX6_insert_33 (x : VSt) (v1 : Int32) (v2 : Int32) (v3 : Int32) : Option (VSt × Int32) := (fX4_putIn 40 (vlPl x) v1 v2 v3).bind (fun u1 => keep (vlPl_s x u1) (fun x3 => some (x3, (rwN (vlPl x3)))))
def fX6_insert_23 (x : VSt) (v1 : Int32) (v2 : Int32) (v3 : Int32) : Option (VSt × Int32) := sel (vlFm x) ((fX4_putIn 16 (vlSm x) v1 v2 v3).bind (fun u5 => keep (vlSm_s x u5) (fun x7 => fX6_insert_33 x7 v1 v2 v3))) ((fX0_putIn (vlCh x) v1 v2 v3).bind (fun u8 => keep (vlCh_s x u8) (fun x10 => fX6_insert_33 x10 v1 v2 v3))) ((fX5_putIn (vlTb x) v1 v2 v3).bind (fun u11 => keep (vlTb_s x u11) (fun x13 => fX6_insert_33 x13 v1 v2 v3)))
def fX6_insert (x : VSt) (p1 : Int32) (p2 : Int32) (p3 : Int32) : Option (VSt × Int32) := (chk (isF (vlFm x)) (if (vlFm x) = 1 then (fX6_outgrowsSmall x p2).bind (fun u16 => (if u16 = 0 then fX6_insert_23 x p1 p2 p3 else (fX6_becomeBig x).bind (fun u19 => keep u19 (fun x21 => fX6_insert_23 x21 p1 p2 p3)))) else fX6_insert_23 x p1 p2 p3))
set_option maxHeartbeats 4000000 in
set_option maxRecDepth 100000 in
theorem met_X6_insert {D : va_G} {cI cV cJ cD : ClassId} (l : Launch) (a : Nat → Nat) (x : VSt) (p1 : Int32) (p2 : Int32) (p3 : Int32) (res : VSt × Int32) (hf : fX6_insert x p1 p2 p3 = some res) : MM l yX6_insert cX6_insert 4 (some .int) { frames := 3, cells := 0, slots := 0, locals := 104 } D (TY cI cV cJ cD) (W_Value cI a x) (W_Value cI a res.1) [.ref (a 0), .int p1, .int p2, .int p3] (some (.int res.2)) := by
  intro sz
  refine Met.ofW (cc := cX6_insert) (maxL := 4) (ret := (some .int)) (by decide +kernel) rfl ?_
  intro p e s m args below meth c s₁ B hml hv
  obtain ⟨rfl, hsz, hP, hK, hD0, hE⟩ := hv
  have hx := B.exec
  have hb := B.bytes
  have hr := B.returns
  have hts := atoms_spec (ws := .code yX6_insert cX6_insert 4 (some .int) :: GW) B.pre
  have hg : ∀ w ∈ GW, w.before (([.ref (a 0), .int p1, .int p2, .int p3] : List Value).toArray) s = true := fun w h => hts w (List.mem_cons_of_mem _ h)
  have hown : s.vm.findClass RX6 = some m.cls := findClass_of_methodNamed B.named
  have hlocks := B.notSynchronized
  subst hsz
  have hD := hD0.self (sz := s.heap.size)
  generalize hAe : va_A (W_Value cI a x) s.heap.size = A at hD hE ⊢
  have hA : ∀ q : Nat, s.heap.size ≤ q → A q := fun q h => by rw [← hAe]; exact Or.inr h
  have hS : va_S A s.heap s.heap [] := va_S.rf
  have hl := lv_entry ([.ref (a 0), .int p1, .int p2, .int p3]) (n := 4) (Nat.le_of_ble_eq_true rfl)
  rw [lg_entry_eq]
  generalize (lg_sl ([.ref (a 0), .int p1, .int p2, .int p3]) ++ List.replicate (4 - (lg_sl ([.ref (a 0), .int p1, .int p2, .int p3])).length) Slot.unset).toArray = ls at hl ⊢
  have hl : lv_has ls 4 [(0, .ref (a 0)), (1, .int p1), (2, .int p2), (3, .int p3)] := hl
  have L33 : ∀ (x : VSt) (v1 : Int32) (v2 : Int32) (v3 : Int32) (H : Heap) (locs : List Loc) (ls : Array Slot), fX6_insert_33 x v1 v2 v3  = some res → va_P D vwCl (W_Value cI a x) H → va_D A (W_Value cI a x) → va_S A s.heap H locs → lv_has ls 4 [(0, .ref (a 0)), (1, .int v1), (2, .int v2), (3, .int v3)] → W p l e ({ frames := 3, cells := 0, slots := 0, locals := 104 } : Room) s m ([.ref (a 0), .int p1, .int p2, .int p3] : List Value).toArray below meth c H locs 0 0 (MQ below (QW D (TY cI cV cJ cD) (W_Value cI a res.1) A (some (.int res.2))) (([.ref (a 0), .int p1, .int p2, .int p3] : List Value).toArray) s 0 0 A) (F0 m 33 ls []) := by
    intro x v1 v2 v3 H locs ls hf hP hD hS hl
    dsimp only [fX6_insert_33] at hf
    refine lv_aload_n hx hb dX6_insert_33 rfl (lv_at hl 0 rfl) ?_
    refine va_get (D := D) (ci := 5) (v := .ref (a 12)) (C := RX6) (T := TX6) (N := 10) hx hb hg in_X6 hown hK hP 0 rfl rfl 7 (by decide) (hg _ w140) (fun _ h9 => h9) rfl dX6_insert_34 ?_
    refine lv_iload_n hx hb dX6_insert_37 rfl (lv_at hl 1 rfl) ?_
    refine lv_iload_n hx hb dX6_insert_38 rfl (lv_at hl 2 rfl) ?_
    refine lv_iload_n hx hb dX6_insert_39 rfl (lv_at hl 3 rfl) ?_
    obtain ⟨u1, hc2, hf⟩ := bind_t hf
    refine k_V (As := [.int v1, .int v2, .int v3]) (rest := []) (n := 3) ⟨hx, hb, hml, hown, hts⟩ (met_X4_putIn l 40 (fun j => a (12 + j)) (vlPl x) v1 v2 v3 u1 hc2) w488 w472 w795 w5 w473 ⟨rfl, by decide +kernel, by decide +kernel, by decide +kernel⟩ ⟨Nat.le_of_ble_eq_true rfl, Nat.le_of_ble_eq_true rfl⟩ hK hE hP hD hS hA (isC := [12, 13, 14]) (isR := [0, 1, 2, 3, 4, 5, 6, 7, 8, 9, 10, 11, 15, 16, 17]) (isB := [0, 1, 2, 3, 4, 5, 6, 7, 8, 9, 10, 11, 15, 16, 17, 12, 13, 14]) (ws' := W_Value cI a (vlPl_s x u1)) ⟨([0, 1, 2, 3, 4, 5, 6, 7, 8, 9, 10, 11, 15, 16, 17] : List Nat).filterMap (fun i : Nat => (W_Value cI a x : va_W)[i]?), rfl, rfl, rfl, rfl, by decide, rfl, rfl⟩ 12 3 rfl rfl rfl rfl hl.1 rfl (Nat.le_of_ble_eq_true rfl) dX6_insert_40 ⟨Nat.le_of_ble_eq_true rfl, Nat.le_of_ble_eq_true rfl⟩ (fun H locs hP hD hS => ?_)
    try dsimp only at hf
    refine W.eq (g2 := F0 m 43 ls []) rfl ?_
    obtain ⟨x3, hx3⟩ : ∃ z, z = (vlPl_s x u1) := ⟨_, rfl⟩
    replace hf := keep_e hf x3 hx3
    have hP : va_P D vwCl (W_Value cI a x3) H := by rw [hx3]; exact hP
    have hD : va_D A (W_Value cI a x3) := by rw [hx3]; exact hD
    refine lv_aload_n hx hb dX6_insert_43 rfl (lv_at hl 0 rfl) ?_
    refine va_get (D := D) (ci := 5) (v := .ref (a 12)) (C := RX6) (T := TX6) (N := 10) hx hb hg in_X6 hown hK hP 0 rfl rfl 7 (by decide) (hg _ w140) (fun _ h9 => h9) rfl dX6_insert_44 ?_
    refine va_getN (D := D) (ci := 3) (v := .int (rwN (vlPl x3))) (C := RX4) (T := TX4) (N := 3) hx hb hg in_X4 hown hK hP 12 rfl rfl 2 (by decide) (nwF_62 hE.1) (fun _ h9 => h9) rfl dX6_insert_47 ?_
    obtain rfl := Option.some.inj hf
    exact W.iret (v := (rwN (vlPl x3))) hx hb hr (fun t ht hW => ⟨rfl, by rw [ht]; exact hP, va_K.moved hW.alike hK, hD, hS.F ht⟩) hS.2.2 dX6_insert_50 hlocks
  have L23 : ∀ (x : VSt) (v1 : Int32) (v2 : Int32) (v3 : Int32) (H : Heap) (locs : List Loc) (ls : Array Slot), fX6_insert_23 x v1 v2 v3  = some res → va_P D vwCl (W_Value cI a x) H → va_D A (W_Value cI a x) → va_S A s.heap H locs → lv_has ls 4 [(0, .ref (a 0)), (1, .int v1), (2, .int v2), (3, .int v3)] → W p l e ({ frames := 3, cells := 0, slots := 0, locals := 104 } : Room) s m ([.ref (a 0), .int p1, .int p2, .int p3] : List Value).toArray below meth c H locs 0 0 (MQ below (QW D (TY cI cV cJ cD) (W_Value cI a res.1) A (some (.int res.2))) (([.ref (a 0), .int p1, .int p2, .int p3] : List Value).toArray) s 0 0 A) (F0 m 23 ls []) := by
    intro x v1 v2 v3 H locs ls hf hP hD hS hl
    dsimp only [fX6_insert_23] at hf
    refine lv_aload_n hx hb dX6_insert_23 rfl (lv_at hl 0 rfl) ?_
    refine va_get (D := D) (ci := 5) (v := .ref (a (vlFm x))) (C := RX6) (T := TX6) (N := 10) hx hb hg in_X6 hown hK hP 0 rfl rfl 9 (by decide) (hg _ w144) (fun _ h9 => h9) rfl dX6_insert_24 ?_
    refine lv_iload_n hx hb dX6_insert_27 rfl (lv_at hl 1 rfl) ?_
    refine lv_iload_n hx hb dX6_insert_28 rfl (lv_at hl 2 rfl) ?_
    refine lv_iload_n hx hb dX6_insert_29 rfl (lv_at hl 3 rfl) ?_
    rcases sel_t hf with ⟨hq4, hf⟩ | ⟨hq4, hf⟩ | ⟨hq4, hf⟩
    · rw [hq4]
      obtain ⟨u5, hc6, hf⟩ := bind_t hf
      refine k_U (owner := "Compactforms$Form") (x := ⟨"Compactforms$Form", "putIn", "(III)V"⟩) (As := [.int v1, .int v2, .int v3]) (rest := []) (n := 3) ⟨hx, hb, hml, hown, hts⟩ (met_X4_putIn l 16 (fun j => a (1 + j)) (vlSm x) v1 v2 v3 u5 hc6) w461 w463 w471 w472 w5 w473 (hE.1.2.2.1 _ (List.mem_append_left _ (List.mem_of_getElem? (i := 1) rfl))) ⟨by decide +kernel, by decide +kernel, by decide +kernel⟩ ⟨Nat.le_of_ble_eq_true rfl, Nat.le_of_ble_eq_true rfl⟩ hK hE hP hD hS hA (isC := [1, 2, 3]) (isR := [0, 4, 5, 6, 7, 8, 9, 10, 11, 12, 13, 14, 15, 16, 17]) (isB := [0, 15, 16, 17, 1, 2, 3, 4, 5, 6, 7, 8, 9, 10, 11, 12, 13, 14]) (ws' := W_Value cI a (vlSm_s x u5)) ⟨([0, 4, 5, 6, 7, 8, 9, 10, 11, 12, 13, 14, 15, 16, 17] : List Nat).filterMap (fun i : Nat => (W_Value cI a x : va_W)[i]?), rfl, rfl, rfl, rfl, by decide, rfl, rfl⟩ 1 3 rfl rfl rfl rfl hl.1 rfl (Nat.le_of_ble_eq_true rfl) dX6_insert_30 ⟨Nat.le_of_ble_eq_true rfl, Nat.le_of_ble_eq_true rfl⟩ (fun H locs hP hD hS => ?_)
      try dsimp only at hf
      refine W.eq (g2 := F0 m 33 ls []) rfl ?_
      obtain ⟨x7, hx7⟩ : ∃ z, z = (vlSm_s x u5) := ⟨_, rfl⟩
      replace hf := keep_e hf x7 hx7
      have hP : va_P D vwCl (W_Value cI a x7) H := by rw [hx7]; exact hP
      have hD : va_D A (W_Value cI a x7) := by rw [hx7]; exact hD
      exact L33 x7 v1 v2 v3 H locs ls hf hP hD hS (lv_sub hl [0, 1, 2, 3] rfl)
    · rw [hq4]
      obtain ⟨u8, hc9, hf⟩ := bind_t hf
      refine k_U (owner := "Compactforms$Form") (x := ⟨"Compactforms$Form", "putIn", "(III)V"⟩) (As := [.int v1, .int v2, .int v3]) (rest := []) (n := 3) ⟨hx, hb, hml, hown, hts⟩ (met_X0_putIn l (fun j => a (4 + j)) (vlCh x) v1 v2 v3 u8 hc9) w461 w463 w464 w465 w6 w466 (hE.1.2.2.1 _ (List.mem_append_left _ (List.mem_of_getElem? (i := 1) rfl))) ⟨by decide +kernel, by decide +kernel, by decide +kernel⟩ ⟨Nat.le_of_ble_eq_true rfl, Nat.le_of_ble_eq_true rfl⟩ hK hE hP hD hS hA (isC := [4, 5, 6, 7]) (isR := [0, 1, 2, 3, 8, 9, 10, 11, 12, 13, 14, 15, 16, 17]) (isB := [0, 1, 2, 3, 14, 15, 16, 17, 4, 5, 6, 7, 8, 9, 10, 11, 12, 13]) (ws' := W_Value cI a (vlCh_s x u8)) ⟨([0, 1, 2, 3, 8, 9, 10, 11, 12, 13, 14, 15, 16, 17] : List Nat).filterMap (fun i : Nat => (W_Value cI a x : va_W)[i]?), rfl, rfl, rfl, rfl, by decide, rfl, rfl⟩ 4 0 rfl rfl rfl rfl hl.1 rfl (Nat.le_of_ble_eq_true rfl) dX6_insert_30 ⟨Nat.le_of_ble_eq_true rfl, Nat.le_of_ble_eq_true rfl⟩ (fun H locs hP hD hS => ?_)
      try dsimp only at hf
      refine W.eq (g2 := F0 m 33 ls []) rfl ?_
      obtain ⟨x10, hx10⟩ : ∃ z, z = (vlCh_s x u8) := ⟨_, rfl⟩
      replace hf := keep_e hf x10 hx10
      have hP : va_P D vwCl (W_Value cI a x10) H := by rw [hx10]; exact hP
      have hD : va_D A (W_Value cI a x10) := by rw [hx10]; exact hD
      exact L33 x10 v1 v2 v3 H locs ls hf hP hD hS (lv_sub hl [0, 1, 2, 3] rfl)
    · rw [hq4]
      obtain ⟨u11, hc12, hf⟩ := bind_t hf
      refine k_U (owner := "Compactforms$Form") (x := ⟨"Compactforms$Form", "putIn", "(III)V"⟩) (As := [.int v1, .int v2, .int v3]) (rest := []) (n := 3) ⟨hx, hb, hml, hown, hts⟩ (met_X5_putIn l (fun j => a (8 + j)) (vlTb x) v1 v2 v3 u11 hc12) w461 w463 w477 w478 w7 w479 (hE.1.2.2.1 _ (List.mem_append_left _ (List.mem_of_getElem? (i := 1) rfl))) ⟨by decide +kernel, by decide +kernel, by decide +kernel⟩ ⟨Nat.le_of_ble_eq_true rfl, Nat.le_of_ble_eq_true rfl⟩ hK hE hP hD hS hA (isC := [8, 9, 10, 11]) (isR := [0, 1, 2, 3, 4, 5, 6, 7, 12, 13, 14, 15, 16, 17]) (isB := [0, 1, 2, 3, 4, 5, 6, 7, 14, 15, 16, 17, 8, 9, 10, 11, 12, 13]) (ws' := W_Value cI a (vlTb_s x u11)) ⟨([0, 1, 2, 3, 4, 5, 6, 7, 12, 13, 14, 15, 16, 17] : List Nat).filterMap (fun i : Nat => (W_Value cI a x : va_W)[i]?), rfl, rfl, rfl, rfl, by decide, rfl, rfl⟩ 8 4 rfl rfl rfl rfl hl.1 rfl (Nat.le_of_ble_eq_true rfl) dX6_insert_30 ⟨Nat.le_of_ble_eq_true rfl, Nat.le_of_ble_eq_true rfl⟩ (fun H locs hP hD hS => ?_)
      try dsimp only at hf
      refine W.eq (g2 := F0 m 33 ls []) rfl ?_
      obtain ⟨x13, hx13⟩ : ∃ z, z = (vlTb_s x u11) := ⟨_, rfl⟩
      replace hf := keep_e hf x13 hx13
      have hP : va_P D vwCl (W_Value cI a x13) H := by rw [hx13]; exact hP
      have hD : va_D A (W_Value cI a x13) := by rw [hx13]; exact hD
      exact L33 x13 v1 v2 v3 H locs ls hf hP hD hS (lv_sub hl [0, 1, 2, 3] rfl)
  have M0 : ∀ (H : Heap) (locs : List Loc) (ls : Array Slot), fX6_insert x p1 p2 p3 = some res → va_P D vwCl (W_Value cI a x) H → va_D A (W_Value cI a x) → va_S A s.heap H locs → lv_has ls 4 [(0, .ref (a 0)), (1, .int p1), (2, .int p2), (3, .int p3)] → W p l e ({ frames := 3, cells := 0, slots := 0, locals := 104 } : Room) s m ([.ref (a 0), .int p1, .int p2, .int p3] : List Value).toArray below meth c H locs 0 0 (MQ below (QW D (TY cI cV cJ cD) (W_Value cI a res.1) A (some (.int res.2))) (([.ref (a 0), .int p1, .int p2, .int p3] : List Value).toArray) s 0 0 A) (F0 m 0 ls []) := by
    intro H locs ls hf hP hD hS hl
    dsimp only [fX6_insert] at hf
    refine lv_aload_n hx hb dX6_insert_0 rfl (lv_at hl 0 rfl) ?_
    refine va_get (D := D) (ci := 5) (v := .ref (a (vlFm x))) (C := RX6) (T := TX6) (N := 10) hx hb hg in_X6 hown hK hP 0 rfl rfl 9 (by decide) (hg _ w144) (fun _ h9 => h9) rfl dX6_insert_1 ?_
    refine lv_aload_n hx hb dX6_insert_4 rfl (lv_at hl 0 rfl) ?_
    refine va_get (D := D) (ci := 5) (v := .ref (a 1)) (C := RX6) (T := TX6) (N := 10) hx hb hg in_X6 hown hK hP 0 rfl rfl 4 (by decide) (hg _ w136) (fun _ h9 => h9) rfl dX6_insert_5 ?_
    obtain ⟨hq15, hf⟩ := chk_t hf
    refine lv_acmp_ne (tgt := 23) (rx := some (a (vlFm x))) (ry := some (a 1)) hx hb dX6_insert_8 (by decide) (fun c14 => ?_) (fun c14 => ?_)
    · have c14 : ¬ (vlFm x) = 1 := fun h9 => c14 (by rw [h9])
      replace hf := if_f c14 hf
      exact L23 x p1 p2 p3 H locs ls hf hP hD hS (lv_sub hl [0, 1, 2, 3] rfl)
    · have c14 : (vlFm x) = 1 := by
        rcases isF_t hq15 with h9 | h9 | h9
        · exact h9
        · exact absurd (Option.some.inj (h9 ▸ c14)) (k_ne hD 4 1 rfl rfl (by decide))
        · exact absurd (Option.some.inj (h9 ▸ c14)) (k_ne hD 8 1 rfl rfl (by decide))
      replace hf := if_t c14 hf
      refine lv_aload_n hx hb dX6_insert_11 rfl (lv_at hl 0 rfl) ?_
      refine lv_iload_n hx hb dX6_insert_12 rfl (lv_at hl 2 rfl) ?_
      obtain ⟨u16, hc17, hf⟩ := bind_t hf
      refine k_V (As := [.int p2]) (rest := []) (n := 1) ⟨hx, hb, hml, hown, hts⟩ (met_X6_outgrowsSmall l a x p2 u16 hc17) w434 w436 ws14 w3 w437 ⟨rfl, by decide +kernel, by decide +kernel, by decide +kernel⟩ ⟨Nat.le_of_ble_eq_true rfl, Nat.le_of_ble_eq_true rfl⟩ hK hE hP hD hS hA (isC := [0, 1, 2, 3, 4, 5, 6, 7, 8, 9, 10, 11, 12, 13, 14, 15, 16, 17]) (isR := []) (isB := [0, 1, 2, 3, 4, 5, 6, 7, 8, 9, 10, 11, 12, 13, 14, 15, 16, 17]) (ws' := W_Value cI a x) ⟨([] : List Nat).filterMap (fun i : Nat => (W_Value cI a x : va_W)[i]?), rfl, rfl, rfl, rfl, by decide, rfl, rfl⟩ 0 5 rfl rfl rfl rfl hl.1 rfl (Nat.le_of_ble_eq_true rfl) dX6_insert_13 ⟨Nat.le_of_ble_eq_true rfl, Nat.le_of_ble_eq_true rfl⟩ (fun H locs hP hD hS => ?_)
      try dsimp only at hf
      refine W.eq (g2 := F0 m 16 ls [.int u16]) rfl ?_
      refine lv_if_eq (tgt := 23) hx hb dX6_insert_16 (by decide) (fun c18 => ?_) (fun c18 => ?_)
      · replace hf := if_t c18 hf
        exact L23 x p1 p2 p3 H locs ls hf hP hD hS (lv_sub hl [0, 1, 2, 3] rfl)
      · replace hf := if_f c18 hf
        refine lv_aload_n hx hb dX6_insert_19 rfl (lv_at hl 0 rfl) ?_
        obtain ⟨u19, hc20, hf⟩ := bind_t hf
        refine k_V (As := []) (rest := []) (n := 0) ⟨hx, hb, hml, hown, hts⟩ (met_X6_becomeBig l a x u19 hc20) w438 w440 ws15 w3 w441 ⟨rfl, by decide +kernel, by decide +kernel, by decide +kernel⟩ ⟨Nat.le_of_ble_eq_true rfl, Nat.le_of_ble_eq_true rfl⟩ hK hE hP hD hS hA (isC := [0, 1, 2, 3, 4, 5, 6, 7, 8, 9, 10, 11, 12, 13, 14, 15, 16, 17]) (isR := []) (isB := [0, 1, 2, 3, 4, 5, 6, 7, 8, 9, 10, 11, 12, 13, 14, 15, 16, 17]) (ws' := W_Value cI a u19) ⟨([] : List Nat).filterMap (fun i : Nat => (W_Value cI a x : va_W)[i]?), rfl, rfl, rfl, rfl, by decide, rfl, rfl⟩ 0 5 rfl rfl rfl rfl hl.1 rfl (Nat.le_of_ble_eq_true rfl) dX6_insert_20 ⟨Nat.le_of_ble_eq_true rfl, Nat.le_of_ble_eq_true rfl⟩ (fun H locs hP hD hS => ?_)
        try dsimp only at hf
        refine W.eq (g2 := F0 m 23 ls []) rfl ?_
        obtain ⟨x21, hx21⟩ : ∃ z, z = u19 := ⟨_, rfl⟩
        replace hf := keep_e hf x21 hx21
        have hP : va_P D vwCl (W_Value cI a x21) H := by rw [hx21]; exact hP
        have hD : va_D A (W_Value cI a x21) := by rw [hx21]; exact hD
        exact L23 x21 p1 p2 p3 H locs ls hf hP hD hS (lv_sub hl [0, 1, 2, 3] rfl)
  exact M0 s.heap [] ls hf hP hD hS hl
/-! Compactforms$Value.dropOut(I)V -/
def fX6_dropOut_18 (x : VSt) (v1 : Int32) (v2 : Int32) : Option (VSt) := (fX4_dropOut 40 (vlPl x) v1 v2).bind (fun u1 => keep (vlPl_s x u1) (fun x3 => some x3))
def fX6_dropOut (x : VSt) (p1 : Int32) : Option (VSt) := (fX4_valueAt 40 (vlPl x) p1).bind (fun u4 => sel (vlFm x) ((fX4_dropOut 16 (vlSm x) p1 u4).bind (fun u7 => keep (vlSm_s x u7) (fun x9 => fX6_dropOut_18 x9 p1 u4))) ((fX0_dropOut (vlCh x) p1 u4).bind (fun u10 => keep (vlCh_s x u10) (fun x12 => fX6_dropOut_18 x12 p1 u4))) ((fX5_dropOut (vlTb x) p1 u4).bind (fun u13 => keep (vlTb_s x u13) (fun x15 => fX6_dropOut_18 x15 p1 u4))))
set_option maxHeartbeats 4000000 in
set_option maxRecDepth 100000 in
theorem met_X6_dropOut {D : va_G} {cI cV cJ cD : ClassId} (l : Launch) (a : Nat → Nat) (x : VSt) (p1 : Int32) (res : VSt) (hf : fX6_dropOut x p1 = some res) : MM l yX6_dropOut cX6_dropOut 3 none { frames := 2, cells := 0, slots := 0, locals := 82 } D (TY cI cV cJ cD) (W_Value cI a x) (W_Value cI a res) [.ref (a 0), .int p1] none := by
  intro sz
  refine Met.ofW (cc := cX6_dropOut) (maxL := 3) (ret := none) (by decide +kernel) rfl ?_
  intro p e s m args below meth c s₁ B hml hv
  obtain ⟨rfl, hsz, hP, hK, hD0, hE⟩ := hv
  have hx := B.exec
  have hb := B.bytes
  have hr := B.returns
  have hts := atoms_spec (ws := .code yX6_dropOut cX6_dropOut 3 none :: GW) B.pre
  have hg : ∀ w ∈ GW, w.before (([.ref (a 0), .int p1] : List Value).toArray) s = true := fun w h => hts w (List.mem_cons_of_mem _ h)
  have hown : s.vm.findClass RX6 = some m.cls := findClass_of_methodNamed B.named
  have hlocks := B.notSynchronized
  subst hsz
  have hD := hD0.self (sz := s.heap.size)
  generalize hAe : va_A (W_Value cI a x) s.heap.size = A at hD hE ⊢
  have hA : ∀ q : Nat, s.heap.size ≤ q → A q := fun q h => by rw [← hAe]; exact Or.inr h
  have hS : va_S A s.heap s.heap [] := va_S.rf
  have hl := lv_entry ([.ref (a 0), .int p1]) (n := 3) (Nat.le_of_ble_eq_true rfl)
  rw [lg_entry_eq]
  generalize (lg_sl ([.ref (a 0), .int p1]) ++ List.replicate (3 - (lg_sl ([.ref (a 0), .int p1])).length) Slot.unset).toArray = ls at hl ⊢
  have hl : lv_has ls 3 [(0, .ref (a 0)), (1, .int p1)] := hl
  have L18 : ∀ (x : VSt) (v1 : Int32) (v2 : Int32) (H : Heap) (locs : List Loc) (ls : Array Slot), fX6_dropOut_18 x v1 v2  = some res → va_P D vwCl (W_Value cI a x) H → va_D A (W_Value cI a x) → va_S A s.heap H locs → lv_has ls 3 [(0, .ref (a 0)), (1, .int v1), (2, .int v2)] → W p l e ({ frames := 2, cells := 0, slots := 0, locals := 82 } : Room) s m ([.ref (a 0), .int p1] : List Value).toArray below meth c H locs 0 0 (MQ below (QW D (TY cI cV cJ cD) (W_Value cI a res) A none) (([.ref (a 0), .int p1] : List Value).toArray) s 0 0 A) (F0 m 18 ls []) := by
    intro x v1 v2 H locs ls hf hP hD hS hl
    dsimp only [fX6_dropOut_18] at hf
    refine lv_aload_n hx hb dX6_dropOut_18 rfl (lv_at hl 0 rfl) ?_
    refine va_get (D := D) (ci := 5) (v := .ref (a 12)) (C := RX6) (T := TX6) (N := 10) hx hb hg in_X6 hown hK hP 0 rfl rfl 7 (by decide) (hg _ w140) (fun _ h9 => h9) rfl dX6_dropOut_19 ?_
    refine lv_iload_n hx hb dX6_dropOut_22 rfl (lv_at hl 1 rfl) ?_
    refine lv_iload_n hx hb dX6_dropOut_23 rfl (lv_at hl 2 rfl) ?_
    obtain ⟨u1, hc2, hf⟩ := bind_t hf
    refine k_V (As := [.int v1, .int v2]) (rest := []) (n := 2) ⟨hx, hb, hml, hown, hts⟩ (met_X4_dropOut l 40 (fun j => a (12 + j)) (vlPl x) v1 v2 u1 hc2) w523 w518 w796 w5 w519 ⟨rfl, by decide +kernel, by decide +kernel, by decide +kernel⟩ ⟨Nat.le_of_ble_eq_true rfl, Nat.le_of_ble_eq_true rfl⟩ hK hE hP hD hS hA (isC := [12, 13, 14]) (isR := [0, 1, 2, 3, 4, 5, 6, 7, 8, 9, 10, 11, 15, 16, 17]) (isB := [0, 1, 2, 3, 4, 5, 6, 7, 8, 9, 10, 11, 15, 16, 17, 12, 13, 14]) (ws' := W_Value cI a (vlPl_s x u1)) ⟨([0, 1, 2, 3, 4, 5, 6, 7, 8, 9, 10, 11, 15, 16, 17] : List Nat).filterMap (fun i : Nat => (W_Value cI a x : va_W)[i]?), rfl, rfl, rfl, rfl, by decide, rfl, rfl⟩ 12 3 rfl rfl rfl rfl hl.1 rfl (Nat.le_of_ble_eq_true rfl) dX6_dropOut_24 ⟨Nat.le_of_ble_eq_true rfl, Nat.le_of_ble_eq_true rfl⟩ (fun H locs hP hD hS => ?_)
    try dsimp only at hf
    refine W.eq (g2 := F0 m 27 ls []) rfl ?_
    obtain ⟨x3, hx3⟩ : ∃ z, z = (vlPl_s x u1) := ⟨_, rfl⟩
    replace hf := keep_e hf x3 hx3
    have hP : va_P D vwCl (W_Value cI a x3) H := by rw [hx3]; exact hP
    have hD : va_D A (W_Value cI a x3) := by rw [hx3]; exact hD
    obtain rfl := Option.some.inj hf
    exact W.vret hx hb hr (fun t ht hW => ⟨rfl, by rw [ht]; exact hP, va_K.moved hW.alike hK, hD, hS.F ht⟩) hS.2.2 dX6_dropOut_27 hlocks
  have M0 : ∀ (H : Heap) (locs : List Loc) (ls : Array Slot), fX6_dropOut x p1 = some res → va_P D vwCl (W_Value cI a x) H → va_D A (W_Value cI a x) → va_S A s.heap H locs → lv_has ls 3 [(0, .ref (a 0)), (1, .int p1)] → W p l e ({ frames := 2, cells := 0, slots := 0, locals := 82 } : Room) s m ([.ref (a 0), .int p1] : List Value).toArray below meth c H locs 0 0 (MQ below (QW D (TY cI cV cJ cD) (W_Value cI a res) A none) (([.ref (a 0), .int p1] : List Value).toArray) s 0 0 A) (F0 m 0 ls []) := by
    intro H locs ls hf hP hD hS hl
    dsimp only [fX6_dropOut] at hf
    refine lv_aload_n hx hb dX6_dropOut_0 rfl (lv_at hl 0 rfl) ?_
    refine va_get (D := D) (ci := 5) (v := .ref (a 12)) (C := RX6) (T := TX6) (N := 10) hx hb hg in_X6 hown hK hP 0 rfl rfl 7 (by decide) (hg _ w140) (fun _ h9 => h9) rfl dX6_dropOut_1 ?_
    refine lv_iload_n hx hb dX6_dropOut_4 rfl (lv_at hl 1 rfl) ?_
    obtain ⟨u4, hc5, hf⟩ := bind_t hf
    refine k_V (As := [.int p1]) (rest := []) (n := 1) ⟨hx, hb, hml, hown, hts⟩ (met_X4_valueAt l 40 (fun j => a (12 + j)) (vlPl x) p1 u4 hc5) w453 w454 w455 w5 w456 ⟨rfl, by decide +kernel, by decide +kernel, by decide +kernel⟩ ⟨Nat.le_of_ble_eq_true rfl, Nat.le_of_ble_eq_true rfl⟩ hK hE hP hD hS hA (isC := [12, 13, 14]) (isR := [0, 1, 2, 3, 4, 5, 6, 7, 8, 9, 10, 11, 15, 16, 17]) (isB := [0, 1, 2, 3, 4, 5, 6, 7, 8, 9, 10, 11, 15, 16, 17, 12, 13, 14]) (ws' := W_Value cI a x) ⟨([0, 1, 2, 3, 4, 5, 6, 7, 8, 9, 10, 11, 15, 16, 17] : List Nat).filterMap (fun i : Nat => (W_Value cI a x : va_W)[i]?), rfl, rfl, rfl, rfl, by decide, rfl, rfl⟩ 12 3 rfl rfl rfl rfl hl.1 rfl (Nat.le_of_ble_eq_true rfl) dX6_dropOut_5 ⟨Nat.le_of_ble_eq_true rfl, Nat.le_of_ble_eq_true rfl⟩ (fun H locs hP hD hS => ?_)
    try dsimp only at hf
    refine W.eq (g2 := F0 m 8 ls [.int u4]) rfl ?_
    refine lv_istore_n (lv' := [(2, .int u4), (0, .ref (a 0)), (1, .int p1)]) hx hb dX6_dropOut_8 rfl hl (by decide) rfl (fun ls hl => ?_)
    refine lv_aload_n hx hb dX6_dropOut_9 rfl (lv_at hl 1 rfl) ?_
    refine va_get (D := D) (ci := 5) (v := .ref (a (vlFm x))) (C := RX6) (T := TX6) (N := 10) hx hb hg in_X6 hown hK hP 0 rfl rfl 9 (by decide) (hg _ w144) (fun _ h9 => h9) rfl dX6_dropOut_10 ?_
    refine lv_iload_n hx hb dX6_dropOut_13 rfl (lv_at hl 2 rfl) ?_
    refine lv_iload_n hx hb dX6_dropOut_14 rfl (lv_at hl 0 rfl) ?_
    rcases sel_t hf with ⟨hq6, hf⟩ | ⟨hq6, hf⟩ | ⟨hq6, hf⟩
    · rw [hq6]
      obtain ⟨u7, hc8, hf⟩ := bind_t hf
      refine k_U (owner := "Compactforms$Form") (x := ⟨"Compactforms$Form", "dropOut", "(II)V"⟩) (As := [.int p1, .int u4]) (rest := []) (n := 2) ⟨hx, hb, hml, hown, hts⟩ (met_X4_dropOut l 16 (fun j => a (1 + j)) (vlSm x) p1 u4 u7 hc8) w511 w513 w517 w518 w5 w519 (hE.1.2.2.1 _ (List.mem_append_left _ (List.mem_of_getElem? (i := 3) rfl))) ⟨by decide +kernel, by decide +kernel, by decide +kernel⟩ ⟨Nat.le_of_ble_eq_true rfl, Nat.le_of_ble_eq_true rfl⟩ hK hE hP hD hS hA (isC := [1, 2, 3]) (isR := [0, 4, 5, 6, 7, 8, 9, 10, 11, 12, 13, 14, 15, 16, 17]) (isB := [0, 15, 16, 17, 1, 2, 3, 4, 5, 6, 7, 8, 9, 10, 11, 12, 13, 14]) (ws' := W_Value cI a (vlSm_s x u7)) ⟨([0, 4, 5, 6, 7, 8, 9, 10, 11, 12, 13, 14, 15, 16, 17] : List Nat).filterMap (fun i : Nat => (W_Value cI a x : va_W)[i]?), rfl, rfl, rfl, rfl, by decide, rfl, rfl⟩ 1 3 rfl rfl rfl rfl hl.1 rfl (Nat.le_of_ble_eq_true rfl) dX6_dropOut_15 ⟨Nat.le_of_ble_eq_true rfl, Nat.le_of_ble_eq_true rfl⟩ (fun H locs hP hD hS => ?_)
      try dsimp only at hf
      refine W.eq (g2 := F0 m 18 ls []) rfl ?_
      obtain ⟨x9, hx9⟩ : ∃ z, z = (vlSm_s x u7) := ⟨_, rfl⟩
      replace hf := keep_e hf x9 hx9
      have hP : va_P D vwCl (W_Value cI a x9) H := by rw [hx9]; exact hP
      have hD : va_D A (W_Value cI a x9) := by rw [hx9]; exact hD
      exact L18 x9 p1 u4 H locs ls hf hP hD hS (lv_sub hl [1, 2, 0] rfl)
    · rw [hq6]
      obtain ⟨u10, hc11, hf⟩ := bind_t hf
      refine k_U (owner := "Compactforms$Form") (x := ⟨"Compactforms$Form", "dropOut", "(II)V"⟩) (As := [.int p1, .int u4]) (rest := []) (n := 2) ⟨hx, hb, hml, hown, hts⟩ (met_X0_dropOut l (fun j => a (4 + j)) (vlCh x) p1 u4 u10 hc11) w511 w513 w514 w515 w6 w516 (hE.1.2.2.1 _ (List.mem_append_left _ (List.mem_of_getElem? (i := 3) rfl))) ⟨by decide +kernel, by decide +kernel, by decide +kernel⟩ ⟨Nat.le_of_ble_eq_true rfl, Nat.le_of_ble_eq_true rfl⟩ hK hE hP hD hS hA (isC := [4, 5, 6, 7]) (isR := [0, 1, 2, 3, 8, 9, 10, 11, 12, 13, 14, 15, 16, 17]) (isB := [0, 1, 2, 3, 14, 15, 16, 17, 4, 5, 6, 7, 8, 9, 10, 11, 12, 13]) (ws' := W_Value cI a (vlCh_s x u10)) ⟨([0, 1, 2, 3, 8, 9, 10, 11, 12, 13, 14, 15, 16, 17] : List Nat).filterMap (fun i : Nat => (W_Value cI a x : va_W)[i]?), rfl, rfl, rfl, rfl, by decide, rfl, rfl⟩ 4 0 rfl rfl rfl rfl hl.1 rfl (Nat.le_of_ble_eq_true rfl) dX6_dropOut_15 ⟨Nat.le_of_ble_eq_true rfl, Nat.le_of_ble_eq_true rfl⟩ (fun H locs hP hD hS => ?_)
      try dsimp only at hf
      refine W.eq (g2 := F0 m 18 ls []) rfl ?_
      obtain ⟨x12, hx12⟩ : ∃ z, z = (vlCh_s x u10) := ⟨_, rfl⟩
      replace hf := keep_e hf x12 hx12
      have hP : va_P D vwCl (W_Value cI a x12) H := by rw [hx12]; exact hP
      have hD : va_D A (W_Value cI a x12) := by rw [hx12]; exact hD
      exact L18 x12 p1 u4 H locs ls hf hP hD hS (lv_sub hl [1, 2, 0] rfl)
    · rw [hq6]
      obtain ⟨u13, hc14, hf⟩ := bind_t hf
      refine k_U (owner := "Compactforms$Form") (x := ⟨"Compactforms$Form", "dropOut", "(II)V"⟩) (As := [.int p1, .int u4]) (rest := []) (n := 2) ⟨hx, hb, hml, hown, hts⟩ (met_X5_dropOut l (fun j => a (8 + j)) (vlTb x) p1 u4 u13 hc14) w511 w513 w520 w521 w7 w522 (hE.1.2.2.1 _ (List.mem_append_left _ (List.mem_of_getElem? (i := 3) rfl))) ⟨by decide +kernel, by decide +kernel, by decide +kernel⟩ ⟨Nat.le_of_ble_eq_true rfl, Nat.le_of_ble_eq_true rfl⟩ hK hE hP hD hS hA (isC := [8, 9, 10, 11]) (isR := [0, 1, 2, 3, 4, 5, 6, 7, 12, 13, 14, 15, 16, 17]) (isB := [0, 1, 2, 3, 4, 5, 6, 7, 14, 15, 16, 17, 8, 9, 10, 11, 12, 13]) (ws' := W_Value cI a (vlTb_s x u13)) ⟨([0, 1, 2, 3, 4, 5, 6, 7, 12, 13, 14, 15, 16, 17] : List Nat).filterMap (fun i : Nat => (W_Value cI a x : va_W)[i]?), rfl, rfl, rfl, rfl, by decide, rfl, rfl⟩ 8 4 rfl rfl rfl rfl hl.1 rfl (Nat.le_of_ble_eq_true rfl) dX6_dropOut_15 ⟨Nat.le_of_ble_eq_true rfl, Nat.le_of_ble_eq_true rfl⟩ (fun H locs hP hD hS => ?_)
      try dsimp only at hf
      refine W.eq (g2 := F0 m 18 ls []) rfl ?_
      obtain ⟨x15, hx15⟩ : ∃ z, z = (vlTb_s x u13) := ⟨_, rfl⟩
      replace hf := keep_e hf x15 hx15
      have hP : va_P D vwCl (W_Value cI a x15) H := by rw [hx15]; exact hP
      have hD : va_D A (W_Value cI a x15) := by rw [hx15]; exact hD
      exact L18 x15 p1 u4 H locs ls hf hP hD hS (lv_sub hl [1, 2, 0] rfl)
  exact M0 s.heap [] ls hf hP hD hS hl
/-! Compactforms$Value.letGo(I)I -/
def fX6_letGo_8 (x : VSt) (v1 : Int32) (s0 : Int32) : Option (VSt × Int32) := (fX6_dropOut x v1).bind (fun u1 => keep u1 (fun x3 => (if (rwN (vlPl x3)) = 0 then keep (vlHeld_s x3 0) (fun x5 => some (x5, s0)) else some (x3, s0))))
def fX6_letGo (x : VSt) (p1 : Int32) : Option (VSt × Int32) := sel (vlFm x) ((fX4_valueAt 16 (vlSm x) p1).bind (fun u7 => fX6_letGo_8 x p1 u7)) ((fX0_valueAt (vlCh x) p1).bind (fun u9 => fX6_letGo_8 x p1 u9)) ((fX5_valueAt (vlTb x) p1).bind (fun u11 => fX6_letGo_8 x p1 u11))
set_option maxHeartbeats 4000000 in
set_option maxRecDepth 100000 in
theorem met_X6_letGo {D : va_G} {cI cV cJ cD : ClassId} (l : Launch) (a : Nat → Nat) (x : VSt) (p1 : Int32) (res : VSt × Int32) (hf : fX6_letGo x p1 = some res) : MM l yX6_letGo cX6_letGo 3 (some .int) { frames := 3, cells := 0, slots := 0, locals := 104 } D (TY cI cV cJ cD) (W_Value cI a x) (W_Value cI a res.1) [.ref (a 0), .int p1] (some (.int res.2)) := by
  intro sz
  refine Met.ofW (cc := cX6_letGo) (maxL := 3) (ret := (some .int)) (by decide +kernel) rfl ?_
  intro p e s m args below meth c s₁ B hml hv
  obtain ⟨rfl, hsz, hP, hK, hD0, hE⟩ := hv
  have hx := B.exec
  have hb := B.bytes
  have hr := B.returns
  have hts := atoms_spec (ws := .code yX6_letGo cX6_letGo 3 (some .int) :: GW) B.pre
  have hg : ∀ w ∈ GW, w.before (([.ref (a 0), .int p1] : List Value).toArray) s = true := fun w h => hts w (List.mem_cons_of_mem _ h)
  have hown : s.vm.findClass RX6 = some m.cls := findClass_of_methodNamed B.named
  have hlocks := B.notSynchronized
  subst hsz
  have hD := hD0.self (sz := s.heap.size)
  generalize hAe : va_A (W_Value cI a x) s.heap.size = A at hD hE ⊢
  have hA : ∀ q : Nat, s.heap.size ≤ q → A q := fun q h => by rw [← hAe]; exact Or.inr h
  have hS : va_S A s.heap s.heap [] := va_S.rf
  have hl := lv_entry ([.ref (a 0), .int p1]) (n := 3) (Nat.le_of_ble_eq_true rfl)
  rw [lg_entry_eq]
  generalize (lg_sl ([.ref (a 0), .int p1]) ++ List.replicate (3 - (lg_sl ([.ref (a 0), .int p1])).length) Slot.unset).toArray = ls at hl ⊢
  have hl : lv_has ls 3 [(0, .ref (a 0)), (1, .int p1)] := hl
  have L8 : ∀ (x : VSt) (v1 : Int32) (s0 : Int32) (H : Heap) (locs : List Loc) (ls : Array Slot), fX6_letGo_8 x v1 s0  = some res → va_P D vwCl (W_Value cI a x) H → va_D A (W_Value cI a x) → va_S A s.heap H locs → lv_has ls 3 [(0, .ref (a 0)), (1, .int v1)] → W p l e ({ frames := 3, cells := 0, slots := 0, locals := 104 } : Room) s m ([.ref (a 0), .int p1] : List Value).toArray below meth c H locs 0 0 (MQ below (QW D (TY cI cV cJ cD) (W_Value cI a res.1) A (some (.int res.2))) (([.ref (a 0), .int p1] : List Value).toArray) s 0 0 A) (F0 m 8 ls [.int s0]) := by
    intro x v1 s0 H locs ls hf hP hD hS hl
    dsimp only [fX6_letGo_8] at hf
    refine lv_istore_n (lv' := [(2, .int s0), (0, .ref (a 0)), (1, .int v1)]) hx hb dX6_letGo_8 rfl hl (by decide) rfl (fun ls hl => ?_)
    refine lv_aload_n hx hb dX6_letGo_9 rfl (lv_at hl 1 rfl) ?_
    refine lv_iload_n hx hb dX6_letGo_10 rfl (lv_at hl 2 rfl) ?_
    obtain ⟨u1, hc2, hf⟩ := bind_t hf
    refine k_V (As := [.int v1]) (rest := []) (n := 1) ⟨hx, hb, hml, hown, hts⟩ (met_X6_dropOut l a x v1 u1 hc2) w507 w508 w509 w3 w510 ⟨rfl, by decide +kernel, by decide +kernel, by decide +kernel⟩ ⟨Nat.le_of_ble_eq_true rfl, Nat.le_of_ble_eq_true rfl⟩ hK hE hP hD hS hA (isC := [0, 1, 2, 3, 4, 5, 6, 7, 8, 9, 10, 11, 12, 13, 14, 15, 16, 17]) (isR := []) (isB := [0, 1, 2, 3, 4, 5, 6, 7, 8, 9, 10, 11, 12, 13, 14, 15, 16, 17]) (ws' := W_Value cI a u1) ⟨([] : List Nat).filterMap (fun i : Nat => (W_Value cI a x : va_W)[i]?), rfl, rfl, rfl, rfl, by decide, rfl, rfl⟩ 0 5 rfl rfl rfl rfl hl.1 rfl (Nat.le_of_ble_eq_true rfl) dX6_letGo_11 ⟨Nat.le_of_ble_eq_true rfl, Nat.le_of_ble_eq_true rfl⟩ (fun H locs hP hD hS => ?_)
    try dsimp only at hf
    refine W.eq (g2 := F0 m 14 ls []) rfl ?_
    obtain ⟨x3, hx3⟩ : ∃ z, z = u1 := ⟨_, rfl⟩
    replace hf := keep_e hf x3 hx3
    have hP : va_P D vwCl (W_Value cI a x3) H := by rw [hx3]; exact hP
    have hD : va_D A (W_Value cI a x3) := by rw [hx3]; exact hD
    refine lv_aload_n hx hb dX6_letGo_14 rfl (lv_at hl 1 rfl) ?_
    refine va_get (D := D) (ci := 5) (v := .ref (a 12)) (C := RX6) (T := TX6) (N := 10) hx hb hg in_X6 hown hK hP 0 rfl rfl 7 (by decide) (hg _ w140) (fun _ h9 => h9) rfl dX6_letGo_15 ?_
    refine va_getN (D := D) (ci := 3) (v := .int (rwN (vlPl x3))) (C := RX4) (T := TX4) (N := 3) hx hb hg in_X4 hown hK hP 12 rfl rfl 2 (by decide) (nwF_62 hE.1) (fun _ h9 => h9) rfl dX6_letGo_18 ?_
    refine lv_if_ne (tgt := 29) hx hb dX6_letGo_21 (by decide) (fun c4 => ?_) (fun c4 => ?_)
    · replace hf := if_f c4 hf
      refine lv_iload_n hx hb dX6_letGo_29 rfl (lv_at hl 0 rfl) ?_
      obtain rfl := Option.some.inj hf
      exact W.iret (v := s0) hx hb hr (fun t ht hW => ⟨rfl, by rw [ht]; exact hP, va_K.moved hW.alike hK, hD, hS.F ht⟩) hS.2.2 dX6_letGo_30 hlocks
    · replace hf := if_t c4 hf
      refine lv_aload_n hx hb dX6_letGo_24 rfl (lv_at hl 1 rfl) ?_
      refine lv_iconst (v := 0) hx hb dX6_letGo_25 (by decide) ?_
      refine va_put (D := D) (ci := 5) (v := .int 0) (ty := .boolean) (C := RX6) (T := TX6) (N := 10) hx hb hg in_X6 tyX6 tyX6_ok nmX6 hown hK hP hD hS 0 rfl rfl 0 (by decide) (hg _ w128) (fun _ h9 => h9) rfl (by decide +kernel) (by decide +kernel) (by decide +kernel) (Nat.le_of_ble_eq_true rfl) dX6_letGo_26 (fun H locs hP hD hS => ?_)
      obtain ⟨x5, hx5⟩ : ∃ z, z = (vlHeld_s x3 0) := ⟨_, rfl⟩
      replace hf := keep_e hf x5 hx5
      have hP : va_P D vwCl (W_Value cI a x5) H := by rw [hx5]; exact hP
      have hD : va_D A (W_Value cI a x5) := by rw [hx5]; exact hD
      refine lv_iload_n hx hb dX6_letGo_29 rfl (lv_at hl 0 rfl) ?_
      obtain rfl := Option.some.inj hf
      exact W.iret (v := s0) hx hb hr (fun t ht hW => ⟨rfl, by rw [ht]; exact hP, va_K.moved hW.alike hK, hD, hS.F ht⟩) hS.2.2 dX6_letGo_30 hlocks
  have M0 : ∀ (H : Heap) (locs : List Loc) (ls : Array Slot), fX6_letGo x p1 = some res → va_P D vwCl (W_Value cI a x) H → va_D A (W_Value cI a x) → va_S A s.heap H locs → lv_has ls 3 [(0, .ref (a 0)), (1, .int p1)] → W p l e ({ frames := 3, cells := 0, slots := 0, locals := 104 } : Room) s m ([.ref (a 0), .int p1] : List Value).toArray below meth c H locs 0 0 (MQ below (QW D (TY cI cV cJ cD) (W_Value cI a res.1) A (some (.int res.2))) (([.ref (a 0), .int p1] : List Value).toArray) s 0 0 A) (F0 m 0 ls []) := by
    intro H locs ls hf hP hD hS hl
    dsimp only [fX6_letGo] at hf
    refine lv_aload_n hx hb dX6_letGo_0 rfl (lv_at hl 0 rfl) ?_
    refine va_get (D := D) (ci := 5) (v := .ref (a (vlFm x))) (C := RX6) (T := TX6) (N := 10) hx hb hg in_X6 hown hK hP 0 rfl rfl 9 (by decide) (hg _ w144) (fun _ h9 => h9) rfl dX6_letGo_1 ?_
    refine lv_iload_n hx hb dX6_letGo_4 rfl (lv_at hl 1 rfl) ?_
    rcases sel_t hf with ⟨hq6, hf⟩ | ⟨hq6, hf⟩ | ⟨hq6, hf⟩
    · rw [hq6]
      obtain ⟨u7, hc8, hf⟩ := bind_t hf
      refine k_U (owner := "Compactforms$Form") (x := ⟨"Compactforms$Form", "valueAt", "(I)I"⟩) (As := [.int p1]) (rest := []) (n := 1) ⟨hx, hb, hml, hown, hts⟩ (met_X4_valueAt l 16 (fun j => a (1 + j)) (vlSm x) p1 u7 hc8) w493 w495 w499 w454 w5 w456 (hE.1.2.2.1 _ (List.mem_append_left _ (List.mem_of_getElem? (i := 2) rfl))) ⟨by decide +kernel, by decide +kernel, by decide +kernel⟩ ⟨Nat.le_of_ble_eq_true rfl, Nat.le_of_ble_eq_true rfl⟩ hK hE hP hD hS hA (isC := [1, 2, 3]) (isR := [0, 4, 5, 6, 7, 8, 9, 10, 11, 12, 13, 14, 15, 16, 17]) (isB := [0, 15, 16, 17, 1, 2, 3, 4, 5, 6, 7, 8, 9, 10, 11, 12, 13, 14]) (ws' := W_Value cI a x) ⟨([0, 4, 5, 6, 7, 8, 9, 10, 11, 12, 13, 14, 15, 16, 17] : List Nat).filterMap (fun i : Nat => (W_Value cI a x : va_W)[i]?), rfl, rfl, rfl, rfl, by decide, rfl, rfl⟩ 1 3 rfl rfl rfl rfl hl.1 rfl (Nat.le_of_ble_eq_true rfl) dX6_letGo_5 ⟨Nat.le_of_ble_eq_true rfl, Nat.le_of_ble_eq_true rfl⟩ (fun H locs hP hD hS => ?_)
      try dsimp only at hf
      refine W.eq (g2 := F0 m 8 ls [.int u7]) rfl ?_
      exact L8 x p1 u7 H locs ls hf hP hD hS (lv_sub hl [0, 1] rfl)
    · rw [hq6]
      obtain ⟨u9, hc10, hf⟩ := bind_t hf
      refine k_U (owner := "Compactforms$Form") (x := ⟨"Compactforms$Form", "valueAt", "(I)I"⟩) (As := [.int p1]) (rest := []) (n := 1) ⟨hx, hb, hml, hown, hts⟩ (met_X0_valueAt l (fun j => a (4 + j)) (vlCh x) p1 u9 hc10) w493 w495 w496 w497 w6 w498 (hE.1.2.2.1 _ (List.mem_append_left _ (List.mem_of_getElem? (i := 2) rfl))) ⟨by decide +kernel, by decide +kernel, by decide +kernel⟩ ⟨Nat.le_of_ble_eq_true rfl, Nat.le_of_ble_eq_true rfl⟩ hK hE hP hD hS hA (isC := [4, 5, 6, 7]) (isR := [0, 1, 2, 3, 8, 9, 10, 11, 12, 13, 14, 15, 16, 17]) (isB := [0, 1, 2, 3, 14, 15, 16, 17, 4, 5, 6, 7, 8, 9, 10, 11, 12, 13]) (ws' := W_Value cI a x) ⟨([0, 1, 2, 3, 8, 9, 10, 11, 12, 13, 14, 15, 16, 17] : List Nat).filterMap (fun i : Nat => (W_Value cI a x : va_W)[i]?), rfl, rfl, rfl, rfl, by decide, rfl, rfl⟩ 4 0 rfl rfl rfl rfl hl.1 rfl (Nat.le_of_ble_eq_true rfl) dX6_letGo_5 ⟨Nat.le_of_ble_eq_true rfl, Nat.le_of_ble_eq_true rfl⟩ (fun H locs hP hD hS => ?_)
      try dsimp only at hf
      refine W.eq (g2 := F0 m 8 ls [.int u9]) rfl ?_
      exact L8 x p1 u9 H locs ls hf hP hD hS (lv_sub hl [0, 1] rfl)
    · rw [hq6]
      obtain ⟨u11, hc12, hf⟩ := bind_t hf
      refine k_U (owner := "Compactforms$Form") (x := ⟨"Compactforms$Form", "valueAt", "(I)I"⟩) (As := [.int p1]) (rest := []) (n := 1) ⟨hx, hb, hml, hown, hts⟩ (met_X5_valueAt l (fun j => a (8 + j)) (vlTb x) p1 u11 hc12) w493 w495 w500 w501 w7 w502 (hE.1.2.2.1 _ (List.mem_append_left _ (List.mem_of_getElem? (i := 2) rfl))) ⟨by decide +kernel, by decide +kernel, by decide +kernel⟩ ⟨Nat.le_of_ble_eq_true rfl, Nat.le_of_ble_eq_true rfl⟩ hK hE hP hD hS hA (isC := [8, 9, 10, 11]) (isR := [0, 1, 2, 3, 4, 5, 6, 7, 12, 13, 14, 15, 16, 17]) (isB := [0, 1, 2, 3, 4, 5, 6, 7, 14, 15, 16, 17, 8, 9, 10, 11, 12, 13]) (ws' := W_Value cI a x) ⟨([0, 1, 2, 3, 4, 5, 6, 7, 12, 13, 14, 15, 16, 17] : List Nat).filterMap (fun i : Nat => (W_Value cI a x : va_W)[i]?), rfl, rfl, rfl, rfl, by decide, rfl, rfl⟩ 8 4 rfl rfl rfl rfl hl.1 rfl (Nat.le_of_ble_eq_true rfl) dX6_letGo_5 ⟨Nat.le_of_ble_eq_true rfl, Nat.le_of_ble_eq_true rfl⟩ (fun H locs hP hD hS => ?_)
      try dsimp only at hf
      refine W.eq (g2 := F0 m 8 ls [.int u11]) rfl ?_
      exact L8 x p1 u11 H locs ls hf hP hD hS (lv_sub hl [0, 1] rfl)
  exact M0 s.heap [] ls hf hP hD hS hl
/-! Compactforms$Value.removeIfThere(I)I -/
def fX6_removeIfThere (x : VSt) (p1 : Int32) : Option (VSt × Int32) := (fX6_isThere x p1).bind (fun u1 => (if u1 = 0 then some (x, 0) else keep (vlHeld_s x 0) (fun x4 => some (x4, 1))))
set_option maxHeartbeats 4000000 in
set_option maxRecDepth 100000 in
theorem met_X6_removeIfThere {D : va_G} {cI cV cJ cD : ClassId} (l : Launch) (a : Nat → Nat) (x : VSt) (p1 : Int32) (res : VSt × Int32) (hf : fX6_removeIfThere x p1 = some res) : MM l yX6_removeIfThere cX6_removeIfThere 2 (some .int) { frames := 1, cells := 0, slots := 0, locals := 21 } D (TY cI cV cJ cD) (W_Value cI a x) (W_Value cI a res.1) [.ref (a 0), .int p1] (some (.int res.2)) := by
  intro sz
  refine Met.ofW (cc := cX6_removeIfThere) (maxL := 2) (ret := (some .int)) (by decide +kernel) rfl ?_
  intro p e s m args below meth c s₁ B hml hv
  obtain ⟨rfl, hsz, hP, hK, hD0, hE⟩ := hv
  have hx := B.exec
  have hb := B.bytes
  have hr := B.returns
  have hts := atoms_spec (ws := .code yX6_removeIfThere cX6_removeIfThere 2 (some .int) :: GW) B.pre
  have hg : ∀ w ∈ GW, w.before (([.ref (a 0), .int p1] : List Value).toArray) s = true := fun w h => hts w (List.mem_cons_of_mem _ h)
  have hown : s.vm.findClass RX6 = some m.cls := findClass_of_methodNamed B.named
  have hlocks := B.notSynchronized
  subst hsz
  have hD := hD0.self (sz := s.heap.size)
  generalize hAe : va_A (W_Value cI a x) s.heap.size = A at hD hE ⊢
  have hA : ∀ q : Nat, s.heap.size ≤ q → A q := fun q h => by rw [← hAe]; exact Or.inr h
  have hS : va_S A s.heap s.heap [] := va_S.rf
  have hl := lv_entry ([.ref (a 0), .int p1]) (n := 2) (Nat.le_of_ble_eq_true rfl)
  rw [lg_entry_eq]
  generalize (lg_sl ([.ref (a 0), .int p1]) ++ List.replicate (2 - (lg_sl ([.ref (a 0), .int p1])).length) Slot.unset).toArray = ls at hl ⊢
  have hl : lv_has ls 2 [(0, .ref (a 0)), (1, .int p1)] := hl
  have M0 : ∀ (H : Heap) (locs : List Loc) (ls : Array Slot), fX6_removeIfThere x p1 = some res → va_P D vwCl (W_Value cI a x) H → va_D A (W_Value cI a x) → va_S A s.heap H locs → lv_has ls 2 [(0, .ref (a 0)), (1, .int p1)] → W p l e ({ frames := 1, cells := 0, slots := 0, locals := 21 } : Room) s m ([.ref (a 0), .int p1] : List Value).toArray below meth c H locs 0 0 (MQ below (QW D (TY cI cV cJ cD) (W_Value cI a res.1) A (some (.int res.2))) (([.ref (a 0), .int p1] : List Value).toArray) s 0 0 A) (F0 m 0 ls []) := by
    intro H locs ls hf hP hD hS hl
    dsimp only [fX6_removeIfThere] at hf
    refine lv_aload_n hx hb dX6_removeIfThere_0 rfl (lv_at hl 0 rfl) ?_
    refine lv_iload_n hx hb dX6_removeIfThere_1 rfl (lv_at hl 1 rfl) ?_
    obtain ⟨u1, hc2, hf⟩ := bind_t hf
    refine k_V (As := [.int p1]) (rest := []) (n := 1) ⟨hx, hb, hml, hown, hts⟩ (met_X6_isThere l a x p1 u1 hc2) w540 w295 w296 w3 w297 ⟨rfl, by decide +kernel, by decide +kernel, by decide +kernel⟩ ⟨Nat.le_of_ble_eq_true rfl, Nat.le_of_ble_eq_true rfl⟩ hK hE hP hD hS hA (isC := [0, 1, 2, 3, 4, 5, 6, 7, 8, 9, 10, 11, 12, 13, 14, 15, 16, 17]) (isR := []) (isB := [0, 1, 2, 3, 4, 5, 6, 7, 8, 9, 10, 11, 12, 13, 14, 15, 16, 17]) (ws' := W_Value cI a x) ⟨([] : List Nat).filterMap (fun i : Nat => (W_Value cI a x : va_W)[i]?), rfl, rfl, rfl, rfl, by decide, rfl, rfl⟩ 0 5 rfl rfl rfl rfl hl.1 rfl (Nat.le_of_ble_eq_true rfl) dX6_removeIfThere_2 ⟨Nat.le_of_ble_eq_true rfl, Nat.le_of_ble_eq_true rfl⟩ (fun H locs hP hD hS => ?_)
    try dsimp only at hf
    refine W.eq (g2 := F0 m 5 ls [.int u1]) rfl ?_
    refine lv_if_ne (tgt := 10) hx hb dX6_removeIfThere_5 (by decide) (fun c3 => ?_) (fun c3 => ?_)
    · replace hf := if_f c3 hf
      refine lv_aload_n hx hb dX6_removeIfThere_10 rfl (lv_at hl 0 rfl) ?_
      refine lv_iconst (v := 0) hx hb dX6_removeIfThere_11 (by decide) ?_
      refine va_put (D := D) (ci := 5) (v := .int 0) (ty := .boolean) (C := RX6) (T := TX6) (N := 10) hx hb hg in_X6 tyX6 tyX6_ok nmX6 hown hK hP hD hS 0 rfl rfl 0 (by decide) (hg _ w128) (fun _ h9 => h9) rfl (by decide +kernel) (by decide +kernel) (by decide +kernel) (Nat.le_of_ble_eq_true rfl) dX6_removeIfThere_12 (fun H locs hP hD hS => ?_)
      obtain ⟨x4, hx4⟩ : ∃ z, z = (vlHeld_s x 0) := ⟨_, rfl⟩
      replace hf := keep_e hf x4 hx4
      have hP : va_P D vwCl (W_Value cI a x4) H := by rw [hx4]; exact hP
      have hD : va_D A (W_Value cI a x4) := by rw [hx4]; exact hD
      refine lv_iconst (v := 1) hx hb dX6_removeIfThere_15 (by decide) ?_
      obtain rfl := Option.some.inj hf
      exact W.iret (v := 1) hx hb hr (fun t ht hW => ⟨rfl, by rw [ht]; exact hP, va_K.moved hW.alike hK, hD, hS.F ht⟩) hS.2.2 dX6_removeIfThere_16 hlocks
    · replace hf := if_t c3 hf
      refine lv_iconst (v := 0) hx hb dX6_removeIfThere_8 (by decide) ?_
      obtain rfl := Option.some.inj hf
      exact W.iret (v := 0) hx hb hr (fun t ht hW => ⟨rfl, by rw [ht]; exact hP, va_K.moved hW.alike hK, hD, hS.F ht⟩) hS.2.2 dX6_removeIfThere_9 hlocks
  exact M0 s.heap [] ls hf hP hD hS hl
/-! Compactforms$Value.endIfThere(II)I -/
def fX6_endIfThere (x : VSt) (p1 : Int32) (p2 : Int32) : Option (VSt × Int32) := (fX6_isThere x p1).bind (fun u1 => (if u1 = 0 then some (x, 0) else keep (vlEnd_s x (p1 + p2)) (fun x4 => some (x4, 1))))
set_option maxHeartbeats 4000000 in
set_option maxRecDepth 100000 in
theorem met_X6_endIfThere {D : va_G} {cI cV cJ cD : ClassId} (l : Launch) (a : Nat → Nat) (x : VSt) (p1 : Int32) (p2 : Int32) (res : VSt × Int32) (hf : fX6_endIfThere x p1 p2 = some res) : MM l yX6_endIfThere cX6_endIfThere 3 (some .int) { frames := 1, cells := 0, slots := 0, locals := 21 } D (TY cI cV cJ cD) (W_Value cI a x) (W_Value cI a res.1) [.ref (a 0), .int p1, .int p2] (some (.int res.2)) := by
  intro sz
  refine Met.ofW (cc := cX6_endIfThere) (maxL := 3) (ret := (some .int)) (by decide +kernel) rfl ?_
  intro p e s m args below meth c s₁ B hml hv
  obtain ⟨rfl, hsz, hP, hK, hD0, hE⟩ := hv
  have hx := B.exec
  have hb := B.bytes
  have hr := B.returns
  have hts := atoms_spec (ws := .code yX6_endIfThere cX6_endIfThere 3 (some .int) :: GW) B.pre
  have hg : ∀ w ∈ GW, w.before (([.ref (a 0), .int p1, .int p2] : List Value).toArray) s = true := fun w h => hts w (List.mem_cons_of_mem _ h)
  have hown : s.vm.findClass RX6 = some m.cls := findClass_of_methodNamed B.named
  have hlocks := B.notSynchronized
  subst hsz
  have hD := hD0.self (sz := s.heap.size)
  generalize hAe : va_A (W_Value cI a x) s.heap.size = A at hD hE ⊢
  have hA : ∀ q : Nat, s.heap.size ≤ q → A q := fun q h => by rw [← hAe]; exact Or.inr h
  have hS : va_S A s.heap s.heap [] := va_S.rf
  have hl := lv_entry ([.ref (a 0), .int p1, .int p2]) (n := 3) (Nat.le_of_ble_eq_true rfl)
  rw [lg_entry_eq]
  generalize (lg_sl ([.ref (a 0), .int p1, .int p2]) ++ List.replicate (3 - (lg_sl ([.ref (a 0), .int p1, .int p2])).length) Slot.unset).toArray = ls at hl ⊢
  have hl : lv_has ls 3 [(0, .ref (a 0)), (1, .int p1), (2, .int p2)] := hl
  have M0 : ∀ (H : Heap) (locs : List Loc) (ls : Array Slot), fX6_endIfThere x p1 p2 = some res → va_P D vwCl (W_Value cI a x) H → va_D A (W_Value cI a x) → va_S A s.heap H locs → lv_has ls 3 [(0, .ref (a 0)), (1, .int p1), (2, .int p2)] → W p l e ({ frames := 1, cells := 0, slots := 0, locals := 21 } : Room) s m ([.ref (a 0), .int p1, .int p2] : List Value).toArray below meth c H locs 0 0 (MQ below (QW D (TY cI cV cJ cD) (W_Value cI a res.1) A (some (.int res.2))) (([.ref (a 0), .int p1, .int p2] : List Value).toArray) s 0 0 A) (F0 m 0 ls []) := by
    intro H locs ls hf hP hD hS hl
    dsimp only [fX6_endIfThere] at hf
    refine lv_aload_n hx hb dX6_endIfThere_0 rfl (lv_at hl 0 rfl) ?_
    refine lv_iload_n hx hb dX6_endIfThere_1 rfl (lv_at hl 1 rfl) ?_
    obtain ⟨u1, hc2, hf⟩ := bind_t hf
    refine k_V (As := [.int p1]) (rest := []) (n := 1) ⟨hx, hb, hml, hown, hts⟩ (met_X6_isThere l a x p1 u1 hc2) w540 w295 w296 w3 w297 ⟨rfl, by decide +kernel, by decide +kernel, by decide +kernel⟩ ⟨Nat.le_of_ble_eq_true rfl, Nat.le_of_ble_eq_true rfl⟩ hK hE hP hD hS hA (isC := [0, 1, 2, 3, 4, 5, 6, 7, 8, 9, 10, 11, 12, 13, 14, 15, 16, 17]) (isR := []) (isB := [0, 1, 2, 3, 4, 5, 6, 7, 8, 9, 10, 11, 12, 13, 14, 15, 16, 17]) (ws' := W_Value cI a x) ⟨([] : List Nat).filterMap (fun i : Nat => (W_Value cI a x : va_W)[i]?), rfl, rfl, rfl, rfl, by decide, rfl, rfl⟩ 0 5 rfl rfl rfl rfl hl.1 rfl (Nat.le_of_ble_eq_true rfl) dX6_endIfThere_2 ⟨Nat.le_of_ble_eq_true rfl, Nat.le_of_ble_eq_true rfl⟩ (fun H locs hP hD hS => ?_)
    try dsimp only at hf
    refine W.eq (g2 := F0 m 5 ls [.int u1]) rfl ?_
    refine lv_if_ne (tgt := 10) hx hb dX6_endIfThere_5 (by decide) (fun c3 => ?_) (fun c3 => ?_)
    · replace hf := if_f c3 hf
      refine lv_aload_n hx hb dX6_endIfThere_10 rfl (lv_at hl 0 rfl) ?_
      refine lv_iload_n hx hb dX6_endIfThere_11 rfl (lv_at hl 1 rfl) ?_
      refine lv_iload_n hx hb dX6_endIfThere_12 rfl (lv_at hl 2 rfl) ?_
      refine lv_iadd hx hb dX6_endIfThere_13 ?_
      refine va_put (D := D) (ci := 5) (v := .int (p1 + p2)) (ty := .int) (C := RX6) (T := TX6) (N := 10) hx hb hg in_X6 tyX6 tyX6_ok nmX6 hown hK hP hD hS 0 rfl rfl 2 (by decide) (hg _ w132) (fun _ h9 => h9) rfl (by decide +kernel) rfl rfl (Nat.le_of_ble_eq_true rfl) dX6_endIfThere_14 (fun H locs hP hD hS => ?_)
      obtain ⟨x4, hx4⟩ : ∃ z, z = (vlEnd_s x (p1 + p2)) := ⟨_, rfl⟩
      replace hf := keep_e hf x4 hx4
      have hP : va_P D vwCl (W_Value cI a x4) H := by rw [hx4]; exact hP
      have hD : va_D A (W_Value cI a x4) := by rw [hx4]; exact hD
      refine lv_iconst (v := 1) hx hb dX6_endIfThere_17 (by decide) ?_
      obtain rfl := Option.some.inj hf
      exact W.iret (v := 1) hx hb hr (fun t ht hW => ⟨rfl, by rw [ht]; exact hP, va_K.moved hW.alike hK, hD, hS.F ht⟩) hS.2.2 dX6_endIfThere_18 hlocks
    · replace hf := if_t c3 hf
      refine lv_iconst (v := 0) hx hb dX6_endIfThere_8 (by decide) ?_
      obtain rfl := Option.some.inj hf
      exact W.iret (v := 0) hx hb hr (fun t ht hW => ⟨rfl, by rw [ht]; exact hP, va_K.moved hW.alike hK, hD, hS.F ht⟩) hS.2.2 dX6_endIfThere_9 hlocks
  exact M0 s.heap [] ls hf hP hD hS hl

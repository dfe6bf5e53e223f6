/-! CompactformsModel.dropsEmpty(I)V -/
def fX8_dropsEmpty_24 (x : MSt) (s0 : Int32) (s1 : Int32) : Option (MSt) := chk (inb s1 16) (keep (mType_s x (upd (mType x) (s1).toNatClampNeg s0)) (fun x2 => some x2))
def fX8_dropsEmpty (x : MSt) (p1 : Int32) : Option (MSt) := chk (inb p1 16) ((if ((mSize x) (p1).toNatClampNeg) = 0 then fX8_dropsEmpty_24 x 0 p1 else chk (inb p1 16) (fX8_dropsEmpty_24 x ((mType x) (p1).toNatClampNeg) p1)))
set_option maxHeartbeats 4000000 in
set_option maxRecDepth 100000 in
theorem met_X8_dropsEmpty {D : va_G} {cI cV cJ cD : ClassId} (l : Launch) (a : Nat → Nat) (x : MSt) (p1 : Int32) (res : MSt) (hf : fX8_dropsEmpty x p1 = some res) : MM l yX8_dropsEmpty cX8_dropsEmpty 2 none { frames := 0, cells := 0, slots := 0, locals := 0 } D (TY cI cV cJ cD) (W_Model cI a x) (W_Model cI a res) [.ref (a 0), .int p1] none := by
  intro sz
  refine Met.ofW (cc := cX8_dropsEmpty) (maxL := 2) (ret := none) (by decide +kernel) rfl ?_
  intro p e s m args below meth c s₁ B hml hv
  obtain ⟨rfl, hsz, hP, hK, hD0, hE⟩ := hv
  have hx := B.exec
  have hb := B.bytes
  have hr := B.returns
  have hts := atoms_spec (ws := .code yX8_dropsEmpty cX8_dropsEmpty 2 none :: GW) B.pre
  have hg : ∀ w ∈ GW, w.before (([.ref (a 0), .int p1] : List Value).toArray) s = true := fun w h => hts w (List.mem_cons_of_mem _ h)
  have hown : s.vm.findClass RX8 = some m.cls := findClass_of_methodNamed B.named
  have hlocks := B.notSynchronized
  subst hsz
  have hD := hD0.self (sz := s.heap.size)
  generalize hAe : va_A (W_Model cI a x) s.heap.size = A at hD hE ⊢
  have hA : ∀ q : Nat, s.heap.size ≤ q → A q := fun q h => by rw [← hAe]; exact Or.inr h
  have hS : va_S A s.heap s.heap [] := va_S.rf
  have hl := lv_entry ([.ref (a 0), .int p1]) (n := 2) (Nat.le_of_ble_eq_true rfl)
  rw [lg_entry_eq]
  generalize (lg_sl ([.ref (a 0), .int p1]) ++ List.replicate (2 - (lg_sl ([.ref (a 0), .int p1])).length) Slot.unset).toArray = ls at hl ⊢
  have hl : lv_has ls 2 [(0, .ref (a 0)), (1, .int p1)] := hl
  have L24 : ∀ (x : MSt) (s0 : Int32) (s1 : Int32) (H : Heap) (locs : List Loc) (ls : Array Slot), fX8_dropsEmpty_24 x s0 s1  = some res → va_P D vwCl (W_Model cI a x) H → va_D A (W_Model cI a x) → va_S A s.heap H locs → lv_has ls 2 [] → W p l e ({ frames := 0, cells := 0, slots := 0, locals := 0 } : Room) s m ([.ref (a 0), .int p1] : List Value).toArray below meth c H locs 0 0 (MQ below (QW D (TY cI cV cJ cD) (W_Model cI a res) A none) (([.ref (a 0), .int p1] : List Value).toArray) s 0 0 A) (F0 m 24 ls [.int s0, .int s1, .ref (a 1)]) := by
    intro x s0 s1 H locs ls hf hP hD hS hl
    dsimp only [fX8_dropsEmpty_24] at hf
    obtain ⟨hi1, hf⟩ := chk_t hf
    refine va_iast hx hb hK hP hD hS 1 0 rfl rfl (inb_in hi1) dX8_dropsEmpty_24 (fun H locs hP hD hS => ?_)
    obtain ⟨x2, hx2⟩ : ∃ z, z = (mType_s x (upd (mType x) (s1).toNatClampNeg s0)) := ⟨_, rfl⟩
    replace hf := keep_e hf x2 hx2
    have hP : va_P D vwCl (W_Model cI a x2) H := by rw [hx2]; exact hP
    have hD : va_D A (W_Model cI a x2) := by rw [hx2]; exact hD
    obtain rfl := Option.some.inj hf
    exact W.vret hx hb hr (fun t ht hW => ⟨rfl, by rw [ht]; exact hP, va_K.moved hW.alike hK, hD, hS.F ht⟩) hS.2.2 dX8_dropsEmpty_25 hlocks
  have M0 : ∀ (H : Heap) (locs : List Loc) (ls : Array Slot), fX8_dropsEmpty x p1 = some res → va_P D vwCl (W_Model cI a x) H → va_D A (W_Model cI a x) → va_S A s.heap H locs → lv_has ls 2 [(0, .ref (a 0)), (1, .int p1)] → W p l e ({ frames := 0, cells := 0, slots := 0, locals := 0 } : Room) s m ([.ref (a 0), .int p1] : List Value).toArray below meth c H locs 0 0 (MQ below (QW D (TY cI cV cJ cD) (W_Model cI a res) A none) (([.ref (a 0), .int p1] : List Value).toArray) s 0 0 A) (F0 m 0 ls []) := by
    intro H locs ls hf hP hD hS hl
    dsimp only [fX8_dropsEmpty] at hf
    refine lv_aload_n hx hb dX8_dropsEmpty_0 rfl (lv_at hl 0 rfl) ?_
    refine va_get (D := D) (ci := 7) (v := .ref (a 1)) (C := RX8) (T := TX8) (N := 24) hx hb hg in_X8 hown hK hP 0 rfl rfl 2 (by decide) (hg _ w827) (fun _ h9 => h9) rfl dX8_dropsEmpty_1 ?_
    refine lv_iload_n hx hb dX8_dropsEmpty_4 rfl (lv_at hl 1 rfl) ?_
    refine lv_aload_n hx hb dX8_dropsEmpty_5 rfl (lv_at hl 0 rfl) ?_
    refine va_get (D := D) (ci := 7) (v := .ref (a 4)) (C := RX8) (T := TX8) (N := 24) hx hb hg in_X8 hown hK hP 0 rfl rfl 5 (by decide) (hg _ w830) (fun _ h9 => h9) rfl dX8_dropsEmpty_6 ?_
    refine lv_iload_n hx hb dX8_dropsEmpty_9 rfl (lv_at hl 1 rfl) ?_
    obtain ⟨hi3, hf⟩ := chk_t hf
    refine va_iald hx hb hK hP 4 0 rfl rfl (inb_in hi3) dX8_dropsEmpty_10 ?_
    refine lv_if_ne (tgt := 18) hx hb dX8_dropsEmpty_11 (by decide) (fun c4 => ?_) (fun c4 => ?_)
    · replace hf := if_f c4 hf
      refine lv_aload_n hx hb dX8_dropsEmpty_18 rfl (lv_at hl 0 rfl) ?_
      refine va_get (D := D) (ci := 7) (v := .ref (a 1)) (C := RX8) (T := TX8) (N := 24) hx hb hg in_X8 hown hK hP 0 rfl rfl 2 (by decide) (hg _ w827) (fun _ h9 => h9) rfl dX8_dropsEmpty_19 ?_
      refine lv_iload_n hx hb dX8_dropsEmpty_22 rfl (lv_at hl 1 rfl) ?_
      obtain ⟨hi5, hf⟩ := chk_t hf
      refine va_iald hx hb hK hP 1 0 rfl rfl (inb_in hi5) dX8_dropsEmpty_23 ?_
      exact L24 x ((mType x) (p1).toNatClampNeg) p1 H locs ls hf hP hD hS (lv_sub hl [] rfl)
    · replace hf := if_t c4 hf
      refine lv_iconst (v := 0) hx hb dX8_dropsEmpty_14 (by decide) ?_
      refine lv_goto (tgt := 24) hx hb dX8_dropsEmpty_15 (by decide) ?_
      exact L24 x 0 p1 H locs ls hf hP hD hS (lv_sub hl [] rfl)
  exact M0 s.heap [] ls hf hP hD hS hl
/-! CompactformsModel.grows(IZ)V -/
def fX8_grows_19 (x : MSt) (s0 : Int32) (s1 : Int32) : Option (MSt) := chk (inb s1 16) (keep (mForm_s x (upd (mForm x) (s1).toNatClampNeg s0)) (fun x2 => some x2))
def fX8_grows (x : MSt) (p1 : Int32) (p2 : Int32) : Option (MSt) := (if p2 = 0 then chk (inb p1 16) (fX8_grows_19 x ((mForm x) (p1).toNatClampNeg) p1) else fX8_grows_19 x 2 p1)
set_option maxHeartbeats 4000000 in
set_option maxRecDepth 100000 in
theorem met_X8_grows {D : va_G} {cI cV cJ cD : ClassId} (l : Launch) (a : Nat → Nat) (x : MSt) (p1 : Int32) (p2 : Int32) (res : MSt) (hf : fX8_grows x p1 p2 = some res) : MM l yX8_grows cX8_grows 3 none { frames := 0, cells := 0, slots := 0, locals := 0 } D (TY cI cV cJ cD) (W_Model cI a x) (W_Model cI a res) [.ref (a 0), .int p1, .int p2] none := by
  intro sz
  refine Met.ofW (cc := cX8_grows) (maxL := 3) (ret := none) (by decide +kernel) rfl ?_
  intro p e s m args below meth c s₁ B hml hv
  obtain ⟨rfl, hsz, hP, hK, hD0, hE⟩ := hv
  have hx := B.exec
  have hb := B.bytes
  have hr := B.returns
  have hts := atoms_spec (ws := .code yX8_grows cX8_grows 3 none :: GW) B.pre
  have hg : ∀ w ∈ GW, w.before (([.ref (a 0), .int p1, .int p2] : List Value).toArray) s = true := fun w h => hts w (List.mem_cons_of_mem _ h)
  have hown : s.vm.findClass RX8 = some m.cls := findClass_of_methodNamed B.named
  have hlocks := B.notSynchronized
  subst hsz
  have hD := hD0.self (sz := s.heap.size)
  generalize hAe : va_A (W_Model cI a x) s.heap.size = A at hD hE ⊢
  have hA : ∀ q : Nat, s.heap.size ≤ q → A q := fun q h => by rw [← hAe]; exact Or.inr h
  have hS : va_S A s.heap s.heap [] := va_S.rf
  have hl := lv_entry ([.ref (a 0), .int p1, .int p2]) (n := 3) (Nat.le_of_ble_eq_true rfl)
  rw [lg_entry_eq]
  generalize (lg_sl ([.ref (a 0), .int p1, .int p2]) ++ List.replicate (3 - (lg_sl ([.ref (a 0), .int p1, .int p2])).length) Slot.unset).toArray = ls at hl ⊢
  have hl : lv_has ls 3 [(0, .ref (a 0)), (1, .int p1), (2, .int p2)] := hl
  have L19 : ∀ (x : MSt) (s0 : Int32) (s1 : Int32) (H : Heap) (locs : List Loc) (ls : Array Slot), fX8_grows_19 x s0 s1  = some res → va_P D vwCl (W_Model cI a x) H → va_D A (W_Model cI a x) → va_S A s.heap H locs → lv_has ls 3 [] → W p l e ({ frames := 0, cells := 0, slots := 0, locals := 0 } : Room) s m ([.ref (a 0), .int p1, .int p2] : List Value).toArray below meth c H locs 0 0 (MQ below (QW D (TY cI cV cJ cD) (W_Model cI a res) A none) (([.ref (a 0), .int p1, .int p2] : List Value).toArray) s 0 0 A) (F0 m 19 ls [.int s0, .int s1, .ref (a 3)]) := by
    intro x s0 s1 H locs ls hf hP hD hS hl
    dsimp only [fX8_grows_19] at hf
    obtain ⟨hi1, hf⟩ := chk_t hf
    refine va_iast hx hb hK hP hD hS 3 0 rfl rfl (inb_in hi1) dX8_grows_19 (fun H locs hP hD hS => ?_)
    obtain ⟨x2, hx2⟩ : ∃ z, z = (mForm_s x (upd (mForm x) (s1).toNatClampNeg s0)) := ⟨_, rfl⟩
    replace hf := keep_e hf x2 hx2
    have hP : va_P D vwCl (W_Model cI a x2) H := by rw [hx2]; exact hP
    have hD : va_D A (W_Model cI a x2) := by rw [hx2]; exact hD
    obtain rfl := Option.some.inj hf
    exact W.vret hx hb hr (fun t ht hW => ⟨rfl, by rw [ht]; exact hP, va_K.moved hW.alike hK, hD, hS.F ht⟩) hS.2.2 dX8_grows_20 hlocks
  have M0 : ∀ (H : Heap) (locs : List Loc) (ls : Array Slot), fX8_grows x p1 p2 = some res → va_P D vwCl (W_Model cI a x) H → va_D A (W_Model cI a x) → va_S A s.heap H locs → lv_has ls 3 [(0, .ref (a 0)), (1, .int p1), (2, .int p2)] → W p l e ({ frames := 0, cells := 0, slots := 0, locals := 0 } : Room) s m ([.ref (a 0), .int p1, .int p2] : List Value).toArray below meth c H locs 0 0 (MQ below (QW D (TY cI cV cJ cD) (W_Model cI a res) A none) (([.ref (a 0), .int p1, .int p2] : List Value).toArray) s 0 0 A) (F0 m 0 ls []) := by
    intro H locs ls hf hP hD hS hl
    dsimp only [fX8_grows] at hf
    refine lv_aload_n hx hb dX8_grows_0 rfl (lv_at hl 0 rfl) ?_
    refine va_get (D := D) (ci := 7) (v := .ref (a 3)) (C := RX8) (T := TX8) (N := 24) hx hb hg in_X8 hown hK hP 0 rfl rfl 4 (by decide) (hg _ w829) (fun _ h9 => h9) rfl dX8_grows_1 ?_
    refine lv_iload_n hx hb dX8_grows_4 rfl (lv_at hl 1 rfl) ?_
    refine lv_iload_n hx hb dX8_grows_5 rfl (lv_at hl 2 rfl) ?_
    refine lv_if_eq (tgt := 13) hx hb dX8_grows_6 (by decide) (fun c3 => ?_) (fun c3 => ?_)
    · replace hf := if_t c3 hf
      refine lv_aload_n hx hb dX8_grows_13 rfl (lv_at hl 0 rfl) ?_
      refine va_get (D := D) (ci := 7) (v := .ref (a 3)) (C := RX8) (T := TX8) (N := 24) hx hb hg in_X8 hown hK hP 0 rfl rfl 4 (by decide) (hg _ w829) (fun _ h9 => h9) rfl dX8_grows_14 ?_
      refine lv_iload_n hx hb dX8_grows_17 rfl (lv_at hl 1 rfl) ?_
      obtain ⟨hi4, hf⟩ := chk_t hf
      refine va_iald hx hb hK hP 3 0 rfl rfl (inb_in hi4) dX8_grows_18 ?_
      exact L19 x ((mForm x) (p1).toNatClampNeg) p1 H locs ls hf hP hD hS (lv_sub hl [] rfl)
    · replace hf := if_f c3 hf
      refine lv_iconst (v := 2) hx hb dX8_grows_9 (by decide) ?_
      refine lv_goto (tgt := 19) hx hb dX8_grows_10 (by decide) ?_
      exact L19 x 2 p1 H locs ls hf hP hD hS (lv_sub hl [] rfl)
  exact M0 s.heap [] ls hf hP hD hS hl
/-! CompactformsModel.find(II)I -/
def fX8_find_12 (x : MSt) (v1 : Int32) (v2 : Int32) (rec12 : Int32 × Int32 → Option (Int32)) (s : Int32 × Int32) : Option (Int32) := match s with | (v3, v4) => (if v4 < 0 then some v3 else chk (inb ((40 * v1) + v4) 640) ((if ((mValues x) (((40 * v1) + v4)).toNatClampNeg) = v2 then keep (v4 + (-1)) (fun y5 => rec12 (v4, y5)) else keep (v4 + (-1)) (fun y4 => rec12 (v3, y4)))))
def fX8_find (x : MSt) (p1 : Int32) (p2 : Int32) : Option (Int32) := chk (inb p1 16) (keep (((mSize x) (p1).toNatClampNeg) - 1) (fun y7 => iterK FU (fX8_find_12 x p1 p2) ((-1), y7)))
set_option maxHeartbeats 4000000 in
set_option maxRecDepth 100000 in
theorem met_X8_find {D : va_G} {cI cV cJ cD : ClassId} (l : Launch) (a : Nat → Nat) (x : MSt) (p1 : Int32) (p2 : Int32) (res : Int32) (hf : fX8_find x p1 p2 = some res) : MM l yX8_find cX8_find 5 (some .int) { frames := 0, cells := 0, slots := 0, locals := 0 } D (TY cI cV cJ cD) (W_Model cI a x) (W_Model cI a x) [.ref (a 0), .int p1, .int p2] (some (.int res)) := by
  intro sz
  refine Met.ofW (cc := cX8_find) (maxL := 5) (ret := (some .int)) (by decide +kernel) rfl ?_
  intro p e s m args below meth c s₁ B hml hv
  obtain ⟨rfl, hsz, hP, hK, hD0, hE⟩ := hv
  have hx := B.exec
  have hb := B.bytes
  have hr := B.returns
  have hts := atoms_spec (ws := .code yX8_find cX8_find 5 (some .int) :: GW) B.pre
  have hg : ∀ w ∈ GW, w.before (([.ref (a 0), .int p1, .int p2] : List Value).toArray) s = true := fun w h => hts w (List.mem_cons_of_mem _ h)
  have hown : s.vm.findClass RX8 = some m.cls := findClass_of_methodNamed B.named
  have hlocks := B.notSynchronized
  subst hsz
  have hD := hD0.self (sz := s.heap.size)
  generalize hAe : va_A (W_Model cI a x) s.heap.size = A at hD hE ⊢
  have hA : ∀ q : Nat, s.heap.size ≤ q → A q := fun q h => by rw [← hAe]; exact Or.inr h
  have hS : va_S A s.heap s.heap [] := va_S.rf
  have hl := lv_entry ([.ref (a 0), .int p1, .int p2]) (n := 5) (Nat.le_of_ble_eq_true rfl)
  rw [lg_entry_eq]
  generalize (lg_sl ([.ref (a 0), .int p1, .int p2]) ++ List.replicate (5 - (lg_sl ([.ref (a 0), .int p1, .int p2])).length) Slot.unset).toArray = ls at hl ⊢
  have hl : lv_has ls 5 [(0, .ref (a 0)), (1, .int p1), (2, .int p2)] := hl
  have S12 : ∀ (x : MSt) (v1 : Int32) (v2 : Int32) (rec12 : Int32 × Int32 → Option (Int32)) (hrec12 : ∀ (v3 : Int32), ∀ (v4 : Int32), ∀ (H : Heap) (locs : List Loc) (ls : Array Slot), rec12 (v3, v4) = some res → va_P D vwCl (W_Model cI a x) H → va_D A (W_Model cI a x) → va_S A s.heap H locs → lv_has ls 5 [(0, .ref (a 0)), (1, .int v1), (2, .int v2), (3, .int v3), (4, .int v4)] → W p l e ({ frames := 0, cells := 0, slots := 0, locals := 0 } : Room) s m ([.ref (a 0), .int p1, .int p2] : List Value).toArray below meth c H locs 0 0 (MQ below (QW D (TY cI cV cJ cD) (W_Model cI a x) A (some (.int res))) (([.ref (a 0), .int p1, .int p2] : List Value).toArray) s 0 0 A) (F0 m 12 ls [])) (v3 : Int32) (v4 : Int32) (H : Heap) (locs : List Loc) (ls : Array Slot), fX8_find_12 x v1 v2  rec12 (v3, v4) = some res → va_P D vwCl (W_Model cI a x) H → va_D A (W_Model cI a x) → va_S A s.heap H locs → lv_has ls 5 [(0, .ref (a 0)), (1, .int v1), (2, .int v2), (3, .int v3), (4, .int v4)] → W p l e ({ frames := 0, cells := 0, slots := 0, locals := 0 } : Room) s m ([.ref (a 0), .int p1, .int p2] : List Value).toArray below meth c H locs 0 0 (MQ below (QW D (TY cI cV cJ cD) (W_Model cI a x) A (some (.int res))) (([.ref (a 0), .int p1, .int p2] : List Value).toArray) s 0 0 A) (F0 m 12 ls []) := by
    intro x v1 v2 rec12 hrec12 v3 v4 H locs ls hf hP hD hS hl
    dsimp only [fX8_find_12] at hf
    refine lv_iload hx hb dX8_find_12 (lv_at hl 4 rfl) ?_
    refine lv_if_lt (tgt := 46) hx hb dX8_find_14 (by decide) (fun c1 => ?_) (fun c1 => ?_)
    · replace hf := if_t c1 hf
      refine lv_iload_n hx hb dX8_find_46 rfl (lv_at hl 3 rfl) ?_
      obtain rfl := Option.some.inj hf
      exact W.iret (v := v3) hx hb hr (fun t ht hW => ⟨rfl, by rw [ht]; exact hP, va_K.moved hW.alike hK, hD, hS.F ht⟩) hS.2.2 dX8_find_47 hlocks
    · replace hf := if_f c1 hf
      refine lv_aload_n hx hb dX8_find_17 rfl (lv_at hl 0 rfl) ?_
      refine va_get (D := D) (ci := 7) (v := .ref (a 6)) (C := RX8) (T := TX8) (N := 24) hx hb hg in_X8 hown hK hP 0 rfl rfl 7 (by decide) (hg _ w832) (fun _ h9 => h9) rfl dX8_find_18 ?_
      refine lv_bipush (v := 40) hx hb dX8_find_21 (by decide) ?_
      refine lv_iload_n hx hb dX8_find_23 rfl (lv_at hl 1 rfl) ?_
      refine lv_imul hx hb dX8_find_24 ?_
      refine lv_iload hx hb dX8_find_25 (lv_at hl 4 rfl) ?_
      refine lv_iadd hx hb dX8_find_27 ?_
      obtain ⟨hi2, hf⟩ := chk_t hf
      refine va_iald hx hb hK hP 6 0 rfl rfl (inb_in hi2) dX8_find_28 ?_
      refine lv_iload_n hx hb dX8_find_29 rfl (lv_at hl 2 rfl) ?_
      refine lv_icmp_ne (tgt := 38) hx hb dX8_find_30 (by decide) (fun c3 => ?_) (fun c3 => ?_)
      · replace hf := if_f c3 hf
        refine lv_iload_n hx hb dX8_find_38 rfl (lv_at hl 3 rfl) ?_
        refine lv_istore_n (lv' := [(3, .int v3), (0, .ref (a 0)), (1, .int v1), (2, .int v2), (4, .int v4)]) hx hb dX8_find_39 rfl hl (by decide) rfl (fun ls hl => ?_)
        obtain ⟨y4, hy4⟩ : ∃ z : Int32, z = (v4 + (-1)) := ⟨_, rfl⟩
        replace hf := keep_e hf y4 hy4
        refine lv_iinc (v := y4) (lv' := [(4, .int y4), (3, .int v3), (0, .ref (a 0)), (1, .int v1), (2, .int v2)]) hx hb dX8_find_40 hl (k := 4) rfl (by rw [hy4]; rfl) (by decide) rfl (fun ls hl => ?_)
        refine lv_goto (tgt := 12) hx hb dX8_find_43 (by decide) ?_
        exact hrec12 v3 y4 H locs ls hf hP hD hS (lv_sub hl [2, 3, 4, 1, 0] rfl)
      · replace hf := if_t c3 hf
        refine lv_iload hx hb dX8_find_33 (lv_at hl 4 rfl) ?_
        refine lv_goto (tgt := 39) hx hb dX8_find_35 (by decide) ?_
        refine lv_istore_n (lv' := [(3, .int v4), (0, .ref (a 0)), (1, .int v1), (2, .int v2), (4, .int v4)]) hx hb dX8_find_39 rfl hl (by decide) rfl (fun ls hl => ?_)
        obtain ⟨y5, hy5⟩ : ∃ z : Int32, z = (v4 + (-1)) := ⟨_, rfl⟩
        replace hf := keep_e hf y5 hy5
        refine lv_iinc (v := y5) (lv' := [(4, .int y5), (3, .int v4), (0, .ref (a 0)), (1, .int v1), (2, .int v2)]) hx hb dX8_find_40 hl (k := 4) rfl (by rw [hy5]; rfl) (by decide) rfl (fun ls hl => ?_)
        refine lv_goto (tgt := 12) hx hb dX8_find_43 (by decide) ?_
        exact hrec12 v4 y5 H locs ls hf hP hD hS (lv_sub hl [2, 3, 4, 1, 0] rfl)
  have L12 : ∀ (x : MSt) (v1 : Int32) (v2 : Int32) (fu : Nat) (v3 : Int32) (v4 : Int32) (H : Heap) (locs : List Loc) (ls : Array Slot), iterK fu (fX8_find_12 x v1 v2 ) (v3, v4) = some res → va_P D vwCl (W_Model cI a x) H → va_D A (W_Model cI a x) → va_S A s.heap H locs → lv_has ls 5 [(0, .ref (a 0)), (1, .int v1), (2, .int v2), (3, .int v3), (4, .int v4)] → W p l e ({ frames := 0, cells := 0, slots := 0, locals := 0 } : Room) s m ([.ref (a 0), .int p1, .int p2] : List Value).toArray below meth c H locs 0 0 (MQ below (QW D (TY cI cV cJ cD) (W_Model cI a x) A (some (.int res))) (([.ref (a 0), .int p1, .int p2] : List Value).toArray) s 0 0 A) (F0 m 12 ls []) := by
    intro x v1 v2 fu
    induction fu with
    | zero =>
      intro v3 v4 H locs ls hf
      cases hf
    | succ fu ih =>
      intro v3 v4 H locs ls hf hP hD hS hl
      exact S12 x v1 v2 (iterK fu (fX8_find_12 x v1 v2 )) ih v3 v4 H locs ls hf hP hD hS hl
  have M0 : ∀ (H : Heap) (locs : List Loc) (ls : Array Slot), fX8_find x p1 p2 = some res → va_P D vwCl (W_Model cI a x) H → va_D A (W_Model cI a x) → va_S A s.heap H locs → lv_has ls 5 [(0, .ref (a 0)), (1, .int p1), (2, .int p2)] → W p l e ({ frames := 0, cells := 0, slots := 0, locals := 0 } : Room) s m ([.ref (a 0), .int p1, .int p2] : List Value).toArray below meth c H locs 0 0 (MQ below (QW D (TY cI cV cJ cD) (W_Model cI a x) A (some (.int res))) (([.ref (a 0), .int p1, .int p2] : List Value).toArray) s 0 0 A) (F0 m 0 ls []) := by
    intro H locs ls hf hP hD hS hl
    dsimp only [fX8_find] at hf
    refine lv_iconst (v := (-1)) hx hb dX8_find_0 (by decide) ?_
    refine lv_istore_n (lv' := [(3, .int (-1)), (0, .ref (a 0)), (1, .int p1), (2, .int p2)]) hx hb dX8_find_1 rfl hl (by decide) rfl (fun ls hl => ?_)
    refine lv_aload_n hx hb dX8_find_2 rfl (lv_at hl 1 rfl) ?_
    refine va_get (D := D) (ci := 7) (v := .ref (a 4)) (C := RX8) (T := TX8) (N := 24) hx hb hg in_X8 hown hK hP 0 rfl rfl 5 (by decide) (hg _ w830) (fun _ h9 => h9) rfl dX8_find_3 ?_
    refine lv_iload_n hx hb dX8_find_6 rfl (lv_at hl 2 rfl) ?_
    obtain ⟨hi6, hf⟩ := chk_t hf
    refine va_iald hx hb hK hP 4 0 rfl rfl (inb_in hi6) dX8_find_7 ?_
    refine lv_iconst (v := 1) hx hb dX8_find_8 (by decide) ?_
    refine lv_isub hx hb dX8_find_9 ?_
    refine lv_topi (fun y7 hy7 => ?_)
    replace hf := keep_e hf y7 hy7
    refine lv_istore (lv' := [(4, .int y7), (3, .int (-1)), (0, .ref (a 0)), (1, .int p1), (2, .int p2)]) hx hb dX8_find_10 hl (by decide) rfl (fun ls hl => ?_)
    exact L12 x p1 p2 FU (-1) y7 H locs ls hf hP hD hS (lv_sub hl [2, 3, 4, 1, 0] rfl)
  exact M0 s.heap [] ls hf hP hD hS hl
/-! CompactformsModel.pushes(IIZ)I -/
def fX8_pushes_52 (x : MSt) (v1 : Int32) (s0 : Int32) (s1 : Int32) : Option (MSt × Int32) := (fX8_grows x s1 s0).bind (fun u1 => keep u1 (fun x3 => chk (inb v1 16) (some (x3, ((mSize x3) (v1).toNatClampNeg)))))
def fX8_pushes_47 (x : MSt) (v1 : Int32) (s0 : Int32) : Option (MSt × Int32) := fX8_pushes_52 x v1 1 s0
def fX8_pushes_22 (x : MSt) (v1 : Int32) (v2 : Int32) (s0 : Int32) (s1 : Int32) : Option (MSt × Int32) := (fX8_putsIn x s1 s0 v2 0).bind (fun u5 => keep u5 (fun x7 => chk (inb v1 16) ((if 8 < ((mSize x7) (v1).toNatClampNeg) then fX8_pushes_47 x7 v1 v1 else (if v2 ≤ 255 then fX8_pushes_52 x7 v1 0 v1 else fX8_pushes_47 x7 v1 v1)))))
def fX8_pushes (x : MSt) (p1 : Int32) (p2 : Int32) (p3 : Int32) : Option (MSt × Int32) := (fX8_makes x p1 1).bind (fun u11 => keep u11 (fun x13 => (if p3 = 0 then fX8_pushes_22 x13 p1 p2 0 p1 else chk (inb p1 16) (fX8_pushes_22 x13 p1 p2 ((mSize x13) (p1).toNatClampNeg) p1))))
set_option maxHeartbeats 4000000 in
set_option maxRecDepth 100000 in
theorem met_X8_pushes {D : va_G} {cI cV cJ cD : ClassId} (l : Launch) (a : Nat → Nat) (x : MSt) (p1 : Int32) (p2 : Int32) (p3 : Int32) (res : MSt × Int32) (hf : fX8_pushes x p1 p2 p3 = some res) : MM l yX8_pushes cX8_pushes 4 (some .int) { frames := 2, cells := 0, slots := 0, locals := 44 } D (TY cI cV cJ cD) (W_Model cI a x) (W_Model cI a res.1) [.ref (a 0), .int p1, .int p2, .int p3] (some (.int res.2)) := by
  intro sz
  refine Met.ofW (cc := cX8_pushes) (maxL := 4) (ret := (some .int)) (by decide +kernel) rfl ?_
  intro p e s m args below meth c s₁ B hml hv
  obtain ⟨rfl, hsz, hP, hK, hD0, hE⟩ := hv
  have hx := B.exec
  have hb := B.bytes
  have hr := B.returns
  have hts := atoms_spec (ws := .code yX8_pushes cX8_pushes 4 (some .int) :: GW) B.pre
  have hg : ∀ w ∈ GW, w.before (([.ref (a 0), .int p1, .int p2, .int p3] : List Value).toArray) s = true := fun w h => hts w (List.mem_cons_of_mem _ h)
  have hown : s.vm.findClass RX8 = some m.cls := findClass_of_methodNamed B.named
  have hlocks := B.notSynchronized
  subst hsz
  have hD := hD0.self (sz := s.heap.size)
  generalize hAe : va_A (W_Model cI a x) s.heap.size = A at hD hE ⊢
  have hA : ∀ q : Nat, s.heap.size ≤ q → A q := fun q h => by rw [← hAe]; exact Or.inr h
  have hS : va_S A s.heap s.heap [] := va_S.rf
  have hl := lv_entry ([.ref (a 0), .int p1, .int p2, .int p3]) (n := 4) (Nat.le_of_ble_eq_true rfl)
  rw [lg_entry_eq]
  generalize (lg_sl ([.ref (a 0), .int p1, .int p2, .int p3]) ++ List.replicate (4 - (lg_sl ([.ref (a 0), .int p1, .int p2, .int p3])).length) Slot.unset).toArray = ls at hl ⊢
  have hl : lv_has ls 4 [(0, .ref (a 0)), (1, .int p1), (2, .int p2), (3, .int p3)] := hl
  have L52 : ∀ (x : MSt) (v1 : Int32) (s0 : Int32) (s1 : Int32) (H : Heap) (locs : List Loc) (ls : Array Slot), fX8_pushes_52 x v1 s0 s1  = some res → va_P D vwCl (W_Model cI a x) H → va_D A (W_Model cI a x) → va_S A s.heap H locs → lv_has ls 4 [(0, .ref (a 0)), (1, .int v1)] → W p l e ({ frames := 2, cells := 0, slots := 0, locals := 44 } : Room) s m ([.ref (a 0), .int p1, .int p2, .int p3] : List Value).toArray below meth c H locs 0 0 (MQ below (QW D (TY cI cV cJ cD) (W_Model cI a res.1) A (some (.int res.2))) (([.ref (a 0), .int p1, .int p2, .int p3] : List Value).toArray) s 0 0 A) (F0 m 52 ls [.int s0, .int s1, .ref (a 0)]) := by
    intro x v1 s0 s1 H locs ls hf hP hD hS hl
    dsimp only [fX8_pushes_52] at hf
    obtain ⟨u1, hc2, hf⟩ := bind_t hf
    refine k_V (As := [.int s1, .int s0]) (rest := []) (n := 2) ⟨hx, hb, hml, hown, hts⟩ (met_X8_grows l a x s1 s0 u1 hc2) w943 w945 ws32 w9 w946 ⟨rfl, by decide +kernel, by decide +kernel, by decide +kernel⟩ ⟨Nat.le_of_ble_eq_true rfl, Nat.le_of_ble_eq_true rfl⟩ hK hE hP hD hS hA (isC := [0, 1, 2, 3, 4, 5, 6, 7, 8, 9, 10, 11, 12, 13, 14]) (isR := []) (isB := [0, 1, 2, 3, 4, 5, 6, 7, 8, 9, 10, 11, 12, 13, 14]) (ws' := W_Model cI a u1) ⟨([] : List Nat).filterMap (fun i : Nat => (W_Model cI a x : va_W)[i]?), rfl, rfl, rfl, rfl, by decide, rfl, rfl⟩ 0 7 rfl rfl rfl rfl hl.1 rfl (Nat.le_of_ble_eq_true rfl) dX8_pushes_52 ⟨Nat.le_of_ble_eq_true rfl, Nat.le_of_ble_eq_true rfl⟩ (fun H locs hP hD hS => ?_)
    try dsimp only at hf
    refine W.eq (g2 := F0 m 55 ls []) rfl ?_
    obtain ⟨x3, hx3⟩ : ∃ z, z = u1 := ⟨_, rfl⟩
    replace hf := keep_e hf x3 hx3
    have hP : va_P D vwCl (W_Model cI a x3) H := by rw [hx3]; exact hP
    have hD : va_D A (W_Model cI a x3) := by rw [hx3]; exact hD
    refine lv_aload_n hx hb dX8_pushes_55 rfl (lv_at hl 0 rfl) ?_
    refine va_get (D := D) (ci := 7) (v := .ref (a 4)) (C := RX8) (T := TX8) (N := 24) hx hb hg in_X8 hown hK hP 0 rfl rfl 5 (by decide) (hg _ w830) (fun _ h9 => h9) rfl dX8_pushes_56 ?_
    refine lv_iload_n hx hb dX8_pushes_59 rfl (lv_at hl 1 rfl) ?_
    obtain ⟨hi4, hf⟩ := chk_t hf
    refine va_iald hx hb hK hP 4 0 rfl rfl (inb_in hi4) dX8_pushes_60 ?_
    obtain rfl := Option.some.inj hf
    exact W.iret (v := ((mSize x3) (v1).toNatClampNeg)) hx hb hr (fun t ht hW => ⟨rfl, by rw [ht]; exact hP, va_K.moved hW.alike hK, hD, hS.F ht⟩) hS.2.2 dX8_pushes_61 hlocks
  have L47 : ∀ (x : MSt) (v1 : Int32) (s0 : Int32) (H : Heap) (locs : List Loc) (ls : Array Slot), fX8_pushes_47 x v1 s0  = some res → va_P D vwCl (W_Model cI a x) H → va_D A (W_Model cI a x) → va_S A s.heap H locs → lv_has ls 4 [(0, .ref (a 0)), (1, .int v1)] → W p l e ({ frames := 2, cells := 0, slots := 0, locals := 44 } : Room) s m ([.ref (a 0), .int p1, .int p2, .int p3] : List Value).toArray below meth c H locs 0 0 (MQ below (QW D (TY cI cV cJ cD) (W_Model cI a res.1) A (some (.int res.2))) (([.ref (a 0), .int p1, .int p2, .int p3] : List Value).toArray) s 0 0 A) (F0 m 47 ls [.int s0, .ref (a 0)]) := by
    intro x v1 s0 H locs ls hf hP hD hS hl
    dsimp only [fX8_pushes_47] at hf
    refine lv_iconst (v := 1) hx hb dX8_pushes_47 (by decide) ?_
    refine lv_goto (tgt := 52) hx hb dX8_pushes_48 (by decide) ?_
    exact L52 x v1 1 s0 H locs ls hf hP hD hS (lv_sub hl [0, 1] rfl)
  have L22 : ∀ (x : MSt) (v1 : Int32) (v2 : Int32) (s0 : Int32) (s1 : Int32) (H : Heap) (locs : List Loc) (ls : Array Slot), fX8_pushes_22 x v1 v2 s0 s1  = some res → va_P D vwCl (W_Model cI a x) H → va_D A (W_Model cI a x) → va_S A s.heap H locs → lv_has ls 4 [(0, .ref (a 0)), (1, .int v1), (2, .int v2)] → W p l e ({ frames := 2, cells := 0, slots := 0, locals := 44 } : Room) s m ([.ref (a 0), .int p1, .int p2, .int p3] : List Value).toArray below meth c H locs 0 0 (MQ below (QW D (TY cI cV cJ cD) (W_Model cI a res.1) A (some (.int res.2))) (([.ref (a 0), .int p1, .int p2, .int p3] : List Value).toArray) s 0 0 A) (F0 m 22 ls [.int s0, .int s1, .ref (a 0)]) := by
    intro x v1 v2 s0 s1 H locs ls hf hP hD hS hl
    dsimp only [fX8_pushes_22] at hf
    refine lv_iload_n hx hb dX8_pushes_22 rfl (lv_at hl 2 rfl) ?_
    refine lv_iconst (v := 0) hx hb dX8_pushes_23 (by decide) ?_
    obtain ⟨u5, hc6, hf⟩ := bind_t hf
    refine k_V (As := [.int s1, .int s0, .int v2, .int 0]) (rest := []) (n := 4) ⟨hx, hb, hml, hown, hts⟩ (met_X8_putsIn l a x s1 s0 v2 0 u5 hc6) w939 w941 ws31 w9 w942 ⟨rfl, by decide +kernel, by decide +kernel, by decide +kernel⟩ ⟨Nat.le_of_ble_eq_true rfl, Nat.le_of_ble_eq_true rfl⟩ hK hE hP hD hS hA (isC := [0, 1, 2, 3, 4, 5, 6, 7, 8, 9, 10, 11, 12, 13, 14]) (isR := []) (isB := [0, 1, 2, 3, 4, 5, 6, 7, 8, 9, 10, 11, 12, 13, 14]) (ws' := W_Model cI a u5) ⟨([] : List Nat).filterMap (fun i : Nat => (W_Model cI a x : va_W)[i]?), rfl, rfl, rfl, rfl, by decide, rfl, rfl⟩ 0 7 rfl rfl rfl rfl hl.1 rfl (Nat.le_of_ble_eq_true rfl) dX8_pushes_24 ⟨Nat.le_of_ble_eq_true rfl, Nat.le_of_ble_eq_true rfl⟩ (fun H locs hP hD hS => ?_)
    try dsimp only at hf
    refine W.eq (g2 := F0 m 27 ls []) rfl ?_
    obtain ⟨x7, hx7⟩ : ∃ z, z = u5 := ⟨_, rfl⟩
    replace hf := keep_e hf x7 hx7
    have hP : va_P D vwCl (W_Model cI a x7) H := by rw [hx7]; exact hP
    have hD : va_D A (W_Model cI a x7) := by rw [hx7]; exact hD
    refine lv_aload_n hx hb dX8_pushes_27 rfl (lv_at hl 0 rfl) ?_
    refine lv_iload_n hx hb dX8_pushes_28 rfl (lv_at hl 1 rfl) ?_
    refine lv_aload_n hx hb dX8_pushes_29 rfl (lv_at hl 0 rfl) ?_
    refine va_get (D := D) (ci := 7) (v := .ref (a 4)) (C := RX8) (T := TX8) (N := 24) hx hb hg in_X8 hown hK hP 0 rfl rfl 5 (by decide) (hg _ w830) (fun _ h9 => h9) rfl dX8_pushes_30 ?_
    refine lv_iload_n hx hb dX8_pushes_33 rfl (lv_at hl 1 rfl) ?_
    obtain ⟨hi8, hf⟩ := chk_t hf
    refine va_iald hx hb hK hP 4 0 rfl rfl (inb_in hi8) dX8_pushes_34 ?_
    refine lv_bipush (v := 8) hx hb dX8_pushes_35 (by decide) ?_
    refine lv_icmp_gt (tgt := 47) hx hb dX8_pushes_37 (by decide) (fun c9 => ?_) (fun c9 => ?_)
    · replace hf := if_t c9 hf
      exact L47 x7 v1 v1 H locs ls hf hP hD hS (lv_sub hl [0, 1] rfl)
    · replace hf := if_f c9 hf
      refine lv_iload_n hx hb dX8_pushes_40 rfl (lv_at hl 2 rfl) ?_
      refine lv_sipush (v := 255) hx hb dX8_pushes_41 (by decide) ?_
      refine lv_icmp_le (tgt := 51) hx hb dX8_pushes_44 (by decide) (fun c10 => ?_) (fun c10 => ?_)
      · replace hf := if_t c10 hf
        refine lv_iconst (v := 0) hx hb dX8_pushes_51 (by decide) ?_
        exact L52 x7 v1 0 v1 H locs ls hf hP hD hS (lv_sub hl [0, 1] rfl)
      · replace hf := if_f c10 hf
        exact L47 x7 v1 v1 H locs ls hf hP hD hS (lv_sub hl [0, 1] rfl)
  have M0 : ∀ (H : Heap) (locs : List Loc) (ls : Array Slot), fX8_pushes x p1 p2 p3 = some res → va_P D vwCl (W_Model cI a x) H → va_D A (W_Model cI a x) → va_S A s.heap H locs → lv_has ls 4 [(0, .ref (a 0)), (1, .int p1), (2, .int p2), (3, .int p3)] → W p l e ({ frames := 2, cells := 0, slots := 0, locals := 44 } : Room) s m ([.ref (a 0), .int p1, .int p2, .int p3] : List Value).toArray below meth c H locs 0 0 (MQ below (QW D (TY cI cV cJ cD) (W_Model cI a res.1) A (some (.int res.2))) (([.ref (a 0), .int p1, .int p2, .int p3] : List Value).toArray) s 0 0 A) (F0 m 0 ls []) := by
    intro H locs ls hf hP hD hS hl
    dsimp only [fX8_pushes] at hf
    refine lv_aload_n hx hb dX8_pushes_0 rfl (lv_at hl 0 rfl) ?_
    refine lv_iload_n hx hb dX8_pushes_1 rfl (lv_at hl 1 rfl) ?_
    refine lv_iconst (v := 1) hx hb dX8_pushes_2 (by decide) ?_
    obtain ⟨u11, hc12, hf⟩ := bind_t hf
    refine k_V (As := [.int p1, .int 1]) (rest := []) (n := 2) ⟨hx, hb, hml, hown, hts⟩ (met_X8_makes l a x p1 1 u11 hc12) w935 w937 ws30 w9 w938 ⟨rfl, by decide +kernel, by decide +kernel, by decide +kernel⟩ ⟨Nat.le_of_ble_eq_true rfl, Nat.le_of_ble_eq_true rfl⟩ hK hE hP hD hS hA (isC := [0, 1, 2, 3, 4, 5, 6, 7, 8, 9, 10, 11, 12, 13, 14]) (isR := []) (isB := [0, 1, 2, 3, 4, 5, 6, 7, 8, 9, 10, 11, 12, 13, 14]) (ws' := W_Model cI a u11) ⟨([] : List Nat).filterMap (fun i : Nat => (W_Model cI a x : va_W)[i]?), rfl, rfl, rfl, rfl, by decide, rfl, rfl⟩ 0 7 rfl rfl rfl rfl hl.1 rfl (Nat.le_of_ble_eq_true rfl) dX8_pushes_3 ⟨Nat.le_of_ble_eq_true rfl, Nat.le_of_ble_eq_true rfl⟩ (fun H locs hP hD hS => ?_)
    try dsimp only at hf
    refine W.eq (g2 := F0 m 6 ls []) rfl ?_
    obtain ⟨x13, hx13⟩ : ∃ z, z = u11 := ⟨_, rfl⟩
    replace hf := keep_e hf x13 hx13
    have hP : va_P D vwCl (W_Model cI a x13) H := by rw [hx13]; exact hP
    have hD : va_D A (W_Model cI a x13) := by rw [hx13]; exact hD
    refine lv_aload_n hx hb dX8_pushes_6 rfl (lv_at hl 0 rfl) ?_
    refine lv_iload_n hx hb dX8_pushes_7 rfl (lv_at hl 1 rfl) ?_
    refine lv_iload_n hx hb dX8_pushes_8 rfl (lv_at hl 3 rfl) ?_
    refine lv_if_eq (tgt := 21) hx hb dX8_pushes_9 (by decide) (fun c14 => ?_) (fun c14 => ?_)
    · replace hf := if_t c14 hf
      refine lv_iconst (v := 0) hx hb dX8_pushes_21 (by decide) ?_
      exact L22 x13 p1 p2 0 p1 H locs ls hf hP hD hS (lv_sub hl [0, 1, 2] rfl)
    · replace hf := if_f c14 hf
      refine lv_aload_n hx hb dX8_pushes_12 rfl (lv_at hl 0 rfl) ?_
      refine va_get (D := D) (ci := 7) (v := .ref (a 4)) (C := RX8) (T := TX8) (N := 24) hx hb hg in_X8 hown hK hP 0 rfl rfl 5 (by decide) (hg _ w830) (fun _ h9 => h9) rfl dX8_pushes_13 ?_
      refine lv_iload_n hx hb dX8_pushes_16 rfl (lv_at hl 1 rfl) ?_
      obtain ⟨hi15, hf⟩ := chk_t hf
      refine va_iald hx hb hK hP 4 0 rfl rfl (inb_in hi15) dX8_pushes_17 ?_
      refine lv_goto (tgt := 22) hx hb dX8_pushes_18 (by decide) ?_
      exact L22 x13 p1 p2 ((mSize x13) (p1).toNatClampNeg) p1 H locs ls hf hP hD hS (lv_sub hl [0, 1, 2] rfl)
  exact M0 s.heap [] ls hf hP hD hS hl
/-! CompactformsModel.pops(IZ)I -/
def fX8_pops_18 (x : MSt) (v1 : Int32) (s0 : Int32) (s1 : Int32) : Option (MSt × Int32) := (fX8_takesOut x s1 s0).bind (fun u1 => keep u1.1 (fun x3 => keep u1.2 (fun y4 => (fX8_dropsEmpty x3 v1).bind (fun u5 => keep u5 (fun x7 => some (x7, y4))))))
def fX8_pops (x : MSt) (p1 : Int32) (p2 : Int32) : Option (MSt × Int32) := (if p2 = 0 then fX8_pops_18 x p1 0 p1 else chk (inb p1 16) (fX8_pops_18 x p1 (((mSize x) (p1).toNatClampNeg) - 1) p1))
set_option maxHeartbeats 4000000 in
set_option maxRecDepth 100000 in
theorem met_X8_pops {D : va_G} {cI cV cJ cD : ClassId} (l : Launch) (a : Nat → Nat) (x : MSt) (p1 : Int32) (p2 : Int32) (res : MSt × Int32) (hf : fX8_pops x p1 p2 = some res) : MM l yX8_pops cX8_pops 4 (some .int) { frames := 1, cells := 0, slots := 0, locals := 24 } D (TY cI cV cJ cD) (W_Model cI a x) (W_Model cI a res.1) [.ref (a 0), .int p1, .int p2] (some (.int res.2)) := by
  intro sz
  refine Met.ofW (cc := cX8_pops) (maxL := 4) (ret := (some .int)) (by decide +kernel) rfl ?_
  intro p e s m args below meth c s₁ B hml hv
  obtain ⟨rfl, hsz, hP, hK, hD0, hE⟩ := hv
  have hx := B.exec
  have hb := B.bytes
  have hr := B.returns
  have hts := atoms_spec (ws := .code yX8_pops cX8_pops 4 (some .int) :: GW) B.pre
  have hg : ∀ w ∈ GW, w.before (([.ref (a 0), .int p1, .int p2] : List Value).toArray) s = true := fun w h => hts w (List.mem_cons_of_mem _ h)
  have hown : s.vm.findClass RX8 = some m.cls := findClass_of_methodNamed B.named
  have hlocks := B.notSynchronized
  subst hsz
  have hD := hD0.self (sz := s.heap.size)
  generalize hAe : va_A (W_Model cI a x) s.heap.size = A at hD hE ⊢
  have hA : ∀ q : Nat, s.heap.size ≤ q → A q := fun q h => by rw [← hAe]; exact Or.inr h
  have hS : va_S A s.heap s.heap [] := va_S.rf
  have hl := lv_entry ([.ref (a 0), .int p1, .int p2]) (n := 4) (Nat.le_of_ble_eq_true rfl)
  rw [lg_entry_eq]
  generalize (lg_sl ([.ref (a 0), .int p1, .int p2]) ++ List.replicate (4 - (lg_sl ([.ref (a 0), .int p1, .int p2])).length) Slot.unset).toArray = ls at hl ⊢
  have hl : lv_has ls 4 [(0, .ref (a 0)), (1, .int p1), (2, .int p2)] := hl
  have L18 : ∀ (x : MSt) (v1 : Int32) (s0 : Int32) (s1 : Int32) (H : Heap) (locs : List Loc) (ls : Array Slot), fX8_pops_18 x v1 s0 s1  = some res → va_P D vwCl (W_Model cI a x) H → va_D A (W_Model cI a x) → va_S A s.heap H locs → lv_has ls 4 [(0, .ref (a 0)), (1, .int v1)] → W p l e ({ frames := 1, cells := 0, slots := 0, locals := 24 } : Room) s m ([.ref (a 0), .int p1, .int p2] : List Value).toArray below meth c H locs 0 0 (MQ below (QW D (TY cI cV cJ cD) (W_Model cI a res.1) A (some (.int res.2))) (([.ref (a 0), .int p1, .int p2] : List Value).toArray) s 0 0 A) (F0 m 18 ls [.int s0, .int s1, .ref (a 0)]) := by
    intro x v1 s0 s1 H locs ls hf hP hD hS hl
    dsimp only [fX8_pops_18] at hf
    obtain ⟨u1, hc2, hf⟩ := bind_t hf
    refine k_V (As := [.int s1, .int s0]) (rest := []) (n := 2) ⟨hx, hb, hml, hown, hts⟩ (met_X8_takesOut l a x s1 s0 u1 hc2) w959 w961 ws35 w9 w962 ⟨rfl, by decide +kernel, by decide +kernel, by decide +kernel⟩ ⟨Nat.le_of_ble_eq_true rfl, Nat.le_of_ble_eq_true rfl⟩ hK hE hP hD hS hA (isC := [0, 1, 2, 3, 4, 5, 6, 7, 8, 9, 10, 11, 12, 13, 14]) (isR := []) (isB := [0, 1, 2, 3, 4, 5, 6, 7, 8, 9, 10, 11, 12, 13, 14]) (ws' := W_Model cI a u1.1) ⟨([] : List Nat).filterMap (fun i : Nat => (W_Model cI a x : va_W)[i]?), rfl, rfl, rfl, rfl, by decide, rfl, rfl⟩ 0 7 rfl rfl rfl rfl hl.1 rfl (Nat.le_of_ble_eq_true rfl) dX8_pops_18 ⟨Nat.le_of_ble_eq_true rfl, Nat.le_of_ble_eq_true rfl⟩ (fun H locs hP hD hS => ?_)
    try dsimp only at hf
    refine W.eq (g2 := F0 m 21 ls [.int u1.2]) rfl ?_
    obtain ⟨x3, hx3⟩ : ∃ z, z = u1.1 := ⟨_, rfl⟩
    replace hf := keep_e hf x3 hx3
    have hP : va_P D vwCl (W_Model cI a x3) H := by rw [hx3]; exact hP
    have hD : va_D A (W_Model cI a x3) := by rw [hx3]; exact hD
    refine lv_topi (fun y4 hy4 => ?_)
    replace hf := keep_e hf y4 hy4
    refine lv_istore_n (lv' := [(3, .int y4), (0, .ref (a 0)), (1, .int v1)]) hx hb dX8_pops_21 rfl hl (by decide) rfl (fun ls hl => ?_)
    refine lv_aload_n hx hb dX8_pops_22 rfl (lv_at hl 1 rfl) ?_
    refine lv_iload_n hx hb dX8_pops_23 rfl (lv_at hl 2 rfl) ?_
    obtain ⟨u5, hc6, hf⟩ := bind_t hf
    refine k_V (As := [.int v1]) (rest := []) (n := 1) ⟨hx, hb, hml, hown, hts⟩ (met_X8_dropsEmpty l a x3 v1 u5 hc6) w963 w965 ws36 w9 w966 ⟨rfl, by decide +kernel, by decide +kernel, by decide +kernel⟩ ⟨Nat.le_of_ble_eq_true rfl, Nat.le_of_ble_eq_true rfl⟩ hK hE hP hD hS hA (isC := [0, 1, 2, 3, 4, 5, 6, 7, 8, 9, 10, 11, 12, 13, 14]) (isR := []) (isB := [0, 1, 2, 3, 4, 5, 6, 7, 8, 9, 10, 11, 12, 13, 14]) (ws' := W_Model cI a u5) ⟨([] : List Nat).filterMap (fun i : Nat => (W_Model cI a x3 : va_W)[i]?), rfl, rfl, rfl, rfl, by decide, rfl, rfl⟩ 0 7 rfl rfl rfl rfl hl.1 rfl (Nat.le_of_ble_eq_true rfl) dX8_pops_24 ⟨Nat.le_of_ble_eq_true rfl, Nat.le_of_ble_eq_true rfl⟩ (fun H locs hP hD hS => ?_)
    try dsimp only at hf
    refine W.eq (g2 := F0 m 27 ls []) rfl ?_
    obtain ⟨x7, hx7⟩ : ∃ z, z = u5 := ⟨_, rfl⟩
    replace hf := keep_e hf x7 hx7
    have hP : va_P D vwCl (W_Model cI a x7) H := by rw [hx7]; exact hP
    have hD : va_D A (W_Model cI a x7) := by rw [hx7]; exact hD
    refine lv_iload_n hx hb dX8_pops_27 rfl (lv_at hl 0 rfl) ?_
    obtain rfl := Option.some.inj hf
    exact W.iret (v := y4) hx hb hr (fun t ht hW => ⟨rfl, by rw [ht]; exact hP, va_K.moved hW.alike hK, hD, hS.F ht⟩) hS.2.2 dX8_pops_28 hlocks
  have M0 : ∀ (H : Heap) (locs : List Loc) (ls : Array Slot), fX8_pops x p1 p2 = some res → va_P D vwCl (W_Model cI a x) H → va_D A (W_Model cI a x) → va_S A s.heap H locs → lv_has ls 4 [(0, .ref (a 0)), (1, .int p1), (2, .int p2)] → W p l e ({ frames := 1, cells := 0, slots := 0, locals := 24 } : Room) s m ([.ref (a 0), .int p1, .int p2] : List Value).toArray below meth c H locs 0 0 (MQ below (QW D (TY cI cV cJ cD) (W_Model cI a res.1) A (some (.int res.2))) (([.ref (a 0), .int p1, .int p2] : List Value).toArray) s 0 0 A) (F0 m 0 ls []) := by
    intro H locs ls hf hP hD hS hl
    dsimp only [fX8_pops] at hf
    refine lv_aload_n hx hb dX8_pops_0 rfl (lv_at hl 0 rfl) ?_
    refine lv_iload_n hx hb dX8_pops_1 rfl (lv_at hl 1 rfl) ?_
    refine lv_iload_n hx hb dX8_pops_2 rfl (lv_at hl 2 rfl) ?_
    refine lv_if_eq (tgt := 17) hx hb dX8_pops_3 (by decide) (fun c8 => ?_) (fun c8 => ?_)
    · replace hf := if_t c8 hf
      refine lv_iconst (v := 0) hx hb dX8_pops_17 (by decide) ?_
      exact L18 x p1 0 p1 H locs ls hf hP hD hS (lv_sub hl [0, 1] rfl)
    · replace hf := if_f c8 hf
      refine lv_aload_n hx hb dX8_pops_6 rfl (lv_at hl 0 rfl) ?_
      refine va_get (D := D) (ci := 7) (v := .ref (a 4)) (C := RX8) (T := TX8) (N := 24) hx hb hg in_X8 hown hK hP 0 rfl rfl 5 (by decide) (hg _ w830) (fun _ h9 => h9) rfl dX8_pops_7 ?_
      refine lv_iload_n hx hb dX8_pops_10 rfl (lv_at hl 1 rfl) ?_
      obtain ⟨hi9, hf⟩ := chk_t hf
      refine va_iald hx hb hK hP 4 0 rfl rfl (inb_in hi9) dX8_pops_11 ?_
      refine lv_iconst (v := 1) hx hb dX8_pops_12 (by decide) ?_
      refine lv_isub hx hb dX8_pops_13 ?_
      refine lv_goto (tgt := 18) hx hb dX8_pops_14 (by decide) ?_
      exact L18 x p1 (((mSize x) (p1).toNatClampNeg) - 1) p1 H locs ls hf hP hD hS (lv_sub hl [0, 1] rfl)
  exact M0 s.heap [] ls hf hP hD hS hl
/-! CompactformsModel.adds(II)Z -/
def fX8_adds_107 (x : MSt) (s0 : Int32) (s1 : Int32) (s2 : Int32) : Option (MSt × Int32) := chk (inb s2 16) (keep (mBuckets_s x (upd (mBuckets x) (s2).toNatClampNeg (s1 * s0))) (fun x2 => some (x2, 1)))
def fX8_adds_77 (x : MSt) (v1 : Int32) (s0 : Int32) (s1 : Int32) : Option (MSt × Int32) := (fX8_grows x s1 s0).bind (fun u3 => keep u3 (fun x5 => chk (inb v1 16) (chk (inb v1 16) (chk (inb v1 16) ((if ((mSize x5) (v1).toNatClampNeg) ≤ ((mBuckets x5) (v1).toNatClampNeg) then fX8_adds_107 x5 1 ((mBuckets x5) (v1).toNatClampNeg) v1 else fX8_adds_107 x5 2 ((mBuckets x5) (v1).toNatClampNeg) v1))))))
def fX8_adds_51 (x : MSt) (v1 : Int32) (v2 : Int32) (v3 : Int32) : Option (MSt × Int32) := (fX8_putsIn x v1 v3 v2 0).bind (fun u10 => keep u10 (fun x12 => chk (inb v1 16) ((if ((mSize x12) (v1).toNatClampNeg) ≤ 8 then fX8_adds_77 x12 v1 0 v1 else fX8_adds_77 x12 v1 1 v1))))
def fX8_adds_20 (x : MSt) (v1 : Int32) (v2 : Int32) (rec20 : Int32 → Option (MSt × Int32)) (v3 : Int32) : Option (MSt × Int32) := chk (inb v1 16) ((if ((mSize x) (v1).toNatClampNeg) ≤ v3 then fX8_adds_51 x v1 v2 v3 else chk (inb ((40 * v1) + v3) 640) ((if v2 ≤ ((mValues x) (((40 * v1) + v3)).toNatClampNeg) then fX8_adds_51 x v1 v2 v3 else keep (v3 + 1) (fun y19 => rec20 y19)))))
def fX8_adds (x : MSt) (p1 : Int32) (p2 : Int32) : Option (MSt × Int32) := (fX8_makes x p1 2).bind (fun u20 => keep u20 (fun x22 => (fX8_find x22 p1 p2).bind (fun u23 => (if u23 = (-1) then iterK FU (fX8_adds_20 x22 p1 p2) 0 else some (x22, 0)))))
set_option maxHeartbeats 4000000 in
set_option maxRecDepth 100000 in
theorem met_X8_adds {D : va_G} {cI cV cJ cD : ClassId} (l : Launch) (a : Nat → Nat) (x : MSt) (p1 : Int32) (p2 : Int32) (res : MSt × Int32) (hf : fX8_adds x p1 p2 = some res) : MM l yX8_adds cX8_adds 4 (some .boolean) { frames := 2, cells := 0, slots := 0, locals := 44 } D (TY cI cV cJ cD) (W_Model cI a x) (W_Model cI a res.1) [.ref (a 0), .int p1, .int p2] (some (.int res.2)) := by
  intro sz
  refine Met.ofW (cc := cX8_adds) (maxL := 4) (ret := (some .boolean)) (by decide +kernel) rfl ?_
  intro p e s m args below meth c s₁ B hml hv
  obtain ⟨rfl, hsz, hP, hK, hD0, hE⟩ := hv
  have hx := B.exec
  have hb := B.bytes
  have hr := B.returns
  have hts := atoms_spec (ws := .code yX8_adds cX8_adds 4 (some .boolean) :: GW) B.pre
  have hg : ∀ w ∈ GW, w.before (([.ref (a 0), .int p1, .int p2] : List Value).toArray) s = true := fun w h => hts w (List.mem_cons_of_mem _ h)
  have hown : s.vm.findClass RX8 = some m.cls := findClass_of_methodNamed B.named
  have hlocks := B.notSynchronized
  subst hsz
  have hD := hD0.self (sz := s.heap.size)
  generalize hAe : va_A (W_Model cI a x) s.heap.size = A at hD hE ⊢
  have hA : ∀ q : Nat, s.heap.size ≤ q → A q := fun q h => by rw [← hAe]; exact Or.inr h
  have hS : va_S A s.heap s.heap [] := va_S.rf
  have hl := lv_entry ([.ref (a 0), .int p1, .int p2]) (n := 4) (Nat.le_of_ble_eq_true rfl)
  rw [lg_entry_eq]
  generalize (lg_sl ([.ref (a 0), .int p1, .int p2]) ++ List.replicate (4 - (lg_sl ([.ref (a 0), .int p1, .int p2])).length) Slot.unset).toArray = ls at hl ⊢
  have hl : lv_has ls 4 [(0, .ref (a 0)), (1, .int p1), (2, .int p2)] := hl
  have L107 : ∀ (x : MSt) (s0 : Int32) (s1 : Int32) (s2 : Int32) (H : Heap) (locs : List Loc) (ls : Array Slot), fX8_adds_107 x s0 s1 s2  = some res → va_P D vwCl (W_Model cI a x) H → va_D A (W_Model cI a x) → va_S A s.heap H locs → lv_has ls 4 [] → W p l e ({ frames := 2, cells := 0, slots := 0, locals := 44 } : Room) s m ([.ref (a 0), .int p1, .int p2] : List Value).toArray below meth c H locs 0 0 (MQ below (QW D (TY cI cV cJ cD) (W_Model cI a res.1) A (some (.int res.2))) (([.ref (a 0), .int p1, .int p2] : List Value).toArray) s 0 0 A) (F0 m 107 ls [.int s0, .int s1, .int s2, .ref (a 5)]) := by
    intro x s0 s1 s2 H locs ls hf hP hD hS hl
    dsimp only [fX8_adds_107] at hf
    refine lv_imul hx hb dX8_adds_107 ?_
    obtain ⟨hi1, hf⟩ := chk_t hf
    refine va_iast hx hb hK hP hD hS 5 0 rfl rfl (inb_in hi1) dX8_adds_108 (fun H locs hP hD hS => ?_)
    obtain ⟨x2, hx2⟩ : ∃ z, z = (mBuckets_s x (upd (mBuckets x) (s2).toNatClampNeg (s1 * s0))) := ⟨_, rfl⟩
    replace hf := keep_e hf x2 hx2
    have hP : va_P D vwCl (W_Model cI a x2) H := by rw [hx2]; exact hP
    have hD : va_D A (W_Model cI a x2) := by rw [hx2]; exact hD
    refine lv_iconst (v := 1) hx hb dX8_adds_109 (by decide) ?_
    obtain rfl := Option.some.inj hf
    exact W.zret (v := 1) hx hb hr (by decide +kernel) (fun t ht hW => ⟨rfl, by rw [ht]; exact hP, va_K.moved hW.alike hK, hD, hS.F ht⟩) hS.2.2 dX8_adds_110 hlocks
  have L77 : ∀ (x : MSt) (v1 : Int32) (s0 : Int32) (s1 : Int32) (H : Heap) (locs : List Loc) (ls : Array Slot), fX8_adds_77 x v1 s0 s1  = some res → va_P D vwCl (W_Model cI a x) H → va_D A (W_Model cI a x) → va_S A s.heap H locs → lv_has ls 4 [(0, .ref (a 0)), (1, .int v1)] → W p l e ({ frames := 2, cells := 0, slots := 0, locals := 44 } : Room) s m ([.ref (a 0), .int p1, .int p2] : List Value).toArray below meth c H locs 0 0 (MQ below (QW D (TY cI cV cJ cD) (W_Model cI a res.1) A (some (.int res.2))) (([.ref (a 0), .int p1, .int p2] : List Value).toArray) s 0 0 A) (F0 m 77 ls [.int s0, .int s1, .ref (a 0)]) := by
    intro x v1 s0 s1 H locs ls hf hP hD hS hl
    dsimp only [fX8_adds_77] at hf
    obtain ⟨u3, hc4, hf⟩ := bind_t hf
    refine k_V (As := [.int s1, .int s0]) (rest := []) (n := 2) ⟨hx, hb, hml, hown, hts⟩ (met_X8_grows l a x s1 s0 u3 hc4) w943 w945 ws32 w9 w946 ⟨rfl, by decide +kernel, by decide +kernel, by decide +kernel⟩ ⟨Nat.le_of_ble_eq_true rfl, Nat.le_of_ble_eq_true rfl⟩ hK hE hP hD hS hA (isC := [0, 1, 2, 3, 4, 5, 6, 7, 8, 9, 10, 11, 12, 13, 14]) (isR := []) (isB := [0, 1, 2, 3, 4, 5, 6, 7, 8, 9, 10, 11, 12, 13, 14]) (ws' := W_Model cI a u3) ⟨([] : List Nat).filterMap (fun i : Nat => (W_Model cI a x : va_W)[i]?), rfl, rfl, rfl, rfl, by decide, rfl, rfl⟩ 0 7 rfl rfl rfl rfl hl.1 rfl (Nat.le_of_ble_eq_true rfl) dX8_adds_77 ⟨Nat.le_of_ble_eq_true rfl, Nat.le_of_ble_eq_true rfl⟩ (fun H locs hP hD hS => ?_)
    try dsimp only at hf
    refine W.eq (g2 := F0 m 80 ls []) rfl ?_
    obtain ⟨x5, hx5⟩ : ∃ z, z = u3 := ⟨_, rfl⟩
    replace hf := keep_e hf x5 hx5
    have hP : va_P D vwCl (W_Model cI a x5) H := by rw [hx5]; exact hP
    have hD : va_D A (W_Model cI a x5) := by rw [hx5]; exact hD
    refine lv_aload_n hx hb dX8_adds_80 rfl (lv_at hl 0 rfl) ?_
    refine va_get (D := D) (ci := 7) (v := .ref (a 5)) (C := RX8) (T := TX8) (N := 24) hx hb hg in_X8 hown hK hP 0 rfl rfl 6 (by decide) (hg _ w831) (fun _ h9 => h9) rfl dX8_adds_81 ?_
    refine lv_iload_n hx hb dX8_adds_84 rfl (lv_at hl 1 rfl) ?_
    refine lv_dup2_11 hx hb dX8_adds_85 rfl rfl ?_
    obtain ⟨hi6, hf⟩ := chk_t hf
    refine va_iald hx hb hK hP 5 0 rfl rfl (inb_in hi6) dX8_adds_86 ?_
    refine lv_aload_n hx hb dX8_adds_87 rfl (lv_at hl 0 rfl) ?_
    refine va_get (D := D) (ci := 7) (v := .ref (a 4)) (C := RX8) (T := TX8) (N := 24) hx hb hg in_X8 hown hK hP 0 rfl rfl 5 (by decide) (hg _ w830) (fun _ h9 => h9) rfl dX8_adds_88 ?_
    refine lv_iload_n hx hb dX8_adds_91 rfl (lv_at hl 1 rfl) ?_
    obtain ⟨hi7, hf⟩ := chk_t hf
    refine va_iald hx hb hK hP 4 0 rfl rfl (inb_in hi7) dX8_adds_92 ?_
    refine lv_aload_n hx hb dX8_adds_93 rfl (lv_at hl 0 rfl) ?_
    refine va_get (D := D) (ci := 7) (v := .ref (a 5)) (C := RX8) (T := TX8) (N := 24) hx hb hg in_X8 hown hK hP 0 rfl rfl 6 (by decide) (hg _ w831) (fun _ h9 => h9) rfl dX8_adds_94 ?_
    refine lv_iload_n hx hb dX8_adds_97 rfl (lv_at hl 1 rfl) ?_
    obtain ⟨hi8, hf⟩ := chk_t hf
    refine va_iald hx hb hK hP 5 0 rfl rfl (inb_in hi8) dX8_adds_98 ?_
    refine lv_icmp_le (tgt := 106) hx hb dX8_adds_99 (by decide) (fun c9 => ?_) (fun c9 => ?_)
    · replace hf := if_t c9 hf
      refine lv_iconst (v := 1) hx hb dX8_adds_106 (by decide) ?_
      exact L107 x5 1 ((mBuckets x5) (v1).toNatClampNeg) v1 H locs ls hf hP hD hS (lv_sub hl [] rfl)
    · replace hf := if_f c9 hf
      refine lv_iconst (v := 2) hx hb dX8_adds_102 (by decide) ?_
      refine lv_goto (tgt := 107) hx hb dX8_adds_103 (by decide) ?_
      exact L107 x5 2 ((mBuckets x5) (v1).toNatClampNeg) v1 H locs ls hf hP hD hS (lv_sub hl [] rfl)
  have L51 : ∀ (x : MSt) (v1 : Int32) (v2 : Int32) (v3 : Int32) (H : Heap) (locs : List Loc) (ls : Array Slot), fX8_adds_51 x v1 v2 v3  = some res → va_P D vwCl (W_Model cI a x) H → va_D A (W_Model cI a x) → va_S A s.heap H locs → lv_has ls 4 [(0, .ref (a 0)), (1, .int v1), (2, .int v2), (3, .int v3)] → W p l e ({ frames := 2, cells := 0, slots := 0, locals := 44 } : Room) s m ([.ref (a 0), .int p1, .int p2] : List Value).toArray below meth c H locs 0 0 (MQ below (QW D (TY cI cV cJ cD) (W_Model cI a res.1) A (some (.int res.2))) (([.ref (a 0), .int p1, .int p2] : List Value).toArray) s 0 0 A) (F0 m 51 ls []) := by
    intro x v1 v2 v3 H locs ls hf hP hD hS hl
    dsimp only [fX8_adds_51] at hf
    refine lv_aload_n hx hb dX8_adds_51 rfl (lv_at hl 0 rfl) ?_
    refine lv_iload_n hx hb dX8_adds_52 rfl (lv_at hl 1 rfl) ?_
    refine lv_iload_n hx hb dX8_adds_53 rfl (lv_at hl 3 rfl) ?_
    refine lv_iload_n hx hb dX8_adds_54 rfl (lv_at hl 2 rfl) ?_
    refine lv_iconst (v := 0) hx hb dX8_adds_55 (by decide) ?_
    obtain ⟨u10, hc11, hf⟩ := bind_t hf
    refine k_V (As := [.int v1, .int v3, .int v2, .int 0]) (rest := []) (n := 4) ⟨hx, hb, hml, hown, hts⟩ (met_X8_putsIn l a x v1 v3 v2 0 u10 hc11) w939 w941 ws31 w9 w942 ⟨rfl, by decide +kernel, by decide +kernel, by decide +kernel⟩ ⟨Nat.le_of_ble_eq_true rfl, Nat.le_of_ble_eq_true rfl⟩ hK hE hP hD hS hA (isC := [0, 1, 2, 3, 4, 5, 6, 7, 8, 9, 10, 11, 12, 13, 14]) (isR := []) (isB := [0, 1, 2, 3, 4, 5, 6, 7, 8, 9, 10, 11, 12, 13, 14]) (ws' := W_Model cI a u10) ⟨([] : List Nat).filterMap (fun i : Nat => (W_Model cI a x : va_W)[i]?), rfl, rfl, rfl, rfl, by decide, rfl, rfl⟩ 0 7 rfl rfl rfl rfl hl.1 rfl (Nat.le_of_ble_eq_true rfl) dX8_adds_56 ⟨Nat.le_of_ble_eq_true rfl, Nat.le_of_ble_eq_true rfl⟩ (fun H locs hP hD hS => ?_)
    try dsimp only at hf
    refine W.eq (g2 := F0 m 59 ls []) rfl ?_
    obtain ⟨x12, hx12⟩ : ∃ z, z = u10 := ⟨_, rfl⟩
    replace hf := keep_e hf x12 hx12
    have hP : va_P D vwCl (W_Model cI a x12) H := by rw [hx12]; exact hP
    have hD : va_D A (W_Model cI a x12) := by rw [hx12]; exact hD
    refine lv_aload_n hx hb dX8_adds_59 rfl (lv_at hl 0 rfl) ?_
    refine lv_iload_n hx hb dX8_adds_60 rfl (lv_at hl 1 rfl) ?_
    refine lv_aload_n hx hb dX8_adds_61 rfl (lv_at hl 0 rfl) ?_
    refine va_get (D := D) (ci := 7) (v := .ref (a 4)) (C := RX8) (T := TX8) (N := 24) hx hb hg in_X8 hown hK hP 0 rfl rfl 5 (by decide) (hg _ w830) (fun _ h9 => h9) rfl dX8_adds_62 ?_
    refine lv_iload_n hx hb dX8_adds_65 rfl (lv_at hl 1 rfl) ?_
    obtain ⟨hi13, hf⟩ := chk_t hf
    refine va_iald hx hb hK hP 4 0 rfl rfl (inb_in hi13) dX8_adds_66 ?_
    refine lv_bipush (v := 8) hx hb dX8_adds_67 (by decide) ?_
    refine lv_icmp_le (tgt := 76) hx hb dX8_adds_69 (by decide) (fun c14 => ?_) (fun c14 => ?_)
    · replace hf := if_t c14 hf
      refine lv_iconst (v := 0) hx hb dX8_adds_76 (by decide) ?_
      exact L77 x12 v1 0 v1 H locs ls hf hP hD hS (lv_sub hl [0, 1] rfl)
    · replace hf := if_f c14 hf
      refine lv_iconst (v := 1) hx hb dX8_adds_72 (by decide) ?_
      refine lv_goto (tgt := 77) hx hb dX8_adds_73 (by decide) ?_
      exact L77 x12 v1 1 v1 H locs ls hf hP hD hS (lv_sub hl [0, 1] rfl)
  have S20 : ∀ (x : MSt) (v1 : Int32) (v2 : Int32) (rec20 : Int32 → Option (MSt × Int32)) (hrec20 : ∀ (v3 : Int32), ∀ (H : Heap) (locs : List Loc) (ls : Array Slot), rec20 v3 = some res → va_P D vwCl (W_Model cI a x) H → va_D A (W_Model cI a x) → va_S A s.heap H locs → lv_has ls 4 [(0, .ref (a 0)), (1, .int v1), (2, .int v2), (3, .int v3)] → W p l e ({ frames := 2, cells := 0, slots := 0, locals := 44 } : Room) s m ([.ref (a 0), .int p1, .int p2] : List Value).toArray below meth c H locs 0 0 (MQ below (QW D (TY cI cV cJ cD) (W_Model cI a res.1) A (some (.int res.2))) (([.ref (a 0), .int p1, .int p2] : List Value).toArray) s 0 0 A) (F0 m 20 ls [])) (v3 : Int32) (H : Heap) (locs : List Loc) (ls : Array Slot), fX8_adds_20 x v1 v2  rec20 v3 = some res → va_P D vwCl (W_Model cI a x) H → va_D A (W_Model cI a x) → va_S A s.heap H locs → lv_has ls 4 [(0, .ref (a 0)), (1, .int v1), (2, .int v2), (3, .int v3)] → W p l e ({ frames := 2, cells := 0, slots := 0, locals := 44 } : Room) s m ([.ref (a 0), .int p1, .int p2] : List Value).toArray below meth c H locs 0 0 (MQ below (QW D (TY cI cV cJ cD) (W_Model cI a res.1) A (some (.int res.2))) (([.ref (a 0), .int p1, .int p2] : List Value).toArray) s 0 0 A) (F0 m 20 ls []) := by
    intro x v1 v2 rec20 hrec20 v3 H locs ls hf hP hD hS hl
    dsimp only [fX8_adds_20] at hf
    refine lv_iload_n hx hb dX8_adds_20 rfl (lv_at hl 3 rfl) ?_
    refine lv_aload_n hx hb dX8_adds_21 rfl (lv_at hl 0 rfl) ?_
    refine va_get (D := D) (ci := 7) (v := .ref (a 4)) (C := RX8) (T := TX8) (N := 24) hx hb hg in_X8 hown hK hP 0 rfl rfl 5 (by decide) (hg _ w830) (fun _ h9 => h9) rfl dX8_adds_22 ?_
    refine lv_iload_n hx hb dX8_adds_25 rfl (lv_at hl 1 rfl) ?_
    obtain ⟨hi15, hf⟩ := chk_t hf
    refine va_iald hx hb hK hP 4 0 rfl rfl (inb_in hi15) dX8_adds_26 ?_
    refine lv_icmp_ge (tgt := 51) hx hb dX8_adds_27 (by decide) (fun c16 => ?_) (fun c16 => ?_)
    · replace hf := if_t c16 hf
      exact L51 x v1 v2 v3 H locs ls hf hP hD hS (lv_sub hl [0, 1, 2, 3] rfl)
    · replace hf := if_f c16 hf
      refine lv_aload_n hx hb dX8_adds_30 rfl (lv_at hl 0 rfl) ?_
      refine va_get (D := D) (ci := 7) (v := .ref (a 6)) (C := RX8) (T := TX8) (N := 24) hx hb hg in_X8 hown hK hP 0 rfl rfl 7 (by decide) (hg _ w832) (fun _ h9 => h9) rfl dX8_adds_31 ?_
      refine lv_bipush (v := 40) hx hb dX8_adds_34 (by decide) ?_
      refine lv_iload_n hx hb dX8_adds_36 rfl (lv_at hl 1 rfl) ?_
      refine lv_imul hx hb dX8_adds_37 ?_
      refine lv_iload_n hx hb dX8_adds_38 rfl (lv_at hl 3 rfl) ?_
      refine lv_iadd hx hb dX8_adds_39 ?_
      obtain ⟨hi17, hf⟩ := chk_t hf
      refine va_iald hx hb hK hP 6 0 rfl rfl (inb_in hi17) dX8_adds_40 ?_
      refine lv_iload_n hx hb dX8_adds_41 rfl (lv_at hl 2 rfl) ?_
      refine lv_icmp_ge (tgt := 51) hx hb dX8_adds_42 (by decide) (fun c18 => ?_) (fun c18 => ?_)
      · replace hf := if_t c18 hf
        exact L51 x v1 v2 v3 H locs ls hf hP hD hS (lv_sub hl [0, 1, 2, 3] rfl)
      · replace hf := if_f c18 hf
        obtain ⟨y19, hy19⟩ : ∃ z : Int32, z = (v3 + 1) := ⟨_, rfl⟩
        replace hf := keep_e hf y19 hy19
        refine lv_iinc (v := y19) (lv' := [(3, .int y19), (0, .ref (a 0)), (1, .int v1), (2, .int v2)]) hx hb dX8_adds_45 hl (k := 3) rfl (by rw [hy19]; rfl) (by decide) rfl (fun ls hl => ?_)
        refine lv_goto (tgt := 20) hx hb dX8_adds_48 (by decide) ?_
        exact hrec20 y19 H locs ls hf hP hD hS (lv_sub hl [1, 2, 3, 0] rfl)
  have L20 : ∀ (x : MSt) (v1 : Int32) (v2 : Int32) (fu : Nat) (v3 : Int32) (H : Heap) (locs : List Loc) (ls : Array Slot), iterK fu (fX8_adds_20 x v1 v2 ) v3 = some res → va_P D vwCl (W_Model cI a x) H → va_D A (W_Model cI a x) → va_S A s.heap H locs → lv_has ls 4 [(0, .ref (a 0)), (1, .int v1), (2, .int v2), (3, .int v3)] → W p l e ({ frames := 2, cells := 0, slots := 0, locals := 44 } : Room) s m ([.ref (a 0), .int p1, .int p2] : List Value).toArray below meth c H locs 0 0 (MQ below (QW D (TY cI cV cJ cD) (W_Model cI a res.1) A (some (.int res.2))) (([.ref (a 0), .int p1, .int p2] : List Value).toArray) s 0 0 A) (F0 m 20 ls []) := by
    intro x v1 v2 fu
    induction fu with
    | zero =>
      intro v3 H locs ls hf
      cases hf
    | succ fu ih =>
      intro v3 H locs ls hf hP hD hS hl
      exact S20 x v1 v2 (iterK fu (fX8_adds_20 x v1 v2 )) ih v3 H locs ls hf hP hD hS hl
  have M0 : ∀ (H : Heap) (locs : List Loc) (ls : Array Slot), fX8_adds x p1 p2 = some res → va_P D vwCl (W_Model cI a x) H → va_D A (W_Model cI a x) → va_S A s.heap H locs → lv_has ls 4 [(0, .ref (a 0)), (1, .int p1), (2, .int p2)] → W p l e ({ frames := 2, cells := 0, slots := 0, locals := 44 } : Room) s m ([.ref (a 0), .int p1, .int p2] : List Value).toArray below meth c H locs 0 0 (MQ below (QW D (TY cI cV cJ cD) (W_Model cI a res.1) A (some (.int res.2))) (([.ref (a 0), .int p1, .int p2] : List Value).toArray) s 0 0 A) (F0 m 0 ls []) := by
    intro H locs ls hf hP hD hS hl
    dsimp only [fX8_adds] at hf
    refine lv_aload_n hx hb dX8_adds_0 rfl (lv_at hl 0 rfl) ?_
    refine lv_iload_n hx hb dX8_adds_1 rfl (lv_at hl 1 rfl) ?_
    refine lv_iconst (v := 2) hx hb dX8_adds_2 (by decide) ?_
    obtain ⟨u20, hc21, hf⟩ := bind_t hf
    refine k_V (As := [.int p1, .int 2]) (rest := []) (n := 2) ⟨hx, hb, hml, hown, hts⟩ (met_X8_makes l a x p1 2 u20 hc21) w935 w937 ws30 w9 w938 ⟨rfl, by decide +kernel, by decide +kernel, by decide +kernel⟩ ⟨Nat.le_of_ble_eq_true rfl, Nat.le_of_ble_eq_true rfl⟩ hK hE hP hD hS hA (isC := [0, 1, 2, 3, 4, 5, 6, 7, 8, 9, 10, 11, 12, 13, 14]) (isR := []) (isB := [0, 1, 2, 3, 4, 5, 6, 7, 8, 9, 10, 11, 12, 13, 14]) (ws' := W_Model cI a u20) ⟨([] : List Nat).filterMap (fun i : Nat => (W_Model cI a x : va_W)[i]?), rfl, rfl, rfl, rfl, by decide, rfl, rfl⟩ 0 7 rfl rfl rfl rfl hl.1 rfl (Nat.le_of_ble_eq_true rfl) dX8_adds_3 ⟨Nat.le_of_ble_eq_true rfl, Nat.le_of_ble_eq_true rfl⟩ (fun H locs hP hD hS => ?_)
    try dsimp only at hf
    refine W.eq (g2 := F0 m 6 ls []) rfl ?_
    obtain ⟨x22, hx22⟩ : ∃ z, z = u20 := ⟨_, rfl⟩
    replace hf := keep_e hf x22 hx22
    have hP : va_P D vwCl (W_Model cI a x22) H := by rw [hx22]; exact hP
    have hD : va_D A (W_Model cI a x22) := by rw [hx22]; exact hD
    refine lv_aload_n hx hb dX8_adds_6 rfl (lv_at hl 0 rfl) ?_
    refine lv_iload_n hx hb dX8_adds_7 rfl (lv_at hl 1 rfl) ?_
    refine lv_iload_n hx hb dX8_adds_8 rfl (lv_at hl 2 rfl) ?_
    obtain ⟨u23, hc24, hf⟩ := bind_t hf
    refine k_V (As := [.int p1, .int p2]) (rest := []) (n := 2) ⟨hx, hb, hml, hown, hts⟩ (met_X8_find l a x22 p1 p2 u23 hc24) w975 w977 ws38 w9 w978 ⟨rfl, by decide +kernel, by decide +kernel, by decide +kernel⟩ ⟨Nat.le_of_ble_eq_true rfl, Nat.le_of_ble_eq_true rfl⟩ hK hE hP hD hS hA (isC := [0, 1, 2, 3, 4, 5, 6, 7, 8, 9, 10, 11, 12, 13, 14]) (isR := []) (isB := [0, 1, 2, 3, 4, 5, 6, 7, 8, 9, 10, 11, 12, 13, 14]) (ws' := W_Model cI a x22) ⟨([] : List Nat).filterMap (fun i : Nat => (W_Model cI a x22 : va_W)[i]?), rfl, rfl, rfl, rfl, by decide, rfl, rfl⟩ 0 7 rfl rfl rfl rfl hl.1 rfl (Nat.le_of_ble_eq_true rfl) dX8_adds_9 ⟨Nat.le_of_ble_eq_true rfl, Nat.le_of_ble_eq_true rfl⟩ (fun H locs hP hD hS => ?_)
    try dsimp only at hf
    refine W.eq (g2 := F0 m 12 ls [.int u23]) rfl ?_
    refine lv_iconst (v := (-1)) hx hb dX8_adds_12 (by decide) ?_
    refine lv_icmp_eq (tgt := 18) hx hb dX8_adds_13 (by decide) (fun c25 => ?_) (fun c25 => ?_)
    · replace hf := if_t c25 hf
      refine lv_iconst (v := 0) hx hb dX8_adds_18 (by decide) ?_
      refine lv_istore_n (lv' := [(3, .int 0), (0, .ref (a 0)), (1, .int p1), (2, .int p2)]) hx hb dX8_adds_19 rfl hl (by decide) rfl (fun ls hl => ?_)
      exact L20 x22 p1 p2 FU 0 H locs ls hf hP hD hS (lv_sub hl [1, 2, 3, 0] rfl)
    · replace hf := if_f c25 hf
      refine lv_iconst (v := 0) hx hb dX8_adds_16 (by decide) ?_
      obtain rfl := Option.some.inj hf
      exact W.zret (v := 0) hx hb hr (by decide +kernel) (fun t ht hW => ⟨rfl, by rw [ht]; exact hP, va_K.moved hW.alike hK, hD, hS.F ht⟩) hS.2.2 dX8_adds_17 hlocks
  exact M0 s.heap [] ls hf hP hD hS hl
/-! CompactformsModel.takes(II)Z -/
def fX8_takes (x : MSt) (p1 : Int32) (p2 : Int32) : Option (MSt × Int32) := (fX8_find x p1 p2).bind (fun u1 => (if u1 = (-1) then some (x, 0) else (fX8_takesOut x p1 u1).bind (fun u4 => keep u4.1 (fun x6 => (fX8_dropsEmpty x6 p1).bind (fun u7 => keep u7 (fun x9 => some (x9, 1)))))))
set_option maxHeartbeats 4000000 in
set_option maxRecDepth 100000 in
theorem met_X8_takes {D : va_G} {cI cV cJ cD : ClassId} (l : Launch) (a : Nat → Nat) (x : MSt) (p1 : Int32) (p2 : Int32) (res : MSt × Int32) (hf : fX8_takes x p1 p2 = some res) : MM l yX8_takes cX8_takes 4 (some .boolean) { frames := 1, cells := 0, slots := 0, locals := 24 } D (TY cI cV cJ cD) (W_Model cI a x) (W_Model cI a res.1) [.ref (a 0), .int p1, .int p2] (some (.int res.2)) := by
  intro sz
  refine Met.ofW (cc := cX8_takes) (maxL := 4) (ret := (some .boolean)) (by decide +kernel) rfl ?_
  intro p e s m args below meth c s₁ B hml hv
  obtain ⟨rfl, hsz, hP, hK, hD0, hE⟩ := hv
  have hx := B.exec
  have hb := B.bytes
  have hr := B.returns
  have hts := atoms_spec (ws := .code yX8_takes cX8_takes 4 (some .boolean) :: GW) B.pre
  have hg : ∀ w ∈ GW, w.before (([.ref (a 0), .int p1, .int p2] : List Value).toArray) s = true := fun w h => hts w (List.mem_cons_of_mem _ h)
  have hown : s.vm.findClass RX8 = some m.cls := findClass_of_methodNamed B.named
  have hlocks := B.notSynchronized
  subst hsz
  have hD := hD0.self (sz := s.heap.size)
  generalize hAe : va_A (W_Model cI a x) s.heap.size = A at hD hE ⊢
  have hA : ∀ q : Nat, s.heap.size ≤ q → A q := fun q h => by rw [← hAe]; exact Or.inr h
  have hS : va_S A s.heap s.heap [] := va_S.rf
  have hl := lv_entry ([.ref (a 0), .int p1, .int p2]) (n := 4) (Nat.le_of_ble_eq_true rfl)
  rw [lg_entry_eq]
  generalize (lg_sl ([.ref (a 0), .int p1, .int p2]) ++ List.replicate (4 - (lg_sl ([.ref (a 0), .int p1, .int p2])).length) Slot.unset).toArray = ls at hl ⊢
  have hl : lv_has ls 4 [(0, .ref (a 0)), (1, .int p1), (2, .int p2)] := hl
  have M0 : ∀ (H : Heap) (locs : List Loc) (ls : Array Slot), fX8_takes x p1 p2 = some res → va_P D vwCl (W_Model cI a x) H → va_D A (W_Model cI a x) → va_S A s.heap H locs → lv_has ls 4 [(0, .ref (a 0)), (1, .int p1), (2, .int p2)] → W p l e ({ frames := 1, cells := 0, slots := 0, locals := 24 } : Room) s m ([.ref (a 0), .int p1, .int p2] : List Value).toArray below meth c H locs 0 0 (MQ below (QW D (TY cI cV cJ cD) (W_Model cI a res.1) A (some (.int res.2))) (([.ref (a 0), .int p1, .int p2] : List Value).toArray) s 0 0 A) (F0 m 0 ls []) := by
    intro H locs ls hf hP hD hS hl
    dsimp only [fX8_takes] at hf
    refine lv_aload_n hx hb dX8_takes_0 rfl (lv_at hl 0 rfl) ?_
    refine lv_iload_n hx hb dX8_takes_1 rfl (lv_at hl 1 rfl) ?_
    refine lv_iload_n hx hb dX8_takes_2 rfl (lv_at hl 2 rfl) ?_
    obtain ⟨u1, hc2, hf⟩ := bind_t hf
    refine k_V (As := [.int p1, .int p2]) (rest := []) (n := 2) ⟨hx, hb, hml, hown, hts⟩ (met_X8_find l a x p1 p2 u1 hc2) w975 w977 ws38 w9 w978 ⟨rfl, by decide +kernel, by decide +kernel, by decide +kernel⟩ ⟨Nat.le_of_ble_eq_true rfl, Nat.le_of_ble_eq_true rfl⟩ hK hE hP hD hS hA (isC := [0, 1, 2, 3, 4, 5, 6, 7, 8, 9, 10, 11, 12, 13, 14]) (isR := []) (isB := [0, 1, 2, 3, 4, 5, 6, 7, 8, 9, 10, 11, 12, 13, 14]) (ws' := W_Model cI a x) ⟨([] : List Nat).filterMap (fun i : Nat => (W_Model cI a x : va_W)[i]?), rfl, rfl, rfl, rfl, by decide, rfl, rfl⟩ 0 7 rfl rfl rfl rfl hl.1 rfl (Nat.le_of_ble_eq_true rfl) dX8_takes_3 ⟨Nat.le_of_ble_eq_true rfl, Nat.le_of_ble_eq_true rfl⟩ (fun H locs hP hD hS => ?_)
    try dsimp only at hf
    refine W.eq (g2 := F0 m 6 ls [.int u1]) rfl ?_
    refine lv_istore_n (lv' := [(3, .int u1), (0, .ref (a 0)), (1, .int p1), (2, .int p2)]) hx hb dX8_takes_6 rfl hl (by decide) rfl (fun ls hl => ?_)
    refine lv_iload_n hx hb dX8_takes_7 rfl (lv_at hl 0 rfl) ?_
    refine lv_iconst (v := (-1)) hx hb dX8_takes_8 (by decide) ?_
    refine lv_icmp_ne (tgt := 14) hx hb dX8_takes_9 (by decide) (fun c3 => ?_) (fun c3 => ?_)
    · replace hf := if_f c3 hf
      refine lv_aload_n hx hb dX8_takes_14 rfl (lv_at hl 1 rfl) ?_
      refine lv_iload_n hx hb dX8_takes_15 rfl (lv_at hl 2 rfl) ?_
      refine lv_iload_n hx hb dX8_takes_16 rfl (lv_at hl 0 rfl) ?_
      obtain ⟨u4, hc5, hf⟩ := bind_t hf
      refine k_V (As := [.int p1, .int u1]) (rest := []) (n := 2) ⟨hx, hb, hml, hown, hts⟩ (met_X8_takesOut l a x p1 u1 u4 hc5) w959 w961 ws35 w9 w962 ⟨rfl, by decide +kernel, by decide +kernel, by decide +kernel⟩ ⟨Nat.le_of_ble_eq_true rfl, Nat.le_of_ble_eq_true rfl⟩ hK hE hP hD hS hA (isC := [0, 1, 2, 3, 4, 5, 6, 7, 8, 9, 10, 11, 12, 13, 14]) (isR := []) (isB := [0, 1, 2, 3, 4, 5, 6, 7, 8, 9, 10, 11, 12, 13, 14]) (ws' := W_Model cI a u4.1) ⟨([] : List Nat).filterMap (fun i : Nat => (W_Model cI a x : va_W)[i]?), rfl, rfl, rfl, rfl, by decide, rfl, rfl⟩ 0 7 rfl rfl rfl rfl hl.1 rfl (Nat.le_of_ble_eq_true rfl) dX8_takes_17 ⟨Nat.le_of_ble_eq_true rfl, Nat.le_of_ble_eq_true rfl⟩ (fun H locs hP hD hS => ?_)
      try dsimp only at hf
      refine W.eq (g2 := F0 m 20 ls [.int u4.2]) rfl ?_
      obtain ⟨x6, hx6⟩ : ∃ z, z = u4.1 := ⟨_, rfl⟩
      replace hf := keep_e hf x6 hx6
      have hP : va_P D vwCl (W_Model cI a x6) H := by rw [hx6]; exact hP
      have hD : va_D A (W_Model cI a x6) := by rw [hx6]; exact hD
      refine lv_pop hx hb dX8_takes_20 rfl ?_
      refine lv_aload_n hx hb dX8_takes_21 rfl (lv_at hl 1 rfl) ?_
      refine lv_iload_n hx hb dX8_takes_22 rfl (lv_at hl 2 rfl) ?_
      obtain ⟨u7, hc8, hf⟩ := bind_t hf
      refine k_V (As := [.int p1]) (rest := []) (n := 1) ⟨hx, hb, hml, hown, hts⟩ (met_X8_dropsEmpty l a x6 p1 u7 hc8) w963 w965 ws36 w9 w966 ⟨rfl, by decide +kernel, by decide +kernel, by decide +kernel⟩ ⟨Nat.le_of_ble_eq_true rfl, Nat.le_of_ble_eq_true rfl⟩ hK hE hP hD hS hA (isC := [0, 1, 2, 3, 4, 5, 6, 7, 8, 9, 10, 11, 12, 13, 14]) (isR := []) (isB := [0, 1, 2, 3, 4, 5, 6, 7, 8, 9, 10, 11, 12, 13, 14]) (ws' := W_Model cI a u7) ⟨([] : List Nat).filterMap (fun i : Nat => (W_Model cI a x6 : va_W)[i]?), rfl, rfl, rfl, rfl, by decide, rfl, rfl⟩ 0 7 rfl rfl rfl rfl hl.1 rfl (Nat.le_of_ble_eq_true rfl) dX8_takes_23 ⟨Nat.le_of_ble_eq_true rfl, Nat.le_of_ble_eq_true rfl⟩ (fun H locs hP hD hS => ?_)
      try dsimp only at hf
      refine W.eq (g2 := F0 m 26 ls []) rfl ?_
      obtain ⟨x9, hx9⟩ : ∃ z, z = u7 := ⟨_, rfl⟩
      replace hf := keep_e hf x9 hx9
      have hP : va_P D vwCl (W_Model cI a x9) H := by rw [hx9]; exact hP
      have hD : va_D A (W_Model cI a x9) := by rw [hx9]; exact hD
      refine lv_iconst (v := 1) hx hb dX8_takes_26 (by decide) ?_
      obtain rfl := Option.some.inj hf
      exact W.zret (v := 1) hx hb hr (by decide +kernel) (fun t ht hW => ⟨rfl, by rw [ht]; exact hP, va_K.moved hW.alike hK, hD, hS.F ht⟩) hS.2.2 dX8_takes_27 hlocks
    · replace hf := if_t c3 hf
      refine lv_iconst (v := 0) hx hb dX8_takes_12 (by decide) ?_
      obtain rfl := Option.some.inj hf
      exact W.zret (v := 0) hx hb hr (by decide +kernel) (fun t ht hW => ⟨rfl, by rw [ht]; exact hP, va_K.moved hW.alike hK, hD, hS.F ht⟩) hS.2.2 dX8_takes_13 hlocks
  exact M0 s.heap [] ls hf hP hD hS hl
/-! CompactformsModel.rising(I)I -/
def fX8_rising (p0 : Int32) : Option (Int32) := (if 0 ≤ p0 then some p0 else some (p0 ^^^ 2147483647))
set_option maxHeartbeats 4000000 in
set_option maxRecDepth 100000 in
theorem met_X8_rising {D : va_G} {cI cV cJ cD : ClassId} (l : Launch) (p0 : Int32) (res : Int32) (hf : fX8_rising p0 = some res) : MM l yX8_rising cX8_rising 1 (some .int) { frames := 0, cells := 0, slots := 0, locals := 0 } D (TY cI cV cJ cD) ([]) ([]) [.int p0] (some (.int res)) := by
  intro sz
  refine Met.ofW (cc := cX8_rising) (maxL := 1) (ret := (some .int)) (by decide +kernel) rfl ?_
  intro p e s m args below meth c s₁ B hml hv
  obtain ⟨rfl, hsz, hP, hK, hD0, hE⟩ := hv
  have hx := B.exec
  have hb := B.bytes
  have hr := B.returns
  have hts := atoms_spec (ws := .code yX8_rising cX8_rising 1 (some .int) :: GW) B.pre
  have hg : ∀ w ∈ GW, w.before (([.int p0] : List Value).toArray) s = true := fun w h => hts w (List.mem_cons_of_mem _ h)
  have hown : s.vm.findClass RX8 = some m.cls := findClass_of_methodNamed B.named
  have hlocks := B.notSynchronized
  subst hsz
  have hD := hD0.self (sz := s.heap.size)
  generalize hAe : va_A ([]) s.heap.size = A at hD hE ⊢
  have hA : ∀ q : Nat, s.heap.size ≤ q → A q := fun q h => by rw [← hAe]; exact Or.inr h
  have hS : va_S A s.heap s.heap [] := va_S.rf
  have hl := lv_entry ([.int p0]) (n := 1) (Nat.le_of_ble_eq_true rfl)
  rw [lg_entry_eq]
  generalize (lg_sl ([.int p0]) ++ List.replicate (1 - (lg_sl ([.int p0])).length) Slot.unset).toArray = ls at hl ⊢
  have hl : lv_has ls 1 [(0, .int p0)] := hl
  have M0 : ∀ (H : Heap) (locs : List Loc) (ls : Array Slot), fX8_rising p0 = some res → va_P D vwCl ([]) H → va_D A ([]) → va_S A s.heap H locs → lv_has ls 1 [(0, .int p0)] → W p l e ({ frames := 0, cells := 0, slots := 0, locals := 0 } : Room) s m ([.int p0] : List Value).toArray below meth c H locs 0 0 (MQ below (QW D (TY cI cV cJ cD) ([]) A (some (.int res))) (([.int p0] : List Value).toArray) s 0 0 A) (F0 m 0 ls []) := by
    intro H locs ls hf hP hD hS hl
    dsimp only [fX8_rising] at hf
    refine lv_iload_n hx hb dX8_rising_0 rfl (lv_at hl 0 rfl) ?_
    refine lv_if_ge (tgt := 11) hx hb dX8_rising_1 (by decide) (fun c1 => ?_) (fun c1 => ?_)
    · replace hf := if_t c1 hf
      refine lv_iload_n hx hb dX8_rising_11 rfl (lv_at hl 0 rfl) ?_
      obtain rfl := Option.some.inj hf
      exact W.iret (v := p0) hx hb hr (fun t ht hW => ⟨rfl, by rw [ht]; exact hP, va_K.moved hW.alike hK, hD, hS.F ht⟩) hS.2.2 dX8_rising_12 hlocks
    · replace hf := if_f c1 hf
      refine lv_iload_n hx hb dX8_rising_4 rfl (lv_at hl 0 rfl) ?_
      refine lv_ldc (own := RX8) (v := 2147483647) hx hb hown (hg _ w998) dX8_rising_5 ?_
      refine lv_ixor hx hb dX8_rising_7 ?_
      refine lv_goto (tgt := 12) hx hb dX8_rising_8 (by decide) ?_
      obtain rfl := Option.some.inj hf
      exact W.iret (v := (p0 ^^^ 2147483647)) hx hb hr (fun t ht hW => ⟨rfl, by rw [ht]; exact hP, va_K.moved hW.alike hK, hD, hS.F ht⟩) hS.2.2 dX8_rising_12 hlocks
  exact M0 s.heap [] ls hf hP hD hS hl
/-! CompactformsModel.rates(III)I -/
def fX8_rates_151 (x : MSt) (v5 : Int32) (s0 : Int32) (s1 : Int32) : Option (MSt × Int32) := (fX8_grows x s1 s0).bind (fun u1 => keep u1 (fun x3 => some (x3, v5)))
def fX8_rates_101 (rec34 : Int32 × Int32 → Option (MSt × Int32)) (x : MSt) (v1 : Int32) (v2 : Int32) (v3 : Int32) (v5 : Int32) (v6 : Int32) (s0 : Int32) : Option (MSt × Int32) := (if s0 = 0 then keep (v5 + 0) (fun y5 => keep (v6 + 1) (fun y6 => rec34 (y5, y6))) else keep (v5 + 1) (fun y7 => keep (v6 + 1) (fun y8 => rec34 (y7, y8))))
def fX8_rates_100 (rec34 : Int32 × Int32 → Option (MSt × Int32)) (x : MSt) (v1 : Int32) (v2 : Int32) (v3 : Int32) (v5 : Int32) (v6 : Int32) : Option (MSt × Int32) := fX8_rates_101 rec34 x v1 v2 v3 v5 v6 0
def fX8_rates_96 (rec34 : Int32 × Int32 → Option (MSt × Int32)) (x : MSt) (v1 : Int32) (v2 : Int32) (v3 : Int32) (v5 : Int32) (v6 : Int32) : Option (MSt × Int32) := fX8_rates_101 rec34 x v1 v2 v3 v5 v6 1
def fX8_rates_34 (x : MSt) (v1 : Int32) (v2 : Int32) (v3 : Int32) (rec34 : Int32 × Int32 → Option (MSt × Int32)) (s : Int32 × Int32) : Option (MSt × Int32) := match s with | (v5, v6) => chk (inb v1 16) ((if ((mSize x) (v1).toNatClampNeg) ≤ v6 then (fX8_putsIn x v1 v5 v2 v3).bind (fun u11 => keep u11 (fun x13 => chk (inb v1 16) ((if ((mSize x13) (v1).toNatClampNeg) ≤ 6 then fX8_rates_151 x13 v5 0 v1 else fX8_rates_151 x13 v5 1 v1)))) else chk (inb ((40 * v1) + v6) 640) ((fX8_rising ((mBits x) (((40 * v1) + v6)).toNatClampNeg)).bind (fun u17 => (fX8_rising v3).bind (fun u19 => (if u17 < u19 then fX8_rates_96 rec34 x v1 v2 v3 v5 v6 else (fX8_rising v3).bind (fun u22 => (if u17 = u22 then chk (inb ((40 * v1) + v6) 640) ((if v2 ≤ ((mValues x) (((40 * v1) + v6)).toNatClampNeg) then fX8_rates_100 rec34 x v1 v2 v3 v5 v6 else fX8_rates_96 rec34 x v1 v2 v3 v5 v6)) else fX8_rates_100 rec34 x v1 v2 v3 v5 v6))))))))
def fX8_rates (x : MSt) (p1 : Int32) (p2 : Int32) (p3 : Int32) : Option (MSt × Int32) := (fX8_makes x p1 3).bind (fun u27 => keep u27 (fun x29 => (fX8_find x29 p1 p2).bind (fun u30 => (if u30 = (-1) then iterK FU (fX8_rates_34 x29 p1 p2 p3) (0, 0) else (fX8_takesOut x29 p1 u30).bind (fun u33 => keep u33.1 (fun x35 => iterK FU (fX8_rates_34 x35 p1 p2 p3) (0, 0)))))))
set_option maxHeartbeats 4000000 in
set_option maxRecDepth 100000 in
theorem met_X8_rates {D : va_G} {cI cV cJ cD : ClassId} (l : Launch) (a : Nat → Nat) (x : MSt) (p1 : Int32) (p2 : Int32) (p3 : Int32) (res : MSt × Int32) (hf : fX8_rates x p1 p2 p3 = some res) : MM l yX8_rates cX8_rates 9 (some .int) { frames := 2, cells := 0, slots := 0, locals := 44 } D (TY cI cV cJ cD) (W_Model cI a x) (W_Model cI a res.1) [.ref (a 0), .int p1, .int p2, .int p3] (some (.int res.2)) := by
  intro sz
  refine Met.ofW (cc := cX8_rates) (maxL := 9) (ret := (some .int)) (by decide +kernel) rfl ?_
  intro p e s m args below meth c s₁ B hml hv
  obtain ⟨rfl, hsz, hP, hK, hD0, hE⟩ := hv
  have hx := B.exec
  have hb := B.bytes
  have hr := B.returns
  have hts := atoms_spec (ws := .code yX8_rates cX8_rates 9 (some .int) :: GW) B.pre
  have hg : ∀ w ∈ GW, w.before (([.ref (a 0), .int p1, .int p2, .int p3] : List Value).toArray) s = true := fun w h => hts w (List.mem_cons_of_mem _ h)
  have hown : s.vm.findClass RX8 = some m.cls := findClass_of_methodNamed B.named
  have hlocks := B.notSynchronized
  subst hsz
  have hD := hD0.self (sz := s.heap.size)
  generalize hAe : va_A (W_Model cI a x) s.heap.size = A at hD hE ⊢
  have hA : ∀ q : Nat, s.heap.size ≤ q → A q := fun q h => by rw [← hAe]; exact Or.inr h
  have hS : va_S A s.heap s.heap [] := va_S.rf
  have hl := lv_entry ([.ref (a 0), .int p1, .int p2, .int p3]) (n := 9) (Nat.le_of_ble_eq_true rfl)
  rw [lg_entry_eq]
  generalize (lg_sl ([.ref (a 0), .int p1, .int p2, .int p3]) ++ List.replicate (9 - (lg_sl ([.ref (a 0), .int p1, .int p2, .int p3])).length) Slot.unset).toArray = ls at hl ⊢
  have hl : lv_has ls 9 [(0, .ref (a 0)), (1, .int p1), (2, .int p2), (3, .int p3)] := hl
  have L151 : ∀ (x : MSt) (v5 : Int32) (s0 : Int32) (s1 : Int32) (H : Heap) (locs : List Loc) (ls : Array Slot), fX8_rates_151 x v5 s0 s1  = some res → va_P D vwCl (W_Model cI a x) H → va_D A (W_Model cI a x) → va_S A s.heap H locs → lv_has ls 9 [(5, .int v5)] → W p l e ({ frames := 2, cells := 0, slots := 0, locals := 44 } : Room) s m ([.ref (a 0), .int p1, .int p2, .int p3] : List Value).toArray below meth c H locs 0 0 (MQ below (QW D (TY cI cV cJ cD) (W_Model cI a res.1) A (some (.int res.2))) (([.ref (a 0), .int p1, .int p2, .int p3] : List Value).toArray) s 0 0 A) (F0 m 151 ls [.int s0, .int s1, .ref (a 0)]) := by
    intro x v5 s0 s1 H locs ls hf hP hD hS hl
    dsimp only [fX8_rates_151] at hf
    obtain ⟨u1, hc2, hf⟩ := bind_t hf
    refine k_V (As := [.int s1, .int s0]) (rest := []) (n := 2) ⟨hx, hb, hml, hown, hts⟩ (met_X8_grows l a x s1 s0 u1 hc2) w943 w945 ws32 w9 w946 ⟨rfl, by decide +kernel, by decide +kernel, by decide +kernel⟩ ⟨Nat.le_of_ble_eq_true rfl, Nat.le_of_ble_eq_true rfl⟩ hK hE hP hD hS hA (isC := [0, 1, 2, 3, 4, 5, 6, 7, 8, 9, 10, 11, 12, 13, 14]) (isR := []) (isB := [0, 1, 2, 3, 4, 5, 6, 7, 8, 9, 10, 11, 12, 13, 14]) (ws' := W_Model cI a u1) ⟨([] : List Nat).filterMap (fun i : Nat => (W_Model cI a x : va_W)[i]?), rfl, rfl, rfl, rfl, by decide, rfl, rfl⟩ 0 7 rfl rfl rfl rfl hl.1 rfl (Nat.le_of_ble_eq_true rfl) dX8_rates_151 ⟨Nat.le_of_ble_eq_true rfl, Nat.le_of_ble_eq_true rfl⟩ (fun H locs hP hD hS => ?_)
    try dsimp only at hf
    refine W.eq (g2 := F0 m 154 ls []) rfl ?_
    obtain ⟨x3, hx3⟩ : ∃ z, z = u1 := ⟨_, rfl⟩
    replace hf := keep_e hf x3 hx3
    have hP : va_P D vwCl (W_Model cI a x3) H := by rw [hx3]; exact hP
    have hD : va_D A (W_Model cI a x3) := by rw [hx3]; exact hD
    refine lv_iload hx hb dX8_rates_154 (lv_at hl 0 rfl) ?_
    obtain rfl := Option.some.inj hf
    exact W.iret (v := v5) hx hb hr (fun t ht hW => ⟨rfl, by rw [ht]; exact hP, va_K.moved hW.alike hK, hD, hS.F ht⟩) hS.2.2 dX8_rates_156 hlocks
  have L101 : ∀ (x : MSt) (v1 : Int32) (v2 : Int32) (v3 : Int32) (v5 : Int32) (v6 : Int32) (s0 : Int32) (rec34 : Int32 × Int32 → Option (MSt × Int32)) (hrec34 : ∀ (v5 : Int32), ∀ (v6 : Int32), ∀ (H : Heap) (locs : List Loc) (ls : Array Slot), rec34 (v5, v6) = some res → va_P D vwCl (W_Model cI a x) H → va_D A (W_Model cI a x) → va_S A s.heap H locs → lv_has ls 9 [(0, .ref (a 0)), (1, .int v1), (2, .int v2), (3, .int v3), (5, .int v5), (6, .int v6)] → W p l e ({ frames := 2, cells := 0, slots := 0, locals := 44 } : Room) s m ([.ref (a 0), .int p1, .int p2, .int p3] : List Value).toArray below meth c H locs 0 0 (MQ below (QW D (TY cI cV cJ cD) (W_Model cI a res.1) A (some (.int res.2))) (([.ref (a 0), .int p1, .int p2, .int p3] : List Value).toArray) s 0 0 A) (F0 m 34 ls [])) (H : Heap) (locs : List Loc) (ls : Array Slot), fX8_rates_101 rec34 x v1 v2 v3 v5 v6 s0  = some res → va_P D vwCl (W_Model cI a x) H → va_D A (W_Model cI a x) → va_S A s.heap H locs → lv_has ls 9 [(0, .ref (a 0)), (1, .int v1), (2, .int v2), (3, .int v3), (5, .int v5), (6, .int v6)] → W p l e ({ frames := 2, cells := 0, slots := 0, locals := 44 } : Room) s m ([.ref (a 0), .int p1, .int p2, .int p3] : List Value).toArray below meth c H locs 0 0 (MQ below (QW D (TY cI cV cJ cD) (W_Model cI a res.1) A (some (.int res.2))) (([.ref (a 0), .int p1, .int p2, .int p3] : List Value).toArray) s 0 0 A) (F0 m 101 ls [.int s0]) := by
    intro x v1 v2 v3 v5 v6 s0 rec34 hrec34 H locs ls hf hP hD hS hl
    dsimp only [fX8_rates_101] at hf
    refine lv_istore (lv' := [(8, .int s0), (0, .ref (a 0)), (1, .int v1), (2, .int v2), (3, .int v3), (5, .int v5), (6, .int v6)]) hx hb dX8_rates_101 hl (by decide) rfl (fun ls hl => ?_)
    refine lv_iload hx hb dX8_rates_103 (lv_at hl 5 rfl) ?_
    refine lv_iload hx hb dX8_rates_105 (lv_at hl 0 rfl) ?_
    refine lv_if_eq (tgt := 114) hx hb dX8_rates_107 (by decide) (fun c4 => ?_) (fun c4 => ?_)
    · replace hf := if_t c4 hf
      refine lv_iconst (v := 0) hx hb dX8_rates_114 (by decide) ?_
      refine lv_iadd hx hb dX8_rates_115 ?_
      refine lv_topi (fun y5 hy5 => ?_)
      replace hf := keep_e hf y5 hy5
      refine lv_istore (lv' := [(5, .int y5), (8, .int s0), (0, .ref (a 0)), (1, .int v1), (2, .int v2), (3, .int v3), (6, .int v6)]) hx hb dX8_rates_116 hl (by decide) rfl (fun ls hl => ?_)
      obtain ⟨y6, hy6⟩ : ∃ z : Int32, z = (v6 + 1) := ⟨_, rfl⟩
      replace hf := keep_e hf y6 hy6
      refine lv_iinc (v := y6) (lv' := [(6, .int y6), (5, .int y5), (8, .int s0), (0, .ref (a 0)), (1, .int v1), (2, .int v2), (3, .int v3)]) hx hb dX8_rates_118 hl (k := 6) rfl (by rw [hy6]; rfl) (by decide) rfl (fun ls hl => ?_)
      refine lv_goto (tgt := 34) hx hb dX8_rates_121 (by decide) ?_
      exact hrec34 y5 y6 H locs ls hf hP hD hS (lv_sub hl [3, 4, 5, 6, 1, 0] rfl)
    · replace hf := if_f c4 hf
      refine lv_iconst (v := 1) hx hb dX8_rates_110 (by decide) ?_
      refine lv_goto (tgt := 115) hx hb dX8_rates_111 (by decide) ?_
      refine lv_iadd hx hb dX8_rates_115 ?_
      refine lv_topi (fun y7 hy7 => ?_)
      replace hf := keep_e hf y7 hy7
      refine lv_istore (lv' := [(5, .int y7), (8, .int s0), (0, .ref (a 0)), (1, .int v1), (2, .int v2), (3, .int v3), (6, .int v6)]) hx hb dX8_rates_116 hl (by decide) rfl (fun ls hl => ?_)
      obtain ⟨y8, hy8⟩ : ∃ z : Int32, z = (v6 + 1) := ⟨_, rfl⟩
      replace hf := keep_e hf y8 hy8
      refine lv_iinc (v := y8) (lv' := [(6, .int y8), (5, .int y7), (8, .int s0), (0, .ref (a 0)), (1, .int v1), (2, .int v2), (3, .int v3)]) hx hb dX8_rates_118 hl (k := 6) rfl (by rw [hy8]; rfl) (by decide) rfl (fun ls hl => ?_)
      refine lv_goto (tgt := 34) hx hb dX8_rates_121 (by decide) ?_
      exact hrec34 y7 y8 H locs ls hf hP hD hS (lv_sub hl [3, 4, 5, 6, 1, 0] rfl)
  have L100 : ∀ (x : MSt) (v1 : Int32) (v2 : Int32) (v3 : Int32) (v5 : Int32) (v6 : Int32) (rec34 : Int32 × Int32 → Option (MSt × Int32)) (hrec34 : ∀ (v5 : Int32), ∀ (v6 : Int32), ∀ (H : Heap) (locs : List Loc) (ls : Array Slot), rec34 (v5, v6) = some res → va_P D vwCl (W_Model cI a x) H → va_D A (W_Model cI a x) → va_S A s.heap H locs → lv_has ls 9 [(0, .ref (a 0)), (1, .int v1), (2, .int v2), (3, .int v3), (5, .int v5), (6, .int v6)] → W p l e ({ frames := 2, cells := 0, slots := 0, locals := 44 } : Room) s m ([.ref (a 0), .int p1, .int p2, .int p3] : List Value).toArray below meth c H locs 0 0 (MQ below (QW D (TY cI cV cJ cD) (W_Model cI a res.1) A (some (.int res.2))) (([.ref (a 0), .int p1, .int p2, .int p3] : List Value).toArray) s 0 0 A) (F0 m 34 ls [])) (H : Heap) (locs : List Loc) (ls : Array Slot), fX8_rates_100 rec34 x v1 v2 v3 v5 v6  = some res → va_P D vwCl (W_Model cI a x) H → va_D A (W_Model cI a x) → va_S A s.heap H locs → lv_has ls 9 [(0, .ref (a 0)), (1, .int v1), (2, .int v2), (3, .int v3), (5, .int v5), (6, .int v6)] → W p l e ({ frames := 2, cells := 0, slots := 0, locals := 44 } : Room) s m ([.ref (a 0), .int p1, .int p2, .int p3] : List Value).toArray below meth c H locs 0 0 (MQ below (QW D (TY cI cV cJ cD) (W_Model cI a res.1) A (some (.int res.2))) (([.ref (a 0), .int p1, .int p2, .int p3] : List Value).toArray) s 0 0 A) (F0 m 100 ls []) := by
    intro x v1 v2 v3 v5 v6 rec34 hrec34 H locs ls hf hP hD hS hl
    dsimp only [fX8_rates_100] at hf
    refine lv_iconst (v := 0) hx hb dX8_rates_100 (by decide) ?_
    exact L101 x v1 v2 v3 v5 v6 0 rec34 hrec34 H locs ls hf hP hD hS (lv_sub hl [0, 1, 2, 3, 4, 5] rfl)
  have L96 : ∀ (x : MSt) (v1 : Int32) (v2 : Int32) (v3 : Int32) (v5 : Int32) (v6 : Int32) (rec34 : Int32 × Int32 → Option (MSt × Int32)) (hrec34 : ∀ (v5 : Int32), ∀ (v6 : Int32), ∀ (H : Heap) (locs : List Loc) (ls : Array Slot), rec34 (v5, v6) = some res → va_P D vwCl (W_Model cI a x) H → va_D A (W_Model cI a x) → va_S A s.heap H locs → lv_has ls 9 [(0, .ref (a 0)), (1, .int v1), (2, .int v2), (3, .int v3), (5, .int v5), (6, .int v6)] → W p l e ({ frames := 2, cells := 0, slots := 0, locals := 44 } : Room) s m ([.ref (a 0), .int p1, .int p2, .int p3] : List Value).toArray below meth c H locs 0 0 (MQ below (QW D (TY cI cV cJ cD) (W_Model cI a res.1) A (some (.int res.2))) (([.ref (a 0), .int p1, .int p2, .int p3] : List Value).toArray) s 0 0 A) (F0 m 34 ls [])) (H : Heap) (locs : List Loc) (ls : Array Slot), fX8_rates_96 rec34 x v1 v2 v3 v5 v6  = some res → va_P D vwCl (W_Model cI a x) H → va_D A (W_Model cI a x) → va_S A s.heap H locs → lv_has ls 9 [(0, .ref (a 0)), (1, .int v1), (2, .int v2), (3, .int v3), (5, .int v5), (6, .int v6)] → W p l e ({ frames := 2, cells := 0, slots := 0, locals := 44 } : Room) s m ([.ref (a 0), .int p1, .int p2, .int p3] : List Value).toArray below meth c H locs 0 0 (MQ below (QW D (TY cI cV cJ cD) (W_Model cI a res.1) A (some (.int res.2))) (([.ref (a 0), .int p1, .int p2, .int p3] : List Value).toArray) s 0 0 A) (F0 m 96 ls []) := by
    intro x v1 v2 v3 v5 v6 rec34 hrec34 H locs ls hf hP hD hS hl
    dsimp only [fX8_rates_96] at hf
    refine lv_iconst (v := 1) hx hb dX8_rates_96 (by decide) ?_
    refine lv_goto (tgt := 101) hx hb dX8_rates_97 (by decide) ?_
    exact L101 x v1 v2 v3 v5 v6 1 rec34 hrec34 H locs ls hf hP hD hS (lv_sub hl [0, 1, 2, 3, 4, 5] rfl)
  have S34 : ∀ (x : MSt) (v1 : Int32) (v2 : Int32) (v3 : Int32) (rec34 : Int32 × Int32 → Option (MSt × Int32)) (hrec34 : ∀ (v5 : Int32), ∀ (v6 : Int32), ∀ (H : Heap) (locs : List Loc) (ls : Array Slot), rec34 (v5, v6) = some res → va_P D vwCl (W_Model cI a x) H → va_D A (W_Model cI a x) → va_S A s.heap H locs → lv_has ls 9 [(0, .ref (a 0)), (1, .int v1), (2, .int v2), (3, .int v3), (5, .int v5), (6, .int v6)] → W p l e ({ frames := 2, cells := 0, slots := 0, locals := 44 } : Room) s m ([.ref (a 0), .int p1, .int p2, .int p3] : List Value).toArray below meth c H locs 0 0 (MQ below (QW D (TY cI cV cJ cD) (W_Model cI a res.1) A (some (.int res.2))) (([.ref (a 0), .int p1, .int p2, .int p3] : List Value).toArray) s 0 0 A) (F0 m 34 ls [])) (v5 : Int32) (v6 : Int32) (H : Heap) (locs : List Loc) (ls : Array Slot), fX8_rates_34 x v1 v2 v3  rec34 (v5, v6) = some res → va_P D vwCl (W_Model cI a x) H → va_D A (W_Model cI a x) → va_S A s.heap H locs → lv_has ls 9 [(0, .ref (a 0)), (1, .int v1), (2, .int v2), (3, .int v3), (5, .int v5), (6, .int v6)] → W p l e ({ frames := 2, cells := 0, slots := 0, locals := 44 } : Room) s m ([.ref (a 0), .int p1, .int p2, .int p3] : List Value).toArray below meth c H locs 0 0 (MQ below (QW D (TY cI cV cJ cD) (W_Model cI a res.1) A (some (.int res.2))) (([.ref (a 0), .int p1, .int p2, .int p3] : List Value).toArray) s 0 0 A) (F0 m 34 ls []) := by
    intro x v1 v2 v3 rec34 hrec34 v5 v6 H locs ls hf hP hD hS hl
    dsimp only [fX8_rates_34] at hf
    refine lv_iload hx hb dX8_rates_34 (lv_at hl 5 rfl) ?_
    refine lv_aload_n hx hb dX8_rates_36 rfl (lv_at hl 0 rfl) ?_
    refine va_get (D := D) (ci := 7) (v := .ref (a 4)) (C := RX8) (T := TX8) (N := 24) hx hb hg in_X8 hown hK hP 0 rfl rfl 5 (by decide) (hg _ w830) (fun _ h9 => h9) rfl dX8_rates_37 ?_
    refine lv_iload_n hx hb dX8_rates_40 rfl (lv_at hl 1 rfl) ?_
    obtain ⟨hi9, hf⟩ := chk_t hf
    refine va_iald hx hb hK hP 4 0 rfl rfl (inb_in hi9) dX8_rates_41 ?_
    refine lv_icmp_ge (tgt := 124) hx hb dX8_rates_42 (by decide) (fun c10 => ?_) (fun c10 => ?_)
    · replace hf := if_t c10 hf
      refine lv_aload_n hx hb dX8_rates_124 rfl (lv_at hl 0 rfl) ?_
      refine lv_iload_n hx hb dX8_rates_125 rfl (lv_at hl 1 rfl) ?_
      refine lv_iload hx hb dX8_rates_126 (lv_at hl 4 rfl) ?_
      refine lv_iload_n hx hb dX8_rates_128 rfl (lv_at hl 2 rfl) ?_
      refine lv_iload_n hx hb dX8_rates_129 rfl (lv_at hl 3 rfl) ?_
      obtain ⟨u11, hc12, hf⟩ := bind_t hf
      refine k_V (As := [.int v1, .int v5, .int v2, .int v3]) (rest := []) (n := 4) ⟨hx, hb, hml, hown, hts⟩ (met_X8_putsIn l a x v1 v5 v2 v3 u11 hc12) w939 w941 ws31 w9 w942 ⟨rfl, by decide +kernel, by decide +kernel, by decide +kernel⟩ ⟨Nat.le_of_ble_eq_true rfl, Nat.le_of_ble_eq_true rfl⟩ hK hE hP hD hS hA (isC := [0, 1, 2, 3, 4, 5, 6, 7, 8, 9, 10, 11, 12, 13, 14]) (isR := []) (isB := [0, 1, 2, 3, 4, 5, 6, 7, 8, 9, 10, 11, 12, 13, 14]) (ws' := W_Model cI a u11) ⟨([] : List Nat).filterMap (fun i : Nat => (W_Model cI a x : va_W)[i]?), rfl, rfl, rfl, rfl, by decide, rfl, rfl⟩ 0 7 rfl rfl rfl rfl hl.1 rfl (Nat.le_of_ble_eq_true rfl) dX8_rates_130 ⟨Nat.le_of_ble_eq_true rfl, Nat.le_of_ble_eq_true rfl⟩ (fun H locs hP hD hS => ?_)
      try dsimp only at hf
      refine W.eq (g2 := F0 m 133 ls []) rfl ?_
      obtain ⟨x13, hx13⟩ : ∃ z, z = u11 := ⟨_, rfl⟩
      replace hf := keep_e hf x13 hx13
      have hP : va_P D vwCl (W_Model cI a x13) H := by rw [hx13]; exact hP
      have hD : va_D A (W_Model cI a x13) := by rw [hx13]; exact hD
      refine lv_aload_n hx hb dX8_rates_133 rfl (lv_at hl 0 rfl) ?_
      refine lv_iload_n hx hb dX8_rates_134 rfl (lv_at hl 1 rfl) ?_
      refine lv_aload_n hx hb dX8_rates_135 rfl (lv_at hl 0 rfl) ?_
      refine va_get (D := D) (ci := 7) (v := .ref (a 4)) (C := RX8) (T := TX8) (N := 24) hx hb hg in_X8 hown hK hP 0 rfl rfl 5 (by decide) (hg _ w830) (fun _ h9 => h9) rfl dX8_rates_136 ?_
      refine lv_iload_n hx hb dX8_rates_139 rfl (lv_at hl 1 rfl) ?_
      obtain ⟨hi14, hf⟩ := chk_t hf
      refine va_iald hx hb hK hP 4 0 rfl rfl (inb_in hi14) dX8_rates_140 ?_
      refine lv_bipush (v := 6) hx hb dX8_rates_141 (by decide) ?_
      refine lv_icmp_le (tgt := 150) hx hb dX8_rates_143 (by decide) (fun c15 => ?_) (fun c15 => ?_)
      · replace hf := if_t c15 hf
        refine lv_iconst (v := 0) hx hb dX8_rates_150 (by decide) ?_
        exact L151 x13 v5 0 v1 H locs ls hf hP hD hS (lv_sub hl [4] rfl)
      · replace hf := if_f c15 hf
        refine lv_iconst (v := 1) hx hb dX8_rates_146 (by decide) ?_
        refine lv_goto (tgt := 151) hx hb dX8_rates_147 (by decide) ?_
        exact L151 x13 v5 1 v1 H locs ls hf hP hD hS (lv_sub hl [4] rfl)
    · replace hf := if_f c10 hf
      refine lv_aload_n hx hb dX8_rates_45 rfl (lv_at hl 0 rfl) ?_
      refine va_get (D := D) (ci := 7) (v := .ref (a 7)) (C := RX8) (T := TX8) (N := 24) hx hb hg in_X8 hown hK hP 0 rfl rfl 8 (by decide) (hg _ w833) (fun _ h9 => h9) rfl dX8_rates_46 ?_
      refine lv_bipush (v := 40) hx hb dX8_rates_49 (by decide) ?_
      refine lv_iload_n hx hb dX8_rates_51 rfl (lv_at hl 1 rfl) ?_
      refine lv_imul hx hb dX8_rates_52 ?_
      refine lv_iload hx hb dX8_rates_53 (lv_at hl 5 rfl) ?_
      refine lv_iadd hx hb dX8_rates_55 ?_
      obtain ⟨hi16, hf⟩ := chk_t hf
      refine va_iald hx hb hK hP 7 0 rfl rfl (inb_in hi16) dX8_rates_56 ?_
      obtain ⟨u17, hc18, hf⟩ := bind_t hf
      refine k_S (As := [.int ((mBits x) (((40 * v1) + v6)).toNatClampNeg)]) (rest := []) (n := 1) ⟨hx, hb, hml, hown, hts⟩ (met_X8_rising l ((mBits x) (((40 * v1) + v6)).toNatClampNeg) u17 hc18) w1004 w1005 w9 w1006 ⟨by decide +kernel, by decide +kernel, by decide +kernel⟩ ⟨Nat.le_of_ble_eq_true rfl, Nat.le_of_ble_eq_true rfl⟩ hK hE hP hD hS hA (isC := []) (isR := [0, 1, 2, 3, 4, 5, 6, 7, 8, 9, 10, 11, 12, 13, 14]) (isB := [0, 1, 2, 3, 4, 5, 6, 7, 8, 9, 10, 11, 12, 13, 14]) (ws' := W_Model cI a x) ⟨([0, 1, 2, 3, 4, 5, 6, 7, 8, 9, 10, 11, 12, 13, 14] : List Nat).filterMap (fun i : Nat => (W_Model cI a x : va_W)[i]?), rfl, rfl, rfl, rfl, by decide, rfl, rfl⟩ rfl hl.1 rfl (Nat.le_of_ble_eq_true rfl) dX8_rates_57 ⟨Nat.le_of_ble_eq_true rfl, Nat.le_of_ble_eq_true rfl⟩ (fun H locs hP hD hS => ?_)
      try dsimp only at hf
      refine W.eq (g2 := F0 m 60 ls [.int u17]) rfl ?_
      refine lv_istore (lv' := [(7, .int u17), (0, .ref (a 0)), (1, .int v1), (2, .int v2), (3, .int v3), (5, .int v5), (6, .int v6)]) hx hb dX8_rates_60 hl (by decide) rfl (fun ls hl => ?_)
      refine lv_iload hx hb dX8_rates_62 (lv_at hl 0 rfl) ?_
      refine lv_iload_n hx hb dX8_rates_64 rfl (lv_at hl 4 rfl) ?_
      obtain ⟨u19, hc20, hf⟩ := bind_t hf
      refine k_S (As := [.int v3]) (rest := [.int u17]) (n := 1) ⟨hx, hb, hml, hown, hts⟩ (met_X8_rising l v3 u19 hc20) w1004 w1005 w9 w1006 ⟨by decide +kernel, by decide +kernel, by decide +kernel⟩ ⟨Nat.le_of_ble_eq_true rfl, Nat.le_of_ble_eq_true rfl⟩ hK hE hP hD hS hA (isC := []) (isR := [0, 1, 2, 3, 4, 5, 6, 7, 8, 9, 10, 11, 12, 13, 14]) (isB := [0, 1, 2, 3, 4, 5, 6, 7, 8, 9, 10, 11, 12, 13, 14]) (ws' := W_Model cI a x) ⟨([0, 1, 2, 3, 4, 5, 6, 7, 8, 9, 10, 11, 12, 13, 14] : List Nat).filterMap (fun i : Nat => (W_Model cI a x : va_W)[i]?), rfl, rfl, rfl, rfl, by decide, rfl, rfl⟩ rfl hl.1 rfl (Nat.le_of_ble_eq_true rfl) dX8_rates_65 ⟨Nat.le_of_ble_eq_true rfl, Nat.le_of_ble_eq_true rfl⟩ (fun H locs hP hD hS => ?_)
      try dsimp only at hf
      refine W.eq (g2 := F0 m 68 ls [.int u19, .int u17]) rfl ?_
      refine lv_icmp_lt (tgt := 96) hx hb dX8_rates_68 (by decide) (fun c21 => ?_) (fun c21 => ?_)
      · replace hf := if_t c21 hf
        exact L96 x v1 v2 v3 v5 v6 rec34 hrec34 H locs ls hf hP hD hS (lv_sub hl [1, 2, 3, 4, 5, 6] rfl)
      · replace hf := if_f c21 hf
        refine lv_iload hx hb dX8_rates_71 (lv_at hl 0 rfl) ?_
        refine lv_iload_n hx hb dX8_rates_73 rfl (lv_at hl 4 rfl) ?_
        obtain ⟨u22, hc23, hf⟩ := bind_t hf
        refine k_S (As := [.int v3]) (rest := [.int u17]) (n := 1) ⟨hx, hb, hml, hown, hts⟩ (met_X8_rising l v3 u22 hc23) w1004 w1005 w9 w1006 ⟨by decide +kernel, by decide +kernel, by decide +kernel⟩ ⟨Nat.le_of_ble_eq_true rfl, Nat.le_of_ble_eq_true rfl⟩ hK hE hP hD hS hA (isC := []) (isR := [0, 1, 2, 3, 4, 5, 6, 7, 8, 9, 10, 11, 12, 13, 14]) (isB := [0, 1, 2, 3, 4, 5, 6, 7, 8, 9, 10, 11, 12, 13, 14]) (ws' := W_Model cI a x) ⟨([0, 1, 2, 3, 4, 5, 6, 7, 8, 9, 10, 11, 12, 13, 14] : List Nat).filterMap (fun i : Nat => (W_Model cI a x : va_W)[i]?), rfl, rfl, rfl, rfl, by decide, rfl, rfl⟩ rfl hl.1 rfl (Nat.le_of_ble_eq_true rfl) dX8_rates_74 ⟨Nat.le_of_ble_eq_true rfl, Nat.le_of_ble_eq_true rfl⟩ (fun H locs hP hD hS => ?_)
        try dsimp only at hf
        refine W.eq (g2 := F0 m 77 ls [.int u22, .int u17]) rfl ?_
        refine lv_icmp_ne (tgt := 100) hx hb dX8_rates_77 (by decide) (fun c24 => ?_) (fun c24 => ?_)
        · replace hf := if_f c24 hf
          exact L100 x v1 v2 v3 v5 v6 rec34 hrec34 H locs ls hf hP hD hS (lv_sub hl [1, 2, 3, 4, 5, 6] rfl)
        · replace hf := if_t c24 hf
          refine lv_aload_n hx hb dX8_rates_80 rfl (lv_at hl 1 rfl) ?_
          refine va_get (D := D) (ci := 7) (v := .ref (a 6)) (C := RX8) (T := TX8) (N := 24) hx hb hg in_X8 hown hK hP 0 rfl rfl 7 (by decide) (hg _ w832) (fun _ h9 => h9) rfl dX8_rates_81 ?_
          refine lv_bipush (v := 40) hx hb dX8_rates_84 (by decide) ?_
          refine lv_iload_n hx hb dX8_rates_86 rfl (lv_at hl 2 rfl) ?_
          refine lv_imul hx hb dX8_rates_87 ?_
          refine lv_iload hx hb dX8_rates_88 (lv_at hl 6 rfl) ?_
          refine lv_iadd hx hb dX8_rates_90 ?_
          obtain ⟨hi25, hf⟩ := chk_t hf
          refine va_iald hx hb hK hP 6 0 rfl rfl (inb_in hi25) dX8_rates_91 ?_
          refine lv_iload_n hx hb dX8_rates_92 rfl (lv_at hl 3 rfl) ?_
          refine lv_icmp_ge (tgt := 100) hx hb dX8_rates_93 (by decide) (fun c26 => ?_) (fun c26 => ?_)
          · replace hf := if_t c26 hf
            exact L100 x v1 v2 v3 v5 v6 rec34 hrec34 H locs ls hf hP hD hS (lv_sub hl [1, 2, 3, 4, 5, 6] rfl)
          · replace hf := if_f c26 hf
            exact L96 x v1 v2 v3 v5 v6 rec34 hrec34 H locs ls hf hP hD hS (lv_sub hl [1, 2, 3, 4, 5, 6] rfl)
  have L34 : ∀ (x : MSt) (v1 : Int32) (v2 : Int32) (v3 : Int32) (fu : Nat) (v5 : Int32) (v6 : Int32) (H : Heap) (locs : List Loc) (ls : Array Slot), iterK fu (fX8_rates_34 x v1 v2 v3 ) (v5, v6) = some res → va_P D vwCl (W_Model cI a x) H → va_D A (W_Model cI a x) → va_S A s.heap H locs → lv_has ls 9 [(0, .ref (a 0)), (1, .int v1), (2, .int v2), (3, .int v3), (5, .int v5), (6, .int v6)] → W p l e ({ frames := 2, cells := 0, slots := 0, locals := 44 } : Room) s m ([.ref (a 0), .int p1, .int p2, .int p3] : List Value).toArray below meth c H locs 0 0 (MQ below (QW D (TY cI cV cJ cD) (W_Model cI a res.1) A (some (.int res.2))) (([.ref (a 0), .int p1, .int p2, .int p3] : List Value).toArray) s 0 0 A) (F0 m 34 ls []) := by
    intro x v1 v2 v3 fu
    induction fu with
    | zero =>
      intro v5 v6 H locs ls hf
      cases hf
    | succ fu ih =>
      intro v5 v6 H locs ls hf hP hD hS hl
      exact S34 x v1 v2 v3 (iterK fu (fX8_rates_34 x v1 v2 v3 )) ih v5 v6 H locs ls hf hP hD hS hl
  have M0 : ∀ (H : Heap) (locs : List Loc) (ls : Array Slot), fX8_rates x p1 p2 p3 = some res → va_P D vwCl (W_Model cI a x) H → va_D A (W_Model cI a x) → va_S A s.heap H locs → lv_has ls 9 [(0, .ref (a 0)), (1, .int p1), (2, .int p2), (3, .int p3)] → W p l e ({ frames := 2, cells := 0, slots := 0, locals := 44 } : Room) s m ([.ref (a 0), .int p1, .int p2, .int p3] : List Value).toArray below meth c H locs 0 0 (MQ below (QW D (TY cI cV cJ cD) (W_Model cI a res.1) A (some (.int res.2))) (([.ref (a 0), .int p1, .int p2, .int p3] : List Value).toArray) s 0 0 A) (F0 m 0 ls []) := by
    intro H locs ls hf hP hD hS hl
    dsimp only [fX8_rates] at hf
    refine lv_aload_n hx hb dX8_rates_0 rfl (lv_at hl 0 rfl) ?_
    refine lv_iload_n hx hb dX8_rates_1 rfl (lv_at hl 1 rfl) ?_
    refine lv_iconst (v := 3) hx hb dX8_rates_2 (by decide) ?_
    obtain ⟨u27, hc28, hf⟩ := bind_t hf
    refine k_V (As := [.int p1, .int 3]) (rest := []) (n := 2) ⟨hx, hb, hml, hown, hts⟩ (met_X8_makes l a x p1 3 u27 hc28) w935 w937 ws30 w9 w938 ⟨rfl, by decide +kernel, by decide +kernel, by decide +kernel⟩ ⟨Nat.le_of_ble_eq_true rfl, Nat.le_of_ble_eq_true rfl⟩ hK hE hP hD hS hA (isC := [0, 1, 2, 3, 4, 5, 6, 7, 8, 9, 10, 11, 12, 13, 14]) (isR := []) (isB := [0, 1, 2, 3, 4, 5, 6, 7, 8, 9, 10, 11, 12, 13, 14]) (ws' := W_Model cI a u27) ⟨([] : List Nat).filterMap (fun i : Nat => (W_Model cI a x : va_W)[i]?), rfl, rfl, rfl, rfl, by decide, rfl, rfl⟩ 0 7 rfl rfl rfl rfl hl.1 rfl (Nat.le_of_ble_eq_true rfl) dX8_rates_3 ⟨Nat.le_of_ble_eq_true rfl, Nat.le_of_ble_eq_true rfl⟩ (fun H locs hP hD hS => ?_)
    try dsimp only at hf
    refine W.eq (g2 := F0 m 6 ls []) rfl ?_
    obtain ⟨x29, hx29⟩ : ∃ z, z = u27 := ⟨_, rfl⟩
    replace hf := keep_e hf x29 hx29
    have hP : va_P D vwCl (W_Model cI a x29) H := by rw [hx29]; exact hP
    have hD : va_D A (W_Model cI a x29) := by rw [hx29]; exact hD
    refine lv_aload_n hx hb dX8_rates_6 rfl (lv_at hl 0 rfl) ?_
    refine lv_iload_n hx hb dX8_rates_7 rfl (lv_at hl 1 rfl) ?_
    refine lv_iload_n hx hb dX8_rates_8 rfl (lv_at hl 2 rfl) ?_
    obtain ⟨u30, hc31, hf⟩ := bind_t hf
    refine k_V (As := [.int p1, .int p2]) (rest := []) (n := 2) ⟨hx, hb, hml, hown, hts⟩ (met_X8_find l a x29 p1 p2 u30 hc31) w975 w977 ws38 w9 w978 ⟨rfl, by decide +kernel, by decide +kernel, by decide +kernel⟩ ⟨Nat.le_of_ble_eq_true rfl, Nat.le_of_ble_eq_true rfl⟩ hK hE hP hD hS hA (isC := [0, 1, 2, 3, 4, 5, 6, 7, 8, 9, 10, 11, 12, 13, 14]) (isR := []) (isB := [0, 1, 2, 3, 4, 5, 6, 7, 8, 9, 10, 11, 12, 13, 14]) (ws' := W_Model cI a x29) ⟨([] : List Nat).filterMap (fun i : Nat => (W_Model cI a x29 : va_W)[i]?), rfl, rfl, rfl, rfl, by decide, rfl, rfl⟩ 0 7 rfl rfl rfl rfl hl.1 rfl (Nat.le_of_ble_eq_true rfl) dX8_rates_9 ⟨Nat.le_of_ble_eq_true rfl, Nat.le_of_ble_eq_true rfl⟩ (fun H locs hP hD hS => ?_)
    try dsimp only at hf
    refine W.eq (g2 := F0 m 12 ls [.int u30]) rfl ?_
    refine lv_istore (lv' := [(4, .int u30), (0, .ref (a 0)), (1, .int p1), (2, .int p2), (3, .int p3)]) hx hb dX8_rates_12 hl (by decide) rfl (fun ls hl => ?_)
    refine lv_iload hx hb dX8_rates_14 (lv_at hl 0 rfl) ?_
    refine lv_iconst (v := (-1)) hx hb dX8_rates_16 (by decide) ?_
    refine lv_icmp_eq (tgt := 28) hx hb dX8_rates_17 (by decide) (fun c32 => ?_) (fun c32 => ?_)
    · replace hf := if_t c32 hf
      refine lv_iconst (v := 0) hx hb dX8_rates_28 (by decide) ?_
      refine lv_istore (lv' := [(5, .int 0), (4, .int u30), (0, .ref (a 0)), (1, .int p1), (2, .int p2), (3, .int p3)]) hx hb dX8_rates_29 hl (by decide) rfl (fun ls hl => ?_)
      refine lv_iconst (v := 0) hx hb dX8_rates_31 (by decide) ?_
      refine lv_istore (lv' := [(6, .int 0), (5, .int 0), (4, .int u30), (0, .ref (a 0)), (1, .int p1), (2, .int p2), (3, .int p3)]) hx hb dX8_rates_32 hl (by decide) rfl (fun ls hl => ?_)
      exact L34 x29 p1 p2 p3 FU 0 0 H locs ls hf hP hD hS (lv_sub hl [3, 4, 5, 6, 1, 0] rfl)
    · replace hf := if_f c32 hf
      refine lv_aload_n hx hb dX8_rates_20 rfl (lv_at hl 1 rfl) ?_
      refine lv_iload_n hx hb dX8_rates_21 rfl (lv_at hl 2 rfl) ?_
      refine lv_iload hx hb dX8_rates_22 (lv_at hl 0 rfl) ?_
      obtain ⟨u33, hc34, hf⟩ := bind_t hf
      refine k_V (As := [.int p1, .int u30]) (rest := []) (n := 2) ⟨hx, hb, hml, hown, hts⟩ (met_X8_takesOut l a x29 p1 u30 u33 hc34) w959 w961 ws35 w9 w962 ⟨rfl, by decide +kernel, by decide +kernel, by decide +kernel⟩ ⟨Nat.le_of_ble_eq_true rfl, Nat.le_of_ble_eq_true rfl⟩ hK hE hP hD hS hA (isC := [0, 1, 2, 3, 4, 5, 6, 7, 8, 9, 10, 11, 12, 13, 14]) (isR := []) (isB := [0, 1, 2, 3, 4, 5, 6, 7, 8, 9, 10, 11, 12, 13, 14]) (ws' := W_Model cI a u33.1) ⟨([] : List Nat).filterMap (fun i : Nat => (W_Model cI a x29 : va_W)[i]?), rfl, rfl, rfl, rfl, by decide, rfl, rfl⟩ 0 7 rfl rfl rfl rfl hl.1 rfl (Nat.le_of_ble_eq_true rfl) dX8_rates_24 ⟨Nat.le_of_ble_eq_true rfl, Nat.le_of_ble_eq_true rfl⟩ (fun H locs hP hD hS => ?_)
      try dsimp only at hf
      refine W.eq (g2 := F0 m 27 ls [.int u33.2]) rfl ?_
      obtain ⟨x35, hx35⟩ : ∃ z, z = u33.1 := ⟨_, rfl⟩
      replace hf := keep_e hf x35 hx35
      have hP : va_P D vwCl (W_Model cI a x35) H := by rw [hx35]; exact hP
      have hD : va_D A (W_Model cI a x35) := by rw [hx35]; exact hD
      refine lv_pop hx hb dX8_rates_27 rfl ?_
      refine lv_iconst (v := 0) hx hb dX8_rates_28 (by decide) ?_
      refine lv_istore (lv' := [(5, .int 0), (4, .int u30), (0, .ref (a 0)), (1, .int p1), (2, .int p2), (3, .int p3)]) hx hb dX8_rates_29 hl (by decide) rfl (fun ls hl => ?_)
      refine lv_iconst (v := 0) hx hb dX8_rates_31 (by decide) ?_
      refine lv_istore (lv' := [(6, .int 0), (5, .int 0), (4, .int u30), (0, .ref (a 0)), (1, .int p1), (2, .int p2), (3, .int p3)]) hx hb dX8_rates_32 hl (by decide) rfl (fun ls hl => ?_)
      exact L34 x35 p1 p2 p3 FU 0 0 H locs ls hf hP hD hS (lv_sub hl [3, 4, 5, 6, 1, 0] rfl)
  exact M0 s.heap [] ls hf hP hD hS hl
/-! CompactformsModel.appends(II)I -/
def fX8_appends_37 (x : MSt) (v1 : Int32) (s0 : Int32) (s1 : Int32) : Option (MSt × Int32) := (fX8_grows x s1 s0).bind (fun u1 => keep u1 (fun x3 => chk (inb v1 16) (some (x3, ((mSize x3) (v1).toNatClampNeg)))))
def fX8_appends (x : MSt) (p1 : Int32) (p2 : Int32) : Option (MSt × Int32) := (fX8_makes x p1 4).bind (fun u5 => keep u5 (fun x7 => chk (inb p1 16) ((fX8_putsIn x7 p1 ((mSize x7) (p1).toNatClampNeg) p2 0).bind (fun u9 => keep u9 (fun x11 => chk (inb p1 16) ((if ((mSize x11) (p1).toNatClampNeg) ≤ 16 then fX8_appends_37 x11 p1 0 p1 else fX8_appends_37 x11 p1 1 p1)))))))
set_option maxHeartbeats 4000000 in
set_option maxRecDepth 100000 in
theorem met_X8_appends {D : va_G} {cI cV cJ cD : ClassId} (l : Launch) (a : Nat → Nat) (x : MSt) (p1 : Int32) (p2 : Int32) (res : MSt × Int32) (hf : fX8_appends x p1 p2 = some res) : MM l yX8_appends cX8_appends 3 (some .int) { frames := 2, cells := 0, slots := 0, locals := 44 } D (TY cI cV cJ cD) (W_Model cI a x) (W_Model cI a res.1) [.ref (a 0), .int p1, .int p2] (some (.int res.2)) := by
  intro sz
  refine Met.ofW (cc := cX8_appends) (maxL := 3) (ret := (some .int)) (by decide +kernel) rfl ?_
  intro p e s m args below meth c s₁ B hml hv
  obtain ⟨rfl, hsz, hP, hK, hD0, hE⟩ := hv
  have hx := B.exec
  have hb := B.bytes
  have hr := B.returns
  have hts := atoms_spec (ws := .code yX8_appends cX8_appends 3 (some .int) :: GW) B.pre
  have hg : ∀ w ∈ GW, w.before (([.ref (a 0), .int p1, .int p2] : List Value).toArray) s = true := fun w h => hts w (List.mem_cons_of_mem _ h)
  have hown : s.vm.findClass RX8 = some m.cls := findClass_of_methodNamed B.named
  have hlocks := B.notSynchronized
  subst hsz
  have hD := hD0.self (sz := s.heap.size)
  generalize hAe : va_A (W_Model cI a x) s.heap.size = A at hD hE ⊢
  have hA : ∀ q : Nat, s.heap.size ≤ q → A q := fun q h => by rw [← hAe]; exact Or.inr h
  have hS : va_S A s.heap s.heap [] := va_S.rf
  have hl := lv_entry ([.ref (a 0), .int p1, .int p2]) (n := 3) (Nat.le_of_ble_eq_true rfl)
  rw [lg_entry_eq]
  generalize (lg_sl ([.ref (a 0), .int p1, .int p2]) ++ List.replicate (3 - (lg_sl ([.ref (a 0), .int p1, .int p2])).length) Slot.unset).toArray = ls at hl ⊢
  have hl : lv_has ls 3 [(0, .ref (a 0)), (1, .int p1), (2, .int p2)] := hl
  have L37 : ∀ (x : MSt) (v1 : Int32) (s0 : Int32) (s1 : Int32) (H : Heap) (locs : List Loc) (ls : Array Slot), fX8_appends_37 x v1 s0 s1  = some res → va_P D vwCl (W_Model cI a x) H → va_D A (W_Model cI a x) → va_S A s.heap H locs → lv_has ls 3 [(0, .ref (a 0)), (1, .int v1)] → W p l e ({ frames := 2, cells := 0, slots := 0, locals := 44 } : Room) s m ([.ref (a 0), .int p1, .int p2] : List Value).toArray below meth c H locs 0 0 (MQ below (QW D (TY cI cV cJ cD) (W_Model cI a res.1) A (some (.int res.2))) (([.ref (a 0), .int p1, .int p2] : List Value).toArray) s 0 0 A) (F0 m 37 ls [.int s0, .int s1, .ref (a 0)]) := by
    intro x v1 s0 s1 H locs ls hf hP hD hS hl
    dsimp only [fX8_appends_37] at hf
    obtain ⟨u1, hc2, hf⟩ := bind_t hf
    refine k_V (As := [.int s1, .int s0]) (rest := []) (n := 2) ⟨hx, hb, hml, hown, hts⟩ (met_X8_grows l a x s1 s0 u1 hc2) w943 w945 ws32 w9 w946 ⟨rfl, by decide +kernel, by decide +kernel, by decide +kernel⟩ ⟨Nat.le_of_ble_eq_true rfl, Nat.le_of_ble_eq_true rfl⟩ hK hE hP hD hS hA (isC := [0, 1, 2, 3, 4, 5, 6, 7, 8, 9, 10, 11, 12, 13, 14]) (isR := []) (isB := [0, 1, 2, 3, 4, 5, 6, 7, 8, 9, 10, 11, 12, 13, 14]) (ws' := W_Model cI a u1) ⟨([] : List Nat).filterMap (fun i : Nat => (W_Model cI a x : va_W)[i]?), rfl, rfl, rfl, rfl, by decide, rfl, rfl⟩ 0 7 rfl rfl rfl rfl hl.1 rfl (Nat.le_of_ble_eq_true rfl) dX8_appends_37 ⟨Nat.le_of_ble_eq_true rfl, Nat.le_of_ble_eq_true rfl⟩ (fun H locs hP hD hS => ?_)
    try dsimp only at hf
    refine W.eq (g2 := F0 m 40 ls []) rfl ?_
    obtain ⟨x3, hx3⟩ : ∃ z, z = u1 := ⟨_, rfl⟩
    replace hf := keep_e hf x3 hx3
    have hP : va_P D vwCl (W_Model cI a x3) H := by rw [hx3]; exact hP
    have hD : va_D A (W_Model cI a x3) := by rw [hx3]; exact hD
    refine lv_aload_n hx hb dX8_appends_40 rfl (lv_at hl 0 rfl) ?_
    refine va_get (D := D) (ci := 7) (v := .ref (a 4)) (C := RX8) (T := TX8) (N := 24) hx hb hg in_X8 hown hK hP 0 rfl rfl 5 (by decide) (hg _ w830) (fun _ h9 => h9) rfl dX8_appends_41 ?_
    refine lv_iload_n hx hb dX8_appends_44 rfl (lv_at hl 1 rfl) ?_
    obtain ⟨hi4, hf⟩ := chk_t hf
    refine va_iald hx hb hK hP 4 0 rfl rfl (inb_in hi4) dX8_appends_45 ?_
    obtain rfl := Option.some.inj hf
    exact W.iret (v := ((mSize x3) (v1).toNatClampNeg)) hx hb hr (fun t ht hW => ⟨rfl, by rw [ht]; exact hP, va_K.moved hW.alike hK, hD, hS.F ht⟩) hS.2.2 dX8_appends_46 hlocks
  have M0 : ∀ (H : Heap) (locs : List Loc) (ls : Array Slot), fX8_appends x p1 p2 = some res → va_P D vwCl (W_Model cI a x) H → va_D A (W_Model cI a x) → va_S A s.heap H locs → lv_has ls 3 [(0, .ref (a 0)), (1, .int p1), (2, .int p2)] → W p l e ({ frames := 2, cells := 0, slots := 0, locals := 44 } : Room) s m ([.ref (a 0), .int p1, .int p2] : List Value).toArray below meth c H locs 0 0 (MQ below (QW D (TY cI cV cJ cD) (W_Model cI a res.1) A (some (.int res.2))) (([.ref (a 0), .int p1, .int p2] : List Value).toArray) s 0 0 A) (F0 m 0 ls []) := by
    intro H locs ls hf hP hD hS hl
    dsimp only [fX8_appends] at hf
    refine lv_aload_n hx hb dX8_appends_0 rfl (lv_at hl 0 rfl) ?_
    refine lv_iload_n hx hb dX8_appends_1 rfl (lv_at hl 1 rfl) ?_
    refine lv_iconst (v := 4) hx hb dX8_appends_2 (by decide) ?_
    obtain ⟨u5, hc6, hf⟩ := bind_t hf
    refine k_V (As := [.int p1, .int 4]) (rest := []) (n := 2) ⟨hx, hb, hml, hown, hts⟩ (met_X8_makes l a x p1 4 u5 hc6) w935 w937 ws30 w9 w938 ⟨rfl, by decide +kernel, by decide +kernel, by decide +kernel⟩ ⟨Nat.le_of_ble_eq_true rfl, Nat.le_of_ble_eq_true rfl⟩ hK hE hP hD hS hA (isC := [0, 1, 2, 3, 4, 5, 6, 7, 8, 9, 10, 11, 12, 13, 14]) (isR := []) (isB := [0, 1, 2, 3, 4, 5, 6, 7, 8, 9, 10, 11, 12, 13, 14]) (ws' := W_Model cI a u5) ⟨([] : List Nat).filterMap (fun i : Nat => (W_Model cI a x : va_W)[i]?), rfl, rfl, rfl, rfl, by decide, rfl, rfl⟩ 0 7 rfl rfl rfl rfl hl.1 rfl (Nat.le_of_ble_eq_true rfl) dX8_appends_3 ⟨Nat.le_of_ble_eq_true rfl, Nat.le_of_ble_eq_true rfl⟩ (fun H locs hP hD hS => ?_)
    try dsimp only at hf
    refine W.eq (g2 := F0 m 6 ls []) rfl ?_
    obtain ⟨x7, hx7⟩ : ∃ z, z = u5 := ⟨_, rfl⟩
    replace hf := keep_e hf x7 hx7
    have hP : va_P D vwCl (W_Model cI a x7) H := by rw [hx7]; exact hP
    have hD : va_D A (W_Model cI a x7) := by rw [hx7]; exact hD
    refine lv_aload_n hx hb dX8_appends_6 rfl (lv_at hl 0 rfl) ?_
    refine lv_iload_n hx hb dX8_appends_7 rfl (lv_at hl 1 rfl) ?_
    refine lv_aload_n hx hb dX8_appends_8 rfl (lv_at hl 0 rfl) ?_
    refine va_get (D := D) (ci := 7) (v := .ref (a 4)) (C := RX8) (T := TX8) (N := 24) hx hb hg in_X8 hown hK hP 0 rfl rfl 5 (by decide) (hg _ w830) (fun _ h9 => h9) rfl dX8_appends_9 ?_
    refine lv_iload_n hx hb dX8_appends_12 rfl (lv_at hl 1 rfl) ?_
    obtain ⟨hi8, hf⟩ := chk_t hf
    refine va_iald hx hb hK hP 4 0 rfl rfl (inb_in hi8) dX8_appends_13 ?_
    refine lv_iload_n hx hb dX8_appends_14 rfl (lv_at hl 2 rfl) ?_
    refine lv_iconst (v := 0) hx hb dX8_appends_15 (by decide) ?_
    obtain ⟨u9, hc10, hf⟩ := bind_t hf
    refine k_V (As := [.int p1, .int ((mSize x7) (p1).toNatClampNeg), .int p2, .int 0]) (rest := []) (n := 4) ⟨hx, hb, hml, hown, hts⟩ (met_X8_putsIn l a x7 p1 ((mSize x7) (p1).toNatClampNeg) p2 0 u9 hc10) w939 w941 ws31 w9 w942 ⟨rfl, by decide +kernel, by decide +kernel, by decide +kernel⟩ ⟨Nat.le_of_ble_eq_true rfl, Nat.le_of_ble_eq_true rfl⟩ hK hE hP hD hS hA (isC := [0, 1, 2, 3, 4, 5, 6, 7, 8, 9, 10, 11, 12, 13, 14]) (isR := []) (isB := [0, 1, 2, 3, 4, 5, 6, 7, 8, 9, 10, 11, 12, 13, 14]) (ws' := W_Model cI a u9) ⟨([] : List Nat).filterMap (fun i : Nat => (W_Model cI a x7 : va_W)[i]?), rfl, rfl, rfl, rfl, by decide, rfl, rfl⟩ 0 7 rfl rfl rfl rfl hl.1 rfl (Nat.le_of_ble_eq_true rfl) dX8_appends_16 ⟨Nat.le_of_ble_eq_true rfl, Nat.le_of_ble_eq_true rfl⟩ (fun H locs hP hD hS => ?_)
    try dsimp only at hf
    refine W.eq (g2 := F0 m 19 ls []) rfl ?_
    obtain ⟨x11, hx11⟩ : ∃ z, z = u9 := ⟨_, rfl⟩
    replace hf := keep_e hf x11 hx11
    have hP : va_P D vwCl (W_Model cI a x11) H := by rw [hx11]; exact hP
    have hD : va_D A (W_Model cI a x11) := by rw [hx11]; exact hD
    refine lv_aload_n hx hb dX8_appends_19 rfl (lv_at hl 0 rfl) ?_
    refine lv_iload_n hx hb dX8_appends_20 rfl (lv_at hl 1 rfl) ?_
    refine lv_aload_n hx hb dX8_appends_21 rfl (lv_at hl 0 rfl) ?_
    refine va_get (D := D) (ci := 7) (v := .ref (a 4)) (C := RX8) (T := TX8) (N := 24) hx hb hg in_X8 hown hK hP 0 rfl rfl 5 (by decide) (hg _ w830) (fun _ h9 => h9) rfl dX8_appends_22 ?_
    refine lv_iload_n hx hb dX8_appends_25 rfl (lv_at hl 1 rfl) ?_
    obtain ⟨hi12, hf⟩ := chk_t hf
    refine va_iald hx hb hK hP 4 0 rfl rfl (inb_in hi12) dX8_appends_26 ?_
    refine lv_bipush (v := 16) hx hb dX8_appends_27 (by decide) ?_
    refine lv_icmp_le (tgt := 36) hx hb dX8_appends_29 (by decide) (fun c13 => ?_) (fun c13 => ?_)
    · replace hf := if_t c13 hf
      refine lv_iconst (v := 0) hx hb dX8_appends_36 (by decide) ?_
      exact L37 x11 p1 0 p1 H locs ls hf hP hD hS (lv_sub hl [0, 1] rfl)
    · replace hf := if_f c13 hf
      refine lv_iconst (v := 1) hx hb dX8_appends_32 (by decide) ?_
      refine lv_goto (tgt := 37) hx hb dX8_appends_33 (by decide) ?_
      exact L37 x11 p1 1 p1 H locs ls hf hP hD hS (lv_sub hl [0, 1] rfl)
  exact M0 s.heap [] ls hf hP hD hS hl
/-! CompactformsModel.spot(III)I -/
def fX8_spot (p0 : Int32) (p1 : Int32) (p2 : Int32) : Option (Int32) := some (((40 * ((3 * p0) + p1)) + p2) - 1)
set_option maxHeartbeats 4000000 in
set_option maxRecDepth 100000 in
theorem met_X8_spot {D : va_G} {cI cV cJ cD : ClassId} (l : Launch) (p0 : Int32) (p1 : Int32) (p2 : Int32) (res : Int32) (hf : fX8_spot p0 p1 p2 = some res) : MM l yX8_spot cX8_spot 3 (some .int) { frames := 0, cells := 0, slots := 0, locals := 0 } D (TY cI cV cJ cD) ([]) ([]) [.int p0, .int p1, .int p2] (some (.int res)) := by
  intro sz
  refine Met.ofW (cc := cX8_spot) (maxL := 3) (ret := (some .int)) (by decide +kernel) rfl ?_
  intro p e s m args below meth c s₁ B hml hv
  obtain ⟨rfl, hsz, hP, hK, hD0, hE⟩ := hv
  have hx := B.exec
  have hb := B.bytes
  have hr := B.returns
  have hts := atoms_spec (ws := .code yX8_spot cX8_spot 3 (some .int) :: GW) B.pre
  have hg : ∀ w ∈ GW, w.before (([.int p0, .int p1, .int p2] : List Value).toArray) s = true := fun w h => hts w (List.mem_cons_of_mem _ h)
  have hown : s.vm.findClass RX8 = some m.cls := findClass_of_methodNamed B.named
  have hlocks := B.notSynchronized
  subst hsz
  have hD := hD0.self (sz := s.heap.size)
  generalize hAe : va_A ([]) s.heap.size = A at hD hE ⊢
  have hA : ∀ q : Nat, s.heap.size ≤ q → A q := fun q h => by rw [← hAe]; exact Or.inr h
  have hS : va_S A s.heap s.heap [] := va_S.rf
  have hl := lv_entry ([.int p0, .int p1, .int p2]) (n := 3) (Nat.le_of_ble_eq_true rfl)
  rw [lg_entry_eq]
  generalize (lg_sl ([.int p0, .int p1, .int p2]) ++ List.replicate (3 - (lg_sl ([.int p0, .int p1, .int p2])).length) Slot.unset).toArray = ls at hl ⊢
  have hl : lv_has ls 3 [(0, .int p0), (1, .int p1), (2, .int p2)] := hl
  have M0 : ∀ (H : Heap) (locs : List Loc) (ls : Array Slot), fX8_spot p0 p1 p2 = some res → va_P D vwCl ([]) H → va_D A ([]) → va_S A s.heap H locs → lv_has ls 3 [(0, .int p0), (1, .int p1), (2, .int p2)] → W p l e ({ frames := 0, cells := 0, slots := 0, locals := 0 } : Room) s m ([.int p0, .int p1, .int p2] : List Value).toArray below meth c H locs 0 0 (MQ below (QW D (TY cI cV cJ cD) ([]) A (some (.int res))) (([.int p0, .int p1, .int p2] : List Value).toArray) s 0 0 A) (F0 m 0 ls []) := by
    intro H locs ls hf hP hD hS hl
    dsimp only [fX8_spot] at hf
    refine lv_bipush (v := 40) hx hb dX8_spot_0 (by decide) ?_
    refine lv_iconst (v := 3) hx hb dX8_spot_2 (by decide) ?_
    refine lv_iload_n hx hb dX8_spot_3 rfl (lv_at hl 0 rfl) ?_
    refine lv_imul hx hb dX8_spot_4 ?_
    refine lv_iload_n hx hb dX8_spot_5 rfl (lv_at hl 1 rfl) ?_
    refine lv_iadd hx hb dX8_spot_6 ?_
    refine lv_imul hx hb dX8_spot_7 ?_
    refine lv_iload_n hx hb dX8_spot_8 rfl (lv_at hl 2 rfl) ?_
    refine lv_iadd hx hb dX8_spot_9 ?_
    refine lv_iconst (v := 1) hx hb dX8_spot_10 (by decide) ?_
    refine lv_isub hx hb dX8_spot_11 ?_
    obtain rfl := Option.some.inj hf
    exact W.iret (v := (((40 * ((3 * p0) + p1)) + p2) - 1)) hx hb hr (fun t ht hW => ⟨rfl, by rw [ht]; exact hP, va_K.moved hW.alike hK, hD, hS.F ht⟩) hS.2.2 dX8_spot_12 hlocks
  exact M0 s.heap [] ls hf hP hD hS hl
/-! CompactformsModel.reads(III)I -/
def fX8_reads (x : MSt) (p1 : Int32) (p2 : Int32) (p3 : Int32) : Option (MSt × Int32) := keep ((3 * p1) + p2) (fun y1 => chk (inb y1 48) (chk (inb p1 16) ((if ((mPlace x) (y1).toNatClampNeg) = ((mSize x) (p1).toNatClampNeg) then some (x, (-1)) else chk (inb y1 48) (chk (inb y1 48) (keep (mPlace_s x (upd (mPlace x) (y1).toNatClampNeg (((mPlace x) (y1).toNatClampNeg) + 1))) (fun x7 => chk (inb y1 48) ((fX8_spot p1 p2 ((mPlace x7) (y1).toNatClampNeg)).bind (fun u9 => chk (inb u9 1920) (keep (mWaits_s x7 (upd (mWaits x7) (u9).toNatClampNeg (p3 + 1))) (fun x12 => chk (inb y1 48) ((fX8_spot p1 p2 ((mPlace x12) (y1).toNatClampNeg)).bind (fun u14 => chk (inb u14 1920) (keep (mSince_s x12 (upd (mSince x12) (u14).toNatClampNeg (mNow x12))) (fun x17 => chk (inb y1 48) (some (x17, ((mPlace x17) (y1).toNatClampNeg))))))))))))))))))
set_option maxHeartbeats 4000000 in
set_option maxRecDepth 100000 in
theorem met_X8_reads {D : va_G} {cI cV cJ cD : ClassId} (l : Launch) (a : Nat → Nat) (x : MSt) (p1 : Int32) (p2 : Int32) (p3 : Int32) (res : MSt × Int32) (hf : fX8_reads x p1 p2 p3 = some res) : MM l yX8_reads cX8_reads 5 (some .int) { frames := 1, cells := 0, slots := 0, locals := 22 } D (TY cI cV cJ cD) (W_Model cI a x) (W_Model cI a res.1) [.ref (a 0), .int p1, .int p2, .int p3] (some (.int res.2)) := by
  intro sz
  refine Met.ofW (cc := cX8_reads) (maxL := 5) (ret := (some .int)) (by decide +kernel) rfl ?_
  intro p e s m args below meth c s₁ B hml hv
  obtain ⟨rfl, hsz, hP, hK, hD0, hE⟩ := hv
  have hx := B.exec
  have hb := B.bytes
  have hr := B.returns
  have hts := atoms_spec (ws := .code yX8_reads cX8_reads 5 (some .int) :: GW) B.pre
  have hg : ∀ w ∈ GW, w.before (([.ref (a 0), .int p1, .int p2, .int p3] : List Value).toArray) s = true := fun w h => hts w (List.mem_cons_of_mem _ h)
  have hown : s.vm.findClass RX8 = some m.cls := findClass_of_methodNamed B.named
  have hlocks := B.notSynchronized
  subst hsz
  have hD := hD0.self (sz := s.heap.size)
  generalize hAe : va_A (W_Model cI a x) s.heap.size = A at hD hE ⊢
  have hA : ∀ q : Nat, s.heap.size ≤ q → A q := fun q h => by rw [← hAe]; exact Or.inr h
  have hS : va_S A s.heap s.heap [] := va_S.rf
  have hl := lv_entry ([.ref (a 0), .int p1, .int p2, .int p3]) (n := 5) (Nat.le_of_ble_eq_true rfl)
  rw [lg_entry_eq]
  generalize (lg_sl ([.ref (a 0), .int p1, .int p2, .int p3]) ++ List.replicate (5 - (lg_sl ([.ref (a 0), .int p1, .int p2, .int p3])).length) Slot.unset).toArray = ls at hl ⊢
  have hl : lv_has ls 5 [(0, .ref (a 0)), (1, .int p1), (2, .int p2), (3, .int p3)] := hl
  have M0 : ∀ (H : Heap) (locs : List Loc) (ls : Array Slot), fX8_reads x p1 p2 p3 = some res → va_P D vwCl (W_Model cI a x) H → va_D A (W_Model cI a x) → va_S A s.heap H locs → lv_has ls 5 [(0, .ref (a 0)), (1, .int p1), (2, .int p2), (3, .int p3)] → W p l e ({ frames := 1, cells := 0, slots := 0, locals := 22 } : Room) s m ([.ref (a 0), .int p1, .int p2, .int p3] : List Value).toArray below meth c H locs 0 0 (MQ below (QW D (TY cI cV cJ cD) (W_Model cI a res.1) A (some (.int res.2))) (([.ref (a 0), .int p1, .int p2, .int p3] : List Value).toArray) s 0 0 A) (F0 m 0 ls []) := by
    intro H locs ls hf hP hD hS hl
    dsimp only [fX8_reads] at hf
    refine lv_iconst (v := 3) hx hb dX8_reads_0 (by decide) ?_
    refine lv_iload_n hx hb dX8_reads_1 rfl (lv_at hl 1 rfl) ?_
    refine lv_imul hx hb dX8_reads_2 ?_
    refine lv_iload_n hx hb dX8_reads_3 rfl (lv_at hl 2 rfl) ?_
    refine lv_iadd hx hb dX8_reads_4 ?_
    refine lv_topi (fun y1 hy1 => ?_)
    replace hf := keep_e hf y1 hy1
    refine lv_istore (lv' := [(4, .int y1), (0, .ref (a 0)), (1, .int p1), (2, .int p2), (3, .int p3)]) hx hb dX8_reads_5 hl (by decide) rfl (fun ls hl => ?_)
    refine lv_aload_n hx hb dX8_reads_7 rfl (lv_at hl 1 rfl) ?_
    refine va_get (D := D) (ci := 7) (v := .ref (a 9)) (C := RX8) (T := TX8) (N := 24) hx hb hg in_X8 hown hK hP 0 rfl rfl 10 (by decide) (hg _ w835) (fun _ h9 => h9) rfl dX8_reads_8 ?_
    refine lv_iload hx hb dX8_reads_11 (lv_at hl 0 rfl) ?_
    obtain ⟨hi2, hf⟩ := chk_t hf
    refine va_iald hx hb hK hP 9 0 rfl rfl (inb_in hi2) dX8_reads_13 ?_
    refine lv_aload_n hx hb dX8_reads_14 rfl (lv_at hl 1 rfl) ?_
    refine va_get (D := D) (ci := 7) (v := .ref (a 4)) (C := RX8) (T := TX8) (N := 24) hx hb hg in_X8 hown hK hP 0 rfl rfl 5 (by decide) (hg _ w830) (fun _ h9 => h9) rfl dX8_reads_15 ?_
    refine lv_iload_n hx hb dX8_reads_18 rfl (lv_at hl 2 rfl) ?_
    obtain ⟨hi3, hf⟩ := chk_t hf
    refine va_iald hx hb hK hP 4 0 rfl rfl (inb_in hi3) dX8_reads_19 ?_
    refine lv_icmp_ne (tgt := 25) hx hb dX8_reads_20 (by decide) (fun c4 => ?_) (fun c4 => ?_)
    · replace hf := if_f c4 hf
      refine lv_aload_n hx hb dX8_reads_25 rfl (lv_at hl 1 rfl) ?_
      refine va_get (D := D) (ci := 7) (v := .ref (a 9)) (C := RX8) (T := TX8) (N := 24) hx hb hg in_X8 hown hK hP 0 rfl rfl 10 (by decide) (hg _ w835) (fun _ h9 => h9) rfl dX8_reads_26 ?_
      refine lv_iload hx hb dX8_reads_29 (lv_at hl 0 rfl) ?_
      refine lv_dup2_11 hx hb dX8_reads_31 rfl rfl ?_
      obtain ⟨hi5, hf⟩ := chk_t hf
      refine va_iald hx hb hK hP 9 0 rfl rfl (inb_in hi5) dX8_reads_32 ?_
      refine lv_iconst (v := 1) hx hb dX8_reads_33 (by decide) ?_
      refine lv_iadd hx hb dX8_reads_34 ?_
      obtain ⟨hi6, hf⟩ := chk_t hf
      refine va_iast hx hb hK hP hD hS 9 0 rfl rfl (inb_in hi6) dX8_reads_35 (fun H locs hP hD hS => ?_)
      obtain ⟨x7, hx7⟩ : ∃ z, z = (mPlace_s x (upd (mPlace x) (y1).toNatClampNeg (((mPlace x) (y1).toNatClampNeg) + 1))) := ⟨_, rfl⟩
      replace hf := keep_e hf x7 hx7
      have hP : va_P D vwCl (W_Model cI a x7) H := by rw [hx7]; exact hP
      have hD : va_D A (W_Model cI a x7) := by rw [hx7]; exact hD
      refine lv_aload_n hx hb dX8_reads_36 rfl (lv_at hl 1 rfl) ?_
      refine va_get (D := D) (ci := 7) (v := .ref (a 10)) (C := RX8) (T := TX8) (N := 24) hx hb hg in_X8 hown hK hP 0 rfl rfl 11 (by decide) (hg _ w836) (fun _ h9 => h9) rfl dX8_reads_37 ?_
      refine lv_iload_n hx hb dX8_reads_40 rfl (lv_at hl 2 rfl) ?_
      refine lv_iload_n hx hb dX8_reads_41 rfl (lv_at hl 3 rfl) ?_
      refine lv_aload_n hx hb dX8_reads_42 rfl (lv_at hl 1 rfl) ?_
      refine va_get (D := D) (ci := 7) (v := .ref (a 9)) (C := RX8) (T := TX8) (N := 24) hx hb hg in_X8 hown hK hP 0 rfl rfl 10 (by decide) (hg _ w835) (fun _ h9 => h9) rfl dX8_reads_43 ?_
      refine lv_iload hx hb dX8_reads_46 (lv_at hl 0 rfl) ?_
      obtain ⟨hi8, hf⟩ := chk_t hf
      refine va_iald hx hb hK hP 9 0 rfl rfl (inb_in hi8) dX8_reads_48 ?_
      obtain ⟨u9, hc10, hf⟩ := bind_t hf
      refine k_S (As := [.int p1, .int p2, .int ((mPlace x7) (y1).toNatClampNeg)]) (rest := [.ref (a 10)]) (n := 3) ⟨hx, hb, hml, hown, hts⟩ (met_X8_spot l p1 p2 ((mPlace x7) (y1).toNatClampNeg) u9 hc10) w1033 w1034 w9 w1035 ⟨by decide +kernel, by decide +kernel, by decide +kernel⟩ ⟨Nat.le_of_ble_eq_true rfl, Nat.le_of_ble_eq_true rfl⟩ hK hE hP hD hS hA (isC := []) (isR := [0, 1, 2, 3, 4, 5, 6, 7, 8, 9, 10, 11, 12, 13, 14]) (isB := [0, 1, 2, 3, 4, 5, 6, 7, 8, 9, 10, 11, 12, 13, 14]) (ws' := W_Model cI a x7) ⟨([0, 1, 2, 3, 4, 5, 6, 7, 8, 9, 10, 11, 12, 13, 14] : List Nat).filterMap (fun i : Nat => (W_Model cI a x7 : va_W)[i]?), rfl, rfl, rfl, rfl, by decide, rfl, rfl⟩ rfl hl.1 rfl (Nat.le_of_ble_eq_true rfl) dX8_reads_49 ⟨Nat.le_of_ble_eq_true rfl, Nat.le_of_ble_eq_true rfl⟩ (fun H locs hP hD hS => ?_)
      try dsimp only at hf
      refine W.eq (g2 := F0 m 52 ls [.int u9, .ref (a 10)]) rfl ?_
      refine lv_iload_n hx hb dX8_reads_52 rfl (lv_at hl 4 rfl) ?_
      refine lv_iconst (v := 1) hx hb dX8_reads_53 (by decide) ?_
      refine lv_iadd hx hb dX8_reads_54 ?_
      obtain ⟨hi11, hf⟩ := chk_t hf
      refine va_iast hx hb hK hP hD hS 10 0 rfl rfl (inb_in hi11) dX8_reads_55 (fun H locs hP hD hS => ?_)
      obtain ⟨x12, hx12⟩ : ∃ z, z = (mWaits_s x7 (upd (mWaits x7) (u9).toNatClampNeg (p3 + 1))) := ⟨_, rfl⟩
      replace hf := keep_e hf x12 hx12
      have hP : va_P D vwCl (W_Model cI a x12) H := by rw [hx12]; exact hP
      have hD : va_D A (W_Model cI a x12) := by rw [hx12]; exact hD
      refine lv_aload_n hx hb dX8_reads_56 rfl (lv_at hl 1 rfl) ?_
      refine va_get (D := D) (ci := 7) (v := .ref (a 11)) (C := RX8) (T := TX8) (N := 24) hx hb hg in_X8 hown hK hP 0 rfl rfl 12 (by decide) (hg _ w837) (fun _ h9 => h9) rfl dX8_reads_57 ?_
      refine lv_iload_n hx hb dX8_reads_60 rfl (lv_at hl 2 rfl) ?_
      refine lv_iload_n hx hb dX8_reads_61 rfl (lv_at hl 3 rfl) ?_
      refine lv_aload_n hx hb dX8_reads_62 rfl (lv_at hl 1 rfl) ?_
      refine va_get (D := D) (ci := 7) (v := .ref (a 9)) (C := RX8) (T := TX8) (N := 24) hx hb hg in_X8 hown hK hP 0 rfl rfl 10 (by decide) (hg _ w835) (fun _ h9 => h9) rfl dX8_reads_63 ?_
      refine lv_iload hx hb dX8_reads_66 (lv_at hl 0 rfl) ?_
      obtain ⟨hi13, hf⟩ := chk_t hf
      refine va_iald hx hb hK hP 9 0 rfl rfl (inb_in hi13) dX8_reads_68 ?_
      obtain ⟨u14, hc15, hf⟩ := bind_t hf
      refine k_S (As := [.int p1, .int p2, .int ((mPlace x12) (y1).toNatClampNeg)]) (rest := [.ref (a 11)]) (n := 3) ⟨hx, hb, hml, hown, hts⟩ (met_X8_spot l p1 p2 ((mPlace x12) (y1).toNatClampNeg) u14 hc15) w1033 w1034 w9 w1035 ⟨by decide +kernel, by decide +kernel, by decide +kernel⟩ ⟨Nat.le_of_ble_eq_true rfl, Nat.le_of_ble_eq_true rfl⟩ hK hE hP hD hS hA (isC := []) (isR := [0, 1, 2, 3, 4, 5, 6, 7, 8, 9, 10, 11, 12, 13, 14]) (isB := [0, 1, 2, 3, 4, 5, 6, 7, 8, 9, 10, 11, 12, 13, 14]) (ws' := W_Model cI a x12) ⟨([0, 1, 2, 3, 4, 5, 6, 7, 8, 9, 10, 11, 12, 13, 14] : List Nat).filterMap (fun i : Nat => (W_Model cI a x12 : va_W)[i]?), rfl, rfl, rfl, rfl, by decide, rfl, rfl⟩ rfl hl.1 rfl (Nat.le_of_ble_eq_true rfl) dX8_reads_69 ⟨Nat.le_of_ble_eq_true rfl, Nat.le_of_ble_eq_true rfl⟩ (fun H locs hP hD hS => ?_)
      try dsimp only at hf
      refine W.eq (g2 := F0 m 72 ls [.int u14, .ref (a 11)]) rfl ?_
      refine lv_aload_n hx hb dX8_reads_72 rfl (lv_at hl 1 rfl) ?_
      refine va_get (D := D) (ci := 7) (v := .int (mNow x12)) (C := RX8) (T := TX8) (N := 24) hx hb hg in_X8 hown hK hP 0 rfl rfl 1 (by decide) (hg _ w826) (fun _ h9 => h9) rfl dX8_reads_73 ?_
      obtain ⟨hi16, hf⟩ := chk_t hf
      refine va_iast hx hb hK hP hD hS 11 0 rfl rfl (inb_in hi16) dX8_reads_76 (fun H locs hP hD hS => ?_)
      obtain ⟨x17, hx17⟩ : ∃ z, z = (mSince_s x12 (upd (mSince x12) (u14).toNatClampNeg (mNow x12))) := ⟨_, rfl⟩
      replace hf := keep_e hf x17 hx17
      have hP : va_P D vwCl (W_Model cI a x17) H := by rw [hx17]; exact hP
      have hD : va_D A (W_Model cI a x17) := by rw [hx17]; exact hD
      refine lv_aload_n hx hb dX8_reads_77 rfl (lv_at hl 1 rfl) ?_
      refine va_get (D := D) (ci := 7) (v := .ref (a 9)) (C := RX8) (T := TX8) (N := 24) hx hb hg in_X8 hown hK hP 0 rfl rfl 10 (by decide) (hg _ w835) (fun _ h9 => h9) rfl dX8_reads_78 ?_
      refine lv_iload hx hb dX8_reads_81 (lv_at hl 0 rfl) ?_
      obtain ⟨hi18, hf⟩ := chk_t hf
      refine va_iald hx hb hK hP 9 0 rfl rfl (inb_in hi18) dX8_reads_83 ?_
      obtain rfl := Option.some.inj hf
      exact W.iret (v := ((mPlace x17) (y1).toNatClampNeg)) hx hb hr (fun t ht hW => ⟨rfl, by rw [ht]; exact hP, va_K.moved hW.alike hK, hD, hS.F ht⟩) hS.2.2 dX8_reads_84 hlocks
    · replace hf := if_t c4 hf
      refine lv_iconst (v := (-1)) hx hb dX8_reads_23 (by decide) ?_
      obtain rfl := Option.some.inj hf
      exact W.iret (v := (-1)) hx hb hr (fun t ht hW => ⟨rfl, by rw [ht]; exact hP, va_K.moved hW.alike hK, hD, hS.F ht⟩) hS.2.2 dX8_reads_24 hlocks
  exact M0 s.heap [] ls hf hP hD hS hl

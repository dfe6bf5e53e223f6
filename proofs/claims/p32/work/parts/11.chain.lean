/-! Compactforms$Chain.makeEmpty()V -/
def fX0_makeEmpty_38 (rec12 : CSt × Int32 → Option (CSt)) (x : CSt) (v1 : Int32) (s0 : Int32) (s1 : Int32) : Option (CSt) := chk (inb s1 40) (keep (chX_s x (upd (chX x) (s1).toNatClampNeg s0)) (fun x2 => keep (v1 + 1) (fun y3 => rec12 (x2, y3))))
def fX0_makeEmpty_12 (rec12 : CSt × Int32 → Option (CSt)) (s : CSt × Int32) : Option (CSt) := match s with | (x, v1) => (if 40 ≤ v1 then some x else (if 40 ≤ (v1 + 1) then fX0_makeEmpty_38 rec12 x v1 (-1) v1 else fX0_makeEmpty_38 rec12 x v1 (v1 + 1) v1))
def fX0_makeEmpty (x : CSt) : Option (CSt) := keep (chH_s x (-1)) (fun x6 => keep (chS_s x6 0) (fun x7 => iterK FU (fX0_makeEmpty_12 ) (x7, 0)))
set_option maxHeartbeats 4000000 in
set_option maxRecDepth 100000 in
theorem met_X0_makeEmpty {D : va_G} {cI cV cJ cD : ClassId} (l : Launch) (a : Nat → Nat) (x : CSt) (res : CSt) (hf : fX0_makeEmpty x = some res) : MM l yX0_makeEmpty cX0_makeEmpty 2 none { frames := 0, cells := 0, slots := 0, locals := 0 } D (TY cI cV cJ cD) (W_Chain cI a x) (W_Chain cI a res) [.ref (a 0)] none := by
  intro sz
  refine Met.ofW (cc := cX0_makeEmpty) (maxL := 2) (ret := none) (by decide +kernel) rfl ?_
  intro p e s m args below meth c s₁ B hml hv
  obtain ⟨rfl, hsz, hP, hK, hD0, hE⟩ := hv
  have hx := B.exec
  have hb := B.bytes
  have hr := B.returns
  have hts := atoms_spec (ws := .code yX0_makeEmpty cX0_makeEmpty 2 none :: GW) B.pre
  have hg : ∀ w ∈ GW, w.before (([.ref (a 0)] : List Value).toArray) s = true := fun w h => hts w (List.mem_cons_of_mem _ h)
  have hown : s.vm.findClass RX0 = some m.cls := findClass_of_methodNamed B.named
  have hlocks := B.notSynchronized
  subst hsz
  have hD := hD0.self (sz := s.heap.size)
  generalize hAe : va_A (W_Chain cI a x) s.heap.size = A at hD hE ⊢
  have hA : ∀ q : Nat, s.heap.size ≤ q → A q := fun q h => by rw [← hAe]; exact Or.inr h
  have hS : va_S A s.heap s.heap [] := va_S.rf
  have hl := lv_entry ([.ref (a 0)]) (n := 2) (Nat.le_of_ble_eq_true rfl)
  rw [lg_entry_eq]
  generalize (lg_sl ([.ref (a 0)]) ++ List.replicate (2 - (lg_sl ([.ref (a 0)])).length) Slot.unset).toArray = ls at hl ⊢
  have hl : lv_has ls 2 [(0, .ref (a 0))] := hl
  have L38 : ∀ (x : CSt) (v1 : Int32) (s0 : Int32) (s1 : Int32) (rec12 : CSt × Int32 → Option (CSt)) (hrec12 : ∀ (x : CSt), ∀ (v1 : Int32), ∀ (H : Heap) (locs : List Loc) (ls : Array Slot), rec12 (x, v1) = some res → va_P D vwCl (W_Chain cI a x) H → va_D A (W_Chain cI a x) → va_S A s.heap H locs → lv_has ls 2 [(0, .ref (a 0)), (1, .int v1)] → W p l e ({ frames := 0, cells := 0, slots := 0, locals := 0 } : Room) s m ([.ref (a 0)] : List Value).toArray below meth c H locs 0 0 (MQ below (QW D (TY cI cV cJ cD) (W_Chain cI a res) A none) (([.ref (a 0)] : List Value).toArray) s 0 0 A) (F0 m 12 ls [])) (H : Heap) (locs : List Loc) (ls : Array Slot), fX0_makeEmpty_38 rec12 x v1 s0 s1  = some res → va_P D vwCl (W_Chain cI a x) H → va_D A (W_Chain cI a x) → va_S A s.heap H locs → lv_has ls 2 [(0, .ref (a 0)), (1, .int v1)] → W p l e ({ frames := 0, cells := 0, slots := 0, locals := 0 } : Room) s m ([.ref (a 0)] : List Value).toArray below meth c H locs 0 0 (MQ below (QW D (TY cI cV cJ cD) (W_Chain cI a res) A none) (([.ref (a 0)] : List Value).toArray) s 0 0 A) (F0 m 38 ls [.int s0, .int s1, .ref (a 3)]) := by
    intro x v1 s0 s1 rec12 hrec12 H locs ls hf hP hD hS hl
    dsimp only [fX0_makeEmpty_38] at hf
    obtain ⟨hi1, hf⟩ := chk_t hf
    refine va_iast hx hb hK hP hD hS 3 0 rfl rfl (inb_in hi1) dX0_makeEmpty_38 (fun H locs hP hD hS => ?_)
    obtain ⟨x2, hx2⟩ : ∃ z, z = (chX_s x (upd (chX x) (s1).toNatClampNeg s0)) := ⟨_, rfl⟩
    replace hf := keep_e hf x2 hx2
    have hP : va_P D vwCl (W_Chain cI a x2) H := by rw [hx2]; exact hP
    have hD : va_D A (W_Chain cI a x2) := by rw [hx2]; exact hD
    obtain ⟨y3, hy3⟩ : ∃ z : Int32, z = (v1 + 1) := ⟨_, rfl⟩
    replace hf := keep_e hf y3 hy3
    refine lv_iinc (v := y3) (lv' := [(1, .int y3), (0, .ref (a 0))]) hx hb dX0_makeEmpty_39 hl (k := 1) rfl (by rw [hy3]; rfl) (by decide) rfl (fun ls hl => ?_)
    refine lv_goto (tgt := 12) hx hb dX0_makeEmpty_42 (by decide) ?_
    exact hrec12 x2 y3 H locs ls hf hP hD hS (lv_sub hl [1, 0] rfl)
  have S12 : ∀ (rec12 : CSt × Int32 → Option (CSt)) (hrec12 : ∀ (x : CSt), ∀ (v1 : Int32), ∀ (H : Heap) (locs : List Loc) (ls : Array Slot), rec12 (x, v1) = some res → va_P D vwCl (W_Chain cI a x) H → va_D A (W_Chain cI a x) → va_S A s.heap H locs → lv_has ls 2 [(0, .ref (a 0)), (1, .int v1)] → W p l e ({ frames := 0, cells := 0, slots := 0, locals := 0 } : Room) s m ([.ref (a 0)] : List Value).toArray below meth c H locs 0 0 (MQ below (QW D (TY cI cV cJ cD) (W_Chain cI a res) A none) (([.ref (a 0)] : List Value).toArray) s 0 0 A) (F0 m 12 ls [])) (x : CSt) (v1 : Int32) (H : Heap) (locs : List Loc) (ls : Array Slot), fX0_makeEmpty_12  rec12 (x, v1) = some res → va_P D vwCl (W_Chain cI a x) H → va_D A (W_Chain cI a x) → va_S A s.heap H locs → lv_has ls 2 [(0, .ref (a 0)), (1, .int v1)] → W p l e ({ frames := 0, cells := 0, slots := 0, locals := 0 } : Room) s m ([.ref (a 0)] : List Value).toArray below meth c H locs 0 0 (MQ below (QW D (TY cI cV cJ cD) (W_Chain cI a res) A none) (([.ref (a 0)] : List Value).toArray) s 0 0 A) (F0 m 12 ls []) := by
    intro rec12 hrec12 x v1 H locs ls hf hP hD hS hl
    dsimp only [fX0_makeEmpty_12] at hf
    refine lv_iload_n hx hb dX0_makeEmpty_12 rfl (lv_at hl 1 rfl) ?_
    refine lv_bipush (v := 40) hx hb dX0_makeEmpty_13 (by decide) ?_
    refine lv_icmp_ge (tgt := 45) hx hb dX0_makeEmpty_15 (by decide) (fun c4 => ?_) (fun c4 => ?_)
    · replace hf := if_t c4 hf
      obtain rfl := Option.some.inj hf
      exact W.vret hx hb hr (fun t ht hW => ⟨rfl, by rw [ht]; exact hP, va_K.moved hW.alike hK, hD, hS.F ht⟩) hS.2.2 dX0_makeEmpty_45 hlocks
    · replace hf := if_f c4 hf
      refine lv_aload_n hx hb dX0_makeEmpty_18 rfl (lv_at hl 0 rfl) ?_
      refine va_get (D := D) (ci := 0) (v := .ref (a 3)) (C := RX0) (T := TX0) (N := 5) hx hb hg in_X0 hown hK hP 0 rfl rfl 2 (by decide) (hg _ w79) (fun _ h9 => h9) rfl dX0_makeEmpty_19 ?_
      refine lv_iload_n hx hb dX0_makeEmpty_22 rfl (lv_at hl 1 rfl) ?_
      refine lv_iload_n hx hb dX0_makeEmpty_23 rfl (lv_at hl 1 rfl) ?_
      refine lv_iconst (v := 1) hx hb dX0_makeEmpty_24 (by decide) ?_
      refine lv_iadd hx hb dX0_makeEmpty_25 ?_
      refine lv_bipush (v := 40) hx hb dX0_makeEmpty_26 (by decide) ?_
      refine lv_icmp_ge (tgt := 37) hx hb dX0_makeEmpty_28 (by decide) (fun c5 => ?_) (fun c5 => ?_)
      · replace hf := if_t c5 hf
        refine lv_iconst (v := (-1)) hx hb dX0_makeEmpty_37 (by decide) ?_
        exact L38 x v1 (-1) v1 rec12 hrec12 H locs ls hf hP hD hS (lv_sub hl [0, 1] rfl)
      · replace hf := if_f c5 hf
        refine lv_iload_n hx hb dX0_makeEmpty_31 rfl (lv_at hl 1 rfl) ?_
        refine lv_iconst (v := 1) hx hb dX0_makeEmpty_32 (by decide) ?_
        refine lv_iadd hx hb dX0_makeEmpty_33 ?_
        refine lv_goto (tgt := 38) hx hb dX0_makeEmpty_34 (by decide) ?_
        exact L38 x v1 (v1 + 1) v1 rec12 hrec12 H locs ls hf hP hD hS (lv_sub hl [0, 1] rfl)
  have L12 : ∀ (fu : Nat) (x : CSt) (v1 : Int32) (H : Heap) (locs : List Loc) (ls : Array Slot), iterK fu (fX0_makeEmpty_12 ) (x, v1) = some res → va_P D vwCl (W_Chain cI a x) H → va_D A (W_Chain cI a x) → va_S A s.heap H locs → lv_has ls 2 [(0, .ref (a 0)), (1, .int v1)] → W p l e ({ frames := 0, cells := 0, slots := 0, locals := 0 } : Room) s m ([.ref (a 0)] : List Value).toArray below meth c H locs 0 0 (MQ below (QW D (TY cI cV cJ cD) (W_Chain cI a res) A none) (([.ref (a 0)] : List Value).toArray) s 0 0 A) (F0 m 12 ls []) := by
    intro fu
    induction fu with
    | zero =>
      intro x v1 H locs ls hf
      cases hf
    | succ fu ih =>
      intro x v1 H locs ls hf hP hD hS hl
      exact S12 (iterK fu (fX0_makeEmpty_12 )) ih x v1 H locs ls hf hP hD hS hl
  have M0 : ∀ (H : Heap) (locs : List Loc) (ls : Array Slot), fX0_makeEmpty x = some res → va_P D vwCl (W_Chain cI a x) H → va_D A (W_Chain cI a x) → va_S A s.heap H locs → lv_has ls 2 [(0, .ref (a 0))] → W p l e ({ frames := 0, cells := 0, slots := 0, locals := 0 } : Room) s m ([.ref (a 0)] : List Value).toArray below meth c H locs 0 0 (MQ below (QW D (TY cI cV cJ cD) (W_Chain cI a res) A none) (([.ref (a 0)] : List Value).toArray) s 0 0 A) (F0 m 0 ls []) := by
    intro H locs ls hf hP hD hS hl
    dsimp only [fX0_makeEmpty] at hf
    refine lv_aload_n hx hb dX0_makeEmpty_0 rfl (lv_at hl 0 rfl) ?_
    refine lv_iconst (v := (-1)) hx hb dX0_makeEmpty_1 (by decide) ?_
    refine va_put (D := D) (ci := 0) (v := .int (-1)) (ty := .int) (C := RX0) (T := TX0) (N := 5) hx hb hg in_X0 tyX0 tyX0_ok nmX0 hown hK hP hD hS 0 rfl rfl 3 (by decide) (hg _ w80) (fun _ h9 => h9) rfl (by decide +kernel) rfl rfl (Nat.le_of_ble_eq_true rfl) dX0_makeEmpty_2 (fun H locs hP hD hS => ?_)
    obtain ⟨x6, hx6⟩ : ∃ z, z = (chH_s x (-1)) := ⟨_, rfl⟩
    replace hf := keep_e hf x6 hx6
    have hP : va_P D vwCl (W_Chain cI a x6) H := by rw [hx6]; exact hP
    have hD : va_D A (W_Chain cI a x6) := by rw [hx6]; exact hD
    refine lv_aload_n hx hb dX0_makeEmpty_5 rfl (lv_at hl 0 rfl) ?_
    refine lv_iconst (v := 0) hx hb dX0_makeEmpty_6 (by decide) ?_
    refine va_put (D := D) (ci := 0) (v := .int 0) (ty := .int) (C := RX0) (T := TX0) (N := 5) hx hb hg in_X0 tyX0 tyX0_ok nmX0 hown hK hP hD hS 0 rfl rfl 4 (by decide) (hg _ w81) (fun _ h9 => h9) rfl (by decide +kernel) rfl rfl (Nat.le_of_ble_eq_true rfl) dX0_makeEmpty_7 (fun H locs hP hD hS => ?_)
    obtain ⟨x7, hx7⟩ : ∃ z, z = (chS_s x6 0) := ⟨_, rfl⟩
    replace hf := keep_e hf x7 hx7
    have hP : va_P D vwCl (W_Chain cI a x7) H := by rw [hx7]; exact hP
    have hD : va_D A (W_Chain cI a x7) := by rw [hx7]; exact hD
    refine lv_iconst (v := 0) hx hb dX0_makeEmpty_10 (by decide) ?_
    refine lv_istore_n (lv' := [(1, .int 0), (0, .ref (a 0))]) hx hb dX0_makeEmpty_11 rfl hl (by decide) rfl (fun ls hl => ?_)
    exact L12  FU x7 0 H locs ls hf hP hD hS (lv_sub hl [1, 0] rfl)
  exact M0 s.heap [] ls hf hP hD hS hl
/-! Compactforms$Chain.nodeAt(I)I -/
def fX0_nodeAt_15 (x : CSt) (v1 : Int32) (rec15 : Int32 × Int32 → Option (Int32)) (s : Int32 × Int32) : Option (Int32) := match s with | (v2, v3) => (if v1 ≤ v3 then some v2 else (if v2 = (-1) then some v2 else chk (inb v2 40) (keep ((chX x) (v2).toNatClampNeg) (fun y4 => keep (v3 + 1) (fun y5 => rec15 (y4, y5))))))
def fX0_nodeAt (x : CSt) (p1 : Int32) : Option (Int32) := (if 0 ≤ p1 then keep (chH x) (fun y7 => iterK FU (fX0_nodeAt_15 x p1) (y7, 0)) else iterK FU (fX0_nodeAt_15 x p1) ((-1), 0))
set_option maxHeartbeats 4000000 in
set_option maxRecDepth 100000 in
theorem met_X0_nodeAt {D : va_G} {cI cV cJ cD : ClassId} (l : Launch) (a : Nat → Nat) (x : CSt) (p1 : Int32) (res : Int32) (hf : fX0_nodeAt x p1 = some res) : MM l yX0_nodeAt cX0_nodeAt 4 (some .int) { frames := 0, cells := 0, slots := 0, locals := 0 } D (TY cI cV cJ cD) (W_Chain cI a x) (W_Chain cI a x) [.ref (a 0), .int p1] (some (.int res)) := by
  intro sz
  refine Met.ofW (cc := cX0_nodeAt) (maxL := 4) (ret := (some .int)) (by decide +kernel) rfl ?_
  intro p e s m args below meth c s₁ B hml hv
  obtain ⟨rfl, hsz, hP, hK, hD0, hE⟩ := hv
  have hx := B.exec
  have hb := B.bytes
  have hr := B.returns
  have hts := atoms_spec (ws := .code yX0_nodeAt cX0_nodeAt 4 (some .int) :: GW) B.pre
  have hg : ∀ w ∈ GW, w.before (([.ref (a 0), .int p1] : List Value).toArray) s = true := fun w h => hts w (List.mem_cons_of_mem _ h)
  have hown : s.vm.findClass RX0 = some m.cls := findClass_of_methodNamed B.named
  have hlocks := B.notSynchronized
  subst hsz
  have hD := hD0.self (sz := s.heap.size)
  generalize hAe : va_A (W_Chain cI a x) s.heap.size = A at hD hE ⊢
  have hA : ∀ q : Nat, s.heap.size ≤ q → A q := fun q h => by rw [← hAe]; exact Or.inr h
  have hS : va_S A s.heap s.heap [] := va_S.rf
  have hl := lv_entry ([.ref (a 0), .int p1]) (n := 4) (Nat.le_of_ble_eq_true rfl)
  rw [lg_entry_eq]
  generalize (lg_sl ([.ref (a 0), .int p1]) ++ List.replicate (4 - (lg_sl ([.ref (a 0), .int p1])).length) Slot.unset).toArray = ls at hl ⊢
  have hl : lv_has ls 4 [(0, .ref (a 0)), (1, .int p1)] := hl
  have S15 : ∀ (x : CSt) (v1 : Int32) (rec15 : Int32 × Int32 → Option (Int32)) (hrec15 : ∀ (v2 : Int32), ∀ (v3 : Int32), ∀ (H : Heap) (locs : List Loc) (ls : Array Slot), rec15 (v2, v3) = some res → va_P D vwCl (W_Chain cI a x) H → va_D A (W_Chain cI a x) → va_S A s.heap H locs → lv_has ls 4 [(0, .ref (a 0)), (1, .int v1), (2, .int v2), (3, .int v3)] → W p l e ({ frames := 0, cells := 0, slots := 0, locals := 0 } : Room) s m ([.ref (a 0), .int p1] : List Value).toArray below meth c H locs 0 0 (MQ below (QW D (TY cI cV cJ cD) (W_Chain cI a x) A (some (.int res))) (([.ref (a 0), .int p1] : List Value).toArray) s 0 0 A) (F0 m 15 ls [])) (v2 : Int32) (v3 : Int32) (H : Heap) (locs : List Loc) (ls : Array Slot), fX0_nodeAt_15 x v1  rec15 (v2, v3) = some res → va_P D vwCl (W_Chain cI a x) H → va_D A (W_Chain cI a x) → va_S A s.heap H locs → lv_has ls 4 [(0, .ref (a 0)), (1, .int v1), (2, .int v2), (3, .int v3)] → W p l e ({ frames := 0, cells := 0, slots := 0, locals := 0 } : Room) s m ([.ref (a 0), .int p1] : List Value).toArray below meth c H locs 0 0 (MQ below (QW D (TY cI cV cJ cD) (W_Chain cI a x) A (some (.int res))) (([.ref (a 0), .int p1] : List Value).toArray) s 0 0 A) (F0 m 15 ls []) := by
    intro x v1 rec15 hrec15 v2 v3 H locs ls hf hP hD hS hl
    dsimp only [fX0_nodeAt_15] at hf
    refine lv_iload_n hx hb dX0_nodeAt_15 rfl (lv_at hl 3 rfl) ?_
    refine lv_iload_n hx hb dX0_nodeAt_16 rfl (lv_at hl 1 rfl) ?_
    refine lv_icmp_ge (tgt := 38) hx hb dX0_nodeAt_17 (by decide) (fun c1 => ?_) (fun c1 => ?_)
    · replace hf := if_t c1 hf
      refine lv_iload_n hx hb dX0_nodeAt_38 rfl (lv_at hl 2 rfl) ?_
      obtain rfl := Option.some.inj hf
      exact W.iret (v := v2) hx hb hr (fun t ht hW => ⟨rfl, by rw [ht]; exact hP, va_K.moved hW.alike hK, hD, hS.F ht⟩) hS.2.2 dX0_nodeAt_39 hlocks
    · replace hf := if_f c1 hf
      refine lv_iload_n hx hb dX0_nodeAt_20 rfl (lv_at hl 2 rfl) ?_
      refine lv_iconst (v := (-1)) hx hb dX0_nodeAt_21 (by decide) ?_
      refine lv_icmp_eq (tgt := 38) hx hb dX0_nodeAt_22 (by decide) (fun c2 => ?_) (fun c2 => ?_)
      · replace hf := if_t c2 hf
        refine lv_iload_n hx hb dX0_nodeAt_38 rfl (lv_at hl 2 rfl) ?_
        obtain rfl := Option.some.inj hf
        exact W.iret (v := v2) hx hb hr (fun t ht hW => ⟨rfl, by rw [ht]; exact hP, va_K.moved hW.alike hK, hD, hS.F ht⟩) hS.2.2 dX0_nodeAt_39 hlocks
      · replace hf := if_f c2 hf
        refine lv_aload_n hx hb dX0_nodeAt_25 rfl (lv_at hl 0 rfl) ?_
        refine va_get (D := D) (ci := 0) (v := .ref (a 3)) (C := RX0) (T := TX0) (N := 5) hx hb hg in_X0 hown hK hP 0 rfl rfl 2 (by decide) (hg _ w79) (fun _ h9 => h9) rfl dX0_nodeAt_26 ?_
        refine lv_iload_n hx hb dX0_nodeAt_29 rfl (lv_at hl 2 rfl) ?_
        obtain ⟨hi3, hf⟩ := chk_t hf
        refine va_iald hx hb hK hP 3 0 rfl rfl (inb_in hi3) dX0_nodeAt_30 ?_
        refine lv_topi (fun y4 hy4 => ?_)
        replace hf := keep_e hf y4 hy4
        refine lv_istore_n (lv' := [(2, .int y4), (0, .ref (a 0)), (1, .int v1), (3, .int v3)]) hx hb dX0_nodeAt_31 rfl hl (by decide) rfl (fun ls hl => ?_)
        obtain ⟨y5, hy5⟩ : ∃ z : Int32, z = (v3 + 1) := ⟨_, rfl⟩
        replace hf := keep_e hf y5 hy5
        refine lv_iinc (v := y5) (lv' := [(3, .int y5), (2, .int y4), (0, .ref (a 0)), (1, .int v1)]) hx hb dX0_nodeAt_32 hl (k := 3) rfl (by rw [hy5]; rfl) (by decide) rfl (fun ls hl => ?_)
        refine lv_goto (tgt := 15) hx hb dX0_nodeAt_35 (by decide) ?_
        exact hrec15 y4 y5 H locs ls hf hP hD hS (lv_sub hl [2, 3, 1, 0] rfl)
  have L15 : ∀ (x : CSt) (v1 : Int32) (fu : Nat) (v2 : Int32) (v3 : Int32) (H : Heap) (locs : List Loc) (ls : Array Slot), iterK fu (fX0_nodeAt_15 x v1 ) (v2, v3) = some res → va_P D vwCl (W_Chain cI a x) H → va_D A (W_Chain cI a x) → va_S A s.heap H locs → lv_has ls 4 [(0, .ref (a 0)), (1, .int v1), (2, .int v2), (3, .int v3)] → W p l e ({ frames := 0, cells := 0, slots := 0, locals := 0 } : Room) s m ([.ref (a 0), .int p1] : List Value).toArray below meth c H locs 0 0 (MQ below (QW D (TY cI cV cJ cD) (W_Chain cI a x) A (some (.int res))) (([.ref (a 0), .int p1] : List Value).toArray) s 0 0 A) (F0 m 15 ls []) := by
    intro x v1 fu
    induction fu with
    | zero =>
      intro v2 v3 H locs ls hf
      cases hf
    | succ fu ih =>
      intro v2 v3 H locs ls hf hP hD hS hl
      exact S15 x v1 (iterK fu (fX0_nodeAt_15 x v1 )) ih v2 v3 H locs ls hf hP hD hS hl
  have M0 : ∀ (H : Heap) (locs : List Loc) (ls : Array Slot), fX0_nodeAt x p1 = some res → va_P D vwCl (W_Chain cI a x) H → va_D A (W_Chain cI a x) → va_S A s.heap H locs → lv_has ls 4 [(0, .ref (a 0)), (1, .int p1)] → W p l e ({ frames := 0, cells := 0, slots := 0, locals := 0 } : Room) s m ([.ref (a 0), .int p1] : List Value).toArray below meth c H locs 0 0 (MQ below (QW D (TY cI cV cJ cD) (W_Chain cI a x) A (some (.int res))) (([.ref (a 0), .int p1] : List Value).toArray) s 0 0 A) (F0 m 0 ls []) := by
    intro H locs ls hf hP hD hS hl
    dsimp only [fX0_nodeAt] at hf
    refine lv_iload_n hx hb dX0_nodeAt_0 rfl (lv_at hl 1 rfl) ?_
    refine lv_if_ge (tgt := 8) hx hb dX0_nodeAt_1 (by decide) (fun c6 => ?_) (fun c6 => ?_)
    · replace hf := if_t c6 hf
      refine lv_aload_n hx hb dX0_nodeAt_8 rfl (lv_at hl 0 rfl) ?_
      refine va_get (D := D) (ci := 0) (v := .int (chH x)) (C := RX0) (T := TX0) (N := 5) hx hb hg in_X0 hown hK hP 0 rfl rfl 3 (by decide) (hg _ w80) (fun _ h9 => h9) rfl dX0_nodeAt_9 ?_
      refine lv_topi (fun y7 hy7 => ?_)
      replace hf := keep_e hf y7 hy7
      refine lv_istore_n (lv' := [(2, .int y7), (0, .ref (a 0)), (1, .int p1)]) hx hb dX0_nodeAt_12 rfl hl (by decide) rfl (fun ls hl => ?_)
      refine lv_iconst (v := 0) hx hb dX0_nodeAt_13 (by decide) ?_
      refine lv_istore_n (lv' := [(3, .int 0), (2, .int y7), (0, .ref (a 0)), (1, .int p1)]) hx hb dX0_nodeAt_14 rfl hl (by decide) rfl (fun ls hl => ?_)
      exact L15 x p1 FU y7 0 H locs ls hf hP hD hS (lv_sub hl [2, 3, 1, 0] rfl)
    · replace hf := if_f c6 hf
      refine lv_iconst (v := (-1)) hx hb dX0_nodeAt_4 (by decide) ?_
      refine lv_goto (tgt := 12) hx hb dX0_nodeAt_5 (by decide) ?_
      refine lv_istore_n (lv' := [(2, .int (-1)), (0, .ref (a 0)), (1, .int p1)]) hx hb dX0_nodeAt_12 rfl hl (by decide) rfl (fun ls hl => ?_)
      refine lv_iconst (v := 0) hx hb dX0_nodeAt_13 (by decide) ?_
      refine lv_istore_n (lv' := [(3, .int 0), (2, .int (-1)), (0, .ref (a 0)), (1, .int p1)]) hx hb dX0_nodeAt_14 rfl hl (by decide) rfl (fun ls hl => ?_)
      exact L15 x p1 FU (-1) 0 H locs ls hf hP hD hS (lv_sub hl [2, 3, 1, 0] rfl)
  exact M0 s.heap [] ls hf hP hD hS hl
/-! Compactforms$Chain.valueAt(I)I -/
def fX0_valueAt (x : CSt) (p1 : Int32) : Option (Int32) := (fX0_nodeAt x p1).bind (fun u1 => (if u1 = (-1) then some (-1) else chk (inb u1 40) (some ((chE x) (u1).toNatClampNeg))))
set_option maxHeartbeats 4000000 in
set_option maxRecDepth 100000 in
theorem met_X0_valueAt {D : va_G} {cI cV cJ cD : ClassId} (l : Launch) (a : Nat → Nat) (x : CSt) (p1 : Int32) (res : Int32) (hf : fX0_valueAt x p1 = some res) : MM l yX0_valueAt cX0_valueAt 3 (some .int) { frames := 1, cells := 0, slots := 0, locals := 23 } D (TY cI cV cJ cD) (W_Chain cI a x) (W_Chain cI a x) [.ref (a 0), .int p1] (some (.int res)) := by
  intro sz
  refine Met.ofW (cc := cX0_valueAt) (maxL := 3) (ret := (some .int)) (by decide +kernel) rfl ?_
  intro p e s m args below meth c s₁ B hml hv
  obtain ⟨rfl, hsz, hP, hK, hD0, hE⟩ := hv
  have hx := B.exec
  have hb := B.bytes
  have hr := B.returns
  have hts := atoms_spec (ws := .code yX0_valueAt cX0_valueAt 3 (some .int) :: GW) B.pre
  have hg : ∀ w ∈ GW, w.before (([.ref (a 0), .int p1] : List Value).toArray) s = true := fun w h => hts w (List.mem_cons_of_mem _ h)
  have hown : s.vm.findClass RX0 = some m.cls := findClass_of_methodNamed B.named
  have hlocks := B.notSynchronized
  subst hsz
  have hD := hD0.self (sz := s.heap.size)
  generalize hAe : va_A (W_Chain cI a x) s.heap.size = A at hD hE ⊢
  have hA : ∀ q : Nat, s.heap.size ≤ q → A q := fun q h => by rw [← hAe]; exact Or.inr h
  have hS : va_S A s.heap s.heap [] := va_S.rf
  have hl := lv_entry ([.ref (a 0), .int p1]) (n := 3) (Nat.le_of_ble_eq_true rfl)
  rw [lg_entry_eq]
  generalize (lg_sl ([.ref (a 0), .int p1]) ++ List.replicate (3 - (lg_sl ([.ref (a 0), .int p1])).length) Slot.unset).toArray = ls at hl ⊢
  have hl : lv_has ls 3 [(0, .ref (a 0)), (1, .int p1)] := hl
  have M0 : ∀ (H : Heap) (locs : List Loc) (ls : Array Slot), fX0_valueAt x p1 = some res → va_P D vwCl (W_Chain cI a x) H → va_D A (W_Chain cI a x) → va_S A s.heap H locs → lv_has ls 3 [(0, .ref (a 0)), (1, .int p1)] → W p l e ({ frames := 1, cells := 0, slots := 0, locals := 23 } : Room) s m ([.ref (a 0), .int p1] : List Value).toArray below meth c H locs 0 0 (MQ below (QW D (TY cI cV cJ cD) (W_Chain cI a x) A (some (.int res))) (([.ref (a 0), .int p1] : List Value).toArray) s 0 0 A) (F0 m 0 ls []) := by
    intro H locs ls hf hP hD hS hl
    dsimp only [fX0_valueAt] at hf
    refine lv_aload_n hx hb dX0_valueAt_0 rfl (lv_at hl 0 rfl) ?_
    refine lv_iload_n hx hb dX0_valueAt_1 rfl (lv_at hl 1 rfl) ?_
    obtain ⟨u1, hc2, hf⟩ := bind_t hf
    refine k_V (As := [.int p1]) (rest := []) (n := 1) ⟨hx, hb, hml, hown, hts⟩ (met_X0_nodeAt l a x p1 u1 hc2) w467 w469 ws16 w6 w470 ⟨rfl, by decide +kernel, by decide +kernel, by decide +kernel⟩ ⟨Nat.le_of_ble_eq_true rfl, Nat.le_of_ble_eq_true rfl⟩ hK hE hP hD hS hA (isC := [0, 1, 2, 3]) (isR := []) (isB := [0, 1, 2, 3]) (ws' := W_Chain cI a x) ⟨([] : List Nat).filterMap (fun i : Nat => (W_Chain cI a x : va_W)[i]?), rfl, rfl, rfl, rfl, by decide, rfl, rfl⟩ 0 0 rfl rfl rfl rfl hl.1 rfl (Nat.le_of_ble_eq_true rfl) dX0_valueAt_2 ⟨Nat.le_of_ble_eq_true rfl, Nat.le_of_ble_eq_true rfl⟩ (fun H locs hP hD hS => ?_)
    try dsimp only at hf
    refine W.eq (g2 := F0 m 5 ls [.int u1]) rfl ?_
    refine lv_istore_n (lv' := [(2, .int u1), (0, .ref (a 0)), (1, .int p1)]) hx hb dX0_valueAt_5 rfl hl (by decide) rfl (fun ls hl => ?_)
    refine lv_iload_n hx hb dX0_valueAt_6 rfl (lv_at hl 0 rfl) ?_
    refine lv_iconst (v := (-1)) hx hb dX0_valueAt_7 (by decide) ?_
    refine lv_icmp_ne (tgt := 15) hx hb dX0_valueAt_8 (by decide) (fun c3 => ?_) (fun c3 => ?_)
    · replace hf := if_f c3 hf
      refine lv_aload_n hx hb dX0_valueAt_15 rfl (lv_at hl 1 rfl) ?_
      refine va_get (D := D) (ci := 0) (v := .ref (a 1)) (C := RX0) (T := TX0) (N := 5) hx hb hg in_X0 hown hK hP 0 rfl rfl 0 (by decide) (hg _ w77) (fun _ h9 => h9) rfl dX0_valueAt_16 ?_
      refine lv_iload_n hx hb dX0_valueAt_19 rfl (lv_at hl 0 rfl) ?_
      obtain ⟨hi4, hf⟩ := chk_t hf
      refine va_iald hx hb hK hP 1 0 rfl rfl (inb_in hi4) dX0_valueAt_20 ?_
      obtain rfl := Option.some.inj hf
      exact W.iret (v := ((chE x) (u1).toNatClampNeg)) hx hb hr (fun t ht hW => ⟨rfl, by rw [ht]; exact hP, va_K.moved hW.alike hK, hD, hS.F ht⟩) hS.2.2 dX0_valueAt_21 hlocks
    · replace hf := if_t c3 hf
      refine lv_iconst (v := (-1)) hx hb dX0_valueAt_11 (by decide) ?_
      refine lv_goto (tgt := 21) hx hb dX0_valueAt_12 (by decide) ?_
      obtain rfl := Option.some.inj hf
      exact W.iret (v := (-1)) hx hb hr (fun t ht hW => ⟨rfl, by rw [ht]; exact hP, va_K.moved hW.alike hK, hD, hS.F ht⟩) hS.2.2 dX0_valueAt_21 hlocks
  exact M0 s.heap [] ls hf hP hD hS hl
/-! Compactforms$Chain.bitsAt(I)I -/
def fX0_bitsAt (x : CSt) (p1 : Int32) : Option (Int32) := (fX0_nodeAt x p1).bind (fun u1 => (if u1 = (-1) then some 0 else chk (inb u1 40) (some ((chP x) (u1).toNatClampNeg))))
set_option maxHeartbeats 4000000 in
set_option maxRecDepth 100000 in
theorem met_X0_bitsAt {D : va_G} {cI cV cJ cD : ClassId} (l : Launch) (a : Nat → Nat) (x : CSt) (p1 : Int32) (res : Int32) (hf : fX0_bitsAt x p1 = some res) : MM l yX0_bitsAt cX0_bitsAt 3 (some .int) { frames := 1, cells := 0, slots := 0, locals := 23 } D (TY cI cV cJ cD) (W_Chain cI a x) (W_Chain cI a x) [.ref (a 0), .int p1] (some (.int res)) := by
  intro sz
  refine Met.ofW (cc := cX0_bitsAt) (maxL := 3) (ret := (some .int)) (by decide +kernel) rfl ?_
  intro p e s m args below meth c s₁ B hml hv
  obtain ⟨rfl, hsz, hP, hK, hD0, hE⟩ := hv
  have hx := B.exec
  have hb := B.bytes
  have hr := B.returns
  have hts := atoms_spec (ws := .code yX0_bitsAt cX0_bitsAt 3 (some .int) :: GW) B.pre
  have hg : ∀ w ∈ GW, w.before (([.ref (a 0), .int p1] : List Value).toArray) s = true := fun w h => hts w (List.mem_cons_of_mem _ h)
  have hown : s.vm.findClass RX0 = some m.cls := findClass_of_methodNamed B.named
  have hlocks := B.notSynchronized
  subst hsz
  have hD := hD0.self (sz := s.heap.size)
  generalize hAe : va_A (W_Chain cI a x) s.heap.size = A at hD hE ⊢
  have hA : ∀ q : Nat, s.heap.size ≤ q → A q := fun q h => by rw [← hAe]; exact Or.inr h
  have hS : va_S A s.heap s.heap [] := va_S.rf
  have hl := lv_entry ([.ref (a 0), .int p1]) (n := 3) (Nat.le_of_ble_eq_true rfl)
  rw [lg_entry_eq]
  generalize (lg_sl ([.ref (a 0), .int p1]) ++ List.replicate (3 - (lg_sl ([.ref (a 0), .int p1])).length) Slot.unset).toArray = ls at hl ⊢
  have hl : lv_has ls 3 [(0, .ref (a 0)), (1, .int p1)] := hl
  have M0 : ∀ (H : Heap) (locs : List Loc) (ls : Array Slot), fX0_bitsAt x p1 = some res → va_P D vwCl (W_Chain cI a x) H → va_D A (W_Chain cI a x) → va_S A s.heap H locs → lv_has ls 3 [(0, .ref (a 0)), (1, .int p1)] → W p l e ({ frames := 1, cells := 0, slots := 0, locals := 23 } : Room) s m ([.ref (a 0), .int p1] : List Value).toArray below meth c H locs 0 0 (MQ below (QW D (TY cI cV cJ cD) (W_Chain cI a x) A (some (.int res))) (([.ref (a 0), .int p1] : List Value).toArray) s 0 0 A) (F0 m 0 ls []) := by
    intro H locs ls hf hP hD hS hl
    dsimp only [fX0_bitsAt] at hf
    refine lv_aload_n hx hb dX0_bitsAt_0 rfl (lv_at hl 0 rfl) ?_
    refine lv_iload_n hx hb dX0_bitsAt_1 rfl (lv_at hl 1 rfl) ?_
    obtain ⟨u1, hc2, hf⟩ := bind_t hf
    refine k_V (As := [.int p1]) (rest := []) (n := 1) ⟨hx, hb, hml, hown, hts⟩ (met_X0_nodeAt l a x p1 u1 hc2) w467 w469 ws16 w6 w470 ⟨rfl, by decide +kernel, by decide +kernel, by decide +kernel⟩ ⟨Nat.le_of_ble_eq_true rfl, Nat.le_of_ble_eq_true rfl⟩ hK hE hP hD hS hA (isC := [0, 1, 2, 3]) (isR := []) (isB := [0, 1, 2, 3]) (ws' := W_Chain cI a x) ⟨([] : List Nat).filterMap (fun i : Nat => (W_Chain cI a x : va_W)[i]?), rfl, rfl, rfl, rfl, by decide, rfl, rfl⟩ 0 0 rfl rfl rfl rfl hl.1 rfl (Nat.le_of_ble_eq_true rfl) dX0_bitsAt_2 ⟨Nat.le_of_ble_eq_true rfl, Nat.le_of_ble_eq_true rfl⟩ (fun H locs hP hD hS => ?_)
    try dsimp only at hf
    refine W.eq (g2 := F0 m 5 ls [.int u1]) rfl ?_
    refine lv_istore_n (lv' := [(2, .int u1), (0, .ref (a 0)), (1, .int p1)]) hx hb dX0_bitsAt_5 rfl hl (by decide) rfl (fun ls hl => ?_)
    refine lv_iload_n hx hb dX0_bitsAt_6 rfl (lv_at hl 0 rfl) ?_
    refine lv_iconst (v := (-1)) hx hb dX0_bitsAt_7 (by decide) ?_
    refine lv_icmp_ne (tgt := 15) hx hb dX0_bitsAt_8 (by decide) (fun c3 => ?_) (fun c3 => ?_)
    · replace hf := if_f c3 hf
      refine lv_aload_n hx hb dX0_bitsAt_15 rfl (lv_at hl 1 rfl) ?_
      refine va_get (D := D) (ci := 0) (v := .ref (a 2)) (C := RX0) (T := TX0) (N := 5) hx hb hg in_X0 hown hK hP 0 rfl rfl 1 (by decide) (hg _ w78) (fun _ h9 => h9) rfl dX0_bitsAt_16 ?_
      refine lv_iload_n hx hb dX0_bitsAt_19 rfl (lv_at hl 0 rfl) ?_
      obtain ⟨hi4, hf⟩ := chk_t hf
      refine va_iald hx hb hK hP 2 0 rfl rfl (inb_in hi4) dX0_bitsAt_20 ?_
      obtain rfl := Option.some.inj hf
      exact W.iret (v := ((chP x) (u1).toNatClampNeg)) hx hb hr (fun t ht hW => ⟨rfl, by rw [ht]; exact hP, va_K.moved hW.alike hK, hD, hS.F ht⟩) hS.2.2 dX0_bitsAt_21 hlocks
    · replace hf := if_t c3 hf
      refine lv_iconst (v := 0) hx hb dX0_bitsAt_11 (by decide) ?_
      refine lv_goto (tgt := 21) hx hb dX0_bitsAt_12 (by decide) ?_
      obtain rfl := Option.some.inj hf
      exact W.iret (v := 0) hx hb hr (fun t ht hW => ⟨rfl, by rw [ht]; exact hP, va_K.moved hW.alike hK, hD, hS.F ht⟩) hS.2.2 dX0_bitsAt_21 hlocks
  exact M0 s.heap [] ls hf hP hD hS hl
/-! Compactforms$Chain.placeOf(I)I -/
def fX0_placeOf_7 (x : CSt) (v1 : Int32) (rec7 : Int32 × Int32 → Option (Int32)) (s : Int32 × Int32) : Option (Int32) := match s with | (v2, v3) => (if 40 ≤ v3 then some (-1) else (if v2 = (-1) then some (-1) else chk (inb v2 40) ((if ((chE x) (v2).toNatClampNeg) = v1 then some v3 else chk (inb v2 40) (keep ((chX x) (v2).toNatClampNeg) (fun y6 => keep (v3 + 1) (fun y7 => rec7 (y6, y7))))))))
def fX0_placeOf (x : CSt) (p1 : Int32) : Option (Int32) := keep (chH x) (fun y8 => iterK FU (fX0_placeOf_7 x p1) (y8, 0))
set_option maxHeartbeats 4000000 in
set_option maxRecDepth 100000 in
theorem met_X0_placeOf {D : va_G} {cI cV cJ cD : ClassId} (l : Launch) (a : Nat → Nat) (x : CSt) (p1 : Int32) (res : Int32) (hf : fX0_placeOf x p1 = some res) : MM l yX0_placeOf cX0_placeOf 4 (some .int) { frames := 0, cells := 0, slots := 0, locals := 0 } D (TY cI cV cJ cD) (W_Chain cI a x) (W_Chain cI a x) [.ref (a 0), .int p1] (some (.int res)) := by
  intro sz
  refine Met.ofW (cc := cX0_placeOf) (maxL := 4) (ret := (some .int)) (by decide +kernel) rfl ?_
  intro p e s m args below meth c s₁ B hml hv
  obtain ⟨rfl, hsz, hP, hK, hD0, hE⟩ := hv
  have hx := B.exec
  have hb := B.bytes
  have hr := B.returns
  have hts := atoms_spec (ws := .code yX0_placeOf cX0_placeOf 4 (some .int) :: GW) B.pre
  have hg : ∀ w ∈ GW, w.before (([.ref (a 0), .int p1] : List Value).toArray) s = true := fun w h => hts w (List.mem_cons_of_mem _ h)
  have hown : s.vm.findClass RX0 = some m.cls := findClass_of_methodNamed B.named
  have hlocks := B.notSynchronized
  subst hsz
  have hD := hD0.self (sz := s.heap.size)
  generalize hAe : va_A (W_Chain cI a x) s.heap.size = A at hD hE ⊢
  have hA : ∀ q : Nat, s.heap.size ≤ q → A q := fun q h => by rw [← hAe]; exact Or.inr h
  have hS : va_S A s.heap s.heap [] := va_S.rf
  have hl := lv_entry ([.ref (a 0), .int p1]) (n := 4) (Nat.le_of_ble_eq_true rfl)
  rw [lg_entry_eq]
  generalize (lg_sl ([.ref (a 0), .int p1]) ++ List.replicate (4 - (lg_sl ([.ref (a 0), .int p1])).length) Slot.unset).toArray = ls at hl ⊢
  have hl : lv_has ls 4 [(0, .ref (a 0)), (1, .int p1)] := hl
  have S7 : ∀ (x : CSt) (v1 : Int32) (rec7 : Int32 × Int32 → Option (Int32)) (hrec7 : ∀ (v2 : Int32), ∀ (v3 : Int32), ∀ (H : Heap) (locs : List Loc) (ls : Array Slot), rec7 (v2, v3) = some res → va_P D vwCl (W_Chain cI a x) H → va_D A (W_Chain cI a x) → va_S A s.heap H locs → lv_has ls 4 [(0, .ref (a 0)), (1, .int v1), (2, .int v2), (3, .int v3)] → W p l e ({ frames := 0, cells := 0, slots := 0, locals := 0 } : Room) s m ([.ref (a 0), .int p1] : List Value).toArray below meth c H locs 0 0 (MQ below (QW D (TY cI cV cJ cD) (W_Chain cI a x) A (some (.int res))) (([.ref (a 0), .int p1] : List Value).toArray) s 0 0 A) (F0 m 7 ls [])) (v2 : Int32) (v3 : Int32) (H : Heap) (locs : List Loc) (ls : Array Slot), fX0_placeOf_7 x v1  rec7 (v2, v3) = some res → va_P D vwCl (W_Chain cI a x) H → va_D A (W_Chain cI a x) → va_S A s.heap H locs → lv_has ls 4 [(0, .ref (a 0)), (1, .int v1), (2, .int v2), (3, .int v3)] → W p l e ({ frames := 0, cells := 0, slots := 0, locals := 0 } : Room) s m ([.ref (a 0), .int p1] : List Value).toArray below meth c H locs 0 0 (MQ below (QW D (TY cI cV cJ cD) (W_Chain cI a x) A (some (.int res))) (([.ref (a 0), .int p1] : List Value).toArray) s 0 0 A) (F0 m 7 ls []) := by
    intro x v1 rec7 hrec7 v2 v3 H locs ls hf hP hD hS hl
    dsimp only [fX0_placeOf_7] at hf
    refine lv_iload_n hx hb dX0_placeOf_7 rfl (lv_at hl 3 rfl) ?_
    refine lv_bipush (v := 40) hx hb dX0_placeOf_8 (by decide) ?_
    refine lv_icmp_ge (tgt := 43) hx hb dX0_placeOf_10 (by decide) (fun c1 => ?_) (fun c1 => ?_)
    · replace hf := if_t c1 hf
      refine lv_iconst (v := (-1)) hx hb dX0_placeOf_43 (by decide) ?_
      obtain rfl := Option.some.inj hf
      exact W.iret (v := (-1)) hx hb hr (fun t ht hW => ⟨rfl, by rw [ht]; exact hP, va_K.moved hW.alike hK, hD, hS.F ht⟩) hS.2.2 dX0_placeOf_44 hlocks
    · replace hf := if_f c1 hf
      refine lv_iload_n hx hb dX0_placeOf_13 rfl (lv_at hl 2 rfl) ?_
      refine lv_iconst (v := (-1)) hx hb dX0_placeOf_14 (by decide) ?_
      refine lv_icmp_eq (tgt := 43) hx hb dX0_placeOf_15 (by decide) (fun c2 => ?_) (fun c2 => ?_)
      · replace hf := if_t c2 hf
        refine lv_iconst (v := (-1)) hx hb dX0_placeOf_43 (by decide) ?_
        obtain rfl := Option.some.inj hf
        exact W.iret (v := (-1)) hx hb hr (fun t ht hW => ⟨rfl, by rw [ht]; exact hP, va_K.moved hW.alike hK, hD, hS.F ht⟩) hS.2.2 dX0_placeOf_44 hlocks
      · replace hf := if_f c2 hf
        refine lv_aload_n hx hb dX0_placeOf_18 rfl (lv_at hl 0 rfl) ?_
        refine va_get (D := D) (ci := 0) (v := .ref (a 1)) (C := RX0) (T := TX0) (N := 5) hx hb hg in_X0 hown hK hP 0 rfl rfl 0 (by decide) (hg _ w77) (fun _ h9 => h9) rfl dX0_placeOf_19 ?_
        refine lv_iload_n hx hb dX0_placeOf_22 rfl (lv_at hl 2 rfl) ?_
        obtain ⟨hi3, hf⟩ := chk_t hf
        refine va_iald hx hb hK hP 1 0 rfl rfl (inb_in hi3) dX0_placeOf_23 ?_
        refine lv_iload_n hx hb dX0_placeOf_24 rfl (lv_at hl 1 rfl) ?_
        refine lv_icmp_ne (tgt := 30) hx hb dX0_placeOf_25 (by decide) (fun c4 => ?_) (fun c4 => ?_)
        · replace hf := if_f c4 hf
          refine lv_aload_n hx hb dX0_placeOf_30 rfl (lv_at hl 0 rfl) ?_
          refine va_get (D := D) (ci := 0) (v := .ref (a 3)) (C := RX0) (T := TX0) (N := 5) hx hb hg in_X0 hown hK hP 0 rfl rfl 2 (by decide) (hg _ w79) (fun _ h9 => h9) rfl dX0_placeOf_31 ?_
          refine lv_iload_n hx hb dX0_placeOf_34 rfl (lv_at hl 2 rfl) ?_
          obtain ⟨hi5, hf⟩ := chk_t hf
          refine va_iald hx hb hK hP 3 0 rfl rfl (inb_in hi5) dX0_placeOf_35 ?_
          refine lv_topi (fun y6 hy6 => ?_)
          replace hf := keep_e hf y6 hy6
          refine lv_istore_n (lv' := [(2, .int y6), (0, .ref (a 0)), (1, .int v1), (3, .int v3)]) hx hb dX0_placeOf_36 rfl hl (by decide) rfl (fun ls hl => ?_)
          obtain ⟨y7, hy7⟩ : ∃ z : Int32, z = (v3 + 1) := ⟨_, rfl⟩
          replace hf := keep_e hf y7 hy7
          refine lv_iinc (v := y7) (lv' := [(3, .int y7), (2, .int y6), (0, .ref (a 0)), (1, .int v1)]) hx hb dX0_placeOf_37 hl (k := 3) rfl (by rw [hy7]; rfl) (by decide) rfl (fun ls hl => ?_)
          refine lv_goto (tgt := 7) hx hb dX0_placeOf_40 (by decide) ?_
          exact hrec7 y6 y7 H locs ls hf hP hD hS (lv_sub hl [2, 3, 1, 0] rfl)
        · replace hf := if_t c4 hf
          refine lv_iload_n hx hb dX0_placeOf_28 rfl (lv_at hl 3 rfl) ?_
          obtain rfl := Option.some.inj hf
          exact W.iret (v := v3) hx hb hr (fun t ht hW => ⟨rfl, by rw [ht]; exact hP, va_K.moved hW.alike hK, hD, hS.F ht⟩) hS.2.2 dX0_placeOf_29 hlocks
  have L7 : ∀ (x : CSt) (v1 : Int32) (fu : Nat) (v2 : Int32) (v3 : Int32) (H : Heap) (locs : List Loc) (ls : Array Slot), iterK fu (fX0_placeOf_7 x v1 ) (v2, v3) = some res → va_P D vwCl (W_Chain cI a x) H → va_D A (W_Chain cI a x) → va_S A s.heap H locs → lv_has ls 4 [(0, .ref (a 0)), (1, .int v1), (2, .int v2), (3, .int v3)] → W p l e ({ frames := 0, cells := 0, slots := 0, locals := 0 } : Room) s m ([.ref (a 0), .int p1] : List Value).toArray below meth c H locs 0 0 (MQ below (QW D (TY cI cV cJ cD) (W_Chain cI a x) A (some (.int res))) (([.ref (a 0), .int p1] : List Value).toArray) s 0 0 A) (F0 m 7 ls []) := by
    intro x v1 fu
    induction fu with
    | zero =>
      intro v2 v3 H locs ls hf
      cases hf
    | succ fu ih =>
      intro v2 v3 H locs ls hf hP hD hS hl
      exact S7 x v1 (iterK fu (fX0_placeOf_7 x v1 )) ih v2 v3 H locs ls hf hP hD hS hl
  have M0 : ∀ (H : Heap) (locs : List Loc) (ls : Array Slot), fX0_placeOf x p1 = some res → va_P D vwCl (W_Chain cI a x) H → va_D A (W_Chain cI a x) → va_S A s.heap H locs → lv_has ls 4 [(0, .ref (a 0)), (1, .int p1)] → W p l e ({ frames := 0, cells := 0, slots := 0, locals := 0 } : Room) s m ([.ref (a 0), .int p1] : List Value).toArray below meth c H locs 0 0 (MQ below (QW D (TY cI cV cJ cD) (W_Chain cI a x) A (some (.int res))) (([.ref (a 0), .int p1] : List Value).toArray) s 0 0 A) (F0 m 0 ls []) := by
    intro H locs ls hf hP hD hS hl
    dsimp only [fX0_placeOf] at hf
    refine lv_aload_n hx hb dX0_placeOf_0 rfl (lv_at hl 0 rfl) ?_
    refine va_get (D := D) (ci := 0) (v := .int (chH x)) (C := RX0) (T := TX0) (N := 5) hx hb hg in_X0 hown hK hP 0 rfl rfl 3 (by decide) (hg _ w80) (fun _ h9 => h9) rfl dX0_placeOf_1 ?_
    refine lv_topi (fun y8 hy8 => ?_)
    replace hf := keep_e hf y8 hy8
    refine lv_istore_n (lv' := [(2, .int y8), (0, .ref (a 0)), (1, .int p1)]) hx hb dX0_placeOf_4 rfl hl (by decide) rfl (fun ls hl => ?_)
    refine lv_iconst (v := 0) hx hb dX0_placeOf_5 (by decide) ?_
    refine lv_istore_n (lv' := [(3, .int 0), (2, .int y8), (0, .ref (a 0)), (1, .int p1)]) hx hb dX0_placeOf_6 rfl hl (by decide) rfl (fun ls hl => ?_)
    exact L7 x p1 FU y8 0 H locs ls hf hP hD hS (lv_sub hl [2, 3, 1, 0] rfl)
  exact M0 s.heap [] ls hf hP hD hS hl
/-! Compactforms$Chain.putIn(III)V -/
def fX0_putIn_32 (x : CSt) (v2 : Int32) (v3 : Int32) (v4 : Int32) (v5 : Int32) : Option (CSt) := chk (inb v5 40) (keep (chS_s x ((chX x) (v5).toNatClampNeg)) (fun x2 => chk (inb v5 40) (keep (chE_s x2 (upd (chE x2) (v5).toNatClampNeg v2)) (fun x4 => chk (inb v5 40) (keep (chP_s x4 (upd (chP x4) (v5).toNatClampNeg v3)) (fun x6 => (if v4 = (-1) then chk (inb v5 40) (keep (chX_s x6 (upd (chX x6) (v5).toNatClampNeg (chH x6))) (fun x14 => keep (chH_s x14 v5) (fun x15 => some x15))) else chk (inb v4 40) (chk (inb v5 40) (keep (chX_s x6 (upd (chX x6) (v5).toNatClampNeg ((chX x6) (v4).toNatClampNeg))) (fun x10 => chk (inb v4 40) (keep (chX_s x10 (upd (chX x10) (v4).toNatClampNeg v5)) (fun x12 => some x12))))))))))))
def fX0_putIn (x : CSt) (p1 : Int32) (p2 : Int32) (p3 : Int32) : Option (CSt) := (fX0_nodeAt x (p1 - 1)).bind (fun u16 => keep (chS x) (fun y18 => (if y18 = (-1) then some x else (if p1 = 0 then fX0_putIn_32 x p2 p3 u16 y18 else (if u16 = (-1) then some x else fX0_putIn_32 x p2 p3 u16 y18)))))
set_option maxHeartbeats 4000000 in
set_option maxRecDepth 100000 in
theorem met_X0_putIn {D : va_G} {cI cV cJ cD : ClassId} (l : Launch) (a : Nat → Nat) (x : CSt) (p1 : Int32) (p2 : Int32) (p3 : Int32) (res : CSt) (hf : fX0_putIn x p1 p2 p3 = some res) : MM l yX0_putIn cX0_putIn 6 none { frames := 1, cells := 0, slots := 0, locals := 23 } D (TY cI cV cJ cD) (W_Chain cI a x) (W_Chain cI a res) [.ref (a 0), .int p1, .int p2, .int p3] none := by
  intro sz
  refine Met.ofW (cc := cX0_putIn) (maxL := 6) (ret := none) (by decide +kernel) rfl ?_
  intro p e s m args below meth c s₁ B hml hv
  obtain ⟨rfl, hsz, hP, hK, hD0, hE⟩ := hv
  have hx := B.exec
  have hb := B.bytes
  have hr := B.returns
  have hts := atoms_spec (ws := .code yX0_putIn cX0_putIn 6 none :: GW) B.pre
  have hg : ∀ w ∈ GW, w.before (([.ref (a 0), .int p1, .int p2, .int p3] : List Value).toArray) s = true := fun w h => hts w (List.mem_cons_of_mem _ h)
  have hown : s.vm.findClass RX0 = some m.cls := findClass_of_methodNamed B.named
  have hlocks := B.notSynchronized
  subst hsz
  have hD := hD0.self (sz := s.heap.size)
  generalize hAe : va_A (W_Chain cI a x) s.heap.size = A at hD hE ⊢
  have hA : ∀ q : Nat, s.heap.size ≤ q → A q := fun q h => by rw [← hAe]; exact Or.inr h
  have hS : va_S A s.heap s.heap [] := va_S.rf
  have hl := lv_entry ([.ref (a 0), .int p1, .int p2, .int p3]) (n := 6) (Nat.le_of_ble_eq_true rfl)
  rw [lg_entry_eq]
  generalize (lg_sl ([.ref (a 0), .int p1, .int p2, .int p3]) ++ List.replicate (6 - (lg_sl ([.ref (a 0), .int p1, .int p2, .int p3])).length) Slot.unset).toArray = ls at hl ⊢
  have hl : lv_has ls 6 [(0, .ref (a 0)), (1, .int p1), (2, .int p2), (3, .int p3)] := hl
  have L32 : ∀ (x : CSt) (v2 : Int32) (v3 : Int32) (v4 : Int32) (v5 : Int32) (H : Heap) (locs : List Loc) (ls : Array Slot), fX0_putIn_32 x v2 v3 v4 v5  = some res → va_P D vwCl (W_Chain cI a x) H → va_D A (W_Chain cI a x) → va_S A s.heap H locs → lv_has ls 6 [(0, .ref (a 0)), (2, .int v2), (3, .int v3), (4, .int v4), (5, .int v5)] → W p l e ({ frames := 1, cells := 0, slots := 0, locals := 23 } : Room) s m ([.ref (a 0), .int p1, .int p2, .int p3] : List Value).toArray below meth c H locs 0 0 (MQ below (QW D (TY cI cV cJ cD) (W_Chain cI a res) A none) (([.ref (a 0), .int p1, .int p2, .int p3] : List Value).toArray) s 0 0 A) (F0 m 32 ls []) := by
    intro x v2 v3 v4 v5 H locs ls hf hP hD hS hl
    dsimp only [fX0_putIn_32] at hf
    refine lv_aload_n hx hb dX0_putIn_32 rfl (lv_at hl 0 rfl) ?_
    refine lv_aload_n hx hb dX0_putIn_33 rfl (lv_at hl 0 rfl) ?_
    refine va_get (D := D) (ci := 0) (v := .ref (a 3)) (C := RX0) (T := TX0) (N := 5) hx hb hg in_X0 hown hK hP 0 rfl rfl 2 (by decide) (hg _ w79) (fun _ h9 => h9) rfl dX0_putIn_34 ?_
    refine lv_iload hx hb dX0_putIn_37 (lv_at hl 4 rfl) ?_
    obtain ⟨hi1, hf⟩ := chk_t hf
    refine va_iald hx hb hK hP 3 0 rfl rfl (inb_in hi1) dX0_putIn_39 ?_
    refine va_put (D := D) (ci := 0) (v := .int ((chX x) (v5).toNatClampNeg)) (ty := .int) (C := RX0) (T := TX0) (N := 5) hx hb hg in_X0 tyX0 tyX0_ok nmX0 hown hK hP hD hS 0 rfl rfl 4 (by decide) (hg _ w81) (fun _ h9 => h9) rfl (by decide +kernel) rfl rfl (Nat.le_of_ble_eq_true rfl) dX0_putIn_40 (fun H locs hP hD hS => ?_)
    obtain ⟨x2, hx2⟩ : ∃ z, z = (chS_s x ((chX x) (v5).toNatClampNeg)) := ⟨_, rfl⟩
    replace hf := keep_e hf x2 hx2
    have hP : va_P D vwCl (W_Chain cI a x2) H := by rw [hx2]; exact hP
    have hD : va_D A (W_Chain cI a x2) := by rw [hx2]; exact hD
    refine lv_aload_n hx hb dX0_putIn_43 rfl (lv_at hl 0 rfl) ?_
    refine va_get (D := D) (ci := 0) (v := .ref (a 1)) (C := RX0) (T := TX0) (N := 5) hx hb hg in_X0 hown hK hP 0 rfl rfl 0 (by decide) (hg _ w77) (fun _ h9 => h9) rfl dX0_putIn_44 ?_
    refine lv_iload hx hb dX0_putIn_47 (lv_at hl 4 rfl) ?_
    refine lv_iload_n hx hb dX0_putIn_49 rfl (lv_at hl 1 rfl) ?_
    obtain ⟨hi3, hf⟩ := chk_t hf
    refine va_iast hx hb hK hP hD hS 1 0 rfl rfl (inb_in hi3) dX0_putIn_50 (fun H locs hP hD hS => ?_)
    obtain ⟨x4, hx4⟩ : ∃ z, z = (chE_s x2 (upd (chE x2) (v5).toNatClampNeg v2)) := ⟨_, rfl⟩
    replace hf := keep_e hf x4 hx4
    have hP : va_P D vwCl (W_Chain cI a x4) H := by rw [hx4]; exact hP
    have hD : va_D A (W_Chain cI a x4) := by rw [hx4]; exact hD
    refine lv_aload_n hx hb dX0_putIn_51 rfl (lv_at hl 0 rfl) ?_
    refine va_get (D := D) (ci := 0) (v := .ref (a 2)) (C := RX0) (T := TX0) (N := 5) hx hb hg in_X0 hown hK hP 0 rfl rfl 1 (by decide) (hg _ w78) (fun _ h9 => h9) rfl dX0_putIn_52 ?_
    refine lv_iload hx hb dX0_putIn_55 (lv_at hl 4 rfl) ?_
    refine lv_iload_n hx hb dX0_putIn_57 rfl (lv_at hl 2 rfl) ?_
    obtain ⟨hi5, hf⟩ := chk_t hf
    refine va_iast hx hb hK hP hD hS 2 0 rfl rfl (inb_in hi5) dX0_putIn_58 (fun H locs hP hD hS => ?_)
    obtain ⟨x6, hx6⟩ : ∃ z, z = (chP_s x4 (upd (chP x4) (v5).toNatClampNeg v3)) := ⟨_, rfl⟩
    replace hf := keep_e hf x6 hx6
    have hP : va_P D vwCl (W_Chain cI a x6) H := by rw [hx6]; exact hP
    have hD : va_D A (W_Chain cI a x6) := by rw [hx6]; exact hD
    refine lv_iload hx hb dX0_putIn_59 (lv_at hl 3 rfl) ?_
    refine lv_iconst (v := (-1)) hx hb dX0_putIn_61 (by decide) ?_
    refine lv_icmp_ne (tgt := 85) hx hb dX0_putIn_62 (by decide) (fun c7 => ?_) (fun c7 => ?_)
    · replace hf := if_f c7 hf
      refine lv_aload_n hx hb dX0_putIn_85 rfl (lv_at hl 0 rfl) ?_
      refine va_get (D := D) (ci := 0) (v := .ref (a 3)) (C := RX0) (T := TX0) (N := 5) hx hb hg in_X0 hown hK hP 0 rfl rfl 2 (by decide) (hg _ w79) (fun _ h9 => h9) rfl dX0_putIn_86 ?_
      refine lv_iload hx hb dX0_putIn_89 (lv_at hl 4 rfl) ?_
      refine lv_aload_n hx hb dX0_putIn_91 rfl (lv_at hl 0 rfl) ?_
      refine va_get (D := D) (ci := 0) (v := .ref (a 3)) (C := RX0) (T := TX0) (N := 5) hx hb hg in_X0 hown hK hP 0 rfl rfl 2 (by decide) (hg _ w79) (fun _ h9 => h9) rfl dX0_putIn_92 ?_
      refine lv_iload hx hb dX0_putIn_95 (lv_at hl 3 rfl) ?_
      obtain ⟨hi8, hf⟩ := chk_t hf
      refine va_iald hx hb hK hP 3 0 rfl rfl (inb_in hi8) dX0_putIn_97 ?_
      obtain ⟨hi9, hf⟩ := chk_t hf
      refine va_iast hx hb hK hP hD hS 3 0 rfl rfl (inb_in hi9) dX0_putIn_98 (fun H locs hP hD hS => ?_)
      obtain ⟨x10, hx10⟩ : ∃ z, z = (chX_s x6 (upd (chX x6) (v5).toNatClampNeg ((chX x6) (v4).toNatClampNeg))) := ⟨_, rfl⟩
      replace hf := keep_e hf x10 hx10
      have hP : va_P D vwCl (W_Chain cI a x10) H := by rw [hx10]; exact hP
      have hD : va_D A (W_Chain cI a x10) := by rw [hx10]; exact hD
      refine lv_aload_n hx hb dX0_putIn_99 rfl (lv_at hl 0 rfl) ?_
      refine va_get (D := D) (ci := 0) (v := .ref (a 3)) (C := RX0) (T := TX0) (N := 5) hx hb hg in_X0 hown hK hP 0 rfl rfl 2 (by decide) (hg _ w79) (fun _ h9 => h9) rfl dX0_putIn_100 ?_
      refine lv_iload hx hb dX0_putIn_103 (lv_at hl 3 rfl) ?_
      refine lv_iload hx hb dX0_putIn_105 (lv_at hl 4 rfl) ?_
      obtain ⟨hi11, hf⟩ := chk_t hf
      refine va_iast hx hb hK hP hD hS 3 0 rfl rfl (inb_in hi11) dX0_putIn_107 (fun H locs hP hD hS => ?_)
      obtain ⟨x12, hx12⟩ : ∃ z, z = (chX_s x10 (upd (chX x10) (v4).toNatClampNeg v5)) := ⟨_, rfl⟩
      replace hf := keep_e hf x12 hx12
      have hP : va_P D vwCl (W_Chain cI a x12) H := by rw [hx12]; exact hP
      have hD : va_D A (W_Chain cI a x12) := by rw [hx12]; exact hD
      obtain rfl := Option.some.inj hf
      exact W.vret hx hb hr (fun t ht hW => ⟨rfl, by rw [ht]; exact hP, va_K.moved hW.alike hK, hD, hS.F ht⟩) hS.2.2 dX0_putIn_108 hlocks
    · replace hf := if_t c7 hf
      refine lv_aload_n hx hb dX0_putIn_65 rfl (lv_at hl 0 rfl) ?_
      refine va_get (D := D) (ci := 0) (v := .ref (a 3)) (C := RX0) (T := TX0) (N := 5) hx hb hg in_X0 hown hK hP 0 rfl rfl 2 (by decide) (hg _ w79) (fun _ h9 => h9) rfl dX0_putIn_66 ?_
      refine lv_iload hx hb dX0_putIn_69 (lv_at hl 4 rfl) ?_
      refine lv_aload_n hx hb dX0_putIn_71 rfl (lv_at hl 0 rfl) ?_
      refine va_get (D := D) (ci := 0) (v := .int (chH x6)) (C := RX0) (T := TX0) (N := 5) hx hb hg in_X0 hown hK hP 0 rfl rfl 3 (by decide) (hg _ w80) (fun _ h9 => h9) rfl dX0_putIn_72 ?_
      obtain ⟨hi13, hf⟩ := chk_t hf
      refine va_iast hx hb hK hP hD hS 3 0 rfl rfl (inb_in hi13) dX0_putIn_75 (fun H locs hP hD hS => ?_)
      obtain ⟨x14, hx14⟩ : ∃ z, z = (chX_s x6 (upd (chX x6) (v5).toNatClampNeg (chH x6))) := ⟨_, rfl⟩
      replace hf := keep_e hf x14 hx14
      have hP : va_P D vwCl (W_Chain cI a x14) H := by rw [hx14]; exact hP
      have hD : va_D A (W_Chain cI a x14) := by rw [hx14]; exact hD
      refine lv_aload_n hx hb dX0_putIn_76 rfl (lv_at hl 0 rfl) ?_
      refine lv_iload hx hb dX0_putIn_77 (lv_at hl 4 rfl) ?_
      refine va_put (D := D) (ci := 0) (v := .int v5) (ty := .int) (C := RX0) (T := TX0) (N := 5) hx hb hg in_X0 tyX0 tyX0_ok nmX0 hown hK hP hD hS 0 rfl rfl 3 (by decide) (hg _ w80) (fun _ h9 => h9) rfl (by decide +kernel) rfl rfl (Nat.le_of_ble_eq_true rfl) dX0_putIn_79 (fun H locs hP hD hS => ?_)
      obtain ⟨x15, hx15⟩ : ∃ z, z = (chH_s x14 v5) := ⟨_, rfl⟩
      replace hf := keep_e hf x15 hx15
      have hP : va_P D vwCl (W_Chain cI a x15) H := by rw [hx15]; exact hP
      have hD : va_D A (W_Chain cI a x15) := by rw [hx15]; exact hD
      refine lv_goto (tgt := 108) hx hb dX0_putIn_82 (by decide) ?_
      obtain rfl := Option.some.inj hf
      exact W.vret hx hb hr (fun t ht hW => ⟨rfl, by rw [ht]; exact hP, va_K.moved hW.alike hK, hD, hS.F ht⟩) hS.2.2 dX0_putIn_108 hlocks
  have M0 : ∀ (H : Heap) (locs : List Loc) (ls : Array Slot), fX0_putIn x p1 p2 p3 = some res → va_P D vwCl (W_Chain cI a x) H → va_D A (W_Chain cI a x) → va_S A s.heap H locs → lv_has ls 6 [(0, .ref (a 0)), (1, .int p1), (2, .int p2), (3, .int p3)] → W p l e ({ frames := 1, cells := 0, slots := 0, locals := 23 } : Room) s m ([.ref (a 0), .int p1, .int p2, .int p3] : List Value).toArray below meth c H locs 0 0 (MQ below (QW D (TY cI cV cJ cD) (W_Chain cI a res) A none) (([.ref (a 0), .int p1, .int p2, .int p3] : List Value).toArray) s 0 0 A) (F0 m 0 ls []) := by
    intro H locs ls hf hP hD hS hl
    dsimp only [fX0_putIn] at hf
    refine lv_aload_n hx hb dX0_putIn_0 rfl (lv_at hl 0 rfl) ?_
    refine lv_iload_n hx hb dX0_putIn_1 rfl (lv_at hl 1 rfl) ?_
    refine lv_iconst (v := 1) hx hb dX0_putIn_2 (by decide) ?_
    refine lv_isub hx hb dX0_putIn_3 ?_
    obtain ⟨u16, hc17, hf⟩ := bind_t hf
    refine k_V (As := [.int (p1 - 1)]) (rest := []) (n := 1) ⟨hx, hb, hml, hown, hts⟩ (met_X0_nodeAt l a x (p1 - 1) u16 hc17) w467 w469 ws16 w6 w470 ⟨rfl, by decide +kernel, by decide +kernel, by decide +kernel⟩ ⟨Nat.le_of_ble_eq_true rfl, Nat.le_of_ble_eq_true rfl⟩ hK hE hP hD hS hA (isC := [0, 1, 2, 3]) (isR := []) (isB := [0, 1, 2, 3]) (ws' := W_Chain cI a x) ⟨([] : List Nat).filterMap (fun i : Nat => (W_Chain cI a x : va_W)[i]?), rfl, rfl, rfl, rfl, by decide, rfl, rfl⟩ 0 0 rfl rfl rfl rfl hl.1 rfl (Nat.le_of_ble_eq_true rfl) dX0_putIn_4 ⟨Nat.le_of_ble_eq_true rfl, Nat.le_of_ble_eq_true rfl⟩ (fun H locs hP hD hS => ?_)
    try dsimp only at hf
    refine W.eq (g2 := F0 m 7 ls [.int u16]) rfl ?_
    refine lv_istore (lv' := [(4, .int u16), (0, .ref (a 0)), (1, .int p1), (2, .int p2), (3, .int p3)]) hx hb dX0_putIn_7 hl (by decide) rfl (fun ls hl => ?_)
    refine lv_aload_n hx hb dX0_putIn_9 rfl (lv_at hl 1 rfl) ?_
    refine va_get (D := D) (ci := 0) (v := .int (chS x)) (C := RX0) (T := TX0) (N := 5) hx hb hg in_X0 hown hK hP 0 rfl rfl 4 (by decide) (hg _ w81) (fun _ h9 => h9) rfl dX0_putIn_10 ?_
    refine lv_topi (fun y18 hy18 => ?_)
    replace hf := keep_e hf y18 hy18
    refine lv_istore (lv' := [(5, .int y18), (4, .int u16), (0, .ref (a 0)), (1, .int p1), (2, .int p2), (3, .int p3)]) hx hb dX0_putIn_13 hl (by decide) rfl (fun ls hl => ?_)
    refine lv_iload hx hb dX0_putIn_15 (lv_at hl 0 rfl) ?_
    refine lv_iconst (v := (-1)) hx hb dX0_putIn_17 (by decide) ?_
    refine lv_icmp_eq (tgt := 31) hx hb dX0_putIn_18 (by decide) (fun c19 => ?_) (fun c19 => ?_)
    · replace hf := if_t c19 hf
      obtain rfl := Option.some.inj hf
      exact W.vret hx hb hr (fun t ht hW => ⟨rfl, by rw [ht]; exact hP, va_K.moved hW.alike hK, hD, hS.F ht⟩) hS.2.2 dX0_putIn_31 hlocks
    · replace hf := if_f c19 hf
      refine lv_iload_n hx hb dX0_putIn_21 rfl (lv_at hl 3 rfl) ?_
      refine lv_if_eq (tgt := 32) hx hb dX0_putIn_22 (by decide) (fun c20 => ?_) (fun c20 => ?_)
      · replace hf := if_t c20 hf
        exact L32 x p2 p3 u16 y18 H locs ls hf hP hD hS (lv_sub hl [2, 4, 5, 1, 0] rfl)
      · replace hf := if_f c20 hf
        refine lv_iload hx hb dX0_putIn_25 (lv_at hl 1 rfl) ?_
        refine lv_iconst (v := (-1)) hx hb dX0_putIn_27 (by decide) ?_
        refine lv_icmp_ne (tgt := 32) hx hb dX0_putIn_28 (by decide) (fun c21 => ?_) (fun c21 => ?_)
        · replace hf := if_f c21 hf
          exact L32 x p2 p3 u16 y18 H locs ls hf hP hD hS (lv_sub hl [2, 4, 5, 1, 0] rfl)
        · replace hf := if_t c21 hf
          obtain rfl := Option.some.inj hf
          exact W.vret hx hb hr (fun t ht hW => ⟨rfl, by rw [ht]; exact hP, va_K.moved hW.alike hK, hD, hS.F ht⟩) hS.2.2 dX0_putIn_31 hlocks
  exact M0 s.heap [] ls hf hP hD hS hl
/-! Compactforms$Chain.dropOut(II)V -/
def fX0_dropOut_53 (x : CSt) (v3 : Int32) : Option (CSt) := chk (inb v3 40) (keep (chX_s x (upd (chX x) (v3).toNatClampNeg (chS x))) (fun x2 => keep (chS_s x2 v3) (fun x3 => some x3)))
def fX0_dropOut (x : CSt) (p1 : Int32) (p2 : Int32) : Option (CSt) := (fX0_nodeAt x p1).bind (fun u4 => (if u4 = (-1) then some x else (fX0_nodeAt x (p1 - 1)).bind (fun u7 => (if u7 = (-1) then chk (inb u4 40) (keep (chH_s x ((chX x) (u4).toNatClampNeg)) (fun x14 => fX0_dropOut_53 x14 u4)) else chk (inb u4 40) (chk (inb u7 40) (keep (chX_s x (upd (chX x) (u7).toNatClampNeg ((chX x) (u4).toNatClampNeg))) (fun x12 => fX0_dropOut_53 x12 u4)))))))
set_option maxHeartbeats 4000000 in
set_option maxRecDepth 100000 in
theorem met_X0_dropOut {D : va_G} {cI cV cJ cD : ClassId} (l : Launch) (a : Nat → Nat) (x : CSt) (p1 : Int32) (p2 : Int32) (res : CSt) (hf : fX0_dropOut x p1 p2 = some res) : MM l yX0_dropOut cX0_dropOut 5 none { frames := 1, cells := 0, slots := 0, locals := 23 } D (TY cI cV cJ cD) (W_Chain cI a x) (W_Chain cI a res) [.ref (a 0), .int p1, .int p2] none := by
  intro sz
  refine Met.ofW (cc := cX0_dropOut) (maxL := 5) (ret := none) (by decide +kernel) rfl ?_
  intro p e s m args below meth c s₁ B hml hv
  obtain ⟨rfl, hsz, hP, hK, hD0, hE⟩ := hv
  have hx := B.exec
  have hb := B.bytes
  have hr := B.returns
  have hts := atoms_spec (ws := .code yX0_dropOut cX0_dropOut 5 none :: GW) B.pre
  have hg : ∀ w ∈ GW, w.before (([.ref (a 0), .int p1, .int p2] : List Value).toArray) s = true := fun w h => hts w (List.mem_cons_of_mem _ h)
  have hown : s.vm.findClass RX0 = some m.cls := findClass_of_methodNamed B.named
  have hlocks := B.notSynchronized
  subst hsz
  have hD := hD0.self (sz := s.heap.size)
  generalize hAe : va_A (W_Chain cI a x) s.heap.size = A at hD hE ⊢
  have hA : ∀ q : Nat, s.heap.size ≤ q → A q := fun q h => by rw [← hAe]; exact Or.inr h
  have hS : va_S A s.heap s.heap [] := va_S.rf
  have hl := lv_entry ([.ref (a 0), .int p1, .int p2]) (n := 5) (Nat.le_of_ble_eq_true rfl)
  rw [lg_entry_eq]
  generalize (lg_sl ([.ref (a 0), .int p1, .int p2]) ++ List.replicate (5 - (lg_sl ([.ref (a 0), .int p1, .int p2])).length) Slot.unset).toArray = ls at hl ⊢
  have hl : lv_has ls 5 [(0, .ref (a 0)), (1, .int p1), (2, .int p2)] := hl
  have L53 : ∀ (x : CSt) (v3 : Int32) (H : Heap) (locs : List Loc) (ls : Array Slot), fX0_dropOut_53 x v3  = some res → va_P D vwCl (W_Chain cI a x) H → va_D A (W_Chain cI a x) → va_S A s.heap H locs → lv_has ls 5 [(0, .ref (a 0)), (3, .int v3)] → W p l e ({ frames := 1, cells := 0, slots := 0, locals := 23 } : Room) s m ([.ref (a 0), .int p1, .int p2] : List Value).toArray below meth c H locs 0 0 (MQ below (QW D (TY cI cV cJ cD) (W_Chain cI a res) A none) (([.ref (a 0), .int p1, .int p2] : List Value).toArray) s 0 0 A) (F0 m 53 ls []) := by
    intro x v3 H locs ls hf hP hD hS hl
    dsimp only [fX0_dropOut_53] at hf
    refine lv_aload_n hx hb dX0_dropOut_53 rfl (lv_at hl 0 rfl) ?_
    refine va_get (D := D) (ci := 0) (v := .ref (a 3)) (C := RX0) (T := TX0) (N := 5) hx hb hg in_X0 hown hK hP 0 rfl rfl 2 (by decide) (hg _ w79) (fun _ h9 => h9) rfl dX0_dropOut_54 ?_
    refine lv_iload_n hx hb dX0_dropOut_57 rfl (lv_at hl 1 rfl) ?_
    refine lv_aload_n hx hb dX0_dropOut_58 rfl (lv_at hl 0 rfl) ?_
    refine va_get (D := D) (ci := 0) (v := .int (chS x)) (C := RX0) (T := TX0) (N := 5) hx hb hg in_X0 hown hK hP 0 rfl rfl 4 (by decide) (hg _ w81) (fun _ h9 => h9) rfl dX0_dropOut_59 ?_
    obtain ⟨hi1, hf⟩ := chk_t hf
    refine va_iast hx hb hK hP hD hS 3 0 rfl rfl (inb_in hi1) dX0_dropOut_62 (fun H locs hP hD hS => ?_)
    obtain ⟨x2, hx2⟩ : ∃ z, z = (chX_s x (upd (chX x) (v3).toNatClampNeg (chS x))) := ⟨_, rfl⟩
    replace hf := keep_e hf x2 hx2
    have hP : va_P D vwCl (W_Chain cI a x2) H := by rw [hx2]; exact hP
    have hD : va_D A (W_Chain cI a x2) := by rw [hx2]; exact hD
    refine lv_aload_n hx hb dX0_dropOut_63 rfl (lv_at hl 0 rfl) ?_
    refine lv_iload_n hx hb dX0_dropOut_64 rfl (lv_at hl 1 rfl) ?_
    refine va_put (D := D) (ci := 0) (v := .int v3) (ty := .int) (C := RX0) (T := TX0) (N := 5) hx hb hg in_X0 tyX0 tyX0_ok nmX0 hown hK hP hD hS 0 rfl rfl 4 (by decide) (hg _ w81) (fun _ h9 => h9) rfl (by decide +kernel) rfl rfl (Nat.le_of_ble_eq_true rfl) dX0_dropOut_65 (fun H locs hP hD hS => ?_)
    obtain ⟨x3, hx3⟩ : ∃ z, z = (chS_s x2 v3) := ⟨_, rfl⟩
    replace hf := keep_e hf x3 hx3
    have hP : va_P D vwCl (W_Chain cI a x3) H := by rw [hx3]; exact hP
    have hD : va_D A (W_Chain cI a x3) := by rw [hx3]; exact hD
    obtain rfl := Option.some.inj hf
    exact W.vret hx hb hr (fun t ht hW => ⟨rfl, by rw [ht]; exact hP, va_K.moved hW.alike hK, hD, hS.F ht⟩) hS.2.2 dX0_dropOut_68 hlocks
  have M0 : ∀ (H : Heap) (locs : List Loc) (ls : Array Slot), fX0_dropOut x p1 p2 = some res → va_P D vwCl (W_Chain cI a x) H → va_D A (W_Chain cI a x) → va_S A s.heap H locs → lv_has ls 5 [(0, .ref (a 0)), (1, .int p1), (2, .int p2)] → W p l e ({ frames := 1, cells := 0, slots := 0, locals := 23 } : Room) s m ([.ref (a 0), .int p1, .int p2] : List Value).toArray below meth c H locs 0 0 (MQ below (QW D (TY cI cV cJ cD) (W_Chain cI a res) A none) (([.ref (a 0), .int p1, .int p2] : List Value).toArray) s 0 0 A) (F0 m 0 ls []) := by
    intro H locs ls hf hP hD hS hl
    dsimp only [fX0_dropOut] at hf
    refine lv_aload_n hx hb dX0_dropOut_0 rfl (lv_at hl 0 rfl) ?_
    refine lv_iload_n hx hb dX0_dropOut_1 rfl (lv_at hl 1 rfl) ?_
    obtain ⟨u4, hc5, hf⟩ := bind_t hf
    refine k_V (As := [.int p1]) (rest := []) (n := 1) ⟨hx, hb, hml, hown, hts⟩ (met_X0_nodeAt l a x p1 u4 hc5) w467 w469 ws16 w6 w470 ⟨rfl, by decide +kernel, by decide +kernel, by decide +kernel⟩ ⟨Nat.le_of_ble_eq_true rfl, Nat.le_of_ble_eq_true rfl⟩ hK hE hP hD hS hA (isC := [0, 1, 2, 3]) (isR := []) (isB := [0, 1, 2, 3]) (ws' := W_Chain cI a x) ⟨([] : List Nat).filterMap (fun i : Nat => (W_Chain cI a x : va_W)[i]?), rfl, rfl, rfl, rfl, by decide, rfl, rfl⟩ 0 0 rfl rfl rfl rfl hl.1 rfl (Nat.le_of_ble_eq_true rfl) dX0_dropOut_2 ⟨Nat.le_of_ble_eq_true rfl, Nat.le_of_ble_eq_true rfl⟩ (fun H locs hP hD hS => ?_)
    try dsimp only at hf
    refine W.eq (g2 := F0 m 5 ls [.int u4]) rfl ?_
    refine lv_istore_n (lv' := [(3, .int u4), (0, .ref (a 0)), (1, .int p1), (2, .int p2)]) hx hb dX0_dropOut_5 rfl hl (by decide) rfl (fun ls hl => ?_)
    refine lv_iload_n hx hb dX0_dropOut_6 rfl (lv_at hl 0 rfl) ?_
    refine lv_iconst (v := (-1)) hx hb dX0_dropOut_7 (by decide) ?_
    refine lv_icmp_ne (tgt := 12) hx hb dX0_dropOut_8 (by decide) (fun c6 => ?_) (fun c6 => ?_)
    · replace hf := if_f c6 hf
      refine lv_aload_n hx hb dX0_dropOut_12 rfl (lv_at hl 1 rfl) ?_
      refine lv_iload_n hx hb dX0_dropOut_13 rfl (lv_at hl 2 rfl) ?_
      refine lv_iconst (v := 1) hx hb dX0_dropOut_14 (by decide) ?_
      refine lv_isub hx hb dX0_dropOut_15 ?_
      obtain ⟨u7, hc8, hf⟩ := bind_t hf
      refine k_V (As := [.int (p1 - 1)]) (rest := []) (n := 1) ⟨hx, hb, hml, hown, hts⟩ (met_X0_nodeAt l a x (p1 - 1) u7 hc8) w467 w469 ws16 w6 w470 ⟨rfl, by decide +kernel, by decide +kernel, by decide +kernel⟩ ⟨Nat.le_of_ble_eq_true rfl, Nat.le_of_ble_eq_true rfl⟩ hK hE hP hD hS hA (isC := [0, 1, 2, 3]) (isR := []) (isB := [0, 1, 2, 3]) (ws' := W_Chain cI a x) ⟨([] : List Nat).filterMap (fun i : Nat => (W_Chain cI a x : va_W)[i]?), rfl, rfl, rfl, rfl, by decide, rfl, rfl⟩ 0 0 rfl rfl rfl rfl hl.1 rfl (Nat.le_of_ble_eq_true rfl) dX0_dropOut_16 ⟨Nat.le_of_ble_eq_true rfl, Nat.le_of_ble_eq_true rfl⟩ (fun H locs hP hD hS => ?_)
      try dsimp only at hf
      refine W.eq (g2 := F0 m 19 ls [.int u7]) rfl ?_
      refine lv_istore (lv' := [(4, .int u7), (3, .int u4), (0, .ref (a 0)), (1, .int p1), (2, .int p2)]) hx hb dX0_dropOut_19 hl (by decide) rfl (fun ls hl => ?_)
      refine lv_iload hx hb dX0_dropOut_21 (lv_at hl 0 rfl) ?_
      refine lv_iconst (v := (-1)) hx hb dX0_dropOut_23 (by decide) ?_
      refine lv_icmp_ne (tgt := 40) hx hb dX0_dropOut_24 (by decide) (fun c9 => ?_) (fun c9 => ?_)
      · replace hf := if_f c9 hf
        refine lv_aload_n hx hb dX0_dropOut_40 rfl (lv_at hl 2 rfl) ?_
        refine va_get (D := D) (ci := 0) (v := .ref (a 3)) (C := RX0) (T := TX0) (N := 5) hx hb hg in_X0 hown hK hP 0 rfl rfl 2 (by decide) (hg _ w79) (fun _ h9 => h9) rfl dX0_dropOut_41 ?_
        refine lv_iload hx hb dX0_dropOut_44 (lv_at hl 0 rfl) ?_
        refine lv_aload_n hx hb dX0_dropOut_46 rfl (lv_at hl 2 rfl) ?_
        refine va_get (D := D) (ci := 0) (v := .ref (a 3)) (C := RX0) (T := TX0) (N := 5) hx hb hg in_X0 hown hK hP 0 rfl rfl 2 (by decide) (hg _ w79) (fun _ h9 => h9) rfl dX0_dropOut_47 ?_
        refine lv_iload_n hx hb dX0_dropOut_50 rfl (lv_at hl 1 rfl) ?_
        obtain ⟨hi10, hf⟩ := chk_t hf
        refine va_iald hx hb hK hP 3 0 rfl rfl (inb_in hi10) dX0_dropOut_51 ?_
        obtain ⟨hi11, hf⟩ := chk_t hf
        refine va_iast hx hb hK hP hD hS 3 0 rfl rfl (inb_in hi11) dX0_dropOut_52 (fun H locs hP hD hS => ?_)
        obtain ⟨x12, hx12⟩ : ∃ z, z = (chX_s x (upd (chX x) (u7).toNatClampNeg ((chX x) (u4).toNatClampNeg))) := ⟨_, rfl⟩
        replace hf := keep_e hf x12 hx12
        have hP : va_P D vwCl (W_Chain cI a x12) H := by rw [hx12]; exact hP
        have hD : va_D A (W_Chain cI a x12) := by rw [hx12]; exact hD
        exact L53 x12 u4 H locs ls hf hP hD hS (lv_sub hl [2, 1] rfl)
      · replace hf := if_t c9 hf
        refine lv_aload_n hx hb dX0_dropOut_27 rfl (lv_at hl 2 rfl) ?_
        refine lv_aload_n hx hb dX0_dropOut_28 rfl (lv_at hl 2 rfl) ?_
        refine va_get (D := D) (ci := 0) (v := .ref (a 3)) (C := RX0) (T := TX0) (N := 5) hx hb hg in_X0 hown hK hP 0 rfl rfl 2 (by decide) (hg _ w79) (fun _ h9 => h9) rfl dX0_dropOut_29 ?_
        refine lv_iload_n hx hb dX0_dropOut_32 rfl (lv_at hl 1 rfl) ?_
        obtain ⟨hi13, hf⟩ := chk_t hf
        refine va_iald hx hb hK hP 3 0 rfl rfl (inb_in hi13) dX0_dropOut_33 ?_
        refine va_put (D := D) (ci := 0) (v := .int ((chX x) (u4).toNatClampNeg)) (ty := .int) (C := RX0) (T := TX0) (N := 5) hx hb hg in_X0 tyX0 tyX0_ok nmX0 hown hK hP hD hS 0 rfl rfl 3 (by decide) (hg _ w80) (fun _ h9 => h9) rfl (by decide +kernel) rfl rfl (Nat.le_of_ble_eq_true rfl) dX0_dropOut_34 (fun H locs hP hD hS => ?_)
        obtain ⟨x14, hx14⟩ : ∃ z, z = (chH_s x ((chX x) (u4).toNatClampNeg)) := ⟨_, rfl⟩
        replace hf := keep_e hf x14 hx14
        have hP : va_P D vwCl (W_Chain cI a x14) H := by rw [hx14]; exact hP
        have hD : va_D A (W_Chain cI a x14) := by rw [hx14]; exact hD
        refine lv_goto (tgt := 53) hx hb dX0_dropOut_37 (by decide) ?_
        exact L53 x14 u4 H locs ls hf hP hD hS (lv_sub hl [2, 1] rfl)
    · replace hf := if_t c6 hf
      obtain rfl := Option.some.inj hf
      exact W.vret hx hb hr (fun t ht hW => ⟨rfl, by rw [ht]; exact hP, va_K.moved hW.alike hK, hD, hS.F ht⟩) hS.2.2 dX0_dropOut_11 hlocks
  exact M0 s.heap [] ls hf hP hD hS hl

/-! Compactforms$Table.makeEmpty()V -/
def fX5_makeEmpty (x : TSt) : Option (TSt) := keep (tbB_s x 16) (fun x1 => keep (tbC_s x1 0) (fun x2 => (fJ7_fill_53178 64 (tbH x2) (-1)).bind (fun u3 => keep (tbH_s x2 u3) (fun x5 => (fJ7_fill_53178 40 (tbM x5) (-1)).bind (fun u6 => keep (tbM_s x5 u6) (fun x8 => some x8))))))
set_option maxHeartbeats 4000000 in
set_option maxRecDepth 100000 in
theorem met_X5_makeEmpty {D : va_G} {cI cV cJ cD : ClassId} (l : Launch) (a : Nat → Nat) (x : TSt) (res : TSt) (hf : fX5_makeEmpty x = some res) : MM l yX5_makeEmpty cX5_makeEmpty 1 none { frames := 1, cells := 0, slots := 0, locals := 23 } D (TY cI cV cJ cD) (W_Table cI a x) (W_Table cI a res) [.ref (a 0)] none := by
  intro sz
  refine Met.ofW (cc := cX5_makeEmpty) (maxL := 1) (ret := none) (by decide +kernel) rfl ?_
  intro p e s m args below meth c s₁ B hml hv
  obtain ⟨rfl, hsz, hP, hK, hD0, hE⟩ := hv
  have hx := B.exec
  have hb := B.bytes
  have hr := B.returns
  have hts := atoms_spec (ws := .code yX5_makeEmpty cX5_makeEmpty 1 none :: GW) B.pre
  have hg : ∀ w ∈ GW, w.before (([.ref (a 0)] : List Value).toArray) s = true := fun w h => hts w (List.mem_cons_of_mem _ h)
  have hown : s.vm.findClass RX5 = some m.cls := findClass_of_methodNamed B.named
  have hlocks := B.notSynchronized
  subst hsz
  have hD := hD0.self (sz := s.heap.size)
  generalize hAe : va_A (W_Table cI a x) s.heap.size = A at hD hE ⊢
  have hA : ∀ q : Nat, s.heap.size ≤ q → A q := fun q h => by rw [← hAe]; exact Or.inr h
  have hS : va_S A s.heap s.heap [] := va_S.rf
  have hl := lv_entry ([.ref (a 0)]) (n := 1) (Nat.le_of_ble_eq_true rfl)
  rw [lg_entry_eq]
  generalize (lg_sl ([.ref (a 0)]) ++ List.replicate (1 - (lg_sl ([.ref (a 0)])).length) Slot.unset).toArray = ls at hl ⊢
  have hl : lv_has ls 1 [(0, .ref (a 0))] := hl
  have M0 : ∀ (H : Heap) (locs : List Loc) (ls : Array Slot), fX5_makeEmpty x = some res → va_P D vwCl (W_Table cI a x) H → va_D A (W_Table cI a x) → va_S A s.heap H locs → lv_has ls 1 [(0, .ref (a 0))] → W p l e ({ frames := 1, cells := 0, slots := 0, locals := 23 } : Room) s m ([.ref (a 0)] : List Value).toArray below meth c H locs 0 0 (MQ below (QW D (TY cI cV cJ cD) (W_Table cI a res) A none) (([.ref (a 0)] : List Value).toArray) s 0 0 A) (F0 m 0 ls []) := by
    intro H locs ls hf hP hD hS hl
    dsimp only [fX5_makeEmpty] at hf
    refine lv_aload_n hx hb dX5_makeEmpty_0 rfl (lv_at hl 0 rfl) ?_
    refine lv_bipush (v := 16) hx hb dX5_makeEmpty_1 (by decide) ?_
    refine va_put (D := D) (ci := 4) (v := .int 16) (ty := .int) (C := RX5) (T := TX5) (N := 5) hx hb hg in_X5 tyX5 tyX5_ok nmX5 hown hK hP hD hS 0 rfl rfl 3 (by decide) (hg _ w102) (fun _ h9 => h9) rfl (by decide +kernel) rfl rfl (Nat.le_of_ble_eq_true rfl) dX5_makeEmpty_3 (fun H locs hP hD hS => ?_)
    obtain ⟨x1, hx1⟩ : ∃ z, z = (tbB_s x 16) := ⟨_, rfl⟩
    replace hf := keep_e hf x1 hx1
    have hP : va_P D vwCl (W_Table cI a x1) H := by rw [hx1]; exact hP
    have hD : va_D A (W_Table cI a x1) := by rw [hx1]; exact hD
    refine lv_aload_n hx hb dX5_makeEmpty_6 rfl (lv_at hl 0 rfl) ?_
    refine lv_iconst (v := 0) hx hb dX5_makeEmpty_7 (by decide) ?_
    refine va_put (D := D) (ci := 4) (v := .int 0) (ty := .int) (C := RX5) (T := TX5) (N := 5) hx hb hg in_X5 tyX5 tyX5_ok nmX5 hown hK hP hD hS 0 rfl rfl 4 (by decide) (hg _ w103) (fun _ h9 => h9) rfl (by decide +kernel) rfl rfl (Nat.le_of_ble_eq_true rfl) dX5_makeEmpty_8 (fun H locs hP hD hS => ?_)
    obtain ⟨x2, hx2⟩ : ∃ z, z = (tbC_s x1 0) := ⟨_, rfl⟩
    replace hf := keep_e hf x2 hx2
    have hP : va_P D vwCl (W_Table cI a x2) H := by rw [hx2]; exact hP
    have hD : va_D A (W_Table cI a x2) := by rw [hx2]; exact hD
    refine lv_aload_n hx hb dX5_makeEmpty_11 rfl (lv_at hl 0 rfl) ?_
    refine va_get (D := D) (ci := 4) (v := .ref (a 1)) (C := RX5) (T := TX5) (N := 5) hx hb hg in_X5 hown hK hP 0 rfl rfl 0 (by decide) (hg _ w99) (fun _ h9 => h9) rfl dX5_makeEmpty_12 ?_
    refine lv_iconst (v := (-1)) hx hb dX5_makeEmpty_15 (by decide) ?_
    obtain ⟨u3, hc4, hf⟩ := bind_t hf
    refine k_S (As := [.ref (a 1), .int (-1)]) (rest := []) (n := 2) ⟨hx, hb, hml, hown, hts⟩ (met_J7_fill_53178 l 64 (fun j => a (1 + j)) (tbH x2) (-1) u3 hc4) w452 w428 w15 w429 ⟨by decide +kernel, by decide +kernel, by decide +kernel⟩ ⟨Nat.le_of_ble_eq_true rfl, Nat.le_of_ble_eq_true rfl⟩ hK hE hP hD hS hA (isC := [1]) (isR := [0, 2, 3]) (isB := [0, 3, 1, 2]) (ws' := W_Table cI a (tbH_s x2 u3)) ⟨([0, 2, 3] : List Nat).filterMap (fun i : Nat => (W_Table cI a x2 : va_W)[i]?), rfl, rfl, rfl, rfl, by decide, rfl, rfl⟩ rfl hl.1 rfl (Nat.le_of_ble_eq_true rfl) dX5_makeEmpty_16 ⟨Nat.le_of_ble_eq_true rfl, Nat.le_of_ble_eq_true rfl⟩ (fun H locs hP hD hS => ?_)
    try dsimp only at hf
    refine W.eq (g2 := F0 m 19 ls []) rfl ?_
    obtain ⟨x5, hx5⟩ : ∃ z, z = (tbH_s x2 u3) := ⟨_, rfl⟩
    replace hf := keep_e hf x5 hx5
    have hP : va_P D vwCl (W_Table cI a x5) H := by rw [hx5]; exact hP
    have hD : va_D A (W_Table cI a x5) := by rw [hx5]; exact hD
    refine lv_aload_n hx hb dX5_makeEmpty_19 rfl (lv_at hl 0 rfl) ?_
    refine va_get (D := D) (ci := 4) (v := .ref (a 2)) (C := RX5) (T := TX5) (N := 5) hx hb hg in_X5 hown hK hP 0 rfl rfl 1 (by decide) (hg _ w100) (fun _ h9 => h9) rfl dX5_makeEmpty_20 ?_
    refine lv_iconst (v := (-1)) hx hb dX5_makeEmpty_23 (by decide) ?_
    obtain ⟨u6, hc7, hf⟩ := bind_t hf
    refine k_S (As := [.ref (a 2), .int (-1)]) (rest := []) (n := 2) ⟨hx, hb, hml, hown, hts⟩ (met_J7_fill_53178 l 40 (fun j => a (2 + j)) (tbM x5) (-1) u6 hc7) w452 w428 w15 w429 ⟨by decide +kernel, by decide +kernel, by decide +kernel⟩ ⟨Nat.le_of_ble_eq_true rfl, Nat.le_of_ble_eq_true rfl⟩ hK hE hP hD hS hA (isC := [2]) (isR := [0, 1, 3]) (isB := [0, 1, 3, 2]) (ws' := W_Table cI a (tbM_s x5 u6)) ⟨([0, 1, 3] : List Nat).filterMap (fun i : Nat => (W_Table cI a x5 : va_W)[i]?), rfl, rfl, rfl, rfl, by decide, rfl, rfl⟩ rfl hl.1 rfl (Nat.le_of_ble_eq_true rfl) dX5_makeEmpty_24 ⟨Nat.le_of_ble_eq_true rfl, Nat.le_of_ble_eq_true rfl⟩ (fun H locs hP hD hS => ?_)
    try dsimp only at hf
    refine W.eq (g2 := F0 m 27 ls []) rfl ?_
    obtain ⟨x8, hx8⟩ : ∃ z, z = (tbM_s x5 u6) := ⟨_, rfl⟩
    replace hf := keep_e hf x8 hx8
    have hP : va_P D vwCl (W_Table cI a x8) H := by rw [hx8]; exact hP
    have hD : va_D A (W_Table cI a x8) := by rw [hx8]; exact hD
    obtain rfl := Option.some.inj hf
    exact W.vret hx hb hr (fun t ht hW => ⟨rfl, by rw [ht]; exact hP, va_K.moved hW.alike hK, hD, hS.F ht⟩) hS.2.2 dX5_makeEmpty_27 hlocks
  exact M0 s.heap [] ls hf hP hD hS hl
/-! Compactforms$Table.bucketOf(I)I -/
def fX5_bucketOf (x : TSt) (p1 : Int32) : Option (Int32) := some (((193 * p1) + (p1 / 32)) &&& ((tbB x) - 1))
set_option maxHeartbeats 4000000 in
set_option maxRecDepth 100000 in
theorem met_X5_bucketOf {D : va_G} {cI cV cJ cD : ClassId} (l : Launch) (a : Nat → Nat) (x : TSt) (p1 : Int32) (res : Int32) (hf : fX5_bucketOf x p1 = some res) : MM l yX5_bucketOf cX5_bucketOf 2 (some .int) { frames := 0, cells := 0, slots := 0, locals := 0 } D (TY cI cV cJ cD) (W_Table cI a x) (W_Table cI a x) [.ref (a 0), .int p1] (some (.int res)) := by
  intro sz
  refine Met.ofW (cc := cX5_bucketOf) (maxL := 2) (ret := (some .int)) (by decide +kernel) rfl ?_
  intro p e s m args below meth c s₁ B hml hv
  obtain ⟨rfl, hsz, hP, hK, hD0, hE⟩ := hv
  have hx := B.exec
  have hb := B.bytes
  have hr := B.returns
  have hts := atoms_spec (ws := .code yX5_bucketOf cX5_bucketOf 2 (some .int) :: GW) B.pre
  have hg : ∀ w ∈ GW, w.before (([.ref (a 0), .int p1] : List Value).toArray) s = true := fun w h => hts w (List.mem_cons_of_mem _ h)
  have hown : s.vm.findClass RX5 = some m.cls := findClass_of_methodNamed B.named
  have hlocks := B.notSynchronized
  subst hsz
  have hD := hD0.self (sz := s.heap.size)
  generalize hAe : va_A (W_Table cI a x) s.heap.size = A at hD hE ⊢
  have hA : ∀ q : Nat, s.heap.size ≤ q → A q := fun q h => by rw [← hAe]; exact Or.inr h
  have hS : va_S A s.heap s.heap [] := va_S.rf
  have hl := lv_entry ([.ref (a 0), .int p1]) (n := 2) (Nat.le_of_ble_eq_true rfl)
  rw [lg_entry_eq]
  generalize (lg_sl ([.ref (a 0), .int p1]) ++ List.replicate (2 - (lg_sl ([.ref (a 0), .int p1])).length) Slot.unset).toArray = ls at hl ⊢
  have hl : lv_has ls 2 [(0, .ref (a 0)), (1, .int p1)] := hl
  have M0 : ∀ (H : Heap) (locs : List Loc) (ls : Array Slot), fX5_bucketOf x p1 = some res → va_P D vwCl (W_Table cI a x) H → va_D A (W_Table cI a x) → va_S A s.heap H locs → lv_has ls 2 [(0, .ref (a 0)), (1, .int p1)] → W p l e ({ frames := 0, cells := 0, slots := 0, locals := 0 } : Room) s m ([.ref (a 0), .int p1] : List Value).toArray below meth c H locs 0 0 (MQ below (QW D (TY cI cV cJ cD) (W_Table cI a x) A (some (.int res))) (([.ref (a 0), .int p1] : List Value).toArray) s 0 0 A) (F0 m 0 ls []) := by
    intro H locs ls hf hP hD hS hl
    dsimp only [fX5_bucketOf] at hf
    refine lv_sipush (v := 193) hx hb dX5_bucketOf_0 (by decide) ?_
    refine lv_iload_n hx hb dX5_bucketOf_3 rfl (lv_at hl 1 rfl) ?_
    refine lv_imul hx hb dX5_bucketOf_4 ?_
    refine lv_iload_n hx hb dX5_bucketOf_5 rfl (lv_at hl 1 rfl) ?_
    refine lv_bipush (v := 32) hx hb dX5_bucketOf_6 (by decide) ?_
    refine lv_idiv hx hb dX5_bucketOf_8 (by decide) ?_
    refine lv_iadd hx hb dX5_bucketOf_9 ?_
    refine lv_aload_n hx hb dX5_bucketOf_10 rfl (lv_at hl 0 rfl) ?_
    refine va_get (D := D) (ci := 4) (v := .int (tbB x)) (C := RX5) (T := TX5) (N := 5) hx hb hg in_X5 hown hK hP 0 rfl rfl 3 (by decide) (hg _ w102) (fun _ h9 => h9) rfl dX5_bucketOf_11 ?_
    refine lv_iconst (v := 1) hx hb dX5_bucketOf_14 (by decide) ?_
    refine lv_isub hx hb dX5_bucketOf_15 ?_
    refine lv_iand hx hb dX5_bucketOf_16 ?_
    obtain rfl := Option.some.inj hf
    exact W.iret (v := (((193 * p1) + (p1 / 32)) &&& ((tbB x) - 1))) hx hb hr (fun t ht hW => ⟨rfl, by rw [ht]; exact hP, va_K.moved hW.alike hK, hD, hS.F ht⟩) hS.2.2 dX5_bucketOf_17 hlocks
  exact M0 s.heap [] ls hf hP hD hS hl
/-! Compactforms$Table.smallestAbove(I)I -/
def fX5_smallestAbove_4 (x : TSt) (v1 : Int32) (rec4 : Int32 × Int32 → Option (Int32)) (s : Int32 × Int32) : Option (Int32) := match s with | (v2, v3) => (if 40 ≤ v3 then some v2 else chk (inb v3 40) ((if ((tbM x) (v3).toNatClampNeg) ≤ v1 then keep (v3 + 1) (fun y4 => rec4 (v2, y4)) else (if v2 = (-1) then chk (inb v3 40) (keep ((tbM x) (v3).toNatClampNeg) (fun y7 => keep (v3 + 1) (fun y8 => rec4 (y7, y8)))) else chk (inb v3 40) ((if v2 ≤ ((tbM x) (v3).toNatClampNeg) then keep (v3 + 1) (fun y11 => rec4 (v2, y11)) else chk (inb v3 40) (keep ((tbM x) (v3).toNatClampNeg) (fun y13 => keep (v3 + 1) (fun y14 => rec4 (y13, y14))))))))))
def fX5_smallestAbove (x : TSt) (p1 : Int32) : Option (Int32) := iterK FU (fX5_smallestAbove_4 x p1) ((-1), 0)
set_option maxHeartbeats 4000000 in
set_option maxRecDepth 100000 in
theorem met_X5_smallestAbove {D : va_G} {cI cV cJ cD : ClassId} (l : Launch) (a : Nat → Nat) (x : TSt) (p1 : Int32) (res : Int32) (hf : fX5_smallestAbove x p1 = some res) : MM l yX5_smallestAbove cX5_smallestAbove 4 (some .int) { frames := 0, cells := 0, slots := 0, locals := 0 } D (TY cI cV cJ cD) (W_Table cI a x) (W_Table cI a x) [.ref (a 0), .int p1] (some (.int res)) := by
  intro sz
  refine Met.ofW (cc := cX5_smallestAbove) (maxL := 4) (ret := (some .int)) (by decide +kernel) rfl ?_
  intro p e s m args below meth c s₁ B hml hv
  obtain ⟨rfl, hsz, hP, hK, hD0, hE⟩ := hv
  have hx := B.exec
  have hb := B.bytes
  have hr := B.returns
  have hts := atoms_spec (ws := .code yX5_smallestAbove cX5_smallestAbove 4 (some .int) :: GW) B.pre
  have hg : ∀ w ∈ GW, w.before (([.ref (a 0), .int p1] : List Value).toArray) s = true := fun w h => hts w (List.mem_cons_of_mem _ h)
  have hown : s.vm.findClass RX5 = some m.cls := findClass_of_methodNamed B.named
  have hlocks := B.notSynchronized
  subst hsz
  have hD := hD0.self (sz := s.heap.size)
  generalize hAe : va_A (W_Table cI a x) s.heap.size = A at hD hE ⊢
  have hA : ∀ q : Nat, s.heap.size ≤ q → A q := fun q h => by rw [← hAe]; exact Or.inr h
  have hS : va_S A s.heap s.heap [] := va_S.rf
  have hl := lv_entry ([.ref (a 0), .int p1]) (n := 4) (Nat.le_of_ble_eq_true rfl)
  rw [lg_entry_eq]
  generalize (lg_sl ([.ref (a 0), .int p1]) ++ List.replicate (4 - (lg_sl ([.ref (a 0), .int p1])).length) Slot.unset).toArray = ls at hl ⊢
  have hl : lv_has ls 4 [(0, .ref (a 0)), (1, .int p1)] := hl
  have S4 : ∀ (x : TSt) (v1 : Int32) (rec4 : Int32 × Int32 → Option (Int32)) (hrec4 : ∀ (v2 : Int32), ∀ (v3 : Int32), ∀ (H : Heap) (locs : List Loc) (ls : Array Slot), rec4 (v2, v3) = some res → va_P D vwCl (W_Table cI a x) H → va_D A (W_Table cI a x) → va_S A s.heap H locs → lv_has ls 4 [(0, .ref (a 0)), (1, .int v1), (2, .int v2), (3, .int v3)] → W p l e ({ frames := 0, cells := 0, slots := 0, locals := 0 } : Room) s m ([.ref (a 0), .int p1] : List Value).toArray below meth c H locs 0 0 (MQ below (QW D (TY cI cV cJ cD) (W_Table cI a x) A (some (.int res))) (([.ref (a 0), .int p1] : List Value).toArray) s 0 0 A) (F0 m 4 ls [])) (v2 : Int32) (v3 : Int32) (H : Heap) (locs : List Loc) (ls : Array Slot), fX5_smallestAbove_4 x v1  rec4 (v2, v3) = some res → va_P D vwCl (W_Table cI a x) H → va_D A (W_Table cI a x) → va_S A s.heap H locs → lv_has ls 4 [(0, .ref (a 0)), (1, .int v1), (2, .int v2), (3, .int v3)] → W p l e ({ frames := 0, cells := 0, slots := 0, locals := 0 } : Room) s m ([.ref (a 0), .int p1] : List Value).toArray below meth c H locs 0 0 (MQ below (QW D (TY cI cV cJ cD) (W_Table cI a x) A (some (.int res))) (([.ref (a 0), .int p1] : List Value).toArray) s 0 0 A) (F0 m 4 ls []) := by
    intro x v1 rec4 hrec4 v2 v3 H locs ls hf hP hD hS hl
    dsimp only [fX5_smallestAbove_4] at hf
    refine lv_iload_n hx hb dX5_smallestAbove_4 rfl (lv_at hl 3 rfl) ?_
    refine lv_bipush (v := 40) hx hb dX5_smallestAbove_5 (by decide) ?_
    refine lv_icmp_ge (tgt := 48) hx hb dX5_smallestAbove_7 (by decide) (fun c1 => ?_) (fun c1 => ?_)
    · replace hf := if_t c1 hf
      refine lv_iload_n hx hb dX5_smallestAbove_48 rfl (lv_at hl 2 rfl) ?_
      obtain rfl := Option.some.inj hf
      exact W.iret (v := v2) hx hb hr (fun t ht hW => ⟨rfl, by rw [ht]; exact hP, va_K.moved hW.alike hK, hD, hS.F ht⟩) hS.2.2 dX5_smallestAbove_49 hlocks
    · replace hf := if_f c1 hf
      refine lv_aload_n hx hb dX5_smallestAbove_10 rfl (lv_at hl 0 rfl) ?_
      refine va_get (D := D) (ci := 4) (v := .ref (a 2)) (C := RX5) (T := TX5) (N := 5) hx hb hg in_X5 hown hK hP 0 rfl rfl 1 (by decide) (hg _ w100) (fun _ h9 => h9) rfl dX5_smallestAbove_11 ?_
      refine lv_iload_n hx hb dX5_smallestAbove_14 rfl (lv_at hl 3 rfl) ?_
      obtain ⟨hi2, hf⟩ := chk_t hf
      refine va_iald hx hb hK hP 2 0 rfl rfl (inb_in hi2) dX5_smallestAbove_15 ?_
      refine lv_iload_n hx hb dX5_smallestAbove_16 rfl (lv_at hl 1 rfl) ?_
      refine lv_icmp_le (tgt := 42) hx hb dX5_smallestAbove_17 (by decide) (fun c3 => ?_) (fun c3 => ?_)
      · replace hf := if_t c3 hf
        obtain ⟨y4, hy4⟩ : ∃ z : Int32, z = (v3 + 1) := ⟨_, rfl⟩
        replace hf := keep_e hf y4 hy4
        refine lv_iinc (v := y4) (lv' := [(3, .int y4), (0, .ref (a 0)), (1, .int v1), (2, .int v2)]) hx hb dX5_smallestAbove_42 hl (k := 3) rfl (by rw [hy4]; rfl) (by decide) rfl (fun ls hl => ?_)
        refine lv_goto (tgt := 4) hx hb dX5_smallestAbove_45 (by decide) ?_
        exact hrec4 v2 y4 H locs ls hf hP hD hS (lv_sub hl [1, 2, 3, 0] rfl)
      · replace hf := if_f c3 hf
        refine lv_iload_n hx hb dX5_smallestAbove_20 rfl (lv_at hl 2 rfl) ?_
        refine lv_iconst (v := (-1)) hx hb dX5_smallestAbove_21 (by decide) ?_
        refine lv_icmp_eq (tgt := 35) hx hb dX5_smallestAbove_22 (by decide) (fun c5 => ?_) (fun c5 => ?_)
        · replace hf := if_t c5 hf
          refine lv_aload_n hx hb dX5_smallestAbove_35 rfl (lv_at hl 0 rfl) ?_
          refine va_get (D := D) (ci := 4) (v := .ref (a 2)) (C := RX5) (T := TX5) (N := 5) hx hb hg in_X5 hown hK hP 0 rfl rfl 1 (by decide) (hg _ w100) (fun _ h9 => h9) rfl dX5_smallestAbove_36 ?_
          refine lv_iload_n hx hb dX5_smallestAbove_39 rfl (lv_at hl 3 rfl) ?_
          obtain ⟨hi6, hf⟩ := chk_t hf
          refine va_iald hx hb hK hP 2 0 rfl rfl (inb_in hi6) dX5_smallestAbove_40 ?_
          refine lv_topi (fun y7 hy7 => ?_)
          replace hf := keep_e hf y7 hy7
          refine lv_istore_n (lv' := [(2, .int y7), (0, .ref (a 0)), (1, .int v1), (3, .int v3)]) hx hb dX5_smallestAbove_41 rfl hl (by decide) rfl (fun ls hl => ?_)
          obtain ⟨y8, hy8⟩ : ∃ z : Int32, z = (v3 + 1) := ⟨_, rfl⟩
          replace hf := keep_e hf y8 hy8
          refine lv_iinc (v := y8) (lv' := [(3, .int y8), (2, .int y7), (0, .ref (a 0)), (1, .int v1)]) hx hb dX5_smallestAbove_42 hl (k := 3) rfl (by rw [hy8]; rfl) (by decide) rfl (fun ls hl => ?_)
          refine lv_goto (tgt := 4) hx hb dX5_smallestAbove_45 (by decide) ?_
          exact hrec4 y7 y8 H locs ls hf hP hD hS (lv_sub hl [2, 3, 1, 0] rfl)
        · replace hf := if_f c5 hf
          refine lv_aload_n hx hb dX5_smallestAbove_25 rfl (lv_at hl 0 rfl) ?_
          refine va_get (D := D) (ci := 4) (v := .ref (a 2)) (C := RX5) (T := TX5) (N := 5) hx hb hg in_X5 hown hK hP 0 rfl rfl 1 (by decide) (hg _ w100) (fun _ h9 => h9) rfl dX5_smallestAbove_26 ?_
          refine lv_iload_n hx hb dX5_smallestAbove_29 rfl (lv_at hl 3 rfl) ?_
          obtain ⟨hi9, hf⟩ := chk_t hf
          refine va_iald hx hb hK hP 2 0 rfl rfl (inb_in hi9) dX5_smallestAbove_30 ?_
          refine lv_iload_n hx hb dX5_smallestAbove_31 rfl (lv_at hl 2 rfl) ?_
          refine lv_icmp_ge (tgt := 42) hx hb dX5_smallestAbove_32 (by decide) (fun c10 => ?_) (fun c10 => ?_)
          · replace hf := if_t c10 hf
            obtain ⟨y11, hy11⟩ : ∃ z : Int32, z = (v3 + 1) := ⟨_, rfl⟩
            replace hf := keep_e hf y11 hy11
            refine lv_iinc (v := y11) (lv' := [(3, .int y11), (0, .ref (a 0)), (1, .int v1), (2, .int v2)]) hx hb dX5_smallestAbove_42 hl (k := 3) rfl (by rw [hy11]; rfl) (by decide) rfl (fun ls hl => ?_)
            refine lv_goto (tgt := 4) hx hb dX5_smallestAbove_45 (by decide) ?_
            exact hrec4 v2 y11 H locs ls hf hP hD hS (lv_sub hl [1, 2, 3, 0] rfl)
          · replace hf := if_f c10 hf
            refine lv_aload_n hx hb dX5_smallestAbove_35 rfl (lv_at hl 0 rfl) ?_
            refine va_get (D := D) (ci := 4) (v := .ref (a 2)) (C := RX5) (T := TX5) (N := 5) hx hb hg in_X5 hown hK hP 0 rfl rfl 1 (by decide) (hg _ w100) (fun _ h9 => h9) rfl dX5_smallestAbove_36 ?_
            refine lv_iload_n hx hb dX5_smallestAbove_39 rfl (lv_at hl 3 rfl) ?_
            obtain ⟨hi12, hf⟩ := chk_t hf
            refine va_iald hx hb hK hP 2 0 rfl rfl (inb_in hi12) dX5_smallestAbove_40 ?_
            refine lv_topi (fun y13 hy13 => ?_)
            replace hf := keep_e hf y13 hy13
            refine lv_istore_n (lv' := [(2, .int y13), (0, .ref (a 0)), (1, .int v1), (3, .int v3)]) hx hb dX5_smallestAbove_41 rfl hl (by decide) rfl (fun ls hl => ?_)
            obtain ⟨y14, hy14⟩ : ∃ z : Int32, z = (v3 + 1) := ⟨_, rfl⟩
            replace hf := keep_e hf y14 hy14
            refine lv_iinc (v := y14) (lv' := [(3, .int y14), (2, .int y13), (0, .ref (a 0)), (1, .int v1)]) hx hb dX5_smallestAbove_42 hl (k := 3) rfl (by rw [hy14]; rfl) (by decide) rfl (fun ls hl => ?_)
            refine lv_goto (tgt := 4) hx hb dX5_smallestAbove_45 (by decide) ?_
            exact hrec4 y13 y14 H locs ls hf hP hD hS (lv_sub hl [2, 3, 1, 0] rfl)
  have L4 : ∀ (x : TSt) (v1 : Int32) (fu : Nat) (v2 : Int32) (v3 : Int32) (H : Heap) (locs : List Loc) (ls : Array Slot), iterK fu (fX5_smallestAbove_4 x v1 ) (v2, v3) = some res → va_P D vwCl (W_Table cI a x) H → va_D A (W_Table cI a x) → va_S A s.heap H locs → lv_has ls 4 [(0, .ref (a 0)), (1, .int v1), (2, .int v2), (3, .int v3)] → W p l e ({ frames := 0, cells := 0, slots := 0, locals := 0 } : Room) s m ([.ref (a 0), .int p1] : List Value).toArray below meth c H locs 0 0 (MQ below (QW D (TY cI cV cJ cD) (W_Table cI a x) A (some (.int res))) (([.ref (a 0), .int p1] : List Value).toArray) s 0 0 A) (F0 m 4 ls []) := by
    intro x v1 fu
    induction fu with
    | zero =>
      intro v2 v3 H locs ls hf
      cases hf
    | succ fu ih =>
      intro v2 v3 H locs ls hf hP hD hS hl
      exact S4 x v1 (iterK fu (fX5_smallestAbove_4 x v1 )) ih v2 v3 H locs ls hf hP hD hS hl
  have M0 : ∀ (H : Heap) (locs : List Loc) (ls : Array Slot), fX5_smallestAbove x p1 = some res → va_P D vwCl (W_Table cI a x) H → va_D A (W_Table cI a x) → va_S A s.heap H locs → lv_has ls 4 [(0, .ref (a 0)), (1, .int p1)] → W p l e ({ frames := 0, cells := 0, slots := 0, locals := 0 } : Room) s m ([.ref (a 0), .int p1] : List Value).toArray below meth c H locs 0 0 (MQ below (QW D (TY cI cV cJ cD) (W_Table cI a x) A (some (.int res))) (([.ref (a 0), .int p1] : List Value).toArray) s 0 0 A) (F0 m 0 ls []) := by
    intro H locs ls hf hP hD hS hl
    dsimp only [fX5_smallestAbove] at hf
    refine lv_iconst (v := (-1)) hx hb dX5_smallestAbove_0 (by decide) ?_
    refine lv_istore_n (lv' := [(2, .int (-1)), (0, .ref (a 0)), (1, .int p1)]) hx hb dX5_smallestAbove_1 rfl hl (by decide) rfl (fun ls hl => ?_)
    refine lv_iconst (v := 0) hx hb dX5_smallestAbove_2 (by decide) ?_
    refine lv_istore_n (lv' := [(3, .int 0), (2, .int (-1)), (0, .ref (a 0)), (1, .int p1)]) hx hb dX5_smallestAbove_3 rfl hl (by decide) rfl (fun ls hl => ?_)
    exact L4 x p1 FU (-1) 0 H locs ls hf hP hD hS (lv_sub hl [2, 3, 1, 0] rfl)
  exact M0 s.heap [] ls hf hP hD hS hl
/-! Compactforms$Table.valueAt(I)I -/
def fX5_valueAt_22 (x : TSt) (v1 : Int32) (rec22 : Int32 × Int32 → Option (Int32)) (s : Int32 × Int32) : Option (Int32) := match s with | (v2, v3) => (if v1 ≤ v3 then some v2 else (fX5_smallestAbove x v2).bind (fun u2 => keep (v3 + 1) (fun y4 => rec22 (u2, y4))))
def fX5_valueAt (x : TSt) (p1 : Int32) : Option (Int32) := (if p1 < 0 then some (-1) else (if p1 < (tbC x) then (fX5_smallestAbove x (-1)).bind (fun u7 => iterK FU (fX5_valueAt_22 x p1) (u7, 0)) else some (-1)))
set_option maxHeartbeats 4000000 in
set_option maxRecDepth 100000 in
theorem met_X5_valueAt {D : va_G} {cI cV cJ cD : ClassId} (l : Launch) (a : Nat → Nat) (x : TSt) (p1 : Int32) (res : Int32) (hf : fX5_valueAt x p1 = some res) : MM l yX5_valueAt cX5_valueAt 4 (some .int) { frames := 1, cells := 0, slots := 0, locals := 23 } D (TY cI cV cJ cD) (W_Table cI a x) (W_Table cI a x) [.ref (a 0), .int p1] (some (.int res)) := by
  intro sz
  refine Met.ofW (cc := cX5_valueAt) (maxL := 4) (ret := (some .int)) (by decide +kernel) rfl ?_
  intro p e s m args below meth c s₁ B hml hv
  obtain ⟨rfl, hsz, hP, hK, hD0, hE⟩ := hv
  have hx := B.exec
  have hb := B.bytes
  have hr := B.returns
  have hts := atoms_spec (ws := .code yX5_valueAt cX5_valueAt 4 (some .int) :: GW) B.pre
  have hg : ∀ w ∈ GW, w.before (([.ref (a 0), .int p1] : List Value).toArray) s = true := fun w h => hts w (List.mem_cons_of_mem _ h)
  have hown : s.vm.findClass RX5 = some m.cls := findClass_of_methodNamed B.named
  have hlocks := B.notSynchronized
  subst hsz
  have hD := hD0.self (sz := s.heap.size)
  generalize hAe : va_A (W_Table cI a x) s.heap.size = A at hD hE ⊢
  have hA : ∀ q : Nat, s.heap.size ≤ q → A q := fun q h => by rw [← hAe]; exact Or.inr h
  have hS : va_S A s.heap s.heap [] := va_S.rf
  have hl := lv_entry ([.ref (a 0), .int p1]) (n := 4) (Nat.le_of_ble_eq_true rfl)
  rw [lg_entry_eq]
  generalize (lg_sl ([.ref (a 0), .int p1]) ++ List.replicate (4 - (lg_sl ([.ref (a 0), .int p1])).length) Slot.unset).toArray = ls at hl ⊢
  have hl : lv_has ls 4 [(0, .ref (a 0)), (1, .int p1)] := hl
  have S22 : ∀ (x : TSt) (v1 : Int32) (rec22 : Int32 × Int32 → Option (Int32)) (hrec22 : ∀ (v2 : Int32), ∀ (v3 : Int32), ∀ (H : Heap) (locs : List Loc) (ls : Array Slot), rec22 (v2, v3) = some res → va_P D vwCl (W_Table cI a x) H → va_D A (W_Table cI a x) → va_S A s.heap H locs → lv_has ls 4 [(0, .ref (a 0)), (1, .int v1), (2, .int v2), (3, .int v3)] → W p l e ({ frames := 1, cells := 0, slots := 0, locals := 23 } : Room) s m ([.ref (a 0), .int p1] : List Value).toArray below meth c H locs 0 0 (MQ below (QW D (TY cI cV cJ cD) (W_Table cI a x) A (some (.int res))) (([.ref (a 0), .int p1] : List Value).toArray) s 0 0 A) (F0 m 22 ls [])) (v2 : Int32) (v3 : Int32) (H : Heap) (locs : List Loc) (ls : Array Slot), fX5_valueAt_22 x v1  rec22 (v2, v3) = some res → va_P D vwCl (W_Table cI a x) H → va_D A (W_Table cI a x) → va_S A s.heap H locs → lv_has ls 4 [(0, .ref (a 0)), (1, .int v1), (2, .int v2), (3, .int v3)] → W p l e ({ frames := 1, cells := 0, slots := 0, locals := 23 } : Room) s m ([.ref (a 0), .int p1] : List Value).toArray below meth c H locs 0 0 (MQ below (QW D (TY cI cV cJ cD) (W_Table cI a x) A (some (.int res))) (([.ref (a 0), .int p1] : List Value).toArray) s 0 0 A) (F0 m 22 ls []) := by
    intro x v1 rec22 hrec22 v2 v3 H locs ls hf hP hD hS hl
    dsimp only [fX5_valueAt_22] at hf
    refine lv_iload_n hx hb dX5_valueAt_22 rfl (lv_at hl 3 rfl) ?_
    refine lv_iload_n hx hb dX5_valueAt_23 rfl (lv_at hl 1 rfl) ?_
    refine lv_icmp_ge (tgt := 39) hx hb dX5_valueAt_24 (by decide) (fun c1 => ?_) (fun c1 => ?_)
    · replace hf := if_t c1 hf
      refine lv_iload_n hx hb dX5_valueAt_39 rfl (lv_at hl 2 rfl) ?_
      obtain rfl := Option.some.inj hf
      exact W.iret (v := v2) hx hb hr (fun t ht hW => ⟨rfl, by rw [ht]; exact hP, va_K.moved hW.alike hK, hD, hS.F ht⟩) hS.2.2 dX5_valueAt_40 hlocks
    · replace hf := if_f c1 hf
      refine lv_aload_n hx hb dX5_valueAt_27 rfl (lv_at hl 0 rfl) ?_
      refine lv_iload_n hx hb dX5_valueAt_28 rfl (lv_at hl 2 rfl) ?_
      obtain ⟨u2, hc3, hf⟩ := bind_t hf
      refine k_V (As := [.int v2]) (rest := []) (n := 1) ⟨hx, hb, hml, hown, hts⟩ (met_X5_smallestAbove l a x v2 u2 hc3) w503 w505 ws19 w7 w506 ⟨rfl, by decide +kernel, by decide +kernel, by decide +kernel⟩ ⟨Nat.le_of_ble_eq_true rfl, Nat.le_of_ble_eq_true rfl⟩ hK hE hP hD hS hA (isC := [0, 1, 2, 3]) (isR := []) (isB := [0, 1, 2, 3]) (ws' := W_Table cI a x) ⟨([] : List Nat).filterMap (fun i : Nat => (W_Table cI a x : va_W)[i]?), rfl, rfl, rfl, rfl, by decide, rfl, rfl⟩ 0 4 rfl rfl rfl rfl hl.1 rfl (Nat.le_of_ble_eq_true rfl) dX5_valueAt_29 ⟨Nat.le_of_ble_eq_true rfl, Nat.le_of_ble_eq_true rfl⟩ (fun H locs hP hD hS => ?_)
      try dsimp only at hf
      refine W.eq (g2 := F0 m 32 ls [.int u2]) rfl ?_
      refine lv_istore_n (lv' := [(2, .int u2), (0, .ref (a 0)), (1, .int v1), (3, .int v3)]) hx hb dX5_valueAt_32 rfl hl (by decide) rfl (fun ls hl => ?_)
      obtain ⟨y4, hy4⟩ : ∃ z : Int32, z = (v3 + 1) := ⟨_, rfl⟩
      replace hf := keep_e hf y4 hy4
      refine lv_iinc (v := y4) (lv' := [(3, .int y4), (2, .int u2), (0, .ref (a 0)), (1, .int v1)]) hx hb dX5_valueAt_33 hl (k := 3) rfl (by rw [hy4]; rfl) (by decide) rfl (fun ls hl => ?_)
      refine lv_goto (tgt := 22) hx hb dX5_valueAt_36 (by decide) ?_
      exact hrec22 u2 y4 H locs ls hf hP hD hS (lv_sub hl [2, 3, 1, 0] rfl)
  have L22 : ∀ (x : TSt) (v1 : Int32) (fu : Nat) (v2 : Int32) (v3 : Int32) (H : Heap) (locs : List Loc) (ls : Array Slot), iterK fu (fX5_valueAt_22 x v1 ) (v2, v3) = some res → va_P D vwCl (W_Table cI a x) H → va_D A (W_Table cI a x) → va_S A s.heap H locs → lv_has ls 4 [(0, .ref (a 0)), (1, .int v1), (2, .int v2), (3, .int v3)] → W p l e ({ frames := 1, cells := 0, slots := 0, locals := 23 } : Room) s m ([.ref (a 0), .int p1] : List Value).toArray below meth c H locs 0 0 (MQ below (QW D (TY cI cV cJ cD) (W_Table cI a x) A (some (.int res))) (([.ref (a 0), .int p1] : List Value).toArray) s 0 0 A) (F0 m 22 ls []) := by
    intro x v1 fu
    induction fu with
    | zero =>
      intro v2 v3 H locs ls hf
      cases hf
    | succ fu ih =>
      intro v2 v3 H locs ls hf hP hD hS hl
      exact S22 x v1 (iterK fu (fX5_valueAt_22 x v1 )) ih v2 v3 H locs ls hf hP hD hS hl
  have M0 : ∀ (H : Heap) (locs : List Loc) (ls : Array Slot), fX5_valueAt x p1 = some res → va_P D vwCl (W_Table cI a x) H → va_D A (W_Table cI a x) → va_S A s.heap H locs → lv_has ls 4 [(0, .ref (a 0)), (1, .int p1)] → W p l e ({ frames := 1, cells := 0, slots := 0, locals := 23 } : Room) s m ([.ref (a 0), .int p1] : List Value).toArray below meth c H locs 0 0 (MQ below (QW D (TY cI cV cJ cD) (W_Table cI a x) A (some (.int res))) (([.ref (a 0), .int p1] : List Value).toArray) s 0 0 A) (F0 m 0 ls []) := by
    intro H locs ls hf hP hD hS hl
    dsimp only [fX5_valueAt] at hf
    refine lv_iload_n hx hb dX5_valueAt_0 rfl (lv_at hl 1 rfl) ?_
    refine lv_if_lt (tgt := 12) hx hb dX5_valueAt_1 (by decide) (fun c5 => ?_) (fun c5 => ?_)
    · replace hf := if_t c5 hf
      refine lv_iconst (v := (-1)) hx hb dX5_valueAt_12 (by decide) ?_
      obtain rfl := Option.some.inj hf
      exact W.iret (v := (-1)) hx hb hr (fun t ht hW => ⟨rfl, by rw [ht]; exact hP, va_K.moved hW.alike hK, hD, hS.F ht⟩) hS.2.2 dX5_valueAt_13 hlocks
    · replace hf := if_f c5 hf
      refine lv_iload_n hx hb dX5_valueAt_4 rfl (lv_at hl 1 rfl) ?_
      refine lv_aload_n hx hb dX5_valueAt_5 rfl (lv_at hl 0 rfl) ?_
      refine va_get (D := D) (ci := 4) (v := .int (tbC x)) (C := RX5) (T := TX5) (N := 5) hx hb hg in_X5 hown hK hP 0 rfl rfl 4 (by decide) (hg _ w103) (fun _ h9 => h9) rfl dX5_valueAt_6 ?_
      refine lv_icmp_lt (tgt := 14) hx hb dX5_valueAt_9 (by decide) (fun c6 => ?_) (fun c6 => ?_)
      · replace hf := if_t c6 hf
        refine lv_aload_n hx hb dX5_valueAt_14 rfl (lv_at hl 0 rfl) ?_
        refine lv_iconst (v := (-1)) hx hb dX5_valueAt_15 (by decide) ?_
        obtain ⟨u7, hc8, hf⟩ := bind_t hf
        refine k_V (As := [.int (-1)]) (rest := []) (n := 1) ⟨hx, hb, hml, hown, hts⟩ (met_X5_smallestAbove l a x (-1) u7 hc8) w503 w505 ws19 w7 w506 ⟨rfl, by decide +kernel, by decide +kernel, by decide +kernel⟩ ⟨Nat.le_of_ble_eq_true rfl, Nat.le_of_ble_eq_true rfl⟩ hK hE hP hD hS hA (isC := [0, 1, 2, 3]) (isR := []) (isB := [0, 1, 2, 3]) (ws' := W_Table cI a x) ⟨([] : List Nat).filterMap (fun i : Nat => (W_Table cI a x : va_W)[i]?), rfl, rfl, rfl, rfl, by decide, rfl, rfl⟩ 0 4 rfl rfl rfl rfl hl.1 rfl (Nat.le_of_ble_eq_true rfl) dX5_valueAt_16 ⟨Nat.le_of_ble_eq_true rfl, Nat.le_of_ble_eq_true rfl⟩ (fun H locs hP hD hS => ?_)
        try dsimp only at hf
        refine W.eq (g2 := F0 m 19 ls [.int u7]) rfl ?_
        refine lv_istore_n (lv' := [(2, .int u7), (0, .ref (a 0)), (1, .int p1)]) hx hb dX5_valueAt_19 rfl hl (by decide) rfl (fun ls hl => ?_)
        refine lv_iconst (v := 0) hx hb dX5_valueAt_20 (by decide) ?_
        refine lv_istore_n (lv' := [(3, .int 0), (2, .int u7), (0, .ref (a 0)), (1, .int p1)]) hx hb dX5_valueAt_21 rfl hl (by decide) rfl (fun ls hl => ?_)
        exact L22 x p1 FU u7 0 H locs ls hf hP hD hS (lv_sub hl [2, 3, 1, 0] rfl)
      · replace hf := if_f c6 hf
        refine lv_iconst (v := (-1)) hx hb dX5_valueAt_12 (by decide) ?_
        obtain rfl := Option.some.inj hf
        exact W.iret (v := (-1)) hx hb hr (fun t ht hW => ⟨rfl, by rw [ht]; exact hP, va_K.moved hW.alike hK, hD, hS.F ht⟩) hS.2.2 dX5_valueAt_13 hlocks
  exact M0 s.heap [] ls hf hP hD hS hl
/-! Compactforms$Table.bitsAt(I)I -/
def fX5_bitsAt (x : TSt) (p1 : Int32) : Option (Int32) := some 0
set_option maxHeartbeats 4000000 in
set_option maxRecDepth 100000 in
theorem met_X5_bitsAt {D : va_G} {cI cV cJ cD : ClassId} (l : Launch) (a : Nat → Nat) (x : TSt) (p1 : Int32) (res : Int32) (hf : fX5_bitsAt x p1 = some res) : MM l yX5_bitsAt cX5_bitsAt 2 (some .int) { frames := 0, cells := 0, slots := 0, locals := 0 } D (TY cI cV cJ cD) (W_Table cI a x) (W_Table cI a x) [.ref (a 0), .int p1] (some (.int res)) := by
  intro sz
  refine Met.ofW (cc := cX5_bitsAt) (maxL := 2) (ret := (some .int)) (by decide +kernel) rfl ?_
  intro p e s m args below meth c s₁ B hml hv
  obtain ⟨rfl, hsz, hP, hK, hD0, hE⟩ := hv
  have hx := B.exec
  have hb := B.bytes
  have hr := B.returns
  have hts := atoms_spec (ws := .code yX5_bitsAt cX5_bitsAt 2 (some .int) :: GW) B.pre
  have hg : ∀ w ∈ GW, w.before (([.ref (a 0), .int p1] : List Value).toArray) s = true := fun w h => hts w (List.mem_cons_of_mem _ h)
  have hown : s.vm.findClass RX5 = some m.cls := findClass_of_methodNamed B.named
  have hlocks := B.notSynchronized
  subst hsz
  have hD := hD0.self (sz := s.heap.size)
  generalize hAe : va_A (W_Table cI a x) s.heap.size = A at hD hE ⊢
  have hA : ∀ q : Nat, s.heap.size ≤ q → A q := fun q h => by rw [← hAe]; exact Or.inr h
  have hS : va_S A s.heap s.heap [] := va_S.rf
  have hl := lv_entry ([.ref (a 0), .int p1]) (n := 2) (Nat.le_of_ble_eq_true rfl)
  rw [lg_entry_eq]
  generalize (lg_sl ([.ref (a 0), .int p1]) ++ List.replicate (2 - (lg_sl ([.ref (a 0), .int p1])).length) Slot.unset).toArray = ls at hl ⊢
  have hl : lv_has ls 2 [(0, .ref (a 0)), (1, .int p1)] := hl
  have M0 : ∀ (H : Heap) (locs : List Loc) (ls : Array Slot), fX5_bitsAt x p1 = some res → va_P D vwCl (W_Table cI a x) H → va_D A (W_Table cI a x) → va_S A s.heap H locs → lv_has ls 2 [(0, .ref (a 0)), (1, .int p1)] → W p l e ({ frames := 0, cells := 0, slots := 0, locals := 0 } : Room) s m ([.ref (a 0), .int p1] : List Value).toArray below meth c H locs 0 0 (MQ below (QW D (TY cI cV cJ cD) (W_Table cI a x) A (some (.int res))) (([.ref (a 0), .int p1] : List Value).toArray) s 0 0 A) (F0 m 0 ls []) := by
    intro H locs ls hf hP hD hS hl
    dsimp only [fX5_bitsAt] at hf
    refine lv_iconst (v := 0) hx hb dX5_bitsAt_0 (by decide) ?_
    obtain rfl := Option.some.inj hf
    exact W.iret (v := 0) hx hb hr (fun t ht hW => ⟨rfl, by rw [ht]; exact hP, va_K.moved hW.alike hK, hD, hS.F ht⟩) hS.2.2 dX5_bitsAt_1 hlocks
  exact M0 s.heap [] ls hf hP hD hS hl
/-! Compactforms$Table.countBelow(I)I -/
def fX5_countBelow_4 (x : TSt) (v1 : Int32) (rec4 : Int32 × Int32 → Option (Int32)) (s : Int32 × Int32) : Option (Int32) := match s with | (v2, v3) => (if 40 ≤ v3 then some v2 else chk (inb v3 40) ((if ((tbM x) (v3).toNatClampNeg) = (-1) then keep (v3 + 1) (fun y4 => rec4 (v2, y4)) else chk (inb v3 40) ((if v1 ≤ ((tbM x) (v3).toNatClampNeg) then keep (v3 + 1) (fun y7 => rec4 (v2, y7)) else keep (v2 + 1) (fun y8 => keep (v3 + 1) (fun y9 => rec4 (y8, y9))))))))
def fX5_countBelow (x : TSt) (p1 : Int32) : Option (Int32) := iterK FU (fX5_countBelow_4 x p1) (0, 0)
set_option maxHeartbeats 4000000 in
set_option maxRecDepth 100000 in
theorem met_X5_countBelow {D : va_G} {cI cV cJ cD : ClassId} (l : Launch) (a : Nat → Nat) (x : TSt) (p1 : Int32) (res : Int32) (hf : fX5_countBelow x p1 = some res) : MM l yX5_countBelow cX5_countBelow 4 (some .int) { frames := 0, cells := 0, slots := 0, locals := 0 } D (TY cI cV cJ cD) (W_Table cI a x) (W_Table cI a x) [.ref (a 0), .int p1] (some (.int res)) := by
  intro sz
  refine Met.ofW (cc := cX5_countBelow) (maxL := 4) (ret := (some .int)) (by decide +kernel) rfl ?_
  intro p e s m args below meth c s₁ B hml hv
  obtain ⟨rfl, hsz, hP, hK, hD0, hE⟩ := hv
  have hx := B.exec
  have hb := B.bytes
  have hr := B.returns
  have hts := atoms_spec (ws := .code yX5_countBelow cX5_countBelow 4 (some .int) :: GW) B.pre
  have hg : ∀ w ∈ GW, w.before (([.ref (a 0), .int p1] : List Value).toArray) s = true := fun w h => hts w (List.mem_cons_of_mem _ h)
  have hown : s.vm.findClass RX5 = some m.cls := findClass_of_methodNamed B.named
  have hlocks := B.notSynchronized
  subst hsz
  have hD := hD0.self (sz := s.heap.size)
  generalize hAe : va_A (W_Table cI a x) s.heap.size = A at hD hE ⊢
  have hA : ∀ q : Nat, s.heap.size ≤ q → A q := fun q h => by rw [← hAe]; exact Or.inr h
  have hS : va_S A s.heap s.heap [] := va_S.rf
  have hl := lv_entry ([.ref (a 0), .int p1]) (n := 4) (Nat.le_of_ble_eq_true rfl)
  rw [lg_entry_eq]
  generalize (lg_sl ([.ref (a 0), .int p1]) ++ List.replicate (4 - (lg_sl ([.ref (a 0), .int p1])).length) Slot.unset).toArray = ls at hl ⊢
  have hl : lv_has ls 4 [(0, .ref (a 0)), (1, .int p1)] := hl
  have S4 : ∀ (x : TSt) (v1 : Int32) (rec4 : Int32 × Int32 → Option (Int32)) (hrec4 : ∀ (v2 : Int32), ∀ (v3 : Int32), ∀ (H : Heap) (locs : List Loc) (ls : Array Slot), rec4 (v2, v3) = some res → va_P D vwCl (W_Table cI a x) H → va_D A (W_Table cI a x) → va_S A s.heap H locs → lv_has ls 4 [(0, .ref (a 0)), (1, .int v1), (2, .int v2), (3, .int v3)] → W p l e ({ frames := 0, cells := 0, slots := 0, locals := 0 } : Room) s m ([.ref (a 0), .int p1] : List Value).toArray below meth c H locs 0 0 (MQ below (QW D (TY cI cV cJ cD) (W_Table cI a x) A (some (.int res))) (([.ref (a 0), .int p1] : List Value).toArray) s 0 0 A) (F0 m 4 ls [])) (v2 : Int32) (v3 : Int32) (H : Heap) (locs : List Loc) (ls : Array Slot), fX5_countBelow_4 x v1  rec4 (v2, v3) = some res → va_P D vwCl (W_Table cI a x) H → va_D A (W_Table cI a x) → va_S A s.heap H locs → lv_has ls 4 [(0, .ref (a 0)), (1, .int v1), (2, .int v2), (3, .int v3)] → W p l e ({ frames := 0, cells := 0, slots := 0, locals := 0 } : Room) s m ([.ref (a 0), .int p1] : List Value).toArray below meth c H locs 0 0 (MQ below (QW D (TY cI cV cJ cD) (W_Table cI a x) A (some (.int res))) (([.ref (a 0), .int p1] : List Value).toArray) s 0 0 A) (F0 m 4 ls []) := by
    intro x v1 rec4 hrec4 v2 v3 H locs ls hf hP hD hS hl
    dsimp only [fX5_countBelow_4] at hf
    refine lv_iload_n hx hb dX5_countBelow_4 rfl (lv_at hl 3 rfl) ?_
    refine lv_bipush (v := 40) hx hb dX5_countBelow_5 (by decide) ?_
    refine lv_icmp_ge (tgt := 39) hx hb dX5_countBelow_7 (by decide) (fun c1 => ?_) (fun c1 => ?_)
    · replace hf := if_t c1 hf
      refine lv_iload_n hx hb dX5_countBelow_39 rfl (lv_at hl 2 rfl) ?_
      obtain rfl := Option.some.inj hf
      exact W.iret (v := v2) hx hb hr (fun t ht hW => ⟨rfl, by rw [ht]; exact hP, va_K.moved hW.alike hK, hD, hS.F ht⟩) hS.2.2 dX5_countBelow_40 hlocks
    · replace hf := if_f c1 hf
      refine lv_aload_n hx hb dX5_countBelow_10 rfl (lv_at hl 0 rfl) ?_
      refine va_get (D := D) (ci := 4) (v := .ref (a 2)) (C := RX5) (T := TX5) (N := 5) hx hb hg in_X5 hown hK hP 0 rfl rfl 1 (by decide) (hg _ w100) (fun _ h9 => h9) rfl dX5_countBelow_11 ?_
      refine lv_iload_n hx hb dX5_countBelow_14 rfl (lv_at hl 3 rfl) ?_
      obtain ⟨hi2, hf⟩ := chk_t hf
      refine va_iald hx hb hK hP 2 0 rfl rfl (inb_in hi2) dX5_countBelow_15 ?_
      refine lv_iconst (v := (-1)) hx hb dX5_countBelow_16 (by decide) ?_
      refine lv_icmp_eq (tgt := 33) hx hb dX5_countBelow_17 (by decide) (fun c3 => ?_) (fun c3 => ?_)
      · replace hf := if_t c3 hf
        obtain ⟨y4, hy4⟩ : ∃ z : Int32, z = (v3 + 1) := ⟨_, rfl⟩
        replace hf := keep_e hf y4 hy4
        refine lv_iinc (v := y4) (lv' := [(3, .int y4), (0, .ref (a 0)), (1, .int v1), (2, .int v2)]) hx hb dX5_countBelow_33 hl (k := 3) rfl (by rw [hy4]; rfl) (by decide) rfl (fun ls hl => ?_)
        refine lv_goto (tgt := 4) hx hb dX5_countBelow_36 (by decide) ?_
        exact hrec4 v2 y4 H locs ls hf hP hD hS (lv_sub hl [1, 2, 3, 0] rfl)
      · replace hf := if_f c3 hf
        refine lv_aload_n hx hb dX5_countBelow_20 rfl (lv_at hl 0 rfl) ?_
        refine va_get (D := D) (ci := 4) (v := .ref (a 2)) (C := RX5) (T := TX5) (N := 5) hx hb hg in_X5 hown hK hP 0 rfl rfl 1 (by decide) (hg _ w100) (fun _ h9 => h9) rfl dX5_countBelow_21 ?_
        refine lv_iload_n hx hb dX5_countBelow_24 rfl (lv_at hl 3 rfl) ?_
        obtain ⟨hi5, hf⟩ := chk_t hf
        refine va_iald hx hb hK hP 2 0 rfl rfl (inb_in hi5) dX5_countBelow_25 ?_
        refine lv_iload_n hx hb dX5_countBelow_26 rfl (lv_at hl 1 rfl) ?_
        refine lv_icmp_ge (tgt := 33) hx hb dX5_countBelow_27 (by decide) (fun c6 => ?_) (fun c6 => ?_)
        · replace hf := if_t c6 hf
          obtain ⟨y7, hy7⟩ : ∃ z : Int32, z = (v3 + 1) := ⟨_, rfl⟩
          replace hf := keep_e hf y7 hy7
          refine lv_iinc (v := y7) (lv' := [(3, .int y7), (0, .ref (a 0)), (1, .int v1), (2, .int v2)]) hx hb dX5_countBelow_33 hl (k := 3) rfl (by rw [hy7]; rfl) (by decide) rfl (fun ls hl => ?_)
          refine lv_goto (tgt := 4) hx hb dX5_countBelow_36 (by decide) ?_
          exact hrec4 v2 y7 H locs ls hf hP hD hS (lv_sub hl [1, 2, 3, 0] rfl)
        · replace hf := if_f c6 hf
          obtain ⟨y8, hy8⟩ : ∃ z : Int32, z = (v2 + 1) := ⟨_, rfl⟩
          replace hf := keep_e hf y8 hy8
          refine lv_iinc (v := y8) (lv' := [(2, .int y8), (0, .ref (a 0)), (1, .int v1), (3, .int v3)]) hx hb dX5_countBelow_30 hl (k := 2) rfl (by rw [hy8]; rfl) (by decide) rfl (fun ls hl => ?_)
          obtain ⟨y9, hy9⟩ : ∃ z : Int32, z = (v3 + 1) := ⟨_, rfl⟩
          replace hf := keep_e hf y9 hy9
          refine lv_iinc (v := y9) (lv' := [(3, .int y9), (2, .int y8), (0, .ref (a 0)), (1, .int v1)]) hx hb dX5_countBelow_33 hl (k := 3) rfl (by rw [hy9]; rfl) (by decide) rfl (fun ls hl => ?_)
          refine lv_goto (tgt := 4) hx hb dX5_countBelow_36 (by decide) ?_
          exact hrec4 y8 y9 H locs ls hf hP hD hS (lv_sub hl [2, 3, 1, 0] rfl)
  have L4 : ∀ (x : TSt) (v1 : Int32) (fu : Nat) (v2 : Int32) (v3 : Int32) (H : Heap) (locs : List Loc) (ls : Array Slot), iterK fu (fX5_countBelow_4 x v1 ) (v2, v3) = some res → va_P D vwCl (W_Table cI a x) H → va_D A (W_Table cI a x) → va_S A s.heap H locs → lv_has ls 4 [(0, .ref (a 0)), (1, .int v1), (2, .int v2), (3, .int v3)] → W p l e ({ frames := 0, cells := 0, slots := 0, locals := 0 } : Room) s m ([.ref (a 0), .int p1] : List Value).toArray below meth c H locs 0 0 (MQ below (QW D (TY cI cV cJ cD) (W_Table cI a x) A (some (.int res))) (([.ref (a 0), .int p1] : List Value).toArray) s 0 0 A) (F0 m 4 ls []) := by
    intro x v1 fu
    induction fu with
    | zero =>
      intro v2 v3 H locs ls hf
      cases hf
    | succ fu ih =>
      intro v2 v3 H locs ls hf hP hD hS hl
      exact S4 x v1 (iterK fu (fX5_countBelow_4 x v1 )) ih v2 v3 H locs ls hf hP hD hS hl
  have M0 : ∀ (H : Heap) (locs : List Loc) (ls : Array Slot), fX5_countBelow x p1 = some res → va_P D vwCl (W_Table cI a x) H → va_D A (W_Table cI a x) → va_S A s.heap H locs → lv_has ls 4 [(0, .ref (a 0)), (1, .int p1)] → W p l e ({ frames := 0, cells := 0, slots := 0, locals := 0 } : Room) s m ([.ref (a 0), .int p1] : List Value).toArray below meth c H locs 0 0 (MQ below (QW D (TY cI cV cJ cD) (W_Table cI a x) A (some (.int res))) (([.ref (a 0), .int p1] : List Value).toArray) s 0 0 A) (F0 m 0 ls []) := by
    intro H locs ls hf hP hD hS hl
    dsimp only [fX5_countBelow] at hf
    refine lv_iconst (v := 0) hx hb dX5_countBelow_0 (by decide) ?_
    refine lv_istore_n (lv' := [(2, .int 0), (0, .ref (a 0)), (1, .int p1)]) hx hb dX5_countBelow_1 rfl hl (by decide) rfl (fun ls hl => ?_)
    refine lv_iconst (v := 0) hx hb dX5_countBelow_2 (by decide) ?_
    refine lv_istore_n (lv' := [(3, .int 0), (2, .int 0), (0, .ref (a 0)), (1, .int p1)]) hx hb dX5_countBelow_3 rfl hl (by decide) rfl (fun ls hl => ?_)
    exact L4 x p1 FU 0 0 H locs ls hf hP hD hS (lv_sub hl [2, 3, 1, 0] rfl)
  exact M0 s.heap [] ls hf hP hD hS hl
/-! Compactforms$Table.placeOf(I)I -/
def fX5_placeOf_55 (x : TSt) (v1 : Int32) (v2 : Int32) : Option (Int32) := (if v2 = (-1) then some (-1) else (fX5_countBelow x v1).bind (fun u2 => some u2))
def fX5_placeOf_21 (x : TSt) (v1 : Int32) (rec21 : Int32 × Int32 → Option (Int32)) (s : Int32 × Int32) : Option (Int32) := match s with | (v2, v3) => (if 40 ≤ v3 then fX5_placeOf_55 x v1 v2 else (if v2 = (-1) then fX5_placeOf_55 x v1 v2 else chk (inb v2 40) ((if ((tbM x) (v2).toNatClampNeg) = v1 then fX5_placeOf_55 x v1 v2 else chk (inb v2 40) (keep ((tbX x) (v2).toNatClampNeg) (fun y9 => keep (v3 + 1) (fun y10 => rec21 (y9, y10))))))))
def fX5_placeOf (x : TSt) (p1 : Int32) : Option (Int32) := (if 0 ≤ p1 then (fX5_bucketOf x p1).bind (fun u12 => chk (inb u12 64) (keep ((tbH x) (u12).toNatClampNeg) (fun y15 => iterK FU (fX5_placeOf_21 x p1) (y15, 0)))) else iterK FU (fX5_placeOf_21 x p1) ((-1), 0))
set_option maxHeartbeats 4000000 in
set_option maxRecDepth 100000 in
theorem met_X5_placeOf {D : va_G} {cI cV cJ cD : ClassId} (l : Launch) (a : Nat → Nat) (x : TSt) (p1 : Int32) (res : Int32) (hf : fX5_placeOf x p1 = some res) : MM l yX5_placeOf cX5_placeOf 4 (some .int) { frames := 1, cells := 0, slots := 0, locals := 23 } D (TY cI cV cJ cD) (W_Table cI a x) (W_Table cI a x) [.ref (a 0), .int p1] (some (.int res)) := by
  intro sz
  refine Met.ofW (cc := cX5_placeOf) (maxL := 4) (ret := (some .int)) (by decide +kernel) rfl ?_
  intro p e s m args below meth c s₁ B hml hv
  obtain ⟨rfl, hsz, hP, hK, hD0, hE⟩ := hv
  have hx := B.exec
  have hb := B.bytes
  have hr := B.returns
  have hts := atoms_spec (ws := .code yX5_placeOf cX5_placeOf 4 (some .int) :: GW) B.pre
  have hg : ∀ w ∈ GW, w.before (([.ref (a 0), .int p1] : List Value).toArray) s = true := fun w h => hts w (List.mem_cons_of_mem _ h)
  have hown : s.vm.findClass RX5 = some m.cls := findClass_of_methodNamed B.named
  have hlocks := B.notSynchronized
  subst hsz
  have hD := hD0.self (sz := s.heap.size)
  generalize hAe : va_A (W_Table cI a x) s.heap.size = A at hD hE ⊢
  have hA : ∀ q : Nat, s.heap.size ≤ q → A q := fun q h => by rw [← hAe]; exact Or.inr h
  have hS : va_S A s.heap s.heap [] := va_S.rf
  have hl := lv_entry ([.ref (a 0), .int p1]) (n := 4) (Nat.le_of_ble_eq_true rfl)
  rw [lg_entry_eq]
  generalize (lg_sl ([.ref (a 0), .int p1]) ++ List.replicate (4 - (lg_sl ([.ref (a 0), .int p1])).length) Slot.unset).toArray = ls at hl ⊢
  have hl : lv_has ls 4 [(0, .ref (a 0)), (1, .int p1)] := hl
  have L55 : ∀ (x : TSt) (v1 : Int32) (v2 : Int32) (H : Heap) (locs : List Loc) (ls : Array Slot), fX5_placeOf_55 x v1 v2  = some res → va_P D vwCl (W_Table cI a x) H → va_D A (W_Table cI a x) → va_S A s.heap H locs → lv_has ls 4 [(0, .ref (a 0)), (1, .int v1), (2, .int v2)] → W p l e ({ frames := 1, cells := 0, slots := 0, locals := 23 } : Room) s m ([.ref (a 0), .int p1] : List Value).toArray below meth c H locs 0 0 (MQ below (QW D (TY cI cV cJ cD) (W_Table cI a x) A (some (.int res))) (([.ref (a 0), .int p1] : List Value).toArray) s 0 0 A) (F0 m 55 ls []) := by
    intro x v1 v2 H locs ls hf hP hD hS hl
    dsimp only [fX5_placeOf_55] at hf
    refine lv_iload_n hx hb dX5_placeOf_55 rfl (lv_at hl 2 rfl) ?_
    refine lv_iconst (v := (-1)) hx hb dX5_placeOf_56 (by decide) ?_
    refine lv_icmp_ne (tgt := 64) hx hb dX5_placeOf_57 (by decide) (fun c1 => ?_) (fun c1 => ?_)
    · replace hf := if_f c1 hf
      refine lv_aload_n hx hb dX5_placeOf_64 rfl (lv_at hl 0 rfl) ?_
      refine lv_iload_n hx hb dX5_placeOf_65 rfl (lv_at hl 1 rfl) ?_
      obtain ⟨u2, hc3, hf⟩ := bind_t hf
      refine k_V (As := [.int v1]) (rest := []) (n := 1) ⟨hx, hb, hml, hown, hts⟩ (met_X5_countBelow l a x v1 u2 hc3) w356 w358 ws6 w7 w359 ⟨rfl, by decide +kernel, by decide +kernel, by decide +kernel⟩ ⟨Nat.le_of_ble_eq_true rfl, Nat.le_of_ble_eq_true rfl⟩ hK hE hP hD hS hA (isC := [0, 1, 2, 3]) (isR := []) (isB := [0, 1, 2, 3]) (ws' := W_Table cI a x) ⟨([] : List Nat).filterMap (fun i : Nat => (W_Table cI a x : va_W)[i]?), rfl, rfl, rfl, rfl, by decide, rfl, rfl⟩ 0 4 rfl rfl rfl rfl hl.1 rfl (Nat.le_of_ble_eq_true rfl) dX5_placeOf_66 ⟨Nat.le_of_ble_eq_true rfl, Nat.le_of_ble_eq_true rfl⟩ (fun H locs hP hD hS => ?_)
      try dsimp only at hf
      refine W.eq (g2 := F0 m 69 ls [.int u2]) rfl ?_
      obtain rfl := Option.some.inj hf
      exact W.iret (v := u2) hx hb hr (fun t ht hW => ⟨rfl, by rw [ht]; exact hP, va_K.moved hW.alike hK, hD, hS.F ht⟩) hS.2.2 dX5_placeOf_69 hlocks
    · replace hf := if_t c1 hf
      refine lv_iconst (v := (-1)) hx hb dX5_placeOf_60 (by decide) ?_
      refine lv_goto (tgt := 69) hx hb dX5_placeOf_61 (by decide) ?_
      obtain rfl := Option.some.inj hf
      exact W.iret (v := (-1)) hx hb hr (fun t ht hW => ⟨rfl, by rw [ht]; exact hP, va_K.moved hW.alike hK, hD, hS.F ht⟩) hS.2.2 dX5_placeOf_69 hlocks
  have S21 : ∀ (x : TSt) (v1 : Int32) (rec21 : Int32 × Int32 → Option (Int32)) (hrec21 : ∀ (v2 : Int32), ∀ (v3 : Int32), ∀ (H : Heap) (locs : List Loc) (ls : Array Slot), rec21 (v2, v3) = some res → va_P D vwCl (W_Table cI a x) H → va_D A (W_Table cI a x) → va_S A s.heap H locs → lv_has ls 4 [(0, .ref (a 0)), (1, .int v1), (2, .int v2), (3, .int v3)] → W p l e ({ frames := 1, cells := 0, slots := 0, locals := 23 } : Room) s m ([.ref (a 0), .int p1] : List Value).toArray below meth c H locs 0 0 (MQ below (QW D (TY cI cV cJ cD) (W_Table cI a x) A (some (.int res))) (([.ref (a 0), .int p1] : List Value).toArray) s 0 0 A) (F0 m 21 ls [])) (v2 : Int32) (v3 : Int32) (H : Heap) (locs : List Loc) (ls : Array Slot), fX5_placeOf_21 x v1  rec21 (v2, v3) = some res → va_P D vwCl (W_Table cI a x) H → va_D A (W_Table cI a x) → va_S A s.heap H locs → lv_has ls 4 [(0, .ref (a 0)), (1, .int v1), (2, .int v2), (3, .int v3)] → W p l e ({ frames := 1, cells := 0, slots := 0, locals := 23 } : Room) s m ([.ref (a 0), .int p1] : List Value).toArray below meth c H locs 0 0 (MQ below (QW D (TY cI cV cJ cD) (W_Table cI a x) A (some (.int res))) (([.ref (a 0), .int p1] : List Value).toArray) s 0 0 A) (F0 m 21 ls []) := by
    intro x v1 rec21 hrec21 v2 v3 H locs ls hf hP hD hS hl
    dsimp only [fX5_placeOf_21] at hf
    refine lv_iload_n hx hb dX5_placeOf_21 rfl (lv_at hl 3 rfl) ?_
    refine lv_bipush (v := 40) hx hb dX5_placeOf_22 (by decide) ?_
    refine lv_icmp_ge (tgt := 55) hx hb dX5_placeOf_24 (by decide) (fun c4 => ?_) (fun c4 => ?_)
    · replace hf := if_t c4 hf
      exact L55 x v1 v2 H locs ls hf hP hD hS (lv_sub hl [0, 1, 2] rfl)
    · replace hf := if_f c4 hf
      refine lv_iload_n hx hb dX5_placeOf_27 rfl (lv_at hl 2 rfl) ?_
      refine lv_iconst (v := (-1)) hx hb dX5_placeOf_28 (by decide) ?_
      refine lv_icmp_eq (tgt := 55) hx hb dX5_placeOf_29 (by decide) (fun c5 => ?_) (fun c5 => ?_)
      · replace hf := if_t c5 hf
        exact L55 x v1 v2 H locs ls hf hP hD hS (lv_sub hl [0, 1, 2] rfl)
      · replace hf := if_f c5 hf
        refine lv_aload_n hx hb dX5_placeOf_32 rfl (lv_at hl 0 rfl) ?_
        refine va_get (D := D) (ci := 4) (v := .ref (a 2)) (C := RX5) (T := TX5) (N := 5) hx hb hg in_X5 hown hK hP 0 rfl rfl 1 (by decide) (hg _ w100) (fun _ h9 => h9) rfl dX5_placeOf_33 ?_
        refine lv_iload_n hx hb dX5_placeOf_36 rfl (lv_at hl 2 rfl) ?_
        obtain ⟨hi6, hf⟩ := chk_t hf
        refine va_iald hx hb hK hP 2 0 rfl rfl (inb_in hi6) dX5_placeOf_37 ?_
        refine lv_iload_n hx hb dX5_placeOf_38 rfl (lv_at hl 1 rfl) ?_
        refine lv_icmp_eq (tgt := 55) hx hb dX5_placeOf_39 (by decide) (fun c7 => ?_) (fun c7 => ?_)
        · replace hf := if_t c7 hf
          exact L55 x v1 v2 H locs ls hf hP hD hS (lv_sub hl [0, 1, 2] rfl)
        · replace hf := if_f c7 hf
          refine lv_aload_n hx hb dX5_placeOf_42 rfl (lv_at hl 0 rfl) ?_
          refine va_get (D := D) (ci := 4) (v := .ref (a 3)) (C := RX5) (T := TX5) (N := 5) hx hb hg in_X5 hown hK hP 0 rfl rfl 2 (by decide) (hg _ w101) (fun _ h9 => h9) rfl dX5_placeOf_43 ?_
          refine lv_iload_n hx hb dX5_placeOf_46 rfl (lv_at hl 2 rfl) ?_
          obtain ⟨hi8, hf⟩ := chk_t hf
          refine va_iald hx hb hK hP 3 0 rfl rfl (inb_in hi8) dX5_placeOf_47 ?_
          refine lv_topi (fun y9 hy9 => ?_)
          replace hf := keep_e hf y9 hy9
          refine lv_istore_n (lv' := [(2, .int y9), (0, .ref (a 0)), (1, .int v1), (3, .int v3)]) hx hb dX5_placeOf_48 rfl hl (by decide) rfl (fun ls hl => ?_)
          obtain ⟨y10, hy10⟩ : ∃ z : Int32, z = (v3 + 1) := ⟨_, rfl⟩
          replace hf := keep_e hf y10 hy10
          refine lv_iinc (v := y10) (lv' := [(3, .int y10), (2, .int y9), (0, .ref (a 0)), (1, .int v1)]) hx hb dX5_placeOf_49 hl (k := 3) rfl (by rw [hy10]; rfl) (by decide) rfl (fun ls hl => ?_)
          refine lv_goto (tgt := 21) hx hb dX5_placeOf_52 (by decide) ?_
          exact hrec21 y9 y10 H locs ls hf hP hD hS (lv_sub hl [2, 3, 1, 0] rfl)
  have L21 : ∀ (x : TSt) (v1 : Int32) (fu : Nat) (v2 : Int32) (v3 : Int32) (H : Heap) (locs : List Loc) (ls : Array Slot), iterK fu (fX5_placeOf_21 x v1 ) (v2, v3) = some res → va_P D vwCl (W_Table cI a x) H → va_D A (W_Table cI a x) → va_S A s.heap H locs → lv_has ls 4 [(0, .ref (a 0)), (1, .int v1), (2, .int v2), (3, .int v3)] → W p l e ({ frames := 1, cells := 0, slots := 0, locals := 23 } : Room) s m ([.ref (a 0), .int p1] : List Value).toArray below meth c H locs 0 0 (MQ below (QW D (TY cI cV cJ cD) (W_Table cI a x) A (some (.int res))) (([.ref (a 0), .int p1] : List Value).toArray) s 0 0 A) (F0 m 21 ls []) := by
    intro x v1 fu
    induction fu with
    | zero =>
      intro v2 v3 H locs ls hf
      cases hf
    | succ fu ih =>
      intro v2 v3 H locs ls hf hP hD hS hl
      exact S21 x v1 (iterK fu (fX5_placeOf_21 x v1 )) ih v2 v3 H locs ls hf hP hD hS hl
  have M0 : ∀ (H : Heap) (locs : List Loc) (ls : Array Slot), fX5_placeOf x p1 = some res → va_P D vwCl (W_Table cI a x) H → va_D A (W_Table cI a x) → va_S A s.heap H locs → lv_has ls 4 [(0, .ref (a 0)), (1, .int p1)] → W p l e ({ frames := 1, cells := 0, slots := 0, locals := 23 } : Room) s m ([.ref (a 0), .int p1] : List Value).toArray below meth c H locs 0 0 (MQ below (QW D (TY cI cV cJ cD) (W_Table cI a x) A (some (.int res))) (([.ref (a 0), .int p1] : List Value).toArray) s 0 0 A) (F0 m 0 ls []) := by
    intro H locs ls hf hP hD hS hl
    dsimp only [fX5_placeOf] at hf
    refine lv_iload_n hx hb dX5_placeOf_0 rfl (lv_at hl 1 rfl) ?_
    refine lv_if_ge (tgt := 8) hx hb dX5_placeOf_1 (by decide) (fun c11 => ?_) (fun c11 => ?_)
    · replace hf := if_t c11 hf
      refine lv_aload_n hx hb dX5_placeOf_8 rfl (lv_at hl 0 rfl) ?_
      refine va_get (D := D) (ci := 4) (v := .ref (a 1)) (C := RX5) (T := TX5) (N := 5) hx hb hg in_X5 hown hK hP 0 rfl rfl 0 (by decide) (hg _ w99) (fun _ h9 => h9) rfl dX5_placeOf_9 ?_
      refine lv_aload_n hx hb dX5_placeOf_12 rfl (lv_at hl 0 rfl) ?_
      refine lv_iload_n hx hb dX5_placeOf_13 rfl (lv_at hl 1 rfl) ?_
      obtain ⟨u12, hc13, hf⟩ := bind_t hf
      refine k_V (As := [.int p1]) (rest := [.ref (a 1)]) (n := 1) ⟨hx, hb, hml, hown, hts⟩ (met_X5_bucketOf l a x p1 u12 hc13) w352 w354 ws5 w7 w355 ⟨rfl, by decide +kernel, by decide +kernel, by decide +kernel⟩ ⟨Nat.le_of_ble_eq_true rfl, Nat.le_of_ble_eq_true rfl⟩ hK hE hP hD hS hA (isC := [0, 1, 2, 3]) (isR := []) (isB := [0, 1, 2, 3]) (ws' := W_Table cI a x) ⟨([] : List Nat).filterMap (fun i : Nat => (W_Table cI a x : va_W)[i]?), rfl, rfl, rfl, rfl, by decide, rfl, rfl⟩ 0 4 rfl rfl rfl rfl hl.1 rfl (Nat.le_of_ble_eq_true rfl) dX5_placeOf_14 ⟨Nat.le_of_ble_eq_true rfl, Nat.le_of_ble_eq_true rfl⟩ (fun H locs hP hD hS => ?_)
      try dsimp only at hf
      refine W.eq (g2 := F0 m 17 ls [.int u12, .ref (a 1)]) rfl ?_
      obtain ⟨hi14, hf⟩ := chk_t hf
      refine va_iald hx hb hK hP 1 0 rfl rfl (inb_in hi14) dX5_placeOf_17 ?_
      refine lv_topi (fun y15 hy15 => ?_)
      replace hf := keep_e hf y15 hy15
      refine lv_istore_n (lv' := [(2, .int y15), (0, .ref (a 0)), (1, .int p1)]) hx hb dX5_placeOf_18 rfl hl (by decide) rfl (fun ls hl => ?_)
      refine lv_iconst (v := 0) hx hb dX5_placeOf_19 (by decide) ?_
      refine lv_istore_n (lv' := [(3, .int 0), (2, .int y15), (0, .ref (a 0)), (1, .int p1)]) hx hb dX5_placeOf_20 rfl hl (by decide) rfl (fun ls hl => ?_)
      exact L21 x p1 FU y15 0 H locs ls hf hP hD hS (lv_sub hl [2, 3, 1, 0] rfl)
    · replace hf := if_f c11 hf
      refine lv_iconst (v := (-1)) hx hb dX5_placeOf_4 (by decide) ?_
      refine lv_goto (tgt := 18) hx hb dX5_placeOf_5 (by decide) ?_
      refine lv_istore_n (lv' := [(2, .int (-1)), (0, .ref (a 0)), (1, .int p1)]) hx hb dX5_placeOf_18 rfl hl (by decide) rfl (fun ls hl => ?_)
      refine lv_iconst (v := 0) hx hb dX5_placeOf_19 (by decide) ?_
      refine lv_istore_n (lv' := [(3, .int 0), (2, .int (-1)), (0, .ref (a 0)), (1, .int p1)]) hx hb dX5_placeOf_20 rfl hl (by decide) rfl (fun ls hl => ?_)
      exact L21 x p1 FU (-1) 0 H locs ls hf hP hD hS (lv_sub hl [2, 3, 1, 0] rfl)
  exact M0 s.heap [] ls hf hP hD hS hl
/-! Compactforms$Table.freeSlot()I -/
def fX5_freeSlot_2 (x : TSt) (rec2 : Int32 → Option (Int32)) (v1 : Int32) : Option (Int32) := (if 40 ≤ v1 then some (-1) else chk (inb v1 40) ((if ((tbM x) (v1).toNatClampNeg) = (-1) then some v1 else keep (v1 + 1) (fun y4 => rec2 y4))))
def fX5_freeSlot (x : TSt) : Option (Int32) := iterK FU (fX5_freeSlot_2 x) 0
set_option maxHeartbeats 4000000 in
set_option maxRecDepth 100000 in
theorem met_X5_freeSlot {D : va_G} {cI cV cJ cD : ClassId} (l : Launch) (a : Nat → Nat) (x : TSt) (res : Int32) (hf : fX5_freeSlot x = some res) : MM l yX5_freeSlot cX5_freeSlot 2 (some .int) { frames := 0, cells := 0, slots := 0, locals := 0 } D (TY cI cV cJ cD) (W_Table cI a x) (W_Table cI a x) [.ref (a 0)] (some (.int res)) := by
  intro sz
  refine Met.ofW (cc := cX5_freeSlot) (maxL := 2) (ret := (some .int)) (by decide +kernel) rfl ?_
  intro p e s m args below meth c s₁ B hml hv
  obtain ⟨rfl, hsz, hP, hK, hD0, hE⟩ := hv
  have hx := B.exec
  have hb := B.bytes
  have hr := B.returns
  have hts := atoms_spec (ws := .code yX5_freeSlot cX5_freeSlot 2 (some .int) :: GW) B.pre
  have hg : ∀ w ∈ GW, w.before (([.ref (a 0)] : List Value).toArray) s = true := fun w h => hts w (List.mem_cons_of_mem _ h)
  have hown : s.vm.findClass RX5 = some m.cls := findClass_of_methodNamed B.named
  have hlocks := B.notSynchronized
  subst hsz
  have hD := hD0.self (sz := s.heap.size)
  generalize hAe : va_A (W_Table cI a x) s.heap.size = A at hD hE ⊢
  have hA : ∀ q : Nat, s.heap.size ≤ q → A q := fun q h => by rw [← hAe]; exact Or.inr h
  have hS : va_S A s.heap s.heap [] := va_S.rf
  have hl := lv_entry ([.ref (a 0)]) (n := 2) (Nat.le_of_ble_eq_true rfl)
  rw [lg_entry_eq]
  generalize (lg_sl ([.ref (a 0)]) ++ List.replicate (2 - (lg_sl ([.ref (a 0)])).length) Slot.unset).toArray = ls at hl ⊢
  have hl : lv_has ls 2 [(0, .ref (a 0))] := hl
  have S2 : ∀ (x : TSt) (rec2 : Int32 → Option (Int32)) (hrec2 : ∀ (v1 : Int32), ∀ (H : Heap) (locs : List Loc) (ls : Array Slot), rec2 v1 = some res → va_P D vwCl (W_Table cI a x) H → va_D A (W_Table cI a x) → va_S A s.heap H locs → lv_has ls 2 [(0, .ref (a 0)), (1, .int v1)] → W p l e ({ frames := 0, cells := 0, slots := 0, locals := 0 } : Room) s m ([.ref (a 0)] : List Value).toArray below meth c H locs 0 0 (MQ below (QW D (TY cI cV cJ cD) (W_Table cI a x) A (some (.int res))) (([.ref (a 0)] : List Value).toArray) s 0 0 A) (F0 m 2 ls [])) (v1 : Int32) (H : Heap) (locs : List Loc) (ls : Array Slot), fX5_freeSlot_2 x  rec2 v1 = some res → va_P D vwCl (W_Table cI a x) H → va_D A (W_Table cI a x) → va_S A s.heap H locs → lv_has ls 2 [(0, .ref (a 0)), (1, .int v1)] → W p l e ({ frames := 0, cells := 0, slots := 0, locals := 0 } : Room) s m ([.ref (a 0)] : List Value).toArray below meth c H locs 0 0 (MQ below (QW D (TY cI cV cJ cD) (W_Table cI a x) A (some (.int res))) (([.ref (a 0)] : List Value).toArray) s 0 0 A) (F0 m 2 ls []) := by
    intro x rec2 hrec2 v1 H locs ls hf hP hD hS hl
    dsimp only [fX5_freeSlot_2] at hf
    refine lv_iload_n hx hb dX5_freeSlot_2 rfl (lv_at hl 1 rfl) ?_
    refine lv_bipush (v := 40) hx hb dX5_freeSlot_3 (by decide) ?_
    refine lv_icmp_ge (tgt := 26) hx hb dX5_freeSlot_5 (by decide) (fun c1 => ?_) (fun c1 => ?_)
    · replace hf := if_t c1 hf
      refine lv_iconst (v := (-1)) hx hb dX5_freeSlot_26 (by decide) ?_
      obtain rfl := Option.some.inj hf
      exact W.iret (v := (-1)) hx hb hr (fun t ht hW => ⟨rfl, by rw [ht]; exact hP, va_K.moved hW.alike hK, hD, hS.F ht⟩) hS.2.2 dX5_freeSlot_27 hlocks
    · replace hf := if_f c1 hf
      refine lv_aload_n hx hb dX5_freeSlot_8 rfl (lv_at hl 0 rfl) ?_
      refine va_get (D := D) (ci := 4) (v := .ref (a 2)) (C := RX5) (T := TX5) (N := 5) hx hb hg in_X5 hown hK hP 0 rfl rfl 1 (by decide) (hg _ w100) (fun _ h9 => h9) rfl dX5_freeSlot_9 ?_
      refine lv_iload_n hx hb dX5_freeSlot_12 rfl (lv_at hl 1 rfl) ?_
      obtain ⟨hi2, hf⟩ := chk_t hf
      refine va_iald hx hb hK hP 2 0 rfl rfl (inb_in hi2) dX5_freeSlot_13 ?_
      refine lv_iconst (v := (-1)) hx hb dX5_freeSlot_14 (by decide) ?_
      refine lv_icmp_ne (tgt := 20) hx hb dX5_freeSlot_15 (by decide) (fun c3 => ?_) (fun c3 => ?_)
      · replace hf := if_f c3 hf
        obtain ⟨y4, hy4⟩ : ∃ z : Int32, z = (v1 + 1) := ⟨_, rfl⟩
        replace hf := keep_e hf y4 hy4
        refine lv_iinc (v := y4) (lv' := [(1, .int y4), (0, .ref (a 0))]) hx hb dX5_freeSlot_20 hl (k := 1) rfl (by rw [hy4]; rfl) (by decide) rfl (fun ls hl => ?_)
        refine lv_goto (tgt := 2) hx hb dX5_freeSlot_23 (by decide) ?_
        exact hrec2 y4 H locs ls hf hP hD hS (lv_sub hl [1, 0] rfl)
      · replace hf := if_t c3 hf
        refine lv_iload_n hx hb dX5_freeSlot_18 rfl (lv_at hl 1 rfl) ?_
        obtain rfl := Option.some.inj hf
        exact W.iret (v := v1) hx hb hr (fun t ht hW => ⟨rfl, by rw [ht]; exact hP, va_K.moved hW.alike hK, hD, hS.F ht⟩) hS.2.2 dX5_freeSlot_19 hlocks
  have L2 : ∀ (x : TSt) (fu : Nat) (v1 : Int32) (H : Heap) (locs : List Loc) (ls : Array Slot), iterK fu (fX5_freeSlot_2 x ) v1 = some res → va_P D vwCl (W_Table cI a x) H → va_D A (W_Table cI a x) → va_S A s.heap H locs → lv_has ls 2 [(0, .ref (a 0)), (1, .int v1)] → W p l e ({ frames := 0, cells := 0, slots := 0, locals := 0 } : Room) s m ([.ref (a 0)] : List Value).toArray below meth c H locs 0 0 (MQ below (QW D (TY cI cV cJ cD) (W_Table cI a x) A (some (.int res))) (([.ref (a 0)] : List Value).toArray) s 0 0 A) (F0 m 2 ls []) := by
    intro x fu
    induction fu with
    | zero =>
      intro v1 H locs ls hf
      cases hf
    | succ fu ih =>
      intro v1 H locs ls hf hP hD hS hl
      exact S2 x (iterK fu (fX5_freeSlot_2 x )) ih v1 H locs ls hf hP hD hS hl
  have M0 : ∀ (H : Heap) (locs : List Loc) (ls : Array Slot), fX5_freeSlot x = some res → va_P D vwCl (W_Table cI a x) H → va_D A (W_Table cI a x) → va_S A s.heap H locs → lv_has ls 2 [(0, .ref (a 0))] → W p l e ({ frames := 0, cells := 0, slots := 0, locals := 0 } : Room) s m ([.ref (a 0)] : List Value).toArray below meth c H locs 0 0 (MQ below (QW D (TY cI cV cJ cD) (W_Table cI a x) A (some (.int res))) (([.ref (a 0)] : List Value).toArray) s 0 0 A) (F0 m 0 ls []) := by
    intro H locs ls hf hP hD hS hl
    dsimp only [fX5_freeSlot] at hf
    refine lv_iconst (v := 0) hx hb dX5_freeSlot_0 (by decide) ?_
    refine lv_istore_n (lv' := [(1, .int 0), (0, .ref (a 0))]) hx hb dX5_freeSlot_1 rfl hl (by decide) rfl (fun ls hl => ?_)
    exact L2 x FU 0 H locs ls hf hP hD hS (lv_sub hl [1, 0] rfl)
  exact M0 s.heap [] ls hf hP hD hS hl
/-! Compactforms$Table.link(II)V -/
def fX5_link_60 (x : TSt) (v1 : Int32) (v2 : Int32) (v3 : Int32) (v4 : Int32) : Option (TSt) := chk (inb v1 40) (keep (tbX_s x (upd (tbX x) (v1).toNatClampNeg v4)) (fun x2 => (if v3 = (-1) then chk (inb v2 64) (keep (tbH_s x2 (upd (tbH x2) (v2).toNatClampNeg v1)) (fun x7 => some x7)) else chk (inb v3 40) (keep (tbX_s x2 (upd (tbX x2) (v3).toNatClampNeg v1)) (fun x5 => some x5)))))
def fX5_link_13 (x : TSt) (v1 : Int32) (v2 : Int32) (rec13 : Int32 × Int32 × Int32 → Option (TSt)) (s : Int32 × Int32 × Int32) : Option (TSt) := match s with | (v3, v4, v5) => (if 40 ≤ v5 then fX5_link_60 x v1 v2 v3 v4 else (if v4 = (-1) then fX5_link_60 x v1 v2 v3 v4 else chk (inb v4 40) (chk (inb v1 40) ((if ((tbM x) (v1).toNatClampNeg) ≤ ((tbM x) (v4).toNatClampNeg) then fX5_link_60 x v1 v2 v3 v4 else chk (inb v4 40) (keep ((tbX x) (v4).toNatClampNeg) (fun y14 => keep (v5 + 1) (fun y15 => rec13 (v4, y14, y15)))))))))
def fX5_link (x : TSt) (p1 : Int32) (p2 : Int32) : Option (TSt) := chk (inb p2 64) (keep ((tbH x) (p2).toNatClampNeg) (fun y17 => iterK FU (fX5_link_13 x p1 p2) ((-1), y17, 0)))
set_option maxHeartbeats 4000000 in
set_option maxRecDepth 100000 in
theorem met_X5_link {D : va_G} {cI cV cJ cD : ClassId} (l : Launch) (a : Nat → Nat) (x : TSt) (p1 : Int32) (p2 : Int32) (res : TSt) (hf : fX5_link x p1 p2 = some res) : MM l yX5_link cX5_link 6 none { frames := 0, cells := 0, slots := 0, locals := 0 } D (TY cI cV cJ cD) (W_Table cI a x) (W_Table cI a res) [.ref (a 0), .int p1, .int p2] none := by
  intro sz
  refine Met.ofW (cc := cX5_link) (maxL := 6) (ret := none) (by decide +kernel) rfl ?_
  intro p e s m args below meth c s₁ B hml hv
  obtain ⟨rfl, hsz, hP, hK, hD0, hE⟩ := hv
  have hx := B.exec
  have hb := B.bytes
  have hr := B.returns
  have hts := atoms_spec (ws := .code yX5_link cX5_link 6 none :: GW) B.pre
  have hg : ∀ w ∈ GW, w.before (([.ref (a 0), .int p1, .int p2] : List Value).toArray) s = true := fun w h => hts w (List.mem_cons_of_mem _ h)
  have hown : s.vm.findClass RX5 = some m.cls := findClass_of_methodNamed B.named
  have hlocks := B.notSynchronized
  subst hsz
  have hD := hD0.self (sz := s.heap.size)
  generalize hAe : va_A (W_Table cI a x) s.heap.size = A at hD hE ⊢
  have hA : ∀ q : Nat, s.heap.size ≤ q → A q := fun q h => by rw [← hAe]; exact Or.inr h
  have hS : va_S A s.heap s.heap [] := va_S.rf
  have hl := lv_entry ([.ref (a 0), .int p1, .int p2]) (n := 6) (Nat.le_of_ble_eq_true rfl)
  rw [lg_entry_eq]
  generalize (lg_sl ([.ref (a 0), .int p1, .int p2]) ++ List.replicate (6 - (lg_sl ([.ref (a 0), .int p1, .int p2])).length) Slot.unset).toArray = ls at hl ⊢
  have hl : lv_has ls 6 [(0, .ref (a 0)), (1, .int p1), (2, .int p2)] := hl
  have L60 : ∀ (x : TSt) (v1 : Int32) (v2 : Int32) (v3 : Int32) (v4 : Int32) (H : Heap) (locs : List Loc) (ls : Array Slot), fX5_link_60 x v1 v2 v3 v4  = some res → va_P D vwCl (W_Table cI a x) H → va_D A (W_Table cI a x) → va_S A s.heap H locs → lv_has ls 6 [(0, .ref (a 0)), (1, .int v1), (2, .int v2), (3, .int v3), (4, .int v4)] → W p l e ({ frames := 0, cells := 0, slots := 0, locals := 0 } : Room) s m ([.ref (a 0), .int p1, .int p2] : List Value).toArray below meth c H locs 0 0 (MQ below (QW D (TY cI cV cJ cD) (W_Table cI a res) A none) (([.ref (a 0), .int p1, .int p2] : List Value).toArray) s 0 0 A) (F0 m 60 ls []) := by
    intro x v1 v2 v3 v4 H locs ls hf hP hD hS hl
    dsimp only [fX5_link_60] at hf
    refine lv_aload_n hx hb dX5_link_60 rfl (lv_at hl 0 rfl) ?_
    refine va_get (D := D) (ci := 4) (v := .ref (a 3)) (C := RX5) (T := TX5) (N := 5) hx hb hg in_X5 hown hK hP 0 rfl rfl 2 (by decide) (hg _ w101) (fun _ h9 => h9) rfl dX5_link_61 ?_
    refine lv_iload_n hx hb dX5_link_64 rfl (lv_at hl 1 rfl) ?_
    refine lv_iload hx hb dX5_link_65 (lv_at hl 4 rfl) ?_
    obtain ⟨hi1, hf⟩ := chk_t hf
    refine va_iast hx hb hK hP hD hS 3 0 rfl rfl (inb_in hi1) dX5_link_67 (fun H locs hP hD hS => ?_)
    obtain ⟨x2, hx2⟩ : ∃ z, z = (tbX_s x (upd (tbX x) (v1).toNatClampNeg v4)) := ⟨_, rfl⟩
    replace hf := keep_e hf x2 hx2
    have hP : va_P D vwCl (W_Table cI a x2) H := by rw [hx2]; exact hP
    have hD : va_D A (W_Table cI a x2) := by rw [hx2]; exact hD
    refine lv_iload_n hx hb dX5_link_68 rfl (lv_at hl 3 rfl) ?_
    refine lv_iconst (v := (-1)) hx hb dX5_link_69 (by decide) ?_
    refine lv_icmp_ne (tgt := 83) hx hb dX5_link_70 (by decide) (fun c3 => ?_) (fun c3 => ?_)
    · replace hf := if_f c3 hf
      refine lv_aload_n hx hb dX5_link_83 rfl (lv_at hl 0 rfl) ?_
      refine va_get (D := D) (ci := 4) (v := .ref (a 3)) (C := RX5) (T := TX5) (N := 5) hx hb hg in_X5 hown hK hP 0 rfl rfl 2 (by decide) (hg _ w101) (fun _ h9 => h9) rfl dX5_link_84 ?_
      refine lv_iload_n hx hb dX5_link_87 rfl (lv_at hl 3 rfl) ?_
      refine lv_iload_n hx hb dX5_link_88 rfl (lv_at hl 1 rfl) ?_
      obtain ⟨hi4, hf⟩ := chk_t hf
      refine va_iast hx hb hK hP hD hS 3 0 rfl rfl (inb_in hi4) dX5_link_89 (fun H locs hP hD hS => ?_)
      obtain ⟨x5, hx5⟩ : ∃ z, z = (tbX_s x2 (upd (tbX x2) (v3).toNatClampNeg v1)) := ⟨_, rfl⟩
      replace hf := keep_e hf x5 hx5
      have hP : va_P D vwCl (W_Table cI a x5) H := by rw [hx5]; exact hP
      have hD : va_D A (W_Table cI a x5) := by rw [hx5]; exact hD
      obtain rfl := Option.some.inj hf
      exact W.vret hx hb hr (fun t ht hW => ⟨rfl, by rw [ht]; exact hP, va_K.moved hW.alike hK, hD, hS.F ht⟩) hS.2.2 dX5_link_90 hlocks
    · replace hf := if_t c3 hf
      refine lv_aload_n hx hb dX5_link_73 rfl (lv_at hl 0 rfl) ?_
      refine va_get (D := D) (ci := 4) (v := .ref (a 1)) (C := RX5) (T := TX5) (N := 5) hx hb hg in_X5 hown hK hP 0 rfl rfl 0 (by decide) (hg _ w99) (fun _ h9 => h9) rfl dX5_link_74 ?_
      refine lv_iload_n hx hb dX5_link_77 rfl (lv_at hl 2 rfl) ?_
      refine lv_iload_n hx hb dX5_link_78 rfl (lv_at hl 1 rfl) ?_
      obtain ⟨hi6, hf⟩ := chk_t hf
      refine va_iast hx hb hK hP hD hS 1 0 rfl rfl (inb_in hi6) dX5_link_79 (fun H locs hP hD hS => ?_)
      obtain ⟨x7, hx7⟩ : ∃ z, z = (tbH_s x2 (upd (tbH x2) (v2).toNatClampNeg v1)) := ⟨_, rfl⟩
      replace hf := keep_e hf x7 hx7
      have hP : va_P D vwCl (W_Table cI a x7) H := by rw [hx7]; exact hP
      have hD : va_D A (W_Table cI a x7) := by rw [hx7]; exact hD
      refine lv_goto (tgt := 90) hx hb dX5_link_80 (by decide) ?_
      obtain rfl := Option.some.inj hf
      exact W.vret hx hb hr (fun t ht hW => ⟨rfl, by rw [ht]; exact hP, va_K.moved hW.alike hK, hD, hS.F ht⟩) hS.2.2 dX5_link_90 hlocks
  have S13 : ∀ (x : TSt) (v1 : Int32) (v2 : Int32) (rec13 : Int32 × Int32 × Int32 → Option (TSt)) (hrec13 : ∀ (v3 : Int32), ∀ (v4 : Int32), ∀ (v5 : Int32), ∀ (H : Heap) (locs : List Loc) (ls : Array Slot), rec13 (v3, v4, v5) = some res → va_P D vwCl (W_Table cI a x) H → va_D A (W_Table cI a x) → va_S A s.heap H locs → lv_has ls 6 [(0, .ref (a 0)), (1, .int v1), (2, .int v2), (3, .int v3), (4, .int v4), (5, .int v5)] → W p l e ({ frames := 0, cells := 0, slots := 0, locals := 0 } : Room) s m ([.ref (a 0), .int p1, .int p2] : List Value).toArray below meth c H locs 0 0 (MQ below (QW D (TY cI cV cJ cD) (W_Table cI a res) A none) (([.ref (a 0), .int p1, .int p2] : List Value).toArray) s 0 0 A) (F0 m 13 ls [])) (v3 : Int32) (v4 : Int32) (v5 : Int32) (H : Heap) (locs : List Loc) (ls : Array Slot), fX5_link_13 x v1 v2  rec13 (v3, v4, v5) = some res → va_P D vwCl (W_Table cI a x) H → va_D A (W_Table cI a x) → va_S A s.heap H locs → lv_has ls 6 [(0, .ref (a 0)), (1, .int v1), (2, .int v2), (3, .int v3), (4, .int v4), (5, .int v5)] → W p l e ({ frames := 0, cells := 0, slots := 0, locals := 0 } : Room) s m ([.ref (a 0), .int p1, .int p2] : List Value).toArray below meth c H locs 0 0 (MQ below (QW D (TY cI cV cJ cD) (W_Table cI a res) A none) (([.ref (a 0), .int p1, .int p2] : List Value).toArray) s 0 0 A) (F0 m 13 ls []) := by
    intro x v1 v2 rec13 hrec13 v3 v4 v5 H locs ls hf hP hD hS hl
    dsimp only [fX5_link_13] at hf
    refine lv_iload hx hb dX5_link_13 (lv_at hl 5 rfl) ?_
    refine lv_bipush (v := 40) hx hb dX5_link_15 (by decide) ?_
    refine lv_icmp_ge (tgt := 60) hx hb dX5_link_17 (by decide) (fun c8 => ?_) (fun c8 => ?_)
    · replace hf := if_t c8 hf
      exact L60 x v1 v2 v3 v4 H locs ls hf hP hD hS (lv_sub hl [0, 1, 2, 3, 4] rfl)
    · replace hf := if_f c8 hf
      refine lv_iload hx hb dX5_link_20 (lv_at hl 4 rfl) ?_
      refine lv_iconst (v := (-1)) hx hb dX5_link_22 (by decide) ?_
      refine lv_icmp_eq (tgt := 60) hx hb dX5_link_23 (by decide) (fun c9 => ?_) (fun c9 => ?_)
      · replace hf := if_t c9 hf
        exact L60 x v1 v2 v3 v4 H locs ls hf hP hD hS (lv_sub hl [0, 1, 2, 3, 4] rfl)
      · replace hf := if_f c9 hf
        refine lv_aload_n hx hb dX5_link_26 rfl (lv_at hl 0 rfl) ?_
        refine va_get (D := D) (ci := 4) (v := .ref (a 2)) (C := RX5) (T := TX5) (N := 5) hx hb hg in_X5 hown hK hP 0 rfl rfl 1 (by decide) (hg _ w100) (fun _ h9 => h9) rfl dX5_link_27 ?_
        refine lv_iload hx hb dX5_link_30 (lv_at hl 4 rfl) ?_
        obtain ⟨hi10, hf⟩ := chk_t hf
        refine va_iald hx hb hK hP 2 0 rfl rfl (inb_in hi10) dX5_link_32 ?_
        refine lv_aload_n hx hb dX5_link_33 rfl (lv_at hl 0 rfl) ?_
        refine va_get (D := D) (ci := 4) (v := .ref (a 2)) (C := RX5) (T := TX5) (N := 5) hx hb hg in_X5 hown hK hP 0 rfl rfl 1 (by decide) (hg _ w100) (fun _ h9 => h9) rfl dX5_link_34 ?_
        refine lv_iload_n hx hb dX5_link_37 rfl (lv_at hl 1 rfl) ?_
        obtain ⟨hi11, hf⟩ := chk_t hf
        refine va_iald hx hb hK hP 2 0 rfl rfl (inb_in hi11) dX5_link_38 ?_
        refine lv_icmp_ge (tgt := 60) hx hb dX5_link_39 (by decide) (fun c12 => ?_) (fun c12 => ?_)
        · replace hf := if_t c12 hf
          exact L60 x v1 v2 v3 v4 H locs ls hf hP hD hS (lv_sub hl [0, 1, 2, 3, 4] rfl)
        · replace hf := if_f c12 hf
          refine lv_iload hx hb dX5_link_42 (lv_at hl 4 rfl) ?_
          refine lv_istore_n (lv' := [(3, .int v4), (0, .ref (a 0)), (1, .int v1), (2, .int v2), (4, .int v4), (5, .int v5)]) hx hb dX5_link_44 rfl hl (by decide) rfl (fun ls hl => ?_)
          refine lv_aload_n hx hb dX5_link_45 rfl (lv_at hl 1 rfl) ?_
          refine va_get (D := D) (ci := 4) (v := .ref (a 3)) (C := RX5) (T := TX5) (N := 5) hx hb hg in_X5 hown hK hP 0 rfl rfl 2 (by decide) (hg _ w101) (fun _ h9 => h9) rfl dX5_link_46 ?_
          refine lv_iload hx hb dX5_link_49 (lv_at hl 4 rfl) ?_
          obtain ⟨hi13, hf⟩ := chk_t hf
          refine va_iald hx hb hK hP 3 0 rfl rfl (inb_in hi13) dX5_link_51 ?_
          refine lv_topi (fun y14 hy14 => ?_)
          replace hf := keep_e hf y14 hy14
          refine lv_istore (lv' := [(4, .int y14), (3, .int v4), (0, .ref (a 0)), (1, .int v1), (2, .int v2), (5, .int v5)]) hx hb dX5_link_52 hl (by decide) rfl (fun ls hl => ?_)
          obtain ⟨y15, hy15⟩ : ∃ z : Int32, z = (v5 + 1) := ⟨_, rfl⟩
          replace hf := keep_e hf y15 hy15
          refine lv_iinc (v := y15) (lv' := [(5, .int y15), (4, .int y14), (3, .int v4), (0, .ref (a 0)), (1, .int v1), (2, .int v2)]) hx hb dX5_link_54 hl (k := 5) rfl (by rw [hy15]; rfl) (by decide) rfl (fun ls hl => ?_)
          refine lv_goto (tgt := 13) hx hb dX5_link_57 (by decide) ?_
          exact hrec13 v4 y14 y15 H locs ls hf hP hD hS (lv_sub hl [3, 4, 5, 2, 1, 0] rfl)
  have L13 : ∀ (x : TSt) (v1 : Int32) (v2 : Int32) (fu : Nat) (v3 : Int32) (v4 : Int32) (v5 : Int32) (H : Heap) (locs : List Loc) (ls : Array Slot), iterK fu (fX5_link_13 x v1 v2 ) (v3, v4, v5) = some res → va_P D vwCl (W_Table cI a x) H → va_D A (W_Table cI a x) → va_S A s.heap H locs → lv_has ls 6 [(0, .ref (a 0)), (1, .int v1), (2, .int v2), (3, .int v3), (4, .int v4), (5, .int v5)] → W p l e ({ frames := 0, cells := 0, slots := 0, locals := 0 } : Room) s m ([.ref (a 0), .int p1, .int p2] : List Value).toArray below meth c H locs 0 0 (MQ below (QW D (TY cI cV cJ cD) (W_Table cI a res) A none) (([.ref (a 0), .int p1, .int p2] : List Value).toArray) s 0 0 A) (F0 m 13 ls []) := by
    intro x v1 v2 fu
    induction fu with
    | zero =>
      intro v3 v4 v5 H locs ls hf
      cases hf
    | succ fu ih =>
      intro v3 v4 v5 H locs ls hf hP hD hS hl
      exact S13 x v1 v2 (iterK fu (fX5_link_13 x v1 v2 )) ih v3 v4 v5 H locs ls hf hP hD hS hl
  have M0 : ∀ (H : Heap) (locs : List Loc) (ls : Array Slot), fX5_link x p1 p2 = some res → va_P D vwCl (W_Table cI a x) H → va_D A (W_Table cI a x) → va_S A s.heap H locs → lv_has ls 6 [(0, .ref (a 0)), (1, .int p1), (2, .int p2)] → W p l e ({ frames := 0, cells := 0, slots := 0, locals := 0 } : Room) s m ([.ref (a 0), .int p1, .int p2] : List Value).toArray below meth c H locs 0 0 (MQ below (QW D (TY cI cV cJ cD) (W_Table cI a res) A none) (([.ref (a 0), .int p1, .int p2] : List Value).toArray) s 0 0 A) (F0 m 0 ls []) := by
    intro H locs ls hf hP hD hS hl
    dsimp only [fX5_link] at hf
    refine lv_iconst (v := (-1)) hx hb dX5_link_0 (by decide) ?_
    refine lv_istore_n (lv' := [(3, .int (-1)), (0, .ref (a 0)), (1, .int p1), (2, .int p2)]) hx hb dX5_link_1 rfl hl (by decide) rfl (fun ls hl => ?_)
    refine lv_aload_n hx hb dX5_link_2 rfl (lv_at hl 1 rfl) ?_
    refine va_get (D := D) (ci := 4) (v := .ref (a 1)) (C := RX5) (T := TX5) (N := 5) hx hb hg in_X5 hown hK hP 0 rfl rfl 0 (by decide) (hg _ w99) (fun _ h9 => h9) rfl dX5_link_3 ?_
    refine lv_iload_n hx hb dX5_link_6 rfl (lv_at hl 3 rfl) ?_
    obtain ⟨hi16, hf⟩ := chk_t hf
    refine va_iald hx hb hK hP 1 0 rfl rfl (inb_in hi16) dX5_link_7 ?_
    refine lv_topi (fun y17 hy17 => ?_)
    replace hf := keep_e hf y17 hy17
    refine lv_istore (lv' := [(4, .int y17), (3, .int (-1)), (0, .ref (a 0)), (1, .int p1), (2, .int p2)]) hx hb dX5_link_8 hl (by decide) rfl (fun ls hl => ?_)
    refine lv_iconst (v := 0) hx hb dX5_link_10 (by decide) ?_
    refine lv_istore (lv' := [(5, .int 0), (4, .int y17), (3, .int (-1)), (0, .ref (a 0)), (1, .int p1), (2, .int p2)]) hx hb dX5_link_11 hl (by decide) rfl (fun ls hl => ?_)
    exact L13 x p1 p2 FU (-1) y17 0 H locs ls hf hP hD hS (lv_sub hl [3, 4, 5, 2, 1, 0] rfl)
  exact M0 s.heap [] ls hf hP hD hS hl
/-! Compactforms$Table.putIn(III)V -/
def fX5_putIn_88 (rec88 : TSt × Int32 → Option (TSt)) (s : TSt × Int32) : Option (TSt) := match s with | (x, v5) => (if 40 ≤ v5 then some x else chk (inb v5 40) ((if ((tbM x) (v5).toNatClampNeg) = (-1) then keep (v5 + 1) (fun y4 => rec88 (x, y4)) else chk (inb v5 40) ((fX5_bucketOf x ((tbM x) (v5).toNatClampNeg)).bind (fun u6 => (fX5_link x v5 u6).bind (fun u8 => keep u8 (fun x10 => keep (v5 + 1) (fun y11 => rec88 (x10, y11)))))))))
def fX5_putIn_55 (x : TSt) (v2 : Int32) (v4 : Int32) : Option (TSt) := (fX5_bucketOf x v2).bind (fun u12 => (fX5_link x v4 u12).bind (fun u14 => keep u14 (fun x16 => some x16)))
def fX5_putIn (x : TSt) (p1 : Int32) (p2 : Int32) (p3 : Int32) : Option (TSt) := (fX5_freeSlot x).bind (fun u17 => (if u17 = (-1) then some x else (if 0 ≤ p2 then chk (inb u17 40) (keep (tbM_s x (upd (tbM x) (u17).toNatClampNeg p2)) (fun x22 => keep (tbC_s x22 ((tbC x22) + 1)) (fun x23 => (if (tbC x23) ≤ (tbB x23) then fX5_putIn_55 x23 p2 u17 else (if (tbB x23) < 64 then keep (tbB_s x23 ((tbB x23) * 2)) (fun x26 => (fJ7_fill_53178 64 (tbH x26) (-1)).bind (fun u27 => keep (tbH_s x26 u27) (fun x29 => iterK FU (fX5_putIn_88 ) (x29, 0)))) else fX5_putIn_55 x23 p2 u17))))) else some x)))
set_option maxHeartbeats 4000000 in
set_option maxRecDepth 100000 in
theorem met_X5_putIn {D : va_G} {cI cV cJ cD : ClassId} (l : Launch) (a : Nat → Nat) (x : TSt) (p1 : Int32) (p2 : Int32) (p3 : Int32) (res : TSt) (hf : fX5_putIn x p1 p2 p3 = some res) : MM l yX5_putIn cX5_putIn 6 none { frames := 1, cells := 0, slots := 0, locals := 25 } D (TY cI cV cJ cD) (W_Table cI a x) (W_Table cI a res) [.ref (a 0), .int p1, .int p2, .int p3] none := by
  intro sz
  refine Met.ofW (cc := cX5_putIn) (maxL := 6) (ret := none) (by decide +kernel) rfl ?_
  intro p e s m args below meth c s₁ B hml hv
  obtain ⟨rfl, hsz, hP, hK, hD0, hE⟩ := hv
  have hx := B.exec
  have hb := B.bytes
  have hr := B.returns
  have hts := atoms_spec (ws := .code yX5_putIn cX5_putIn 6 none :: GW) B.pre
  have hg : ∀ w ∈ GW, w.before (([.ref (a 0), .int p1, .int p2, .int p3] : List Value).toArray) s = true := fun w h => hts w (List.mem_cons_of_mem _ h)
  have hown : s.vm.findClass RX5 = some m.cls := findClass_of_methodNamed B.named
  have hlocks := B.notSynchronized
  subst hsz
  have hD := hD0.self (sz := s.heap.size)
  generalize hAe : va_A (W_Table cI a x) s.heap.size = A at hD hE ⊢
  have hA : ∀ q : Nat, s.heap.size ≤ q → A q := fun q h => by rw [← hAe]; exact Or.inr h
  have hS : va_S A s.heap s.heap [] := va_S.rf
  have hl := lv_entry ([.ref (a 0), .int p1, .int p2, .int p3]) (n := 6) (Nat.le_of_ble_eq_true rfl)
  rw [lg_entry_eq]
  generalize (lg_sl ([.ref (a 0), .int p1, .int p2, .int p3]) ++ List.replicate (6 - (lg_sl ([.ref (a 0), .int p1, .int p2, .int p3])).length) Slot.unset).toArray = ls at hl ⊢
  have hl : lv_has ls 6 [(0, .ref (a 0)), (1, .int p1), (2, .int p2), (3, .int p3)] := hl
  have S88 : ∀ (rec88 : TSt × Int32 → Option (TSt)) (hrec88 : ∀ (x : TSt), ∀ (v5 : Int32), ∀ (H : Heap) (locs : List Loc) (ls : Array Slot), rec88 (x, v5) = some res → va_P D vwCl (W_Table cI a x) H → va_D A (W_Table cI a x) → va_S A s.heap H locs → lv_has ls 6 [(0, .ref (a 0)), (5, .int v5)] → W p l e ({ frames := 1, cells := 0, slots := 0, locals := 25 } : Room) s m ([.ref (a 0), .int p1, .int p2, .int p3] : List Value).toArray below meth c H locs 0 0 (MQ below (QW D (TY cI cV cJ cD) (W_Table cI a res) A none) (([.ref (a 0), .int p1, .int p2, .int p3] : List Value).toArray) s 0 0 A) (F0 m 88 ls [])) (x : TSt) (v5 : Int32) (H : Heap) (locs : List Loc) (ls : Array Slot), fX5_putIn_88  rec88 (x, v5) = some res → va_P D vwCl (W_Table cI a x) H → va_D A (W_Table cI a x) → va_S A s.heap H locs → lv_has ls 6 [(0, .ref (a 0)), (5, .int v5)] → W p l e ({ frames := 1, cells := 0, slots := 0, locals := 25 } : Room) s m ([.ref (a 0), .int p1, .int p2, .int p3] : List Value).toArray below meth c H locs 0 0 (MQ below (QW D (TY cI cV cJ cD) (W_Table cI a res) A none) (([.ref (a 0), .int p1, .int p2, .int p3] : List Value).toArray) s 0 0 A) (F0 m 88 ls []) := by
    intro rec88 hrec88 x v5 H locs ls hf hP hD hS hl
    dsimp only [fX5_putIn_88] at hf
    refine lv_iload hx hb dX5_putIn_88 (lv_at hl 1 rfl) ?_
    refine lv_bipush (v := 40) hx hb dX5_putIn_90 (by decide) ?_
    refine lv_icmp_ge (tgt := 129) hx hb dX5_putIn_92 (by decide) (fun c1 => ?_) (fun c1 => ?_)
    · replace hf := if_t c1 hf
      obtain rfl := Option.some.inj hf
      exact W.vret hx hb hr (fun t ht hW => ⟨rfl, by rw [ht]; exact hP, va_K.moved hW.alike hK, hD, hS.F ht⟩) hS.2.2 dX5_putIn_129 hlocks
    · replace hf := if_f c1 hf
      refine lv_aload_n hx hb dX5_putIn_95 rfl (lv_at hl 0 rfl) ?_
      refine va_get (D := D) (ci := 4) (v := .ref (a 2)) (C := RX5) (T := TX5) (N := 5) hx hb hg in_X5 hown hK hP 0 rfl rfl 1 (by decide) (hg _ w100) (fun _ h9 => h9) rfl dX5_putIn_96 ?_
      refine lv_iload hx hb dX5_putIn_99 (lv_at hl 1 rfl) ?_
      obtain ⟨hi2, hf⟩ := chk_t hf
      refine va_iald hx hb hK hP 2 0 rfl rfl (inb_in hi2) dX5_putIn_101 ?_
      refine lv_iconst (v := (-1)) hx hb dX5_putIn_102 (by decide) ?_
      refine lv_icmp_eq (tgt := 123) hx hb dX5_putIn_103 (by decide) (fun c3 => ?_) (fun c3 => ?_)
      · replace hf := if_t c3 hf
        obtain ⟨y4, hy4⟩ : ∃ z : Int32, z = (v5 + 1) := ⟨_, rfl⟩
        replace hf := keep_e hf y4 hy4
        refine lv_iinc (v := y4) (lv' := [(5, .int y4), (0, .ref (a 0))]) hx hb dX5_putIn_123 hl (k := 1) rfl (by rw [hy4]; rfl) (by decide) rfl (fun ls hl => ?_)
        refine lv_goto (tgt := 88) hx hb dX5_putIn_126 (by decide) ?_
        exact hrec88 x y4 H locs ls hf hP hD hS (lv_sub hl [1, 0] rfl)
      · replace hf := if_f c3 hf
        refine lv_aload_n hx hb dX5_putIn_106 rfl (lv_at hl 0 rfl) ?_
        refine lv_iload hx hb dX5_putIn_107 (lv_at hl 1 rfl) ?_
        refine lv_aload_n hx hb dX5_putIn_109 rfl (lv_at hl 0 rfl) ?_
        refine lv_aload_n hx hb dX5_putIn_110 rfl (lv_at hl 0 rfl) ?_
        refine va_get (D := D) (ci := 4) (v := .ref (a 2)) (C := RX5) (T := TX5) (N := 5) hx hb hg in_X5 hown hK hP 0 rfl rfl 1 (by decide) (hg _ w100) (fun _ h9 => h9) rfl dX5_putIn_111 ?_
        refine lv_iload hx hb dX5_putIn_114 (lv_at hl 1 rfl) ?_
        obtain ⟨hi5, hf⟩ := chk_t hf
        refine va_iald hx hb hK hP 2 0 rfl rfl (inb_in hi5) dX5_putIn_116 ?_
        obtain ⟨u6, hc7, hf⟩ := bind_t hf
        refine k_V (As := [.int ((tbM x) (v5).toNatClampNeg)]) (rest := [.int v5, .ref (a 0)]) (n := 1) ⟨hx, hb, hml, hown, hts⟩ (met_X5_bucketOf l a x ((tbM x) (v5).toNatClampNeg) u6 hc7) w352 w354 ws5 w7 w355 ⟨rfl, by decide +kernel, by decide +kernel, by decide +kernel⟩ ⟨Nat.le_of_ble_eq_true rfl, Nat.le_of_ble_eq_true rfl⟩ hK hE hP hD hS hA (isC := [0, 1, 2, 3]) (isR := []) (isB := [0, 1, 2, 3]) (ws' := W_Table cI a x) ⟨([] : List Nat).filterMap (fun i : Nat => (W_Table cI a x : va_W)[i]?), rfl, rfl, rfl, rfl, by decide, rfl, rfl⟩ 0 4 rfl rfl rfl rfl hl.1 rfl (Nat.le_of_ble_eq_true rfl) dX5_putIn_117 ⟨Nat.le_of_ble_eq_true rfl, Nat.le_of_ble_eq_true rfl⟩ (fun H locs hP hD hS => ?_)
        try dsimp only at hf
        refine W.eq (g2 := F0 m 120 ls [.int u6, .int v5, .ref (a 0)]) rfl ?_
        obtain ⟨u8, hc9, hf⟩ := bind_t hf
        refine k_V (As := [.int v5, .int u6]) (rest := []) (n := 2) ⟨hx, hb, hml, hown, hts⟩ (met_X5_link l a x v5 u6 u8 hc9) w484 w486 ws18 w7 w487 ⟨rfl, by decide +kernel, by decide +kernel, by decide +kernel⟩ ⟨Nat.le_of_ble_eq_true rfl, Nat.le_of_ble_eq_true rfl⟩ hK hE hP hD hS hA (isC := [0, 1, 2, 3]) (isR := []) (isB := [0, 1, 2, 3]) (ws' := W_Table cI a u8) ⟨([] : List Nat).filterMap (fun i : Nat => (W_Table cI a x : va_W)[i]?), rfl, rfl, rfl, rfl, by decide, rfl, rfl⟩ 0 4 rfl rfl rfl rfl hl.1 rfl (Nat.le_of_ble_eq_true rfl) dX5_putIn_120 ⟨Nat.le_of_ble_eq_true rfl, Nat.le_of_ble_eq_true rfl⟩ (fun H locs hP hD hS => ?_)
        try dsimp only at hf
        refine W.eq (g2 := F0 m 123 ls []) rfl ?_
        obtain ⟨x10, hx10⟩ : ∃ z, z = u8 := ⟨_, rfl⟩
        replace hf := keep_e hf x10 hx10
        have hP : va_P D vwCl (W_Table cI a x10) H := by rw [hx10]; exact hP
        have hD : va_D A (W_Table cI a x10) := by rw [hx10]; exact hD
        obtain ⟨y11, hy11⟩ : ∃ z : Int32, z = (v5 + 1) := ⟨_, rfl⟩
        replace hf := keep_e hf y11 hy11
        refine lv_iinc (v := y11) (lv' := [(5, .int y11), (0, .ref (a 0))]) hx hb dX5_putIn_123 hl (k := 1) rfl (by rw [hy11]; rfl) (by decide) rfl (fun ls hl => ?_)
        refine lv_goto (tgt := 88) hx hb dX5_putIn_126 (by decide) ?_
        exact hrec88 x10 y11 H locs ls hf hP hD hS (lv_sub hl [1, 0] rfl)
  have L88 : ∀ (fu : Nat) (x : TSt) (v5 : Int32) (H : Heap) (locs : List Loc) (ls : Array Slot), iterK fu (fX5_putIn_88 ) (x, v5) = some res → va_P D vwCl (W_Table cI a x) H → va_D A (W_Table cI a x) → va_S A s.heap H locs → lv_has ls 6 [(0, .ref (a 0)), (5, .int v5)] → W p l e ({ frames := 1, cells := 0, slots := 0, locals := 25 } : Room) s m ([.ref (a 0), .int p1, .int p2, .int p3] : List Value).toArray below meth c H locs 0 0 (MQ below (QW D (TY cI cV cJ cD) (W_Table cI a res) A none) (([.ref (a 0), .int p1, .int p2, .int p3] : List Value).toArray) s 0 0 A) (F0 m 88 ls []) := by
    intro fu
    induction fu with
    | zero =>
      intro x v5 H locs ls hf
      cases hf
    | succ fu ih =>
      intro x v5 H locs ls hf hP hD hS hl
      exact S88 (iterK fu (fX5_putIn_88 )) ih x v5 H locs ls hf hP hD hS hl
  have L55 : ∀ (x : TSt) (v2 : Int32) (v4 : Int32) (H : Heap) (locs : List Loc) (ls : Array Slot), fX5_putIn_55 x v2 v4  = some res → va_P D vwCl (W_Table cI a x) H → va_D A (W_Table cI a x) → va_S A s.heap H locs → lv_has ls 6 [(0, .ref (a 0)), (2, .int v2), (4, .int v4)] → W p l e ({ frames := 1, cells := 0, slots := 0, locals := 25 } : Room) s m ([.ref (a 0), .int p1, .int p2, .int p3] : List Value).toArray below meth c H locs 0 0 (MQ below (QW D (TY cI cV cJ cD) (W_Table cI a res) A none) (([.ref (a 0), .int p1, .int p2, .int p3] : List Value).toArray) s 0 0 A) (F0 m 55 ls []) := by
    intro x v2 v4 H locs ls hf hP hD hS hl
    dsimp only [fX5_putIn_55] at hf
    refine lv_aload_n hx hb dX5_putIn_55 rfl (lv_at hl 0 rfl) ?_
    refine lv_iload hx hb dX5_putIn_56 (lv_at hl 2 rfl) ?_
    refine lv_aload_n hx hb dX5_putIn_58 rfl (lv_at hl 0 rfl) ?_
    refine lv_iload_n hx hb dX5_putIn_59 rfl (lv_at hl 1 rfl) ?_
    obtain ⟨u12, hc13, hf⟩ := bind_t hf
    refine k_V (As := [.int v2]) (rest := [.int v4, .ref (a 0)]) (n := 1) ⟨hx, hb, hml, hown, hts⟩ (met_X5_bucketOf l a x v2 u12 hc13) w352 w354 ws5 w7 w355 ⟨rfl, by decide +kernel, by decide +kernel, by decide +kernel⟩ ⟨Nat.le_of_ble_eq_true rfl, Nat.le_of_ble_eq_true rfl⟩ hK hE hP hD hS hA (isC := [0, 1, 2, 3]) (isR := []) (isB := [0, 1, 2, 3]) (ws' := W_Table cI a x) ⟨([] : List Nat).filterMap (fun i : Nat => (W_Table cI a x : va_W)[i]?), rfl, rfl, rfl, rfl, by decide, rfl, rfl⟩ 0 4 rfl rfl rfl rfl hl.1 rfl (Nat.le_of_ble_eq_true rfl) dX5_putIn_60 ⟨Nat.le_of_ble_eq_true rfl, Nat.le_of_ble_eq_true rfl⟩ (fun H locs hP hD hS => ?_)
    try dsimp only at hf
    refine W.eq (g2 := F0 m 63 ls [.int u12, .int v4, .ref (a 0)]) rfl ?_
    obtain ⟨u14, hc15, hf⟩ := bind_t hf
    refine k_V (As := [.int v4, .int u12]) (rest := []) (n := 2) ⟨hx, hb, hml, hown, hts⟩ (met_X5_link l a x v4 u12 u14 hc15) w484 w486 ws18 w7 w487 ⟨rfl, by decide +kernel, by decide +kernel, by decide +kernel⟩ ⟨Nat.le_of_ble_eq_true rfl, Nat.le_of_ble_eq_true rfl⟩ hK hE hP hD hS hA (isC := [0, 1, 2, 3]) (isR := []) (isB := [0, 1, 2, 3]) (ws' := W_Table cI a u14) ⟨([] : List Nat).filterMap (fun i : Nat => (W_Table cI a x : va_W)[i]?), rfl, rfl, rfl, rfl, by decide, rfl, rfl⟩ 0 4 rfl rfl rfl rfl hl.1 rfl (Nat.le_of_ble_eq_true rfl) dX5_putIn_63 ⟨Nat.le_of_ble_eq_true rfl, Nat.le_of_ble_eq_true rfl⟩ (fun H locs hP hD hS => ?_)
    try dsimp only at hf
    refine W.eq (g2 := F0 m 66 ls []) rfl ?_
    obtain ⟨x16, hx16⟩ : ∃ z, z = u14 := ⟨_, rfl⟩
    replace hf := keep_e hf x16 hx16
    have hP : va_P D vwCl (W_Table cI a x16) H := by rw [hx16]; exact hP
    have hD : va_D A (W_Table cI a x16) := by rw [hx16]; exact hD
    obtain rfl := Option.some.inj hf
    exact W.vret hx hb hr (fun t ht hW => ⟨rfl, by rw [ht]; exact hP, va_K.moved hW.alike hK, hD, hS.F ht⟩) hS.2.2 dX5_putIn_66 hlocks
  have M0 : ∀ (H : Heap) (locs : List Loc) (ls : Array Slot), fX5_putIn x p1 p2 p3 = some res → va_P D vwCl (W_Table cI a x) H → va_D A (W_Table cI a x) → va_S A s.heap H locs → lv_has ls 6 [(0, .ref (a 0)), (1, .int p1), (2, .int p2), (3, .int p3)] → W p l e ({ frames := 1, cells := 0, slots := 0, locals := 25 } : Room) s m ([.ref (a 0), .int p1, .int p2, .int p3] : List Value).toArray below meth c H locs 0 0 (MQ below (QW D (TY cI cV cJ cD) (W_Table cI a res) A none) (([.ref (a 0), .int p1, .int p2, .int p3] : List Value).toArray) s 0 0 A) (F0 m 0 ls []) := by
    intro H locs ls hf hP hD hS hl
    dsimp only [fX5_putIn] at hf
    refine lv_aload_n hx hb dX5_putIn_0 rfl (lv_at hl 0 rfl) ?_
    obtain ⟨u17, hc18, hf⟩ := bind_t hf
    refine k_V (As := []) (rest := []) (n := 0) ⟨hx, hb, hml, hown, hts⟩ (met_X5_freeSlot l a x u17 hc18) w480 w482 ws17 w7 w483 ⟨rfl, by decide +kernel, by decide +kernel, by decide +kernel⟩ ⟨Nat.le_of_ble_eq_true rfl, Nat.le_of_ble_eq_true rfl⟩ hK hE hP hD hS hA (isC := [0, 1, 2, 3]) (isR := []) (isB := [0, 1, 2, 3]) (ws' := W_Table cI a x) ⟨([] : List Nat).filterMap (fun i : Nat => (W_Table cI a x : va_W)[i]?), rfl, rfl, rfl, rfl, by decide, rfl, rfl⟩ 0 4 rfl rfl rfl rfl hl.1 rfl (Nat.le_of_ble_eq_true rfl) dX5_putIn_1 ⟨Nat.le_of_ble_eq_true rfl, Nat.le_of_ble_eq_true rfl⟩ (fun H locs hP hD hS => ?_)
    try dsimp only at hf
    refine W.eq (g2 := F0 m 4 ls [.int u17]) rfl ?_
    refine lv_istore (lv' := [(4, .int u17), (0, .ref (a 0)), (1, .int p1), (2, .int p2), (3, .int p3)]) hx hb dX5_putIn_4 hl (by decide) rfl (fun ls hl => ?_)
    refine lv_iload hx hb dX5_putIn_6 (lv_at hl 0 rfl) ?_
    refine lv_iconst (v := (-1)) hx hb dX5_putIn_8 (by decide) ?_
    refine lv_icmp_eq (tgt := 16) hx hb dX5_putIn_9 (by decide) (fun c19 => ?_) (fun c19 => ?_)
    · replace hf := if_t c19 hf
      obtain rfl := Option.some.inj hf
      exact W.vret hx hb hr (fun t ht hW => ⟨rfl, by rw [ht]; exact hP, va_K.moved hW.alike hK, hD, hS.F ht⟩) hS.2.2 dX5_putIn_16 hlocks
    · replace hf := if_f c19 hf
      refine lv_iload_n hx hb dX5_putIn_12 rfl (lv_at hl 3 rfl) ?_
      refine lv_if_ge (tgt := 17) hx hb dX5_putIn_13 (by decide) (fun c20 => ?_) (fun c20 => ?_)
      · replace hf := if_t c20 hf
        refine lv_aload_n hx hb dX5_putIn_17 rfl (lv_at hl 1 rfl) ?_
        refine va_get (D := D) (ci := 4) (v := .ref (a 2)) (C := RX5) (T := TX5) (N := 5) hx hb hg in_X5 hown hK hP 0 rfl rfl 1 (by decide) (hg _ w100) (fun _ h9 => h9) rfl dX5_putIn_18 ?_
        refine lv_iload hx hb dX5_putIn_21 (lv_at hl 0 rfl) ?_
        refine lv_iload_n hx hb dX5_putIn_23 rfl (lv_at hl 3 rfl) ?_
        obtain ⟨hi21, hf⟩ := chk_t hf
        refine va_iast hx hb hK hP hD hS 2 0 rfl rfl (inb_in hi21) dX5_putIn_24 (fun H locs hP hD hS => ?_)
        obtain ⟨x22, hx22⟩ : ∃ z, z = (tbM_s x (upd (tbM x) (u17).toNatClampNeg p2)) := ⟨_, rfl⟩
        replace hf := keep_e hf x22 hx22
        have hP : va_P D vwCl (W_Table cI a x22) H := by rw [hx22]; exact hP
        have hD : va_D A (W_Table cI a x22) := by rw [hx22]; exact hD
        refine lv_aload_n hx hb dX5_putIn_25 rfl (lv_at hl 1 rfl) ?_
        refine lv_dup hx hb dX5_putIn_26 rfl ?_
        refine va_get (D := D) (ci := 4) (v := .int (tbC x22)) (C := RX5) (T := TX5) (N := 5) hx hb hg in_X5 hown hK hP 0 rfl rfl 4 (by decide) (hg _ w103) (fun _ h9 => h9) rfl dX5_putIn_27 ?_
        refine lv_iconst (v := 1) hx hb dX5_putIn_30 (by decide) ?_
        refine lv_iadd hx hb dX5_putIn_31 ?_
        refine va_put (D := D) (ci := 4) (v := .int ((tbC x22) + 1)) (ty := .int) (C := RX5) (T := TX5) (N := 5) hx hb hg in_X5 tyX5 tyX5_ok nmX5 hown hK hP hD hS 0 rfl rfl 4 (by decide) (hg _ w103) (fun _ h9 => h9) rfl (by decide +kernel) rfl rfl (Nat.le_of_ble_eq_true rfl) dX5_putIn_32 (fun H locs hP hD hS => ?_)
        obtain ⟨x23, hx23⟩ : ∃ z, z = (tbC_s x22 ((tbC x22) + 1)) := ⟨_, rfl⟩
        replace hf := keep_e hf x23 hx23
        have hP : va_P D vwCl (W_Table cI a x23) H := by rw [hx23]; exact hP
        have hD : va_D A (W_Table cI a x23) := by rw [hx23]; exact hD
        refine lv_aload_n hx hb dX5_putIn_35 rfl (lv_at hl 1 rfl) ?_
        refine va_get (D := D) (ci := 4) (v := .int (tbC x23)) (C := RX5) (T := TX5) (N := 5) hx hb hg in_X5 hown hK hP 0 rfl rfl 4 (by decide) (hg _ w103) (fun _ h9 => h9) rfl dX5_putIn_36 ?_
        refine lv_aload_n hx hb dX5_putIn_39 rfl (lv_at hl 1 rfl) ?_
        refine va_get (D := D) (ci := 4) (v := .int (tbB x23)) (C := RX5) (T := TX5) (N := 5) hx hb hg in_X5 hown hK hP 0 rfl rfl 3 (by decide) (hg _ w102) (fun _ h9 => h9) rfl dX5_putIn_40 ?_
        refine lv_icmp_le (tgt := 55) hx hb dX5_putIn_43 (by decide) (fun c24 => ?_) (fun c24 => ?_)
        · replace hf := if_t c24 hf
          exact L55 x23 p2 u17 H locs ls hf hP hD hS (lv_sub hl [1, 3, 0] rfl)
        · replace hf := if_f c24 hf
          refine lv_aload_n hx hb dX5_putIn_46 rfl (lv_at hl 1 rfl) ?_
          refine va_get (D := D) (ci := 4) (v := .int (tbB x23)) (C := RX5) (T := TX5) (N := 5) hx hb hg in_X5 hown hK hP 0 rfl rfl 3 (by decide) (hg _ w102) (fun _ h9 => h9) rfl dX5_putIn_47 ?_
          refine lv_bipush (v := 64) hx hb dX5_putIn_50 (by decide) ?_
          refine lv_icmp_lt (tgt := 67) hx hb dX5_putIn_52 (by decide) (fun c25 => ?_) (fun c25 => ?_)
          · replace hf := if_t c25 hf
            refine lv_aload_n hx hb dX5_putIn_67 rfl (lv_at hl 1 rfl) ?_
            refine lv_dup hx hb dX5_putIn_68 rfl ?_
            refine va_get (D := D) (ci := 4) (v := .int (tbB x23)) (C := RX5) (T := TX5) (N := 5) hx hb hg in_X5 hown hK hP 0 rfl rfl 3 (by decide) (hg _ w102) (fun _ h9 => h9) rfl dX5_putIn_69 ?_
            refine lv_iconst (v := 2) hx hb dX5_putIn_72 (by decide) ?_
            refine lv_imul hx hb dX5_putIn_73 ?_
            refine va_put (D := D) (ci := 4) (v := .int ((tbB x23) * 2)) (ty := .int) (C := RX5) (T := TX5) (N := 5) hx hb hg in_X5 tyX5 tyX5_ok nmX5 hown hK hP hD hS 0 rfl rfl 3 (by decide) (hg _ w102) (fun _ h9 => h9) rfl (by decide +kernel) rfl rfl (Nat.le_of_ble_eq_true rfl) dX5_putIn_74 (fun H locs hP hD hS => ?_)
            obtain ⟨x26, hx26⟩ : ∃ z, z = (tbB_s x23 ((tbB x23) * 2)) := ⟨_, rfl⟩
            replace hf := keep_e hf x26 hx26
            have hP : va_P D vwCl (W_Table cI a x26) H := by rw [hx26]; exact hP
            have hD : va_D A (W_Table cI a x26) := by rw [hx26]; exact hD
            refine lv_aload_n hx hb dX5_putIn_77 rfl (lv_at hl 1 rfl) ?_
            refine va_get (D := D) (ci := 4) (v := .ref (a 1)) (C := RX5) (T := TX5) (N := 5) hx hb hg in_X5 hown hK hP 0 rfl rfl 0 (by decide) (hg _ w99) (fun _ h9 => h9) rfl dX5_putIn_78 ?_
            refine lv_iconst (v := (-1)) hx hb dX5_putIn_81 (by decide) ?_
            obtain ⟨u27, hc28, hf⟩ := bind_t hf
            refine k_S (As := [.ref (a 1), .int (-1)]) (rest := []) (n := 2) ⟨hx, hb, hml, hown, hts⟩ (met_J7_fill_53178 l 64 (fun j => a (1 + j)) (tbH x26) (-1) u27 hc28) w452 w428 w15 w429 ⟨by decide +kernel, by decide +kernel, by decide +kernel⟩ ⟨Nat.le_of_ble_eq_true rfl, Nat.le_of_ble_eq_true rfl⟩ hK hE hP hD hS hA (isC := [1]) (isR := [0, 2, 3]) (isB := [0, 3, 1, 2]) (ws' := W_Table cI a (tbH_s x26 u27)) ⟨([0, 2, 3] : List Nat).filterMap (fun i : Nat => (W_Table cI a x26 : va_W)[i]?), rfl, rfl, rfl, rfl, by decide, rfl, rfl⟩ rfl hl.1 rfl (Nat.le_of_ble_eq_true rfl) dX5_putIn_82 ⟨Nat.le_of_ble_eq_true rfl, Nat.le_of_ble_eq_true rfl⟩ (fun H locs hP hD hS => ?_)
            try dsimp only at hf
            refine W.eq (g2 := F0 m 85 ls []) rfl ?_
            obtain ⟨x29, hx29⟩ : ∃ z, z = (tbH_s x26 u27) := ⟨_, rfl⟩
            replace hf := keep_e hf x29 hx29
            have hP : va_P D vwCl (W_Table cI a x29) H := by rw [hx29]; exact hP
            have hD : va_D A (W_Table cI a x29) := by rw [hx29]; exact hD
            refine lv_iconst (v := 0) hx hb dX5_putIn_85 (by decide) ?_
            refine lv_istore (lv' := [(5, .int 0), (4, .int u17), (0, .ref (a 0)), (1, .int p1), (2, .int p2), (3, .int p3)]) hx hb dX5_putIn_86 hl (by decide) rfl (fun ls hl => ?_)
            exact L88  FU x29 0 H locs ls hf hP hD hS (lv_sub hl [2, 0] rfl)
          · replace hf := if_f c25 hf
            exact L55 x23 p2 u17 H locs ls hf hP hD hS (lv_sub hl [1, 3, 0] rfl)
      · replace hf := if_f c20 hf
        obtain rfl := Option.some.inj hf
        exact W.vret hx hb hr (fun t ht hW => ⟨rfl, by rw [ht]; exact hP, va_K.moved hW.alike hK, hD, hS.F ht⟩) hS.2.2 dX5_putIn_16 hlocks
  exact M0 s.heap [] ls hf hP hD hS hl
/-! Compactforms$Table.dropOut(II)V -/
def fX5_dropOut_111 (x : TSt) (v5 : Int32) : Option (TSt) := chk (inb v5 40) (keep (tbM_s x (upd (tbM x) (v5).toNatClampNeg (-1))) (fun x2 => keep (tbC_s x2 ((tbC x2) - 1)) (fun x3 => some x3)))
def fX5_dropOut_68 (x : TSt) (v3 : Int32) (v4 : Int32) (v5 : Int32) : Option (TSt) := (if v5 = (-1) then some x else (if v4 = (-1) then chk (inb v5 40) (chk (inb v3 64) (keep (tbH_s x (upd (tbH x) (v3).toNatClampNeg ((tbX x) (v5).toNatClampNeg))) (fun x11 => fX5_dropOut_111 x11 v5))) else chk (inb v5 40) (chk (inb v4 40) (keep (tbX_s x (upd (tbX x) (v4).toNatClampNeg ((tbX x) (v5).toNatClampNeg))) (fun x8 => fX5_dropOut_111 x8 v5)))))
def fX5_dropOut_25 (x : TSt) (v2 : Int32) (v3 : Int32) (rec25 : Int32 × Int32 × Int32 → Option (TSt)) (s : Int32 × Int32 × Int32) : Option (TSt) := match s with | (v4, v5, v6) => (if 40 ≤ v6 then fX5_dropOut_68 x v3 v4 v5 else (if v5 = (-1) then fX5_dropOut_68 x v3 v4 v5 else chk (inb v5 40) ((if ((tbM x) (v5).toNatClampNeg) = v2 then fX5_dropOut_68 x v3 v4 v5 else chk (inb v5 40) (keep ((tbX x) (v5).toNatClampNeg) (fun y17 => keep (v6 + 1) (fun y18 => rec25 (v5, y17, y18))))))))
def fX5_dropOut (x : TSt) (p1 : Int32) (p2 : Int32) : Option (TSt) := (if 0 ≤ p2 then (fX5_bucketOf x p2).bind (fun u20 => chk (inb u20 64) (keep ((tbH x) (u20).toNatClampNeg) (fun y23 => iterK FU (fX5_dropOut_25 x p2 u20) ((-1), y23, 0)))) else some x)
set_option maxHeartbeats 4000000 in
set_option maxRecDepth 100000 in
theorem met_X5_dropOut {D : va_G} {cI cV cJ cD : ClassId} (l : Launch) (a : Nat → Nat) (x : TSt) (p1 : Int32) (p2 : Int32) (res : TSt) (hf : fX5_dropOut x p1 p2 = some res) : MM l yX5_dropOut cX5_dropOut 7 none { frames := 1, cells := 0, slots := 0, locals := 21 } D (TY cI cV cJ cD) (W_Table cI a x) (W_Table cI a res) [.ref (a 0), .int p1, .int p2] none := by
  intro sz
  refine Met.ofW (cc := cX5_dropOut) (maxL := 7) (ret := none) (by decide +kernel) rfl ?_
  intro p e s m args below meth c s₁ B hml hv
  obtain ⟨rfl, hsz, hP, hK, hD0, hE⟩ := hv
  have hx := B.exec
  have hb := B.bytes
  have hr := B.returns
  have hts := atoms_spec (ws := .code yX5_dropOut cX5_dropOut 7 none :: GW) B.pre
  have hg : ∀ w ∈ GW, w.before (([.ref (a 0), .int p1, .int p2] : List Value).toArray) s = true := fun w h => hts w (List.mem_cons_of_mem _ h)
  have hown : s.vm.findClass RX5 = some m.cls := findClass_of_methodNamed B.named
  have hlocks := B.notSynchronized
  subst hsz
  have hD := hD0.self (sz := s.heap.size)
  generalize hAe : va_A (W_Table cI a x) s.heap.size = A at hD hE ⊢
  have hA : ∀ q : Nat, s.heap.size ≤ q → A q := fun q h => by rw [← hAe]; exact Or.inr h
  have hS : va_S A s.heap s.heap [] := va_S.rf
  have hl := lv_entry ([.ref (a 0), .int p1, .int p2]) (n := 7) (Nat.le_of_ble_eq_true rfl)
  rw [lg_entry_eq]
  generalize (lg_sl ([.ref (a 0), .int p1, .int p2]) ++ List.replicate (7 - (lg_sl ([.ref (a 0), .int p1, .int p2])).length) Slot.unset).toArray = ls at hl ⊢
  have hl : lv_has ls 7 [(0, .ref (a 0)), (1, .int p1), (2, .int p2)] := hl
  have L111 : ∀ (x : TSt) (v5 : Int32) (H : Heap) (locs : List Loc) (ls : Array Slot), fX5_dropOut_111 x v5  = some res → va_P D vwCl (W_Table cI a x) H → va_D A (W_Table cI a x) → va_S A s.heap H locs → lv_has ls 7 [(0, .ref (a 0)), (5, .int v5)] → W p l e ({ frames := 1, cells := 0, slots := 0, locals := 21 } : Room) s m ([.ref (a 0), .int p1, .int p2] : List Value).toArray below meth c H locs 0 0 (MQ below (QW D (TY cI cV cJ cD) (W_Table cI a res) A none) (([.ref (a 0), .int p1, .int p2] : List Value).toArray) s 0 0 A) (F0 m 111 ls []) := by
    intro x v5 H locs ls hf hP hD hS hl
    dsimp only [fX5_dropOut_111] at hf
    refine lv_aload_n hx hb dX5_dropOut_111 rfl (lv_at hl 0 rfl) ?_
    refine va_get (D := D) (ci := 4) (v := .ref (a 2)) (C := RX5) (T := TX5) (N := 5) hx hb hg in_X5 hown hK hP 0 rfl rfl 1 (by decide) (hg _ w100) (fun _ h9 => h9) rfl dX5_dropOut_112 ?_
    refine lv_iload hx hb dX5_dropOut_115 (lv_at hl 1 rfl) ?_
    refine lv_iconst (v := (-1)) hx hb dX5_dropOut_117 (by decide) ?_
    obtain ⟨hi1, hf⟩ := chk_t hf
    refine va_iast hx hb hK hP hD hS 2 0 rfl rfl (inb_in hi1) dX5_dropOut_118 (fun H locs hP hD hS => ?_)
    obtain ⟨x2, hx2⟩ : ∃ z, z = (tbM_s x (upd (tbM x) (v5).toNatClampNeg (-1))) := ⟨_, rfl⟩
    replace hf := keep_e hf x2 hx2
    have hP : va_P D vwCl (W_Table cI a x2) H := by rw [hx2]; exact hP
    have hD : va_D A (W_Table cI a x2) := by rw [hx2]; exact hD
    refine lv_aload_n hx hb dX5_dropOut_119 rfl (lv_at hl 0 rfl) ?_
    refine lv_dup hx hb dX5_dropOut_120 rfl ?_
    refine va_get (D := D) (ci := 4) (v := .int (tbC x2)) (C := RX5) (T := TX5) (N := 5) hx hb hg in_X5 hown hK hP 0 rfl rfl 4 (by decide) (hg _ w103) (fun _ h9 => h9) rfl dX5_dropOut_121 ?_
    refine lv_iconst (v := 1) hx hb dX5_dropOut_124 (by decide) ?_
    refine lv_isub hx hb dX5_dropOut_125 ?_
    refine va_put (D := D) (ci := 4) (v := .int ((tbC x2) - 1)) (ty := .int) (C := RX5) (T := TX5) (N := 5) hx hb hg in_X5 tyX5 tyX5_ok nmX5 hown hK hP hD hS 0 rfl rfl 4 (by decide) (hg _ w103) (fun _ h9 => h9) rfl (by decide +kernel) rfl rfl (Nat.le_of_ble_eq_true rfl) dX5_dropOut_126 (fun H locs hP hD hS => ?_)
    obtain ⟨x3, hx3⟩ : ∃ z, z = (tbC_s x2 ((tbC x2) - 1)) := ⟨_, rfl⟩
    replace hf := keep_e hf x3 hx3
    have hP : va_P D vwCl (W_Table cI a x3) H := by rw [hx3]; exact hP
    have hD : va_D A (W_Table cI a x3) := by rw [hx3]; exact hD
    obtain rfl := Option.some.inj hf
    exact W.vret hx hb hr (fun t ht hW => ⟨rfl, by rw [ht]; exact hP, va_K.moved hW.alike hK, hD, hS.F ht⟩) hS.2.2 dX5_dropOut_129 hlocks
  have L68 : ∀ (x : TSt) (v3 : Int32) (v4 : Int32) (v5 : Int32) (H : Heap) (locs : List Loc) (ls : Array Slot), fX5_dropOut_68 x v3 v4 v5  = some res → va_P D vwCl (W_Table cI a x) H → va_D A (W_Table cI a x) → va_S A s.heap H locs → lv_has ls 7 [(0, .ref (a 0)), (3, .int v3), (4, .int v4), (5, .int v5)] → W p l e ({ frames := 1, cells := 0, slots := 0, locals := 21 } : Room) s m ([.ref (a 0), .int p1, .int p2] : List Value).toArray below meth c H locs 0 0 (MQ below (QW D (TY cI cV cJ cD) (W_Table cI a res) A none) (([.ref (a 0), .int p1, .int p2] : List Value).toArray) s 0 0 A) (F0 m 68 ls []) := by
    intro x v3 v4 v5 H locs ls hf hP hD hS hl
    dsimp only [fX5_dropOut_68] at hf
    refine lv_iload hx hb dX5_dropOut_68 (lv_at hl 3 rfl) ?_
    refine lv_iconst (v := (-1)) hx hb dX5_dropOut_70 (by decide) ?_
    refine lv_icmp_ne (tgt := 75) hx hb dX5_dropOut_71 (by decide) (fun c4 => ?_) (fun c4 => ?_)
    · replace hf := if_f c4 hf
      refine lv_iload hx hb dX5_dropOut_75 (lv_at hl 2 rfl) ?_
      refine lv_iconst (v := (-1)) hx hb dX5_dropOut_77 (by decide) ?_
      refine lv_icmp_ne (tgt := 97) hx hb dX5_dropOut_78 (by decide) (fun c5 => ?_) (fun c5 => ?_)
      · replace hf := if_f c5 hf
        refine lv_aload_n hx hb dX5_dropOut_97 rfl (lv_at hl 0 rfl) ?_
        refine va_get (D := D) (ci := 4) (v := .ref (a 3)) (C := RX5) (T := TX5) (N := 5) hx hb hg in_X5 hown hK hP 0 rfl rfl 2 (by decide) (hg _ w101) (fun _ h9 => h9) rfl dX5_dropOut_98 ?_
        refine lv_iload hx hb dX5_dropOut_101 (lv_at hl 2 rfl) ?_
        refine lv_aload_n hx hb dX5_dropOut_103 rfl (lv_at hl 0 rfl) ?_
        refine va_get (D := D) (ci := 4) (v := .ref (a 3)) (C := RX5) (T := TX5) (N := 5) hx hb hg in_X5 hown hK hP 0 rfl rfl 2 (by decide) (hg _ w101) (fun _ h9 => h9) rfl dX5_dropOut_104 ?_
        refine lv_iload hx hb dX5_dropOut_107 (lv_at hl 3 rfl) ?_
        obtain ⟨hi6, hf⟩ := chk_t hf
        refine va_iald hx hb hK hP 3 0 rfl rfl (inb_in hi6) dX5_dropOut_109 ?_
        obtain ⟨hi7, hf⟩ := chk_t hf
        refine va_iast hx hb hK hP hD hS 3 0 rfl rfl (inb_in hi7) dX5_dropOut_110 (fun H locs hP hD hS => ?_)
        obtain ⟨x8, hx8⟩ : ∃ z, z = (tbX_s x (upd (tbX x) (v4).toNatClampNeg ((tbX x) (v5).toNatClampNeg))) := ⟨_, rfl⟩
        replace hf := keep_e hf x8 hx8
        have hP : va_P D vwCl (W_Table cI a x8) H := by rw [hx8]; exact hP
        have hD : va_D A (W_Table cI a x8) := by rw [hx8]; exact hD
        exact L111 x8 v5 H locs ls hf hP hD hS (lv_sub hl [0, 3] rfl)
      · replace hf := if_t c5 hf
        refine lv_aload_n hx hb dX5_dropOut_81 rfl (lv_at hl 0 rfl) ?_
        refine va_get (D := D) (ci := 4) (v := .ref (a 1)) (C := RX5) (T := TX5) (N := 5) hx hb hg in_X5 hown hK hP 0 rfl rfl 0 (by decide) (hg _ w99) (fun _ h9 => h9) rfl dX5_dropOut_82 ?_
        refine lv_iload_n hx hb dX5_dropOut_85 rfl (lv_at hl 1 rfl) ?_
        refine lv_aload_n hx hb dX5_dropOut_86 rfl (lv_at hl 0 rfl) ?_
        refine va_get (D := D) (ci := 4) (v := .ref (a 3)) (C := RX5) (T := TX5) (N := 5) hx hb hg in_X5 hown hK hP 0 rfl rfl 2 (by decide) (hg _ w101) (fun _ h9 => h9) rfl dX5_dropOut_87 ?_
        refine lv_iload hx hb dX5_dropOut_90 (lv_at hl 3 rfl) ?_
        obtain ⟨hi9, hf⟩ := chk_t hf
        refine va_iald hx hb hK hP 3 0 rfl rfl (inb_in hi9) dX5_dropOut_92 ?_
        obtain ⟨hi10, hf⟩ := chk_t hf
        refine va_iast hx hb hK hP hD hS 1 0 rfl rfl (inb_in hi10) dX5_dropOut_93 (fun H locs hP hD hS => ?_)
        obtain ⟨x11, hx11⟩ : ∃ z, z = (tbH_s x (upd (tbH x) (v3).toNatClampNeg ((tbX x) (v5).toNatClampNeg))) := ⟨_, rfl⟩
        replace hf := keep_e hf x11 hx11
        have hP : va_P D vwCl (W_Table cI a x11) H := by rw [hx11]; exact hP
        have hD : va_D A (W_Table cI a x11) := by rw [hx11]; exact hD
        refine lv_goto (tgt := 111) hx hb dX5_dropOut_94 (by decide) ?_
        exact L111 x11 v5 H locs ls hf hP hD hS (lv_sub hl [0, 3] rfl)
    · replace hf := if_t c4 hf
      obtain rfl := Option.some.inj hf
      exact W.vret hx hb hr (fun t ht hW => ⟨rfl, by rw [ht]; exact hP, va_K.moved hW.alike hK, hD, hS.F ht⟩) hS.2.2 dX5_dropOut_74 hlocks
  have S25 : ∀ (x : TSt) (v2 : Int32) (v3 : Int32) (rec25 : Int32 × Int32 × Int32 → Option (TSt)) (hrec25 : ∀ (v4 : Int32), ∀ (v5 : Int32), ∀ (v6 : Int32), ∀ (H : Heap) (locs : List Loc) (ls : Array Slot), rec25 (v4, v5, v6) = some res → va_P D vwCl (W_Table cI a x) H → va_D A (W_Table cI a x) → va_S A s.heap H locs → lv_has ls 7 [(0, .ref (a 0)), (2, .int v2), (3, .int v3), (4, .int v4), (5, .int v5), (6, .int v6)] → W p l e ({ frames := 1, cells := 0, slots := 0, locals := 21 } : Room) s m ([.ref (a 0), .int p1, .int p2] : List Value).toArray below meth c H locs 0 0 (MQ below (QW D (TY cI cV cJ cD) (W_Table cI a res) A none) (([.ref (a 0), .int p1, .int p2] : List Value).toArray) s 0 0 A) (F0 m 25 ls [])) (v4 : Int32) (v5 : Int32) (v6 : Int32) (H : Heap) (locs : List Loc) (ls : Array Slot), fX5_dropOut_25 x v2 v3  rec25 (v4, v5, v6) = some res → va_P D vwCl (W_Table cI a x) H → va_D A (W_Table cI a x) → va_S A s.heap H locs → lv_has ls 7 [(0, .ref (a 0)), (2, .int v2), (3, .int v3), (4, .int v4), (5, .int v5), (6, .int v6)] → W p l e ({ frames := 1, cells := 0, slots := 0, locals := 21 } : Room) s m ([.ref (a 0), .int p1, .int p2] : List Value).toArray below meth c H locs 0 0 (MQ below (QW D (TY cI cV cJ cD) (W_Table cI a res) A none) (([.ref (a 0), .int p1, .int p2] : List Value).toArray) s 0 0 A) (F0 m 25 ls []) := by
    intro x v2 v3 rec25 hrec25 v4 v5 v6 H locs ls hf hP hD hS hl
    dsimp only [fX5_dropOut_25] at hf
    refine lv_iload hx hb dX5_dropOut_25 (lv_at hl 5 rfl) ?_
    refine lv_bipush (v := 40) hx hb dX5_dropOut_27 (by decide) ?_
    refine lv_icmp_ge (tgt := 68) hx hb dX5_dropOut_29 (by decide) (fun c12 => ?_) (fun c12 => ?_)
    · replace hf := if_t c12 hf
      exact L68 x v3 v4 v5 H locs ls hf hP hD hS (lv_sub hl [0, 2, 3, 4] rfl)
    · replace hf := if_f c12 hf
      refine lv_iload hx hb dX5_dropOut_32 (lv_at hl 4 rfl) ?_
      refine lv_iconst (v := (-1)) hx hb dX5_dropOut_34 (by decide) ?_
      refine lv_icmp_eq (tgt := 68) hx hb dX5_dropOut_35 (by decide) (fun c13 => ?_) (fun c13 => ?_)
      · replace hf := if_t c13 hf
        exact L68 x v3 v4 v5 H locs ls hf hP hD hS (lv_sub hl [0, 2, 3, 4] rfl)
      · replace hf := if_f c13 hf
        refine lv_aload_n hx hb dX5_dropOut_38 rfl (lv_at hl 0 rfl) ?_
        refine va_get (D := D) (ci := 4) (v := .ref (a 2)) (C := RX5) (T := TX5) (N := 5) hx hb hg in_X5 hown hK hP 0 rfl rfl 1 (by decide) (hg _ w100) (fun _ h9 => h9) rfl dX5_dropOut_39 ?_
        refine lv_iload hx hb dX5_dropOut_42 (lv_at hl 4 rfl) ?_
        obtain ⟨hi14, hf⟩ := chk_t hf
        refine va_iald hx hb hK hP 2 0 rfl rfl (inb_in hi14) dX5_dropOut_44 ?_
        refine lv_iload_n hx hb dX5_dropOut_45 rfl (lv_at hl 1 rfl) ?_
        refine lv_icmp_eq (tgt := 68) hx hb dX5_dropOut_46 (by decide) (fun c15 => ?_) (fun c15 => ?_)
        · replace hf := if_t c15 hf
          exact L68 x v3 v4 v5 H locs ls hf hP hD hS (lv_sub hl [0, 2, 3, 4] rfl)
        · replace hf := if_f c15 hf
          refine lv_iload hx hb dX5_dropOut_49 (lv_at hl 4 rfl) ?_
          refine lv_istore (lv' := [(4, .int v5), (0, .ref (a 0)), (2, .int v2), (3, .int v3), (5, .int v5), (6, .int v6)]) hx hb dX5_dropOut_51 hl (by decide) rfl (fun ls hl => ?_)
          refine lv_aload_n hx hb dX5_dropOut_53 rfl (lv_at hl 1 rfl) ?_
          refine va_get (D := D) (ci := 4) (v := .ref (a 3)) (C := RX5) (T := TX5) (N := 5) hx hb hg in_X5 hown hK hP 0 rfl rfl 2 (by decide) (hg _ w101) (fun _ h9 => h9) rfl dX5_dropOut_54 ?_
          refine lv_iload hx hb dX5_dropOut_57 (lv_at hl 4 rfl) ?_
          obtain ⟨hi16, hf⟩ := chk_t hf
          refine va_iald hx hb hK hP 3 0 rfl rfl (inb_in hi16) dX5_dropOut_59 ?_
          refine lv_topi (fun y17 hy17 => ?_)
          replace hf := keep_e hf y17 hy17
          refine lv_istore (lv' := [(5, .int y17), (4, .int v5), (0, .ref (a 0)), (2, .int v2), (3, .int v3), (6, .int v6)]) hx hb dX5_dropOut_60 hl (by decide) rfl (fun ls hl => ?_)
          obtain ⟨y18, hy18⟩ : ∃ z : Int32, z = (v6 + 1) := ⟨_, rfl⟩
          replace hf := keep_e hf y18 hy18
          refine lv_iinc (v := y18) (lv' := [(6, .int y18), (5, .int y17), (4, .int v5), (0, .ref (a 0)), (2, .int v2), (3, .int v3)]) hx hb dX5_dropOut_62 hl (k := 5) rfl (by rw [hy18]; rfl) (by decide) rfl (fun ls hl => ?_)
          refine lv_goto (tgt := 25) hx hb dX5_dropOut_65 (by decide) ?_
          exact hrec25 v5 y17 y18 H locs ls hf hP hD hS (lv_sub hl [3, 4, 5, 2, 1, 0] rfl)
  have L25 : ∀ (x : TSt) (v2 : Int32) (v3 : Int32) (fu : Nat) (v4 : Int32) (v5 : Int32) (v6 : Int32) (H : Heap) (locs : List Loc) (ls : Array Slot), iterK fu (fX5_dropOut_25 x v2 v3 ) (v4, v5, v6) = some res → va_P D vwCl (W_Table cI a x) H → va_D A (W_Table cI a x) → va_S A s.heap H locs → lv_has ls 7 [(0, .ref (a 0)), (2, .int v2), (3, .int v3), (4, .int v4), (5, .int v5), (6, .int v6)] → W p l e ({ frames := 1, cells := 0, slots := 0, locals := 21 } : Room) s m ([.ref (a 0), .int p1, .int p2] : List Value).toArray below meth c H locs 0 0 (MQ below (QW D (TY cI cV cJ cD) (W_Table cI a res) A none) (([.ref (a 0), .int p1, .int p2] : List Value).toArray) s 0 0 A) (F0 m 25 ls []) := by
    intro x v2 v3 fu
    induction fu with
    | zero =>
      intro v4 v5 v6 H locs ls hf
      cases hf
    | succ fu ih =>
      intro v4 v5 v6 H locs ls hf hP hD hS hl
      exact S25 x v2 v3 (iterK fu (fX5_dropOut_25 x v2 v3 )) ih v4 v5 v6 H locs ls hf hP hD hS hl
  have M0 : ∀ (H : Heap) (locs : List Loc) (ls : Array Slot), fX5_dropOut x p1 p2 = some res → va_P D vwCl (W_Table cI a x) H → va_D A (W_Table cI a x) → va_S A s.heap H locs → lv_has ls 7 [(0, .ref (a 0)), (1, .int p1), (2, .int p2)] → W p l e ({ frames := 1, cells := 0, slots := 0, locals := 21 } : Room) s m ([.ref (a 0), .int p1, .int p2] : List Value).toArray below meth c H locs 0 0 (MQ below (QW D (TY cI cV cJ cD) (W_Table cI a res) A none) (([.ref (a 0), .int p1, .int p2] : List Value).toArray) s 0 0 A) (F0 m 0 ls []) := by
    intro H locs ls hf hP hD hS hl
    dsimp only [fX5_dropOut] at hf
    refine lv_iload_n hx hb dX5_dropOut_0 rfl (lv_at hl 2 rfl) ?_
    refine lv_if_ge (tgt := 5) hx hb dX5_dropOut_1 (by decide) (fun c19 => ?_) (fun c19 => ?_)
    · replace hf := if_t c19 hf
      refine lv_aload_n hx hb dX5_dropOut_5 rfl (lv_at hl 0 rfl) ?_
      refine lv_iload_n hx hb dX5_dropOut_6 rfl (lv_at hl 2 rfl) ?_
      obtain ⟨u20, hc21, hf⟩ := bind_t hf
      refine k_V (As := [.int p2]) (rest := []) (n := 1) ⟨hx, hb, hml, hown, hts⟩ (met_X5_bucketOf l a x p2 u20 hc21) w352 w354 ws5 w7 w355 ⟨rfl, by decide +kernel, by decide +kernel, by decide +kernel⟩ ⟨Nat.le_of_ble_eq_true rfl, Nat.le_of_ble_eq_true rfl⟩ hK hE hP hD hS hA (isC := [0, 1, 2, 3]) (isR := []) (isB := [0, 1, 2, 3]) (ws' := W_Table cI a x) ⟨([] : List Nat).filterMap (fun i : Nat => (W_Table cI a x : va_W)[i]?), rfl, rfl, rfl, rfl, by decide, rfl, rfl⟩ 0 4 rfl rfl rfl rfl hl.1 rfl (Nat.le_of_ble_eq_true rfl) dX5_dropOut_7 ⟨Nat.le_of_ble_eq_true rfl, Nat.le_of_ble_eq_true rfl⟩ (fun H locs hP hD hS => ?_)
      try dsimp only at hf
      refine W.eq (g2 := F0 m 10 ls [.int u20]) rfl ?_
      refine lv_istore_n (lv' := [(3, .int u20), (0, .ref (a 0)), (1, .int p1), (2, .int p2)]) hx hb dX5_dropOut_10 rfl hl (by decide) rfl (fun ls hl => ?_)
      refine lv_iconst (v := (-1)) hx hb dX5_dropOut_11 (by decide) ?_
      refine lv_istore (lv' := [(4, .int (-1)), (3, .int u20), (0, .ref (a 0)), (1, .int p1), (2, .int p2)]) hx hb dX5_dropOut_12 hl (by decide) rfl (fun ls hl => ?_)
      refine lv_aload_n hx hb dX5_dropOut_14 rfl (lv_at hl 2 rfl) ?_
      refine va_get (D := D) (ci := 4) (v := .ref (a 1)) (C := RX5) (T := TX5) (N := 5) hx hb hg in_X5 hown hK hP 0 rfl rfl 0 (by decide) (hg _ w99) (fun _ h9 => h9) rfl dX5_dropOut_15 ?_
      refine lv_iload_n hx hb dX5_dropOut_18 rfl (lv_at hl 1 rfl) ?_
      obtain ⟨hi22, hf⟩ := chk_t hf
      refine va_iald hx hb hK hP 1 0 rfl rfl (inb_in hi22) dX5_dropOut_19 ?_
      refine lv_topi (fun y23 hy23 => ?_)
      replace hf := keep_e hf y23 hy23
      refine lv_istore (lv' := [(5, .int y23), (4, .int (-1)), (3, .int u20), (0, .ref (a 0)), (1, .int p1), (2, .int p2)]) hx hb dX5_dropOut_20 hl (by decide) rfl (fun ls hl => ?_)
      refine lv_iconst (v := 0) hx hb dX5_dropOut_22 (by decide) ?_
      refine lv_istore (lv' := [(6, .int 0), (5, .int y23), (4, .int (-1)), (3, .int u20), (0, .ref (a 0)), (1, .int p1), (2, .int p2)]) hx hb dX5_dropOut_23 hl (by decide) rfl (fun ls hl => ?_)
      exact L25 x p2 u20 FU (-1) y23 0 H locs ls hf hP hD hS (lv_sub hl [4, 6, 3, 2, 1, 0] rfl)
    · replace hf := if_f c19 hf
      obtain rfl := Option.some.inj hf
      exact W.vret hx hb hr (fun t ht hW => ⟨rfl, by rw [ht]; exact hP, va_K.moved hW.alike hK, hD, hS.F ht⟩) hS.2.2 dX5_dropOut_4 hlocks
  exact M0 s.heap [] ls hf hP hD hS hl
/-! Compactforms$Table.readBackwards(I)I -/
def fX5_readBackwards_7 (x : TSt) (rec7 : Int32 × Int32 × Int32 → Option (Int32)) (s : Int32 × Int32 × Int32) : Option (Int32) := match s with | (v2, v3, v4) => (if 64 ≤ v4 then some v3 else (if (tbB x) ≤ v4 then some v3 else keep ((v3 * 2) + (v2 &&& 1)) (fun y3 => keep (v2 >>> (1 &&& 31)) (fun y4 => keep (v4 * 2) (fun y5 => rec7 (y4, y3, y5))))))
def fX5_readBackwards (x : TSt) (p1 : Int32) : Option (Int32) := iterK FU (fX5_readBackwards_7 x) (p1, 0, 1)
set_option maxHeartbeats 4000000 in
set_option maxRecDepth 100000 in
theorem met_X5_readBackwards {D : va_G} {cI cV cJ cD : ClassId} (l : Launch) (a : Nat → Nat) (x : TSt) (p1 : Int32) (res : Int32) (hf : fX5_readBackwards x p1 = some res) : MM l yX5_readBackwards cX5_readBackwards 5 (some .int) { frames := 0, cells := 0, slots := 0, locals := 0 } D (TY cI cV cJ cD) (W_Table cI a x) (W_Table cI a x) [.ref (a 0), .int p1] (some (.int res)) := by
  intro sz
  refine Met.ofW (cc := cX5_readBackwards) (maxL := 5) (ret := (some .int)) (by decide +kernel) rfl ?_
  intro p e s m args below meth c s₁ B hml hv
  obtain ⟨rfl, hsz, hP, hK, hD0, hE⟩ := hv
  have hx := B.exec
  have hb := B.bytes
  have hr := B.returns
  have hts := atoms_spec (ws := .code yX5_readBackwards cX5_readBackwards 5 (some .int) :: GW) B.pre
  have hg : ∀ w ∈ GW, w.before (([.ref (a 0), .int p1] : List Value).toArray) s = true := fun w h => hts w (List.mem_cons_of_mem _ h)
  have hown : s.vm.findClass RX5 = some m.cls := findClass_of_methodNamed B.named
  have hlocks := B.notSynchronized
  subst hsz
  have hD := hD0.self (sz := s.heap.size)
  generalize hAe : va_A (W_Table cI a x) s.heap.size = A at hD hE ⊢
  have hA : ∀ q : Nat, s.heap.size ≤ q → A q := fun q h => by rw [← hAe]; exact Or.inr h
  have hS : va_S A s.heap s.heap [] := va_S.rf
  have hl := lv_entry ([.ref (a 0), .int p1]) (n := 5) (Nat.le_of_ble_eq_true rfl)
  rw [lg_entry_eq]
  generalize (lg_sl ([.ref (a 0), .int p1]) ++ List.replicate (5 - (lg_sl ([.ref (a 0), .int p1])).length) Slot.unset).toArray = ls at hl ⊢
  have hl : lv_has ls 5 [(0, .ref (a 0)), (1, .int p1)] := hl
  have S7 : ∀ (x : TSt) (rec7 : Int32 × Int32 × Int32 → Option (Int32)) (hrec7 : ∀ (v2 : Int32), ∀ (v3 : Int32), ∀ (v4 : Int32), ∀ (H : Heap) (locs : List Loc) (ls : Array Slot), rec7 (v2, v3, v4) = some res → va_P D vwCl (W_Table cI a x) H → va_D A (W_Table cI a x) → va_S A s.heap H locs → lv_has ls 5 [(0, .ref (a 0)), (2, .int v2), (3, .int v3), (4, .int v4)] → W p l e ({ frames := 0, cells := 0, slots := 0, locals := 0 } : Room) s m ([.ref (a 0), .int p1] : List Value).toArray below meth c H locs 0 0 (MQ below (QW D (TY cI cV cJ cD) (W_Table cI a x) A (some (.int res))) (([.ref (a 0), .int p1] : List Value).toArray) s 0 0 A) (F0 m 7 ls [])) (v2 : Int32) (v3 : Int32) (v4 : Int32) (H : Heap) (locs : List Loc) (ls : Array Slot), fX5_readBackwards_7 x  rec7 (v2, v3, v4) = some res → va_P D vwCl (W_Table cI a x) H → va_D A (W_Table cI a x) → va_S A s.heap H locs → lv_has ls 5 [(0, .ref (a 0)), (2, .int v2), (3, .int v3), (4, .int v4)] → W p l e ({ frames := 0, cells := 0, slots := 0, locals := 0 } : Room) s m ([.ref (a 0), .int p1] : List Value).toArray below meth c H locs 0 0 (MQ below (QW D (TY cI cV cJ cD) (W_Table cI a x) A (some (.int res))) (([.ref (a 0), .int p1] : List Value).toArray) s 0 0 A) (F0 m 7 ls []) := by
    intro x rec7 hrec7 v2 v3 v4 H locs ls hf hP hD hS hl
    dsimp only [fX5_readBackwards_7] at hf
    refine lv_iload hx hb dX5_readBackwards_7 (lv_at hl 3 rfl) ?_
    refine lv_bipush (v := 64) hx hb dX5_readBackwards_9 (by decide) ?_
    refine lv_icmp_ge (tgt := 44) hx hb dX5_readBackwards_11 (by decide) (fun c1 => ?_) (fun c1 => ?_)
    · replace hf := if_t c1 hf
      refine lv_iload_n hx hb dX5_readBackwards_44 rfl (lv_at hl 2 rfl) ?_
      obtain rfl := Option.some.inj hf
      exact W.iret (v := v3) hx hb hr (fun t ht hW => ⟨rfl, by rw [ht]; exact hP, va_K.moved hW.alike hK, hD, hS.F ht⟩) hS.2.2 dX5_readBackwards_45 hlocks
    · replace hf := if_f c1 hf
      refine lv_iload hx hb dX5_readBackwards_14 (lv_at hl 3 rfl) ?_
      refine lv_aload_n hx hb dX5_readBackwards_16 rfl (lv_at hl 0 rfl) ?_
      refine va_get (D := D) (ci := 4) (v := .int (tbB x)) (C := RX5) (T := TX5) (N := 5) hx hb hg in_X5 hown hK hP 0 rfl rfl 3 (by decide) (hg _ w102) (fun _ h9 => h9) rfl dX5_readBackwards_17 ?_
      refine lv_icmp_ge (tgt := 44) hx hb dX5_readBackwards_20 (by decide) (fun c2 => ?_) (fun c2 => ?_)
      · replace hf := if_t c2 hf
        refine lv_iload_n hx hb dX5_readBackwards_44 rfl (lv_at hl 2 rfl) ?_
        obtain rfl := Option.some.inj hf
        exact W.iret (v := v3) hx hb hr (fun t ht hW => ⟨rfl, by rw [ht]; exact hP, va_K.moved hW.alike hK, hD, hS.F ht⟩) hS.2.2 dX5_readBackwards_45 hlocks
      · replace hf := if_f c2 hf
        refine lv_iload_n hx hb dX5_readBackwards_23 rfl (lv_at hl 2 rfl) ?_
        refine lv_iconst (v := 2) hx hb dX5_readBackwards_24 (by decide) ?_
        refine lv_imul hx hb dX5_readBackwards_25 ?_
        refine lv_iload_n hx hb dX5_readBackwards_26 rfl (lv_at hl 1 rfl) ?_
        refine lv_iconst (v := 1) hx hb dX5_readBackwards_27 (by decide) ?_
        refine lv_iand hx hb dX5_readBackwards_28 ?_
        refine lv_iadd hx hb dX5_readBackwards_29 ?_
        refine lv_topi (fun y3 hy3 => ?_)
        replace hf := keep_e hf y3 hy3
        refine lv_istore_n (lv' := [(3, .int y3), (0, .ref (a 0)), (2, .int v2), (4, .int v4)]) hx hb dX5_readBackwards_30 rfl hl (by decide) rfl (fun ls hl => ?_)
        refine lv_iload_n hx hb dX5_readBackwards_31 rfl (lv_at hl 2 rfl) ?_
        refine lv_iconst (v := 1) hx hb dX5_readBackwards_32 (by decide) ?_
        refine lv_ishr hx hb dX5_readBackwards_33 ?_
        refine lv_topi (fun y4 hy4 => ?_)
        replace hf := keep_e hf y4 hy4
        refine lv_istore_n (lv' := [(2, .int y4), (3, .int y3), (0, .ref (a 0)), (4, .int v4)]) hx hb dX5_readBackwards_34 rfl hl (by decide) rfl (fun ls hl => ?_)
        refine lv_iload hx hb dX5_readBackwards_35 (lv_at hl 3 rfl) ?_
        refine lv_iconst (v := 2) hx hb dX5_readBackwards_37 (by decide) ?_
        refine lv_imul hx hb dX5_readBackwards_38 ?_
        refine lv_topi (fun y5 hy5 => ?_)
        replace hf := keep_e hf y5 hy5
        refine lv_istore (lv' := [(4, .int y5), (2, .int y4), (3, .int y3), (0, .ref (a 0))]) hx hb dX5_readBackwards_39 hl (by decide) rfl (fun ls hl => ?_)
        refine lv_goto (tgt := 7) hx hb dX5_readBackwards_41 (by decide) ?_
        exact hrec7 y4 y3 y5 H locs ls hf hP hD hS (lv_sub hl [3, 1, 2, 0] rfl)
  have L7 : ∀ (x : TSt) (fu : Nat) (v2 : Int32) (v3 : Int32) (v4 : Int32) (H : Heap) (locs : List Loc) (ls : Array Slot), iterK fu (fX5_readBackwards_7 x ) (v2, v3, v4) = some res → va_P D vwCl (W_Table cI a x) H → va_D A (W_Table cI a x) → va_S A s.heap H locs → lv_has ls 5 [(0, .ref (a 0)), (2, .int v2), (3, .int v3), (4, .int v4)] → W p l e ({ frames := 0, cells := 0, slots := 0, locals := 0 } : Room) s m ([.ref (a 0), .int p1] : List Value).toArray below meth c H locs 0 0 (MQ below (QW D (TY cI cV cJ cD) (W_Table cI a x) A (some (.int res))) (([.ref (a 0), .int p1] : List Value).toArray) s 0 0 A) (F0 m 7 ls []) := by
    intro x fu
    induction fu with
    | zero =>
      intro v2 v3 v4 H locs ls hf
      cases hf
    | succ fu ih =>
      intro v2 v3 v4 H locs ls hf hP hD hS hl
      exact S7 x (iterK fu (fX5_readBackwards_7 x )) ih v2 v3 v4 H locs ls hf hP hD hS hl
  have M0 : ∀ (H : Heap) (locs : List Loc) (ls : Array Slot), fX5_readBackwards x p1 = some res → va_P D vwCl (W_Table cI a x) H → va_D A (W_Table cI a x) → va_S A s.heap H locs → lv_has ls 5 [(0, .ref (a 0)), (1, .int p1)] → W p l e ({ frames := 0, cells := 0, slots := 0, locals := 0 } : Room) s m ([.ref (a 0), .int p1] : List Value).toArray below meth c H locs 0 0 (MQ below (QW D (TY cI cV cJ cD) (W_Table cI a x) A (some (.int res))) (([.ref (a 0), .int p1] : List Value).toArray) s 0 0 A) (F0 m 0 ls []) := by
    intro H locs ls hf hP hD hS hl
    dsimp only [fX5_readBackwards] at hf
    refine lv_iload_n hx hb dX5_readBackwards_0 rfl (lv_at hl 1 rfl) ?_
    refine lv_istore_n (lv' := [(2, .int p1), (0, .ref (a 0)), (1, .int p1)]) hx hb dX5_readBackwards_1 rfl hl (by decide) rfl (fun ls hl => ?_)
    refine lv_iconst (v := 0) hx hb dX5_readBackwards_2 (by decide) ?_
    refine lv_istore_n (lv' := [(3, .int 0), (2, .int p1), (0, .ref (a 0)), (1, .int p1)]) hx hb dX5_readBackwards_3 rfl hl (by decide) rfl (fun ls hl => ?_)
    refine lv_iconst (v := 1) hx hb dX5_readBackwards_4 (by decide) ?_
    refine lv_istore (lv' := [(4, .int 1), (3, .int 0), (2, .int p1), (0, .ref (a 0)), (1, .int p1)]) hx hb dX5_readBackwards_5 hl (by decide) rfl (fun ls hl => ?_)
    exact L7 x FU p1 0 1 H locs ls hf hP hD hS (lv_sub hl [3, 2, 1, 0] rfl)
  exact M0 s.heap [] ls hf hP hD hS hl
/-! Compactforms$Table.cursorBehind(I)I -/
def fX5_cursorBehind (x : TSt) (p1 : Int32) : Option (Int32) := (fX5_readBackwards x (p1 &&& ((tbB x) - 1))).bind (fun u1 => (fX5_readBackwards x ((u1 + 1) &&& ((tbB x) - 1))).bind (fun u3 => some u3))
set_option maxHeartbeats 4000000 in
set_option maxRecDepth 100000 in
theorem met_X5_cursorBehind {D : va_G} {cI cV cJ cD : ClassId} (l : Launch) (a : Nat → Nat) (x : TSt) (p1 : Int32) (res : Int32) (hf : fX5_cursorBehind x p1 = some res) : MM l yX5_cursorBehind cX5_cursorBehind 3 (some .int) { frames := 1, cells := 0, slots := 0, locals := 24 } D (TY cI cV cJ cD) (W_Table cI a x) (W_Table cI a x) [.ref (a 0), .int p1] (some (.int res)) := by
  intro sz
  refine Met.ofW (cc := cX5_cursorBehind) (maxL := 3) (ret := (some .int)) (by decide +kernel) rfl ?_
  intro p e s m args below meth c s₁ B hml hv
  obtain ⟨rfl, hsz, hP, hK, hD0, hE⟩ := hv
  have hx := B.exec
  have hb := B.bytes
  have hr := B.returns
  have hts := atoms_spec (ws := .code yX5_cursorBehind cX5_cursorBehind 3 (some .int) :: GW) B.pre
  have hg : ∀ w ∈ GW, w.before (([.ref (a 0), .int p1] : List Value).toArray) s = true := fun w h => hts w (List.mem_cons_of_mem _ h)
  have hown : s.vm.findClass RX5 = some m.cls := findClass_of_methodNamed B.named
  have hlocks := B.notSynchronized
  subst hsz
  have hD := hD0.self (sz := s.heap.size)
  generalize hAe : va_A (W_Table cI a x) s.heap.size = A at hD hE ⊢
  have hA : ∀ q : Nat, s.heap.size ≤ q → A q := fun q h => by rw [← hAe]; exact Or.inr h
  have hS : va_S A s.heap s.heap [] := va_S.rf
  have hl := lv_entry ([.ref (a 0), .int p1]) (n := 3) (Nat.le_of_ble_eq_true rfl)
  rw [lg_entry_eq]
  generalize (lg_sl ([.ref (a 0), .int p1]) ++ List.replicate (3 - (lg_sl ([.ref (a 0), .int p1])).length) Slot.unset).toArray = ls at hl ⊢
  have hl : lv_has ls 3 [(0, .ref (a 0)), (1, .int p1)] := hl
  have M0 : ∀ (H : Heap) (locs : List Loc) (ls : Array Slot), fX5_cursorBehind x p1 = some res → va_P D vwCl (W_Table cI a x) H → va_D A (W_Table cI a x) → va_S A s.heap H locs → lv_has ls 3 [(0, .ref (a 0)), (1, .int p1)] → W p l e ({ frames := 1, cells := 0, slots := 0, locals := 24 } : Room) s m ([.ref (a 0), .int p1] : List Value).toArray below meth c H locs 0 0 (MQ below (QW D (TY cI cV cJ cD) (W_Table cI a x) A (some (.int res))) (([.ref (a 0), .int p1] : List Value).toArray) s 0 0 A) (F0 m 0 ls []) := by
    intro H locs ls hf hP hD hS hl
    dsimp only [fX5_cursorBehind] at hf
    refine lv_aload_n hx hb dX5_cursorBehind_0 rfl (lv_at hl 0 rfl) ?_
    refine lv_iload_n hx hb dX5_cursorBehind_1 rfl (lv_at hl 1 rfl) ?_
    refine lv_aload_n hx hb dX5_cursorBehind_2 rfl (lv_at hl 0 rfl) ?_
    refine va_get (D := D) (ci := 4) (v := .int (tbB x)) (C := RX5) (T := TX5) (N := 5) hx hb hg in_X5 hown hK hP 0 rfl rfl 3 (by decide) (hg _ w102) (fun _ h9 => h9) rfl dX5_cursorBehind_3 ?_
    refine lv_iconst (v := 1) hx hb dX5_cursorBehind_6 (by decide) ?_
    refine lv_isub hx hb dX5_cursorBehind_7 ?_
    refine lv_iand hx hb dX5_cursorBehind_8 ?_
    obtain ⟨u1, hc2, hf⟩ := bind_t hf
    refine k_V (As := [.int (p1 &&& ((tbB x) - 1))]) (rest := []) (n := 1) ⟨hx, hb, hml, hown, hts⟩ (met_X5_readBackwards l a x (p1 &&& ((tbB x) - 1)) u1 hc2) w657 w659 ws21 w7 w660 ⟨rfl, by decide +kernel, by decide +kernel, by decide +kernel⟩ ⟨Nat.le_of_ble_eq_true rfl, Nat.le_of_ble_eq_true rfl⟩ hK hE hP hD hS hA (isC := [0, 1, 2, 3]) (isR := []) (isB := [0, 1, 2, 3]) (ws' := W_Table cI a x) ⟨([] : List Nat).filterMap (fun i : Nat => (W_Table cI a x : va_W)[i]?), rfl, rfl, rfl, rfl, by decide, rfl, rfl⟩ 0 4 rfl rfl rfl rfl hl.1 rfl (Nat.le_of_ble_eq_true rfl) dX5_cursorBehind_9 ⟨Nat.le_of_ble_eq_true rfl, Nat.le_of_ble_eq_true rfl⟩ (fun H locs hP hD hS => ?_)
    try dsimp only at hf
    refine W.eq (g2 := F0 m 12 ls [.int u1]) rfl ?_
    refine lv_istore_n (lv' := [(2, .int u1), (0, .ref (a 0)), (1, .int p1)]) hx hb dX5_cursorBehind_12 rfl hl (by decide) rfl (fun ls hl => ?_)
    refine lv_aload_n hx hb dX5_cursorBehind_13 rfl (lv_at hl 1 rfl) ?_
    refine lv_iload_n hx hb dX5_cursorBehind_14 rfl (lv_at hl 0 rfl) ?_
    refine lv_iconst (v := 1) hx hb dX5_cursorBehind_15 (by decide) ?_
    refine lv_iadd hx hb dX5_cursorBehind_16 ?_
    refine lv_aload_n hx hb dX5_cursorBehind_17 rfl (lv_at hl 1 rfl) ?_
    refine va_get (D := D) (ci := 4) (v := .int (tbB x)) (C := RX5) (T := TX5) (N := 5) hx hb hg in_X5 hown hK hP 0 rfl rfl 3 (by decide) (hg _ w102) (fun _ h9 => h9) rfl dX5_cursorBehind_18 ?_
    refine lv_iconst (v := 1) hx hb dX5_cursorBehind_21 (by decide) ?_
    refine lv_isub hx hb dX5_cursorBehind_22 ?_
    refine lv_iand hx hb dX5_cursorBehind_23 ?_
    obtain ⟨u3, hc4, hf⟩ := bind_t hf
    refine k_V (As := [.int ((u1 + 1) &&& ((tbB x) - 1))]) (rest := []) (n := 1) ⟨hx, hb, hml, hown, hts⟩ (met_X5_readBackwards l a x ((u1 + 1) &&& ((tbB x) - 1)) u3 hc4) w657 w659 ws21 w7 w660 ⟨rfl, by decide +kernel, by decide +kernel, by decide +kernel⟩ ⟨Nat.le_of_ble_eq_true rfl, Nat.le_of_ble_eq_true rfl⟩ hK hE hP hD hS hA (isC := [0, 1, 2, 3]) (isR := []) (isB := [0, 1, 2, 3]) (ws' := W_Table cI a x) ⟨([] : List Nat).filterMap (fun i : Nat => (W_Table cI a x : va_W)[i]?), rfl, rfl, rfl, rfl, by decide, rfl, rfl⟩ 0 4 rfl rfl rfl rfl hl.1 rfl (Nat.le_of_ble_eq_true rfl) dX5_cursorBehind_24 ⟨Nat.le_of_ble_eq_true rfl, Nat.le_of_ble_eq_true rfl⟩ (fun H locs hP hD hS => ?_)
    try dsimp only at hf
    refine W.eq (g2 := F0 m 27 ls [.int u3]) rfl ?_
    obtain rfl := Option.some.inj hf
    exact W.iret (v := u3) hx hb hr (fun t ht hW => ⟨rfl, by rw [ht]; exact hP, va_K.moved hW.alike hK, hD, hS.F ht⟩) hS.2.2 dX5_cursorBehind_27 hlocks
  exact M0 s.heap [] ls hf hP hD hS hl
/-! Compactforms$Table.memberOfBucket(II)I -/
def fX5_memberOfBucket_49 (x : TSt) (v3 : Int32) : Option (Int32) := (if v3 = (-1) then some (-1) else chk (inb v3 40) (some ((tbM x) (v3).toNatClampNeg)))
def fX5_memberOfBucket_25 (x : TSt) (v2 : Int32) (rec25 : Int32 × Int32 → Option (Int32)) (s : Int32 × Int32) : Option (Int32) := match s with | (v3, v4) => (if v2 ≤ v4 then fX5_memberOfBucket_49 x v3 else (if v3 = (-1) then fX5_memberOfBucket_49 x v3 else chk (inb v3 40) (keep ((tbX x) (v3).toNatClampNeg) (fun y6 => keep (v4 + 1) (fun y7 => rec25 (y6, y7))))))
def fX5_memberOfBucket (x : TSt) (p1 : Int32) (p2 : Int32) : Option (Int32) := (if 0 ≤ p2 then chk (inb (p1 &&& ((tbB x) - 1)) 64) (keep ((tbH x) ((p1 &&& ((tbB x) - 1))).toNatClampNeg) (fun y10 => iterK FU (fX5_memberOfBucket_25 x p2) (y10, 0))) else iterK FU (fX5_memberOfBucket_25 x p2) ((-1), 0))
set_option maxHeartbeats 4000000 in
set_option maxRecDepth 100000 in
theorem met_X5_memberOfBucket {D : va_G} {cI cV cJ cD : ClassId} (l : Launch) (a : Nat → Nat) (x : TSt) (p1 : Int32) (p2 : Int32) (res : Int32) (hf : fX5_memberOfBucket x p1 p2 = some res) : MM l yX5_memberOfBucket cX5_memberOfBucket 5 (some .int) { frames := 0, cells := 0, slots := 0, locals := 0 } D (TY cI cV cJ cD) (W_Table cI a x) (W_Table cI a x) [.ref (a 0), .int p1, .int p2] (some (.int res)) := by
  intro sz
  refine Met.ofW (cc := cX5_memberOfBucket) (maxL := 5) (ret := (some .int)) (by decide +kernel) rfl ?_
  intro p e s m args below meth c s₁ B hml hv
  obtain ⟨rfl, hsz, hP, hK, hD0, hE⟩ := hv
  have hx := B.exec
  have hb := B.bytes
  have hr := B.returns
  have hts := atoms_spec (ws := .code yX5_memberOfBucket cX5_memberOfBucket 5 (some .int) :: GW) B.pre
  have hg : ∀ w ∈ GW, w.before (([.ref (a 0), .int p1, .int p2] : List Value).toArray) s = true := fun w h => hts w (List.mem_cons_of_mem _ h)
  have hown : s.vm.findClass RX5 = some m.cls := findClass_of_methodNamed B.named
  have hlocks := B.notSynchronized
  subst hsz
  have hD := hD0.self (sz := s.heap.size)
  generalize hAe : va_A (W_Table cI a x) s.heap.size = A at hD hE ⊢
  have hA : ∀ q : Nat, s.heap.size ≤ q → A q := fun q h => by rw [← hAe]; exact Or.inr h
  have hS : va_S A s.heap s.heap [] := va_S.rf
  have hl := lv_entry ([.ref (a 0), .int p1, .int p2]) (n := 5) (Nat.le_of_ble_eq_true rfl)
  rw [lg_entry_eq]
  generalize (lg_sl ([.ref (a 0), .int p1, .int p2]) ++ List.replicate (5 - (lg_sl ([.ref (a 0), .int p1, .int p2])).length) Slot.unset).toArray = ls at hl ⊢
  have hl : lv_has ls 5 [(0, .ref (a 0)), (1, .int p1), (2, .int p2)] := hl
  have L49 : ∀ (x : TSt) (v3 : Int32) (H : Heap) (locs : List Loc) (ls : Array Slot), fX5_memberOfBucket_49 x v3  = some res → va_P D vwCl (W_Table cI a x) H → va_D A (W_Table cI a x) → va_S A s.heap H locs → lv_has ls 5 [(0, .ref (a 0)), (3, .int v3)] → W p l e ({ frames := 0, cells := 0, slots := 0, locals := 0 } : Room) s m ([.ref (a 0), .int p1, .int p2] : List Value).toArray below meth c H locs 0 0 (MQ below (QW D (TY cI cV cJ cD) (W_Table cI a x) A (some (.int res))) (([.ref (a 0), .int p1, .int p2] : List Value).toArray) s 0 0 A) (F0 m 49 ls []) := by
    intro x v3 H locs ls hf hP hD hS hl
    dsimp only [fX5_memberOfBucket_49] at hf
    refine lv_iload_n hx hb dX5_memberOfBucket_49 rfl (lv_at hl 1 rfl) ?_
    refine lv_iconst (v := (-1)) hx hb dX5_memberOfBucket_50 (by decide) ?_
    refine lv_icmp_ne (tgt := 58) hx hb dX5_memberOfBucket_51 (by decide) (fun c1 => ?_) (fun c1 => ?_)
    · replace hf := if_f c1 hf
      refine lv_aload_n hx hb dX5_memberOfBucket_58 rfl (lv_at hl 0 rfl) ?_
      refine va_get (D := D) (ci := 4) (v := .ref (a 2)) (C := RX5) (T := TX5) (N := 5) hx hb hg in_X5 hown hK hP 0 rfl rfl 1 (by decide) (hg _ w100) (fun _ h9 => h9) rfl dX5_memberOfBucket_59 ?_
      refine lv_iload_n hx hb dX5_memberOfBucket_62 rfl (lv_at hl 1 rfl) ?_
      obtain ⟨hi2, hf⟩ := chk_t hf
      refine va_iald hx hb hK hP 2 0 rfl rfl (inb_in hi2) dX5_memberOfBucket_63 ?_
      obtain rfl := Option.some.inj hf
      exact W.iret (v := ((tbM x) (v3).toNatClampNeg)) hx hb hr (fun t ht hW => ⟨rfl, by rw [ht]; exact hP, va_K.moved hW.alike hK, hD, hS.F ht⟩) hS.2.2 dX5_memberOfBucket_64 hlocks
    · replace hf := if_t c1 hf
      refine lv_iconst (v := (-1)) hx hb dX5_memberOfBucket_54 (by decide) ?_
      refine lv_goto (tgt := 64) hx hb dX5_memberOfBucket_55 (by decide) ?_
      obtain rfl := Option.some.inj hf
      exact W.iret (v := (-1)) hx hb hr (fun t ht hW => ⟨rfl, by rw [ht]; exact hP, va_K.moved hW.alike hK, hD, hS.F ht⟩) hS.2.2 dX5_memberOfBucket_64 hlocks
  have S25 : ∀ (x : TSt) (v2 : Int32) (rec25 : Int32 × Int32 → Option (Int32)) (hrec25 : ∀ (v3 : Int32), ∀ (v4 : Int32), ∀ (H : Heap) (locs : List Loc) (ls : Array Slot), rec25 (v3, v4) = some res → va_P D vwCl (W_Table cI a x) H → va_D A (W_Table cI a x) → va_S A s.heap H locs → lv_has ls 5 [(0, .ref (a 0)), (2, .int v2), (3, .int v3), (4, .int v4)] → W p l e ({ frames := 0, cells := 0, slots := 0, locals := 0 } : Room) s m ([.ref (a 0), .int p1, .int p2] : List Value).toArray below meth c H locs 0 0 (MQ below (QW D (TY cI cV cJ cD) (W_Table cI a x) A (some (.int res))) (([.ref (a 0), .int p1, .int p2] : List Value).toArray) s 0 0 A) (F0 m 25 ls [])) (v3 : Int32) (v4 : Int32) (H : Heap) (locs : List Loc) (ls : Array Slot), fX5_memberOfBucket_25 x v2  rec25 (v3, v4) = some res → va_P D vwCl (W_Table cI a x) H → va_D A (W_Table cI a x) → va_S A s.heap H locs → lv_has ls 5 [(0, .ref (a 0)), (2, .int v2), (3, .int v3), (4, .int v4)] → W p l e ({ frames := 0, cells := 0, slots := 0, locals := 0 } : Room) s m ([.ref (a 0), .int p1, .int p2] : List Value).toArray below meth c H locs 0 0 (MQ below (QW D (TY cI cV cJ cD) (W_Table cI a x) A (some (.int res))) (([.ref (a 0), .int p1, .int p2] : List Value).toArray) s 0 0 A) (F0 m 25 ls []) := by
    intro x v2 rec25 hrec25 v3 v4 H locs ls hf hP hD hS hl
    dsimp only [fX5_memberOfBucket_25] at hf
    refine lv_iload hx hb dX5_memberOfBucket_25 (lv_at hl 3 rfl) ?_
    refine lv_iload_n hx hb dX5_memberOfBucket_27 rfl (lv_at hl 1 rfl) ?_
    refine lv_icmp_ge (tgt := 49) hx hb dX5_memberOfBucket_28 (by decide) (fun c3 => ?_) (fun c3 => ?_)
    · replace hf := if_t c3 hf
      exact L49 x v3 H locs ls hf hP hD hS (lv_sub hl [0, 2] rfl)
    · replace hf := if_f c3 hf
      refine lv_iload_n hx hb dX5_memberOfBucket_31 rfl (lv_at hl 2 rfl) ?_
      refine lv_iconst (v := (-1)) hx hb dX5_memberOfBucket_32 (by decide) ?_
      refine lv_icmp_eq (tgt := 49) hx hb dX5_memberOfBucket_33 (by decide) (fun c4 => ?_) (fun c4 => ?_)
      · replace hf := if_t c4 hf
        exact L49 x v3 H locs ls hf hP hD hS (lv_sub hl [0, 2] rfl)
      · replace hf := if_f c4 hf
        refine lv_aload_n hx hb dX5_memberOfBucket_36 rfl (lv_at hl 0 rfl) ?_
        refine va_get (D := D) (ci := 4) (v := .ref (a 3)) (C := RX5) (T := TX5) (N := 5) hx hb hg in_X5 hown hK hP 0 rfl rfl 2 (by decide) (hg _ w101) (fun _ h9 => h9) rfl dX5_memberOfBucket_37 ?_
        refine lv_iload_n hx hb dX5_memberOfBucket_40 rfl (lv_at hl 2 rfl) ?_
        obtain ⟨hi5, hf⟩ := chk_t hf
        refine va_iald hx hb hK hP 3 0 rfl rfl (inb_in hi5) dX5_memberOfBucket_41 ?_
        refine lv_topi (fun y6 hy6 => ?_)
        replace hf := keep_e hf y6 hy6
        refine lv_istore_n (lv' := [(3, .int y6), (0, .ref (a 0)), (2, .int v2), (4, .int v4)]) hx hb dX5_memberOfBucket_42 rfl hl (by decide) rfl (fun ls hl => ?_)
        obtain ⟨y7, hy7⟩ : ∃ z : Int32, z = (v4 + 1) := ⟨_, rfl⟩
        replace hf := keep_e hf y7 hy7
        refine lv_iinc (v := y7) (lv' := [(4, .int y7), (3, .int y6), (0, .ref (a 0)), (2, .int v2)]) hx hb dX5_memberOfBucket_43 hl (k := 3) rfl (by rw [hy7]; rfl) (by decide) rfl (fun ls hl => ?_)
        refine lv_goto (tgt := 25) hx hb dX5_memberOfBucket_46 (by decide) ?_
        exact hrec25 y6 y7 H locs ls hf hP hD hS (lv_sub hl [2, 3, 1, 0] rfl)
  have L25 : ∀ (x : TSt) (v2 : Int32) (fu : Nat) (v3 : Int32) (v4 : Int32) (H : Heap) (locs : List Loc) (ls : Array Slot), iterK fu (fX5_memberOfBucket_25 x v2 ) (v3, v4) = some res → va_P D vwCl (W_Table cI a x) H → va_D A (W_Table cI a x) → va_S A s.heap H locs → lv_has ls 5 [(0, .ref (a 0)), (2, .int v2), (3, .int v3), (4, .int v4)] → W p l e ({ frames := 0, cells := 0, slots := 0, locals := 0 } : Room) s m ([.ref (a 0), .int p1, .int p2] : List Value).toArray below meth c H locs 0 0 (MQ below (QW D (TY cI cV cJ cD) (W_Table cI a x) A (some (.int res))) (([.ref (a 0), .int p1, .int p2] : List Value).toArray) s 0 0 A) (F0 m 25 ls []) := by
    intro x v2 fu
    induction fu with
    | zero =>
      intro v3 v4 H locs ls hf
      cases hf
    | succ fu ih =>
      intro v3 v4 H locs ls hf hP hD hS hl
      exact S25 x v2 (iterK fu (fX5_memberOfBucket_25 x v2 )) ih v3 v4 H locs ls hf hP hD hS hl
  have M0 : ∀ (H : Heap) (locs : List Loc) (ls : Array Slot), fX5_memberOfBucket x p1 p2 = some res → va_P D vwCl (W_Table cI a x) H → va_D A (W_Table cI a x) → va_S A s.heap H locs → lv_has ls 5 [(0, .ref (a 0)), (1, .int p1), (2, .int p2)] → W p l e ({ frames := 0, cells := 0, slots := 0, locals := 0 } : Room) s m ([.ref (a 0), .int p1, .int p2] : List Value).toArray below meth c H locs 0 0 (MQ below (QW D (TY cI cV cJ cD) (W_Table cI a x) A (some (.int res))) (([.ref (a 0), .int p1, .int p2] : List Value).toArray) s 0 0 A) (F0 m 0 ls []) := by
    intro H locs ls hf hP hD hS hl
    dsimp only [fX5_memberOfBucket] at hf
    refine lv_iload_n hx hb dX5_memberOfBucket_0 rfl (lv_at hl 2 rfl) ?_
    refine lv_if_ge (tgt := 8) hx hb dX5_memberOfBucket_1 (by decide) (fun c8 => ?_) (fun c8 => ?_)
    · replace hf := if_t c8 hf
      refine lv_aload_n hx hb dX5_memberOfBucket_8 rfl (lv_at hl 0 rfl) ?_
      refine va_get (D := D) (ci := 4) (v := .ref (a 1)) (C := RX5) (T := TX5) (N := 5) hx hb hg in_X5 hown hK hP 0 rfl rfl 0 (by decide) (hg _ w99) (fun _ h9 => h9) rfl dX5_memberOfBucket_9 ?_
      refine lv_iload_n hx hb dX5_memberOfBucket_12 rfl (lv_at hl 1 rfl) ?_
      refine lv_aload_n hx hb dX5_memberOfBucket_13 rfl (lv_at hl 0 rfl) ?_
      refine va_get (D := D) (ci := 4) (v := .int (tbB x)) (C := RX5) (T := TX5) (N := 5) hx hb hg in_X5 hown hK hP 0 rfl rfl 3 (by decide) (hg _ w102) (fun _ h9 => h9) rfl dX5_memberOfBucket_14 ?_
      refine lv_iconst (v := 1) hx hb dX5_memberOfBucket_17 (by decide) ?_
      refine lv_isub hx hb dX5_memberOfBucket_18 ?_
      refine lv_iand hx hb dX5_memberOfBucket_19 ?_
      obtain ⟨hi9, hf⟩ := chk_t hf
      refine va_iald hx hb hK hP 1 0 rfl rfl (inb_in hi9) dX5_memberOfBucket_20 ?_
      refine lv_topi (fun y10 hy10 => ?_)
      replace hf := keep_e hf y10 hy10
      refine lv_istore_n (lv' := [(3, .int y10), (0, .ref (a 0)), (1, .int p1), (2, .int p2)]) hx hb dX5_memberOfBucket_21 rfl hl (by decide) rfl (fun ls hl => ?_)
      refine lv_iconst (v := 0) hx hb dX5_memberOfBucket_22 (by decide) ?_
      refine lv_istore (lv' := [(4, .int 0), (3, .int y10), (0, .ref (a 0)), (1, .int p1), (2, .int p2)]) hx hb dX5_memberOfBucket_23 hl (by decide) rfl (fun ls hl => ?_)
      exact L25 x p2 FU y10 0 H locs ls hf hP hD hS (lv_sub hl [2, 4, 1, 0] rfl)
    · replace hf := if_f c8 hf
      refine lv_iconst (v := (-1)) hx hb dX5_memberOfBucket_4 (by decide) ?_
      refine lv_goto (tgt := 21) hx hb dX5_memberOfBucket_5 (by decide) ?_
      refine lv_istore_n (lv' := [(3, .int (-1)), (0, .ref (a 0)), (1, .int p1), (2, .int p2)]) hx hb dX5_memberOfBucket_21 rfl hl (by decide) rfl (fun ls hl => ?_)
      refine lv_iconst (v := 0) hx hb dX5_memberOfBucket_22 (by decide) ?_
      refine lv_istore (lv' := [(4, .int 0), (3, .int (-1)), (0, .ref (a 0)), (1, .int p1), (2, .int p2)]) hx hb dX5_memberOfBucket_23 hl (by decide) rfl (fun ls hl => ?_)
      exact L25 x p2 FU (-1) 0 H locs ls hf hP hD hS (lv_sub hl [2, 4, 1, 0] rfl)
  exact M0 s.heap [] ls hf hP hD hS hl

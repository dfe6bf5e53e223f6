/-! Compactforms$Log.makeEmpty()V -/
def fX3_makeEmpty (x : LSt) : Option (LSt) := keep (loN_s x 0) (fun x1 => some x1)
set_option maxHeartbeats 4000000 in
set_option maxRecDepth 100000 in
theorem met_X3_makeEmpty {D : va_G} {cI cV cJ cD : ClassId} (l : Launch) (a : Nat → Nat) (x : LSt) (res : LSt) (hf : fX3_makeEmpty x = some res) : MM l yX3_makeEmpty cX3_makeEmpty 1 none { frames := 0, cells := 0, slots := 0, locals := 0 } D (TY cI cV cJ cD) (W_Log cI a x) (W_Log cI a res) [.ref (a 0)] none := by
  intro sz
  refine Met.ofW (cc := cX3_makeEmpty) (maxL := 1) (ret := none) (by decide +kernel) rfl ?_
  intro p e s m args below meth c s₁ B hml hv
  obtain ⟨rfl, hsz, hP, hK, hD0, hE⟩ := hv
  have hx := B.exec
  have hb := B.bytes
  have hr := B.returns
  have hts := atoms_spec (ws := .code yX3_makeEmpty cX3_makeEmpty 1 none :: GW) B.pre
  have hg : ∀ w ∈ GW, w.before (([.ref (a 0)] : List Value).toArray) s = true := fun w h => hts w (List.mem_cons_of_mem _ h)
  have hown : s.vm.findClass RX3 = some m.cls := findClass_of_methodNamed B.named
  have hlocks := B.notSynchronized
  subst hsz
  have hD := hD0.self (sz := s.heap.size)
  generalize hAe : va_A (W_Log cI a x) s.heap.size = A at hD hE ⊢
  have hA : ∀ q : Nat, s.heap.size ≤ q → A q := fun q h => by rw [← hAe]; exact Or.inr h
  have hS : va_S A s.heap s.heap [] := va_S.rf
  have hl := lv_entry ([.ref (a 0)]) (n := 1) (Nat.le_of_ble_eq_true rfl)
  rw [lg_entry_eq]
  generalize (lg_sl ([.ref (a 0)]) ++ List.replicate (1 - (lg_sl ([.ref (a 0)])).length) Slot.unset).toArray = ls at hl ⊢
  have hl : lv_has ls 1 [(0, .ref (a 0))] := hl
  have M0 : ∀ (H : Heap) (locs : List Loc) (ls : Array Slot), fX3_makeEmpty x = some res → va_P D vwCl (W_Log cI a x) H → va_D A (W_Log cI a x) → va_S A s.heap H locs → lv_has ls 1 [(0, .ref (a 0))] → W p l e ({ frames := 0, cells := 0, slots := 0, locals := 0 } : Room) s m ([.ref (a 0)] : List Value).toArray below meth c H locs 0 0 (MQ below (QW D (TY cI cV cJ cD) (W_Log cI a res) A none) (([.ref (a 0)] : List Value).toArray) s 0 0 A) (F0 m 0 ls []) := by
    intro H locs ls hf hP hD hS hl
    dsimp only [fX3_makeEmpty] at hf
    refine lv_aload_n hx hb dX3_makeEmpty_0 rfl (lv_at hl 0 rfl) ?_
    refine lv_iconst (v := 0) hx hb dX3_makeEmpty_1 (by decide) ?_
    refine va_put (D := D) (ci := 2) (v := .int 0) (ty := .int) (C := RX3) (T := TX3) (N := 2) hx hb hg in_X3 tyX3 tyX3_ok nmX3 hown hK hP hD hS 0 rfl rfl 1 (by decide) (hg _ w38) (fun _ h9 => h9) rfl (by decide +kernel) rfl rfl (Nat.le_of_ble_eq_true rfl) dX3_makeEmpty_2 (fun H locs hP hD hS => ?_)
    obtain ⟨x1, hx1⟩ : ∃ z, z = (loN_s x 0) := ⟨_, rfl⟩
    replace hf := keep_e hf x1 hx1
    have hP : va_P D vwCl (W_Log cI a x1) H := by rw [hx1]; exact hP
    have hD : va_D A (W_Log cI a x1) := by rw [hx1]; exact hD
    obtain rfl := Option.some.inj hf
    exact W.vret hx hb hr (fun t ht hW => ⟨rfl, by rw [ht]; exact hP, va_K.moved hW.alike hK, hD, hS.F ht⟩) hS.2.2 dX3_makeEmpty_5 hlocks
  exact M0 s.heap [] ls hf hP hD hS hl
/-! Compactforms$Log.cell(II)I -/
def fX3_cell (x : LSt) (p1 : Int32) (p2 : Int32) : Option (Int32) := (if p1 < 0 then some 0 else (if (loN x) ≤ p1 then some 0 else chk (inb ((p1 * 7) + p2) 2100) (some ((loC x) (((p1 * 7) + p2)).toNatClampNeg))))
set_option maxHeartbeats 4000000 in
set_option maxRecDepth 100000 in
theorem met_X3_cell {D : va_G} {cI cV cJ cD : ClassId} (l : Launch) (a : Nat → Nat) (x : LSt) (p1 : Int32) (p2 : Int32) (res : Int32) (hf : fX3_cell x p1 p2 = some res) : MM l yX3_cell cX3_cell 3 (some .int) { frames := 0, cells := 0, slots := 0, locals := 0 } D (TY cI cV cJ cD) (W_Log cI a x) (W_Log cI a x) [.ref (a 0), .int p1, .int p2] (some (.int res)) := by
  intro sz
  refine Met.ofW (cc := cX3_cell) (maxL := 3) (ret := (some .int)) (by decide +kernel) rfl ?_
  intro p e s m args below meth c s₁ B hml hv
  obtain ⟨rfl, hsz, hP, hK, hD0, hE⟩ := hv
  have hx := B.exec
  have hb := B.bytes
  have hr := B.returns
  have hts := atoms_spec (ws := .code yX3_cell cX3_cell 3 (some .int) :: GW) B.pre
  have hg : ∀ w ∈ GW, w.before (([.ref (a 0), .int p1, .int p2] : List Value).toArray) s = true := fun w h => hts w (List.mem_cons_of_mem _ h)
  have hown : s.vm.findClass RX3 = some m.cls := findClass_of_methodNamed B.named
  have hlocks := B.notSynchronized
  subst hsz
  have hD := hD0.self (sz := s.heap.size)
  generalize hAe : va_A (W_Log cI a x) s.heap.size = A at hD hE ⊢
  have hA : ∀ q : Nat, s.heap.size ≤ q → A q := fun q h => by rw [← hAe]; exact Or.inr h
  have hS : va_S A s.heap s.heap [] := va_S.rf
  have hl := lv_entry ([.ref (a 0), .int p1, .int p2]) (n := 3) (Nat.le_of_ble_eq_true rfl)
  rw [lg_entry_eq]
  generalize (lg_sl ([.ref (a 0), .int p1, .int p2]) ++ List.replicate (3 - (lg_sl ([.ref (a 0), .int p1, .int p2])).length) Slot.unset).toArray = ls at hl ⊢
  have hl : lv_has ls 3 [(0, .ref (a 0)), (1, .int p1), (2, .int p2)] := hl
  have M0 : ∀ (H : Heap) (locs : List Loc) (ls : Array Slot), fX3_cell x p1 p2 = some res → va_P D vwCl (W_Log cI a x) H → va_D A (W_Log cI a x) → va_S A s.heap H locs → lv_has ls 3 [(0, .ref (a 0)), (1, .int p1), (2, .int p2)] → W p l e ({ frames := 0, cells := 0, slots := 0, locals := 0 } : Room) s m ([.ref (a 0), .int p1, .int p2] : List Value).toArray below meth c H locs 0 0 (MQ below (QW D (TY cI cV cJ cD) (W_Log cI a x) A (some (.int res))) (([.ref (a 0), .int p1, .int p2] : List Value).toArray) s 0 0 A) (F0 m 0 ls []) := by
    intro H locs ls hf hP hD hS hl
    dsimp only [fX3_cell] at hf
    refine lv_iload_n hx hb dX3_cell_0 rfl (lv_at hl 1 rfl) ?_
    refine lv_if_lt (tgt := 26) hx hb dX3_cell_1 (by decide) (fun c1 => ?_) (fun c1 => ?_)
    · replace hf := if_t c1 hf
      refine lv_iconst (v := 0) hx hb dX3_cell_26 (by decide) ?_
      obtain rfl := Option.some.inj hf
      exact W.iret (v := 0) hx hb hr (fun t ht hW => ⟨rfl, by rw [ht]; exact hP, va_K.moved hW.alike hK, hD, hS.F ht⟩) hS.2.2 dX3_cell_27 hlocks
    · replace hf := if_f c1 hf
      refine lv_iload_n hx hb dX3_cell_4 rfl (lv_at hl 1 rfl) ?_
      refine lv_aload_n hx hb dX3_cell_5 rfl (lv_at hl 0 rfl) ?_
      refine va_get (D := D) (ci := 2) (v := .int (loN x)) (C := RX3) (T := TX3) (N := 2) hx hb hg in_X3 hown hK hP 0 rfl rfl 1 (by decide) (hg _ w38) (fun _ h9 => h9) rfl dX3_cell_6 ?_
      refine lv_icmp_ge (tgt := 26) hx hb dX3_cell_9 (by decide) (fun c2 => ?_) (fun c2 => ?_)
      · replace hf := if_t c2 hf
        refine lv_iconst (v := 0) hx hb dX3_cell_26 (by decide) ?_
        obtain rfl := Option.some.inj hf
        exact W.iret (v := 0) hx hb hr (fun t ht hW => ⟨rfl, by rw [ht]; exact hP, va_K.moved hW.alike hK, hD, hS.F ht⟩) hS.2.2 dX3_cell_27 hlocks
      · replace hf := if_f c2 hf
        refine lv_aload_n hx hb dX3_cell_12 rfl (lv_at hl 0 rfl) ?_
        refine va_get (D := D) (ci := 2) (v := .ref (a 1)) (C := RX3) (T := TX3) (N := 2) hx hb hg in_X3 hown hK hP 0 rfl rfl 0 (by decide) (hg _ w37) (fun _ h9 => h9) rfl dX3_cell_13 ?_
        refine lv_iload_n hx hb dX3_cell_16 rfl (lv_at hl 1 rfl) ?_
        refine lv_bipush (v := 7) hx hb dX3_cell_17 (by decide) ?_
        refine lv_imul hx hb dX3_cell_19 ?_
        refine lv_iload_n hx hb dX3_cell_20 rfl (lv_at hl 2 rfl) ?_
        refine lv_iadd hx hb dX3_cell_21 ?_
        obtain ⟨hi3, hf⟩ := chk_t hf
        refine va_iald hx hb hK hP 1 0 rfl rfl (inb_in hi3) dX3_cell_22 ?_
        refine lv_goto (tgt := 27) hx hb dX3_cell_23 (by decide) ?_
        obtain rfl := Option.some.inj hf
        exact W.iret (v := ((loC x) (((p1 * 7) + p2)).toNatClampNeg)) hx hb hr (fun t ht hW => ⟨rfl, by rw [ht]; exact hP, va_K.moved hW.alike hK, hD, hS.F ht⟩) hS.2.2 dX3_cell_27 hlocks
  exact M0 s.heap [] ls hf hP hD hS hl
/-! Compactforms$Log.addRow(IIIII)V -/
def fX3_addRow (x : LSt) (p1 : Int32) (p2 : Int32) (p3 : Int32) (p4 : Int32) (p5 : Int32) : Option (LSt) := (if (loN x) < 300 then keep ((loN x) * 7) (fun y2 => chk (inb (y2 + 0) 2100) (keep (loC_s x (upd (loC x) ((y2 + 0)).toNatClampNeg p1)) (fun x4 => chk (inb (y2 + 1) 2100) (keep (loC_s x4 (upd (loC x4) ((y2 + 1)).toNatClampNeg p2)) (fun x6 => chk (inb (y2 + 2) 2100) (keep (loC_s x6 (upd (loC x6) ((y2 + 2)).toNatClampNeg p3)) (fun x8 => chk (inb (y2 + 3) 2100) (keep (loC_s x8 (upd (loC x8) ((y2 + 3)).toNatClampNeg p4)) (fun x10 => chk (inb (y2 + 4) 2100) (keep (loC_s x10 (upd (loC x10) ((y2 + 4)).toNatClampNeg p5)) (fun x12 => keep (loN_s x12 ((loN x12) + 1)) (fun x13 => some x13)))))))))))) else some x)
set_option maxHeartbeats 4000000 in
set_option maxRecDepth 100000 in
theorem met_X3_addRow {D : va_G} {cI cV cJ cD : ClassId} (l : Launch) (a : Nat → Nat) (x : LSt) (p1 : Int32) (p2 : Int32) (p3 : Int32) (p4 : Int32) (p5 : Int32) (res : LSt) (hf : fX3_addRow x p1 p2 p3 p4 p5 = some res) : MM l yX3_addRow cX3_addRow 7 none { frames := 0, cells := 0, slots := 0, locals := 0 } D (TY cI cV cJ cD) (W_Log cI a x) (W_Log cI a res) [.ref (a 0), .int p1, .int p2, .int p3, .int p4, .int p5] none := by
  intro sz
  refine Met.ofW (cc := cX3_addRow) (maxL := 7) (ret := none) (by decide +kernel) rfl ?_
  intro p e s m args below meth c s₁ B hml hv
  obtain ⟨rfl, hsz, hP, hK, hD0, hE⟩ := hv
  have hx := B.exec
  have hb := B.bytes
  have hr := B.returns
  have hts := atoms_spec (ws := .code yX3_addRow cX3_addRow 7 none :: GW) B.pre
  have hg : ∀ w ∈ GW, w.before (([.ref (a 0), .int p1, .int p2, .int p3, .int p4, .int p5] : List Value).toArray) s = true := fun w h => hts w (List.mem_cons_of_mem _ h)
  have hown : s.vm.findClass RX3 = some m.cls := findClass_of_methodNamed B.named
  have hlocks := B.notSynchronized
  subst hsz
  have hD := hD0.self (sz := s.heap.size)
  generalize hAe : va_A (W_Log cI a x) s.heap.size = A at hD hE ⊢
  have hA : ∀ q : Nat, s.heap.size ≤ q → A q := fun q h => by rw [← hAe]; exact Or.inr h
  have hS : va_S A s.heap s.heap [] := va_S.rf
  have hl := lv_entry ([.ref (a 0), .int p1, .int p2, .int p3, .int p4, .int p5]) (n := 7) (Nat.le_of_ble_eq_true rfl)
  rw [lg_entry_eq]
  generalize (lg_sl ([.ref (a 0), .int p1, .int p2, .int p3, .int p4, .int p5]) ++ List.replicate (7 - (lg_sl ([.ref (a 0), .int p1, .int p2, .int p3, .int p4, .int p5])).length) Slot.unset).toArray = ls at hl ⊢
  have hl : lv_has ls 7 [(0, .ref (a 0)), (1, .int p1), (2, .int p2), (3, .int p3), (4, .int p4), (5, .int p5)] := hl
  have M0 : ∀ (H : Heap) (locs : List Loc) (ls : Array Slot), fX3_addRow x p1 p2 p3 p4 p5 = some res → va_P D vwCl (W_Log cI a x) H → va_D A (W_Log cI a x) → va_S A s.heap H locs → lv_has ls 7 [(0, .ref (a 0)), (1, .int p1), (2, .int p2), (3, .int p3), (4, .int p4), (5, .int p5)] → W p l e ({ frames := 0, cells := 0, slots := 0, locals := 0 } : Room) s m ([.ref (a 0), .int p1, .int p2, .int p3, .int p4, .int p5] : List Value).toArray below meth c H locs 0 0 (MQ below (QW D (TY cI cV cJ cD) (W_Log cI a res) A none) (([.ref (a 0), .int p1, .int p2, .int p3, .int p4, .int p5] : List Value).toArray) s 0 0 A) (F0 m 0 ls []) := by
    intro H locs ls hf hP hD hS hl
    dsimp only [fX3_addRow] at hf
    refine lv_aload_n hx hb dX3_addRow_0 rfl (lv_at hl 0 rfl) ?_
    refine va_get (D := D) (ci := 2) (v := .int (loN x)) (C := RX3) (T := TX3) (N := 2) hx hb hg in_X3 hown hK hP 0 rfl rfl 1 (by decide) (hg _ w38) (fun _ h9 => h9) rfl dX3_addRow_1 ?_
    refine lv_sipush (v := 300) hx hb dX3_addRow_4 (by decide) ?_
    refine lv_icmp_lt (tgt := 11) hx hb dX3_addRow_7 (by decide) (fun c1 => ?_) (fun c1 => ?_)
    · replace hf := if_t c1 hf
      refine lv_aload_n hx hb dX3_addRow_11 rfl (lv_at hl 0 rfl) ?_
      refine va_get (D := D) (ci := 2) (v := .int (loN x)) (C := RX3) (T := TX3) (N := 2) hx hb hg in_X3 hown hK hP 0 rfl rfl 1 (by decide) (hg _ w38) (fun _ h9 => h9) rfl dX3_addRow_12 ?_
      refine lv_bipush (v := 7) hx hb dX3_addRow_15 (by decide) ?_
      refine lv_imul hx hb dX3_addRow_17 ?_
      refine lv_topi (fun y2 hy2 => ?_)
      replace hf := keep_e hf y2 hy2
      refine lv_istore (lv' := [(6, .int y2), (0, .ref (a 0)), (1, .int p1), (2, .int p2), (3, .int p3), (4, .int p4), (5, .int p5)]) hx hb dX3_addRow_18 hl (by decide) rfl (fun ls hl => ?_)
      refine lv_aload_n hx hb dX3_addRow_20 rfl (lv_at hl 1 rfl) ?_
      refine va_get (D := D) (ci := 2) (v := .ref (a 1)) (C := RX3) (T := TX3) (N := 2) hx hb hg in_X3 hown hK hP 0 rfl rfl 0 (by decide) (hg _ w37) (fun _ h9 => h9) rfl dX3_addRow_21 ?_
      refine lv_iload hx hb dX3_addRow_24 (lv_at hl 0 rfl) ?_
      refine lv_iconst (v := 0) hx hb dX3_addRow_26 (by decide) ?_
      refine lv_iadd hx hb dX3_addRow_27 ?_
      refine lv_iload_n hx hb dX3_addRow_28 rfl (lv_at hl 2 rfl) ?_
      obtain ⟨hi3, hf⟩ := chk_t hf
      refine va_iast hx hb hK hP hD hS 1 0 rfl rfl (inb_in hi3) dX3_addRow_29 (fun H locs hP hD hS => ?_)
      obtain ⟨x4, hx4⟩ : ∃ z, z = (loC_s x (upd (loC x) ((y2 + 0)).toNatClampNeg p1)) := ⟨_, rfl⟩
      replace hf := keep_e hf x4 hx4
      have hP : va_P D vwCl (W_Log cI a x4) H := by rw [hx4]; exact hP
      have hD : va_D A (W_Log cI a x4) := by rw [hx4]; exact hD
      refine lv_aload_n hx hb dX3_addRow_30 rfl (lv_at hl 1 rfl) ?_
      refine va_get (D := D) (ci := 2) (v := .ref (a 1)) (C := RX3) (T := TX3) (N := 2) hx hb hg in_X3 hown hK hP 0 rfl rfl 0 (by decide) (hg _ w37) (fun _ h9 => h9) rfl dX3_addRow_31 ?_
      refine lv_iload hx hb dX3_addRow_34 (lv_at hl 0 rfl) ?_
      refine lv_iconst (v := 1) hx hb dX3_addRow_36 (by decide) ?_
      refine lv_iadd hx hb dX3_addRow_37 ?_
      refine lv_iload_n hx hb dX3_addRow_38 rfl (lv_at hl 3 rfl) ?_
      obtain ⟨hi5, hf⟩ := chk_t hf
      refine va_iast hx hb hK hP hD hS 1 0 rfl rfl (inb_in hi5) dX3_addRow_39 (fun H locs hP hD hS => ?_)
      obtain ⟨x6, hx6⟩ : ∃ z, z = (loC_s x4 (upd (loC x4) ((y2 + 1)).toNatClampNeg p2)) := ⟨_, rfl⟩
      replace hf := keep_e hf x6 hx6
      have hP : va_P D vwCl (W_Log cI a x6) H := by rw [hx6]; exact hP
      have hD : va_D A (W_Log cI a x6) := by rw [hx6]; exact hD
      refine lv_aload_n hx hb dX3_addRow_40 rfl (lv_at hl 1 rfl) ?_
      refine va_get (D := D) (ci := 2) (v := .ref (a 1)) (C := RX3) (T := TX3) (N := 2) hx hb hg in_X3 hown hK hP 0 rfl rfl 0 (by decide) (hg _ w37) (fun _ h9 => h9) rfl dX3_addRow_41 ?_
      refine lv_iload hx hb dX3_addRow_44 (lv_at hl 0 rfl) ?_
      refine lv_iconst (v := 2) hx hb dX3_addRow_46 (by decide) ?_
      refine lv_iadd hx hb dX3_addRow_47 ?_
      refine lv_iload_n hx hb dX3_addRow_48 rfl (lv_at hl 4 rfl) ?_
      obtain ⟨hi7, hf⟩ := chk_t hf
      refine va_iast hx hb hK hP hD hS 1 0 rfl rfl (inb_in hi7) dX3_addRow_49 (fun H locs hP hD hS => ?_)
      obtain ⟨x8, hx8⟩ : ∃ z, z = (loC_s x6 (upd (loC x6) ((y2 + 2)).toNatClampNeg p3)) := ⟨_, rfl⟩
      replace hf := keep_e hf x8 hx8
      have hP : va_P D vwCl (W_Log cI a x8) H := by rw [hx8]; exact hP
      have hD : va_D A (W_Log cI a x8) := by rw [hx8]; exact hD
      refine lv_aload_n hx hb dX3_addRow_50 rfl (lv_at hl 1 rfl) ?_
      refine va_get (D := D) (ci := 2) (v := .ref (a 1)) (C := RX3) (T := TX3) (N := 2) hx hb hg in_X3 hown hK hP 0 rfl rfl 0 (by decide) (hg _ w37) (fun _ h9 => h9) rfl dX3_addRow_51 ?_
      refine lv_iload hx hb dX3_addRow_54 (lv_at hl 0 rfl) ?_
      refine lv_iconst (v := 3) hx hb dX3_addRow_56 (by decide) ?_
      refine lv_iadd hx hb dX3_addRow_57 ?_
      refine lv_iload hx hb dX3_addRow_58 (lv_at hl 5 rfl) ?_
      obtain ⟨hi9, hf⟩ := chk_t hf
      refine va_iast hx hb hK hP hD hS 1 0 rfl rfl (inb_in hi9) dX3_addRow_60 (fun H locs hP hD hS => ?_)
      obtain ⟨x10, hx10⟩ : ∃ z, z = (loC_s x8 (upd (loC x8) ((y2 + 3)).toNatClampNeg p4)) := ⟨_, rfl⟩
      replace hf := keep_e hf x10 hx10
      have hP : va_P D vwCl (W_Log cI a x10) H := by rw [hx10]; exact hP
      have hD : va_D A (W_Log cI a x10) := by rw [hx10]; exact hD
      refine lv_aload_n hx hb dX3_addRow_61 rfl (lv_at hl 1 rfl) ?_
      refine va_get (D := D) (ci := 2) (v := .ref (a 1)) (C := RX3) (T := TX3) (N := 2) hx hb hg in_X3 hown hK hP 0 rfl rfl 0 (by decide) (hg _ w37) (fun _ h9 => h9) rfl dX3_addRow_62 ?_
      refine lv_iload hx hb dX3_addRow_65 (lv_at hl 0 rfl) ?_
      refine lv_iconst (v := 4) hx hb dX3_addRow_67 (by decide) ?_
      refine lv_iadd hx hb dX3_addRow_68 ?_
      refine lv_iload hx hb dX3_addRow_69 (lv_at hl 6 rfl) ?_
      obtain ⟨hi11, hf⟩ := chk_t hf
      refine va_iast hx hb hK hP hD hS 1 0 rfl rfl (inb_in hi11) dX3_addRow_71 (fun H locs hP hD hS => ?_)
      obtain ⟨x12, hx12⟩ : ∃ z, z = (loC_s x10 (upd (loC x10) ((y2 + 4)).toNatClampNeg p5)) := ⟨_, rfl⟩
      replace hf := keep_e hf x12 hx12
      have hP : va_P D vwCl (W_Log cI a x12) H := by rw [hx12]; exact hP
      have hD : va_D A (W_Log cI a x12) := by rw [hx12]; exact hD
      refine lv_aload_n hx hb dX3_addRow_72 rfl (lv_at hl 1 rfl) ?_
      refine lv_dup hx hb dX3_addRow_73 rfl ?_
      refine va_get (D := D) (ci := 2) (v := .int (loN x12)) (C := RX3) (T := TX3) (N := 2) hx hb hg in_X3 hown hK hP 0 rfl rfl 1 (by decide) (hg _ w38) (fun _ h9 => h9) rfl dX3_addRow_74 ?_
      refine lv_iconst (v := 1) hx hb dX3_addRow_77 (by decide) ?_
      refine lv_iadd hx hb dX3_addRow_78 ?_
      refine va_put (D := D) (ci := 2) (v := .int ((loN x12) + 1)) (ty := .int) (C := RX3) (T := TX3) (N := 2) hx hb hg in_X3 tyX3 tyX3_ok nmX3 hown hK hP hD hS 0 rfl rfl 1 (by decide) (hg _ w38) (fun _ h9 => h9) rfl (by decide +kernel) rfl rfl (Nat.le_of_ble_eq_true rfl) dX3_addRow_79 (fun H locs hP hD hS => ?_)
      obtain ⟨x13, hx13⟩ : ∃ z, z = (loN_s x12 ((loN x12) + 1)) := ⟨_, rfl⟩
      replace hf := keep_e hf x13 hx13
      have hP : va_P D vwCl (W_Log cI a x13) H := by rw [hx13]; exact hP
      have hD : va_D A (W_Log cI a x13) := by rw [hx13]; exact hD
      obtain rfl := Option.some.inj hf
      exact W.vret hx hb hr (fun t ht hW => ⟨rfl, by rw [ht]; exact hP, va_K.moved hW.alike hK, hD, hS.F ht⟩) hS.2.2 dX3_addRow_82 hlocks
    · replace hf := if_f c1 hf
      obtain rfl := Option.some.inj hf
      exact W.vret hx hb hr (fun t ht hW => ⟨rfl, by rw [ht]; exact hP, va_K.moved hW.alike hK, hD, hS.F ht⟩) hS.2.2 dX3_addRow_10 hlocks
  exact M0 s.heap [] ls hf hP hD hS hl
/-! Compactforms$Log.stamp(III)V -/
def fX3_stamp (x : LSt) (p1 : Int32) (p2 : Int32) (p3 : Int32) : Option (LSt) := (if p1 < 0 then some x else (if p1 < (loN x) then chk (inb ((p1 * 7) + 5) 2100) (keep (loC_s x (upd (loC x) (((p1 * 7) + 5)).toNatClampNeg p2)) (fun x4 => chk (inb ((p1 * 7) + 6) 2100) (keep (loC_s x4 (upd (loC x4) (((p1 * 7) + 6)).toNatClampNeg p3)) (fun x6 => some x6)))) else some x))
set_option maxHeartbeats 4000000 in
set_option maxRecDepth 100000 in
theorem met_X3_stamp {D : va_G} {cI cV cJ cD : ClassId} (l : Launch) (a : Nat → Nat) (x : LSt) (p1 : Int32) (p2 : Int32) (p3 : Int32) (res : LSt) (hf : fX3_stamp x p1 p2 p3 = some res) : MM l yX3_stamp cX3_stamp 4 none { frames := 0, cells := 0, slots := 0, locals := 0 } D (TY cI cV cJ cD) (W_Log cI a x) (W_Log cI a res) [.ref (a 0), .int p1, .int p2, .int p3] none := by
  intro sz
  refine Met.ofW (cc := cX3_stamp) (maxL := 4) (ret := none) (by decide +kernel) rfl ?_
  intro p e s m args below meth c s₁ B hml hv
  obtain ⟨rfl, hsz, hP, hK, hD0, hE⟩ := hv
  have hx := B.exec
  have hb := B.bytes
  have hr := B.returns
  have hts := atoms_spec (ws := .code yX3_stamp cX3_stamp 4 none :: GW) B.pre
  have hg : ∀ w ∈ GW, w.before (([.ref (a 0), .int p1, .int p2, .int p3] : List Value).toArray) s = true := fun w h => hts w (List.mem_cons_of_mem _ h)
  have hown : s.vm.findClass RX3 = some m.cls := findClass_of_methodNamed B.named
  have hlocks := B.notSynchronized
  subst hsz
  have hD := hD0.self (sz := s.heap.size)
  generalize hAe : va_A (W_Log cI a x) s.heap.size = A at hD hE ⊢
  have hA : ∀ q : Nat, s.heap.size ≤ q → A q := fun q h => by rw [← hAe]; exact Or.inr h
  have hS : va_S A s.heap s.heap [] := va_S.rf
  have hl := lv_entry ([.ref (a 0), .int p1, .int p2, .int p3]) (n := 4) (Nat.le_of_ble_eq_true rfl)
  rw [lg_entry_eq]
  generalize (lg_sl ([.ref (a 0), .int p1, .int p2, .int p3]) ++ List.replicate (4 - (lg_sl ([.ref (a 0), .int p1, .int p2, .int p3])).length) Slot.unset).toArray = ls at hl ⊢
  have hl : lv_has ls 4 [(0, .ref (a 0)), (1, .int p1), (2, .int p2), (3, .int p3)] := hl
  have M0 : ∀ (H : Heap) (locs : List Loc) (ls : Array Slot), fX3_stamp x p1 p2 p3 = some res → va_P D vwCl (W_Log cI a x) H → va_D A (W_Log cI a x) → va_S A s.heap H locs → lv_has ls 4 [(0, .ref (a 0)), (1, .int p1), (2, .int p2), (3, .int p3)] → W p l e ({ frames := 0, cells := 0, slots := 0, locals := 0 } : Room) s m ([.ref (a 0), .int p1, .int p2, .int p3] : List Value).toArray below meth c H locs 0 0 (MQ below (QW D (TY cI cV cJ cD) (W_Log cI a res) A none) (([.ref (a 0), .int p1, .int p2, .int p3] : List Value).toArray) s 0 0 A) (F0 m 0 ls []) := by
    intro H locs ls hf hP hD hS hl
    dsimp only [fX3_stamp] at hf
    refine lv_iload_n hx hb dX3_stamp_0 rfl (lv_at hl 1 rfl) ?_
    refine lv_if_lt (tgt := 12) hx hb dX3_stamp_1 (by decide) (fun c1 => ?_) (fun c1 => ?_)
    · replace hf := if_t c1 hf
      obtain rfl := Option.some.inj hf
      exact W.vret hx hb hr (fun t ht hW => ⟨rfl, by rw [ht]; exact hP, va_K.moved hW.alike hK, hD, hS.F ht⟩) hS.2.2 dX3_stamp_12 hlocks
    · replace hf := if_f c1 hf
      refine lv_iload_n hx hb dX3_stamp_4 rfl (lv_at hl 1 rfl) ?_
      refine lv_aload_n hx hb dX3_stamp_5 rfl (lv_at hl 0 rfl) ?_
      refine va_get (D := D) (ci := 2) (v := .int (loN x)) (C := RX3) (T := TX3) (N := 2) hx hb hg in_X3 hown hK hP 0 rfl rfl 1 (by decide) (hg _ w38) (fun _ h9 => h9) rfl dX3_stamp_6 ?_
      refine lv_icmp_lt (tgt := 13) hx hb dX3_stamp_9 (by decide) (fun c2 => ?_) (fun c2 => ?_)
      · replace hf := if_t c2 hf
        refine lv_aload_n hx hb dX3_stamp_13 rfl (lv_at hl 0 rfl) ?_
        refine va_get (D := D) (ci := 2) (v := .ref (a 1)) (C := RX3) (T := TX3) (N := 2) hx hb hg in_X3 hown hK hP 0 rfl rfl 0 (by decide) (hg _ w37) (fun _ h9 => h9) rfl dX3_stamp_14 ?_
        refine lv_iload_n hx hb dX3_stamp_17 rfl (lv_at hl 1 rfl) ?_
        refine lv_bipush (v := 7) hx hb dX3_stamp_18 (by decide) ?_
        refine lv_imul hx hb dX3_stamp_20 ?_
        refine lv_iconst (v := 5) hx hb dX3_stamp_21 (by decide) ?_
        refine lv_iadd hx hb dX3_stamp_22 ?_
        refine lv_iload_n hx hb dX3_stamp_23 rfl (lv_at hl 2 rfl) ?_
        obtain ⟨hi3, hf⟩ := chk_t hf
        refine va_iast hx hb hK hP hD hS 1 0 rfl rfl (inb_in hi3) dX3_stamp_24 (fun H locs hP hD hS => ?_)
        obtain ⟨x4, hx4⟩ : ∃ z, z = (loC_s x (upd (loC x) (((p1 * 7) + 5)).toNatClampNeg p2)) := ⟨_, rfl⟩
        replace hf := keep_e hf x4 hx4
        have hP : va_P D vwCl (W_Log cI a x4) H := by rw [hx4]; exact hP
        have hD : va_D A (W_Log cI a x4) := by rw [hx4]; exact hD
        refine lv_aload_n hx hb dX3_stamp_25 rfl (lv_at hl 0 rfl) ?_
        refine va_get (D := D) (ci := 2) (v := .ref (a 1)) (C := RX3) (T := TX3) (N := 2) hx hb hg in_X3 hown hK hP 0 rfl rfl 0 (by decide) (hg _ w37) (fun _ h9 => h9) rfl dX3_stamp_26 ?_
        refine lv_iload_n hx hb dX3_stamp_29 rfl (lv_at hl 1 rfl) ?_
        refine lv_bipush (v := 7) hx hb dX3_stamp_30 (by decide) ?_
        refine lv_imul hx hb dX3_stamp_32 ?_
        refine lv_bipush (v := 6) hx hb dX3_stamp_33 (by decide) ?_
        refine lv_iadd hx hb dX3_stamp_35 ?_
        refine lv_iload_n hx hb dX3_stamp_36 rfl (lv_at hl 3 rfl) ?_
        obtain ⟨hi5, hf⟩ := chk_t hf
        refine va_iast hx hb hK hP hD hS 1 0 rfl rfl (inb_in hi5) dX3_stamp_37 (fun H locs hP hD hS => ?_)
        obtain ⟨x6, hx6⟩ : ∃ z, z = (loC_s x4 (upd (loC x4) (((p1 * 7) + 6)).toNatClampNeg p3)) := ⟨_, rfl⟩
        replace hf := keep_e hf x6 hx6
        have hP : va_P D vwCl (W_Log cI a x6) H := by rw [hx6]; exact hP
        have hD : va_D A (W_Log cI a x6) := by rw [hx6]; exact hD
        obtain rfl := Option.some.inj hf
        exact W.vret hx hb hr (fun t ht hW => ⟨rfl, by rw [ht]; exact hP, va_K.moved hW.alike hK, hD, hS.F ht⟩) hS.2.2 dX3_stamp_38 hlocks
      · replace hf := if_f c2 hf
        obtain rfl := Option.some.inj hf
        exact W.vret hx hb hr (fun t ht hW => ⟨rfl, by rw [ht]; exact hP, va_K.moved hW.alike hK, hD, hS.F ht⟩) hS.2.2 dX3_stamp_12 hlocks
  exact M0 s.heap [] ls hf hP hD hS hl
/-! Compactforms$Log.stampLast(II)V -/
def fX3_stampLast (x : LSt) (p1 : Int32) (p2 : Int32) : Option (LSt) := (fX3_stamp x ((loN x) - 1) p1 p2).bind (fun u1 => keep u1 (fun x3 => some x3))
set_option maxHeartbeats 4000000 in
set_option maxRecDepth 100000 in
theorem met_X3_stampLast {D : va_G} {cI cV cJ cD : ClassId} (l : Launch) (a : Nat → Nat) (x : LSt) (p1 : Int32) (p2 : Int32) (res : LSt) (hf : fX3_stampLast x p1 p2 = some res) : MM l yX3_stampLast cX3_stampLast 3 none { frames := 1, cells := 0, slots := 0, locals := 23 } D (TY cI cV cJ cD) (W_Log cI a x) (W_Log cI a res) [.ref (a 0), .int p1, .int p2] none := by
  intro sz
  refine Met.ofW (cc := cX3_stampLast) (maxL := 3) (ret := none) (by decide +kernel) rfl ?_
  intro p e s m args below meth c s₁ B hml hv
  obtain ⟨rfl, hsz, hP, hK, hD0, hE⟩ := hv
  have hx := B.exec
  have hb := B.bytes
  have hr := B.returns
  have hts := atoms_spec (ws := .code yX3_stampLast cX3_stampLast 3 none :: GW) B.pre
  have hg : ∀ w ∈ GW, w.before (([.ref (a 0), .int p1, .int p2] : List Value).toArray) s = true := fun w h => hts w (List.mem_cons_of_mem _ h)
  have hown : s.vm.findClass RX3 = some m.cls := findClass_of_methodNamed B.named
  have hlocks := B.notSynchronized
  subst hsz
  have hD := hD0.self (sz := s.heap.size)
  generalize hAe : va_A (W_Log cI a x) s.heap.size = A at hD hE ⊢
  have hA : ∀ q : Nat, s.heap.size ≤ q → A q := fun q h => by rw [← hAe]; exact Or.inr h
  have hS : va_S A s.heap s.heap [] := va_S.rf
  have hl := lv_entry ([.ref (a 0), .int p1, .int p2]) (n := 3) (Nat.le_of_ble_eq_true rfl)
  rw [lg_entry_eq]
  generalize (lg_sl ([.ref (a 0), .int p1, .int p2]) ++ List.replicate (3 - (lg_sl ([.ref (a 0), .int p1, .int p2])).length) Slot.unset).toArray = ls at hl ⊢
  have hl : lv_has ls 3 [(0, .ref (a 0)), (1, .int p1), (2, .int p2)] := hl
  have M0 : ∀ (H : Heap) (locs : List Loc) (ls : Array Slot), fX3_stampLast x p1 p2 = some res → va_P D vwCl (W_Log cI a x) H → va_D A (W_Log cI a x) → va_S A s.heap H locs → lv_has ls 3 [(0, .ref (a 0)), (1, .int p1), (2, .int p2)] → W p l e ({ frames := 1, cells := 0, slots := 0, locals := 23 } : Room) s m ([.ref (a 0), .int p1, .int p2] : List Value).toArray below meth c H locs 0 0 (MQ below (QW D (TY cI cV cJ cD) (W_Log cI a res) A none) (([.ref (a 0), .int p1, .int p2] : List Value).toArray) s 0 0 A) (F0 m 0 ls []) := by
    intro H locs ls hf hP hD hS hl
    dsimp only [fX3_stampLast] at hf
    refine lv_aload_n hx hb dX3_stampLast_0 rfl (lv_at hl 0 rfl) ?_
    refine lv_aload_n hx hb dX3_stampLast_1 rfl (lv_at hl 0 rfl) ?_
    refine va_get (D := D) (ci := 2) (v := .int (loN x)) (C := RX3) (T := TX3) (N := 2) hx hb hg in_X3 hown hK hP 0 rfl rfl 1 (by decide) (hg _ w38) (fun _ h9 => h9) rfl dX3_stampLast_2 ?_
    refine lv_iconst (v := 1) hx hb dX3_stampLast_5 (by decide) ?_
    refine lv_isub hx hb dX3_stampLast_6 ?_
    refine lv_iload_n hx hb dX3_stampLast_7 rfl (lv_at hl 1 rfl) ?_
    refine lv_iload_n hx hb dX3_stampLast_8 rfl (lv_at hl 2 rfl) ?_
    obtain ⟨u1, hc2, hf⟩ := bind_t hf
    refine k_V (As := [.int ((loN x) - 1), .int p1, .int p2]) (rest := []) (n := 3) ⟨hx, hb, hml, hown, hts⟩ (met_X3_stamp l a x ((loN x) - 1) p1 p2 u1 hc2) w569 w570 w571 w2 w572 ⟨rfl, by decide +kernel, by decide +kernel, by decide +kernel⟩ ⟨Nat.le_of_ble_eq_true rfl, Nat.le_of_ble_eq_true rfl⟩ hK hE hP hD hS hA (isC := [0, 1]) (isR := []) (isB := [0, 1]) (ws' := W_Log cI a u1) ⟨([] : List Nat).filterMap (fun i : Nat => (W_Log cI a x : va_W)[i]?), rfl, rfl, rfl, rfl, by decide, rfl, rfl⟩ 0 2 rfl rfl rfl rfl hl.1 rfl (Nat.le_of_ble_eq_true rfl) dX3_stampLast_9 ⟨Nat.le_of_ble_eq_true rfl, Nat.le_of_ble_eq_true rfl⟩ (fun H locs hP hD hS => ?_)
    try dsimp only at hf
    refine W.eq (g2 := F0 m 12 ls []) rfl ?_
    obtain ⟨x3, hx3⟩ : ∃ z, z = u1 := ⟨_, rfl⟩
    replace hf := keep_e hf x3 hx3
    have hP : va_P D vwCl (W_Log cI a x3) H := by rw [hx3]; exact hP
    have hD : va_D A (W_Log cI a x3) := by rw [hx3]; exact hD
    obtain rfl := Option.some.inj hf
    exact W.vret hx hb hr (fun t ht hW => ⟨rfl, by rw [ht]; exact hP, va_K.moved hW.alike hK, hD, hS.F ht⟩) hS.2.2 dX3_stampLast_12 hlocks
  exact M0 s.heap [] ls hf hP hD hS hl
/-! Compactforms$Log.copyRows(LCompactforms$Log;II)V -/
def fX3_copyRows (x : L2St) (p2 : Int32) (p3 : Int32) : Option (L2St) := (if p2 < 0 then some x else (if p3 < 0 then some x else (if ((loN (l2B x)) - p2) < p3 then some x else (if p3 ≤ (300 - (loN (l2A x))) then chk (cpyok (p2 * 7) ((loN (l2A x)) * 7) (p3 * 7) 2100 2100) (keep (l2A_s x (loC_s (l2A x) (va_cpy (loC (l2B x)) (loC (l2A x)) ((p2 * 7)).toNatClampNeg (((loN (l2A x)) * 7)).toNatClampNeg ((p3 * 7)).toNatClampNeg))) (fun x6 => keep (l2A_s x6 (loN_s (l2A x6) ((loN (l2A x6)) + p3))) (fun x7 => some x7))) else some x))))
set_option maxHeartbeats 4000000 in
set_option maxRecDepth 100000 in
theorem met_X3_copyRows {D : va_G} {cI cV cJ cD : ClassId} (l : Launch) (a : Nat → Nat) (x : L2St) (p2 : Int32) (p3 : Int32) (res : L2St) (hf : fX3_copyRows x p2 p3 = some res) : MM l yX3_copyRows cX3_copyRows 4 none { frames := 1, cells := 0, slots := 0, locals := 60 } D (TY cI cV cJ cD) (W_Log2 cI a x) (W_Log2 cI a res) [.ref (a 0), .ref (a 2), .int p2, .int p3] none := by
  intro sz
  refine Met.ofW (cc := cX3_copyRows) (maxL := 4) (ret := none) (by decide +kernel) rfl ?_
  intro p e s m args below meth c s₁ B hml hv
  obtain ⟨rfl, hsz, hP, hK, hD0, hE⟩ := hv
  have hx := B.exec
  have hb := B.bytes
  have hr := B.returns
  have hts := atoms_spec (ws := .code yX3_copyRows cX3_copyRows 4 none :: GW) B.pre
  have hg : ∀ w ∈ GW, w.before (([.ref (a 0), .ref (a 2), .int p2, .int p3] : List Value).toArray) s = true := fun w h => hts w (List.mem_cons_of_mem _ h)
  have hown : s.vm.findClass RX3 = some m.cls := findClass_of_methodNamed B.named
  have hlocks := B.notSynchronized
  subst hsz
  have hD := hD0.self (sz := s.heap.size)
  generalize hAe : va_A (W_Log2 cI a x) s.heap.size = A at hD hE ⊢
  have hA : ∀ q : Nat, s.heap.size ≤ q → A q := fun q h => by rw [← hAe]; exact Or.inr h
  have hS : va_S A s.heap s.heap [] := va_S.rf
  have hl := lv_entry ([.ref (a 0), .ref (a 2), .int p2, .int p3]) (n := 4) (Nat.le_of_ble_eq_true rfl)
  rw [lg_entry_eq]
  generalize (lg_sl ([.ref (a 0), .ref (a 2), .int p2, .int p3]) ++ List.replicate (4 - (lg_sl ([.ref (a 0), .ref (a 2), .int p2, .int p3])).length) Slot.unset).toArray = ls at hl ⊢
  have hl : lv_has ls 4 [(0, .ref (a 0)), (1, .ref (a 2)), (2, .int p2), (3, .int p3)] := hl
  have M0 : ∀ (H : Heap) (locs : List Loc) (ls : Array Slot), fX3_copyRows x p2 p3 = some res → va_P D vwCl (W_Log2 cI a x) H → va_D A (W_Log2 cI a x) → va_S A s.heap H locs → lv_has ls 4 [(0, .ref (a 0)), (1, .ref (a 2)), (2, .int p2), (3, .int p3)] → W p l e ({ frames := 1, cells := 0, slots := 0, locals := 60 } : Room) s m ([.ref (a 0), .ref (a 2), .int p2, .int p3] : List Value).toArray below meth c H locs 0 0 (MQ below (QW D (TY cI cV cJ cD) (W_Log2 cI a res) A none) (([.ref (a 0), .ref (a 2), .int p2, .int p3] : List Value).toArray) s 0 0 A) (F0 m 0 ls []) := by
    intro H locs ls hf hP hD hS hl
    dsimp only [fX3_copyRows] at hf
    refine lv_iload_n hx hb dX3_copyRows_0 rfl (lv_at hl 2 rfl) ?_
    refine lv_if_lt (tgt := 30) hx hb dX3_copyRows_1 (by decide) (fun c1 => ?_) (fun c1 => ?_)
    · replace hf := if_t c1 hf
      obtain rfl := Option.some.inj hf
      exact W.vret hx hb hr (fun t ht hW => ⟨rfl, by rw [ht]; exact hP, va_K.moved hW.alike hK, hD, hS.F ht⟩) hS.2.2 dX3_copyRows_30 hlocks
    · replace hf := if_f c1 hf
      refine lv_iload_n hx hb dX3_copyRows_4 rfl (lv_at hl 3 rfl) ?_
      refine lv_if_lt (tgt := 30) hx hb dX3_copyRows_5 (by decide) (fun c2 => ?_) (fun c2 => ?_)
      · replace hf := if_t c2 hf
        obtain rfl := Option.some.inj hf
        exact W.vret hx hb hr (fun t ht hW => ⟨rfl, by rw [ht]; exact hP, va_K.moved hW.alike hK, hD, hS.F ht⟩) hS.2.2 dX3_copyRows_30 hlocks
      · replace hf := if_f c2 hf
        refine lv_iload_n hx hb dX3_copyRows_8 rfl (lv_at hl 3 rfl) ?_
        refine lv_aload_n hx hb dX3_copyRows_9 rfl (lv_at hl 1 rfl) ?_
        refine va_get (D := D) (ci := 2) (v := .int (loN (l2B x))) (C := RX3) (T := TX3) (N := 2) hx hb hg in_X3 hown hK hP 2 rfl rfl 1 (by decide) (hg _ w38) (fun _ h9 => h9) rfl dX3_copyRows_10 ?_
        refine lv_iload_n hx hb dX3_copyRows_13 rfl (lv_at hl 2 rfl) ?_
        refine lv_isub hx hb dX3_copyRows_14 ?_
        refine lv_icmp_gt (tgt := 30) hx hb dX3_copyRows_15 (by decide) (fun c3 => ?_) (fun c3 => ?_)
        · replace hf := if_t c3 hf
          obtain rfl := Option.some.inj hf
          exact W.vret hx hb hr (fun t ht hW => ⟨rfl, by rw [ht]; exact hP, va_K.moved hW.alike hK, hD, hS.F ht⟩) hS.2.2 dX3_copyRows_30 hlocks
        · replace hf := if_f c3 hf
          refine lv_iload_n hx hb dX3_copyRows_18 rfl (lv_at hl 3 rfl) ?_
          refine lv_sipush (v := 300) hx hb dX3_copyRows_19 (by decide) ?_
          refine lv_aload_n hx hb dX3_copyRows_22 rfl (lv_at hl 0 rfl) ?_
          refine va_get (D := D) (ci := 2) (v := .int (loN (l2A x))) (C := RX3) (T := TX3) (N := 2) hx hb hg in_X3 hown hK hP 0 rfl rfl 1 (by decide) (hg _ w38) (fun _ h9 => h9) rfl dX3_copyRows_23 ?_
          refine lv_isub hx hb dX3_copyRows_26 ?_
          refine lv_icmp_le (tgt := 31) hx hb dX3_copyRows_27 (by decide) (fun c4 => ?_) (fun c4 => ?_)
          · replace hf := if_t c4 hf
            refine lv_aload_n hx hb dX3_copyRows_31 rfl (lv_at hl 1 rfl) ?_
            refine va_get (D := D) (ci := 2) (v := .ref (a 3)) (C := RX3) (T := TX3) (N := 2) hx hb hg in_X3 hown hK hP 2 rfl rfl 0 (by decide) (hg _ w37) (fun _ h9 => h9) rfl dX3_copyRows_32 ?_
            refine lv_iload_n hx hb dX3_copyRows_35 rfl (lv_at hl 2 rfl) ?_
            refine lv_bipush (v := 7) hx hb dX3_copyRows_36 (by decide) ?_
            refine lv_imul hx hb dX3_copyRows_38 ?_
            refine lv_aload_n hx hb dX3_copyRows_39 rfl (lv_at hl 0 rfl) ?_
            refine va_get (D := D) (ci := 2) (v := .ref (a 1)) (C := RX3) (T := TX3) (N := 2) hx hb hg in_X3 hown hK hP 0 rfl rfl 0 (by decide) (hg _ w37) (fun _ h9 => h9) rfl dX3_copyRows_40 ?_
            refine lv_aload_n hx hb dX3_copyRows_43 rfl (lv_at hl 0 rfl) ?_
            refine va_get (D := D) (ci := 2) (v := .int (loN (l2A x))) (C := RX3) (T := TX3) (N := 2) hx hb hg in_X3 hown hK hP 0 rfl rfl 1 (by decide) (hg _ w38) (fun _ h9 => h9) rfl dX3_copyRows_44 ?_
            refine lv_bipush (v := 7) hx hb dX3_copyRows_47 (by decide) ?_
            refine lv_imul hx hb dX3_copyRows_49 ?_
            refine lv_iload_n hx hb dX3_copyRows_50 rfl (lv_at hl 3 rfl) ?_
            refine lv_bipush (v := 7) hx hb dX3_copyRows_51 (by decide) ?_
            refine lv_imul hx hb dX3_copyRows_53 ?_
            obtain ⟨hi5, hf⟩ := chk_t hf
            refine va_copyi hx hb (by rw [hml]; exact hl.1.symm) hown (hg _ w644) (hg _ w476) (hg _ w475) (hg _ w16) hK hP hD hS 3 1 0 0 rfl rfl rfl rfl rfl (cpyok_1 hi5) (cpyok_2 hi5) (cpyok_3 hi5) (cpyok_4 hi5) (cpyok_5 hi5) (fun _ _ => rfl) (Nat.le_of_ble_eq_true rfl) (Nat.le_of_ble_eq_true rfl) dX3_copyRows_54 (fun H locs hP hD hS => ?_)
            obtain ⟨x6, hx6⟩ : ∃ z, z = (l2A_s x (loC_s (l2A x) (va_cpy (loC (l2B x)) (loC (l2A x)) ((p2 * 7)).toNatClampNeg (((loN (l2A x)) * 7)).toNatClampNeg ((p3 * 7)).toNatClampNeg))) := ⟨_, rfl⟩
            replace hf := keep_e hf x6 hx6
            have hP : va_P D vwCl (W_Log2 cI a x6) H := by rw [hx6]; exact hP
            have hD : va_D A (W_Log2 cI a x6) := by rw [hx6]; exact hD
            refine lv_aload_n hx hb dX3_copyRows_57 rfl (lv_at hl 0 rfl) ?_
            refine lv_dup hx hb dX3_copyRows_58 rfl ?_
            refine va_get (D := D) (ci := 2) (v := .int (loN (l2A x6))) (C := RX3) (T := TX3) (N := 2) hx hb hg in_X3 hown hK hP 0 rfl rfl 1 (by decide) (hg _ w38) (fun _ h9 => h9) rfl dX3_copyRows_59 ?_
            refine lv_iload_n hx hb dX3_copyRows_62 rfl (lv_at hl 3 rfl) ?_
            refine lv_iadd hx hb dX3_copyRows_63 ?_
            refine va_put (D := D) (ci := 2) (v := .int ((loN (l2A x6)) + p3)) (ty := .int) (C := RX3) (T := TX3) (N := 2) hx hb hg in_X3 tyX3 tyX3_ok nmX3 hown hK hP hD hS 0 rfl rfl 1 (by decide) (hg _ w38) (fun _ h9 => h9) rfl (by decide +kernel) rfl rfl (Nat.le_of_ble_eq_true rfl) dX3_copyRows_64 (fun H locs hP hD hS => ?_)
            obtain ⟨x7, hx7⟩ : ∃ z, z = (l2A_s x6 (loN_s (l2A x6) ((loN (l2A x6)) + p3))) := ⟨_, rfl⟩
            replace hf := keep_e hf x7 hx7
            have hP : va_P D vwCl (W_Log2 cI a x7) H := by rw [hx7]; exact hP
            have hD : va_D A (W_Log2 cI a x7) := by rw [hx7]; exact hD
            obtain rfl := Option.some.inj hf
            exact W.vret hx hb hr (fun t ht hW => ⟨rfl, by rw [ht]; exact hP, va_K.moved hW.alike hK, hD, hS.F ht⟩) hS.2.2 dX3_copyRows_67 hlocks
          · replace hf := if_f c4 hf
            obtain rfl := Option.some.inj hf
            exact W.vret hx hb hr (fun t ht hW => ⟨rfl, by rw [ht]; exact hP, va_K.moved hW.alike hK, hD, hS.F ht⟩) hS.2.2 dX3_copyRows_30 hlocks
  exact M0 s.heap [] ls hf hP hD hS hl

/-! Compactforms$Groups.makeEmpty()V -/
def fX2_makeEmpty (x : GSt) : Option (GSt) := (fJ7_fill_53178 3 (gsP x) 0).bind (fun u1 => keep (gsP_s x u1) (fun x3 => (fJ7_fill_53178 120 (gsW x3) (-1)).bind (fun u4 => keep (gsW_s x3 u4) (fun x6 => some x6))))
set_option maxHeartbeats 4000000 in
set_option maxRecDepth 100000 in
theorem met_X2_makeEmpty {D : va_G} {cI cV cJ cD : ClassId} (l : Launch) (a : Nat → Nat) (x : GSt) (res : GSt) (hf : fX2_makeEmpty x = some res) : MM l yX2_makeEmpty cX2_makeEmpty 1 none { frames := 1, cells := 0, slots := 0, locals := 23 } D (TY cI cV cJ cD) (W_Groups cI a x) (W_Groups cI a res) [.ref (a 0)] none := by
  intro sz
  refine Met.ofW (cc := cX2_makeEmpty) (maxL := 1) (ret := none) (by decide +kernel) rfl ?_
  intro p e s m args below meth c s₁ B hml hv
  obtain ⟨rfl, hsz, hP, hK, hD0, hE⟩ := hv
  have hx := B.exec
  have hb := B.bytes
  have hr := B.returns
  have hts := atoms_spec (ws := .code yX2_makeEmpty cX2_makeEmpty 1 none :: GW) B.pre
  have hg : ∀ w ∈ GW, w.before (([.ref (a 0)] : List Value).toArray) s = true := fun w h => hts w (List.mem_cons_of_mem _ h)
  have hown : s.vm.findClass RX2 = some m.cls := findClass_of_methodNamed B.named
  have hlocks := B.notSynchronized
  subst hsz
  have hD := hD0.self (sz := s.heap.size)
  generalize hAe : va_A (W_Groups cI a x) s.heap.size = A at hD hE ⊢
  have hA : ∀ q : Nat, s.heap.size ≤ q → A q := fun q h => by rw [← hAe]; exact Or.inr h
  have hS : va_S A s.heap s.heap [] := va_S.rf
  have hl := lv_entry ([.ref (a 0)]) (n := 1) (Nat.le_of_ble_eq_true rfl)
  rw [lg_entry_eq]
  generalize (lg_sl ([.ref (a 0)]) ++ List.replicate (1 - (lg_sl ([.ref (a 0)])).length) Slot.unset).toArray = ls at hl ⊢
  have hl : lv_has ls 1 [(0, .ref (a 0))] := hl
  have M0 : ∀ (H : Heap) (locs : List Loc) (ls : Array Slot), fX2_makeEmpty x = some res → va_P D vwCl (W_Groups cI a x) H → va_D A (W_Groups cI a x) → va_S A s.heap H locs → lv_has ls 1 [(0, .ref (a 0))] → W p l e ({ frames := 1, cells := 0, slots := 0, locals := 23 } : Room) s m ([.ref (a 0)] : List Value).toArray below meth c H locs 0 0 (MQ below (QW D (TY cI cV cJ cD) (W_Groups cI a res) A none) (([.ref (a 0)] : List Value).toArray) s 0 0 A) (F0 m 0 ls []) := by
    intro H locs ls hf hP hD hS hl
    dsimp only [fX2_makeEmpty] at hf
    refine lv_aload_n hx hb dX2_makeEmpty_0 rfl (lv_at hl 0 rfl) ?_
    refine va_get (D := D) (ci := 1) (v := .ref (a 1)) (C := RX2) (T := TX2) (N := 2) hx hb hg in_X2 hown hK hP 0 rfl rfl 0 (by decide) (hg _ w120) (fun _ h9 => h9) rfl dX2_makeEmpty_1 ?_
    refine lv_iconst (v := 0) hx hb dX2_makeEmpty_4 (by decide) ?_
    obtain ⟨u1, hc2, hf⟩ := bind_t hf
    refine k_S (As := [.ref (a 1), .int 0]) (rest := []) (n := 2) ⟨hx, hb, hml, hown, hts⟩ (met_J7_fill_53178 l 3 (fun j => a (1 + j)) (gsP x) 0 u1 hc2) w282 w283 w16 w284 ⟨by decide +kernel, by decide +kernel, by decide +kernel⟩ ⟨Nat.le_of_ble_eq_true rfl, Nat.le_of_ble_eq_true rfl⟩ hK hE hP hD hS hA (isC := [1]) (isR := [0, 2]) (isB := [0, 2, 1]) (ws' := W_Groups cI a (gsP_s x u1)) ⟨([0, 2] : List Nat).filterMap (fun i : Nat => (W_Groups cI a x : va_W)[i]?), rfl, rfl, rfl, rfl, by decide, rfl, rfl⟩ rfl hl.1 rfl (Nat.le_of_ble_eq_true rfl) dX2_makeEmpty_5 ⟨Nat.le_of_ble_eq_true rfl, Nat.le_of_ble_eq_true rfl⟩ (fun H locs hP hD hS => ?_)
    try dsimp only at hf
    refine W.eq (g2 := F0 m 8 ls []) rfl ?_
    obtain ⟨x3, hx3⟩ : ∃ z, z = (gsP_s x u1) := ⟨_, rfl⟩
    replace hf := keep_e hf x3 hx3
    have hP : va_P D vwCl (W_Groups cI a x3) H := by rw [hx3]; exact hP
    have hD : va_D A (W_Groups cI a x3) := by rw [hx3]; exact hD
    refine lv_aload_n hx hb dX2_makeEmpty_8 rfl (lv_at hl 0 rfl) ?_
    refine va_get (D := D) (ci := 1) (v := .ref (a 2)) (C := RX2) (T := TX2) (N := 2) hx hb hg in_X2 hown hK hP 0 rfl rfl 1 (by decide) (hg _ w121) (fun _ h9 => h9) rfl dX2_makeEmpty_9 ?_
    refine lv_iconst (v := (-1)) hx hb dX2_makeEmpty_12 (by decide) ?_
    obtain ⟨u4, hc5, hf⟩ := bind_t hf
    refine k_S (As := [.ref (a 2), .int (-1)]) (rest := []) (n := 2) ⟨hx, hb, hml, hown, hts⟩ (met_J7_fill_53178 l 120 (fun j => a (2 + j)) (gsW x3) (-1) u4 hc5) w282 w283 w16 w284 ⟨by decide +kernel, by decide +kernel, by decide +kernel⟩ ⟨Nat.le_of_ble_eq_true rfl, Nat.le_of_ble_eq_true rfl⟩ hK hE hP hD hS hA (isC := [2]) (isR := [0, 1]) (isB := [0, 1, 2]) (ws' := W_Groups cI a (gsW_s x3 u4)) ⟨([0, 1] : List Nat).filterMap (fun i : Nat => (W_Groups cI a x3 : va_W)[i]?), rfl, rfl, rfl, rfl, by decide, rfl, rfl⟩ rfl hl.1 rfl (Nat.le_of_ble_eq_true rfl) dX2_makeEmpty_13 ⟨Nat.le_of_ble_eq_true rfl, Nat.le_of_ble_eq_true rfl⟩ (fun H locs hP hD hS => ?_)
    try dsimp only at hf
    refine W.eq (g2 := F0 m 16 ls []) rfl ?_
    obtain ⟨x6, hx6⟩ : ∃ z, z = (gsW_s x3 u4) := ⟨_, rfl⟩
    replace hf := keep_e hf x6 hx6
    have hP : va_P D vwCl (W_Groups cI a x6) H := by rw [hx6]; exact hP
    have hD : va_D A (W_Groups cI a x6) := by rw [hx6]; exact hD
    obtain rfl := Option.some.inj hf
    exact W.vret hx hb hr (fun t ht hW => ⟨rfl, by rw [ht]; exact hP, va_K.moved hW.alike hK, hD, hS.F ht⟩) hS.2.2 dX2_makeEmpty_16 hlocks
  exact M0 s.heap [] ls hf hP hD hS hl
/-! Compactforms$Groups.giveNext(IIII)I -/
def fX2_giveNext (x : GSt) (p1 : Int32) (p2 : Int32) (p3 : Int32) (p4 : Int32) : Option (GSt × Int32) := chk (inb p1 3) (keep (((gsP x) (p1).toNatClampNeg) + 1) (fun y2 => (if y2 ≤ p3 then chk (inb p1 3) (keep (gsP_s x (upd (gsP x) (p1).toNatClampNeg y2)) (fun x5 => chk (inb (((p1 * 40) + y2) - 1) 120) (keep (gsW_s x5 (upd (gsW x5) ((((p1 * 40) + y2) - 1)).toNatClampNeg ((p4 * 4) + p2))) (fun x7 => some (x7, y2))))) else some (x, (-1)))))
set_option maxHeartbeats 4000000 in
set_option maxRecDepth 100000 in
theorem met_X2_giveNext {D : va_G} {cI cV cJ cD : ClassId} (l : Launch) (a : Nat → Nat) (x : GSt) (p1 : Int32) (p2 : Int32) (p3 : Int32) (p4 : Int32) (res : GSt × Int32) (hf : fX2_giveNext x p1 p2 p3 p4 = some res) : MM l yX2_giveNext cX2_giveNext 6 (some .int) { frames := 0, cells := 0, slots := 0, locals := 0 } D (TY cI cV cJ cD) (W_Groups cI a x) (W_Groups cI a res.1) [.ref (a 0), .int p1, .int p2, .int p3, .int p4] (some (.int res.2)) := by
  intro sz
  refine Met.ofW (cc := cX2_giveNext) (maxL := 6) (ret := (some .int)) (by decide +kernel) rfl ?_
  intro p e s m args below meth c s₁ B hml hv
  obtain ⟨rfl, hsz, hP, hK, hD0, hE⟩ := hv
  have hx := B.exec
  have hb := B.bytes
  have hr := B.returns
  have hts := atoms_spec (ws := .code yX2_giveNext cX2_giveNext 6 (some .int) :: GW) B.pre
  have hg : ∀ w ∈ GW, w.before (([.ref (a 0), .int p1, .int p2, .int p3, .int p4] : List Value).toArray) s = true := fun w h => hts w (List.mem_cons_of_mem _ h)
  have hown : s.vm.findClass RX2 = some m.cls := findClass_of_methodNamed B.named
  have hlocks := B.notSynchronized
  subst hsz
  have hD := hD0.self (sz := s.heap.size)
  generalize hAe : va_A (W_Groups cI a x) s.heap.size = A at hD hE ⊢
  have hA : ∀ q : Nat, s.heap.size ≤ q → A q := fun q h => by rw [← hAe]; exact Or.inr h
  have hS : va_S A s.heap s.heap [] := va_S.rf
  have hl := lv_entry ([.ref (a 0), .int p1, .int p2, .int p3, .int p4]) (n := 6) (Nat.le_of_ble_eq_true rfl)
  rw [lg_entry_eq]
  generalize (lg_sl ([.ref (a 0), .int p1, .int p2, .int p3, .int p4]) ++ List.replicate (6 - (lg_sl ([.ref (a 0), .int p1, .int p2, .int p3, .int p4])).length) Slot.unset).toArray = ls at hl ⊢
  have hl : lv_has ls 6 [(0, .ref (a 0)), (1, .int p1), (2, .int p2), (3, .int p3), (4, .int p4)] := hl
  have M0 : ∀ (H : Heap) (locs : List Loc) (ls : Array Slot), fX2_giveNext x p1 p2 p3 p4 = some res → va_P D vwCl (W_Groups cI a x) H → va_D A (W_Groups cI a x) → va_S A s.heap H locs → lv_has ls 6 [(0, .ref (a 0)), (1, .int p1), (2, .int p2), (3, .int p3), (4, .int p4)] → W p l e ({ frames := 0, cells := 0, slots := 0, locals := 0 } : Room) s m ([.ref (a 0), .int p1, .int p2, .int p3, .int p4] : List Value).toArray below meth c H locs 0 0 (MQ below (QW D (TY cI cV cJ cD) (W_Groups cI a res.1) A (some (.int res.2))) (([.ref (a 0), .int p1, .int p2, .int p3, .int p4] : List Value).toArray) s 0 0 A) (F0 m 0 ls []) := by
    intro H locs ls hf hP hD hS hl
    dsimp only [fX2_giveNext] at hf
    refine lv_aload_n hx hb dX2_giveNext_0 rfl (lv_at hl 0 rfl) ?_
    refine va_get (D := D) (ci := 1) (v := .ref (a 1)) (C := RX2) (T := TX2) (N := 2) hx hb hg in_X2 hown hK hP 0 rfl rfl 0 (by decide) (hg _ w120) (fun _ h9 => h9) rfl dX2_giveNext_1 ?_
    refine lv_iload_n hx hb dX2_giveNext_4 rfl (lv_at hl 1 rfl) ?_
    obtain ⟨hi1, hf⟩ := chk_t hf
    refine va_iald hx hb hK hP 1 0 rfl rfl (inb_in hi1) dX2_giveNext_5 ?_
    refine lv_iconst (v := 1) hx hb dX2_giveNext_6 (by decide) ?_
    refine lv_iadd hx hb dX2_giveNext_7 ?_
    refine lv_topi (fun y2 hy2 => ?_)
    replace hf := keep_e hf y2 hy2
    refine lv_istore (lv' := [(5, .int y2), (0, .ref (a 0)), (1, .int p1), (2, .int p2), (3, .int p3), (4, .int p4)]) hx hb dX2_giveNext_8 hl (by decide) rfl (fun ls hl => ?_)
    refine lv_iload hx hb dX2_giveNext_10 (lv_at hl 0 rfl) ?_
    refine lv_iload_n hx hb dX2_giveNext_12 rfl (lv_at hl 4 rfl) ?_
    refine lv_icmp_le (tgt := 18) hx hb dX2_giveNext_13 (by decide) (fun c3 => ?_) (fun c3 => ?_)
    · replace hf := if_t c3 hf
      refine lv_aload_n hx hb dX2_giveNext_18 rfl (lv_at hl 1 rfl) ?_
      refine va_get (D := D) (ci := 1) (v := .ref (a 1)) (C := RX2) (T := TX2) (N := 2) hx hb hg in_X2 hown hK hP 0 rfl rfl 0 (by decide) (hg _ w120) (fun _ h9 => h9) rfl dX2_giveNext_19 ?_
      refine lv_iload_n hx hb dX2_giveNext_22 rfl (lv_at hl 2 rfl) ?_
      refine lv_iload hx hb dX2_giveNext_23 (lv_at hl 0 rfl) ?_
      obtain ⟨hi4, hf⟩ := chk_t hf
      refine va_iast hx hb hK hP hD hS 1 0 rfl rfl (inb_in hi4) dX2_giveNext_25 (fun H locs hP hD hS => ?_)
      obtain ⟨x5, hx5⟩ : ∃ z, z = (gsP_s x (upd (gsP x) (p1).toNatClampNeg y2)) := ⟨_, rfl⟩
      replace hf := keep_e hf x5 hx5
      have hP : va_P D vwCl (W_Groups cI a x5) H := by rw [hx5]; exact hP
      have hD : va_D A (W_Groups cI a x5) := by rw [hx5]; exact hD
      refine lv_aload_n hx hb dX2_giveNext_26 rfl (lv_at hl 1 rfl) ?_
      refine va_get (D := D) (ci := 1) (v := .ref (a 2)) (C := RX2) (T := TX2) (N := 2) hx hb hg in_X2 hown hK hP 0 rfl rfl 1 (by decide) (hg _ w121) (fun _ h9 => h9) rfl dX2_giveNext_27 ?_
      refine lv_iload_n hx hb dX2_giveNext_30 rfl (lv_at hl 2 rfl) ?_
      refine lv_bipush (v := 40) hx hb dX2_giveNext_31 (by decide) ?_
      refine lv_imul hx hb dX2_giveNext_33 ?_
      refine lv_iload hx hb dX2_giveNext_34 (lv_at hl 0 rfl) ?_
      refine lv_iadd hx hb dX2_giveNext_36 ?_
      refine lv_iconst (v := 1) hx hb dX2_giveNext_37 (by decide) ?_
      refine lv_isub hx hb dX2_giveNext_38 ?_
      refine lv_iload hx hb dX2_giveNext_39 (lv_at hl 5 rfl) ?_
      refine lv_iconst (v := 4) hx hb dX2_giveNext_41 (by decide) ?_
      refine lv_imul hx hb dX2_giveNext_42 ?_
      refine lv_iload_n hx hb dX2_giveNext_43 rfl (lv_at hl 3 rfl) ?_
      refine lv_iadd hx hb dX2_giveNext_44 ?_
      obtain ⟨hi6, hf⟩ := chk_t hf
      refine va_iast hx hb hK hP hD hS 2 0 rfl rfl (inb_in hi6) dX2_giveNext_45 (fun H locs hP hD hS => ?_)
      obtain ⟨x7, hx7⟩ : ∃ z, z = (gsW_s x5 (upd (gsW x5) ((((p1 * 40) + y2) - 1)).toNatClampNeg ((p4 * 4) + p2))) := ⟨_, rfl⟩
      replace hf := keep_e hf x7 hx7
      have hP : va_P D vwCl (W_Groups cI a x7) H := by rw [hx7]; exact hP
      have hD : va_D A (W_Groups cI a x7) := by rw [hx7]; exact hD
      refine lv_iload hx hb dX2_giveNext_46 (lv_at hl 0 rfl) ?_
      obtain rfl := Option.some.inj hf
      exact W.iret (v := y2) hx hb hr (fun t ht hW => ⟨rfl, by rw [ht]; exact hP, va_K.moved hW.alike hK, hD, hS.F ht⟩) hS.2.2 dX2_giveNext_48 hlocks
    · replace hf := if_f c3 hf
      refine lv_iconst (v := (-1)) hx hb dX2_giveNext_16 (by decide) ?_
      obtain rfl := Option.some.inj hf
      exact W.iret (v := (-1)) hx hb hr (fun t ht hW => ⟨rfl, by rw [ht]; exact hP, va_K.moved hW.alike hK, hD, hS.F ht⟩) hS.2.2 dX2_giveNext_17 hlocks
  exact M0 s.heap [] ls hf hP hD hS hl
/-! Compactforms$Groups.finish(II)I -/
def fX2_finish (x : GSt) (p1 : Int32) (p2 : Int32) : Option (GSt × Int32) := (if p2 < 1 then some (x, 0) else (if 40 < p2 then some (x, 0) else chk (inb (((p1 * 40) + p2) - 1) 120) ((if ((gsW x) ((((p1 * 40) + p2) - 1)).toNatClampNeg) = (-1) then some (x, 0) else chk (inb (((p1 * 40) + p2) - 1) 120) (keep (gsW_s x (upd (gsW x) ((((p1 * 40) + p2) - 1)).toNatClampNeg (-1))) (fun x6 => some (x6, 1)))))))
set_option maxHeartbeats 4000000 in
set_option maxRecDepth 100000 in
theorem met_X2_finish {D : va_G} {cI cV cJ cD : ClassId} (l : Launch) (a : Nat → Nat) (x : GSt) (p1 : Int32) (p2 : Int32) (res : GSt × Int32) (hf : fX2_finish x p1 p2 = some res) : MM l yX2_finish cX2_finish 3 (some .int) { frames := 0, cells := 0, slots := 0, locals := 0 } D (TY cI cV cJ cD) (W_Groups cI a x) (W_Groups cI a res.1) [.ref (a 0), .int p1, .int p2] (some (.int res.2)) := by
  intro sz
  refine Met.ofW (cc := cX2_finish) (maxL := 3) (ret := (some .int)) (by decide +kernel) rfl ?_
  intro p e s m args below meth c s₁ B hml hv
  obtain ⟨rfl, hsz, hP, hK, hD0, hE⟩ := hv
  have hx := B.exec
  have hb := B.bytes
  have hr := B.returns
  have hts := atoms_spec (ws := .code yX2_finish cX2_finish 3 (some .int) :: GW) B.pre
  have hg : ∀ w ∈ GW, w.before (([.ref (a 0), .int p1, .int p2] : List Value).toArray) s = true := fun w h => hts w (List.mem_cons_of_mem _ h)
  have hown : s.vm.findClass RX2 = some m.cls := findClass_of_methodNamed B.named
  have hlocks := B.notSynchronized
  subst hsz
  have hD := hD0.self (sz := s.heap.size)
  generalize hAe : va_A (W_Groups cI a x) s.heap.size = A at hD hE ⊢
  have hA : ∀ q : Nat, s.heap.size ≤ q → A q := fun q h => by rw [← hAe]; exact Or.inr h
  have hS : va_S A s.heap s.heap [] := va_S.rf
  have hl := lv_entry ([.ref (a 0), .int p1, .int p2]) (n := 3) (Nat.le_of_ble_eq_true rfl)
  rw [lg_entry_eq]
  generalize (lg_sl ([.ref (a 0), .int p1, .int p2]) ++ List.replicate (3 - (lg_sl ([.ref (a 0), .int p1, .int p2])).length) Slot.unset).toArray = ls at hl ⊢
  have hl : lv_has ls 3 [(0, .ref (a 0)), (1, .int p1), (2, .int p2)] := hl
  have M0 : ∀ (H : Heap) (locs : List Loc) (ls : Array Slot), fX2_finish x p1 p2 = some res → va_P D vwCl (W_Groups cI a x) H → va_D A (W_Groups cI a x) → va_S A s.heap H locs → lv_has ls 3 [(0, .ref (a 0)), (1, .int p1), (2, .int p2)] → W p l e ({ frames := 0, cells := 0, slots := 0, locals := 0 } : Room) s m ([.ref (a 0), .int p1, .int p2] : List Value).toArray below meth c H locs 0 0 (MQ below (QW D (TY cI cV cJ cD) (W_Groups cI a res.1) A (some (.int res.2))) (([.ref (a 0), .int p1, .int p2] : List Value).toArray) s 0 0 A) (F0 m 0 ls []) := by
    intro H locs ls hf hP hD hS hl
    dsimp only [fX2_finish] at hf
    refine lv_iload_n hx hb dX2_finish_0 rfl (lv_at hl 2 rfl) ?_
    refine lv_iconst (v := 1) hx hb dX2_finish_1 (by decide) ?_
    refine lv_icmp_lt (tgt := 28) hx hb dX2_finish_2 (by decide) (fun c1 => ?_) (fun c1 => ?_)
    · replace hf := if_t c1 hf
      refine lv_iconst (v := 0) hx hb dX2_finish_28 (by decide) ?_
      obtain rfl := Option.some.inj hf
      exact W.iret (v := 0) hx hb hr (fun t ht hW => ⟨rfl, by rw [ht]; exact hP, va_K.moved hW.alike hK, hD, hS.F ht⟩) hS.2.2 dX2_finish_29 hlocks
    · replace hf := if_f c1 hf
      refine lv_iload_n hx hb dX2_finish_5 rfl (lv_at hl 2 rfl) ?_
      refine lv_bipush (v := 40) hx hb dX2_finish_6 (by decide) ?_
      refine lv_icmp_gt (tgt := 28) hx hb dX2_finish_8 (by decide) (fun c2 => ?_) (fun c2 => ?_)
      · replace hf := if_t c2 hf
        refine lv_iconst (v := 0) hx hb dX2_finish_28 (by decide) ?_
        obtain rfl := Option.some.inj hf
        exact W.iret (v := 0) hx hb hr (fun t ht hW => ⟨rfl, by rw [ht]; exact hP, va_K.moved hW.alike hK, hD, hS.F ht⟩) hS.2.2 dX2_finish_29 hlocks
      · replace hf := if_f c2 hf
        refine lv_aload_n hx hb dX2_finish_11 rfl (lv_at hl 0 rfl) ?_
        refine va_get (D := D) (ci := 1) (v := .ref (a 2)) (C := RX2) (T := TX2) (N := 2) hx hb hg in_X2 hown hK hP 0 rfl rfl 1 (by decide) (hg _ w121) (fun _ h9 => h9) rfl dX2_finish_12 ?_
        refine lv_iload_n hx hb dX2_finish_15 rfl (lv_at hl 1 rfl) ?_
        refine lv_bipush (v := 40) hx hb dX2_finish_16 (by decide) ?_
        refine lv_imul hx hb dX2_finish_18 ?_
        refine lv_iload_n hx hb dX2_finish_19 rfl (lv_at hl 2 rfl) ?_
        refine lv_iadd hx hb dX2_finish_20 ?_
        refine lv_iconst (v := 1) hx hb dX2_finish_21 (by decide) ?_
        refine lv_isub hx hb dX2_finish_22 ?_
        obtain ⟨hi3, hf⟩ := chk_t hf
        refine va_iald hx hb hK hP 2 0 rfl rfl (inb_in hi3) dX2_finish_23 ?_
        refine lv_iconst (v := (-1)) hx hb dX2_finish_24 (by decide) ?_
        refine lv_icmp_ne (tgt := 30) hx hb dX2_finish_25 (by decide) (fun c4 => ?_) (fun c4 => ?_)
        · replace hf := if_f c4 hf
          refine lv_aload_n hx hb dX2_finish_30 rfl (lv_at hl 0 rfl) ?_
          refine va_get (D := D) (ci := 1) (v := .ref (a 2)) (C := RX2) (T := TX2) (N := 2) hx hb hg in_X2 hown hK hP 0 rfl rfl 1 (by decide) (hg _ w121) (fun _ h9 => h9) rfl dX2_finish_31 ?_
          refine lv_iload_n hx hb dX2_finish_34 rfl (lv_at hl 1 rfl) ?_
          refine lv_bipush (v := 40) hx hb dX2_finish_35 (by decide) ?_
          refine lv_imul hx hb dX2_finish_37 ?_
          refine lv_iload_n hx hb dX2_finish_38 rfl (lv_at hl 2 rfl) ?_
          refine lv_iadd hx hb dX2_finish_39 ?_
          refine lv_iconst (v := 1) hx hb dX2_finish_40 (by decide) ?_
          refine lv_isub hx hb dX2_finish_41 ?_
          refine lv_iconst (v := (-1)) hx hb dX2_finish_42 (by decide) ?_
          obtain ⟨hi5, hf⟩ := chk_t hf
          refine va_iast hx hb hK hP hD hS 2 0 rfl rfl (inb_in hi5) dX2_finish_43 (fun H locs hP hD hS => ?_)
          obtain ⟨x6, hx6⟩ : ∃ z, z = (gsW_s x (upd (gsW x) ((((p1 * 40) + p2) - 1)).toNatClampNeg (-1))) := ⟨_, rfl⟩
          replace hf := keep_e hf x6 hx6
          have hP : va_P D vwCl (W_Groups cI a x6) H := by rw [hx6]; exact hP
          have hD : va_D A (W_Groups cI a x6) := by rw [hx6]; exact hD
          refine lv_iconst (v := 1) hx hb dX2_finish_44 (by decide) ?_
          obtain rfl := Option.some.inj hf
          exact W.iret (v := 1) hx hb hr (fun t ht hW => ⟨rfl, by rw [ht]; exact hP, va_K.moved hW.alike hK, hD, hS.F ht⟩) hS.2.2 dX2_finish_45 hlocks
        · replace hf := if_t c4 hf
          refine lv_iconst (v := 0) hx hb dX2_finish_28 (by decide) ?_
          obtain rfl := Option.some.inj hf
          exact W.iret (v := 0) hx hb hr (fun t ht hW => ⟨rfl, by rw [ht]; exact hP, va_K.moved hW.alike hK, hD, hS.F ht⟩) hS.2.2 dX2_finish_29 hlocks
  exact M0 s.heap [] ls hf hP hD hS hl
/-! Compactforms$Groups.moveTo(IIII)I -/
def fX2_moveTo_49 (rec9 : GSt × Int32 × Int32 → Option (GSt × Int32)) (x : GSt) (v1 : Int32) (v2 : Int32) (v3 : Int32) (v4 : Int32) (v5 : Int32) (v6 : Int32) (s0 : Int32) : Option (GSt × Int32) := (if s0 = 0 then keep (v6 + 1) (fun y2 => rec9 (x, v5, y2)) else chk (inb v6 120) ((if (v4 - (((gsW x) (v6).toNatClampNeg) / 4)) < v3 then keep (v6 + 1) (fun y5 => rec9 (x, v5, y5)) else chk (inb v6 120) (keep (gsW_s x (upd (gsW x) (v6).toNatClampNeg ((v4 * 4) + v2))) (fun x7 => keep (v5 + 1) (fun y8 => keep (v6 + 1) (fun y9 => rec9 (x7, y8, y9))))))))
def fX2_moveTo_48 (rec9 : GSt × Int32 × Int32 → Option (GSt × Int32)) (x : GSt) (v1 : Int32) (v2 : Int32) (v3 : Int32) (v4 : Int32) (v5 : Int32) (v6 : Int32) : Option (GSt × Int32) := fX2_moveTo_49 rec9 x v1 v2 v3 v4 v5 v6 0
def fX2_moveTo_9 (v1 : Int32) (v2 : Int32) (v3 : Int32) (v4 : Int32) (rec9 : GSt × Int32 × Int32 → Option (GSt × Int32)) (s : GSt × Int32 × Int32) : Option (GSt × Int32) := match s with | (x, v5, v6) => (if ((v1 + 1) * 40) ≤ v6 then some (x, v5) else chk (inb v6 120) ((if ((gsW x) (v6).toNatClampNeg) = (-1) then fX2_moveTo_48 rec9 x v1 v2 v3 v4 v5 v6 else chk (inb v6 120) ((if (((gsW x) (v6).toNatClampNeg) - ((gsW x) (v6).toNatClampNeg) / 4 * 4) = v2 then fX2_moveTo_48 rec9 x v1 v2 v3 v4 v5 v6 else fX2_moveTo_49 rec9 x v1 v2 v3 v4 v5 v6 1)))))
def fX2_moveTo (x : GSt) (p1 : Int32) (p2 : Int32) (p3 : Int32) (p4 : Int32) : Option (GSt × Int32) := keep (p1 * 40) (fun y15 => iterK FU (fX2_moveTo_9 p1 p2 p3 p4) (x, 0, y15))
set_option maxHeartbeats 4000000 in
set_option maxRecDepth 100000 in
theorem met_X2_moveTo {D : va_G} {cI cV cJ cD : ClassId} (l : Launch) (a : Nat → Nat) (x : GSt) (p1 : Int32) (p2 : Int32) (p3 : Int32) (p4 : Int32) (res : GSt × Int32) (hf : fX2_moveTo x p1 p2 p3 p4 = some res) : MM l yX2_moveTo cX2_moveTo 8 (some .int) { frames := 0, cells := 0, slots := 0, locals := 0 } D (TY cI cV cJ cD) (W_Groups cI a x) (W_Groups cI a res.1) [.ref (a 0), .int p1, .int p2, .int p3, .int p4] (some (.int res.2)) := by
  intro sz
  refine Met.ofW (cc := cX2_moveTo) (maxL := 8) (ret := (some .int)) (by decide +kernel) rfl ?_
  intro p e s m args below meth c s₁ B hml hv
  obtain ⟨rfl, hsz, hP, hK, hD0, hE⟩ := hv
  have hx := B.exec
  have hb := B.bytes
  have hr := B.returns
  have hts := atoms_spec (ws := .code yX2_moveTo cX2_moveTo 8 (some .int) :: GW) B.pre
  have hg : ∀ w ∈ GW, w.before (([.ref (a 0), .int p1, .int p2, .int p3, .int p4] : List Value).toArray) s = true := fun w h => hts w (List.mem_cons_of_mem _ h)
  have hown : s.vm.findClass RX2 = some m.cls := findClass_of_methodNamed B.named
  have hlocks := B.notSynchronized
  subst hsz
  have hD := hD0.self (sz := s.heap.size)
  generalize hAe : va_A (W_Groups cI a x) s.heap.size = A at hD hE ⊢
  have hA : ∀ q : Nat, s.heap.size ≤ q → A q := fun q h => by rw [← hAe]; exact Or.inr h
  have hS : va_S A s.heap s.heap [] := va_S.rf
  have hl := lv_entry ([.ref (a 0), .int p1, .int p2, .int p3, .int p4]) (n := 8) (Nat.le_of_ble_eq_true rfl)
  rw [lg_entry_eq]
  generalize (lg_sl ([.ref (a 0), .int p1, .int p2, .int p3, .int p4]) ++ List.replicate (8 - (lg_sl ([.ref (a 0), .int p1, .int p2, .int p3, .int p4])).length) Slot.unset).toArray = ls at hl ⊢
  have hl : lv_has ls 8 [(0, .ref (a 0)), (1, .int p1), (2, .int p2), (3, .int p3), (4, .int p4)] := hl
  have L49 : ∀ (x : GSt) (v1 : Int32) (v2 : Int32) (v3 : Int32) (v4 : Int32) (v5 : Int32) (v6 : Int32) (s0 : Int32) (rec9 : GSt × Int32 × Int32 → Option (GSt × Int32)) (hrec9 : ∀ (x : GSt), ∀ (v5 : Int32), ∀ (v6 : Int32), ∀ (H : Heap) (locs : List Loc) (ls : Array Slot), rec9 (x, v5, v6) = some res → va_P D vwCl (W_Groups cI a x) H → va_D A (W_Groups cI a x) → va_S A s.heap H locs → lv_has ls 8 [(0, .ref (a 0)), (1, .int v1), (2, .int v2), (3, .int v3), (4, .int v4), (5, .int v5), (6, .int v6)] → W p l e ({ frames := 0, cells := 0, slots := 0, locals := 0 } : Room) s m ([.ref (a 0), .int p1, .int p2, .int p3, .int p4] : List Value).toArray below meth c H locs 0 0 (MQ below (QW D (TY cI cV cJ cD) (W_Groups cI a res.1) A (some (.int res.2))) (([.ref (a 0), .int p1, .int p2, .int p3, .int p4] : List Value).toArray) s 0 0 A) (F0 m 9 ls [])) (H : Heap) (locs : List Loc) (ls : Array Slot), fX2_moveTo_49 rec9 x v1 v2 v3 v4 v5 v6 s0  = some res → va_P D vwCl (W_Groups cI a x) H → va_D A (W_Groups cI a x) → va_S A s.heap H locs → lv_has ls 8 [(0, .ref (a 0)), (1, .int v1), (2, .int v2), (3, .int v3), (4, .int v4), (5, .int v5), (6, .int v6)] → W p l e ({ frames := 0, cells := 0, slots := 0, locals := 0 } : Room) s m ([.ref (a 0), .int p1, .int p2, .int p3, .int p4] : List Value).toArray below meth c H locs 0 0 (MQ below (QW D (TY cI cV cJ cD) (W_Groups cI a res.1) A (some (.int res.2))) (([.ref (a 0), .int p1, .int p2, .int p3, .int p4] : List Value).toArray) s 0 0 A) (F0 m 49 ls [.int s0]) := by
    intro x v1 v2 v3 v4 v5 v6 s0 rec9 hrec9 H locs ls hf hP hD hS hl
    dsimp only [fX2_moveTo_49] at hf
    refine lv_istore (lv' := [(7, .int s0), (0, .ref (a 0)), (1, .int v1), (2, .int v2), (3, .int v3), (4, .int v4), (5, .int v5), (6, .int v6)]) hx hb dX2_moveTo_49 hl (by decide) rfl (fun ls hl => ?_)
    refine lv_iload hx hb dX2_moveTo_51 (lv_at hl 0 rfl) ?_
    refine lv_if_eq (tgt := 88) hx hb dX2_moveTo_53 (by decide) (fun c1 => ?_) (fun c1 => ?_)
    · replace hf := if_t c1 hf
      obtain ⟨y2, hy2⟩ : ∃ z : Int32, z = (v6 + 1) := ⟨_, rfl⟩
      replace hf := keep_e hf y2 hy2
      refine lv_iinc (v := y2) (lv' := [(6, .int y2), (7, .int s0), (0, .ref (a 0)), (1, .int v1), (2, .int v2), (3, .int v3), (4, .int v4), (5, .int v5)]) hx hb dX2_moveTo_88 hl (k := 7) rfl (by rw [hy2]; rfl) (by decide) rfl (fun ls hl => ?_)
      refine lv_goto (tgt := 9) hx hb dX2_moveTo_91 (by decide) ?_
      exact hrec9 x v5 y2 H locs ls hf hP hD hS (lv_sub hl [2, 3, 4, 5, 6, 7, 0] rfl)
    · replace hf := if_f c1 hf
      refine lv_iload hx hb dX2_moveTo_56 (lv_at hl 5 rfl) ?_
      refine lv_aload_n hx hb dX2_moveTo_58 rfl (lv_at hl 1 rfl) ?_
      refine va_get (D := D) (ci := 1) (v := .ref (a 2)) (C := RX2) (T := TX2) (N := 2) hx hb hg in_X2 hown hK hP 0 rfl rfl 1 (by decide) (hg _ w121) (fun _ h9 => h9) rfl dX2_moveTo_59 ?_
      refine lv_iload hx hb dX2_moveTo_62 (lv_at hl 7 rfl) ?_
      obtain ⟨hi3, hf⟩ := chk_t hf
      refine va_iald hx hb hK hP 2 0 rfl rfl (inb_in hi3) dX2_moveTo_64 ?_
      refine lv_iconst (v := 4) hx hb dX2_moveTo_65 (by decide) ?_
      refine lv_idiv hx hb dX2_moveTo_66 (by decide) ?_
      refine lv_isub hx hb dX2_moveTo_67 ?_
      refine lv_iload_n hx hb dX2_moveTo_68 rfl (lv_at hl 4 rfl) ?_
      refine lv_icmp_lt (tgt := 88) hx hb dX2_moveTo_69 (by decide) (fun c4 => ?_) (fun c4 => ?_)
      · replace hf := if_t c4 hf
        obtain ⟨y5, hy5⟩ : ∃ z : Int32, z = (v6 + 1) := ⟨_, rfl⟩
        replace hf := keep_e hf y5 hy5
        refine lv_iinc (v := y5) (lv' := [(6, .int y5), (7, .int s0), (0, .ref (a 0)), (1, .int v1), (2, .int v2), (3, .int v3), (4, .int v4), (5, .int v5)]) hx hb dX2_moveTo_88 hl (k := 7) rfl (by rw [hy5]; rfl) (by decide) rfl (fun ls hl => ?_)
        refine lv_goto (tgt := 9) hx hb dX2_moveTo_91 (by decide) ?_
        exact hrec9 x v5 y5 H locs ls hf hP hD hS (lv_sub hl [2, 3, 4, 5, 6, 7, 0] rfl)
      · replace hf := if_f c4 hf
        refine lv_aload_n hx hb dX2_moveTo_72 rfl (lv_at hl 1 rfl) ?_
        refine va_get (D := D) (ci := 1) (v := .ref (a 2)) (C := RX2) (T := TX2) (N := 2) hx hb hg in_X2 hown hK hP 0 rfl rfl 1 (by decide) (hg _ w121) (fun _ h9 => h9) rfl dX2_moveTo_73 ?_
        refine lv_iload hx hb dX2_moveTo_76 (lv_at hl 7 rfl) ?_
        refine lv_iload hx hb dX2_moveTo_78 (lv_at hl 5 rfl) ?_
        refine lv_iconst (v := 4) hx hb dX2_moveTo_80 (by decide) ?_
        refine lv_imul hx hb dX2_moveTo_81 ?_
        refine lv_iload_n hx hb dX2_moveTo_82 rfl (lv_at hl 3 rfl) ?_
        refine lv_iadd hx hb dX2_moveTo_83 ?_
        obtain ⟨hi6, hf⟩ := chk_t hf
        refine va_iast hx hb hK hP hD hS 2 0 rfl rfl (inb_in hi6) dX2_moveTo_84 (fun H locs hP hD hS => ?_)
        obtain ⟨x7, hx7⟩ : ∃ z, z = (gsW_s x (upd (gsW x) (v6).toNatClampNeg ((v4 * 4) + v2))) := ⟨_, rfl⟩
        replace hf := keep_e hf x7 hx7
        have hP : va_P D vwCl (W_Groups cI a x7) H := by rw [hx7]; exact hP
        have hD : va_D A (W_Groups cI a x7) := by rw [hx7]; exact hD
        obtain ⟨y8, hy8⟩ : ∃ z : Int32, z = (v5 + 1) := ⟨_, rfl⟩
        replace hf := keep_e hf y8 hy8
        refine lv_iinc (v := y8) (lv' := [(5, .int y8), (7, .int s0), (0, .ref (a 0)), (1, .int v1), (2, .int v2), (3, .int v3), (4, .int v4), (6, .int v6)]) hx hb dX2_moveTo_85 hl (k := 6) rfl (by rw [hy8]; rfl) (by decide) rfl (fun ls hl => ?_)
        obtain ⟨y9, hy9⟩ : ∃ z : Int32, z = (v6 + 1) := ⟨_, rfl⟩
        replace hf := keep_e hf y9 hy9
        refine lv_iinc (v := y9) (lv' := [(6, .int y9), (5, .int y8), (7, .int s0), (0, .ref (a 0)), (1, .int v1), (2, .int v2), (3, .int v3), (4, .int v4)]) hx hb dX2_moveTo_88 hl (k := 7) rfl (by rw [hy9]; rfl) (by decide) rfl (fun ls hl => ?_)
        refine lv_goto (tgt := 9) hx hb dX2_moveTo_91 (by decide) ?_
        exact hrec9 x7 y8 y9 H locs ls hf hP hD hS (lv_sub hl [3, 4, 5, 6, 7, 1, 0] rfl)
  have L48 : ∀ (x : GSt) (v1 : Int32) (v2 : Int32) (v3 : Int32) (v4 : Int32) (v5 : Int32) (v6 : Int32) (rec9 : GSt × Int32 × Int32 → Option (GSt × Int32)) (hrec9 : ∀ (x : GSt), ∀ (v5 : Int32), ∀ (v6 : Int32), ∀ (H : Heap) (locs : List Loc) (ls : Array Slot), rec9 (x, v5, v6) = some res → va_P D vwCl (W_Groups cI a x) H → va_D A (W_Groups cI a x) → va_S A s.heap H locs → lv_has ls 8 [(0, .ref (a 0)), (1, .int v1), (2, .int v2), (3, .int v3), (4, .int v4), (5, .int v5), (6, .int v6)] → W p l e ({ frames := 0, cells := 0, slots := 0, locals := 0 } : Room) s m ([.ref (a 0), .int p1, .int p2, .int p3, .int p4] : List Value).toArray below meth c H locs 0 0 (MQ below (QW D (TY cI cV cJ cD) (W_Groups cI a res.1) A (some (.int res.2))) (([.ref (a 0), .int p1, .int p2, .int p3, .int p4] : List Value).toArray) s 0 0 A) (F0 m 9 ls [])) (H : Heap) (locs : List Loc) (ls : Array Slot), fX2_moveTo_48 rec9 x v1 v2 v3 v4 v5 v6  = some res → va_P D vwCl (W_Groups cI a x) H → va_D A (W_Groups cI a x) → va_S A s.heap H locs → lv_has ls 8 [(0, .ref (a 0)), (1, .int v1), (2, .int v2), (3, .int v3), (4, .int v4), (5, .int v5), (6, .int v6)] → W p l e ({ frames := 0, cells := 0, slots := 0, locals := 0 } : Room) s m ([.ref (a 0), .int p1, .int p2, .int p3, .int p4] : List Value).toArray below meth c H locs 0 0 (MQ below (QW D (TY cI cV cJ cD) (W_Groups cI a res.1) A (some (.int res.2))) (([.ref (a 0), .int p1, .int p2, .int p3, .int p4] : List Value).toArray) s 0 0 A) (F0 m 48 ls []) := by
    intro x v1 v2 v3 v4 v5 v6 rec9 hrec9 H locs ls hf hP hD hS hl
    dsimp only [fX2_moveTo_48] at hf
    refine lv_iconst (v := 0) hx hb dX2_moveTo_48 (by decide) ?_
    exact L49 x v1 v2 v3 v4 v5 v6 0 rec9 hrec9 H locs ls hf hP hD hS (lv_sub hl [0, 1, 2, 3, 4, 5, 6] rfl)
  have S9 : ∀ (v1 : Int32) (v2 : Int32) (v3 : Int32) (v4 : Int32) (rec9 : GSt × Int32 × Int32 → Option (GSt × Int32)) (hrec9 : ∀ (x : GSt), ∀ (v5 : Int32), ∀ (v6 : Int32), ∀ (H : Heap) (locs : List Loc) (ls : Array Slot), rec9 (x, v5, v6) = some res → va_P D vwCl (W_Groups cI a x) H → va_D A (W_Groups cI a x) → va_S A s.heap H locs → lv_has ls 8 [(0, .ref (a 0)), (1, .int v1), (2, .int v2), (3, .int v3), (4, .int v4), (5, .int v5), (6, .int v6)] → W p l e ({ frames := 0, cells := 0, slots := 0, locals := 0 } : Room) s m ([.ref (a 0), .int p1, .int p2, .int p3, .int p4] : List Value).toArray below meth c H locs 0 0 (MQ below (QW D (TY cI cV cJ cD) (W_Groups cI a res.1) A (some (.int res.2))) (([.ref (a 0), .int p1, .int p2, .int p3, .int p4] : List Value).toArray) s 0 0 A) (F0 m 9 ls [])) (x : GSt) (v5 : Int32) (v6 : Int32) (H : Heap) (locs : List Loc) (ls : Array Slot), fX2_moveTo_9 v1 v2 v3 v4  rec9 (x, v5, v6) = some res → va_P D vwCl (W_Groups cI a x) H → va_D A (W_Groups cI a x) → va_S A s.heap H locs → lv_has ls 8 [(0, .ref (a 0)), (1, .int v1), (2, .int v2), (3, .int v3), (4, .int v4), (5, .int v5), (6, .int v6)] → W p l e ({ frames := 0, cells := 0, slots := 0, locals := 0 } : Room) s m ([.ref (a 0), .int p1, .int p2, .int p3, .int p4] : List Value).toArray below meth c H locs 0 0 (MQ below (QW D (TY cI cV cJ cD) (W_Groups cI a res.1) A (some (.int res.2))) (([.ref (a 0), .int p1, .int p2, .int p3, .int p4] : List Value).toArray) s 0 0 A) (F0 m 9 ls []) := by
    intro v1 v2 v3 v4 rec9 hrec9 x v5 v6 H locs ls hf hP hD hS hl
    dsimp only [fX2_moveTo_9] at hf
    refine lv_iload hx hb dX2_moveTo_9 (lv_at hl 6 rfl) ?_
    refine lv_iload_n hx hb dX2_moveTo_11 rfl (lv_at hl 1 rfl) ?_
    refine lv_iconst (v := 1) hx hb dX2_moveTo_12 (by decide) ?_
    refine lv_iadd hx hb dX2_moveTo_13 ?_
    refine lv_bipush (v := 40) hx hb dX2_moveTo_14 (by decide) ?_
    refine lv_imul hx hb dX2_moveTo_16 ?_
    refine lv_icmp_ge (tgt := 94) hx hb dX2_moveTo_17 (by decide) (fun c10 => ?_) (fun c10 => ?_)
    · replace hf := if_t c10 hf
      refine lv_iload hx hb dX2_moveTo_94 (lv_at hl 5 rfl) ?_
      obtain rfl := Option.some.inj hf
      exact W.iret (v := v5) hx hb hr (fun t ht hW => ⟨rfl, by rw [ht]; exact hP, va_K.moved hW.alike hK, hD, hS.F ht⟩) hS.2.2 dX2_moveTo_96 hlocks
    · replace hf := if_f c10 hf
      refine lv_aload_n hx hb dX2_moveTo_20 rfl (lv_at hl 0 rfl) ?_
      refine va_get (D := D) (ci := 1) (v := .ref (a 2)) (C := RX2) (T := TX2) (N := 2) hx hb hg in_X2 hown hK hP 0 rfl rfl 1 (by decide) (hg _ w121) (fun _ h9 => h9) rfl dX2_moveTo_21 ?_
      refine lv_iload hx hb dX2_moveTo_24 (lv_at hl 6 rfl) ?_
      obtain ⟨hi11, hf⟩ := chk_t hf
      refine va_iald hx hb hK hP 2 0 rfl rfl (inb_in hi11) dX2_moveTo_26 ?_
      refine lv_iconst (v := (-1)) hx hb dX2_moveTo_27 (by decide) ?_
      refine lv_icmp_eq (tgt := 48) hx hb dX2_moveTo_28 (by decide) (fun c12 => ?_) (fun c12 => ?_)
      · replace hf := if_t c12 hf
        exact L48 x v1 v2 v3 v4 v5 v6 rec9 hrec9 H locs ls hf hP hD hS (lv_sub hl [0, 1, 2, 3, 4, 5, 6] rfl)
      · replace hf := if_f c12 hf
        refine lv_aload_n hx hb dX2_moveTo_31 rfl (lv_at hl 0 rfl) ?_
        refine va_get (D := D) (ci := 1) (v := .ref (a 2)) (C := RX2) (T := TX2) (N := 2) hx hb hg in_X2 hown hK hP 0 rfl rfl 1 (by decide) (hg _ w121) (fun _ h9 => h9) rfl dX2_moveTo_32 ?_
        refine lv_iload hx hb dX2_moveTo_35 (lv_at hl 6 rfl) ?_
        obtain ⟨hi13, hf⟩ := chk_t hf
        refine va_iald hx hb hK hP 2 0 rfl rfl (inb_in hi13) dX2_moveTo_37 ?_
        refine lv_iconst (v := 4) hx hb dX2_moveTo_38 (by decide) ?_
        refine lv_irem hx hb dX2_moveTo_39 (by decide) ?_
        refine lv_iload_n hx hb dX2_moveTo_40 rfl (lv_at hl 2 rfl) ?_
        refine lv_icmp_eq (tgt := 48) hx hb dX2_moveTo_41 (by decide) (fun c14 => ?_) (fun c14 => ?_)
        · replace hf := if_t c14 hf
          exact L48 x v1 v2 v3 v4 v5 v6 rec9 hrec9 H locs ls hf hP hD hS (lv_sub hl [0, 1, 2, 3, 4, 5, 6] rfl)
        · replace hf := if_f c14 hf
          refine lv_iconst (v := 1) hx hb dX2_moveTo_44 (by decide) ?_
          refine lv_goto (tgt := 49) hx hb dX2_moveTo_45 (by decide) ?_
          exact L49 x v1 v2 v3 v4 v5 v6 1 rec9 hrec9 H locs ls hf hP hD hS (lv_sub hl [0, 1, 2, 3, 4, 5, 6] rfl)
  have L9 : ∀ (v1 : Int32) (v2 : Int32) (v3 : Int32) (v4 : Int32) (fu : Nat) (x : GSt) (v5 : Int32) (v6 : Int32) (H : Heap) (locs : List Loc) (ls : Array Slot), iterK fu (fX2_moveTo_9 v1 v2 v3 v4 ) (x, v5, v6) = some res → va_P D vwCl (W_Groups cI a x) H → va_D A (W_Groups cI a x) → va_S A s.heap H locs → lv_has ls 8 [(0, .ref (a 0)), (1, .int v1), (2, .int v2), (3, .int v3), (4, .int v4), (5, .int v5), (6, .int v6)] → W p l e ({ frames := 0, cells := 0, slots := 0, locals := 0 } : Room) s m ([.ref (a 0), .int p1, .int p2, .int p3, .int p4] : List Value).toArray below meth c H locs 0 0 (MQ below (QW D (TY cI cV cJ cD) (W_Groups cI a res.1) A (some (.int res.2))) (([.ref (a 0), .int p1, .int p2, .int p3, .int p4] : List Value).toArray) s 0 0 A) (F0 m 9 ls []) := by
    intro v1 v2 v3 v4 fu
    induction fu with
    | zero =>
      intro x v5 v6 H locs ls hf
      cases hf
    | succ fu ih =>
      intro x v5 v6 H locs ls hf hP hD hS hl
      exact S9 v1 v2 v3 v4 (iterK fu (fX2_moveTo_9 v1 v2 v3 v4 )) ih x v5 v6 H locs ls hf hP hD hS hl
  have M0 : ∀ (H : Heap) (locs : List Loc) (ls : Array Slot), fX2_moveTo x p1 p2 p3 p4 = some res → va_P D vwCl (W_Groups cI a x) H → va_D A (W_Groups cI a x) → va_S A s.heap H locs → lv_has ls 8 [(0, .ref (a 0)), (1, .int p1), (2, .int p2), (3, .int p3), (4, .int p4)] → W p l e ({ frames := 0, cells := 0, slots := 0, locals := 0 } : Room) s m ([.ref (a 0), .int p1, .int p2, .int p3, .int p4] : List Value).toArray below meth c H locs 0 0 (MQ below (QW D (TY cI cV cJ cD) (W_Groups cI a res.1) A (some (.int res.2))) (([.ref (a 0), .int p1, .int p2, .int p3, .int p4] : List Value).toArray) s 0 0 A) (F0 m 0 ls []) := by
    intro H locs ls hf hP hD hS hl
    dsimp only [fX2_moveTo] at hf
    refine lv_iconst (v := 0) hx hb dX2_moveTo_0 (by decide) ?_
    refine lv_istore (lv' := [(5, .int 0), (0, .ref (a 0)), (1, .int p1), (2, .int p2), (3, .int p3), (4, .int p4)]) hx hb dX2_moveTo_1 hl (by decide) rfl (fun ls hl => ?_)
    refine lv_iload_n hx hb dX2_moveTo_3 rfl (lv_at hl 2 rfl) ?_
    refine lv_bipush (v := 40) hx hb dX2_moveTo_4 (by decide) ?_
    refine lv_imul hx hb dX2_moveTo_6 ?_
    refine lv_topi (fun y15 hy15 => ?_)
    replace hf := keep_e hf y15 hy15
    refine lv_istore (lv' := [(6, .int y15), (5, .int 0), (0, .ref (a 0)), (1, .int p1), (2, .int p2), (3, .int p3), (4, .int p4)]) hx hb dX2_moveTo_7 hl (by decide) rfl (fun ls hl => ?_)
    exact L9 p1 p2 p3 p4 FU x 0 y15 H locs ls hf hP hD hS (lv_sub hl [2, 3, 4, 5, 6, 1, 0] rfl)
  exact M0 s.heap [] ls hf hP hD hS hl
/-! Compactforms$Groups.countWaiting(II)I -/
def fX2_countWaiting_8 (x : GSt) (v1 : Int32) (v2 : Int32) (rec8 : Int32 × Int32 → Option (Int32)) (s : Int32 × Int32) : Option (Int32) := match s with | (v3, v4) => (if ((v1 + 1) * 40) ≤ v4 then some v3 else chk (inb v4 120) ((if ((gsW x) (v4).toNatClampNeg) = (-1) then keep (v4 + 1) (fun y4 => rec8 (v3, y4)) else chk (inb v4 120) ((if (((gsW x) (v4).toNatClampNeg) - ((gsW x) (v4).toNatClampNeg) / 4 * 4) = v2 then keep (v3 + 1) (fun y8 => keep (v4 + 1) (fun y9 => rec8 (y8, y9))) else keep (v4 + 1) (fun y7 => rec8 (v3, y7)))))))
def fX2_countWaiting (x : GSt) (p1 : Int32) (p2 : Int32) : Option (Int32) := keep (p1 * 40) (fun y10 => iterK FU (fX2_countWaiting_8 x p1 p2) (0, y10))
set_option maxHeartbeats 4000000 in
set_option maxRecDepth 100000 in
theorem met_X2_countWaiting {D : va_G} {cI cV cJ cD : ClassId} (l : Launch) (a : Nat → Nat) (x : GSt) (p1 : Int32) (p2 : Int32) (res : Int32) (hf : fX2_countWaiting x p1 p2 = some res) : MM l yX2_countWaiting cX2_countWaiting 5 (some .int) { frames := 0, cells := 0, slots := 0, locals := 0 } D (TY cI cV cJ cD) (W_Groups cI a x) (W_Groups cI a x) [.ref (a 0), .int p1, .int p2] (some (.int res)) := by
  intro sz
  refine Met.ofW (cc := cX2_countWaiting) (maxL := 5) (ret := (some .int)) (by decide +kernel) rfl ?_
  intro p e s m args below meth c s₁ B hml hv
  obtain ⟨rfl, hsz, hP, hK, hD0, hE⟩ := hv
  have hx := B.exec
  have hb := B.bytes
  have hr := B.returns
  have hts := atoms_spec (ws := .code yX2_countWaiting cX2_countWaiting 5 (some .int) :: GW) B.pre
  have hg : ∀ w ∈ GW, w.before (([.ref (a 0), .int p1, .int p2] : List Value).toArray) s = true := fun w h => hts w (List.mem_cons_of_mem _ h)
  have hown : s.vm.findClass RX2 = some m.cls := findClass_of_methodNamed B.named
  have hlocks := B.notSynchronized
  subst hsz
  have hD := hD0.self (sz := s.heap.size)
  generalize hAe : va_A (W_Groups cI a x) s.heap.size = A at hD hE ⊢
  have hA : ∀ q : Nat, s.heap.size ≤ q → A q := fun q h => by rw [← hAe]; exact Or.inr h
  have hS : va_S A s.heap s.heap [] := va_S.rf
  have hl := lv_entry ([.ref (a 0), .int p1, .int p2]) (n := 5) (Nat.le_of_ble_eq_true rfl)
  rw [lg_entry_eq]
  generalize (lg_sl ([.ref (a 0), .int p1, .int p2]) ++ List.replicate (5 - (lg_sl ([.ref (a 0), .int p1, .int p2])).length) Slot.unset).toArray = ls at hl ⊢
  have hl : lv_has ls 5 [(0, .ref (a 0)), (1, .int p1), (2, .int p2)] := hl
  have S8 : ∀ (x : GSt) (v1 : Int32) (v2 : Int32) (rec8 : Int32 × Int32 → Option (Int32)) (hrec8 : ∀ (v3 : Int32), ∀ (v4 : Int32), ∀ (H : Heap) (locs : List Loc) (ls : Array Slot), rec8 (v3, v4) = some res → va_P D vwCl (W_Groups cI a x) H → va_D A (W_Groups cI a x) → va_S A s.heap H locs → lv_has ls 5 [(0, .ref (a 0)), (1, .int v1), (2, .int v2), (3, .int v3), (4, .int v4)] → W p l e ({ frames := 0, cells := 0, slots := 0, locals := 0 } : Room) s m ([.ref (a 0), .int p1, .int p2] : List Value).toArray below meth c H locs 0 0 (MQ below (QW D (TY cI cV cJ cD) (W_Groups cI a x) A (some (.int res))) (([.ref (a 0), .int p1, .int p2] : List Value).toArray) s 0 0 A) (F0 m 8 ls [])) (v3 : Int32) (v4 : Int32) (H : Heap) (locs : List Loc) (ls : Array Slot), fX2_countWaiting_8 x v1 v2  rec8 (v3, v4) = some res → va_P D vwCl (W_Groups cI a x) H → va_D A (W_Groups cI a x) → va_S A s.heap H locs → lv_has ls 5 [(0, .ref (a 0)), (1, .int v1), (2, .int v2), (3, .int v3), (4, .int v4)] → W p l e ({ frames := 0, cells := 0, slots := 0, locals := 0 } : Room) s m ([.ref (a 0), .int p1, .int p2] : List Value).toArray below meth c H locs 0 0 (MQ below (QW D (TY cI cV cJ cD) (W_Groups cI a x) A (some (.int res))) (([.ref (a 0), .int p1, .int p2] : List Value).toArray) s 0 0 A) (F0 m 8 ls []) := by
    intro x v1 v2 rec8 hrec8 v3 v4 H locs ls hf hP hD hS hl
    dsimp only [fX2_countWaiting_8] at hf
    refine lv_iload hx hb dX2_countWaiting_8 (lv_at hl 4 rfl) ?_
    refine lv_iload_n hx hb dX2_countWaiting_10 rfl (lv_at hl 1 rfl) ?_
    refine lv_iconst (v := 1) hx hb dX2_countWaiting_11 (by decide) ?_
    refine lv_iadd hx hb dX2_countWaiting_12 ?_
    refine lv_bipush (v := 40) hx hb dX2_countWaiting_13 (by decide) ?_
    refine lv_imul hx hb dX2_countWaiting_15 ?_
    refine lv_icmp_ge (tgt := 52) hx hb dX2_countWaiting_16 (by decide) (fun c1 => ?_) (fun c1 => ?_)
    · replace hf := if_t c1 hf
      refine lv_iload_n hx hb dX2_countWaiting_52 rfl (lv_at hl 3 rfl) ?_
      obtain rfl := Option.some.inj hf
      exact W.iret (v := v3) hx hb hr (fun t ht hW => ⟨rfl, by rw [ht]; exact hP, va_K.moved hW.alike hK, hD, hS.F ht⟩) hS.2.2 dX2_countWaiting_53 hlocks
    · replace hf := if_f c1 hf
      refine lv_aload_n hx hb dX2_countWaiting_19 rfl (lv_at hl 0 rfl) ?_
      refine va_get (D := D) (ci := 1) (v := .ref (a 2)) (C := RX2) (T := TX2) (N := 2) hx hb hg in_X2 hown hK hP 0 rfl rfl 1 (by decide) (hg _ w121) (fun _ h9 => h9) rfl dX2_countWaiting_20 ?_
      refine lv_iload hx hb dX2_countWaiting_23 (lv_at hl 4 rfl) ?_
      obtain ⟨hi2, hf⟩ := chk_t hf
      refine va_iald hx hb hK hP 2 0 rfl rfl (inb_in hi2) dX2_countWaiting_25 ?_
      refine lv_iconst (v := (-1)) hx hb dX2_countWaiting_26 (by decide) ?_
      refine lv_icmp_eq (tgt := 46) hx hb dX2_countWaiting_27 (by decide) (fun c3 => ?_) (fun c3 => ?_)
      · replace hf := if_t c3 hf
        obtain ⟨y4, hy4⟩ : ∃ z : Int32, z = (v4 + 1) := ⟨_, rfl⟩
        replace hf := keep_e hf y4 hy4
        refine lv_iinc (v := y4) (lv' := [(4, .int y4), (0, .ref (a 0)), (1, .int v1), (2, .int v2), (3, .int v3)]) hx hb dX2_countWaiting_46 hl (k := 4) rfl (by rw [hy4]; rfl) (by decide) rfl (fun ls hl => ?_)
        refine lv_goto (tgt := 8) hx hb dX2_countWaiting_49 (by decide) ?_
        exact hrec8 v3 y4 H locs ls hf hP hD hS (lv_sub hl [1, 2, 3, 4, 0] rfl)
      · replace hf := if_f c3 hf
        refine lv_aload_n hx hb dX2_countWaiting_30 rfl (lv_at hl 0 rfl) ?_
        refine va_get (D := D) (ci := 1) (v := .ref (a 2)) (C := RX2) (T := TX2) (N := 2) hx hb hg in_X2 hown hK hP 0 rfl rfl 1 (by decide) (hg _ w121) (fun _ h9 => h9) rfl dX2_countWaiting_31 ?_
        refine lv_iload hx hb dX2_countWaiting_34 (lv_at hl 4 rfl) ?_
        obtain ⟨hi5, hf⟩ := chk_t hf
        refine va_iald hx hb hK hP 2 0 rfl rfl (inb_in hi5) dX2_countWaiting_36 ?_
        refine lv_iconst (v := 4) hx hb dX2_countWaiting_37 (by decide) ?_
        refine lv_irem hx hb dX2_countWaiting_38 (by decide) ?_
        refine lv_iload_n hx hb dX2_countWaiting_39 rfl (lv_at hl 2 rfl) ?_
        refine lv_icmp_ne (tgt := 46) hx hb dX2_countWaiting_40 (by decide) (fun c6 => ?_) (fun c6 => ?_)
        · replace hf := if_f c6 hf
          obtain ⟨y7, hy7⟩ : ∃ z : Int32, z = (v4 + 1) := ⟨_, rfl⟩
          replace hf := keep_e hf y7 hy7
          refine lv_iinc (v := y7) (lv' := [(4, .int y7), (0, .ref (a 0)), (1, .int v1), (2, .int v2), (3, .int v3)]) hx hb dX2_countWaiting_46 hl (k := 4) rfl (by rw [hy7]; rfl) (by decide) rfl (fun ls hl => ?_)
          refine lv_goto (tgt := 8) hx hb dX2_countWaiting_49 (by decide) ?_
          exact hrec8 v3 y7 H locs ls hf hP hD hS (lv_sub hl [1, 2, 3, 4, 0] rfl)
        · replace hf := if_t c6 hf
          obtain ⟨y8, hy8⟩ : ∃ z : Int32, z = (v3 + 1) := ⟨_, rfl⟩
          replace hf := keep_e hf y8 hy8
          refine lv_iinc (v := y8) (lv' := [(3, .int y8), (0, .ref (a 0)), (1, .int v1), (2, .int v2), (4, .int v4)]) hx hb dX2_countWaiting_43 hl (k := 3) rfl (by rw [hy8]; rfl) (by decide) rfl (fun ls hl => ?_)
          obtain ⟨y9, hy9⟩ : ∃ z : Int32, z = (v4 + 1) := ⟨_, rfl⟩
          replace hf := keep_e hf y9 hy9
          refine lv_iinc (v := y9) (lv' := [(4, .int y9), (3, .int y8), (0, .ref (a 0)), (1, .int v1), (2, .int v2)]) hx hb dX2_countWaiting_46 hl (k := 4) rfl (by rw [hy9]; rfl) (by decide) rfl (fun ls hl => ?_)
          refine lv_goto (tgt := 8) hx hb dX2_countWaiting_49 (by decide) ?_
          exact hrec8 y8 y9 H locs ls hf hP hD hS (lv_sub hl [2, 3, 4, 1, 0] rfl)
  have L8 : ∀ (x : GSt) (v1 : Int32) (v2 : Int32) (fu : Nat) (v3 : Int32) (v4 : Int32) (H : Heap) (locs : List Loc) (ls : Array Slot), iterK fu (fX2_countWaiting_8 x v1 v2 ) (v3, v4) = some res → va_P D vwCl (W_Groups cI a x) H → va_D A (W_Groups cI a x) → va_S A s.heap H locs → lv_has ls 5 [(0, .ref (a 0)), (1, .int v1), (2, .int v2), (3, .int v3), (4, .int v4)] → W p l e ({ frames := 0, cells := 0, slots := 0, locals := 0 } : Room) s m ([.ref (a 0), .int p1, .int p2] : List Value).toArray below meth c H locs 0 0 (MQ below (QW D (TY cI cV cJ cD) (W_Groups cI a x) A (some (.int res))) (([.ref (a 0), .int p1, .int p2] : List Value).toArray) s 0 0 A) (F0 m 8 ls []) := by
    intro x v1 v2 fu
    induction fu with
    | zero =>
      intro v3 v4 H locs ls hf
      cases hf
    | succ fu ih =>
      intro v3 v4 H locs ls hf hP hD hS hl
      exact S8 x v1 v2 (iterK fu (fX2_countWaiting_8 x v1 v2 )) ih v3 v4 H locs ls hf hP hD hS hl
  have M0 : ∀ (H : Heap) (locs : List Loc) (ls : Array Slot), fX2_countWaiting x p1 p2 = some res → va_P D vwCl (W_Groups cI a x) H → va_D A (W_Groups cI a x) → va_S A s.heap H locs → lv_has ls 5 [(0, .ref (a 0)), (1, .int p1), (2, .int p2)] → W p l e ({ frames := 0, cells := 0, slots := 0, locals := 0 } : Room) s m ([.ref (a 0), .int p1, .int p2] : List Value).toArray below meth c H locs 0 0 (MQ below (QW D (TY cI cV cJ cD) (W_Groups cI a x) A (some (.int res))) (([.ref (a 0), .int p1, .int p2] : List Value).toArray) s 0 0 A) (F0 m 0 ls []) := by
    intro H locs ls hf hP hD hS hl
    dsimp only [fX2_countWaiting] at hf
    refine lv_iconst (v := 0) hx hb dX2_countWaiting_0 (by decide) ?_
    refine lv_istore_n (lv' := [(3, .int 0), (0, .ref (a 0)), (1, .int p1), (2, .int p2)]) hx hb dX2_countWaiting_1 rfl hl (by decide) rfl (fun ls hl => ?_)
    refine lv_iload_n hx hb dX2_countWaiting_2 rfl (lv_at hl 2 rfl) ?_
    refine lv_bipush (v := 40) hx hb dX2_countWaiting_3 (by decide) ?_
    refine lv_imul hx hb dX2_countWaiting_5 ?_
    refine lv_topi (fun y10 hy10 => ?_)
    replace hf := keep_e hf y10 hy10
    refine lv_istore (lv' := [(4, .int y10), (3, .int 0), (0, .ref (a 0)), (1, .int p1), (2, .int p2)]) hx hb dX2_countWaiting_6 hl (by decide) rfl (fun ls hl => ?_)
    exact L8 x p1 p2 FU 0 y10 H locs ls hf hP hD hS (lv_sub hl [2, 3, 4, 1, 0] rfl)
  exact M0 s.heap [] ls hf hP hD hS hl

/-! Compactforms$Groups.makeEmpty()V -/
def fX2_makeEmpty (x : GSt) : Option (GSt) := (fJ7_fill_53178 3 (gsP x) 0).bind (fun u1 => keep (gsP_s x u1) (fun x3 => (fJ7_fill_53178 120 (gsW x3) (-1)).bind (fun u4 => keep (gsW_s x3 u4) (fun x6 => some x6))))
set_option maxHeartbeats 4000000 in
set_option maxRecDepth 100000 in
theorem met_X2_makeEmpty {D : va_G} {cI cV cJ cD : ClassId} (l : Launch) (a : Nat → Nat) (x : GSt) (res : GSt) (hf : fX2_makeEmpty x = some res) : MM l yX2_makeEmpty cX2_makeEmpty 1 none { frames := 1, cells := 0, slots := 0, locals := 23 } D (TY cI cV cJ cD) (W_Groups cI a x) (W_Groups cI a res) [.ref (a 0)] none := by
  intro sz
  refine Met.ofW (cc := cX2_makeEmpty) (maxL := 1) (ret := none) (by decide +kernel) rfl ?_
  intro p e s m args below meth c s₁ B hml hv
  obtain ⟨rfl, hsz, hP, hK, hD0, hE⟩ := hv
  have hx := B.exec
  have hb := B.bytes
  have hr := B.returns
  have hts := atoms_spec (ws := .code yX2_makeEmpty cX2_makeEmpty 1 none :: GW) B.pre
  have hg : ∀ w ∈ GW, w.before (([.ref (a 0)] : List Value).toArray) s = true := fun w h => hts w (List.mem_cons_of_mem _ h)
  have hown : s.vm.findClass RX2 = some m.cls := findClass_of_methodNamed B.named
  have hlocks := B.notSynchronized
  subst hsz
  have hD := hD0.self (sz := s.heap.size)
  generalize hAe : va_A (W_Groups cI a x) s.heap.size = A at hD hE ⊢
  have hA : ∀ q : Nat, s.heap.size ≤ q → A q := fun q h => by rw [← hAe]; exact Or.inr h
  have hS : va_S A s.heap s.heap [] := va_S.rf
  have hl := lv_entry ([.ref (a 0)]) (n := 1) (Nat.le_of_ble_eq_true rfl)
  rw [lg_entry_eq]
  generalize (lg_sl ([.ref (a 0)]) ++ List.replicate (1 - (lg_sl ([.ref (a 0)])).length) Slot.unset).toArray = ls at hl ⊢
  have hl : lv_has ls 1 [(0, .ref (a 0))] := hl
  have M0 : ∀ (H : Heap) (locs : List Loc) (ls : Array Slot), fX2_makeEmpty x = some res → va_P D vwCl (W_Groups cI a x) H → va_D A (W_Groups cI a x) → va_S A s.heap H locs → lv_has ls 1 [(0, .ref (a 0))] → W p l e ({ frames := 1, cells := 0, slots := 0, locals := 23 } : Room) s m ([.ref (a 0)] : List Value).toArray below meth c H locs 0 0 (MQ below (QW D (TY cI cV cJ cD) (W_Groups cI a res) A none) (([.ref (a 0)] : List Value).toArray) s 0 0 A) (F0 m 0 ls []) := by
    intro H locs ls hf hP hD hS hl
    dsimp only [fX2_makeEmpty] at hf
    refine lv_aload_n hx hb dX2_makeEmpty_0 rfl (lv_at hl 0 rfl) ?_
    refine va_get (D := D) (ci := 1) (v := .ref (a 1)) (C := RX2) (T := TX2) (N := 2) hx hb hg in_X2 hown hK hP 0 rfl rfl 0 (by decide) (hg _ w121) (fun _ h9 => h9) rfl dX2_makeEmpty_1 ?_
    refine lv_iconst (v := 0) hx hb dX2_makeEmpty_4 (by decide) ?_
    obtain ⟨u1, hc2, hf⟩ := bind_t hf
    refine k_S (As := [.ref (a 1), .int 0]) (rest := []) (n := 2) ⟨hx, hb, hml, hown, hts⟩ (met_J7_fill_53178 l 3 (fun j => a (1 + j)) (gsP x) 0 u1 hc2) w427 w428 w15 w429 ⟨by decide +kernel, by decide +kernel, by decide +kernel⟩ ⟨Nat.le_of_ble_eq_true rfl, Nat.le_of_ble_eq_true rfl⟩ hK hE hP hD hS hA (isC := [1]) (isR := [0, 2]) (isB := [0, 2, 1]) (ws' := W_Groups cI a (gsP_s x u1)) ⟨([0, 2] : List Nat).filterMap (fun i : Nat => (W_Groups cI a x : va_W)[i]?), rfl, rfl, rfl, rfl, by decide, rfl, rfl⟩ rfl hl.1 rfl (Nat.le_of_ble_eq_true rfl) dX2_makeEmpty_5 ⟨Nat.le_of_ble_eq_true rfl, Nat.le_of_ble_eq_true rfl⟩ (fun H locs hP hD hS => ?_)
    try dsimp only at hf
    refine W.eq (g2 := F0 m 8 ls []) rfl ?_
    obtain ⟨x3, hx3⟩ : ∃ z, z = (gsP_s x u1) := ⟨_, rfl⟩
    replace hf := keep_e hf x3 hx3
    have hP : va_P D vwCl (W_Groups cI a x3) H := by rw [hx3]; exact hP
    have hD : va_D A (W_Groups cI a x3) := by rw [hx3]; exact hD
    refine lv_aload_n hx hb dX2_makeEmpty_8 rfl (lv_at hl 0 rfl) ?_
    refine va_get (D := D) (ci := 1) (v := .ref (a 2)) (C := RX2) (T := TX2) (N := 2) hx hb hg in_X2 hown hK hP 0 rfl rfl 1 (by decide) (hg _ w122) (fun _ h9 => h9) rfl dX2_makeEmpty_9 ?_
    refine lv_iconst (v := (-1)) hx hb dX2_makeEmpty_12 (by decide) ?_
    obtain ⟨u4, hc5, hf⟩ := bind_t hf
    refine k_S (As := [.ref (a 2), .int (-1)]) (rest := []) (n := 2) ⟨hx, hb, hml, hown, hts⟩ (met_J7_fill_53178 l 120 (fun j => a (2 + j)) (gsW x3) (-1) u4 hc5) w427 w428 w15 w429 ⟨by decide +kernel, by decide +kernel, by decide +kernel⟩ ⟨Nat.le_of_ble_eq_true rfl, Nat.le_of_ble_eq_true rfl⟩ hK hE hP hD hS hA (isC := [2]) (isR := [0, 1]) (isB := [0, 1, 2]) (ws' := W_Groups cI a (gsW_s x3 u4)) ⟨([0, 1] : List Nat).filterMap (fun i : Nat => (W_Groups cI a x3 : va_W)[i]?), rfl, rfl, rfl, rfl, by decide, rfl, rfl⟩ rfl hl.1 rfl (Nat.le_of_ble_eq_true rfl) dX2_makeEmpty_13 ⟨Nat.le_of_ble_eq_true rfl, Nat.le_of_ble_eq_true rfl⟩ (fun H locs hP hD hS => ?_)
    try dsimp only at hf
    refine W.eq (g2 := F0 m 16 ls []) rfl ?_
    obtain ⟨x6, hx6⟩ : ∃ z, z = (gsW_s x3 u4) := ⟨_, rfl⟩
    replace hf := keep_e hf x6 hx6
    have hP : va_P D vwCl (W_Groups cI a x6) H := by rw [hx6]; exact hP
    have hD : va_D A (W_Groups cI a x6) := by rw [hx6]; exact hD
    obtain rfl := Option.some.inj hf
    exact W.vret hx hb hr (fun t ht hW => ⟨rfl, by rw [ht]; exact hP, va_K.moved hW.alike hK, hD, hS.F ht⟩) hS.2.2 dX2_makeEmpty_16 hlocks
  exact M0 s.heap [] ls hf hP hD hS hl
/-! Compactforms$Groups.giveNext(IIII)I -/
def fX2_giveNext (x : GSt) (p1 : Int32) (p2 : Int32) (p3 : Int32) (p4 : Int32) : Option (GSt × Int32) := (fX7_isGroup p1).bind (fun u1 => (if u1 = 0 then some (x, (-1)) else chk (inb p1 3) (keep (((gsP x) (p1).toNatClampNeg) + 1) (fun y5 => (if p3 < y5 then some (x, (-1)) else (fX7_isWithin y5 1 40).bind (fun u7 => (if u7 = 0 then some (x, (-1)) else chk (inb p1 3) (keep (gsP_s x (upd (gsP x) (p1).toNatClampNeg y5)) (fun x11 => chk (inb (((p1 * 40) + y5) - 1) 120) (keep (gsW_s x11 (upd (gsW x11) ((((p1 * 40) + y5) - 1)).toNatClampNeg ((p4 * 4) + p2))) (fun x13 => some (x13, y5))))))))))))
set_option maxHeartbeats 4000000 in
set_option maxRecDepth 100000 in
theorem met_X2_giveNext {D : va_G} {cI cV cJ cD : ClassId} (l : Launch) (a : Nat → Nat) (x : GSt) (p1 : Int32) (p2 : Int32) (p3 : Int32) (p4 : Int32) (res : GSt × Int32) (hf : fX2_giveNext x p1 p2 p3 p4 = some res) : MM l yX2_giveNext cX2_giveNext 6 (some .int) { frames := 2, cells := 0, slots := 0, locals := 42 } D (TY cI cV cJ cD) (W_Groups cI a x) (W_Groups cI a res.1) [.ref (a 0), .int p1, .int p2, .int p3, .int p4] (some (.int res.2)) := by
  intro sz
  refine Met.ofW (cc := cX2_giveNext) (maxL := 6) (ret := (some .int)) (by decide +kernel) rfl ?_
  intro p e s m args below meth c s₁ B hml hv
  obtain ⟨rfl, hsz, hP, hK, hD0, hE⟩ := hv
  have hx := B.exec
  have hb := B.bytes
  have hr := B.returns
  have hts := atoms_spec (ws := .code yX2_giveNext cX2_giveNext 6 (some .int) :: GW) B.pre
  have hg : ∀ w ∈ GW, w.before (([.ref (a 0), .int p1, .int p2, .int p3, .int p4] : List Value).toArray) s = true := fun w h => hts w (List.mem_cons_of_mem _ h)
  have hown : s.vm.findClass RX2 = some m.cls := findClass_of_methodNamed B.named
  have hlocks := B.notSynchronized
  subst hsz
  have hD := hD0.self (sz := s.heap.size)
  generalize hAe : va_A (W_Groups cI a x) s.heap.size = A at hD hE ⊢
  have hA : ∀ q : Nat, s.heap.size ≤ q → A q := fun q h => by rw [← hAe]; exact Or.inr h
  have hS : va_S A s.heap s.heap [] := va_S.rf
  have hl := lv_entry ([.ref (a 0), .int p1, .int p2, .int p3, .int p4]) (n := 6) (Nat.le_of_ble_eq_true rfl)
  rw [lg_entry_eq]
  generalize (lg_sl ([.ref (a 0), .int p1, .int p2, .int p3, .int p4]) ++ List.replicate (6 - (lg_sl ([.ref (a 0), .int p1, .int p2, .int p3, .int p4])).length) Slot.unset).toArray = ls at hl ⊢
  have hl : lv_has ls 6 [(0, .ref (a 0)), (1, .int p1), (2, .int p2), (3, .int p3), (4, .int p4)] := hl
  have M0 : ∀ (H : Heap) (locs : List Loc) (ls : Array Slot), fX2_giveNext x p1 p2 p3 p4 = some res → va_P D vwCl (W_Groups cI a x) H → va_D A (W_Groups cI a x) → va_S A s.heap H locs → lv_has ls 6 [(0, .ref (a 0)), (1, .int p1), (2, .int p2), (3, .int p3), (4, .int p4)] → W p l e ({ frames := 2, cells := 0, slots := 0, locals := 42 } : Room) s m ([.ref (a 0), .int p1, .int p2, .int p3, .int p4] : List Value).toArray below meth c H locs 0 0 (MQ below (QW D (TY cI cV cJ cD) (W_Groups cI a res.1) A (some (.int res.2))) (([.ref (a 0), .int p1, .int p2, .int p3, .int p4] : List Value).toArray) s 0 0 A) (F0 m 0 ls []) := by
    intro H locs ls hf hP hD hS hl
    dsimp only [fX2_giveNext] at hf
    refine lv_iload_n hx hb dX2_giveNext_0 rfl (lv_at hl 1 rfl) ?_
    obtain ⟨u1, hc2, hf⟩ := bind_t hf
    refine k_SN (host := "Compactforms") (As := [.int p1]) (rest := []) (n := 1) ⟨hx, hb, hml, hown, hts⟩ (met_X7_isGroup l p1 u1 hc2) (hE.1.2.1 _ (List.mem_of_getElem? (i := 8) rfl)) w550 w1 w551 ⟨by decide +kernel, by decide +kernel, by decide +kernel⟩ ⟨Nat.le_of_ble_eq_true rfl, Nat.le_of_ble_eq_true rfl⟩ hK hE hP hD hS hA (isC := []) (isR := [0, 1, 2]) (isB := [0, 1, 2]) (ws' := W_Groups cI a x) ⟨([0, 1, 2] : List Nat).filterMap (fun i : Nat => (W_Groups cI a x : va_W)[i]?), rfl, rfl, rfl, rfl, by decide, rfl, rfl⟩ rfl hl.1 rfl (Nat.le_of_ble_eq_true rfl) dX2_giveNext_1 ⟨Nat.le_of_ble_eq_true rfl, Nat.le_of_ble_eq_true rfl⟩ (fun H locs hP hD hS => ?_)
    try dsimp only at hf
    refine W.eq (g2 := F0 m 4 ls [.int u1]) rfl ?_
    refine lv_if_ne (tgt := 9) hx hb dX2_giveNext_4 (by decide) (fun c3 => ?_) (fun c3 => ?_)
    · replace hf := if_f c3 hf
      refine lv_aload_n hx hb dX2_giveNext_9 rfl (lv_at hl 0 rfl) ?_
      refine va_get (D := D) (ci := 1) (v := .ref (a 1)) (C := RX2) (T := TX2) (N := 2) hx hb hg in_X2 hown hK hP 0 rfl rfl 0 (by decide) (hg _ w121) (fun _ h9 => h9) rfl dX2_giveNext_10 ?_
      refine lv_iload_n hx hb dX2_giveNext_13 rfl (lv_at hl 1 rfl) ?_
      obtain ⟨hi4, hf⟩ := chk_t hf
      refine va_iald hx hb hK hP 1 0 rfl rfl (inb_in hi4) dX2_giveNext_14 ?_
      refine lv_iconst (v := 1) hx hb dX2_giveNext_15 (by decide) ?_
      refine lv_iadd hx hb dX2_giveNext_16 ?_
      refine lv_topi (fun y5 hy5 => ?_)
      replace hf := keep_e hf y5 hy5
      refine lv_istore (lv' := [(5, .int y5), (0, .ref (a 0)), (1, .int p1), (2, .int p2), (3, .int p3), (4, .int p4)]) hx hb dX2_giveNext_17 hl (by decide) rfl (fun ls hl => ?_)
      refine lv_iload hx hb dX2_giveNext_19 (lv_at hl 0 rfl) ?_
      refine lv_iload_n hx hb dX2_giveNext_21 rfl (lv_at hl 4 rfl) ?_
      refine lv_icmp_gt (tgt := 36) hx hb dX2_giveNext_22 (by decide) (fun c6 => ?_) (fun c6 => ?_)
      · replace hf := if_t c6 hf
        refine lv_iconst (v := (-1)) hx hb dX2_giveNext_36 (by decide) ?_
        obtain rfl := Option.some.inj hf
        exact W.iret (v := (-1)) hx hb hr (fun t ht hW => ⟨rfl, by rw [ht]; exact hP, va_K.moved hW.alike hK, hD, hS.F ht⟩) hS.2.2 dX2_giveNext_37 hlocks
      · replace hf := if_f c6 hf
        refine lv_iload hx hb dX2_giveNext_25 (lv_at hl 0 rfl) ?_
        refine lv_iconst (v := 1) hx hb dX2_giveNext_27 (by decide) ?_
        refine lv_bipush (v := 40) hx hb dX2_giveNext_28 (by decide) ?_
        obtain ⟨u7, hc8, hf⟩ := bind_t hf
        refine k_SN (host := "Compactforms") (As := [.int y5, .int 1, .int 40]) (rest := []) (n := 3) ⟨hx, hb, hml, hown, hts⟩ (met_X7_isWithin l y5 1 40 u7 hc8) (hE.1.2.1 _ (List.mem_of_getElem? (i := 9) rfl)) w216 w1 w217 ⟨by decide +kernel, by decide +kernel, by decide +kernel⟩ ⟨Nat.le_of_ble_eq_true rfl, Nat.le_of_ble_eq_true rfl⟩ hK hE hP hD hS hA (isC := []) (isR := [0, 1, 2]) (isB := [0, 1, 2]) (ws' := W_Groups cI a x) ⟨([0, 1, 2] : List Nat).filterMap (fun i : Nat => (W_Groups cI a x : va_W)[i]?), rfl, rfl, rfl, rfl, by decide, rfl, rfl⟩ rfl hl.1 rfl (Nat.le_of_ble_eq_true rfl) dX2_giveNext_30 ⟨Nat.le_of_ble_eq_true rfl, Nat.le_of_ble_eq_true rfl⟩ (fun H locs hP hD hS => ?_)
        try dsimp only at hf
        refine W.eq (g2 := F0 m 33 ls [.int u7]) rfl ?_
        refine lv_if_ne (tgt := 38) hx hb dX2_giveNext_33 (by decide) (fun c9 => ?_) (fun c9 => ?_)
        · replace hf := if_f c9 hf
          refine lv_aload_n hx hb dX2_giveNext_38 rfl (lv_at hl 1 rfl) ?_
          refine va_get (D := D) (ci := 1) (v := .ref (a 1)) (C := RX2) (T := TX2) (N := 2) hx hb hg in_X2 hown hK hP 0 rfl rfl 0 (by decide) (hg _ w121) (fun _ h9 => h9) rfl dX2_giveNext_39 ?_
          refine lv_iload_n hx hb dX2_giveNext_42 rfl (lv_at hl 2 rfl) ?_
          refine lv_iload hx hb dX2_giveNext_43 (lv_at hl 0 rfl) ?_
          obtain ⟨hi10, hf⟩ := chk_t hf
          refine va_iast hx hb hK hP hD hS 1 0 rfl rfl (inb_in hi10) dX2_giveNext_45 (fun H locs hP hD hS => ?_)
          obtain ⟨x11, hx11⟩ : ∃ z, z = (gsP_s x (upd (gsP x) (p1).toNatClampNeg y5)) := ⟨_, rfl⟩
          replace hf := keep_e hf x11 hx11
          have hP : va_P D vwCl (W_Groups cI a x11) H := by rw [hx11]; exact hP
          have hD : va_D A (W_Groups cI a x11) := by rw [hx11]; exact hD
          refine lv_aload_n hx hb dX2_giveNext_46 rfl (lv_at hl 1 rfl) ?_
          refine va_get (D := D) (ci := 1) (v := .ref (a 2)) (C := RX2) (T := TX2) (N := 2) hx hb hg in_X2 hown hK hP 0 rfl rfl 1 (by decide) (hg _ w122) (fun _ h9 => h9) rfl dX2_giveNext_47 ?_
          refine lv_iload_n hx hb dX2_giveNext_50 rfl (lv_at hl 2 rfl) ?_
          refine lv_bipush (v := 40) hx hb dX2_giveNext_51 (by decide) ?_
          refine lv_imul hx hb dX2_giveNext_53 ?_
          refine lv_iload hx hb dX2_giveNext_54 (lv_at hl 0 rfl) ?_
          refine lv_iadd hx hb dX2_giveNext_56 ?_
          refine lv_iconst (v := 1) hx hb dX2_giveNext_57 (by decide) ?_
          refine lv_isub hx hb dX2_giveNext_58 ?_
          refine lv_iload hx hb dX2_giveNext_59 (lv_at hl 5 rfl) ?_
          refine lv_iconst (v := 4) hx hb dX2_giveNext_61 (by decide) ?_
          refine lv_imul hx hb dX2_giveNext_62 ?_
          refine lv_iload_n hx hb dX2_giveNext_63 rfl (lv_at hl 3 rfl) ?_
          refine lv_iadd hx hb dX2_giveNext_64 ?_
          obtain ⟨hi12, hf⟩ := chk_t hf
          refine va_iast hx hb hK hP hD hS 2 0 rfl rfl (inb_in hi12) dX2_giveNext_65 (fun H locs hP hD hS => ?_)
          obtain ⟨x13, hx13⟩ : ∃ z, z = (gsW_s x11 (upd (gsW x11) ((((p1 * 40) + y5) - 1)).toNatClampNeg ((p4 * 4) + p2))) := ⟨_, rfl⟩
          replace hf := keep_e hf x13 hx13
          have hP : va_P D vwCl (W_Groups cI a x13) H := by rw [hx13]; exact hP
          have hD : va_D A (W_Groups cI a x13) := by rw [hx13]; exact hD
          refine lv_iload hx hb dX2_giveNext_66 (lv_at hl 0 rfl) ?_
          obtain rfl := Option.some.inj hf
          exact W.iret (v := y5) hx hb hr (fun t ht hW => ⟨rfl, by rw [ht]; exact hP, va_K.moved hW.alike hK, hD, hS.F ht⟩) hS.2.2 dX2_giveNext_68 hlocks
        · replace hf := if_t c9 hf
          refine lv_iconst (v := (-1)) hx hb dX2_giveNext_36 (by decide) ?_
          obtain rfl := Option.some.inj hf
          exact W.iret (v := (-1)) hx hb hr (fun t ht hW => ⟨rfl, by rw [ht]; exact hP, va_K.moved hW.alike hK, hD, hS.F ht⟩) hS.2.2 dX2_giveNext_37 hlocks
    · replace hf := if_t c3 hf
      refine lv_iconst (v := (-1)) hx hb dX2_giveNext_7 (by decide) ?_
      obtain rfl := Option.some.inj hf
      exact W.iret (v := (-1)) hx hb hr (fun t ht hW => ⟨rfl, by rw [ht]; exact hP, va_K.moved hW.alike hK, hD, hS.F ht⟩) hS.2.2 dX2_giveNext_8 hlocks
  exact M0 s.heap [] ls hf hP hD hS hl
/-! Compactforms$Groups.finish(II)I -/
def fX2_finish_43 (x : GSt) (v3 : Int32) (s0 : Int32) : Option (GSt × Int32) := chk (inb v3 120) (keep (gsW_s x (upd (gsW x) (v3).toNatClampNeg (-1))) (fun x2 => (if s0 = 0 then some (x2, 0) else some (x2, 1))))
def fX2_finish (x : GSt) (p1 : Int32) (p2 : Int32) : Option (GSt × Int32) := (fX7_isGroup p1).bind (fun u4 => (if u4 = 0 then some (x, 0) else (fX7_isWithin p2 1 40).bind (fun u7 => (if u7 = 0 then some (x, 0) else keep (((p1 * 40) + p2) - 1) (fun y10 => chk (inb y10 120) ((if ((gsW x) (y10).toNatClampNeg) = (-1) then fX2_finish_43 x y10 0 else fX2_finish_43 x y10 1)))))))
set_option maxHeartbeats 4000000 in
set_option maxRecDepth 100000 in
theorem met_X2_finish {D : va_G} {cI cV cJ cD : ClassId} (l : Launch) (a : Nat → Nat) (x : GSt) (p1 : Int32) (p2 : Int32) (res : GSt × Int32) (hf : fX2_finish x p1 p2 = some res) : MM l yX2_finish cX2_finish 5 (some .int) { frames := 2, cells := 0, slots := 0, locals := 42 } D (TY cI cV cJ cD) (W_Groups cI a x) (W_Groups cI a res.1) [.ref (a 0), .int p1, .int p2] (some (.int res.2)) := by
  intro sz
  refine Met.ofW (cc := cX2_finish) (maxL := 5) (ret := (some .int)) (by decide +kernel) rfl ?_
  intro p e s m args below meth c s₁ B hml hv
  obtain ⟨rfl, hsz, hP, hK, hD0, hE⟩ := hv
  have hx := B.exec
  have hb := B.bytes
  have hr := B.returns
  have hts := atoms_spec (ws := .code yX2_finish cX2_finish 5 (some .int) :: GW) B.pre
  have hg : ∀ w ∈ GW, w.before (([.ref (a 0), .int p1, .int p2] : List Value).toArray) s = true := fun w h => hts w (List.mem_cons_of_mem _ h)
  have hown : s.vm.findClass RX2 = some m.cls := findClass_of_methodNamed B.named
  have hlocks := B.notSynchronized
  subst hsz
  have hD := hD0.self (sz := s.heap.size)
  generalize hAe : va_A (W_Groups cI a x) s.heap.size = A at hD hE ⊢
  have hA : ∀ q : Nat, s.heap.size ≤ q → A q := fun q h => by rw [← hAe]; exact Or.inr h
  have hS : va_S A s.heap s.heap [] := va_S.rf
  have hl := lv_entry ([.ref (a 0), .int p1, .int p2]) (n := 5) (Nat.le_of_ble_eq_true rfl)
  rw [lg_entry_eq]
  generalize (lg_sl ([.ref (a 0), .int p1, .int p2]) ++ List.replicate (5 - (lg_sl ([.ref (a 0), .int p1, .int p2])).length) Slot.unset).toArray = ls at hl ⊢
  have hl : lv_has ls 5 [(0, .ref (a 0)), (1, .int p1), (2, .int p2)] := hl
  have L43 : ∀ (x : GSt) (v3 : Int32) (s0 : Int32) (H : Heap) (locs : List Loc) (ls : Array Slot), fX2_finish_43 x v3 s0  = some res → va_P D vwCl (W_Groups cI a x) H → va_D A (W_Groups cI a x) → va_S A s.heap H locs → lv_has ls 5 [(0, .ref (a 0)), (3, .int v3)] → W p l e ({ frames := 2, cells := 0, slots := 0, locals := 42 } : Room) s m ([.ref (a 0), .int p1, .int p2] : List Value).toArray below meth c H locs 0 0 (MQ below (QW D (TY cI cV cJ cD) (W_Groups cI a res.1) A (some (.int res.2))) (([.ref (a 0), .int p1, .int p2] : List Value).toArray) s 0 0 A) (F0 m 43 ls [.int s0]) := by
    intro x v3 s0 H locs ls hf hP hD hS hl
    dsimp only [fX2_finish_43] at hf
    refine lv_istore (lv' := [(4, .int s0), (0, .ref (a 0)), (3, .int v3)]) hx hb dX2_finish_43 hl (by decide) rfl (fun ls hl => ?_)
    refine lv_aload_n hx hb dX2_finish_45 rfl (lv_at hl 1 rfl) ?_
    refine va_get (D := D) (ci := 1) (v := .ref (a 2)) (C := RX2) (T := TX2) (N := 2) hx hb hg in_X2 hown hK hP 0 rfl rfl 1 (by decide) (hg _ w122) (fun _ h9 => h9) rfl dX2_finish_46 ?_
    refine lv_iload_n hx hb dX2_finish_49 rfl (lv_at hl 2 rfl) ?_
    refine lv_iconst (v := (-1)) hx hb dX2_finish_50 (by decide) ?_
    obtain ⟨hi1, hf⟩ := chk_t hf
    refine va_iast hx hb hK hP hD hS 2 0 rfl rfl (inb_in hi1) dX2_finish_51 (fun H locs hP hD hS => ?_)
    obtain ⟨x2, hx2⟩ : ∃ z, z = (gsW_s x (upd (gsW x) (v3).toNatClampNeg (-1))) := ⟨_, rfl⟩
    replace hf := keep_e hf x2 hx2
    have hP : va_P D vwCl (W_Groups cI a x2) H := by rw [hx2]; exact hP
    have hD : va_D A (W_Groups cI a x2) := by rw [hx2]; exact hD
    refine lv_iload hx hb dX2_finish_52 (lv_at hl 0 rfl) ?_
    refine lv_if_eq (tgt := 61) hx hb dX2_finish_54 (by decide) (fun c3 => ?_) (fun c3 => ?_)
    · replace hf := if_t c3 hf
      refine lv_iconst (v := 0) hx hb dX2_finish_61 (by decide) ?_
      obtain rfl := Option.some.inj hf
      exact W.iret (v := 0) hx hb hr (fun t ht hW => ⟨rfl, by rw [ht]; exact hP, va_K.moved hW.alike hK, hD, hS.F ht⟩) hS.2.2 dX2_finish_62 hlocks
    · replace hf := if_f c3 hf
      refine lv_iconst (v := 1) hx hb dX2_finish_57 (by decide) ?_
      refine lv_goto (tgt := 62) hx hb dX2_finish_58 (by decide) ?_
      obtain rfl := Option.some.inj hf
      exact W.iret (v := 1) hx hb hr (fun t ht hW => ⟨rfl, by rw [ht]; exact hP, va_K.moved hW.alike hK, hD, hS.F ht⟩) hS.2.2 dX2_finish_62 hlocks
  have M0 : ∀ (H : Heap) (locs : List Loc) (ls : Array Slot), fX2_finish x p1 p2 = some res → va_P D vwCl (W_Groups cI a x) H → va_D A (W_Groups cI a x) → va_S A s.heap H locs → lv_has ls 5 [(0, .ref (a 0)), (1, .int p1), (2, .int p2)] → W p l e ({ frames := 2, cells := 0, slots := 0, locals := 42 } : Room) s m ([.ref (a 0), .int p1, .int p2] : List Value).toArray below meth c H locs 0 0 (MQ below (QW D (TY cI cV cJ cD) (W_Groups cI a res.1) A (some (.int res.2))) (([.ref (a 0), .int p1, .int p2] : List Value).toArray) s 0 0 A) (F0 m 0 ls []) := by
    intro H locs ls hf hP hD hS hl
    dsimp only [fX2_finish] at hf
    refine lv_iload_n hx hb dX2_finish_0 rfl (lv_at hl 1 rfl) ?_
    obtain ⟨u4, hc5, hf⟩ := bind_t hf
    refine k_SN (host := "Compactforms") (As := [.int p1]) (rest := []) (n := 1) ⟨hx, hb, hml, hown, hts⟩ (met_X7_isGroup l p1 u4 hc5) (hE.1.2.1 _ (List.mem_of_getElem? (i := 8) rfl)) w550 w1 w551 ⟨by decide +kernel, by decide +kernel, by decide +kernel⟩ ⟨Nat.le_of_ble_eq_true rfl, Nat.le_of_ble_eq_true rfl⟩ hK hE hP hD hS hA (isC := []) (isR := [0, 1, 2]) (isB := [0, 1, 2]) (ws' := W_Groups cI a x) ⟨([0, 1, 2] : List Nat).filterMap (fun i : Nat => (W_Groups cI a x : va_W)[i]?), rfl, rfl, rfl, rfl, by decide, rfl, rfl⟩ rfl hl.1 rfl (Nat.le_of_ble_eq_true rfl) dX2_finish_1 ⟨Nat.le_of_ble_eq_true rfl, Nat.le_of_ble_eq_true rfl⟩ (fun H locs hP hD hS => ?_)
    try dsimp only at hf
    refine W.eq (g2 := F0 m 4 ls [.int u4]) rfl ?_
    refine lv_if_eq (tgt := 17) hx hb dX2_finish_4 (by decide) (fun c6 => ?_) (fun c6 => ?_)
    · replace hf := if_t c6 hf
      refine lv_iconst (v := 0) hx hb dX2_finish_17 (by decide) ?_
      obtain rfl := Option.some.inj hf
      exact W.iret (v := 0) hx hb hr (fun t ht hW => ⟨rfl, by rw [ht]; exact hP, va_K.moved hW.alike hK, hD, hS.F ht⟩) hS.2.2 dX2_finish_18 hlocks
    · replace hf := if_f c6 hf
      refine lv_iload_n hx hb dX2_finish_7 rfl (lv_at hl 2 rfl) ?_
      refine lv_iconst (v := 1) hx hb dX2_finish_8 (by decide) ?_
      refine lv_bipush (v := 40) hx hb dX2_finish_9 (by decide) ?_
      obtain ⟨u7, hc8, hf⟩ := bind_t hf
      refine k_SN (host := "Compactforms") (As := [.int p2, .int 1, .int 40]) (rest := []) (n := 3) ⟨hx, hb, hml, hown, hts⟩ (met_X7_isWithin l p2 1 40 u7 hc8) (hE.1.2.1 _ (List.mem_of_getElem? (i := 9) rfl)) w216 w1 w217 ⟨by decide +kernel, by decide +kernel, by decide +kernel⟩ ⟨Nat.le_of_ble_eq_true rfl, Nat.le_of_ble_eq_true rfl⟩ hK hE hP hD hS hA (isC := []) (isR := [0, 1, 2]) (isB := [0, 1, 2]) (ws' := W_Groups cI a x) ⟨([0, 1, 2] : List Nat).filterMap (fun i : Nat => (W_Groups cI a x : va_W)[i]?), rfl, rfl, rfl, rfl, by decide, rfl, rfl⟩ rfl hl.1 rfl (Nat.le_of_ble_eq_true rfl) dX2_finish_11 ⟨Nat.le_of_ble_eq_true rfl, Nat.le_of_ble_eq_true rfl⟩ (fun H locs hP hD hS => ?_)
      try dsimp only at hf
      refine W.eq (g2 := F0 m 14 ls [.int u7]) rfl ?_
      refine lv_if_ne (tgt := 19) hx hb dX2_finish_14 (by decide) (fun c9 => ?_) (fun c9 => ?_)
      · replace hf := if_f c9 hf
        refine lv_iload_n hx hb dX2_finish_19 rfl (lv_at hl 1 rfl) ?_
        refine lv_bipush (v := 40) hx hb dX2_finish_20 (by decide) ?_
        refine lv_imul hx hb dX2_finish_22 ?_
        refine lv_iload_n hx hb dX2_finish_23 rfl (lv_at hl 2 rfl) ?_
        refine lv_iadd hx hb dX2_finish_24 ?_
        refine lv_iconst (v := 1) hx hb dX2_finish_25 (by decide) ?_
        refine lv_isub hx hb dX2_finish_26 ?_
        refine lv_topi (fun y10 hy10 => ?_)
        replace hf := keep_e hf y10 hy10
        refine lv_istore_n (lv' := [(3, .int y10), (0, .ref (a 0)), (1, .int p1), (2, .int p2)]) hx hb dX2_finish_27 rfl hl (by decide) rfl (fun ls hl => ?_)
        refine lv_aload_n hx hb dX2_finish_28 rfl (lv_at hl 1 rfl) ?_
        refine va_get (D := D) (ci := 1) (v := .ref (a 2)) (C := RX2) (T := TX2) (N := 2) hx hb hg in_X2 hown hK hP 0 rfl rfl 1 (by decide) (hg _ w122) (fun _ h9 => h9) rfl dX2_finish_29 ?_
        refine lv_iload_n hx hb dX2_finish_32 rfl (lv_at hl 0 rfl) ?_
        obtain ⟨hi11, hf⟩ := chk_t hf
        refine va_iald hx hb hK hP 2 0 rfl rfl (inb_in hi11) dX2_finish_33 ?_
        refine lv_iconst (v := (-1)) hx hb dX2_finish_34 (by decide) ?_
        refine lv_icmp_eq (tgt := 42) hx hb dX2_finish_35 (by decide) (fun c12 => ?_) (fun c12 => ?_)
        · replace hf := if_t c12 hf
          refine lv_iconst (v := 0) hx hb dX2_finish_42 (by decide) ?_
          exact L43 x y10 0 H locs ls hf hP hD hS (lv_sub hl [1, 0] rfl)
        · replace hf := if_f c12 hf
          refine lv_iconst (v := 1) hx hb dX2_finish_38 (by decide) ?_
          refine lv_goto (tgt := 43) hx hb dX2_finish_39 (by decide) ?_
          exact L43 x y10 1 H locs ls hf hP hD hS (lv_sub hl [1, 0] rfl)
      · replace hf := if_t c9 hf
        refine lv_iconst (v := 0) hx hb dX2_finish_17 (by decide) ?_
        obtain rfl := Option.some.inj hf
        exact W.iret (v := 0) hx hb hr (fun t ht hW => ⟨rfl, by rw [ht]; exact hP, va_K.moved hW.alike hK, hD, hS.F ht⟩) hS.2.2 dX2_finish_18 hlocks
  exact M0 s.heap [] ls hf hP hD hS hl
/-! Compactforms$Groups.moveTo(IIII)I -/
def fX2_moveTo_58 (rec18 : GSt × Int32 × Int32 → Option (GSt × Int32)) (x : GSt) (v1 : Int32) (v2 : Int32) (v3 : Int32) (v4 : Int32) (v5 : Int32) (v6 : Int32) (s0 : Int32) : Option (GSt × Int32) := (if s0 = 0 then keep (v6 + 1) (fun y2 => rec18 (x, v5, y2)) else chk (inb v6 120) ((if (v4 - (((gsW x) (v6).toNatClampNeg) / 4)) < v3 then keep (v6 + 1) (fun y5 => rec18 (x, v5, y5)) else chk (inb v6 120) (keep (gsW_s x (upd (gsW x) (v6).toNatClampNeg ((v4 * 4) + v2))) (fun x7 => keep (v5 + 1) (fun y8 => keep (v6 + 1) (fun y9 => rec18 (x7, y8, y9))))))))
def fX2_moveTo_57 (rec18 : GSt × Int32 × Int32 → Option (GSt × Int32)) (x : GSt) (v1 : Int32) (v2 : Int32) (v3 : Int32) (v4 : Int32) (v5 : Int32) (v6 : Int32) : Option (GSt × Int32) := fX2_moveTo_58 rec18 x v1 v2 v3 v4 v5 v6 0
def fX2_moveTo_18 (v1 : Int32) (v2 : Int32) (v3 : Int32) (v4 : Int32) (rec18 : GSt × Int32 × Int32 → Option (GSt × Int32)) (s : GSt × Int32 × Int32) : Option (GSt × Int32) := match s with | (x, v5, v6) => (if ((v1 + 1) * 40) ≤ v6 then some (x, v5) else chk (inb v6 120) ((if ((gsW x) (v6).toNatClampNeg) = (-1) then fX2_moveTo_57 rec18 x v1 v2 v3 v4 v5 v6 else chk (inb v6 120) ((if (((gsW x) (v6).toNatClampNeg) - ((gsW x) (v6).toNatClampNeg) / 4 * 4) = v2 then fX2_moveTo_57 rec18 x v1 v2 v3 v4 v5 v6 else fX2_moveTo_58 rec18 x v1 v2 v3 v4 v5 v6 1)))))
def fX2_moveTo (x : GSt) (p1 : Int32) (p2 : Int32) (p3 : Int32) (p4 : Int32) : Option (GSt × Int32) := (fX7_isGroup p1).bind (fun u15 => (if u15 = 0 then some (x, 0) else keep (p1 * 40) (fun y18 => iterK FU (fX2_moveTo_18 p1 p2 p3 p4) (x, 0, y18))))
set_option maxHeartbeats 4000000 in
set_option maxRecDepth 100000 in
theorem met_X2_moveTo {D : va_G} {cI cV cJ cD : ClassId} (l : Launch) (a : Nat → Nat) (x : GSt) (p1 : Int32) (p2 : Int32) (p3 : Int32) (p4 : Int32) (res : GSt × Int32) (hf : fX2_moveTo x p1 p2 p3 p4 = some res) : MM l yX2_moveTo cX2_moveTo 8 (some .int) { frames := 2, cells := 0, slots := 0, locals := 42 } D (TY cI cV cJ cD) (W_Groups cI a x) (W_Groups cI a res.1) [.ref (a 0), .int p1, .int p2, .int p3, .int p4] (some (.int res.2)) := by
  intro sz
  refine Met.ofW (cc := cX2_moveTo) (maxL := 8) (ret := (some .int)) (by decide +kernel) rfl ?_
  intro p e s m args below meth c s₁ B hml hv
  obtain ⟨rfl, hsz, hP, hK, hD0, hE⟩ := hv
  have hx := B.exec
  have hb := B.bytes
  have hr := B.returns
  have hts := atoms_spec (ws := .code yX2_moveTo cX2_moveTo 8 (some .int) :: GW) B.pre
  have hg : ∀ w ∈ GW, w.before (([.ref (a 0), .int p1, .int p2, .int p3, .int p4] : List Value).toArray) s = true := fun w h => hts w (List.mem_cons_of_mem _ h)
  have hown : s.vm.findClass RX2 = some m.cls := findClass_of_methodNamed B.named
  have hlocks := B.notSynchronized
  subst hsz
  have hD := hD0.self (sz := s.heap.size)
  generalize hAe : va_A (W_Groups cI a x) s.heap.size = A at hD hE ⊢
  have hA : ∀ q : Nat, s.heap.size ≤ q → A q := fun q h => by rw [← hAe]; exact Or.inr h
  have hS : va_S A s.heap s.heap [] := va_S.rf
  have hl := lv_entry ([.ref (a 0), .int p1, .int p2, .int p3, .int p4]) (n := 8) (Nat.le_of_ble_eq_true rfl)
  rw [lg_entry_eq]
  generalize (lg_sl ([.ref (a 0), .int p1, .int p2, .int p3, .int p4]) ++ List.replicate (8 - (lg_sl ([.ref (a 0), .int p1, .int p2, .int p3, .int p4])).length) Slot.unset).toArray = ls at hl ⊢
  have hl : lv_has ls 8 [(0, .ref (a 0)), (1, .int p1), (2, .int p2), (3, .int p3), (4, .int p4)] := hl
  have L58 : ∀ (x : GSt) (v1 : Int32) (v2 : Int32) (v3 : Int32) (v4 : Int32) (v5 : Int32) (v6 : Int32) (s0 : Int32) (rec18 : GSt × Int32 × Int32 → Option (GSt × Int32)) (hrec18 : ∀ (x : GSt), ∀ (v5 : Int32), ∀ (v6 : Int32), ∀ (H : Heap) (locs : List Loc) (ls : Array Slot), rec18 (x, v5, v6) = some res → va_P D vwCl (W_Groups cI a x) H → va_D A (W_Groups cI a x) → va_S A s.heap H locs → lv_has ls 8 [(0, .ref (a 0)), (1, .int v1), (2, .int v2), (3, .int v3), (4, .int v4), (5, .int v5), (6, .int v6)] → W p l e ({ frames := 2, cells := 0, slots := 0, locals := 42 } : Room) s m ([.ref (a 0), .int p1, .int p2, .int p3, .int p4] : List Value).toArray below meth c H locs 0 0 (MQ below (QW D (TY cI cV cJ cD) (W_Groups cI a res.1) A (some (.int res.2))) (([.ref (a 0), .int p1, .int p2, .int p3, .int p4] : List Value).toArray) s 0 0 A) (F0 m 18 ls [])) (H : Heap) (locs : List Loc) (ls : Array Slot), fX2_moveTo_58 rec18 x v1 v2 v3 v4 v5 v6 s0  = some res → va_P D vwCl (W_Groups cI a x) H → va_D A (W_Groups cI a x) → va_S A s.heap H locs → lv_has ls 8 [(0, .ref (a 0)), (1, .int v1), (2, .int v2), (3, .int v3), (4, .int v4), (5, .int v5), (6, .int v6)] → W p l e ({ frames := 2, cells := 0, slots := 0, locals := 42 } : Room) s m ([.ref (a 0), .int p1, .int p2, .int p3, .int p4] : List Value).toArray below meth c H locs 0 0 (MQ below (QW D (TY cI cV cJ cD) (W_Groups cI a res.1) A (some (.int res.2))) (([.ref (a 0), .int p1, .int p2, .int p3, .int p4] : List Value).toArray) s 0 0 A) (F0 m 58 ls [.int s0]) := by
    intro x v1 v2 v3 v4 v5 v6 s0 rec18 hrec18 H locs ls hf hP hD hS hl
    dsimp only [fX2_moveTo_58] at hf
    refine lv_istore (lv' := [(7, .int s0), (0, .ref (a 0)), (1, .int v1), (2, .int v2), (3, .int v3), (4, .int v4), (5, .int v5), (6, .int v6)]) hx hb dX2_moveTo_58 hl (by decide) rfl (fun ls hl => ?_)
    refine lv_iload hx hb dX2_moveTo_60 (lv_at hl 0 rfl) ?_
    refine lv_if_eq (tgt := 97) hx hb dX2_moveTo_62 (by decide) (fun c1 => ?_) (fun c1 => ?_)
    · replace hf := if_t c1 hf
      obtain ⟨y2, hy2⟩ : ∃ z : Int32, z = (v6 + 1) := ⟨_, rfl⟩
      replace hf := keep_e hf y2 hy2
      refine lv_iinc (v := y2) (lv' := [(6, .int y2), (7, .int s0), (0, .ref (a 0)), (1, .int v1), (2, .int v2), (3, .int v3), (4, .int v4), (5, .int v5)]) hx hb dX2_moveTo_97 hl (k := 7) rfl (by rw [hy2]; rfl) (by decide) rfl (fun ls hl => ?_)
      refine lv_goto (tgt := 18) hx hb dX2_moveTo_100 (by decide) ?_
      exact hrec18 x v5 y2 H locs ls hf hP hD hS (lv_sub hl [2, 3, 4, 5, 6, 7, 0] rfl)
    · replace hf := if_f c1 hf
      refine lv_iload hx hb dX2_moveTo_65 (lv_at hl 5 rfl) ?_
      refine lv_aload_n hx hb dX2_moveTo_67 rfl (lv_at hl 1 rfl) ?_
      refine va_get (D := D) (ci := 1) (v := .ref (a 2)) (C := RX2) (T := TX2) (N := 2) hx hb hg in_X2 hown hK hP 0 rfl rfl 1 (by decide) (hg _ w122) (fun _ h9 => h9) rfl dX2_moveTo_68 ?_
      refine lv_iload hx hb dX2_moveTo_71 (lv_at hl 7 rfl) ?_
      obtain ⟨hi3, hf⟩ := chk_t hf
      refine va_iald hx hb hK hP 2 0 rfl rfl (inb_in hi3) dX2_moveTo_73 ?_
      refine lv_iconst (v := 4) hx hb dX2_moveTo_74 (by decide) ?_
      refine lv_idiv hx hb dX2_moveTo_75 (by decide) ?_
      refine lv_isub hx hb dX2_moveTo_76 ?_
      refine lv_iload_n hx hb dX2_moveTo_77 rfl (lv_at hl 4 rfl) ?_
      refine lv_icmp_lt (tgt := 97) hx hb dX2_moveTo_78 (by decide) (fun c4 => ?_) (fun c4 => ?_)
      · replace hf := if_t c4 hf
        obtain ⟨y5, hy5⟩ : ∃ z : Int32, z = (v6 + 1) := ⟨_, rfl⟩
        replace hf := keep_e hf y5 hy5
        refine lv_iinc (v := y5) (lv' := [(6, .int y5), (7, .int s0), (0, .ref (a 0)), (1, .int v1), (2, .int v2), (3, .int v3), (4, .int v4), (5, .int v5)]) hx hb dX2_moveTo_97 hl (k := 7) rfl (by rw [hy5]; rfl) (by decide) rfl (fun ls hl => ?_)
        refine lv_goto (tgt := 18) hx hb dX2_moveTo_100 (by decide) ?_
        exact hrec18 x v5 y5 H locs ls hf hP hD hS (lv_sub hl [2, 3, 4, 5, 6, 7, 0] rfl)
      · replace hf := if_f c4 hf
        refine lv_aload_n hx hb dX2_moveTo_81 rfl (lv_at hl 1 rfl) ?_
        refine va_get (D := D) (ci := 1) (v := .ref (a 2)) (C := RX2) (T := TX2) (N := 2) hx hb hg in_X2 hown hK hP 0 rfl rfl 1 (by decide) (hg _ w122) (fun _ h9 => h9) rfl dX2_moveTo_82 ?_
        refine lv_iload hx hb dX2_moveTo_85 (lv_at hl 7 rfl) ?_
        refine lv_iload hx hb dX2_moveTo_87 (lv_at hl 5 rfl) ?_
        refine lv_iconst (v := 4) hx hb dX2_moveTo_89 (by decide) ?_
        refine lv_imul hx hb dX2_moveTo_90 ?_
        refine lv_iload_n hx hb dX2_moveTo_91 rfl (lv_at hl 3 rfl) ?_
        refine lv_iadd hx hb dX2_moveTo_92 ?_
        obtain ⟨hi6, hf⟩ := chk_t hf
        refine va_iast hx hb hK hP hD hS 2 0 rfl rfl (inb_in hi6) dX2_moveTo_93 (fun H locs hP hD hS => ?_)
        obtain ⟨x7, hx7⟩ : ∃ z, z = (gsW_s x (upd (gsW x) (v6).toNatClampNeg ((v4 * 4) + v2))) := ⟨_, rfl⟩
        replace hf := keep_e hf x7 hx7
        have hP : va_P D vwCl (W_Groups cI a x7) H := by rw [hx7]; exact hP
        have hD : va_D A (W_Groups cI a x7) := by rw [hx7]; exact hD
        obtain ⟨y8, hy8⟩ : ∃ z : Int32, z = (v5 + 1) := ⟨_, rfl⟩
        replace hf := keep_e hf y8 hy8
        refine lv_iinc (v := y8) (lv' := [(5, .int y8), (7, .int s0), (0, .ref (a 0)), (1, .int v1), (2, .int v2), (3, .int v3), (4, .int v4), (6, .int v6)]) hx hb dX2_moveTo_94 hl (k := 6) rfl (by rw [hy8]; rfl) (by decide) rfl (fun ls hl => ?_)
        obtain ⟨y9, hy9⟩ : ∃ z : Int32, z = (v6 + 1) := ⟨_, rfl⟩
        replace hf := keep_e hf y9 hy9
        refine lv_iinc (v := y9) (lv' := [(6, .int y9), (5, .int y8), (7, .int s0), (0, .ref (a 0)), (1, .int v1), (2, .int v2), (3, .int v3), (4, .int v4)]) hx hb dX2_moveTo_97 hl (k := 7) rfl (by rw [hy9]; rfl) (by decide) rfl (fun ls hl => ?_)
        refine lv_goto (tgt := 18) hx hb dX2_moveTo_100 (by decide) ?_
        exact hrec18 x7 y8 y9 H locs ls hf hP hD hS (lv_sub hl [3, 4, 5, 6, 7, 1, 0] rfl)
  have L57 : ∀ (x : GSt) (v1 : Int32) (v2 : Int32) (v3 : Int32) (v4 : Int32) (v5 : Int32) (v6 : Int32) (rec18 : GSt × Int32 × Int32 → Option (GSt × Int32)) (hrec18 : ∀ (x : GSt), ∀ (v5 : Int32), ∀ (v6 : Int32), ∀ (H : Heap) (locs : List Loc) (ls : Array Slot), rec18 (x, v5, v6) = some res → va_P D vwCl (W_Groups cI a x) H → va_D A (W_Groups cI a x) → va_S A s.heap H locs → lv_has ls 8 [(0, .ref (a 0)), (1, .int v1), (2, .int v2), (3, .int v3), (4, .int v4), (5, .int v5), (6, .int v6)] → W p l e ({ frames := 2, cells := 0, slots := 0, locals := 42 } : Room) s m ([.ref (a 0), .int p1, .int p2, .int p3, .int p4] : List Value).toArray below meth c H locs 0 0 (MQ below (QW D (TY cI cV cJ cD) (W_Groups cI a res.1) A (some (.int res.2))) (([.ref (a 0), .int p1, .int p2, .int p3, .int p4] : List Value).toArray) s 0 0 A) (F0 m 18 ls [])) (H : Heap) (locs : List Loc) (ls : Array Slot), fX2_moveTo_57 rec18 x v1 v2 v3 v4 v5 v6  = some res → va_P D vwCl (W_Groups cI a x) H → va_D A (W_Groups cI a x) → va_S A s.heap H locs → lv_has ls 8 [(0, .ref (a 0)), (1, .int v1), (2, .int v2), (3, .int v3), (4, .int v4), (5, .int v5), (6, .int v6)] → W p l e ({ frames := 2, cells := 0, slots := 0, locals := 42 } : Room) s m ([.ref (a 0), .int p1, .int p2, .int p3, .int p4] : List Value).toArray below meth c H locs 0 0 (MQ below (QW D (TY cI cV cJ cD) (W_Groups cI a res.1) A (some (.int res.2))) (([.ref (a 0), .int p1, .int p2, .int p3, .int p4] : List Value).toArray) s 0 0 A) (F0 m 57 ls []) := by
    intro x v1 v2 v3 v4 v5 v6 rec18 hrec18 H locs ls hf hP hD hS hl
    dsimp only [fX2_moveTo_57] at hf
    refine lv_iconst (v := 0) hx hb dX2_moveTo_57 (by decide) ?_
    exact L58 x v1 v2 v3 v4 v5 v6 0 rec18 hrec18 H locs ls hf hP hD hS (lv_sub hl [0, 1, 2, 3, 4, 5, 6] rfl)
  have S18 : ∀ (v1 : Int32) (v2 : Int32) (v3 : Int32) (v4 : Int32) (rec18 : GSt × Int32 × Int32 → Option (GSt × Int32)) (hrec18 : ∀ (x : GSt), ∀ (v5 : Int32), ∀ (v6 : Int32), ∀ (H : Heap) (locs : List Loc) (ls : Array Slot), rec18 (x, v5, v6) = some res → va_P D vwCl (W_Groups cI a x) H → va_D A (W_Groups cI a x) → va_S A s.heap H locs → lv_has ls 8 [(0, .ref (a 0)), (1, .int v1), (2, .int v2), (3, .int v3), (4, .int v4), (5, .int v5), (6, .int v6)] → W p l e ({ frames := 2, cells := 0, slots := 0, locals := 42 } : Room) s m ([.ref (a 0), .int p1, .int p2, .int p3, .int p4] : List Value).toArray below meth c H locs 0 0 (MQ below (QW D (TY cI cV cJ cD) (W_Groups cI a res.1) A (some (.int res.2))) (([.ref (a 0), .int p1, .int p2, .int p3, .int p4] : List Value).toArray) s 0 0 A) (F0 m 18 ls [])) (x : GSt) (v5 : Int32) (v6 : Int32) (H : Heap) (locs : List Loc) (ls : Array Slot), fX2_moveTo_18 v1 v2 v3 v4  rec18 (x, v5, v6) = some res → va_P D vwCl (W_Groups cI a x) H → va_D A (W_Groups cI a x) → va_S A s.heap H locs → lv_has ls 8 [(0, .ref (a 0)), (1, .int v1), (2, .int v2), (3, .int v3), (4, .int v4), (5, .int v5), (6, .int v6)] → W p l e ({ frames := 2, cells := 0, slots := 0, locals := 42 } : Room) s m ([.ref (a 0), .int p1, .int p2, .int p3, .int p4] : List Value).toArray below meth c H locs 0 0 (MQ below (QW D (TY cI cV cJ cD) (W_Groups cI a res.1) A (some (.int res.2))) (([.ref (a 0), .int p1, .int p2, .int p3, .int p4] : List Value).toArray) s 0 0 A) (F0 m 18 ls []) := by
    intro v1 v2 v3 v4 rec18 hrec18 x v5 v6 H locs ls hf hP hD hS hl
    dsimp only [fX2_moveTo_18] at hf
    refine lv_iload hx hb dX2_moveTo_18 (lv_at hl 6 rfl) ?_
    refine lv_iload_n hx hb dX2_moveTo_20 rfl (lv_at hl 1 rfl) ?_
    refine lv_iconst (v := 1) hx hb dX2_moveTo_21 (by decide) ?_
    refine lv_iadd hx hb dX2_moveTo_22 ?_
    refine lv_bipush (v := 40) hx hb dX2_moveTo_23 (by decide) ?_
    refine lv_imul hx hb dX2_moveTo_25 ?_
    refine lv_icmp_ge (tgt := 103) hx hb dX2_moveTo_26 (by decide) (fun c10 => ?_) (fun c10 => ?_)
    · replace hf := if_t c10 hf
      refine lv_iload hx hb dX2_moveTo_103 (lv_at hl 5 rfl) ?_
      obtain rfl := Option.some.inj hf
      exact W.iret (v := v5) hx hb hr (fun t ht hW => ⟨rfl, by rw [ht]; exact hP, va_K.moved hW.alike hK, hD, hS.F ht⟩) hS.2.2 dX2_moveTo_105 hlocks
    · replace hf := if_f c10 hf
      refine lv_aload_n hx hb dX2_moveTo_29 rfl (lv_at hl 0 rfl) ?_
      refine va_get (D := D) (ci := 1) (v := .ref (a 2)) (C := RX2) (T := TX2) (N := 2) hx hb hg in_X2 hown hK hP 0 rfl rfl 1 (by decide) (hg _ w122) (fun _ h9 => h9) rfl dX2_moveTo_30 ?_
      refine lv_iload hx hb dX2_moveTo_33 (lv_at hl 6 rfl) ?_
      obtain ⟨hi11, hf⟩ := chk_t hf
      refine va_iald hx hb hK hP 2 0 rfl rfl (inb_in hi11) dX2_moveTo_35 ?_
      refine lv_iconst (v := (-1)) hx hb dX2_moveTo_36 (by decide) ?_
      refine lv_icmp_eq (tgt := 57) hx hb dX2_moveTo_37 (by decide) (fun c12 => ?_) (fun c12 => ?_)
      · replace hf := if_t c12 hf
        exact L57 x v1 v2 v3 v4 v5 v6 rec18 hrec18 H locs ls hf hP hD hS (lv_sub hl [0, 1, 2, 3, 4, 5, 6] rfl)
      · replace hf := if_f c12 hf
        refine lv_aload_n hx hb dX2_moveTo_40 rfl (lv_at hl 0 rfl) ?_
        refine va_get (D := D) (ci := 1) (v := .ref (a 2)) (C := RX2) (T := TX2) (N := 2) hx hb hg in_X2 hown hK hP 0 rfl rfl 1 (by decide) (hg _ w122) (fun _ h9 => h9) rfl dX2_moveTo_41 ?_
        refine lv_iload hx hb dX2_moveTo_44 (lv_at hl 6 rfl) ?_
        obtain ⟨hi13, hf⟩ := chk_t hf
        refine va_iald hx hb hK hP 2 0 rfl rfl (inb_in hi13) dX2_moveTo_46 ?_
        refine lv_iconst (v := 4) hx hb dX2_moveTo_47 (by decide) ?_
        refine lv_irem hx hb dX2_moveTo_48 (by decide) ?_
        refine lv_iload_n hx hb dX2_moveTo_49 rfl (lv_at hl 2 rfl) ?_
        refine lv_icmp_eq (tgt := 57) hx hb dX2_moveTo_50 (by decide) (fun c14 => ?_) (fun c14 => ?_)
        · replace hf := if_t c14 hf
          exact L57 x v1 v2 v3 v4 v5 v6 rec18 hrec18 H locs ls hf hP hD hS (lv_sub hl [0, 1, 2, 3, 4, 5, 6] rfl)
        · replace hf := if_f c14 hf
          refine lv_iconst (v := 1) hx hb dX2_moveTo_53 (by decide) ?_
          refine lv_goto (tgt := 58) hx hb dX2_moveTo_54 (by decide) ?_
          exact L58 x v1 v2 v3 v4 v5 v6 1 rec18 hrec18 H locs ls hf hP hD hS (lv_sub hl [0, 1, 2, 3, 4, 5, 6] rfl)
  have L18 : ∀ (v1 : Int32) (v2 : Int32) (v3 : Int32) (v4 : Int32) (fu : Nat) (x : GSt) (v5 : Int32) (v6 : Int32) (H : Heap) (locs : List Loc) (ls : Array Slot), iterK fu (fX2_moveTo_18 v1 v2 v3 v4 ) (x, v5, v6) = some res → va_P D vwCl (W_Groups cI a x) H → va_D A (W_Groups cI a x) → va_S A s.heap H locs → lv_has ls 8 [(0, .ref (a 0)), (1, .int v1), (2, .int v2), (3, .int v3), (4, .int v4), (5, .int v5), (6, .int v6)] → W p l e ({ frames := 2, cells := 0, slots := 0, locals := 42 } : Room) s m ([.ref (a 0), .int p1, .int p2, .int p3, .int p4] : List Value).toArray below meth c H locs 0 0 (MQ below (QW D (TY cI cV cJ cD) (W_Groups cI a res.1) A (some (.int res.2))) (([.ref (a 0), .int p1, .int p2, .int p3, .int p4] : List Value).toArray) s 0 0 A) (F0 m 18 ls []) := by
    intro v1 v2 v3 v4 fu
    induction fu with
    | zero =>
      intro x v5 v6 H locs ls hf
      cases hf
    | succ fu ih =>
      intro x v5 v6 H locs ls hf hP hD hS hl
      exact S18 v1 v2 v3 v4 (iterK fu (fX2_moveTo_18 v1 v2 v3 v4 )) ih x v5 v6 H locs ls hf hP hD hS hl
  have M0 : ∀ (H : Heap) (locs : List Loc) (ls : Array Slot), fX2_moveTo x p1 p2 p3 p4 = some res → va_P D vwCl (W_Groups cI a x) H → va_D A (W_Groups cI a x) → va_S A s.heap H locs → lv_has ls 8 [(0, .ref (a 0)), (1, .int p1), (2, .int p2), (3, .int p3), (4, .int p4)] → W p l e ({ frames := 2, cells := 0, slots := 0, locals := 42 } : Room) s m ([.ref (a 0), .int p1, .int p2, .int p3, .int p4] : List Value).toArray below meth c H locs 0 0 (MQ below (QW D (TY cI cV cJ cD) (W_Groups cI a res.1) A (some (.int res.2))) (([.ref (a 0), .int p1, .int p2, .int p3, .int p4] : List Value).toArray) s 0 0 A) (F0 m 0 ls []) := by
    intro H locs ls hf hP hD hS hl
    dsimp only [fX2_moveTo] at hf
    refine lv_iload_n hx hb dX2_moveTo_0 rfl (lv_at hl 1 rfl) ?_
    obtain ⟨u15, hc16, hf⟩ := bind_t hf
    refine k_SN (host := "Compactforms") (As := [.int p1]) (rest := []) (n := 1) ⟨hx, hb, hml, hown, hts⟩ (met_X7_isGroup l p1 u15 hc16) (hE.1.2.1 _ (List.mem_of_getElem? (i := 8) rfl)) w550 w1 w551 ⟨by decide +kernel, by decide +kernel, by decide +kernel⟩ ⟨Nat.le_of_ble_eq_true rfl, Nat.le_of_ble_eq_true rfl⟩ hK hE hP hD hS hA (isC := []) (isR := [0, 1, 2]) (isB := [0, 1, 2]) (ws' := W_Groups cI a x) ⟨([0, 1, 2] : List Nat).filterMap (fun i : Nat => (W_Groups cI a x : va_W)[i]?), rfl, rfl, rfl, rfl, by decide, rfl, rfl⟩ rfl hl.1 rfl (Nat.le_of_ble_eq_true rfl) dX2_moveTo_1 ⟨Nat.le_of_ble_eq_true rfl, Nat.le_of_ble_eq_true rfl⟩ (fun H locs hP hD hS => ?_)
    try dsimp only at hf
    refine W.eq (g2 := F0 m 4 ls [.int u15]) rfl ?_
    refine lv_if_ne (tgt := 9) hx hb dX2_moveTo_4 (by decide) (fun c17 => ?_) (fun c17 => ?_)
    · replace hf := if_f c17 hf
      refine lv_iconst (v := 0) hx hb dX2_moveTo_9 (by decide) ?_
      refine lv_istore (lv' := [(5, .int 0), (0, .ref (a 0)), (1, .int p1), (2, .int p2), (3, .int p3), (4, .int p4)]) hx hb dX2_moveTo_10 hl (by decide) rfl (fun ls hl => ?_)
      refine lv_iload_n hx hb dX2_moveTo_12 rfl (lv_at hl 2 rfl) ?_
      refine lv_bipush (v := 40) hx hb dX2_moveTo_13 (by decide) ?_
      refine lv_imul hx hb dX2_moveTo_15 ?_
      refine lv_topi (fun y18 hy18 => ?_)
      replace hf := keep_e hf y18 hy18
      refine lv_istore (lv' := [(6, .int y18), (5, .int 0), (0, .ref (a 0)), (1, .int p1), (2, .int p2), (3, .int p3), (4, .int p4)]) hx hb dX2_moveTo_16 hl (by decide) rfl (fun ls hl => ?_)
      exact L18 p1 p2 p3 p4 FU x 0 y18 H locs ls hf hP hD hS (lv_sub hl [2, 3, 4, 5, 6, 1, 0] rfl)
    · replace hf := if_t c17 hf
      refine lv_iconst (v := 0) hx hb dX2_moveTo_7 (by decide) ?_
      obtain rfl := Option.some.inj hf
      exact W.iret (v := 0) hx hb hr (fun t ht hW => ⟨rfl, by rw [ht]; exact hP, va_K.moved hW.alike hK, hD, hS.F ht⟩) hS.2.2 dX2_moveTo_8 hlocks
  exact M0 s.heap [] ls hf hP hD hS hl
/-! Compactforms$Groups.countWaiting(II)I -/
def fX2_countWaiting_17 (x : GSt) (v1 : Int32) (v2 : Int32) (rec17 : Int32 × Int32 → Option (Int32)) (s : Int32 × Int32) : Option (Int32) := match s with | (v3, v4) => (if ((v1 + 1) * 40) ≤ v4 then some v3 else chk (inb v4 120) ((if ((gsW x) (v4).toNatClampNeg) = (-1) then keep (v4 + 1) (fun y4 => rec17 (v3, y4)) else chk (inb v4 120) ((if (((gsW x) (v4).toNatClampNeg) - ((gsW x) (v4).toNatClampNeg) / 4 * 4) = v2 then keep (v3 + 1) (fun y8 => keep (v4 + 1) (fun y9 => rec17 (y8, y9))) else keep (v4 + 1) (fun y7 => rec17 (v3, y7)))))))
def fX2_countWaiting (x : GSt) (p1 : Int32) (p2 : Int32) : Option (Int32) := (fX7_isGroup p1).bind (fun u10 => (if u10 = 0 then some 0 else keep (p1 * 40) (fun y13 => iterK FU (fX2_countWaiting_17 x p1 p2) (0, y13))))
set_option maxHeartbeats 4000000 in
set_option maxRecDepth 100000 in
theorem met_X2_countWaiting {D : va_G} {cI cV cJ cD : ClassId} (l : Launch) (a : Nat → Nat) (x : GSt) (p1 : Int32) (p2 : Int32) (res : Int32) (hf : fX2_countWaiting x p1 p2 = some res) : MM l yX2_countWaiting cX2_countWaiting 5 (some .int) { frames := 2, cells := 0, slots := 0, locals := 42 } D (TY cI cV cJ cD) (W_Groups cI a x) (W_Groups cI a x) [.ref (a 0), .int p1, .int p2] (some (.int res)) := by
  intro sz
  refine Met.ofW (cc := cX2_countWaiting) (maxL := 5) (ret := (some .int)) (by decide +kernel) rfl ?_
  intro p e s m args below meth c s₁ B hml hv
  obtain ⟨rfl, hsz, hP, hK, hD0, hE⟩ := hv
  have hx := B.exec
  have hb := B.bytes
  have hr := B.returns
  have hts := atoms_spec (ws := .code yX2_countWaiting cX2_countWaiting 5 (some .int) :: GW) B.pre
  have hg : ∀ w ∈ GW, w.before (([.ref (a 0), .int p1, .int p2] : List Value).toArray) s = true := fun w h => hts w (List.mem_cons_of_mem _ h)
  have hown : s.vm.findClass RX2 = some m.cls := findClass_of_methodNamed B.named
  have hlocks := B.notSynchronized
  subst hsz
  have hD := hD0.self (sz := s.heap.size)
  generalize hAe : va_A (W_Groups cI a x) s.heap.size = A at hD hE ⊢
  have hA : ∀ q : Nat, s.heap.size ≤ q → A q := fun q h => by rw [← hAe]; exact Or.inr h
  have hS : va_S A s.heap s.heap [] := va_S.rf
  have hl := lv_entry ([.ref (a 0), .int p1, .int p2]) (n := 5) (Nat.le_of_ble_eq_true rfl)
  rw [lg_entry_eq]
  generalize (lg_sl ([.ref (a 0), .int p1, .int p2]) ++ List.replicate (5 - (lg_sl ([.ref (a 0), .int p1, .int p2])).length) Slot.unset).toArray = ls at hl ⊢
  have hl : lv_has ls 5 [(0, .ref (a 0)), (1, .int p1), (2, .int p2)] := hl
  have S17 : ∀ (x : GSt) (v1 : Int32) (v2 : Int32) (rec17 : Int32 × Int32 → Option (Int32)) (hrec17 : ∀ (v3 : Int32), ∀ (v4 : Int32), ∀ (H : Heap) (locs : List Loc) (ls : Array Slot), rec17 (v3, v4) = some res → va_P D vwCl (W_Groups cI a x) H → va_D A (W_Groups cI a x) → va_S A s.heap H locs → lv_has ls 5 [(0, .ref (a 0)), (1, .int v1), (2, .int v2), (3, .int v3), (4, .int v4)] → W p l e ({ frames := 2, cells := 0, slots := 0, locals := 42 } : Room) s m ([.ref (a 0), .int p1, .int p2] : List Value).toArray below meth c H locs 0 0 (MQ below (QW D (TY cI cV cJ cD) (W_Groups cI a x) A (some (.int res))) (([.ref (a 0), .int p1, .int p2] : List Value).toArray) s 0 0 A) (F0 m 17 ls [])) (v3 : Int32) (v4 : Int32) (H : Heap) (locs : List Loc) (ls : Array Slot), fX2_countWaiting_17 x v1 v2  rec17 (v3, v4) = some res → va_P D vwCl (W_Groups cI a x) H → va_D A (W_Groups cI a x) → va_S A s.heap H locs → lv_has ls 5 [(0, .ref (a 0)), (1, .int v1), (2, .int v2), (3, .int v3), (4, .int v4)] → W p l e ({ frames := 2, cells := 0, slots := 0, locals := 42 } : Room) s m ([.ref (a 0), .int p1, .int p2] : List Value).toArray below meth c H locs 0 0 (MQ below (QW D (TY cI cV cJ cD) (W_Groups cI a x) A (some (.int res))) (([.ref (a 0), .int p1, .int p2] : List Value).toArray) s 0 0 A) (F0 m 17 ls []) := by
    intro x v1 v2 rec17 hrec17 v3 v4 H locs ls hf hP hD hS hl
    dsimp only [fX2_countWaiting_17] at hf
    refine lv_iload hx hb dX2_countWaiting_17 (lv_at hl 4 rfl) ?_
    refine lv_iload_n hx hb dX2_countWaiting_19 rfl (lv_at hl 1 rfl) ?_
    refine lv_iconst (v := 1) hx hb dX2_countWaiting_20 (by decide) ?_
    refine lv_iadd hx hb dX2_countWaiting_21 ?_
    refine lv_bipush (v := 40) hx hb dX2_countWaiting_22 (by decide) ?_
    refine lv_imul hx hb dX2_countWaiting_24 ?_
    refine lv_icmp_ge (tgt := 61) hx hb dX2_countWaiting_25 (by decide) (fun c1 => ?_) (fun c1 => ?_)
    · replace hf := if_t c1 hf
      refine lv_iload_n hx hb dX2_countWaiting_61 rfl (lv_at hl 3 rfl) ?_
      obtain rfl := Option.some.inj hf
      exact W.iret (v := v3) hx hb hr (fun t ht hW => ⟨rfl, by rw [ht]; exact hP, va_K.moved hW.alike hK, hD, hS.F ht⟩) hS.2.2 dX2_countWaiting_62 hlocks
    · replace hf := if_f c1 hf
      refine lv_aload_n hx hb dX2_countWaiting_28 rfl (lv_at hl 0 rfl) ?_
      refine va_get (D := D) (ci := 1) (v := .ref (a 2)) (C := RX2) (T := TX2) (N := 2) hx hb hg in_X2 hown hK hP 0 rfl rfl 1 (by decide) (hg _ w122) (fun _ h9 => h9) rfl dX2_countWaiting_29 ?_
      refine lv_iload hx hb dX2_countWaiting_32 (lv_at hl 4 rfl) ?_
      obtain ⟨hi2, hf⟩ := chk_t hf
      refine va_iald hx hb hK hP 2 0 rfl rfl (inb_in hi2) dX2_countWaiting_34 ?_
      refine lv_iconst (v := (-1)) hx hb dX2_countWaiting_35 (by decide) ?_
      refine lv_icmp_eq (tgt := 55) hx hb dX2_countWaiting_36 (by decide) (fun c3 => ?_) (fun c3 => ?_)
      · replace hf := if_t c3 hf
        obtain ⟨y4, hy4⟩ : ∃ z : Int32, z = (v4 + 1) := ⟨_, rfl⟩
        replace hf := keep_e hf y4 hy4
        refine lv_iinc (v := y4) (lv' := [(4, .int y4), (0, .ref (a 0)), (1, .int v1), (2, .int v2), (3, .int v3)]) hx hb dX2_countWaiting_55 hl (k := 4) rfl (by rw [hy4]; rfl) (by decide) rfl (fun ls hl => ?_)
        refine lv_goto (tgt := 17) hx hb dX2_countWaiting_58 (by decide) ?_
        exact hrec17 v3 y4 H locs ls hf hP hD hS (lv_sub hl [1, 2, 3, 4, 0] rfl)
      · replace hf := if_f c3 hf
        refine lv_aload_n hx hb dX2_countWaiting_39 rfl (lv_at hl 0 rfl) ?_
        refine va_get (D := D) (ci := 1) (v := .ref (a 2)) (C := RX2) (T := TX2) (N := 2) hx hb hg in_X2 hown hK hP 0 rfl rfl 1 (by decide) (hg _ w122) (fun _ h9 => h9) rfl dX2_countWaiting_40 ?_
        refine lv_iload hx hb dX2_countWaiting_43 (lv_at hl 4 rfl) ?_
        obtain ⟨hi5, hf⟩ := chk_t hf
        refine va_iald hx hb hK hP 2 0 rfl rfl (inb_in hi5) dX2_countWaiting_45 ?_
        refine lv_iconst (v := 4) hx hb dX2_countWaiting_46 (by decide) ?_
        refine lv_irem hx hb dX2_countWaiting_47 (by decide) ?_
        refine lv_iload_n hx hb dX2_countWaiting_48 rfl (lv_at hl 2 rfl) ?_
        refine lv_icmp_ne (tgt := 55) hx hb dX2_countWaiting_49 (by decide) (fun c6 => ?_) (fun c6 => ?_)
        · replace hf := if_f c6 hf
          obtain ⟨y7, hy7⟩ : ∃ z : Int32, z = (v4 + 1) := ⟨_, rfl⟩
          replace hf := keep_e hf y7 hy7
          refine lv_iinc (v := y7) (lv' := [(4, .int y7), (0, .ref (a 0)), (1, .int v1), (2, .int v2), (3, .int v3)]) hx hb dX2_countWaiting_55 hl (k := 4) rfl (by rw [hy7]; rfl) (by decide) rfl (fun ls hl => ?_)
          refine lv_goto (tgt := 17) hx hb dX2_countWaiting_58 (by decide) ?_
          exact hrec17 v3 y7 H locs ls hf hP hD hS (lv_sub hl [1, 2, 3, 4, 0] rfl)
        · replace hf := if_t c6 hf
          obtain ⟨y8, hy8⟩ : ∃ z : Int32, z = (v3 + 1) := ⟨_, rfl⟩
          replace hf := keep_e hf y8 hy8
          refine lv_iinc (v := y8) (lv' := [(3, .int y8), (0, .ref (a 0)), (1, .int v1), (2, .int v2), (4, .int v4)]) hx hb dX2_countWaiting_52 hl (k := 3) rfl (by rw [hy8]; rfl) (by decide) rfl (fun ls hl => ?_)
          obtain ⟨y9, hy9⟩ : ∃ z : Int32, z = (v4 + 1) := ⟨_, rfl⟩
          replace hf := keep_e hf y9 hy9
          refine lv_iinc (v := y9) (lv' := [(4, .int y9), (3, .int y8), (0, .ref (a 0)), (1, .int v1), (2, .int v2)]) hx hb dX2_countWaiting_55 hl (k := 4) rfl (by rw [hy9]; rfl) (by decide) rfl (fun ls hl => ?_)
          refine lv_goto (tgt := 17) hx hb dX2_countWaiting_58 (by decide) ?_
          exact hrec17 y8 y9 H locs ls hf hP hD hS (lv_sub hl [2, 3, 4, 1, 0] rfl)
  have L17 : ∀ (x : GSt) (v1 : Int32) (v2 : Int32) (fu : Nat) (v3 : Int32) (v4 : Int32) (H : Heap) (locs : List Loc) (ls : Array Slot), iterK fu (fX2_countWaiting_17 x v1 v2 ) (v3, v4) = some res → va_P D vwCl (W_Groups cI a x) H → va_D A (W_Groups cI a x) → va_S A s.heap H locs → lv_has ls 5 [(0, .ref (a 0)), (1, .int v1), (2, .int v2), (3, .int v3), (4, .int v4)] → W p l e ({ frames := 2, cells := 0, slots := 0, locals := 42 } : Room) s m ([.ref (a 0), .int p1, .int p2] : List Value).toArray below meth c H locs 0 0 (MQ below (QW D (TY cI cV cJ cD) (W_Groups cI a x) A (some (.int res))) (([.ref (a 0), .int p1, .int p2] : List Value).toArray) s 0 0 A) (F0 m 17 ls []) := by
    intro x v1 v2 fu
    induction fu with
    | zero =>
      intro v3 v4 H locs ls hf
      cases hf
    | succ fu ih =>
      intro v3 v4 H locs ls hf hP hD hS hl
      exact S17 x v1 v2 (iterK fu (fX2_countWaiting_17 x v1 v2 )) ih v3 v4 H locs ls hf hP hD hS hl
  have M0 : ∀ (H : Heap) (locs : List Loc) (ls : Array Slot), fX2_countWaiting x p1 p2 = some res → va_P D vwCl (W_Groups cI a x) H → va_D A (W_Groups cI a x) → va_S A s.heap H locs → lv_has ls 5 [(0, .ref (a 0)), (1, .int p1), (2, .int p2)] → W p l e ({ frames := 2, cells := 0, slots := 0, locals := 42 } : Room) s m ([.ref (a 0), .int p1, .int p2] : List Value).toArray below meth c H locs 0 0 (MQ below (QW D (TY cI cV cJ cD) (W_Groups cI a x) A (some (.int res))) (([.ref (a 0), .int p1, .int p2] : List Value).toArray) s 0 0 A) (F0 m 0 ls []) := by
    intro H locs ls hf hP hD hS hl
    dsimp only [fX2_countWaiting] at hf
    refine lv_iload_n hx hb dX2_countWaiting_0 rfl (lv_at hl 1 rfl) ?_
    obtain ⟨u10, hc11, hf⟩ := bind_t hf
    refine k_SN (host := "Compactforms") (As := [.int p1]) (rest := []) (n := 1) ⟨hx, hb, hml, hown, hts⟩ (met_X7_isGroup l p1 u10 hc11) (hE.1.2.1 _ (List.mem_of_getElem? (i := 8) rfl)) w550 w1 w551 ⟨by decide +kernel, by decide +kernel, by decide +kernel⟩ ⟨Nat.le_of_ble_eq_true rfl, Nat.le_of_ble_eq_true rfl⟩ hK hE hP hD hS hA (isC := []) (isR := [0, 1, 2]) (isB := [0, 1, 2]) (ws' := W_Groups cI a x) ⟨([0, 1, 2] : List Nat).filterMap (fun i : Nat => (W_Groups cI a x : va_W)[i]?), rfl, rfl, rfl, rfl, by decide, rfl, rfl⟩ rfl hl.1 rfl (Nat.le_of_ble_eq_true rfl) dX2_countWaiting_1 ⟨Nat.le_of_ble_eq_true rfl, Nat.le_of_ble_eq_true rfl⟩ (fun H locs hP hD hS => ?_)
    try dsimp only at hf
    refine W.eq (g2 := F0 m 4 ls [.int u10]) rfl ?_
    refine lv_if_ne (tgt := 9) hx hb dX2_countWaiting_4 (by decide) (fun c12 => ?_) (fun c12 => ?_)
    · replace hf := if_f c12 hf
      refine lv_iconst (v := 0) hx hb dX2_countWaiting_9 (by decide) ?_
      refine lv_istore_n (lv' := [(3, .int 0), (0, .ref (a 0)), (1, .int p1), (2, .int p2)]) hx hb dX2_countWaiting_10 rfl hl (by decide) rfl (fun ls hl => ?_)
      refine lv_iload_n hx hb dX2_countWaiting_11 rfl (lv_at hl 2 rfl) ?_
      refine lv_bipush (v := 40) hx hb dX2_countWaiting_12 (by decide) ?_
      refine lv_imul hx hb dX2_countWaiting_14 ?_
      refine lv_topi (fun y13 hy13 => ?_)
      replace hf := keep_e hf y13 hy13
      refine lv_istore (lv' := [(4, .int y13), (3, .int 0), (0, .ref (a 0)), (1, .int p1), (2, .int p2)]) hx hb dX2_countWaiting_15 hl (by decide) rfl (fun ls hl => ?_)
      exact L17 x p1 p2 FU 0 y13 H locs ls hf hP hD hS (lv_sub hl [2, 3, 4, 1, 0] rfl)
    · replace hf := if_t c12 hf
      refine lv_iconst (v := 0) hx hb dX2_countWaiting_7 (by decide) ?_
      obtain rfl := Option.some.inj hf
      exact W.iret (v := 0) hx hb hr (fun t ht hW => ⟨rfl, by rw [ht]; exact hP, va_K.moved hW.alike hK, hD, hS.F ht⟩) hS.2.2 dX2_countWaiting_8 hlocks
  exact M0 s.heap [] ls hf hP hD hS hl

abbrev OL : Type := Nat → Int64
abbrev OD : Type := Nat → UInt64
def W_Fx (cI cV : ClassId) (vf : Nat → Option Nat) (a : Nat → Nat) (lp np : Nat) (x : FSt) : va_W := [(a 0, .inr (6, [.ref (a 1), .ref (a lp), .ref (a np), .int (fRar x), .int (fKtw x), .int (fClk x), .int (fLs x), .int (fLvi x)])), (a 1, .inl (cV, 16, .inr (.inr (.inr (.inr vf))))), (a 2, .inr (2, [.ref (a 3), .int (loN (fLog x))])), (a 3, .inl (cI, 2100, .inl (loC (fLog x)))), (a 4, .inr (2, [.ref (a 5), .int (loN (fNew x))])), (a 5, .inl (cI, 2100, .inl (loC (fNew x)))), (a 6, .inr (5, [.int (vlHeld (fV x)), .int (vlTyp (fV x)), .int (vlEnd (fV x)), .int (vlId (fV x)), .ref (a 7), .ref (a 10), .ref (a 14), .ref (a 18), .ref (a 21), .ref (a (6 + (vlFm (fV x))))])), (a 7, .inr (3, [.ref (a 8), .ref (a 9), .int (rwN (vlSm (fV x)))])), (a 8, .inl (cI, 16, .inl (rwE (vlSm (fV x))))), (a 9, .inl (cI, 16, .inl (rwP (vlSm (fV x))))), (a 10, .inr (0, [.ref (a 11), .ref (a 12), .ref (a 13), .int (chH (vlCh (fV x))), .int (chS (vlCh (fV x)))])), (a 11, .inl (cI, 40, .inl (chE (vlCh (fV x))))), (a 12, .inl (cI, 40, .inl (chP (vlCh (fV x))))), (a 13, .inl (cI, 40, .inl (chX (vlCh (fV x))))), (a 14, .inr (4, [.ref (a 15), .ref (a 16), .ref (a 17), .int (tbB (vlTb (fV x))), .int (tbC (vlTb (fV x)))])), (a 15, .inl (cI, 64, .inl (tbH (vlTb (fV x))))), (a 16, .inl (cI, 40, .inl (tbM (vlTb (fV x))))), (a 17, .inl (cI, 40, .inl (tbX (vlTb (fV x))))), (a 18, .inr (3, [.ref (a 19), .ref (a 20), .int (rwN (vlPl (fV x)))])), (a 19, .inl (cI, 40, .inl (rwE (vlPl (fV x))))), (a 20, .inl (cI, 40, .inl (rwP (vlPl (fV x))))), (a 21, .inr (1, [.ref (a 22), .ref (a 23)])), (a 22, .inl (cI, 3, .inl (gsP (vlGr (fV x))))), (a 23, .inl (cI, 120, .inl (gsW (vlGr (fV x)))))]
def MXW (l : Launch) (y : MethodName) (b : ByteArray) (ml : Nat) (ret : Option FieldType) (hh : List (Nat × Nat × Nat × Nat)) (rm : Room) (D : va_G) (tys : List (ClassId × FieldType)) (W W' : va_W) (av : List Value) (rs : Option Value ⊕ String) : Prop :=
  ∀ sz, vx_Met l y (.codeWith y b ml ret hh :: GW) rm (va_Pc av (PW D tys W sz)) (QR D tys W' (va_A W sz) rs) (XR D tys W' (va_A W sz) rs) rm.cells rm.slots (va_A W sz)
/-! Compactforms.writeOn(I)I -/
def fX7_writeOn (k : Nat) (x : FSt) (p1 : Int32) : Option (FSt × Nat × (Int32 ⊕ Nat)) := (fX7_needWithin p1 1 16).bind (fun u1 => thr u1 (fun k3 => some (x, 2, .inr k3)) (fun r4 => (if (fKtw x) = (-1) then some (x, 2, .inr 2) else (if (fKtw x) ≤ p1 then (fX3_copyRows ((fNew x), (fLog x)) (fRar x) ((loN (fLog x)) - (fRar x))).bind (fun u8 => keep (fLog_s (fNew_s x u8.1) u8.2) (fun x10 => keep (fKtw_s x10 (-1)) (fun x11 => some (x11, 4, (.inl 0))))) else keep (fKtw_s x ((fKtw x) - p1)) (fun x12 => some (x12, 2, (.inl (fKtw x12))))))))
set_option maxHeartbeats 4000000 in
set_option maxRecDepth 100000 in
theorem met_X7_writeOn {D : va_G} {cI cV cJ cD : ClassId} (l : Launch) (hlt : l.stackTraces = false) (k : Nat) (vf : Nat → Option Nat) (a : Nat → Nat) (hvf : vf k = some (a 6)) (x : FSt) (p1 : Int32) (res : FSt × Nat × (Int32 ⊕ Nat)) (hf : fX7_writeOn k x p1 = some res) : MX l yX7_writeOn cX7_writeOn 3 (some .int) { frames := 7, cells := 2, slots := 12, locals := 122 } D (TY cI cV cJ cD) (W_Fx cI cV vf a 2 4 x) (W_Fx cI cV vf a res.2.1 (6 - res.2.1) res.1) [.ref (a 0), .int p1] (rsI res.2.2) := by
  intro sz
  refine vx_ofW (cc := cX7_writeOn) (maxL := 3) (ret := (some .int)) (by decide +kernel) rfl ?_
  intro p e s m args below meth c s₁ B hml htab hv
  obtain ⟨rfl, hsz, hP, hK, hD0, hE⟩ := hv
  have hx := B.exec
  have hb := B.bytes
  have hr := B.returns
  have hts := atoms_spec (ws := .code yX7_writeOn cX7_writeOn 3 (some .int) :: GW) B.pre
  have hg : ∀ w ∈ GW, w.before (([.ref (a 0), .int p1] : List Value).toArray) s = true := fun w h => hts w (List.mem_cons_of_mem _ h)
  have hown : s.vm.findClass RX7 = some m.cls := findClass_of_methodNamed B.named
  have hlocks := B.notSynchronized
  subst hsz
  have hD := hD0.self (sz := s.heap.size)
  generalize hAe : va_A (W_Fx cI cV vf a 2 4 x) s.heap.size = A at hD hE ⊢
  have hA : ∀ q : Nat, s.heap.size ≤ q → A q := fun q h => by rw [← hAe]; exact Or.inr h
  have hS : va_S A s.heap s.heap [] := va_S.rf
  have hl := lv_entry ([.ref (a 0), .int p1]) (n := 3) (Nat.le_of_ble_eq_true rfl)
  rw [lg_entry_eq]
  generalize (lg_sl ([.ref (a 0), .int p1]) ++ List.replicate (3 - (lg_sl ([.ref (a 0), .int p1])).length) Slot.unset).toArray = ls at hl ⊢
  have hl : lv_has ls 3 [(0, .ref (a 0)), (1, .int p1)] := hl
  have M0 : ∀ (H : Heap) (locs : List Loc) (ls : Array Slot), fX7_writeOn k x p1 = some res → va_P D vwCl (W_Fx cI cV vf a 2 4 x) H → va_D A (W_Fx cI cV vf a 2 4 x) → va_S A s.heap H locs → lv_has ls 3 [(0, .ref (a 0)), (1, .int p1)] → W p l e ({ frames := 7, cells := 2, slots := 12, locals := 122 } : Room) s m ([.ref (a 0), .int p1] : List Value).toArray below meth c H locs 0 0 (vx_MQ below (QR D (TY cI cV cJ cD) (W_Fx cI cV vf a res.2.1 (6 - res.2.1) res.1) A (rsI res.2.2)) (XR D (TY cI cV cJ cD) (W_Fx cI cV vf a res.2.1 (6 - res.2.1) res.1) A (rsI res.2.2)) (([.ref (a 0), .int p1] : List Value).toArray) s 2 12 A) (F0 m 0 ls []) := by
    intro H locs ls hf hP hD hS hl
    dsimp only [fX7_writeOn] at hf
    refine lv_iload_n hx hb dX7_writeOn_0 rfl (lv_at hl 1 rfl) ?_
    refine lv_iconst (v := 1) hx hb dX7_writeOn_1 (by decide) ?_
    refine lv_bipush (v := 16) hx hb dX7_writeOn_2 (by decide) ?_
    obtain ⟨u1, hc2, hf⟩ := bind_t hf
    refine k_SX (As := [.int p1, .int 1, .int 16]) (rest := []) (n := 3) ⟨hx, hb, hml, hown, hts⟩ (met_X7_needWithin l hlt p1 1 16 u1 hc2) w317 w318 w1 w319 ⟨by decide +kernel, by decide +kernel, by decide +kernel⟩ ⟨Nat.le_of_ble_eq_true rfl, Nat.le_of_ble_eq_true rfl⟩ hK hE hP hD hS hA (isC := []) (isR := [0, 1, 2, 3, 4, 5, 6, 7, 8, 9, 10, 11, 12, 13, 14, 15, 16, 17, 18, 19, 20, 21, 22, 23]) (isB := [0, 1, 2, 3, 4, 5, 6, 7, 8, 9, 10, 11, 12, 13, 14, 15, 16, 17, 18, 19, 20, 21, 22, 23]) (ws' := W_Fx cI cV vf a 2 4 x) ⟨([0, 1, 2, 3, 4, 5, 6, 7, 8, 9, 10, 11, 12, 13, 14, 15, 16, 17, 18, 19, 20, 21, 22, 23] : List Nat).filterMap (fun i : Nat => (W_Fx cI cV vf a 2 4 x : va_W)[i]?), rfl, rfl, rfl, rfl, by decide, rfl, rfl⟩ rfl hl.1 rfl (Nat.le_of_ble_eq_true rfl) dX7_writeOn_4 ⟨Nat.le_of_ble_eq_true rfl, Nat.le_of_ble_eq_true rfl⟩ (fun E ce q9 H locs h5 hP hD hS hce hcv hcl => ?_) (fun rv9 H locs h5 hP hD hS => ?_)
    · obtain ⟨k3, hq9, hE9⟩ := rsV_x h5
      replace hf := thr_x hf hq9
      obtain rfl := Option.some.inj hf
      exact k_out htab hlocks hce hcv hcl (by rw [hE9]; rfl) hK hP hD hS (Nat.le_of_ble_eq_true rfl) (Nat.le_of_ble_eq_true rfl)
    obtain ⟨r4, hq9, rfl⟩ := rsV_v h5
    replace hf := thr_v hf hq9
    refine W.eq (g2 := F0 m 7 ls []) rfl ?_
    refine lv_aload_n hx hb dX7_writeOn_7 rfl (lv_at hl 0 rfl) ?_
    refine va_get (D := D) (ci := 6) (v := .int (fKtw x)) (C := RX7) (T := TX7) (N := 8) hx hb hg in_X7 hown hK hP 0 rfl rfl 4 (by decide) (hg _ w171) (fun _ h9 => h9) rfl dX7_writeOn_8 ?_
    refine lv_iconst (v := (-1)) hx hb dX7_writeOn_11 (by decide) ?_
    refine lv_icmp_ne (tgt := 25) hx hb dX7_writeOn_12 (by decide) (fun c6 => ?_) (fun c6 => ?_)
    · replace hf := if_f c6 hf
      refine lv_aload_n hx hb dX7_writeOn_25 rfl (lv_at hl 0 rfl) ?_
      refine va_get (D := D) (ci := 6) (v := .int (fKtw x)) (C := RX7) (T := TX7) (N := 8) hx hb hg in_X7 hown hK hP 0 rfl rfl 4 (by decide) (hg _ w171) (fun _ h9 => h9) rfl dX7_writeOn_26 ?_
      refine lv_iload_n hx hb dX7_writeOn_29 rfl (lv_at hl 1 rfl) ?_
      refine lv_icmp_le (tgt := 48) hx hb dX7_writeOn_30 (by decide) (fun c7 => ?_) (fun c7 => ?_)
      · replace hf := if_t c7 hf
        refine lv_aload_n hx hb dX7_writeOn_48 rfl (lv_at hl 0 rfl) ?_
        refine va_get (D := D) (ci := 6) (v := .ref (a 4)) (C := RX7) (T := TX7) (N := 8) hx hb hg in_X7 hown hK hP 0 rfl rfl 2 (by decide) (hg _ w169) (fun _ h9 => h9) rfl dX7_writeOn_49 ?_
        refine lv_aload_n hx hb dX7_writeOn_52 rfl (lv_at hl 0 rfl) ?_
        refine va_get (D := D) (ci := 6) (v := .ref (a 2)) (C := RX7) (T := TX7) (N := 8) hx hb hg in_X7 hown hK hP 0 rfl rfl 1 (by decide) (hg _ w168) (fun _ h9 => h9) rfl dX7_writeOn_53 ?_
        refine lv_aload_n hx hb dX7_writeOn_56 rfl (lv_at hl 0 rfl) ?_
        refine va_get (D := D) (ci := 6) (v := .int (fRar x)) (C := RX7) (T := TX7) (N := 8) hx hb hg in_X7 hown hK hP 0 rfl rfl 3 (by decide) (hg _ w170) (fun _ h9 => h9) rfl dX7_writeOn_57 ?_
        refine lv_aload_n hx hb dX7_writeOn_60 rfl (lv_at hl 0 rfl) ?_
        refine va_get (D := D) (ci := 6) (v := .ref (a 2)) (C := RX7) (T := TX7) (N := 8) hx hb hg in_X7 hown hK hP 0 rfl rfl 1 (by decide) (hg _ w168) (fun _ h9 => h9) rfl dX7_writeOn_61 ?_
        refine va_getN (D := D) (ci := 2) (v := .int (loN (fLog x))) (C := RX3) (T := TX3) (N := 2) hx hb hg in_X3 hown hK hP 2 rfl rfl 1 (by decide) (nwF_123 hE.1) (fun _ h9 => h9) rfl dX7_writeOn_64 ?_
        refine lv_aload_n hx hb dX7_writeOn_67 rfl (lv_at hl 0 rfl) ?_
        refine va_get (D := D) (ci := 6) (v := .int (fRar x)) (C := RX7) (T := TX7) (N := 8) hx hb hg in_X7 hown hK hP 0 rfl rfl 3 (by decide) (hg _ w170) (fun _ h9 => h9) rfl dX7_writeOn_68 ?_
        refine lv_isub hx hb dX7_writeOn_71 ?_
        obtain ⟨u8, hc9, hf⟩ := bind_t hf
        refine k_V (As := [.ref (a 2), .int (fRar x), .int ((loN (fLog x)) - (fRar x))]) (rest := []) (n := 3) ⟨hx, hb, hml, hown, hts⟩ (met_X3_copyRows l (fun j => match j with | 0 => a 4 | 1 => a 5 | 2 => a 2 | _ => a 3) ((fNew x), (fLog x)) (fRar x) ((loN (fLog x)) - (fRar x)) u8 hc9) w640 w641 w642 w2 w643 ⟨rfl, by decide +kernel, by decide +kernel, by decide +kernel⟩ ⟨Nat.le_of_ble_eq_true rfl, Nat.le_of_ble_eq_true rfl⟩ hK hE hP hD hS hA (isC := [4, 5, 2, 3]) (isR := [0, 1, 6, 7, 8, 9, 10, 11, 12, 13, 14, 15, 16, 17, 18, 19, 20, 21, 22, 23]) (isB := [0, 1, 22, 23, 20, 21, 2, 3, 4, 5, 6, 7, 8, 9, 10, 11, 12, 13, 14, 15, 16, 17, 18, 19]) (ws' := W_Fx cI cV vf a 2 4 (fLog_s (fNew_s x u8.1) u8.2)) ⟨([0, 1, 6, 7, 8, 9, 10, 11, 12, 13, 14, 15, 16, 17, 18, 19, 20, 21, 22, 23] : List Nat).filterMap (fun i : Nat => (W_Fx cI cV vf a 2 4 x : va_W)[i]?), rfl, rfl, rfl, rfl, by decide, rfl, rfl⟩ 4 2 rfl rfl rfl rfl hl.1 rfl (Nat.le_of_ble_eq_true rfl) dX7_writeOn_72 ⟨Nat.le_of_ble_eq_true rfl, Nat.le_of_ble_eq_true rfl⟩ (fun H locs hP hD hS => ?_)
        try dsimp only at hf
        refine W.eq (g2 := F0 m 75 ls []) rfl ?_
        obtain ⟨x10, hx10⟩ : ∃ z, z = (fLog_s (fNew_s x u8.1) u8.2) := ⟨_, rfl⟩
        replace hf := keep_e hf x10 hx10
        have hP : va_P D vwCl (W_Fx cI cV vf a 2 4 x10) H := by rw [hx10]; exact hP
        have hD : va_D A (W_Fx cI cV vf a 2 4 x10) := by rw [hx10]; exact hD
        refine lv_aload_n hx hb dX7_writeOn_75 rfl (lv_at hl 0 rfl) ?_
        refine va_get (D := D) (ci := 6) (v := .ref (a 2)) (C := RX7) (T := TX7) (N := 8) hx hb hg in_X7 hown hK hP 0 rfl rfl 1 (by decide) (hg _ w168) (fun _ h9 => h9) rfl dX7_writeOn_76 ?_
        refine lv_astore_n (lv' := [(2, .ref (a 2)), (0, .ref (a 0)), (1, .int p1)]) hx hb dX7_writeOn_79 rfl hl (by decide) rfl (fun ls hl => ?_)
        refine lv_aload_n hx hb dX7_writeOn_80 rfl (lv_at hl 1 rfl) ?_
        refine lv_aload_n hx hb dX7_writeOn_81 rfl (lv_at hl 1 rfl) ?_
        refine va_get (D := D) (ci := 6) (v := .ref (a 4)) (C := RX7) (T := TX7) (N := 8) hx hb hg in_X7 hown hK hP 0 rfl rfl 2 (by decide) (hg _ w169) (fun _ h9 => h9) rfl dX7_writeOn_82 ?_
        refine va_put (D := D) (ci := 6) (v := .ref (a 4)) (ty := (.object "Compactforms$Log")) (C := RX7) (T := TX7) (N := 8) hx hb hg in_X7 tyX7 tyX7_ok nmX7 hown hK hP hD hS 0 rfl rfl 1 (by decide) (hg _ w168) (fun _ h9 => h9) rfl (by decide +kernel) rfl rfl (Nat.le_of_ble_eq_true rfl) dX7_writeOn_85 (fun H locs hP hD hS => ?_)
        replace hP : va_P D vwCl (W_Fx cI cV vf a 4 4 x10) H := hP
        replace hD : va_D A (W_Fx cI cV vf a 4 4 x10) := hD
        refine lv_aload_n hx hb dX7_writeOn_88 rfl (lv_at hl 1 rfl) ?_
        refine lv_aload_n hx hb dX7_writeOn_89 rfl (lv_at hl 0 rfl) ?_
        refine va_put (D := D) (ci := 6) (v := .ref (a 2)) (ty := (.object "Compactforms$Log")) (C := RX7) (T := TX7) (N := 8) hx hb hg in_X7 tyX7 tyX7_ok nmX7 hown hK hP hD hS 0 rfl rfl 2 (by decide) (hg _ w169) (fun _ h9 => h9) rfl (by decide +kernel) rfl rfl (Nat.le_of_ble_eq_true rfl) dX7_writeOn_90 (fun H locs hP hD hS => ?_)
        replace hP : va_P D vwCl (W_Fx cI cV vf a 4 2 x10) H := hP
        replace hD : va_D A (W_Fx cI cV vf a 4 2 x10) := hD
        refine lv_aload_n hx hb dX7_writeOn_93 rfl (lv_at hl 1 rfl) ?_
        refine lv_iconst (v := (-1)) hx hb dX7_writeOn_94 (by decide) ?_
        refine va_put (D := D) (ci := 6) (v := .int (-1)) (ty := .int) (C := RX7) (T := TX7) (N := 8) hx hb hg in_X7 tyX7 tyX7_ok nmX7 hown hK hP hD hS 0 rfl rfl 4 (by decide) (hg _ w171) (fun _ h9 => h9) rfl (by decide +kernel) rfl rfl (Nat.le_of_ble_eq_true rfl) dX7_writeOn_95 (fun H locs hP hD hS => ?_)
        obtain ⟨x11, hx11⟩ : ∃ z, z = (fKtw_s x10 (-1)) := ⟨_, rfl⟩
        replace hf := keep_e hf x11 hx11
        have hP : va_P D vwCl (W_Fx cI cV vf a 4 2 x11) H := by rw [hx11]; exact hP
        have hD : va_D A (W_Fx cI cV vf a 4 2 x11) := by rw [hx11]; exact hD
        refine lv_iconst (v := 0) hx hb dX7_writeOn_98 (by decide) ?_
        obtain rfl := Option.some.inj hf
        refine W.widen (k := 2) (n := 12) (Nat.le_of_ble_eq_true rfl) (Nat.le_of_ble_eq_true rfl) ?_
        refine vx_ret ?_
        exact W.iret (v := 0) hx hb hr (fun t ht hW => ⟨_, rfl, ⟨rfl, by rw [ht]; exact hP, va_K.moved hW.alike hK, hD, hS.F ht⟩⟩) hS.2.2 dX7_writeOn_99 hlocks
      · replace hf := if_f c7 hf
        refine lv_aload_n hx hb dX7_writeOn_33 rfl (lv_at hl 0 rfl) ?_
        refine lv_dup hx hb dX7_writeOn_34 rfl ?_
        refine va_get (D := D) (ci := 6) (v := .int (fKtw x)) (C := RX7) (T := TX7) (N := 8) hx hb hg in_X7 hown hK hP 0 rfl rfl 4 (by decide) (hg _ w171) (fun _ h9 => h9) rfl dX7_writeOn_35 ?_
        refine lv_iload_n hx hb dX7_writeOn_38 rfl (lv_at hl 1 rfl) ?_
        refine lv_isub hx hb dX7_writeOn_39 ?_
        refine va_put (D := D) (ci := 6) (v := .int ((fKtw x) - p1)) (ty := .int) (C := RX7) (T := TX7) (N := 8) hx hb hg in_X7 tyX7 tyX7_ok nmX7 hown hK hP hD hS 0 rfl rfl 4 (by decide) (hg _ w171) (fun _ h9 => h9) rfl (by decide +kernel) rfl rfl (Nat.le_of_ble_eq_true rfl) dX7_writeOn_40 (fun H locs hP hD hS => ?_)
        obtain ⟨x12, hx12⟩ : ∃ z, z = (fKtw_s x ((fKtw x) - p1)) := ⟨_, rfl⟩
        replace hf := keep_e hf x12 hx12
        have hP : va_P D vwCl (W_Fx cI cV vf a 2 4 x12) H := by rw [hx12]; exact hP
        have hD : va_D A (W_Fx cI cV vf a 2 4 x12) := by rw [hx12]; exact hD
        refine lv_aload_n hx hb dX7_writeOn_43 rfl (lv_at hl 0 rfl) ?_
        refine va_get (D := D) (ci := 6) (v := .int (fKtw x12)) (C := RX7) (T := TX7) (N := 8) hx hb hg in_X7 hown hK hP 0 rfl rfl 4 (by decide) (hg _ w171) (fun _ h9 => h9) rfl dX7_writeOn_44 ?_
        obtain rfl := Option.some.inj hf
        refine W.widen (k := 2) (n := 12) (Nat.le_of_ble_eq_true rfl) (Nat.le_of_ble_eq_true rfl) ?_
        refine vx_ret ?_
        exact W.iret (v := (fKtw x12)) hx hb hr (fun t ht hW => ⟨_, rfl, ⟨rfl, by rw [ht]; exact hP, va_K.moved hW.alike hK, hD, hS.F ht⟩⟩) hS.2.2 dX7_writeOn_47 hlocks
    · replace hf := if_t c6 hf
      obtain rfl := Option.some.inj hf
      exact k_throw hx hb hlt (own := RX7) (text := "no rewriting goes on") hown (by decide +kernel) htab hlocks (hg _ w377) (hg _ w14) (hE.1.2.2.2.1 _ (List.mem_of_getElem? (i := 9) rfl)) (thr_at114 hg hE.1) thr_ok114_110 hE (by rw [hml]; exact hl.1) dX7_writeOn_15 dX7_writeOn_18 dX7_writeOn_19 dX7_writeOn_21 dX7_writeOn_24 (Nat.le_of_ble_eq_true rfl) (Nat.le_of_ble_eq_true rfl) (Nat.le_of_ble_eq_true rfl) (Nat.le_of_ble_eq_true rfl) rfl hK hP hD hS (Nat.le_of_ble_eq_true rfl) (Nat.le_of_ble_eq_true rfl)
  exact M0 s.heap [] ls hf hP hD hS hl

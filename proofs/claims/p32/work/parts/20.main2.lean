/-! Compactforms.call(IIIII)I -/
def fX7_call_23 (k : Nat) (x : FSt) (v1 : Int32) (v2 : Int32) (v3 : Int32) (v4 : Int32) (v5 : Int32) (v6 : Int32) : Option (FSt × Int32) := (fX3_addRow (fLog x) v1 v2 v3 v4 v5).bind (fun u1 => keep (fLog_s x u1) (fun x3 => chk (keyok v2 k) ((fX3_stampLast (fLog x3) (fClk x3) (vlId (fV x3))).bind (fun u5 => keep (fLog_s x3 u5) (fun x7 => some (x7, v6))))))
def fX7_call (k : Nat) (x : FSt) (p1 : Int32) (p2 : Int32) (p3 : Int32) (p4 : Int32) (p5 : Int32) : Option (FSt × Int32) := (fX7_perform k x p1 p2 p3 p4 p5).bind (fun u8 => keep u8.1 (fun x10 => keep u8.2 (fun y11 => (if p1 ≤ 4 then fX7_call_23 k x10 p1 p2 p3 p4 p5 y11 else (if y11 ≤ 0 then some (x10, y11) else fX7_call_23 k x10 p1 p2 p3 p4 p5 y11)))))
set_option maxHeartbeats 4000000 in
set_option maxRecDepth 100000 in
theorem met_X7_call {D : va_G} {cI cV cJ cD : ClassId} (l : Launch) (k : Nat) (vf : Nat → Option Nat) (a : Nat → Nat) (hvf : vf k = some (a 6)) (x : FSt) (p1 : Int32) (p2 : Int32) (p3 : Int32) (p4 : Int32) (p5 : Int32) (res : FSt × Int32) (hf : fX7_call k x p1 p2 p3 p4 p5 = some res) : MM l yX7_call cX7_call 7 (some .int) { frames := 5, cells := 0, slots := 0, locals := 154 } D (TY cI cV cJ cD) (W_F cI cV vf a x) (W_F cI cV vf a res.1) [.ref (a 0), .int p1, .int p2, .int p3, .int p4, .int p5] (some (.int res.2)) := by
  intro sz
  refine Met.ofW (cc := cX7_call) (maxL := 7) (ret := (some .int)) (by decide +kernel) rfl ?_
  intro p e s m args below meth c s₁ B hml hv
  obtain ⟨rfl, hsz, hP, hK, hD0, hE⟩ := hv
  have hx := B.exec
  have hb := B.bytes
  have hr := B.returns
  have hts := atoms_spec (ws := .code yX7_call cX7_call 7 (some .int) :: GW) B.pre
  have hg : ∀ w ∈ GW, w.before (([.ref (a 0), .int p1, .int p2, .int p3, .int p4, .int p5] : List Value).toArray) s = true := fun w h => hts w (List.mem_cons_of_mem _ h)
  have hown : s.vm.findClass RX7 = some m.cls := findClass_of_methodNamed B.named
  have hlocks := B.notSynchronized
  subst hsz
  have hD := hD0.self (sz := s.heap.size)
  generalize hAe : va_A (W_F cI cV vf a x) s.heap.size = A at hD hE ⊢
  have hA : ∀ q : Nat, s.heap.size ≤ q → A q := fun q h => by rw [← hAe]; exact Or.inr h
  have hS : va_S A s.heap s.heap [] := va_S.rf
  have hl := lv_entry ([.ref (a 0), .int p1, .int p2, .int p3, .int p4, .int p5]) (n := 7) (Nat.le_of_ble_eq_true rfl)
  rw [lg_entry_eq]
  generalize (lg_sl ([.ref (a 0), .int p1, .int p2, .int p3, .int p4, .int p5]) ++ List.replicate (7 - (lg_sl ([.ref (a 0), .int p1, .int p2, .int p3, .int p4, .int p5])).length) Slot.unset).toArray = ls at hl ⊢
  have hl : lv_has ls 7 [(0, .ref (a 0)), (1, .int p1), (2, .int p2), (3, .int p3), (4, .int p4), (5, .int p5)] := hl
  have L23 : ∀ (x : FSt) (v1 : Int32) (v2 : Int32) (v3 : Int32) (v4 : Int32) (v5 : Int32) (v6 : Int32) (H : Heap) (locs : List Loc) (ls : Array Slot), fX7_call_23 k x v1 v2 v3 v4 v5 v6  = some res → va_P D vwCl (W_F cI cV vf a x) H → va_D A (W_F cI cV vf a x) → va_S A s.heap H locs → lv_has ls 7 [(0, .ref (a 0)), (1, .int v1), (2, .int v2), (3, .int v3), (4, .int v4), (5, .int v5), (6, .int v6)] → W p l e ({ frames := 5, cells := 0, slots := 0, locals := 154 } : Room) s m ([.ref (a 0), .int p1, .int p2, .int p3, .int p4, .int p5] : List Value).toArray below meth c H locs 0 0 (MQ below (QW D (TY cI cV cJ cD) (W_F cI cV vf a res.1) A (some (.int res.2))) (([.ref (a 0), .int p1, .int p2, .int p3, .int p4, .int p5] : List Value).toArray) s 0 0 A) (F0 m 23 ls []) := by
    intro x v1 v2 v3 v4 v5 v6 H locs ls hf hP hD hS hl
    dsimp only [fX7_call_23] at hf
    refine lv_aload_n hx hb dX7_call_23 rfl (lv_at hl 0 rfl) ?_
    refine va_get (D := D) (ci := 6) (v := .ref (a 2)) (C := RX7) (T := TX7) (N := 8) hx hb hg in_X7 hown hK hP 0 rfl rfl 1 (by decide) (hg _ w168) (fun _ h9 => h9) rfl dX7_call_24 ?_
    refine lv_iload_n hx hb dX7_call_27 rfl (lv_at hl 1 rfl) ?_
    refine lv_iload_n hx hb dX7_call_28 rfl (lv_at hl 2 rfl) ?_
    refine lv_iload_n hx hb dX7_call_29 rfl (lv_at hl 3 rfl) ?_
    refine lv_iload hx hb dX7_call_30 (lv_at hl 4 rfl) ?_
    refine lv_iload hx hb dX7_call_32 (lv_at hl 5 rfl) ?_
    obtain ⟨u1, hc2, hf⟩ := bind_t hf
    refine k_V (As := [.int v1, .int v2, .int v3, .int v4, .int v5]) (rest := []) (n := 5) ⟨hx, hb, hml, hown, hts⟩ (met_X3_addRow l (fun j => a (2 + j)) (fLog x) v1 v2 v3 v4 v5 u1 hc2) w561 w562 w563 w2 w564 ⟨rfl, by decide +kernel, by decide +kernel, by decide +kernel⟩ ⟨Nat.le_of_ble_eq_true rfl, Nat.le_of_ble_eq_true rfl⟩ hK hE hP hD hS hA (isC := [2, 3]) (isR := [0, 1, 4, 5, 6, 7, 8, 9, 10, 11, 12, 13, 14, 15, 16, 17, 18, 19, 20, 21, 22, 23]) (isB := [0, 1, 22, 23, 2, 3, 4, 5, 6, 7, 8, 9, 10, 11, 12, 13, 14, 15, 16, 17, 18, 19, 20, 21]) (ws' := W_F cI cV vf a (fLog_s x u1)) ⟨([0, 1, 4, 5, 6, 7, 8, 9, 10, 11, 12, 13, 14, 15, 16, 17, 18, 19, 20, 21, 22, 23] : List Nat).filterMap (fun i : Nat => (W_F cI cV vf a x : va_W)[i]?), rfl, rfl, rfl, rfl, by decide, rfl, rfl⟩ 2 2 rfl rfl rfl rfl hl.1 rfl (Nat.le_of_ble_eq_true rfl) dX7_call_34 ⟨Nat.le_of_ble_eq_true rfl, Nat.le_of_ble_eq_true rfl⟩ (fun H locs hP hD hS => ?_)
    try dsimp only at hf
    refine W.eq (g2 := F0 m 37 ls []) rfl ?_
    obtain ⟨x3, hx3⟩ : ∃ z, z = (fLog_s x u1) := ⟨_, rfl⟩
    replace hf := keep_e hf x3 hx3
    have hP : va_P D vwCl (W_F cI cV vf a x3) H := by rw [hx3]; exact hP
    have hD : va_D A (W_F cI cV vf a x3) := by rw [hx3]; exact hD
    refine lv_aload_n hx hb dX7_call_37 rfl (lv_at hl 0 rfl) ?_
    refine va_get (D := D) (ci := 6) (v := .ref (a 2)) (C := RX7) (T := TX7) (N := 8) hx hb hg in_X7 hown hK hP 0 rfl rfl 1 (by decide) (hg _ w168) (fun _ h9 => h9) rfl dX7_call_38 ?_
    refine lv_aload_n hx hb dX7_call_41 rfl (lv_at hl 0 rfl) ?_
    refine va_get (D := D) (ci := 6) (v := .int (fClk x3)) (C := RX7) (T := TX7) (N := 8) hx hb hg in_X7 hown hK hP 0 rfl rfl 5 (by decide) (hg _ w172) (fun _ h9 => h9) rfl dX7_call_42 ?_
    refine lv_aload_n hx hb dX7_call_45 rfl (lv_at hl 0 rfl) ?_
    refine va_get (D := D) (ci := 6) (v := .ref (a 1)) (C := RX7) (T := TX7) (N := 8) hx hb hg in_X7 hown hK hP 0 rfl rfl 0 (by decide) (hg _ w167) (fun _ h9 => h9) rfl dX7_call_46 ?_
    refine lv_iload_n hx hb dX7_call_49 rfl (lv_at hl 2 rfl) ?_
    obtain ⟨hi4, hf⟩ := chk_t hf
    refine va_aldq hx hb hK hP 1 1 rfl rfl (keyok_i hi4) dX7_call_50 ?_
    refine W.eq (g2 := F0 m 51 ls [.ref (a 6), .int (fClk x3), .ref (a 2)]) (by rw [keyok_k hi4, hvf]; rfl) ?_
    refine va_getN (D := D) (ci := 5) (v := .int (vlId (fV x3))) (C := RX6) (T := TX6) (N := 10) hx hb hg in_X6 hown hK hP 6 rfl rfl 3 (by decide) (nwF_230 hE.1) (fun _ h9 => h9) rfl dX7_call_51 ?_
    obtain ⟨u5, hc6, hf⟩ := bind_t hf
    refine k_V (As := [.int (fClk x3), .int (vlId (fV x3))]) (rest := []) (n := 2) ⟨hx, hb, hml, hown, hts⟩ (met_X3_stampLast l (fun j => a (2 + j)) (fLog x3) (fClk x3) (vlId (fV x3)) u5 hc6) w565 w566 w567 w2 w568 ⟨rfl, by decide +kernel, by decide +kernel, by decide +kernel⟩ ⟨Nat.le_of_ble_eq_true rfl, Nat.le_of_ble_eq_true rfl⟩ hK hE hP hD hS hA (isC := [2, 3]) (isR := [0, 1, 4, 5, 6, 7, 8, 9, 10, 11, 12, 13, 14, 15, 16, 17, 18, 19, 20, 21, 22, 23]) (isB := [0, 1, 22, 23, 2, 3, 4, 5, 6, 7, 8, 9, 10, 11, 12, 13, 14, 15, 16, 17, 18, 19, 20, 21]) (ws' := W_F cI cV vf a (fLog_s x3 u5)) ⟨([0, 1, 4, 5, 6, 7, 8, 9, 10, 11, 12, 13, 14, 15, 16, 17, 18, 19, 20, 21, 22, 23] : List Nat).filterMap (fun i : Nat => (W_F cI cV vf a x3 : va_W)[i]?), rfl, rfl, rfl, rfl, by decide, rfl, rfl⟩ 2 2 rfl rfl rfl rfl hl.1 rfl (Nat.le_of_ble_eq_true rfl) dX7_call_54 ⟨Nat.le_of_ble_eq_true rfl, Nat.le_of_ble_eq_true rfl⟩ (fun H locs hP hD hS => ?_)
    try dsimp only at hf
    refine W.eq (g2 := F0 m 57 ls []) rfl ?_
    obtain ⟨x7, hx7⟩ : ∃ z, z = (fLog_s x3 u5) := ⟨_, rfl⟩
    replace hf := keep_e hf x7 hx7
    have hP : va_P D vwCl (W_F cI cV vf a x7) H := by rw [hx7]; exact hP
    have hD : va_D A (W_F cI cV vf a x7) := by rw [hx7]; exact hD
    refine lv_iload hx hb dX7_call_57 (lv_at hl 6 rfl) ?_
    obtain rfl := Option.some.inj hf
    exact W.iret (v := v6) hx hb hr (fun t ht hW => ⟨rfl, by rw [ht]; exact hP, va_K.moved hW.alike hK, hD, hS.F ht⟩) hS.2.2 dX7_call_59 hlocks
  have M0 : ∀ (H : Heap) (locs : List Loc) (ls : Array Slot), fX7_call k x p1 p2 p3 p4 p5 = some res → va_P D vwCl (W_F cI cV vf a x) H → va_D A (W_F cI cV vf a x) → va_S A s.heap H locs → lv_has ls 7 [(0, .ref (a 0)), (1, .int p1), (2, .int p2), (3, .int p3), (4, .int p4), (5, .int p5)] → W p l e ({ frames := 5, cells := 0, slots := 0, locals := 154 } : Room) s m ([.ref (a 0), .int p1, .int p2, .int p3, .int p4, .int p5] : List Value).toArray below meth c H locs 0 0 (MQ below (QW D (TY cI cV cJ cD) (W_F cI cV vf a res.1) A (some (.int res.2))) (([.ref (a 0), .int p1, .int p2, .int p3, .int p4, .int p5] : List Value).toArray) s 0 0 A) (F0 m 0 ls []) := by
    intro H locs ls hf hP hD hS hl
    dsimp only [fX7_call] at hf
    refine lv_aload_n hx hb dX7_call_0 rfl (lv_at hl 0 rfl) ?_
    refine lv_iload_n hx hb dX7_call_1 rfl (lv_at hl 1 rfl) ?_
    refine lv_iload_n hx hb dX7_call_2 rfl (lv_at hl 2 rfl) ?_
    refine lv_iload_n hx hb dX7_call_3 rfl (lv_at hl 3 rfl) ?_
    refine lv_iload hx hb dX7_call_4 (lv_at hl 4 rfl) ?_
    refine lv_iload hx hb dX7_call_6 (lv_at hl 5 rfl) ?_
    obtain ⟨u8, hc9, hf⟩ := bind_t hf
    refine k_V (As := [.int p1, .int p2, .int p3, .int p4, .int p5]) (rest := []) (n := 5) ⟨hx, hb, hml, hown, hts⟩ (met_X7_perform l k vf a hvf x p1 p2 p3 p4 p5 u8 hc9) w407 w409 ws12 w1 w410 ⟨rfl, by decide +kernel, by decide +kernel, by decide +kernel⟩ ⟨Nat.le_of_ble_eq_true rfl, Nat.le_of_ble_eq_true rfl⟩ hK hE hP hD hS hA (isC := [0, 1, 2, 3, 4, 5, 6, 7, 8, 9, 10, 11, 12, 13, 14, 15, 16, 17, 18, 19, 20, 21, 22, 23]) (isR := []) (isB := [0, 1, 2, 3, 4, 5, 6, 7, 8, 9, 10, 11, 12, 13, 14, 15, 16, 17, 18, 19, 20, 21, 22, 23]) (ws' := W_F cI cV vf a u8.1) ⟨([] : List Nat).filterMap (fun i : Nat => (W_F cI cV vf a x : va_W)[i]?), rfl, rfl, rfl, rfl, by decide, rfl, rfl⟩ 0 6 rfl rfl rfl rfl hl.1 rfl (Nat.le_of_ble_eq_true rfl) dX7_call_8 ⟨Nat.le_of_ble_eq_true rfl, Nat.le_of_ble_eq_true rfl⟩ (fun H locs hP hD hS => ?_)
    try dsimp only at hf
    refine W.eq (g2 := F0 m 11 ls [.int u8.2]) rfl ?_
    obtain ⟨x10, hx10⟩ : ∃ z, z = u8.1 := ⟨_, rfl⟩
    replace hf := keep_e hf x10 hx10
    have hP : va_P D vwCl (W_F cI cV vf a x10) H := by rw [hx10]; exact hP
    have hD : va_D A (W_F cI cV vf a x10) := by rw [hx10]; exact hD
    refine lv_topi (fun y11 hy11 => ?_)
    replace hf := keep_e hf y11 hy11
    refine lv_istore (lv' := [(6, .int y11), (0, .ref (a 0)), (1, .int p1), (2, .int p2), (3, .int p3), (4, .int p4), (5, .int p5)]) hx hb dX7_call_11 hl (by decide) rfl (fun ls hl => ?_)
    refine lv_iload_n hx hb dX7_call_13 rfl (lv_at hl 2 rfl) ?_
    refine lv_iconst (v := 4) hx hb dX7_call_14 (by decide) ?_
    refine lv_icmp_le (tgt := 23) hx hb dX7_call_15 (by decide) (fun c12 => ?_) (fun c12 => ?_)
    · replace hf := if_t c12 hf
      exact L23 x10 p1 p2 p3 p4 p5 y11 H locs ls hf hP hD hS (lv_sub hl [1, 2, 3, 4, 5, 6, 0] rfl)
    · replace hf := if_f c12 hf
      refine lv_iload hx hb dX7_call_18 (lv_at hl 0 rfl) ?_
      refine lv_if_le (tgt := 57) hx hb dX7_call_20 (by decide) (fun c13 => ?_) (fun c13 => ?_)
      · replace hf := if_t c13 hf
        refine lv_iload hx hb dX7_call_57 (lv_at hl 0 rfl) ?_
        obtain rfl := Option.some.inj hf
        exact W.iret (v := y11) hx hb hr (fun t ht hW => ⟨rfl, by rw [ht]; exact hP, va_K.moved hW.alike hK, hD, hS.F ht⟩) hS.2.2 dX7_call_59 hlocks
      · replace hf := if_f c13 hf
        exact L23 x10 p1 p2 p3 p4 p5 y11 H locs ls hf hP hD hS (lv_sub hl [1, 2, 3, 4, 5, 6, 0] rfl)
  exact M0 s.heap [] ls hf hP hD hS hl
/-! Compactforms.push(IIZ)I -/
def fX7_push_36 (k : Nat) (x : FSt) (s0 : Int32) (s1 : Int32) (s2 : Int32) (s3 : Int32) : Option (FSt × (Int32 ⊕ Nat)) := (fX7_call k x s3 s2 s1 s0 0).bind (fun u1 => keep u1.1 (fun x3 => some (x3, (.inl u1.2))))
def fX7_push (k : Nat) (x : FSt) (p1 : Int32) (p2 : Int32) (p3 : Int32) : Option (FSt × (Int32 ⊕ Nat)) := (fX7_needKey p1).bind (fun u4 => thr u4 (fun k6 => some (x, .inr k6)) (fun r7 => (fX7_needValue p2).bind (fun u9 => thr u9 (fun k11 => some (x, .inr k11)) (fun r12 => (fX7_needTypeOrAbsent k x p1 1).bind (fun u14 => thr u14 (fun k16 => some (x, .inr k16)) (fun r17 => (fX7_needRoom k x p1).bind (fun u19 => thr u19 (fun k21 => some (x, .inr k21)) (fun r22 => (fX7_needRowLeft k x).bind (fun u24 => thr u24 (fun k26 => some (x, .inr k26)) (fun r27 => (if p3 = 0 then fX7_push_36 k x 0 p2 p1 1 else fX7_push_36 k x 1 p2 p1 1)))))))))))
set_option maxHeartbeats 4000000 in
set_option maxRecDepth 100000 in
theorem met_X7_push {D : va_G} {cI cV cJ cD : ClassId} (l : Launch) (hlt : l.stackTraces = false) (k : Nat) (vf : Nat → Option Nat) (a : Nat → Nat) (hvf : vf k = some (a 6)) (x : FSt) (p1 : Int32) (p2 : Int32) (p3 : Int32) (res : FSt × (Int32 ⊕ Nat)) (hf : fX7_push k x p1 p2 p3 = some res) : MX l yX7_push cX7_push 4 (some .int) { frames := 8, cells := 5, slots := 30, locals := 180 } D (TY cI cV cJ cD) (W_F cI cV vf a x) (W_F cI cV vf a res.1) [.ref (a 0), .int p1, .int p2, .int p3] (rsI res.2) := by
  intro sz
  refine vx_ofW (cc := cX7_push) (maxL := 4) (ret := (some .int)) (by decide +kernel) rfl ?_
  intro p e s m args below meth c s₁ B hml htab hv
  obtain ⟨rfl, hsz, hP, hK, hD0, hE⟩ := hv
  have hx := B.exec
  have hb := B.bytes
  have hr := B.returns
  have hts := atoms_spec (ws := .code yX7_push cX7_push 4 (some .int) :: GW) B.pre
  have hg : ∀ w ∈ GW, w.before (([.ref (a 0), .int p1, .int p2, .int p3] : List Value).toArray) s = true := fun w h => hts w (List.mem_cons_of_mem _ h)
  have hown : s.vm.findClass RX7 = some m.cls := findClass_of_methodNamed B.named
  have hlocks := B.notSynchronized
  subst hsz
  have hD := hD0.self (sz := s.heap.size)
  generalize hAe : va_A (W_F cI cV vf a x) s.heap.size = A at hD hE ⊢
  have hA : ∀ q : Nat, s.heap.size ≤ q → A q := fun q h => by rw [← hAe]; exact Or.inr h
  have hS : va_S A s.heap s.heap [] := va_S.rf
  have hl := lv_entry ([.ref (a 0), .int p1, .int p2, .int p3]) (n := 4) (Nat.le_of_ble_eq_true rfl)
  rw [lg_entry_eq]
  generalize (lg_sl ([.ref (a 0), .int p1, .int p2, .int p3]) ++ List.replicate (4 - (lg_sl ([.ref (a 0), .int p1, .int p2, .int p3])).length) Slot.unset).toArray = ls at hl ⊢
  have hl : lv_has ls 4 [(0, .ref (a 0)), (1, .int p1), (2, .int p2), (3, .int p3)] := hl
  have L36 : ∀ (x : FSt) (s0 : Int32) (s1 : Int32) (s2 : Int32) (s3 : Int32) (H : Heap) (locs : List Loc) (ls : Array Slot), fX7_push_36 k x s0 s1 s2 s3  = some res → va_P D vwCl (W_F cI cV vf a x) H → va_D A (W_F cI cV vf a x) → va_S A s.heap H locs → lv_has ls 4 [] → W p l e ({ frames := 8, cells := 5, slots := 30, locals := 180 } : Room) s m ([.ref (a 0), .int p1, .int p2, .int p3] : List Value).toArray below meth c H locs 5 30 (vx_MQ below (QR D (TY cI cV cJ cD) (W_F cI cV vf a res.1) A (rsI res.2)) (XR D (TY cI cV cJ cD) (W_F cI cV vf a res.1) A (rsI res.2)) (([.ref (a 0), .int p1, .int p2, .int p3] : List Value).toArray) s 5 30 A) (F0 m 36 ls [.int s0, .int s1, .int s2, .int s3, .ref (a 0)]) := by
    intro x s0 s1 s2 s3 H locs ls hf hP hD hS hl
    dsimp only [fX7_push_36] at hf
    refine lv_iconst (v := 0) hx hb dX7_push_36 (by decide) ?_
    obtain ⟨u1, hc2, hf⟩ := bind_t hf
    refine k_V (As := [.int s3, .int s2, .int s1, .int s0, .int 0]) (rest := []) (n := 5) ⟨hx, hb, hml, hown, hts⟩ (met_X7_call l k vf a hvf x s3 s2 s1 s0 0 u1 hc2) w403 w405 ws11 w1 w406 ⟨rfl, by decide +kernel, by decide +kernel, by decide +kernel⟩ ⟨Nat.le_of_ble_eq_true rfl, Nat.le_of_ble_eq_true rfl⟩ hK hE hP hD hS hA (isC := [0, 1, 2, 3, 4, 5, 6, 7, 8, 9, 10, 11, 12, 13, 14, 15, 16, 17, 18, 19, 20, 21, 22, 23]) (isR := []) (isB := [0, 1, 2, 3, 4, 5, 6, 7, 8, 9, 10, 11, 12, 13, 14, 15, 16, 17, 18, 19, 20, 21, 22, 23]) (ws' := W_F cI cV vf a u1.1) ⟨([] : List Nat).filterMap (fun i : Nat => (W_F cI cV vf a x : va_W)[i]?), rfl, rfl, rfl, rfl, by decide, rfl, rfl⟩ 0 6 rfl rfl rfl rfl hl.1 rfl (Nat.le_of_ble_eq_true rfl) dX7_push_37 ⟨Nat.le_of_ble_eq_true rfl, Nat.le_of_ble_eq_true rfl⟩ (fun H locs hP hD hS => ?_)
    try dsimp only at hf
    refine W.eq (g2 := F0 m 40 ls [.int u1.2]) rfl ?_
    obtain ⟨x3, hx3⟩ : ∃ z, z = u1.1 := ⟨_, rfl⟩
    replace hf := keep_e hf x3 hx3
    have hP : va_P D vwCl (W_F cI cV vf a x3) H := by rw [hx3]; exact hP
    have hD : va_D A (W_F cI cV vf a x3) := by rw [hx3]; exact hD
    obtain rfl := Option.some.inj hf
    refine vx_ret ?_
    exact W.iret (v := u1.2) hx hb hr (fun t ht hW => ⟨_, rfl, ⟨rfl, by rw [ht]; exact hP, va_K.moved hW.alike hK, hD, hS.F ht⟩⟩) hS.2.2 dX7_push_40 hlocks
  have M0 : ∀ (H : Heap) (locs : List Loc) (ls : Array Slot), fX7_push k x p1 p2 p3 = some res → va_P D vwCl (W_F cI cV vf a x) H → va_D A (W_F cI cV vf a x) → va_S A s.heap H locs → lv_has ls 4 [(0, .ref (a 0)), (1, .int p1), (2, .int p2), (3, .int p3)] → W p l e ({ frames := 8, cells := 5, slots := 30, locals := 180 } : Room) s m ([.ref (a 0), .int p1, .int p2, .int p3] : List Value).toArray below meth c H locs 0 0 (vx_MQ below (QR D (TY cI cV cJ cD) (W_F cI cV vf a res.1) A (rsI res.2)) (XR D (TY cI cV cJ cD) (W_F cI cV vf a res.1) A (rsI res.2)) (([.ref (a 0), .int p1, .int p2, .int p3] : List Value).toArray) s 5 30 A) (F0 m 0 ls []) := by
    intro H locs ls hf hP hD hS hl
    dsimp only [fX7_push] at hf
    refine lv_iload_n hx hb dX7_push_0 rfl (lv_at hl 1 rfl) ?_
    obtain ⟨u4, hc5, hf⟩ := bind_t hf
    refine k_SX (As := [.int p1]) (rest := []) (n := 1) ⟨hx, hb, hml, hown, hts⟩ (met_X7_needKey l hlt p1 u4 hc5) w209 w210 w1 w211 ⟨by decide +kernel, by decide +kernel, by decide +kernel⟩ ⟨Nat.le_of_ble_eq_true rfl, Nat.le_of_ble_eq_true rfl⟩ hK hE hP hD hS hA (isC := []) (isR := [0, 1, 2, 3, 4, 5, 6, 7, 8, 9, 10, 11, 12, 13, 14, 15, 16, 17, 18, 19, 20, 21, 22, 23]) (isB := [0, 1, 2, 3, 4, 5, 6, 7, 8, 9, 10, 11, 12, 13, 14, 15, 16, 17, 18, 19, 20, 21, 22, 23]) (ws' := W_F cI cV vf a x) ⟨([0, 1, 2, 3, 4, 5, 6, 7, 8, 9, 10, 11, 12, 13, 14, 15, 16, 17, 18, 19, 20, 21, 22, 23] : List Nat).filterMap (fun i : Nat => (W_F cI cV vf a x : va_W)[i]?), rfl, rfl, rfl, rfl, by decide, rfl, rfl⟩ rfl hl.1 rfl (Nat.le_of_ble_eq_true rfl) dX7_push_1 ⟨Nat.le_of_ble_eq_true rfl, Nat.le_of_ble_eq_true rfl⟩ (fun E ce q9 H locs h8 hP hD hS hce hcv hcl => ?_) (fun rv9 H locs h8 hP hD hS => ?_)
    · obtain ⟨k6, hq9, hE9⟩ := rsV_x h8
      replace hf := thr_x hf hq9
      obtain rfl := Option.some.inj hf
      exact k_out htab hlocks hce hcv hcl (by rw [hE9]; rfl) hK hP hD hS (Nat.le_of_ble_eq_true rfl) (Nat.le_of_ble_eq_true rfl)
    obtain ⟨r7, hq9, rfl⟩ := rsV_v h8
    replace hf := thr_v hf hq9
    refine W.eq (g2 := F0 m 4 ls []) rfl ?_
    refine lv_iload_n hx hb dX7_push_4 rfl (lv_at hl 2 rfl) ?_
    obtain ⟨u9, hc10, hf⟩ := bind_t hf
    refine k_SX (As := [.int p2]) (rest := []) (n := 1) ⟨hx, hb, hml, hown, hts⟩ (met_X7_needValue l hlt p2 u9 hc10) w314 w315 w1 w316 ⟨by decide +kernel, by decide +kernel, by decide +kernel⟩ ⟨Nat.le_of_ble_eq_true rfl, Nat.le_of_ble_eq_true rfl⟩ hK hE hP hD hS hA (isC := []) (isR := [0, 1, 2, 3, 4, 5, 6, 7, 8, 9, 10, 11, 12, 13, 14, 15, 16, 17, 18, 19, 20, 21, 22, 23]) (isB := [0, 1, 2, 3, 4, 5, 6, 7, 8, 9, 10, 11, 12, 13, 14, 15, 16, 17, 18, 19, 20, 21, 22, 23]) (ws' := W_F cI cV vf a x) ⟨([0, 1, 2, 3, 4, 5, 6, 7, 8, 9, 10, 11, 12, 13, 14, 15, 16, 17, 18, 19, 20, 21, 22, 23] : List Nat).filterMap (fun i : Nat => (W_F cI cV vf a x : va_W)[i]?), rfl, rfl, rfl, rfl, by decide, rfl, rfl⟩ rfl hl.1 rfl (Nat.le_of_ble_eq_true rfl) dX7_push_5 ⟨Nat.le_of_ble_eq_true rfl, Nat.le_of_ble_eq_true rfl⟩ (fun E ce q9 H locs h13 hP hD hS hce hcv hcl => ?_) (fun rv9 H locs h13 hP hD hS => ?_)
    · obtain ⟨k11, hq9, hE9⟩ := rsV_x h13
      replace hf := thr_x hf hq9
      obtain rfl := Option.some.inj hf
      exact k_out htab hlocks hce hcv hcl (by rw [hE9]; rfl) hK hP hD hS (Nat.le_of_ble_eq_true rfl) (Nat.le_of_ble_eq_true rfl)
    obtain ⟨r12, hq9, rfl⟩ := rsV_v h13
    replace hf := thr_v hf hq9
    refine W.eq (g2 := F0 m 8 ls []) rfl ?_
    refine lv_aload_n hx hb dX7_push_8 rfl (lv_at hl 0 rfl) ?_
    refine lv_iload_n hx hb dX7_push_9 rfl (lv_at hl 1 rfl) ?_
    refine lv_iconst (v := 1) hx hb dX7_push_10 (by decide) ?_
    obtain ⟨u14, hc15, hf⟩ := bind_t hf
    refine k_VX (As := [.int p1, .int 1]) (rest := []) (n := 2) ⟨hx, hb, hml, hown, hts⟩ (met_X7_needTypeOrAbsent l hlt k vf a hvf x p1 1 u14 hc15) w369 w371 ws7 w1 w372 ⟨rfl, by decide +kernel, by decide +kernel, by decide +kernel⟩ ⟨Nat.le_of_ble_eq_true rfl, Nat.le_of_ble_eq_true rfl⟩ hK hE hP hD hS hA (isC := [0, 1, 2, 3, 4, 5, 6, 7, 8, 9, 10, 11, 12, 13, 14, 15, 16, 17, 18, 19, 20, 21, 22, 23]) (isR := []) (isB := [0, 1, 2, 3, 4, 5, 6, 7, 8, 9, 10, 11, 12, 13, 14, 15, 16, 17, 18, 19, 20, 21, 22, 23]) (ws' := W_F cI cV vf a x) ⟨([] : List Nat).filterMap (fun i : Nat => (W_F cI cV vf a x : va_W)[i]?), rfl, rfl, rfl, rfl, by decide, rfl, rfl⟩ 0 6 rfl rfl rfl rfl hl.1 rfl (Nat.le_of_ble_eq_true rfl) dX7_push_11 ⟨Nat.le_of_ble_eq_true rfl, Nat.le_of_ble_eq_true rfl⟩ (fun E ce q9 H locs h18 hP hD hS hce hcv hcl => ?_) (fun rv9 H locs h18 hP hD hS => ?_)
    · obtain ⟨k16, hq9, hE9⟩ := rsV_x h18
      replace hf := thr_x hf hq9
      obtain rfl := Option.some.inj hf
      exact k_out htab hlocks hce hcv hcl (by rw [hE9]; rfl) hK hP hD hS (Nat.le_of_ble_eq_true rfl) (Nat.le_of_ble_eq_true rfl)
    obtain ⟨r17, hq9, rfl⟩ := rsV_v h18
    replace hf := thr_v hf hq9
    refine W.eq (g2 := F0 m 14 ls []) rfl ?_
    refine lv_aload_n hx hb dX7_push_14 rfl (lv_at hl 0 rfl) ?_
    refine lv_iload_n hx hb dX7_push_15 rfl (lv_at hl 1 rfl) ?_
    obtain ⟨u19, hc20, hf⟩ := bind_t hf
    refine k_VX (As := [.int p1]) (rest := []) (n := 1) ⟨hx, hb, hml, hown, hts⟩ (met_X7_needRoom l hlt k vf a hvf x p1 u19 hc20) w393 w395 ws9 w1 w396 ⟨rfl, by decide +kernel, by decide +kernel, by decide +kernel⟩ ⟨Nat.le_of_ble_eq_true rfl, Nat.le_of_ble_eq_true rfl⟩ hK hE hP hD hS hA (isC := [0, 1, 2, 3, 4, 5, 6, 7, 8, 9, 10, 11, 12, 13, 14, 15, 16, 17, 18, 19, 20, 21, 22, 23]) (isR := []) (isB := [0, 1, 2, 3, 4, 5, 6, 7, 8, 9, 10, 11, 12, 13, 14, 15, 16, 17, 18, 19, 20, 21, 22, 23]) (ws' := W_F cI cV vf a x) ⟨([] : List Nat).filterMap (fun i : Nat => (W_F cI cV vf a x : va_W)[i]?), rfl, rfl, rfl, rfl, by decide, rfl, rfl⟩ 0 6 rfl rfl rfl rfl hl.1 rfl (Nat.le_of_ble_eq_true rfl) dX7_push_16 ⟨Nat.le_of_ble_eq_true rfl, Nat.le_of_ble_eq_true rfl⟩ (fun E ce q9 H locs h23 hP hD hS hce hcv hcl => ?_) (fun rv9 H locs h23 hP hD hS => ?_)
    · obtain ⟨k21, hq9, hE9⟩ := rsV_x h23
      replace hf := thr_x hf hq9
      obtain rfl := Option.some.inj hf
      exact k_out htab hlocks hce hcv hcl (by rw [hE9]; rfl) hK hP hD hS (Nat.le_of_ble_eq_true rfl) (Nat.le_of_ble_eq_true rfl)
    obtain ⟨r22, hq9, rfl⟩ := rsV_v h23
    replace hf := thr_v hf hq9
    refine W.eq (g2 := F0 m 19 ls []) rfl ?_
    refine lv_aload_n hx hb dX7_push_19 rfl (lv_at hl 0 rfl) ?_
    obtain ⟨u24, hc25, hf⟩ := bind_t hf
    refine k_VX (As := []) (rest := []) (n := 0) ⟨hx, hb, hml, hown, hts⟩ (met_X7_needRowLeft l hlt k vf a hvf x u24 hc25) w398 w400 ws10 w1 w401 ⟨rfl, by decide +kernel, by decide +kernel, by decide +kernel⟩ ⟨Nat.le_of_ble_eq_true rfl, Nat.le_of_ble_eq_true rfl⟩ hK hE hP hD hS hA (isC := [0, 1, 2, 3, 4, 5, 6, 7, 8, 9, 10, 11, 12, 13, 14, 15, 16, 17, 18, 19, 20, 21, 22, 23]) (isR := []) (isB := [0, 1, 2, 3, 4, 5, 6, 7, 8, 9, 10, 11, 12, 13, 14, 15, 16, 17, 18, 19, 20, 21, 22, 23]) (ws' := W_F cI cV vf a x) ⟨([] : List Nat).filterMap (fun i : Nat => (W_F cI cV vf a x : va_W)[i]?), rfl, rfl, rfl, rfl, by decide, rfl, rfl⟩ 0 6 rfl rfl rfl rfl hl.1 rfl (Nat.le_of_ble_eq_true rfl) dX7_push_20 ⟨Nat.le_of_ble_eq_true rfl, Nat.le_of_ble_eq_true rfl⟩ (fun E ce q9 H locs h28 hP hD hS hce hcv hcl => ?_) (fun rv9 H locs h28 hP hD hS => ?_)
    · obtain ⟨k26, hq9, hE9⟩ := rsV_x h28
      replace hf := thr_x hf hq9
      obtain rfl := Option.some.inj hf
      exact k_out htab hlocks hce hcv hcl (by rw [hE9]; rfl) hK hP hD hS (Nat.le_of_ble_eq_true rfl) (Nat.le_of_ble_eq_true rfl)
    obtain ⟨r27, hq9, rfl⟩ := rsV_v h28
    replace hf := thr_v hf hq9
    refine W.eq (g2 := F0 m 23 ls []) rfl ?_
    refine lv_aload_n hx hb dX7_push_23 rfl (lv_at hl 0 rfl) ?_
    refine lv_iconst (v := 1) hx hb dX7_push_24 (by decide) ?_
    refine lv_iload_n hx hb dX7_push_25 rfl (lv_at hl 1 rfl) ?_
    refine lv_iload_n hx hb dX7_push_26 rfl (lv_at hl 2 rfl) ?_
    refine lv_iload_n hx hb dX7_push_27 rfl (lv_at hl 3 rfl) ?_
    refine lv_if_eq (tgt := 35) hx hb dX7_push_28 (by decide) (fun c29 => ?_) (fun c29 => ?_)
    · replace hf := if_t c29 hf
      refine lv_iconst (v := 0) hx hb dX7_push_35 (by decide) ?_
      exact L36 x 0 p2 p1 1 H locs ls hf hP hD hS (lv_sub hl [] rfl)
    · replace hf := if_f c29 hf
      refine lv_iconst (v := 1) hx hb dX7_push_31 (by decide) ?_
      refine lv_goto (tgt := 36) hx hb dX7_push_32 (by decide) ?_
      exact L36 x 1 p2 p1 1 H locs ls hf hP hD hS (lv_sub hl [] rfl)
  exact M0 s.heap [] ls hf hP hD hS hl
/-! Compactforms.pop(IZ)I -/
def fX7_pop_26 (k : Nat) (x : FSt) (s0 : Int32) (s1 : Int32) (s2 : Int32) : Option (FSt × (Int32 ⊕ Nat)) := (fX7_call k x s2 s1 s0 0 0).bind (fun u1 => keep u1.1 (fun x3 => some (x3, (.inl u1.2))))
def fX7_pop (k : Nat) (x : FSt) (p1 : Int32) (p2 : Int32) : Option (FSt × (Int32 ⊕ Nat)) := (fX7_needKey p1).bind (fun u4 => thr u4 (fun k6 => some (x, .inr k6)) (fun r7 => (fX7_needType k x p1 1).bind (fun u9 => thr u9 (fun k11 => some (x, .inr k11)) (fun r12 => (fX7_needRowLeft k x).bind (fun u14 => thr u14 (fun k16 => some (x, .inr k16)) (fun r17 => (if p2 = 0 then fX7_pop_26 k x 0 p1 2 else fX7_pop_26 k x 1 p1 2)))))))
set_option maxHeartbeats 4000000 in
set_option maxRecDepth 100000 in
theorem met_X7_pop {D : va_G} {cI cV cJ cD : ClassId} (l : Launch) (hlt : l.stackTraces = false) (k : Nat) (vf : Nat → Option Nat) (a : Nat → Nat) (hvf : vf k = some (a 6)) (x : FSt) (p1 : Int32) (p2 : Int32) (res : FSt × (Int32 ⊕ Nat)) (hf : fX7_pop k x p1 p2 = some res) : MX l yX7_pop cX7_pop 3 (some .int) { frames := 7, cells := 3, slots := 18, locals := 180 } D (TY cI cV cJ cD) (W_F cI cV vf a x) (W_F cI cV vf a res.1) [.ref (a 0), .int p1, .int p2] (rsI res.2) := by
  intro sz
  refine vx_ofW (cc := cX7_pop) (maxL := 3) (ret := (some .int)) (by decide +kernel) rfl ?_
  intro p e s m args below meth c s₁ B hml htab hv
  obtain ⟨rfl, hsz, hP, hK, hD0, hE⟩ := hv
  have hx := B.exec
  have hb := B.bytes
  have hr := B.returns
  have hts := atoms_spec (ws := .code yX7_pop cX7_pop 3 (some .int) :: GW) B.pre
  have hg : ∀ w ∈ GW, w.before (([.ref (a 0), .int p1, .int p2] : List Value).toArray) s = true := fun w h => hts w (List.mem_cons_of_mem _ h)
  have hown : s.vm.findClass RX7 = some m.cls := findClass_of_methodNamed B.named
  have hlocks := B.notSynchronized
  subst hsz
  have hD := hD0.self (sz := s.heap.size)
  generalize hAe : va_A (W_F cI cV vf a x) s.heap.size = A at hD hE ⊢
  have hA : ∀ q : Nat, s.heap.size ≤ q → A q := fun q h => by rw [← hAe]; exact Or.inr h
  have hS : va_S A s.heap s.heap [] := va_S.rf
  have hl := lv_entry ([.ref (a 0), .int p1, .int p2]) (n := 3) (Nat.le_of_ble_eq_true rfl)
  rw [lg_entry_eq]
  generalize (lg_sl ([.ref (a 0), .int p1, .int p2]) ++ List.replicate (3 - (lg_sl ([.ref (a 0), .int p1, .int p2])).length) Slot.unset).toArray = ls at hl ⊢
  have hl : lv_has ls 3 [(0, .ref (a 0)), (1, .int p1), (2, .int p2)] := hl
  have L26 : ∀ (x : FSt) (s0 : Int32) (s1 : Int32) (s2 : Int32) (H : Heap) (locs : List Loc) (ls : Array Slot), fX7_pop_26 k x s0 s1 s2  = some res → va_P D vwCl (W_F cI cV vf a x) H → va_D A (W_F cI cV vf a x) → va_S A s.heap H locs → lv_has ls 3 [] → W p l e ({ frames := 7, cells := 3, slots := 18, locals := 180 } : Room) s m ([.ref (a 0), .int p1, .int p2] : List Value).toArray below meth c H locs 3 18 (vx_MQ below (QR D (TY cI cV cJ cD) (W_F cI cV vf a res.1) A (rsI res.2)) (XR D (TY cI cV cJ cD) (W_F cI cV vf a res.1) A (rsI res.2)) (([.ref (a 0), .int p1, .int p2] : List Value).toArray) s 3 18 A) (F0 m 26 ls [.int s0, .int s1, .int s2, .ref (a 0)]) := by
    intro x s0 s1 s2 H locs ls hf hP hD hS hl
    dsimp only [fX7_pop_26] at hf
    refine lv_iconst (v := 0) hx hb dX7_pop_26 (by decide) ?_
    refine lv_iconst (v := 0) hx hb dX7_pop_27 (by decide) ?_
    obtain ⟨u1, hc2, hf⟩ := bind_t hf
    refine k_V (As := [.int s2, .int s1, .int s0, .int 0, .int 0]) (rest := []) (n := 5) ⟨hx, hb, hml, hown, hts⟩ (met_X7_call l k vf a hvf x s2 s1 s0 0 0 u1 hc2) w403 w405 ws11 w1 w406 ⟨rfl, by decide +kernel, by decide +kernel, by decide +kernel⟩ ⟨Nat.le_of_ble_eq_true rfl, Nat.le_of_ble_eq_true rfl⟩ hK hE hP hD hS hA (isC := [0, 1, 2, 3, 4, 5, 6, 7, 8, 9, 10, 11, 12, 13, 14, 15, 16, 17, 18, 19, 20, 21, 22, 23]) (isR := []) (isB := [0, 1, 2, 3, 4, 5, 6, 7, 8, 9, 10, 11, 12, 13, 14, 15, 16, 17, 18, 19, 20, 21, 22, 23]) (ws' := W_F cI cV vf a u1.1) ⟨([] : List Nat).filterMap (fun i : Nat => (W_F cI cV vf a x : va_W)[i]?), rfl, rfl, rfl, rfl, by decide, rfl, rfl⟩ 0 6 rfl rfl rfl rfl hl.1 rfl (Nat.le_of_ble_eq_true rfl) dX7_pop_28 ⟨Nat.le_of_ble_eq_true rfl, Nat.le_of_ble_eq_true rfl⟩ (fun H locs hP hD hS => ?_)
    try dsimp only at hf
    refine W.eq (g2 := F0 m 31 ls [.int u1.2]) rfl ?_
    obtain ⟨x3, hx3⟩ : ∃ z, z = u1.1 := ⟨_, rfl⟩
    replace hf := keep_e hf x3 hx3
    have hP : va_P D vwCl (W_F cI cV vf a x3) H := by rw [hx3]; exact hP
    have hD : va_D A (W_F cI cV vf a x3) := by rw [hx3]; exact hD
    obtain rfl := Option.some.inj hf
    refine vx_ret ?_
    exact W.iret (v := u1.2) hx hb hr (fun t ht hW => ⟨_, rfl, ⟨rfl, by rw [ht]; exact hP, va_K.moved hW.alike hK, hD, hS.F ht⟩⟩) hS.2.2 dX7_pop_31 hlocks
  have M0 : ∀ (H : Heap) (locs : List Loc) (ls : Array Slot), fX7_pop k x p1 p2 = some res → va_P D vwCl (W_F cI cV vf a x) H → va_D A (W_F cI cV vf a x) → va_S A s.heap H locs → lv_has ls 3 [(0, .ref (a 0)), (1, .int p1), (2, .int p2)] → W p l e ({ frames := 7, cells := 3, slots := 18, locals := 180 } : Room) s m ([.ref (a 0), .int p1, .int p2] : List Value).toArray below meth c H locs 0 0 (vx_MQ below (QR D (TY cI cV cJ cD) (W_F cI cV vf a res.1) A (rsI res.2)) (XR D (TY cI cV cJ cD) (W_F cI cV vf a res.1) A (rsI res.2)) (([.ref (a 0), .int p1, .int p2] : List Value).toArray) s 3 18 A) (F0 m 0 ls []) := by
    intro H locs ls hf hP hD hS hl
    dsimp only [fX7_pop] at hf
    refine lv_iload_n hx hb dX7_pop_0 rfl (lv_at hl 1 rfl) ?_
    obtain ⟨u4, hc5, hf⟩ := bind_t hf
    refine k_SX (As := [.int p1]) (rest := []) (n := 1) ⟨hx, hb, hml, hown, hts⟩ (met_X7_needKey l hlt p1 u4 hc5) w209 w210 w1 w211 ⟨by decide +kernel, by decide +kernel, by decide +kernel⟩ ⟨Nat.le_of_ble_eq_true rfl, Nat.le_of_ble_eq_true rfl⟩ hK hE hP hD hS hA (isC := []) (isR := [0, 1, 2, 3, 4, 5, 6, 7, 8, 9, 10, 11, 12, 13, 14, 15, 16, 17, 18, 19, 20, 21, 22, 23]) (isB := [0, 1, 2, 3, 4, 5, 6, 7, 8, 9, 10, 11, 12, 13, 14, 15, 16, 17, 18, 19, 20, 21, 22, 23]) (ws' := W_F cI cV vf a x) ⟨([0, 1, 2, 3, 4, 5, 6, 7, 8, 9, 10, 11, 12, 13, 14, 15, 16, 17, 18, 19, 20, 21, 22, 23] : List Nat).filterMap (fun i : Nat => (W_F cI cV vf a x : va_W)[i]?), rfl, rfl, rfl, rfl, by decide, rfl, rfl⟩ rfl hl.1 rfl (Nat.le_of_ble_eq_true rfl) dX7_pop_1 ⟨Nat.le_of_ble_eq_true rfl, Nat.le_of_ble_eq_true rfl⟩ (fun E ce q9 H locs h8 hP hD hS hce hcv hcl => ?_) (fun rv9 H locs h8 hP hD hS => ?_)
    · obtain ⟨k6, hq9, hE9⟩ := rsV_x h8
      replace hf := thr_x hf hq9
      obtain rfl := Option.some.inj hf
      exact k_out htab hlocks hce hcv hcl (by rw [hE9]; rfl) hK hP hD hS (Nat.le_of_ble_eq_true rfl) (Nat.le_of_ble_eq_true rfl)
    obtain ⟨r7, hq9, rfl⟩ := rsV_v h8
    replace hf := thr_v hf hq9
    refine W.eq (g2 := F0 m 4 ls []) rfl ?_
    refine lv_aload_n hx hb dX7_pop_4 rfl (lv_at hl 0 rfl) ?_
    refine lv_iload_n hx hb dX7_pop_5 rfl (lv_at hl 1 rfl) ?_
    refine lv_iconst (v := 1) hx hb dX7_pop_6 (by decide) ?_
    obtain ⟨u9, hc10, hf⟩ := bind_t hf
    refine k_VX (As := [.int p1, .int 1]) (rest := []) (n := 2) ⟨hx, hb, hml, hown, hts⟩ (met_X7_needType l hlt k vf a hvf x p1 1 u9 hc10) w373 w375 ws8 w1 w376 ⟨rfl, by decide +kernel, by decide +kernel, by decide +kernel⟩ ⟨Nat.le_of_ble_eq_true rfl, Nat.le_of_ble_eq_true rfl⟩ hK hE hP hD hS hA (isC := [0, 1, 2, 3, 4, 5, 6, 7, 8, 9, 10, 11, 12, 13, 14, 15, 16, 17, 18, 19, 20, 21, 22, 23]) (isR := []) (isB := [0, 1, 2, 3, 4, 5, 6, 7, 8, 9, 10, 11, 12, 13, 14, 15, 16, 17, 18, 19, 20, 21, 22, 23]) (ws' := W_F cI cV vf a x) ⟨([] : List Nat).filterMap (fun i : Nat => (W_F cI cV vf a x : va_W)[i]?), rfl, rfl, rfl, rfl, by decide, rfl, rfl⟩ 0 6 rfl rfl rfl rfl hl.1 rfl (Nat.le_of_ble_eq_true rfl) dX7_pop_7 ⟨Nat.le_of_ble_eq_true rfl, Nat.le_of_ble_eq_true rfl⟩ (fun E ce q9 H locs h13 hP hD hS hce hcv hcl => ?_) (fun rv9 H locs h13 hP hD hS => ?_)
    · obtain ⟨k11, hq9, hE9⟩ := rsV_x h13
      replace hf := thr_x hf hq9
      obtain rfl := Option.some.inj hf
      exact k_out htab hlocks hce hcv hcl (by rw [hE9]; rfl) hK hP hD hS (Nat.le_of_ble_eq_true rfl) (Nat.le_of_ble_eq_true rfl)
    obtain ⟨r12, hq9, rfl⟩ := rsV_v h13
    replace hf := thr_v hf hq9
    refine W.eq (g2 := F0 m 10 ls []) rfl ?_
    refine lv_aload_n hx hb dX7_pop_10 rfl (lv_at hl 0 rfl) ?_
    obtain ⟨u14, hc15, hf⟩ := bind_t hf
    refine k_VX (As := []) (rest := []) (n := 0) ⟨hx, hb, hml, hown, hts⟩ (met_X7_needRowLeft l hlt k vf a hvf x u14 hc15) w398 w400 ws10 w1 w401 ⟨rfl, by decide +kernel, by decide +kernel, by decide +kernel⟩ ⟨Nat.le_of_ble_eq_true rfl, Nat.le_of_ble_eq_true rfl⟩ hK hE hP hD hS hA (isC := [0, 1, 2, 3, 4, 5, 6, 7, 8, 9, 10, 11, 12, 13, 14, 15, 16, 17, 18, 19, 20, 21, 22, 23]) (isR := []) (isB := [0, 1, 2, 3, 4, 5, 6, 7, 8, 9, 10, 11, 12, 13, 14, 15, 16, 17, 18, 19, 20, 21, 22, 23]) (ws' := W_F cI cV vf a x) ⟨([] : List Nat).filterMap (fun i : Nat => (W_F cI cV vf a x : va_W)[i]?), rfl, rfl, rfl, rfl, by decide, rfl, rfl⟩ 0 6 rfl rfl rfl rfl hl.1 rfl (Nat.le_of_ble_eq_true rfl) dX7_pop_11 ⟨Nat.le_of_ble_eq_true rfl, Nat.le_of_ble_eq_true rfl⟩ (fun E ce q9 H locs h18 hP hD hS hce hcv hcl => ?_) (fun rv9 H locs h18 hP hD hS => ?_)
    · obtain ⟨k16, hq9, hE9⟩ := rsV_x h18
      replace hf := thr_x hf hq9
      obtain rfl := Option.some.inj hf
      exact k_out htab hlocks hce hcv hcl (by rw [hE9]; rfl) hK hP hD hS (Nat.le_of_ble_eq_true rfl) (Nat.le_of_ble_eq_true rfl)
    obtain ⟨r17, hq9, rfl⟩ := rsV_v h18
    replace hf := thr_v hf hq9
    refine W.eq (g2 := F0 m 14 ls []) rfl ?_
    refine lv_aload_n hx hb dX7_pop_14 rfl (lv_at hl 0 rfl) ?_
    refine lv_iconst (v := 2) hx hb dX7_pop_15 (by decide) ?_
    refine lv_iload_n hx hb dX7_pop_16 rfl (lv_at hl 1 rfl) ?_
    refine lv_iload_n hx hb dX7_pop_17 rfl (lv_at hl 2 rfl) ?_
    refine lv_if_eq (tgt := 25) hx hb dX7_pop_18 (by decide) (fun c19 => ?_) (fun c19 => ?_)
    · replace hf := if_t c19 hf
      refine lv_iconst (v := 0) hx hb dX7_pop_25 (by decide) ?_
      exact L26 x 0 p1 2 H locs ls hf hP hD hS (lv_sub hl [] rfl)
    · replace hf := if_f c19 hf
      refine lv_iconst (v := 1) hx hb dX7_pop_21 (by decide) ?_
      refine lv_goto (tgt := 26) hx hb dX7_pop_22 (by decide) ?_
      exact L26 x 1 p1 2 H locs ls hf hP hD hS (lv_sub hl [] rfl)
  exact M0 s.heap [] ls hf hP hD hS hl
/-! Compactforms.placeIn(II)I -/
def fX7_placeIn (k : Nat) (x : FSt) (p1 : Int32) (p2 : Int32) : Option (Int32) := (fX7_isThere k x p1).bind (fun u1 => (if u1 = 0 then some (-1) else chk (keyok p1 k) (sel (vlFm (fV x)) ((fX4_placeOf 16 (vlSm (fV x)) p2).bind (fun u6 => some u6)) ((fX0_placeOf (vlCh (fV x)) p2).bind (fun u8 => some u8)) ((fX5_placeOf (vlTb (fV x)) p2).bind (fun u10 => some u10)))))
set_option maxHeartbeats 4000000 in
set_option maxRecDepth 100000 in
theorem met_X7_placeIn {D : va_G} {cI cV cJ cD : ClassId} (l : Launch) (k : Nat) (vf : Nat → Option Nat) (a : Nat → Nat) (hvf : vf k = some (a 6)) (x : FSt) (p1 : Int32) (p2 : Int32) (res : Int32) (hf : fX7_placeIn k x p1 p2 = some res) : MM l yX7_placeIn cX7_placeIn 3 (some .int) { frames := 2, cells := 0, slots := 0, locals := 46 } D (TY cI cV cJ cD) (W_F cI cV vf a x) (W_F cI cV vf a x) [.ref (a 0), .int p1, .int p2] (some (.int res)) := by
  intro sz
  refine Met.ofW (cc := cX7_placeIn) (maxL := 3) (ret := (some .int)) (by decide +kernel) rfl ?_
  intro p e s m args below meth c s₁ B hml hv
  obtain ⟨rfl, hsz, hP, hK, hD0, hE⟩ := hv
  have hx := B.exec
  have hb := B.bytes
  have hr := B.returns
  have hts := atoms_spec (ws := .code yX7_placeIn cX7_placeIn 3 (some .int) :: GW) B.pre
  have hg : ∀ w ∈ GW, w.before (([.ref (a 0), .int p1, .int p2] : List Value).toArray) s = true := fun w h => hts w (List.mem_cons_of_mem _ h)
  have hown : s.vm.findClass RX7 = some m.cls := findClass_of_methodNamed B.named
  have hlocks := B.notSynchronized
  subst hsz
  have hD := hD0.self (sz := s.heap.size)
  generalize hAe : va_A (W_F cI cV vf a x) s.heap.size = A at hD hE ⊢
  have hA : ∀ q : Nat, s.heap.size ≤ q → A q := fun q h => by rw [← hAe]; exact Or.inr h
  have hS : va_S A s.heap s.heap [] := va_S.rf
  have hl := lv_entry ([.ref (a 0), .int p1, .int p2]) (n := 3) (Nat.le_of_ble_eq_true rfl)
  rw [lg_entry_eq]
  generalize (lg_sl ([.ref (a 0), .int p1, .int p2]) ++ List.replicate (3 - (lg_sl ([.ref (a 0), .int p1, .int p2])).length) Slot.unset).toArray = ls at hl ⊢
  have hl : lv_has ls 3 [(0, .ref (a 0)), (1, .int p1), (2, .int p2)] := hl
  have M0 : ∀ (H : Heap) (locs : List Loc) (ls : Array Slot), fX7_placeIn k x p1 p2 = some res → va_P D vwCl (W_F cI cV vf a x) H → va_D A (W_F cI cV vf a x) → va_S A s.heap H locs → lv_has ls 3 [(0, .ref (a 0)), (1, .int p1), (2, .int p2)] → W p l e ({ frames := 2, cells := 0, slots := 0, locals := 46 } : Room) s m ([.ref (a 0), .int p1, .int p2] : List Value).toArray below meth c H locs 0 0 (MQ below (QW D (TY cI cV cJ cD) (W_F cI cV vf a x) A (some (.int res))) (([.ref (a 0), .int p1, .int p2] : List Value).toArray) s 0 0 A) (F0 m 0 ls []) := by
    intro H locs ls hf hP hD hS hl
    dsimp only [fX7_placeIn] at hf
    refine lv_aload_n hx hb dX7_placeIn_0 rfl (lv_at hl 0 rfl) ?_
    refine lv_iload_n hx hb dX7_placeIn_1 rfl (lv_at hl 1 rfl) ?_
    obtain ⟨u1, hc2, hf⟩ := bind_t hf
    refine k_V (As := [.int p1]) (rest := []) (n := 1) ⟨hx, hb, hml, hown, hts⟩ (met_X7_isThere l k vf a hvf x p1 u1 hc2) w290 w292 ws2 w1 w293 ⟨rfl, by decide +kernel, by decide +kernel, by decide +kernel⟩ ⟨Nat.le_of_ble_eq_true rfl, Nat.le_of_ble_eq_true rfl⟩ hK hE hP hD hS hA (isC := [0, 1, 2, 3, 4, 5, 6, 7, 8, 9, 10, 11, 12, 13, 14, 15, 16, 17, 18, 19, 20, 21, 22, 23]) (isR := []) (isB := [0, 1, 2, 3, 4, 5, 6, 7, 8, 9, 10, 11, 12, 13, 14, 15, 16, 17, 18, 19, 20, 21, 22, 23]) (ws' := W_F cI cV vf a x) ⟨([] : List Nat).filterMap (fun i : Nat => (W_F cI cV vf a x : va_W)[i]?), rfl, rfl, rfl, rfl, by decide, rfl, rfl⟩ 0 6 rfl rfl rfl rfl hl.1 rfl (Nat.le_of_ble_eq_true rfl) dX7_placeIn_2 ⟨Nat.le_of_ble_eq_true rfl, Nat.le_of_ble_eq_true rfl⟩ (fun H locs hP hD hS => ?_)
    try dsimp only at hf
    refine W.eq (g2 := F0 m 5 ls [.int u1]) rfl ?_
    refine lv_if_eq (tgt := 24) hx hb dX7_placeIn_5 (by decide) (fun c3 => ?_) (fun c3 => ?_)
    · replace hf := if_t c3 hf
      refine lv_iconst (v := (-1)) hx hb dX7_placeIn_24 (by decide) ?_
      obtain rfl := Option.some.inj hf
      exact W.iret (v := (-1)) hx hb hr (fun t ht hW => ⟨rfl, by rw [ht]; exact hP, va_K.moved hW.alike hK, hD, hS.F ht⟩) hS.2.2 dX7_placeIn_25 hlocks
    · replace hf := if_f c3 hf
      refine lv_aload_n hx hb dX7_placeIn_8 rfl (lv_at hl 0 rfl) ?_
      refine va_get (D := D) (ci := 6) (v := .ref (a 1)) (C := RX7) (T := TX7) (N := 8) hx hb hg in_X7 hown hK hP 0 rfl rfl 0 (by decide) (hg _ w167) (fun _ h9 => h9) rfl dX7_placeIn_9 ?_
      refine lv_iload_n hx hb dX7_placeIn_12 rfl (lv_at hl 1 rfl) ?_
      obtain ⟨hi4, hf⟩ := chk_t hf
      refine va_aldq hx hb hK hP 1 1 rfl rfl (keyok_i hi4) dX7_placeIn_13 ?_
      refine W.eq (g2 := F0 m 14 ls [.ref (a 6)]) (by rw [keyok_k hi4, hvf]; rfl) ?_
      refine va_getN (D := D) (ci := 5) (v := .ref (a (6 + (vlFm (fV x))))) (C := RX6) (T := TX6) (N := 10) hx hb hg in_X6 hown hK hP 6 rfl rfl 9 (by decide) (nwF_148 hE.1) (fun _ h9 => h9) rfl dX7_placeIn_14 ?_
      refine lv_iload_n hx hb dX7_placeIn_17 rfl (lv_at hl 2 rfl) ?_
      rcases sel_t hf with ⟨hq5, hf⟩ | ⟨hq5, hf⟩ | ⟨hq5, hf⟩
      · rw [hq5]
        obtain ⟨u6, hc7, hf⟩ := bind_t hf
        refine k_U (owner := "Compactforms$Form") (x := ⟨"Compactforms$Form", "placeOf", "(I)I"⟩) (As := [.int p2]) (rest := []) (n := 1) ⟨hx, hb, hml, hown, hts⟩ (met_X4_placeOf l 16 (fun j => a (7 + j)) (vlSm (fV x)) p2 u6 hc7) w340 w342 w346 w347 w5 w348 (hE.1.2.2.1 _ (List.mem_append_left _ (List.mem_of_getElem? (i := 4) rfl))) ⟨by decide +kernel, by decide +kernel, by decide +kernel⟩ ⟨Nat.le_of_ble_eq_true rfl, Nat.le_of_ble_eq_true rfl⟩ hK hE hP hD hS hA (isC := [7, 8, 9]) (isR := [0, 1, 2, 3, 4, 5, 6, 10, 11, 12, 13, 14, 15, 16, 17, 18, 19, 20, 21, 22, 23]) (isB := [0, 1, 2, 3, 4, 5, 6, 21, 22, 23, 7, 8, 9, 10, 11, 12, 13, 14, 15, 16, 17, 18, 19, 20]) (ws' := W_F cI cV vf a x) ⟨([0, 1, 2, 3, 4, 5, 6, 10, 11, 12, 13, 14, 15, 16, 17, 18, 19, 20, 21, 22, 23] : List Nat).filterMap (fun i : Nat => (W_F cI cV vf a x : va_W)[i]?), rfl, rfl, rfl, rfl, by decide, rfl, rfl⟩ 7 3 rfl rfl rfl rfl hl.1 rfl (Nat.le_of_ble_eq_true rfl) dX7_placeIn_18 ⟨Nat.le_of_ble_eq_true rfl, Nat.le_of_ble_eq_true rfl⟩ (fun H locs hP hD hS => ?_)
        try dsimp only at hf
        refine W.eq (g2 := F0 m 21 ls [.int u6]) rfl ?_
        refine lv_goto (tgt := 25) hx hb dX7_placeIn_21 (by decide) ?_
        obtain rfl := Option.some.inj hf
        exact W.iret (v := u6) hx hb hr (fun t ht hW => ⟨rfl, by rw [ht]; exact hP, va_K.moved hW.alike hK, hD, hS.F ht⟩) hS.2.2 dX7_placeIn_25 hlocks
      · rw [hq5]
        obtain ⟨u8, hc9, hf⟩ := bind_t hf
        refine k_U (owner := "Compactforms$Form") (x := ⟨"Compactforms$Form", "placeOf", "(I)I"⟩) (As := [.int p2]) (rest := []) (n := 1) ⟨hx, hb, hml, hown, hts⟩ (met_X0_placeOf l (fun j => a (10 + j)) (vlCh (fV x)) p2 u8 hc9) w340 w342 w343 w344 w6 w345 (hE.1.2.2.1 _ (List.mem_append_left _ (List.mem_of_getElem? (i := 4) rfl))) ⟨by decide +kernel, by decide +kernel, by decide +kernel⟩ ⟨Nat.le_of_ble_eq_true rfl, Nat.le_of_ble_eq_true rfl⟩ hK hE hP hD hS hA (isC := [10, 11, 12, 13]) (isR := [0, 1, 2, 3, 4, 5, 6, 7, 8, 9, 14, 15, 16, 17, 18, 19, 20, 21, 22, 23]) (isB := [0, 1, 2, 3, 4, 5, 6, 7, 8, 9, 20, 21, 22, 23, 10, 11, 12, 13, 14, 15, 16, 17, 18, 19]) (ws' := W_F cI cV vf a x) ⟨([0, 1, 2, 3, 4, 5, 6, 7, 8, 9, 14, 15, 16, 17, 18, 19, 20, 21, 22, 23] : List Nat).filterMap (fun i : Nat => (W_F cI cV vf a x : va_W)[i]?), rfl, rfl, rfl, rfl, by decide, rfl, rfl⟩ 10 0 rfl rfl rfl rfl hl.1 rfl (Nat.le_of_ble_eq_true rfl) dX7_placeIn_18 ⟨Nat.le_of_ble_eq_true rfl, Nat.le_of_ble_eq_true rfl⟩ (fun H locs hP hD hS => ?_)
        try dsimp only at hf
        refine W.eq (g2 := F0 m 21 ls [.int u8]) rfl ?_
        refine lv_goto (tgt := 25) hx hb dX7_placeIn_21 (by decide) ?_
        obtain rfl := Option.some.inj hf
        exact W.iret (v := u8) hx hb hr (fun t ht hW => ⟨rfl, by rw [ht]; exact hP, va_K.moved hW.alike hK, hD, hS.F ht⟩) hS.2.2 dX7_placeIn_25 hlocks
      · rw [hq5]
        obtain ⟨u10, hc11, hf⟩ := bind_t hf
        refine k_U (owner := "Compactforms$Form") (x := ⟨"Compactforms$Form", "placeOf", "(I)I"⟩) (As := [.int p2]) (rest := []) (n := 1) ⟨hx, hb, hml, hown, hts⟩ (met_X5_placeOf l (fun j => a (14 + j)) (vlTb (fV x)) p2 u10 hc11) w340 w342 w349 w350 w7 w351 (hE.1.2.2.1 _ (List.mem_append_left _ (List.mem_of_getElem? (i := 4) rfl))) ⟨by decide +kernel, by decide +kernel, by decide +kernel⟩ ⟨Nat.le_of_ble_eq_true rfl, Nat.le_of_ble_eq_true rfl⟩ hK hE hP hD hS hA (isC := [14, 15, 16, 17]) (isR := [0, 1, 2, 3, 4, 5, 6, 7, 8, 9, 10, 11, 12, 13, 18, 19, 20, 21, 22, 23]) (isB := [0, 1, 2, 3, 4, 5, 6, 7, 8, 9, 10, 11, 12, 13, 20, 21, 22, 23, 14, 15, 16, 17, 18, 19]) (ws' := W_F cI cV vf a x) ⟨([0, 1, 2, 3, 4, 5, 6, 7, 8, 9, 10, 11, 12, 13, 18, 19, 20, 21, 22, 23] : List Nat).filterMap (fun i : Nat => (W_F cI cV vf a x : va_W)[i]?), rfl, rfl, rfl, rfl, by decide, rfl, rfl⟩ 14 4 rfl rfl rfl rfl hl.1 rfl (Nat.le_of_ble_eq_true rfl) dX7_placeIn_18 ⟨Nat.le_of_ble_eq_true rfl, Nat.le_of_ble_eq_true rfl⟩ (fun H locs hP hD hS => ?_)
        try dsimp only at hf
        refine W.eq (g2 := F0 m 21 ls [.int u10]) rfl ?_
        refine lv_goto (tgt := 25) hx hb dX7_placeIn_21 (by decide) ?_
        obtain rfl := Option.some.inj hf
        exact W.iret (v := u10) hx hb hr (fun t ht hW => ⟨rfl, by rw [ht]; exact hP, va_K.moved hW.alike hK, hD, hS.F ht⟩) hS.2.2 dX7_placeIn_25 hlocks
  exact M0 s.heap [] ls hf hP hD hS hl
/-! Compactforms.add(II)Z -/
def fX7_add_29 (k : Nat) (x : FSt) (v1 : Int32) (v2 : Int32) : Option (FSt × (Int32 ⊕ Nat)) := (fX7_needRowLeft k x).bind (fun u1 => thr u1 (fun k3 => some (x, .inr k3)) (fun r4 => (fX7_call k x 5 v1 v2 0 0).bind (fun u6 => keep u6.1 (fun x8 => (if u6.2 ≤ 0 then some (x8, (.inl 0)) else some (x8, (.inl 1)))))))
def fX7_add (k : Nat) (x : FSt) (p1 : Int32) (p2 : Int32) : Option (FSt × (Int32 ⊕ Nat)) := (fX7_needKey p1).bind (fun u10 => thr u10 (fun k12 => some (x, .inr k12)) (fun r13 => (fX7_needValue p2).bind (fun u15 => thr u15 (fun k17 => some (x, .inr k17)) (fun r18 => (fX7_needTypeOrAbsent k x p1 2).bind (fun u20 => thr u20 (fun k22 => some (x, .inr k22)) (fun r23 => (fX7_placeIn k x p1 p2).bind (fun u25 => (if u25 = (-1) then (fX7_needRoom k x p1).bind (fun u28 => thr u28 (fun k30 => some (x, .inr k30)) (fun r31 => fX7_add_29 k x p1 p2)) else fX7_add_29 k x p1 p2))))))))
set_option maxHeartbeats 4000000 in
set_option maxRecDepth 100000 in
theorem met_X7_add {D : va_G} {cI cV cJ cD : ClassId} (l : Launch) (hlt : l.stackTraces = false) (k : Nat) (vf : Nat → Option Nat) (a : Nat → Nat) (hvf : vf k = some (a 6)) (x : FSt) (p1 : Int32) (p2 : Int32) (res : FSt × (Int32 ⊕ Nat)) (hf : fX7_add k x p1 p2 = some res) : MX l yX7_add cX7_add 3 (some .boolean) { frames := 8, cells := 5, slots := 30, locals := 180 } D (TY cI cV cJ cD) (W_F cI cV vf a x) (W_F cI cV vf a res.1) [.ref (a 0), .int p1, .int p2] (rsI res.2) := by
  intro sz
  refine vx_ofW (cc := cX7_add) (maxL := 3) (ret := (some .boolean)) (by decide +kernel) rfl ?_
  intro p e s m args below meth c s₁ B hml htab hv
  obtain ⟨rfl, hsz, hP, hK, hD0, hE⟩ := hv
  have hx := B.exec
  have hb := B.bytes
  have hr := B.returns
  have hts := atoms_spec (ws := .code yX7_add cX7_add 3 (some .boolean) :: GW) B.pre
  have hg : ∀ w ∈ GW, w.before (([.ref (a 0), .int p1, .int p2] : List Value).toArray) s = true := fun w h => hts w (List.mem_cons_of_mem _ h)
  have hown : s.vm.findClass RX7 = some m.cls := findClass_of_methodNamed B.named
  have hlocks := B.notSynchronized
  subst hsz
  have hD := hD0.self (sz := s.heap.size)
  generalize hAe : va_A (W_F cI cV vf a x) s.heap.size = A at hD hE ⊢
  have hA : ∀ q : Nat, s.heap.size ≤ q → A q := fun q h => by rw [← hAe]; exact Or.inr h
  have hS : va_S A s.heap s.heap [] := va_S.rf
  have hl := lv_entry ([.ref (a 0), .int p1, .int p2]) (n := 3) (Nat.le_of_ble_eq_true rfl)
  rw [lg_entry_eq]
  generalize (lg_sl ([.ref (a 0), .int p1, .int p2]) ++ List.replicate (3 - (lg_sl ([.ref (a 0), .int p1, .int p2])).length) Slot.unset).toArray = ls at hl ⊢
  have hl : lv_has ls 3 [(0, .ref (a 0)), (1, .int p1), (2, .int p2)] := hl
  have L29 : ∀ (x : FSt) (v1 : Int32) (v2 : Int32) (H : Heap) (locs : List Loc) (ls : Array Slot), fX7_add_29 k x v1 v2  = some res → va_P D vwCl (W_F cI cV vf a x) H → va_D A (W_F cI cV vf a x) → va_S A s.heap H locs → lv_has ls 3 [(0, .ref (a 0)), (1, .int v1), (2, .int v2)] → W p l e ({ frames := 8, cells := 5, slots := 30, locals := 180 } : Room) s m ([.ref (a 0), .int p1, .int p2] : List Value).toArray below meth c H locs 4 24 (vx_MQ below (QR D (TY cI cV cJ cD) (W_F cI cV vf a res.1) A (rsI res.2)) (XR D (TY cI cV cJ cD) (W_F cI cV vf a res.1) A (rsI res.2)) (([.ref (a 0), .int p1, .int p2] : List Value).toArray) s 5 30 A) (F0 m 29 ls []) := by
    intro x v1 v2 H locs ls hf hP hD hS hl
    dsimp only [fX7_add_29] at hf
    refine lv_aload_n hx hb dX7_add_29 rfl (lv_at hl 0 rfl) ?_
    obtain ⟨u1, hc2, hf⟩ := bind_t hf
    refine k_VX (As := []) (rest := []) (n := 0) ⟨hx, hb, hml, hown, hts⟩ (met_X7_needRowLeft l hlt k vf a hvf x u1 hc2) w398 w400 ws10 w1 w401 ⟨rfl, by decide +kernel, by decide +kernel, by decide +kernel⟩ ⟨Nat.le_of_ble_eq_true rfl, Nat.le_of_ble_eq_true rfl⟩ hK hE hP hD hS hA (isC := [0, 1, 2, 3, 4, 5, 6, 7, 8, 9, 10, 11, 12, 13, 14, 15, 16, 17, 18, 19, 20, 21, 22, 23]) (isR := []) (isB := [0, 1, 2, 3, 4, 5, 6, 7, 8, 9, 10, 11, 12, 13, 14, 15, 16, 17, 18, 19, 20, 21, 22, 23]) (ws' := W_F cI cV vf a x) ⟨([] : List Nat).filterMap (fun i : Nat => (W_F cI cV vf a x : va_W)[i]?), rfl, rfl, rfl, rfl, by decide, rfl, rfl⟩ 0 6 rfl rfl rfl rfl hl.1 rfl (Nat.le_of_ble_eq_true rfl) dX7_add_30 ⟨Nat.le_of_ble_eq_true rfl, Nat.le_of_ble_eq_true rfl⟩ (fun E ce q9 H locs h5 hP hD hS hce hcv hcl => ?_) (fun rv9 H locs h5 hP hD hS => ?_)
    · obtain ⟨k3, hq9, hE9⟩ := rsV_x h5
      replace hf := thr_x hf hq9
      obtain rfl := Option.some.inj hf
      exact k_out htab hlocks hce hcv hcl (by rw [hE9]; rfl) hK hP hD hS (Nat.le_of_ble_eq_true rfl) (Nat.le_of_ble_eq_true rfl)
    obtain ⟨r4, hq9, rfl⟩ := rsV_v h5
    replace hf := thr_v hf hq9
    refine W.eq (g2 := F0 m 33 ls []) rfl ?_
    refine lv_aload_n hx hb dX7_add_33 rfl (lv_at hl 0 rfl) ?_
    refine lv_iconst (v := 5) hx hb dX7_add_34 (by decide) ?_
    refine lv_iload_n hx hb dX7_add_35 rfl (lv_at hl 1 rfl) ?_
    refine lv_iload_n hx hb dX7_add_36 rfl (lv_at hl 2 rfl) ?_
    refine lv_iconst (v := 0) hx hb dX7_add_37 (by decide) ?_
    refine lv_iconst (v := 0) hx hb dX7_add_38 (by decide) ?_
    obtain ⟨u6, hc7, hf⟩ := bind_t hf
    refine k_V (As := [.int 5, .int v1, .int v2, .int 0, .int 0]) (rest := []) (n := 5) ⟨hx, hb, hml, hown, hts⟩ (met_X7_call l k vf a hvf x 5 v1 v2 0 0 u6 hc7) w403 w405 ws11 w1 w406 ⟨rfl, by decide +kernel, by decide +kernel, by decide +kernel⟩ ⟨Nat.le_of_ble_eq_true rfl, Nat.le_of_ble_eq_true rfl⟩ hK hE hP hD hS hA (isC := [0, 1, 2, 3, 4, 5, 6, 7, 8, 9, 10, 11, 12, 13, 14, 15, 16, 17, 18, 19, 20, 21, 22, 23]) (isR := []) (isB := [0, 1, 2, 3, 4, 5, 6, 7, 8, 9, 10, 11, 12, 13, 14, 15, 16, 17, 18, 19, 20, 21, 22, 23]) (ws' := W_F cI cV vf a u6.1) ⟨([] : List Nat).filterMap (fun i : Nat => (W_F cI cV vf a x : va_W)[i]?), rfl, rfl, rfl, rfl, by decide, rfl, rfl⟩ 0 6 rfl rfl rfl rfl hl.1 rfl (Nat.le_of_ble_eq_true rfl) dX7_add_39 ⟨Nat.le_of_ble_eq_true rfl, Nat.le_of_ble_eq_true rfl⟩ (fun H locs hP hD hS => ?_)
    try dsimp only at hf
    refine W.eq (g2 := F0 m 42 ls [.int u6.2]) rfl ?_
    obtain ⟨x8, hx8⟩ : ∃ z, z = u6.1 := ⟨_, rfl⟩
    replace hf := keep_e hf x8 hx8
    have hP : va_P D vwCl (W_F cI cV vf a x8) H := by rw [hx8]; exact hP
    have hD : va_D A (W_F cI cV vf a x8) := by rw [hx8]; exact hD
    refine lv_if_le (tgt := 49) hx hb dX7_add_42 (by decide) (fun c9 => ?_) (fun c9 => ?_)
    · replace hf := if_t c9 hf
      refine lv_iconst (v := 0) hx hb dX7_add_49 (by decide) ?_
      obtain rfl := Option.some.inj hf
      refine vx_ret ?_
      exact W.zret (v := 0) hx hb hr (by decide +kernel) (fun t ht hW => ⟨_, rfl, ⟨rfl, by rw [ht]; exact hP, va_K.moved hW.alike hK, hD, hS.F ht⟩⟩) hS.2.2 dX7_add_50 hlocks
    · replace hf := if_f c9 hf
      refine lv_iconst (v := 1) hx hb dX7_add_45 (by decide) ?_
      refine lv_goto (tgt := 50) hx hb dX7_add_46 (by decide) ?_
      obtain rfl := Option.some.inj hf
      refine vx_ret ?_
      exact W.zret (v := 1) hx hb hr (by decide +kernel) (fun t ht hW => ⟨_, rfl, ⟨rfl, by rw [ht]; exact hP, va_K.moved hW.alike hK, hD, hS.F ht⟩⟩) hS.2.2 dX7_add_50 hlocks
  have M0 : ∀ (H : Heap) (locs : List Loc) (ls : Array Slot), fX7_add k x p1 p2 = some res → va_P D vwCl (W_F cI cV vf a x) H → va_D A (W_F cI cV vf a x) → va_S A s.heap H locs → lv_has ls 3 [(0, .ref (a 0)), (1, .int p1), (2, .int p2)] → W p l e ({ frames := 8, cells := 5, slots := 30, locals := 180 } : Room) s m ([.ref (a 0), .int p1, .int p2] : List Value).toArray below meth c H locs 0 0 (vx_MQ below (QR D (TY cI cV cJ cD) (W_F cI cV vf a res.1) A (rsI res.2)) (XR D (TY cI cV cJ cD) (W_F cI cV vf a res.1) A (rsI res.2)) (([.ref (a 0), .int p1, .int p2] : List Value).toArray) s 5 30 A) (F0 m 0 ls []) := by
    intro H locs ls hf hP hD hS hl
    dsimp only [fX7_add] at hf
    refine lv_iload_n hx hb dX7_add_0 rfl (lv_at hl 1 rfl) ?_
    obtain ⟨u10, hc11, hf⟩ := bind_t hf
    refine k_SX (As := [.int p1]) (rest := []) (n := 1) ⟨hx, hb, hml, hown, hts⟩ (met_X7_needKey l hlt p1 u10 hc11) w209 w210 w1 w211 ⟨by decide +kernel, by decide +kernel, by decide +kernel⟩ ⟨Nat.le_of_ble_eq_true rfl, Nat.le_of_ble_eq_true rfl⟩ hK hE hP hD hS hA (isC := []) (isR := [0, 1, 2, 3, 4, 5, 6, 7, 8, 9, 10, 11, 12, 13, 14, 15, 16, 17, 18, 19, 20, 21, 22, 23]) (isB := [0, 1, 2, 3, 4, 5, 6, 7, 8, 9, 10, 11, 12, 13, 14, 15, 16, 17, 18, 19, 20, 21, 22, 23]) (ws' := W_F cI cV vf a x) ⟨([0, 1, 2, 3, 4, 5, 6, 7, 8, 9, 10, 11, 12, 13, 14, 15, 16, 17, 18, 19, 20, 21, 22, 23] : List Nat).filterMap (fun i : Nat => (W_F cI cV vf a x : va_W)[i]?), rfl, rfl, rfl, rfl, by decide, rfl, rfl⟩ rfl hl.1 rfl (Nat.le_of_ble_eq_true rfl) dX7_add_1 ⟨Nat.le_of_ble_eq_true rfl, Nat.le_of_ble_eq_true rfl⟩ (fun E ce q9 H locs h14 hP hD hS hce hcv hcl => ?_) (fun rv9 H locs h14 hP hD hS => ?_)
    · obtain ⟨k12, hq9, hE9⟩ := rsV_x h14
      replace hf := thr_x hf hq9
      obtain rfl := Option.some.inj hf
      exact k_out htab hlocks hce hcv hcl (by rw [hE9]; rfl) hK hP hD hS (Nat.le_of_ble_eq_true rfl) (Nat.le_of_ble_eq_true rfl)
    obtain ⟨r13, hq9, rfl⟩ := rsV_v h14
    replace hf := thr_v hf hq9
    refine W.eq (g2 := F0 m 4 ls []) rfl ?_
    refine lv_iload_n hx hb dX7_add_4 rfl (lv_at hl 2 rfl) ?_
    obtain ⟨u15, hc16, hf⟩ := bind_t hf
    refine k_SX (As := [.int p2]) (rest := []) (n := 1) ⟨hx, hb, hml, hown, hts⟩ (met_X7_needValue l hlt p2 u15 hc16) w314 w315 w1 w316 ⟨by decide +kernel, by decide +kernel, by decide +kernel⟩ ⟨Nat.le_of_ble_eq_true rfl, Nat.le_of_ble_eq_true rfl⟩ hK hE hP hD hS hA (isC := []) (isR := [0, 1, 2, 3, 4, 5, 6, 7, 8, 9, 10, 11, 12, 13, 14, 15, 16, 17, 18, 19, 20, 21, 22, 23]) (isB := [0, 1, 2, 3, 4, 5, 6, 7, 8, 9, 10, 11, 12, 13, 14, 15, 16, 17, 18, 19, 20, 21, 22, 23]) (ws' := W_F cI cV vf a x) ⟨([0, 1, 2, 3, 4, 5, 6, 7, 8, 9, 10, 11, 12, 13, 14, 15, 16, 17, 18, 19, 20, 21, 22, 23] : List Nat).filterMap (fun i : Nat => (W_F cI cV vf a x : va_W)[i]?), rfl, rfl, rfl, rfl, by decide, rfl, rfl⟩ rfl hl.1 rfl (Nat.le_of_ble_eq_true rfl) dX7_add_5 ⟨Nat.le_of_ble_eq_true rfl, Nat.le_of_ble_eq_true rfl⟩ (fun E ce q9 H locs h19 hP hD hS hce hcv hcl => ?_) (fun rv9 H locs h19 hP hD hS => ?_)
    · obtain ⟨k17, hq9, hE9⟩ := rsV_x h19
      replace hf := thr_x hf hq9
      obtain rfl := Option.some.inj hf
      exact k_out htab hlocks hce hcv hcl (by rw [hE9]; rfl) hK hP hD hS (Nat.le_of_ble_eq_true rfl) (Nat.le_of_ble_eq_true rfl)
    obtain ⟨r18, hq9, rfl⟩ := rsV_v h19
    replace hf := thr_v hf hq9
    refine W.eq (g2 := F0 m 8 ls []) rfl ?_
    refine lv_aload_n hx hb dX7_add_8 rfl (lv_at hl 0 rfl) ?_
    refine lv_iload_n hx hb dX7_add_9 rfl (lv_at hl 1 rfl) ?_
    refine lv_iconst (v := 2) hx hb dX7_add_10 (by decide) ?_
    obtain ⟨u20, hc21, hf⟩ := bind_t hf
    refine k_VX (As := [.int p1, .int 2]) (rest := []) (n := 2) ⟨hx, hb, hml, hown, hts⟩ (met_X7_needTypeOrAbsent l hlt k vf a hvf x p1 2 u20 hc21) w369 w371 ws7 w1 w372 ⟨rfl, by decide +kernel, by decide +kernel, by decide +kernel⟩ ⟨Nat.le_of_ble_eq_true rfl, Nat.le_of_ble_eq_true rfl⟩ hK hE hP hD hS hA (isC := [0, 1, 2, 3, 4, 5, 6, 7, 8, 9, 10, 11, 12, 13, 14, 15, 16, 17, 18, 19, 20, 21, 22, 23]) (isR := []) (isB := [0, 1, 2, 3, 4, 5, 6, 7, 8, 9, 10, 11, 12, 13, 14, 15, 16, 17, 18, 19, 20, 21, 22, 23]) (ws' := W_F cI cV vf a x) ⟨([] : List Nat).filterMap (fun i : Nat => (W_F cI cV vf a x : va_W)[i]?), rfl, rfl, rfl, rfl, by decide, rfl, rfl⟩ 0 6 rfl rfl rfl rfl hl.1 rfl (Nat.le_of_ble_eq_true rfl) dX7_add_11 ⟨Nat.le_of_ble_eq_true rfl, Nat.le_of_ble_eq_true rfl⟩ (fun E ce q9 H locs h24 hP hD hS hce hcv hcl => ?_) (fun rv9 H locs h24 hP hD hS => ?_)
    · obtain ⟨k22, hq9, hE9⟩ := rsV_x h24
      replace hf := thr_x hf hq9
      obtain rfl := Option.some.inj hf
      exact k_out htab hlocks hce hcv hcl (by rw [hE9]; rfl) hK hP hD hS (Nat.le_of_ble_eq_true rfl) (Nat.le_of_ble_eq_true rfl)
    obtain ⟨r23, hq9, rfl⟩ := rsV_v h24
    replace hf := thr_v hf hq9
    refine W.eq (g2 := F0 m 14 ls []) rfl ?_
    refine lv_aload_n hx hb dX7_add_14 rfl (lv_at hl 0 rfl) ?_
    refine lv_iload_n hx hb dX7_add_15 rfl (lv_at hl 1 rfl) ?_
    refine lv_iload_n hx hb dX7_add_16 rfl (lv_at hl 2 rfl) ?_
    obtain ⟨u25, hc26, hf⟩ := bind_t hf
    refine k_V (As := [.int p1, .int p2]) (rest := []) (n := 2) ⟨hx, hb, hml, hown, hts⟩ (met_X7_placeIn l k vf a hvf x p1 p2 u25 hc26) w336 w338 ws4 w1 w339 ⟨rfl, by decide +kernel, by decide +kernel, by decide +kernel⟩ ⟨Nat.le_of_ble_eq_true rfl, Nat.le_of_ble_eq_true rfl⟩ hK hE hP hD hS hA (isC := [0, 1, 2, 3, 4, 5, 6, 7, 8, 9, 10, 11, 12, 13, 14, 15, 16, 17, 18, 19, 20, 21, 22, 23]) (isR := []) (isB := [0, 1, 2, 3, 4, 5, 6, 7, 8, 9, 10, 11, 12, 13, 14, 15, 16, 17, 18, 19, 20, 21, 22, 23]) (ws' := W_F cI cV vf a x) ⟨([] : List Nat).filterMap (fun i : Nat => (W_F cI cV vf a x : va_W)[i]?), rfl, rfl, rfl, rfl, by decide, rfl, rfl⟩ 0 6 rfl rfl rfl rfl hl.1 rfl (Nat.le_of_ble_eq_true rfl) dX7_add_17 ⟨Nat.le_of_ble_eq_true rfl, Nat.le_of_ble_eq_true rfl⟩ (fun H locs hP hD hS => ?_)
    try dsimp only at hf
    refine W.eq (g2 := F0 m 20 ls [.int u25]) rfl ?_
    refine lv_iconst (v := (-1)) hx hb dX7_add_20 (by decide) ?_
    refine lv_icmp_ne (tgt := 29) hx hb dX7_add_21 (by decide) (fun c27 => ?_) (fun c27 => ?_)
    · replace hf := if_f c27 hf
      refine W.widen (k := 4) (n := 24) (Nat.le_of_ble_eq_true rfl) (Nat.le_of_ble_eq_true rfl) ?_
      exact L29 x p1 p2 H locs ls hf hP hD hS (lv_sub hl [0, 1, 2] rfl)
    · replace hf := if_t c27 hf
      refine lv_aload_n hx hb dX7_add_24 rfl (lv_at hl 0 rfl) ?_
      refine lv_iload_n hx hb dX7_add_25 rfl (lv_at hl 1 rfl) ?_
      obtain ⟨u28, hc29, hf⟩ := bind_t hf
      refine k_VX (As := [.int p1]) (rest := []) (n := 1) ⟨hx, hb, hml, hown, hts⟩ (met_X7_needRoom l hlt k vf a hvf x p1 u28 hc29) w393 w395 ws9 w1 w396 ⟨rfl, by decide +kernel, by decide +kernel, by decide +kernel⟩ ⟨Nat.le_of_ble_eq_true rfl, Nat.le_of_ble_eq_true rfl⟩ hK hE hP hD hS hA (isC := [0, 1, 2, 3, 4, 5, 6, 7, 8, 9, 10, 11, 12, 13, 14, 15, 16, 17, 18, 19, 20, 21, 22, 23]) (isR := []) (isB := [0, 1, 2, 3, 4, 5, 6, 7, 8, 9, 10, 11, 12, 13, 14, 15, 16, 17, 18, 19, 20, 21, 22, 23]) (ws' := W_F cI cV vf a x) ⟨([] : List Nat).filterMap (fun i : Nat => (W_F cI cV vf a x : va_W)[i]?), rfl, rfl, rfl, rfl, by decide, rfl, rfl⟩ 0 6 rfl rfl rfl rfl hl.1 rfl (Nat.le_of_ble_eq_true rfl) dX7_add_26 ⟨Nat.le_of_ble_eq_true rfl, Nat.le_of_ble_eq_true rfl⟩ (fun E ce q9 H locs h32 hP hD hS hce hcv hcl => ?_) (fun rv9 H locs h32 hP hD hS => ?_)
      · obtain ⟨k30, hq9, hE9⟩ := rsV_x h32
        replace hf := thr_x hf hq9
        obtain rfl := Option.some.inj hf
        exact k_out htab hlocks hce hcv hcl (by rw [hE9]; rfl) hK hP hD hS (Nat.le_of_ble_eq_true rfl) (Nat.le_of_ble_eq_true rfl)
      obtain ⟨r31, hq9, rfl⟩ := rsV_v h32
      replace hf := thr_v hf hq9
      refine W.eq (g2 := F0 m 29 ls []) rfl ?_
      exact L29 x p1 p2 H locs ls hf hP hD hS (lv_sub hl [0, 1, 2] rfl)
  exact M0 s.heap [] ls hf hP hD hS hl
/-! Compactforms.take(II)Z -/
def fX7_take_23 (k : Nat) (x : FSt) (v1 : Int32) (v2 : Int32) : Option (FSt × (Int32 ⊕ Nat)) := (fX7_needRowLeft k x).bind (fun u1 => thr u1 (fun k3 => some (x, .inr k3)) (fun r4 => (fX7_call k x 6 v1 v2 0 0).bind (fun u6 => keep u6.1 (fun x8 => (if u6.2 ≤ 0 then some (x8, (.inl 0)) else some (x8, (.inl 1)))))))
def fX7_take (k : Nat) (x : FSt) (p1 : Int32) (p2 : Int32) : Option (FSt × (Int32 ⊕ Nat)) := (fX7_needKey p1).bind (fun u10 => thr u10 (fun k12 => some (x, .inr k12)) (fun r13 => (fX7_needValue p2).bind (fun u15 => thr u15 (fun k17 => some (x, .inr k17)) (fun r18 => (fX7_typeNow k x p1).bind (fun u20 => (if u20 = 2 then fX7_take_23 k x p1 p2 else (fX7_needType k x p1 3).bind (fun u23 => thr u23 (fun k25 => some (x, .inr k25)) (fun r26 => fX7_take_23 k x p1 p2))))))))
set_option maxHeartbeats 4000000 in
set_option maxRecDepth 100000 in
theorem met_X7_take {D : va_G} {cI cV cJ cD : ClassId} (l : Launch) (hlt : l.stackTraces = false) (k : Nat) (vf : Nat → Option Nat) (a : Nat → Nat) (hvf : vf k = some (a 6)) (x : FSt) (p1 : Int32) (p2 : Int32) (res : FSt × (Int32 ⊕ Nat)) (hf : fX7_take k x p1 p2 = some res) : MX l yX7_take cX7_take 3 (some .boolean) { frames := 8, cells := 4, slots := 24, locals := 180 } D (TY cI cV cJ cD) (W_F cI cV vf a x) (W_F cI cV vf a res.1) [.ref (a 0), .int p1, .int p2] (rsI res.2) := by
  intro sz
  refine vx_ofW (cc := cX7_take) (maxL := 3) (ret := (some .boolean)) (by decide +kernel) rfl ?_
  intro p e s m args below meth c s₁ B hml htab hv
  obtain ⟨rfl, hsz, hP, hK, hD0, hE⟩ := hv
  have hx := B.exec
  have hb := B.bytes
  have hr := B.returns
  have hts := atoms_spec (ws := .code yX7_take cX7_take 3 (some .boolean) :: GW) B.pre
  have hg : ∀ w ∈ GW, w.before (([.ref (a 0), .int p1, .int p2] : List Value).toArray) s = true := fun w h => hts w (List.mem_cons_of_mem _ h)
  have hown : s.vm.findClass RX7 = some m.cls := findClass_of_methodNamed B.named
  have hlocks := B.notSynchronized
  subst hsz
  have hD := hD0.self (sz := s.heap.size)
  generalize hAe : va_A (W_F cI cV vf a x) s.heap.size = A at hD hE ⊢
  have hA : ∀ q : Nat, s.heap.size ≤ q → A q := fun q h => by rw [← hAe]; exact Or.inr h
  have hS : va_S A s.heap s.heap [] := va_S.rf
  have hl := lv_entry ([.ref (a 0), .int p1, .int p2]) (n := 3) (Nat.le_of_ble_eq_true rfl)
  rw [lg_entry_eq]
  generalize (lg_sl ([.ref (a 0), .int p1, .int p2]) ++ List.replicate (3 - (lg_sl ([.ref (a 0), .int p1, .int p2])).length) Slot.unset).toArray = ls at hl ⊢
  have hl : lv_has ls 3 [(0, .ref (a 0)), (1, .int p1), (2, .int p2)] := hl
  have L23 : ∀ (x : FSt) (v1 : Int32) (v2 : Int32) (H : Heap) (locs : List Loc) (ls : Array Slot), fX7_take_23 k x v1 v2  = some res → va_P D vwCl (W_F cI cV vf a x) H → va_D A (W_F cI cV vf a x) → va_S A s.heap H locs → lv_has ls 3 [(0, .ref (a 0)), (1, .int v1), (2, .int v2)] → W p l e ({ frames := 8, cells := 4, slots := 24, locals := 180 } : Room) s m ([.ref (a 0), .int p1, .int p2] : List Value).toArray below meth c H locs 3 18 (vx_MQ below (QR D (TY cI cV cJ cD) (W_F cI cV vf a res.1) A (rsI res.2)) (XR D (TY cI cV cJ cD) (W_F cI cV vf a res.1) A (rsI res.2)) (([.ref (a 0), .int p1, .int p2] : List Value).toArray) s 4 24 A) (F0 m 23 ls []) := by
    intro x v1 v2 H locs ls hf hP hD hS hl
    dsimp only [fX7_take_23] at hf
    refine lv_aload_n hx hb dX7_take_23 rfl (lv_at hl 0 rfl) ?_
    obtain ⟨u1, hc2, hf⟩ := bind_t hf
    refine k_VX (As := []) (rest := []) (n := 0) ⟨hx, hb, hml, hown, hts⟩ (met_X7_needRowLeft l hlt k vf a hvf x u1 hc2) w398 w400 ws10 w1 w401 ⟨rfl, by decide +kernel, by decide +kernel, by decide +kernel⟩ ⟨Nat.le_of_ble_eq_true rfl, Nat.le_of_ble_eq_true rfl⟩ hK hE hP hD hS hA (isC := [0, 1, 2, 3, 4, 5, 6, 7, 8, 9, 10, 11, 12, 13, 14, 15, 16, 17, 18, 19, 20, 21, 22, 23]) (isR := []) (isB := [0, 1, 2, 3, 4, 5, 6, 7, 8, 9, 10, 11, 12, 13, 14, 15, 16, 17, 18, 19, 20, 21, 22, 23]) (ws' := W_F cI cV vf a x) ⟨([] : List Nat).filterMap (fun i : Nat => (W_F cI cV vf a x : va_W)[i]?), rfl, rfl, rfl, rfl, by decide, rfl, rfl⟩ 0 6 rfl rfl rfl rfl hl.1 rfl (Nat.le_of_ble_eq_true rfl) dX7_take_24 ⟨Nat.le_of_ble_eq_true rfl, Nat.le_of_ble_eq_true rfl⟩ (fun E ce q9 H locs h5 hP hD hS hce hcv hcl => ?_) (fun rv9 H locs h5 hP hD hS => ?_)
    · obtain ⟨k3, hq9, hE9⟩ := rsV_x h5
      replace hf := thr_x hf hq9
      obtain rfl := Option.some.inj hf
      exact k_out htab hlocks hce hcv hcl (by rw [hE9]; rfl) hK hP hD hS (Nat.le_of_ble_eq_true rfl) (Nat.le_of_ble_eq_true rfl)
    obtain ⟨r4, hq9, rfl⟩ := rsV_v h5
    replace hf := thr_v hf hq9
    refine W.eq (g2 := F0 m 27 ls []) rfl ?_
    refine lv_aload_n hx hb dX7_take_27 rfl (lv_at hl 0 rfl) ?_
    refine lv_bipush (v := 6) hx hb dX7_take_28 (by decide) ?_
    refine lv_iload_n hx hb dX7_take_30 rfl (lv_at hl 1 rfl) ?_
    refine lv_iload_n hx hb dX7_take_31 rfl (lv_at hl 2 rfl) ?_
    refine lv_iconst (v := 0) hx hb dX7_take_32 (by decide) ?_
    refine lv_iconst (v := 0) hx hb dX7_take_33 (by decide) ?_
    obtain ⟨u6, hc7, hf⟩ := bind_t hf
    refine k_V (As := [.int 6, .int v1, .int v2, .int 0, .int 0]) (rest := []) (n := 5) ⟨hx, hb, hml, hown, hts⟩ (met_X7_call l k vf a hvf x 6 v1 v2 0 0 u6 hc7) w403 w405 ws11 w1 w406 ⟨rfl, by decide +kernel, by decide +kernel, by decide +kernel⟩ ⟨Nat.le_of_ble_eq_true rfl, Nat.le_of_ble_eq_true rfl⟩ hK hE hP hD hS hA (isC := [0, 1, 2, 3, 4, 5, 6, 7, 8, 9, 10, 11, 12, 13, 14, 15, 16, 17, 18, 19, 20, 21, 22, 23]) (isR := []) (isB := [0, 1, 2, 3, 4, 5, 6, 7, 8, 9, 10, 11, 12, 13, 14, 15, 16, 17, 18, 19, 20, 21, 22, 23]) (ws' := W_F cI cV vf a u6.1) ⟨([] : List Nat).filterMap (fun i : Nat => (W_F cI cV vf a x : va_W)[i]?), rfl, rfl, rfl, rfl, by decide, rfl, rfl⟩ 0 6 rfl rfl rfl rfl hl.1 rfl (Nat.le_of_ble_eq_true rfl) dX7_take_34 ⟨Nat.le_of_ble_eq_true rfl, Nat.le_of_ble_eq_true rfl⟩ (fun H locs hP hD hS => ?_)
    try dsimp only at hf
    refine W.eq (g2 := F0 m 37 ls [.int u6.2]) rfl ?_
    obtain ⟨x8, hx8⟩ : ∃ z, z = u6.1 := ⟨_, rfl⟩
    replace hf := keep_e hf x8 hx8
    have hP : va_P D vwCl (W_F cI cV vf a x8) H := by rw [hx8]; exact hP
    have hD : va_D A (W_F cI cV vf a x8) := by rw [hx8]; exact hD
    refine lv_if_le (tgt := 44) hx hb dX7_take_37 (by decide) (fun c9 => ?_) (fun c9 => ?_)
    · replace hf := if_t c9 hf
      refine lv_iconst (v := 0) hx hb dX7_take_44 (by decide) ?_
      obtain rfl := Option.some.inj hf
      refine vx_ret ?_
      exact W.zret (v := 0) hx hb hr (by decide +kernel) (fun t ht hW => ⟨_, rfl, ⟨rfl, by rw [ht]; exact hP, va_K.moved hW.alike hK, hD, hS.F ht⟩⟩) hS.2.2 dX7_take_45 hlocks
    · replace hf := if_f c9 hf
      refine lv_iconst (v := 1) hx hb dX7_take_40 (by decide) ?_
      refine lv_goto (tgt := 45) hx hb dX7_take_41 (by decide) ?_
      obtain rfl := Option.some.inj hf
      refine vx_ret ?_
      exact W.zret (v := 1) hx hb hr (by decide +kernel) (fun t ht hW => ⟨_, rfl, ⟨rfl, by rw [ht]; exact hP, va_K.moved hW.alike hK, hD, hS.F ht⟩⟩) hS.2.2 dX7_take_45 hlocks
  have M0 : ∀ (H : Heap) (locs : List Loc) (ls : Array Slot), fX7_take k x p1 p2 = some res → va_P D vwCl (W_F cI cV vf a x) H → va_D A (W_F cI cV vf a x) → va_S A s.heap H locs → lv_has ls 3 [(0, .ref (a 0)), (1, .int p1), (2, .int p2)] → W p l e ({ frames := 8, cells := 4, slots := 24, locals := 180 } : Room) s m ([.ref (a 0), .int p1, .int p2] : List Value).toArray below meth c H locs 0 0 (vx_MQ below (QR D (TY cI cV cJ cD) (W_F cI cV vf a res.1) A (rsI res.2)) (XR D (TY cI cV cJ cD) (W_F cI cV vf a res.1) A (rsI res.2)) (([.ref (a 0), .int p1, .int p2] : List Value).toArray) s 4 24 A) (F0 m 0 ls []) := by
    intro H locs ls hf hP hD hS hl
    dsimp only [fX7_take] at hf
    refine lv_iload_n hx hb dX7_take_0 rfl (lv_at hl 1 rfl) ?_
    obtain ⟨u10, hc11, hf⟩ := bind_t hf
    refine k_SX (As := [.int p1]) (rest := []) (n := 1) ⟨hx, hb, hml, hown, hts⟩ (met_X7_needKey l hlt p1 u10 hc11) w209 w210 w1 w211 ⟨by decide +kernel, by decide +kernel, by decide +kernel⟩ ⟨Nat.le_of_ble_eq_true rfl, Nat.le_of_ble_eq_true rfl⟩ hK hE hP hD hS hA (isC := []) (isR := [0, 1, 2, 3, 4, 5, 6, 7, 8, 9, 10, 11, 12, 13, 14, 15, 16, 17, 18, 19, 20, 21, 22, 23]) (isB := [0, 1, 2, 3, 4, 5, 6, 7, 8, 9, 10, 11, 12, 13, 14, 15, 16, 17, 18, 19, 20, 21, 22, 23]) (ws' := W_F cI cV vf a x) ⟨([0, 1, 2, 3, 4, 5, 6, 7, 8, 9, 10, 11, 12, 13, 14, 15, 16, 17, 18, 19, 20, 21, 22, 23] : List Nat).filterMap (fun i : Nat => (W_F cI cV vf a x : va_W)[i]?), rfl, rfl, rfl, rfl, by decide, rfl, rfl⟩ rfl hl.1 rfl (Nat.le_of_ble_eq_true rfl) dX7_take_1 ⟨Nat.le_of_ble_eq_true rfl, Nat.le_of_ble_eq_true rfl⟩ (fun E ce q9 H locs h14 hP hD hS hce hcv hcl => ?_) (fun rv9 H locs h14 hP hD hS => ?_)
    · obtain ⟨k12, hq9, hE9⟩ := rsV_x h14
      replace hf := thr_x hf hq9
      obtain rfl := Option.some.inj hf
      exact k_out htab hlocks hce hcv hcl (by rw [hE9]; rfl) hK hP hD hS (Nat.le_of_ble_eq_true rfl) (Nat.le_of_ble_eq_true rfl)
    obtain ⟨r13, hq9, rfl⟩ := rsV_v h14
    replace hf := thr_v hf hq9
    refine W.eq (g2 := F0 m 4 ls []) rfl ?_
    refine lv_iload_n hx hb dX7_take_4 rfl (lv_at hl 2 rfl) ?_
    obtain ⟨u15, hc16, hf⟩ := bind_t hf
    refine k_SX (As := [.int p2]) (rest := []) (n := 1) ⟨hx, hb, hml, hown, hts⟩ (met_X7_needValue l hlt p2 u15 hc16) w314 w315 w1 w316 ⟨by decide +kernel, by decide +kernel, by decide +kernel⟩ ⟨Nat.le_of_ble_eq_true rfl, Nat.le_of_ble_eq_true rfl⟩ hK hE hP hD hS hA (isC := []) (isR := [0, 1, 2, 3, 4, 5, 6, 7, 8, 9, 10, 11, 12, 13, 14, 15, 16, 17, 18, 19, 20, 21, 22, 23]) (isB := [0, 1, 2, 3, 4, 5, 6, 7, 8, 9, 10, 11, 12, 13, 14, 15, 16, 17, 18, 19, 20, 21, 22, 23]) (ws' := W_F cI cV vf a x) ⟨([0, 1, 2, 3, 4, 5, 6, 7, 8, 9, 10, 11, 12, 13, 14, 15, 16, 17, 18, 19, 20, 21, 22, 23] : List Nat).filterMap (fun i : Nat => (W_F cI cV vf a x : va_W)[i]?), rfl, rfl, rfl, rfl, by decide, rfl, rfl⟩ rfl hl.1 rfl (Nat.le_of_ble_eq_true rfl) dX7_take_5 ⟨Nat.le_of_ble_eq_true rfl, Nat.le_of_ble_eq_true rfl⟩ (fun E ce q9 H locs h19 hP hD hS hce hcv hcl => ?_) (fun rv9 H locs h19 hP hD hS => ?_)
    · obtain ⟨k17, hq9, hE9⟩ := rsV_x h19
      replace hf := thr_x hf hq9
      obtain rfl := Option.some.inj hf
      exact k_out htab hlocks hce hcv hcl (by rw [hE9]; rfl) hK hP hD hS (Nat.le_of_ble_eq_true rfl) (Nat.le_of_ble_eq_true rfl)
    obtain ⟨r18, hq9, rfl⟩ := rsV_v h19
    replace hf := thr_v hf hq9
    refine W.eq (g2 := F0 m 8 ls []) rfl ?_
    refine lv_aload_n hx hb dX7_take_8 rfl (lv_at hl 0 rfl) ?_
    refine lv_iload_n hx hb dX7_take_9 rfl (lv_at hl 1 rfl) ?_
    obtain ⟨u20, hc21, hf⟩ := bind_t hf
    refine k_V (As := [.int p1]) (rest := []) (n := 1) ⟨hx, hb, hml, hown, hts⟩ (met_X7_typeNow l k vf a hvf x p1 u20 hc21) w286 w288 ws1 w1 w289 ⟨rfl, by decide +kernel, by decide +kernel, by decide +kernel⟩ ⟨Nat.le_of_ble_eq_true rfl, Nat.le_of_ble_eq_true rfl⟩ hK hE hP hD hS hA (isC := [0, 1, 2, 3, 4, 5, 6, 7, 8, 9, 10, 11, 12, 13, 14, 15, 16, 17, 18, 19, 20, 21, 22, 23]) (isR := []) (isB := [0, 1, 2, 3, 4, 5, 6, 7, 8, 9, 10, 11, 12, 13, 14, 15, 16, 17, 18, 19, 20, 21, 22, 23]) (ws' := W_F cI cV vf a x) ⟨([] : List Nat).filterMap (fun i : Nat => (W_F cI cV vf a x : va_W)[i]?), rfl, rfl, rfl, rfl, by decide, rfl, rfl⟩ 0 6 rfl rfl rfl rfl hl.1 rfl (Nat.le_of_ble_eq_true rfl) dX7_take_10 ⟨Nat.le_of_ble_eq_true rfl, Nat.le_of_ble_eq_true rfl⟩ (fun H locs hP hD hS => ?_)
    try dsimp only at hf
    refine W.eq (g2 := F0 m 13 ls [.int u20]) rfl ?_
    refine lv_iconst (v := 2) hx hb dX7_take_13 (by decide) ?_
    refine lv_icmp_eq (tgt := 23) hx hb dX7_take_14 (by decide) (fun c22 => ?_) (fun c22 => ?_)
    · replace hf := if_t c22 hf
      refine W.widen (k := 3) (n := 18) (Nat.le_of_ble_eq_true rfl) (Nat.le_of_ble_eq_true rfl) ?_
      exact L23 x p1 p2 H locs ls hf hP hD hS (lv_sub hl [0, 1, 2] rfl)
    · replace hf := if_f c22 hf
      refine lv_aload_n hx hb dX7_take_17 rfl (lv_at hl 0 rfl) ?_
      refine lv_iload_n hx hb dX7_take_18 rfl (lv_at hl 1 rfl) ?_
      refine lv_iconst (v := 3) hx hb dX7_take_19 (by decide) ?_
      obtain ⟨u23, hc24, hf⟩ := bind_t hf
      refine k_VX (As := [.int p1, .int 3]) (rest := []) (n := 2) ⟨hx, hb, hml, hown, hts⟩ (met_X7_needType l hlt k vf a hvf x p1 3 u23 hc24) w373 w375 ws8 w1 w376 ⟨rfl, by decide +kernel, by decide +kernel, by decide +kernel⟩ ⟨Nat.le_of_ble_eq_true rfl, Nat.le_of_ble_eq_true rfl⟩ hK hE hP hD hS hA (isC := [0, 1, 2, 3, 4, 5, 6, 7, 8, 9, 10, 11, 12, 13, 14, 15, 16, 17, 18, 19, 20, 21, 22, 23]) (isR := []) (isB := [0, 1, 2, 3, 4, 5, 6, 7, 8, 9, 10, 11, 12, 13, 14, 15, 16, 17, 18, 19, 20, 21, 22, 23]) (ws' := W_F cI cV vf a x) ⟨([] : List Nat).filterMap (fun i : Nat => (W_F cI cV vf a x : va_W)[i]?), rfl, rfl, rfl, rfl, by decide, rfl, rfl⟩ 0 6 rfl rfl rfl rfl hl.1 rfl (Nat.le_of_ble_eq_true rfl) dX7_take_20 ⟨Nat.le_of_ble_eq_true rfl, Nat.le_of_ble_eq_true rfl⟩ (fun E ce q9 H locs h27 hP hD hS hce hcv hcl => ?_) (fun rv9 H locs h27 hP hD hS => ?_)
      · obtain ⟨k25, hq9, hE9⟩ := rsV_x h27
        replace hf := thr_x hf hq9
        obtain rfl := Option.some.inj hf
        exact k_out htab hlocks hce hcv hcl (by rw [hE9]; rfl) hK hP hD hS (Nat.le_of_ble_eq_true rfl) (Nat.le_of_ble_eq_true rfl)
      obtain ⟨r26, hq9, rfl⟩ := rsV_v h27
      replace hf := thr_v hf hq9
      refine W.eq (g2 := F0 m 23 ls []) rfl ?_
      exact L23 x p1 p2 H locs ls hf hP hD hS (lv_sub hl [0, 1, 2] rfl)
  exact M0 s.heap [] ls hf hP hD hS hl
/-! Compactforms.rate(III)I -/
def fX7_rate_48 (k : Nat) (x : FSt) (v1 : Int32) (v2 : Int32) (v3 : Int32) : Option (FSt × (Int32 ⊕ Nat)) := (fX7_needRowLeft k x).bind (fun u1 => thr u1 (fun k3 => some (x, .inr k3)) (fun r4 => (fX7_call k x 3 v1 v2 v3 0).bind (fun u6 => keep u6.1 (fun x8 => some (x8, (.inl u6.2))))))
def fX7_rate (k : Nat) (x : FSt) (p1 : Int32) (p2 : Int32) (p3 : Int32) : Option (FSt × (Int32 ⊕ Nat)) := (fX7_needKey p1).bind (fun u9 => thr u9 (fun k11 => some (x, .inr k11)) (fun r12 => (fX7_needValue p2).bind (fun u14 => thr u14 (fun k16 => some (x, .inr k16)) (fun r17 => (if (p3 &&& 2147483647) ≤ 2139095040 then (fX7_needTypeOrAbsent k x p1 3).bind (fun u20 => thr u20 (fun k22 => some (x, .inr k22)) (fun r23 => (fX7_placeIn k x p1 p2).bind (fun u25 => (if u25 = (-1) then (fX7_needRoom k x p1).bind (fun u28 => thr u28 (fun k30 => some (x, .inr k30)) (fun r31 => fX7_rate_48 k x p1 p2 p3)) else fX7_rate_48 k x p1 p2 p3)))) else some (x, .inr 1))))))
set_option maxHeartbeats 4000000 in
set_option maxRecDepth 100000 in
theorem met_X7_rate {D : va_G} {cI cV cJ cD : ClassId} (l : Launch) (hlt : l.stackTraces = false) (k : Nat) (vf : Nat → Option Nat) (a : Nat → Nat) (hvf : vf k = some (a 6)) (x : FSt) (p1 : Int32) (p2 : Int32) (p3 : Int32) (res : FSt × (Int32 ⊕ Nat)) (hf : fX7_rate k x p1 p2 p3 = some res) : MX l yX7_rate cX7_rate 4 (some .int) { frames := 8, cells := 5, slots := 30, locals := 180 } D (TY cI cV cJ cD) (W_F cI cV vf a x) (W_F cI cV vf a res.1) [.ref (a 0), .int p1, .int p2, .int p3] (rsI res.2) := by
  intro sz
  refine vx_ofW (cc := cX7_rate) (maxL := 4) (ret := (some .int)) (by decide +kernel) rfl ?_
  intro p e s m args below meth c s₁ B hml htab hv
  obtain ⟨rfl, hsz, hP, hK, hD0, hE⟩ := hv
  have hx := B.exec
  have hb := B.bytes
  have hr := B.returns
  have hts := atoms_spec (ws := .code yX7_rate cX7_rate 4 (some .int) :: GW) B.pre
  have hg : ∀ w ∈ GW, w.before (([.ref (a 0), .int p1, .int p2, .int p3] : List Value).toArray) s = true := fun w h => hts w (List.mem_cons_of_mem _ h)
  have hown : s.vm.findClass RX7 = some m.cls := findClass_of_methodNamed B.named
  have hlocks := B.notSynchronized
  subst hsz
  have hD := hD0.self (sz := s.heap.size)
  generalize hAe : va_A (W_F cI cV vf a x) s.heap.size = A at hD hE ⊢
  have hA : ∀ q : Nat, s.heap.size ≤ q → A q := fun q h => by rw [← hAe]; exact Or.inr h
  have hS : va_S A s.heap s.heap [] := va_S.rf
  have hl := lv_entry ([.ref (a 0), .int p1, .int p2, .int p3]) (n := 4) (Nat.le_of_ble_eq_true rfl)
  rw [lg_entry_eq]
  generalize (lg_sl ([.ref (a 0), .int p1, .int p2, .int p3]) ++ List.replicate (4 - (lg_sl ([.ref (a 0), .int p1, .int p2, .int p3])).length) Slot.unset).toArray = ls at hl ⊢
  have hl : lv_has ls 4 [(0, .ref (a 0)), (1, .int p1), (2, .int p2), (3, .int p3)] := hl
  have L48 : ∀ (x : FSt) (v1 : Int32) (v2 : Int32) (v3 : Int32) (H : Heap) (locs : List Loc) (ls : Array Slot), fX7_rate_48 k x v1 v2 v3  = some res → va_P D vwCl (W_F cI cV vf a x) H → va_D A (W_F cI cV vf a x) → va_S A s.heap H locs → lv_has ls 4 [(0, .ref (a 0)), (1, .int v1), (2, .int v2), (3, .int v3)] → W p l e ({ frames := 8, cells := 5, slots := 30, locals := 180 } : Room) s m ([.ref (a 0), .int p1, .int p2, .int p3] : List Value).toArray below meth c H locs 4 24 (vx_MQ below (QR D (TY cI cV cJ cD) (W_F cI cV vf a res.1) A (rsI res.2)) (XR D (TY cI cV cJ cD) (W_F cI cV vf a res.1) A (rsI res.2)) (([.ref (a 0), .int p1, .int p2, .int p3] : List Value).toArray) s 5 30 A) (F0 m 48 ls []) := by
    intro x v1 v2 v3 H locs ls hf hP hD hS hl
    dsimp only [fX7_rate_48] at hf
    refine lv_aload_n hx hb dX7_rate_48 rfl (lv_at hl 0 rfl) ?_
    obtain ⟨u1, hc2, hf⟩ := bind_t hf
    refine k_VX (As := []) (rest := []) (n := 0) ⟨hx, hb, hml, hown, hts⟩ (met_X7_needRowLeft l hlt k vf a hvf x u1 hc2) w398 w400 ws10 w1 w401 ⟨rfl, by decide +kernel, by decide +kernel, by decide +kernel⟩ ⟨Nat.le_of_ble_eq_true rfl, Nat.le_of_ble_eq_true rfl⟩ hK hE hP hD hS hA (isC := [0, 1, 2, 3, 4, 5, 6, 7, 8, 9, 10, 11, 12, 13, 14, 15, 16, 17, 18, 19, 20, 21, 22, 23]) (isR := []) (isB := [0, 1, 2, 3, 4, 5, 6, 7, 8, 9, 10, 11, 12, 13, 14, 15, 16, 17, 18, 19, 20, 21, 22, 23]) (ws' := W_F cI cV vf a x) ⟨([] : List Nat).filterMap (fun i : Nat => (W_F cI cV vf a x : va_W)[i]?), rfl, rfl, rfl, rfl, by decide, rfl, rfl⟩ 0 6 rfl rfl rfl rfl hl.1 rfl (Nat.le_of_ble_eq_true rfl) dX7_rate_49 ⟨Nat.le_of_ble_eq_true rfl, Nat.le_of_ble_eq_true rfl⟩ (fun E ce q9 H locs h5 hP hD hS hce hcv hcl => ?_) (fun rv9 H locs h5 hP hD hS => ?_)
    · obtain ⟨k3, hq9, hE9⟩ := rsV_x h5
      replace hf := thr_x hf hq9
      obtain rfl := Option.some.inj hf
      exact k_out htab hlocks hce hcv hcl (by rw [hE9]; rfl) hK hP hD hS (Nat.le_of_ble_eq_true rfl) (Nat.le_of_ble_eq_true rfl)
    obtain ⟨r4, hq9, rfl⟩ := rsV_v h5
    replace hf := thr_v hf hq9
    refine W.eq (g2 := F0 m 52 ls []) rfl ?_
    refine lv_aload_n hx hb dX7_rate_52 rfl (lv_at hl 0 rfl) ?_
    refine lv_iconst (v := 3) hx hb dX7_rate_53 (by decide) ?_
    refine lv_iload_n hx hb dX7_rate_54 rfl (lv_at hl 1 rfl) ?_
    refine lv_iload_n hx hb dX7_rate_55 rfl (lv_at hl 2 rfl) ?_
    refine lv_iload_n hx hb dX7_rate_56 rfl (lv_at hl 3 rfl) ?_
    refine lv_iconst (v := 0) hx hb dX7_rate_57 (by decide) ?_
    obtain ⟨u6, hc7, hf⟩ := bind_t hf
    refine k_V (As := [.int 3, .int v1, .int v2, .int v3, .int 0]) (rest := []) (n := 5) ⟨hx, hb, hml, hown, hts⟩ (met_X7_call l k vf a hvf x 3 v1 v2 v3 0 u6 hc7) w403 w405 ws11 w1 w406 ⟨rfl, by decide +kernel, by decide +kernel, by decide +kernel⟩ ⟨Nat.le_of_ble_eq_true rfl, Nat.le_of_ble_eq_true rfl⟩ hK hE hP hD hS hA (isC := [0, 1, 2, 3, 4, 5, 6, 7, 8, 9, 10, 11, 12, 13, 14, 15, 16, 17, 18, 19, 20, 21, 22, 23]) (isR := []) (isB := [0, 1, 2, 3, 4, 5, 6, 7, 8, 9, 10, 11, 12, 13, 14, 15, 16, 17, 18, 19, 20, 21, 22, 23]) (ws' := W_F cI cV vf a u6.1) ⟨([] : List Nat).filterMap (fun i : Nat => (W_F cI cV vf a x : va_W)[i]?), rfl, rfl, rfl, rfl, by decide, rfl, rfl⟩ 0 6 rfl rfl rfl rfl hl.1 rfl (Nat.le_of_ble_eq_true rfl) dX7_rate_58 ⟨Nat.le_of_ble_eq_true rfl, Nat.le_of_ble_eq_true rfl⟩ (fun H locs hP hD hS => ?_)
    try dsimp only at hf
    refine W.eq (g2 := F0 m 61 ls [.int u6.2]) rfl ?_
    obtain ⟨x8, hx8⟩ : ∃ z, z = u6.1 := ⟨_, rfl⟩
    replace hf := keep_e hf x8 hx8
    have hP : va_P D vwCl (W_F cI cV vf a x8) H := by rw [hx8]; exact hP
    have hD : va_D A (W_F cI cV vf a x8) := by rw [hx8]; exact hD
    obtain rfl := Option.some.inj hf
    refine vx_ret ?_
    exact W.iret (v := u6.2) hx hb hr (fun t ht hW => ⟨_, rfl, ⟨rfl, by rw [ht]; exact hP, va_K.moved hW.alike hK, hD, hS.F ht⟩⟩) hS.2.2 dX7_rate_61 hlocks
  have M0 : ∀ (H : Heap) (locs : List Loc) (ls : Array Slot), fX7_rate k x p1 p2 p3 = some res → va_P D vwCl (W_F cI cV vf a x) H → va_D A (W_F cI cV vf a x) → va_S A s.heap H locs → lv_has ls 4 [(0, .ref (a 0)), (1, .int p1), (2, .int p2), (3, .int p3)] → W p l e ({ frames := 8, cells := 5, slots := 30, locals := 180 } : Room) s m ([.ref (a 0), .int p1, .int p2, .int p3] : List Value).toArray below meth c H locs 0 0 (vx_MQ below (QR D (TY cI cV cJ cD) (W_F cI cV vf a res.1) A (rsI res.2)) (XR D (TY cI cV cJ cD) (W_F cI cV vf a res.1) A (rsI res.2)) (([.ref (a 0), .int p1, .int p2, .int p3] : List Value).toArray) s 5 30 A) (F0 m 0 ls []) := by
    intro H locs ls hf hP hD hS hl
    dsimp only [fX7_rate] at hf
    refine lv_iload_n hx hb dX7_rate_0 rfl (lv_at hl 1 rfl) ?_
    obtain ⟨u9, hc10, hf⟩ := bind_t hf
    refine k_SX (As := [.int p1]) (rest := []) (n := 1) ⟨hx, hb, hml, hown, hts⟩ (met_X7_needKey l hlt p1 u9 hc10) w209 w210 w1 w211 ⟨by decide +kernel, by decide +kernel, by decide +kernel⟩ ⟨Nat.le_of_ble_eq_true rfl, Nat.le_of_ble_eq_true rfl⟩ hK hE hP hD hS hA (isC := []) (isR := [0, 1, 2, 3, 4, 5, 6, 7, 8, 9, 10, 11, 12, 13, 14, 15, 16, 17, 18, 19, 20, 21, 22, 23]) (isB := [0, 1, 2, 3, 4, 5, 6, 7, 8, 9, 10, 11, 12, 13, 14, 15, 16, 17, 18, 19, 20, 21, 22, 23]) (ws' := W_F cI cV vf a x) ⟨([0, 1, 2, 3, 4, 5, 6, 7, 8, 9, 10, 11, 12, 13, 14, 15, 16, 17, 18, 19, 20, 21, 22, 23] : List Nat).filterMap (fun i : Nat => (W_F cI cV vf a x : va_W)[i]?), rfl, rfl, rfl, rfl, by decide, rfl, rfl⟩ rfl hl.1 rfl (Nat.le_of_ble_eq_true rfl) dX7_rate_1 ⟨Nat.le_of_ble_eq_true rfl, Nat.le_of_ble_eq_true rfl⟩ (fun E ce q9 H locs h13 hP hD hS hce hcv hcl => ?_) (fun rv9 H locs h13 hP hD hS => ?_)
    · obtain ⟨k11, hq9, hE9⟩ := rsV_x h13
      replace hf := thr_x hf hq9
      obtain rfl := Option.some.inj hf
      exact k_out htab hlocks hce hcv hcl (by rw [hE9]; rfl) hK hP hD hS (Nat.le_of_ble_eq_true rfl) (Nat.le_of_ble_eq_true rfl)
    obtain ⟨r12, hq9, rfl⟩ := rsV_v h13
    replace hf := thr_v hf hq9
    refine W.eq (g2 := F0 m 4 ls []) rfl ?_
    refine lv_iload_n hx hb dX7_rate_4 rfl (lv_at hl 2 rfl) ?_
    obtain ⟨u14, hc15, hf⟩ := bind_t hf
    refine k_SX (As := [.int p2]) (rest := []) (n := 1) ⟨hx, hb, hml, hown, hts⟩ (met_X7_needValue l hlt p2 u14 hc15) w314 w315 w1 w316 ⟨by decide +kernel, by decide +kernel, by decide +kernel⟩ ⟨Nat.le_of_ble_eq_true rfl, Nat.le_of_ble_eq_true rfl⟩ hK hE hP hD hS hA (isC := []) (isR := [0, 1, 2, 3, 4, 5, 6, 7, 8, 9, 10, 11, 12, 13, 14, 15, 16, 17, 18, 19, 20, 21, 22, 23]) (isB := [0, 1, 2, 3, 4, 5, 6, 7, 8, 9, 10, 11, 12, 13, 14, 15, 16, 17, 18, 19, 20, 21, 22, 23]) (ws' := W_F cI cV vf a x) ⟨([0, 1, 2, 3, 4, 5, 6, 7, 8, 9, 10, 11, 12, 13, 14, 15, 16, 17, 18, 19, 20, 21, 22, 23] : List Nat).filterMap (fun i : Nat => (W_F cI cV vf a x : va_W)[i]?), rfl, rfl, rfl, rfl, by decide, rfl, rfl⟩ rfl hl.1 rfl (Nat.le_of_ble_eq_true rfl) dX7_rate_5 ⟨Nat.le_of_ble_eq_true rfl, Nat.le_of_ble_eq_true rfl⟩ (fun E ce q9 H locs h18 hP hD hS hce hcv hcl => ?_) (fun rv9 H locs h18 hP hD hS => ?_)
    · obtain ⟨k16, hq9, hE9⟩ := rsV_x h18
      replace hf := thr_x hf hq9
      obtain rfl := Option.some.inj hf
      exact k_out htab hlocks hce hcv hcl (by rw [hE9]; rfl) hK hP hD hS (Nat.le_of_ble_eq_true rfl) (Nat.le_of_ble_eq_true rfl)
    obtain ⟨r17, hq9, rfl⟩ := rsV_v h18
    replace hf := thr_v hf hq9
    refine W.eq (g2 := F0 m 8 ls []) rfl ?_
    refine lv_iload_n hx hb dX7_rate_8 rfl (lv_at hl 3 rfl) ?_
    refine lv_ldc (own := RX7) (v := 2147483647) hx hb hown (hg _ w589) dX7_rate_9 ?_
    refine lv_iand hx hb dX7_rate_11 ?_
    refine lv_ldc (own := RX7) (v := 2139095040) hx hb hown (hg _ w590) dX7_rate_12 ?_
    refine lv_icmp_le (tgt := 27) hx hb dX7_rate_14 (by decide) (fun c19 => ?_) (fun c19 => ?_)
    · replace hf := if_t c19 hf
      refine lv_aload_n hx hb dX7_rate_27 rfl (lv_at hl 0 rfl) ?_
      refine lv_iload_n hx hb dX7_rate_28 rfl (lv_at hl 1 rfl) ?_
      refine lv_iconst (v := 3) hx hb dX7_rate_29 (by decide) ?_
      obtain ⟨u20, hc21, hf⟩ := bind_t hf
      refine k_VX (As := [.int p1, .int 3]) (rest := []) (n := 2) ⟨hx, hb, hml, hown, hts⟩ (met_X7_needTypeOrAbsent l hlt k vf a hvf x p1 3 u20 hc21) w369 w371 ws7 w1 w372 ⟨rfl, by decide +kernel, by decide +kernel, by decide +kernel⟩ ⟨Nat.le_of_ble_eq_true rfl, Nat.le_of_ble_eq_true rfl⟩ hK hE hP hD hS hA (isC := [0, 1, 2, 3, 4, 5, 6, 7, 8, 9, 10, 11, 12, 13, 14, 15, 16, 17, 18, 19, 20, 21, 22, 23]) (isR := []) (isB := [0, 1, 2, 3, 4, 5, 6, 7, 8, 9, 10, 11, 12, 13, 14, 15, 16, 17, 18, 19, 20, 21, 22, 23]) (ws' := W_F cI cV vf a x) ⟨([] : List Nat).filterMap (fun i : Nat => (W_F cI cV vf a x : va_W)[i]?), rfl, rfl, rfl, rfl, by decide, rfl, rfl⟩ 0 6 rfl rfl rfl rfl hl.1 rfl (Nat.le_of_ble_eq_true rfl) dX7_rate_30 ⟨Nat.le_of_ble_eq_true rfl, Nat.le_of_ble_eq_true rfl⟩ (fun E ce q9 H locs h24 hP hD hS hce hcv hcl => ?_) (fun rv9 H locs h24 hP hD hS => ?_)
      · obtain ⟨k22, hq9, hE9⟩ := rsV_x h24
        replace hf := thr_x hf hq9
        obtain rfl := Option.some.inj hf
        exact k_out htab hlocks hce hcv hcl (by rw [hE9]; rfl) hK hP hD hS (Nat.le_of_ble_eq_true rfl) (Nat.le_of_ble_eq_true rfl)
      obtain ⟨r23, hq9, rfl⟩ := rsV_v h24
      replace hf := thr_v hf hq9
      refine W.eq (g2 := F0 m 33 ls []) rfl ?_
      refine lv_aload_n hx hb dX7_rate_33 rfl (lv_at hl 0 rfl) ?_
      refine lv_iload_n hx hb dX7_rate_34 rfl (lv_at hl 1 rfl) ?_
      refine lv_iload_n hx hb dX7_rate_35 rfl (lv_at hl 2 rfl) ?_
      obtain ⟨u25, hc26, hf⟩ := bind_t hf
      refine k_V (As := [.int p1, .int p2]) (rest := []) (n := 2) ⟨hx, hb, hml, hown, hts⟩ (met_X7_placeIn l k vf a hvf x p1 p2 u25 hc26) w336 w338 ws4 w1 w339 ⟨rfl, by decide +kernel, by decide +kernel, by decide +kernel⟩ ⟨Nat.le_of_ble_eq_true rfl, Nat.le_of_ble_eq_true rfl⟩ hK hE hP hD hS hA (isC := [0, 1, 2, 3, 4, 5, 6, 7, 8, 9, 10, 11, 12, 13, 14, 15, 16, 17, 18, 19, 20, 21, 22, 23]) (isR := []) (isB := [0, 1, 2, 3, 4, 5, 6, 7, 8, 9, 10, 11, 12, 13, 14, 15, 16, 17, 18, 19, 20, 21, 22, 23]) (ws' := W_F cI cV vf a x) ⟨([] : List Nat).filterMap (fun i : Nat => (W_F cI cV vf a x : va_W)[i]?), rfl, rfl, rfl, rfl, by decide, rfl, rfl⟩ 0 6 rfl rfl rfl rfl hl.1 rfl (Nat.le_of_ble_eq_true rfl) dX7_rate_36 ⟨Nat.le_of_ble_eq_true rfl, Nat.le_of_ble_eq_true rfl⟩ (fun H locs hP hD hS => ?_)
      try dsimp only at hf
      refine W.eq (g2 := F0 m 39 ls [.int u25]) rfl ?_
      refine lv_iconst (v := (-1)) hx hb dX7_rate_39 (by decide) ?_
      refine lv_icmp_ne (tgt := 48) hx hb dX7_rate_40 (by decide) (fun c27 => ?_) (fun c27 => ?_)
      · replace hf := if_f c27 hf
        refine W.widen (k := 4) (n := 24) (Nat.le_of_ble_eq_true rfl) (Nat.le_of_ble_eq_true rfl) ?_
        exact L48 x p1 p2 p3 H locs ls hf hP hD hS (lv_sub hl [0, 1, 2, 3] rfl)
      · replace hf := if_t c27 hf
        refine lv_aload_n hx hb dX7_rate_43 rfl (lv_at hl 0 rfl) ?_
        refine lv_iload_n hx hb dX7_rate_44 rfl (lv_at hl 1 rfl) ?_
        obtain ⟨u28, hc29, hf⟩ := bind_t hf
        refine k_VX (As := [.int p1]) (rest := []) (n := 1) ⟨hx, hb, hml, hown, hts⟩ (met_X7_needRoom l hlt k vf a hvf x p1 u28 hc29) w393 w395 ws9 w1 w396 ⟨rfl, by decide +kernel, by decide +kernel, by decide +kernel⟩ ⟨Nat.le_of_ble_eq_true rfl, Nat.le_of_ble_eq_true rfl⟩ hK hE hP hD hS hA (isC := [0, 1, 2, 3, 4, 5, 6, 7, 8, 9, 10, 11, 12, 13, 14, 15, 16, 17, 18, 19, 20, 21, 22, 23]) (isR := []) (isB := [0, 1, 2, 3, 4, 5, 6, 7, 8, 9, 10, 11, 12, 13, 14, 15, 16, 17, 18, 19, 20, 21, 22, 23]) (ws' := W_F cI cV vf a x) ⟨([] : List Nat).filterMap (fun i : Nat => (W_F cI cV vf a x : va_W)[i]?), rfl, rfl, rfl, rfl, by decide, rfl, rfl⟩ 0 6 rfl rfl rfl rfl hl.1 rfl (Nat.le_of_ble_eq_true rfl) dX7_rate_45 ⟨Nat.le_of_ble_eq_true rfl, Nat.le_of_ble_eq_true rfl⟩ (fun E ce q9 H locs h32 hP hD hS hce hcv hcl => ?_) (fun rv9 H locs h32 hP hD hS => ?_)
        · obtain ⟨k30, hq9, hE9⟩ := rsV_x h32
          replace hf := thr_x hf hq9
          obtain rfl := Option.some.inj hf
          exact k_out htab hlocks hce hcv hcl (by rw [hE9]; rfl) hK hP hD hS (Nat.le_of_ble_eq_true rfl) (Nat.le_of_ble_eq_true rfl)
        obtain ⟨r31, hq9, rfl⟩ := rsV_v h32
        replace hf := thr_v hf hq9
        refine W.eq (g2 := F0 m 48 ls []) rfl ?_
        exact L48 x p1 p2 p3 H locs ls hf hP hD hS (lv_sub hl [0, 1, 2, 3] rfl)
    · replace hf := if_f c19 hf
      obtain rfl := Option.some.inj hf
      exact k_throw hx hb hlt (own := RX7) (text := "bits of no number") hown (by decide +kernel) htab hlocks (hg _ w320) (hg _ w13) (hE.1.2.2.2.1 _ (List.mem_of_getElem? (i := 5) rfl)) (thr_at80 hg hE.1) thr_ok80_76 hE (by rw [hml]; exact hl.1) dX7_rate_17 dX7_rate_20 dX7_rate_21 dX7_rate_23 dX7_rate_26 (Nat.le_of_ble_eq_true rfl) (Nat.le_of_ble_eq_true rfl) (Nat.le_of_ble_eq_true rfl) (Nat.le_of_ble_eq_true rfl) rfl hK hP hD hS (Nat.le_of_ble_eq_true rfl) (Nat.le_of_ble_eq_true rfl)
  exact M0 s.heap [] ls hf hP hD hS hl
/-! Compactforms.append(II)I -/
def fX7_append (k : Nat) (x : FSt) (p1 : Int32) (p2 : Int32) : Option (FSt × (Int32 ⊕ Nat)) := (fX7_needKey p1).bind (fun u1 => thr u1 (fun k3 => some (x, .inr k3)) (fun r4 => (fX7_needValue p2).bind (fun u6 => thr u6 (fun k8 => some (x, .inr k8)) (fun r9 => (fX7_needTypeOrAbsent k x p1 4).bind (fun u11 => thr u11 (fun k13 => some (x, .inr k13)) (fun r14 => (fX7_needRoom k x p1).bind (fun u16 => thr u16 (fun k18 => some (x, .inr k18)) (fun r19 => (fX7_needRowLeft k x).bind (fun u21 => thr u21 (fun k23 => some (x, .inr k23)) (fun r24 => (fX7_call k x 4 p1 p2 0 0).bind (fun u26 => keep u26.1 (fun x28 => some (x28, (.inl u26.2))))))))))))))
set_option maxHeartbeats 4000000 in
set_option maxRecDepth 100000 in
theorem met_X7_append {D : va_G} {cI cV cJ cD : ClassId} (l : Launch) (hlt : l.stackTraces = false) (k : Nat) (vf : Nat → Option Nat) (a : Nat → Nat) (hvf : vf k = some (a 6)) (x : FSt) (p1 : Int32) (p2 : Int32) (res : FSt × (Int32 ⊕ Nat)) (hf : fX7_append k x p1 p2 = some res) : MX l yX7_append cX7_append 3 (some .int) { frames := 8, cells := 5, slots := 30, locals := 180 } D (TY cI cV cJ cD) (W_F cI cV vf a x) (W_F cI cV vf a res.1) [.ref (a 0), .int p1, .int p2] (rsI res.2) := by
  intro sz
  refine vx_ofW (cc := cX7_append) (maxL := 3) (ret := (some .int)) (by decide +kernel) rfl ?_
  intro p e s m args below meth c s₁ B hml htab hv
  obtain ⟨rfl, hsz, hP, hK, hD0, hE⟩ := hv
  have hx := B.exec
  have hb := B.bytes
  have hr := B.returns
  have hts := atoms_spec (ws := .code yX7_append cX7_append 3 (some .int) :: GW) B.pre
  have hg : ∀ w ∈ GW, w.before (([.ref (a 0), .int p1, .int p2] : List Value).toArray) s = true := fun w h => hts w (List.mem_cons_of_mem _ h)
  have hown : s.vm.findClass RX7 = some m.cls := findClass_of_methodNamed B.named
  have hlocks := B.notSynchronized
  subst hsz
  have hD := hD0.self (sz := s.heap.size)
  generalize hAe : va_A (W_F cI cV vf a x) s.heap.size = A at hD hE ⊢
  have hA : ∀ q : Nat, s.heap.size ≤ q → A q := fun q h => by rw [← hAe]; exact Or.inr h
  have hS : va_S A s.heap s.heap [] := va_S.rf
  have hl := lv_entry ([.ref (a 0), .int p1, .int p2]) (n := 3) (Nat.le_of_ble_eq_true rfl)
  rw [lg_entry_eq]
  generalize (lg_sl ([.ref (a 0), .int p1, .int p2]) ++ List.replicate (3 - (lg_sl ([.ref (a 0), .int p1, .int p2])).length) Slot.unset).toArray = ls at hl ⊢
  have hl : lv_has ls 3 [(0, .ref (a 0)), (1, .int p1), (2, .int p2)] := hl
  have M0 : ∀ (H : Heap) (locs : List Loc) (ls : Array Slot), fX7_append k x p1 p2 = some res → va_P D vwCl (W_F cI cV vf a x) H → va_D A (W_F cI cV vf a x) → va_S A s.heap H locs → lv_has ls 3 [(0, .ref (a 0)), (1, .int p1), (2, .int p2)] → W p l e ({ frames := 8, cells := 5, slots := 30, locals := 180 } : Room) s m ([.ref (a 0), .int p1, .int p2] : List Value).toArray below meth c H locs 0 0 (vx_MQ below (QR D (TY cI cV cJ cD) (W_F cI cV vf a res.1) A (rsI res.2)) (XR D (TY cI cV cJ cD) (W_F cI cV vf a res.1) A (rsI res.2)) (([.ref (a 0), .int p1, .int p2] : List Value).toArray) s 5 30 A) (F0 m 0 ls []) := by
    intro H locs ls hf hP hD hS hl
    dsimp only [fX7_append] at hf
    refine lv_iload_n hx hb dX7_append_0 rfl (lv_at hl 1 rfl) ?_
    obtain ⟨u1, hc2, hf⟩ := bind_t hf
    refine k_SX (As := [.int p1]) (rest := []) (n := 1) ⟨hx, hb, hml, hown, hts⟩ (met_X7_needKey l hlt p1 u1 hc2) w209 w210 w1 w211 ⟨by decide +kernel, by decide +kernel, by decide +kernel⟩ ⟨Nat.le_of_ble_eq_true rfl, Nat.le_of_ble_eq_true rfl⟩ hK hE hP hD hS hA (isC := []) (isR := [0, 1, 2, 3, 4, 5, 6, 7, 8, 9, 10, 11, 12, 13, 14, 15, 16, 17, 18, 19, 20, 21, 22, 23]) (isB := [0, 1, 2, 3, 4, 5, 6, 7, 8, 9, 10, 11, 12, 13, 14, 15, 16, 17, 18, 19, 20, 21, 22, 23]) (ws' := W_F cI cV vf a x) ⟨([0, 1, 2, 3, 4, 5, 6, 7, 8, 9, 10, 11, 12, 13, 14, 15, 16, 17, 18, 19, 20, 21, 22, 23] : List Nat).filterMap (fun i : Nat => (W_F cI cV vf a x : va_W)[i]?), rfl, rfl, rfl, rfl, by decide, rfl, rfl⟩ rfl hl.1 rfl (Nat.le_of_ble_eq_true rfl) dX7_append_1 ⟨Nat.le_of_ble_eq_true rfl, Nat.le_of_ble_eq_true rfl⟩ (fun E ce q9 H locs h5 hP hD hS hce hcv hcl => ?_) (fun rv9 H locs h5 hP hD hS => ?_)
    · obtain ⟨k3, hq9, hE9⟩ := rsV_x h5
      replace hf := thr_x hf hq9
      obtain rfl := Option.some.inj hf
      exact k_out htab hlocks hce hcv hcl (by rw [hE9]; rfl) hK hP hD hS (Nat.le_of_ble_eq_true rfl) (Nat.le_of_ble_eq_true rfl)
    obtain ⟨r4, hq9, rfl⟩ := rsV_v h5
    replace hf := thr_v hf hq9
    refine W.eq (g2 := F0 m 4 ls []) rfl ?_
    refine lv_iload_n hx hb dX7_append_4 rfl (lv_at hl 2 rfl) ?_
    obtain ⟨u6, hc7, hf⟩ := bind_t hf
    refine k_SX (As := [.int p2]) (rest := []) (n := 1) ⟨hx, hb, hml, hown, hts⟩ (met_X7_needValue l hlt p2 u6 hc7) w314 w315 w1 w316 ⟨by decide +kernel, by decide +kernel, by decide +kernel⟩ ⟨Nat.le_of_ble_eq_true rfl, Nat.le_of_ble_eq_true rfl⟩ hK hE hP hD hS hA (isC := []) (isR := [0, 1, 2, 3, 4, 5, 6, 7, 8, 9, 10, 11, 12, 13, 14, 15, 16, 17, 18, 19, 20, 21, 22, 23]) (isB := [0, 1, 2, 3, 4, 5, 6, 7, 8, 9, 10, 11, 12, 13, 14, 15, 16, 17, 18, 19, 20, 21, 22, 23]) (ws' := W_F cI cV vf a x) ⟨([0, 1, 2, 3, 4, 5, 6, 7, 8, 9, 10, 11, 12, 13, 14, 15, 16, 17, 18, 19, 20, 21, 22, 23] : List Nat).filterMap (fun i : Nat => (W_F cI cV vf a x : va_W)[i]?), rfl, rfl, rfl, rfl, by decide, rfl, rfl⟩ rfl hl.1 rfl (Nat.le_of_ble_eq_true rfl) dX7_append_5 ⟨Nat.le_of_ble_eq_true rfl, Nat.le_of_ble_eq_true rfl⟩ (fun E ce q9 H locs h10 hP hD hS hce hcv hcl => ?_) (fun rv9 H locs h10 hP hD hS => ?_)
    · obtain ⟨k8, hq9, hE9⟩ := rsV_x h10
      replace hf := thr_x hf hq9
      obtain rfl := Option.some.inj hf
      exact k_out htab hlocks hce hcv hcl (by rw [hE9]; rfl) hK hP hD hS (Nat.le_of_ble_eq_true rfl) (Nat.le_of_ble_eq_true rfl)
    obtain ⟨r9, hq9, rfl⟩ := rsV_v h10
    replace hf := thr_v hf hq9
    refine W.eq (g2 := F0 m 8 ls []) rfl ?_
    refine lv_aload_n hx hb dX7_append_8 rfl (lv_at hl 0 rfl) ?_
    refine lv_iload_n hx hb dX7_append_9 rfl (lv_at hl 1 rfl) ?_
    refine lv_iconst (v := 4) hx hb dX7_append_10 (by decide) ?_
    obtain ⟨u11, hc12, hf⟩ := bind_t hf
    refine k_VX (As := [.int p1, .int 4]) (rest := []) (n := 2) ⟨hx, hb, hml, hown, hts⟩ (met_X7_needTypeOrAbsent l hlt k vf a hvf x p1 4 u11 hc12) w369 w371 ws7 w1 w372 ⟨rfl, by decide +kernel, by decide +kernel, by decide +kernel⟩ ⟨Nat.le_of_ble_eq_true rfl, Nat.le_of_ble_eq_true rfl⟩ hK hE hP hD hS hA (isC := [0, 1, 2, 3, 4, 5, 6, 7, 8, 9, 10, 11, 12, 13, 14, 15, 16, 17, 18, 19, 20, 21, 22, 23]) (isR := []) (isB := [0, 1, 2, 3, 4, 5, 6, 7, 8, 9, 10, 11, 12, 13, 14, 15, 16, 17, 18, 19, 20, 21, 22, 23]) (ws' := W_F cI cV vf a x) ⟨([] : List Nat).filterMap (fun i : Nat => (W_F cI cV vf a x : va_W)[i]?), rfl, rfl, rfl, rfl, by decide, rfl, rfl⟩ 0 6 rfl rfl rfl rfl hl.1 rfl (Nat.le_of_ble_eq_true rfl) dX7_append_11 ⟨Nat.le_of_ble_eq_true rfl, Nat.le_of_ble_eq_true rfl⟩ (fun E ce q9 H locs h15 hP hD hS hce hcv hcl => ?_) (fun rv9 H locs h15 hP hD hS => ?_)
    · obtain ⟨k13, hq9, hE9⟩ := rsV_x h15
      replace hf := thr_x hf hq9
      obtain rfl := Option.some.inj hf
      exact k_out htab hlocks hce hcv hcl (by rw [hE9]; rfl) hK hP hD hS (Nat.le_of_ble_eq_true rfl) (Nat.le_of_ble_eq_true rfl)
    obtain ⟨r14, hq9, rfl⟩ := rsV_v h15
    replace hf := thr_v hf hq9
    refine W.eq (g2 := F0 m 14 ls []) rfl ?_
    refine lv_aload_n hx hb dX7_append_14 rfl (lv_at hl 0 rfl) ?_
    refine lv_iload_n hx hb dX7_append_15 rfl (lv_at hl 1 rfl) ?_
    obtain ⟨u16, hc17, hf⟩ := bind_t hf
    refine k_VX (As := [.int p1]) (rest := []) (n := 1) ⟨hx, hb, hml, hown, hts⟩ (met_X7_needRoom l hlt k vf a hvf x p1 u16 hc17) w393 w395 ws9 w1 w396 ⟨rfl, by decide +kernel, by decide +kernel, by decide +kernel⟩ ⟨Nat.le_of_ble_eq_true rfl, Nat.le_of_ble_eq_true rfl⟩ hK hE hP hD hS hA (isC := [0, 1, 2, 3, 4, 5, 6, 7, 8, 9, 10, 11, 12, 13, 14, 15, 16, 17, 18, 19, 20, 21, 22, 23]) (isR := []) (isB := [0, 1, 2, 3, 4, 5, 6, 7, 8, 9, 10, 11, 12, 13, 14, 15, 16, 17, 18, 19, 20, 21, 22, 23]) (ws' := W_F cI cV vf a x) ⟨([] : List Nat).filterMap (fun i : Nat => (W_F cI cV vf a x : va_W)[i]?), rfl, rfl, rfl, rfl, by decide, rfl, rfl⟩ 0 6 rfl rfl rfl rfl hl.1 rfl (Nat.le_of_ble_eq_true rfl) dX7_append_16 ⟨Nat.le_of_ble_eq_true rfl, Nat.le_of_ble_eq_true rfl⟩ (fun E ce q9 H locs h20 hP hD hS hce hcv hcl => ?_) (fun rv9 H locs h20 hP hD hS => ?_)
    · obtain ⟨k18, hq9, hE9⟩ := rsV_x h20
      replace hf := thr_x hf hq9
      obtain rfl := Option.some.inj hf
      exact k_out htab hlocks hce hcv hcl (by rw [hE9]; rfl) hK hP hD hS (Nat.le_of_ble_eq_true rfl) (Nat.le_of_ble_eq_true rfl)
    obtain ⟨r19, hq9, rfl⟩ := rsV_v h20
    replace hf := thr_v hf hq9
    refine W.eq (g2 := F0 m 19 ls []) rfl ?_
    refine lv_aload_n hx hb dX7_append_19 rfl (lv_at hl 0 rfl) ?_
    obtain ⟨u21, hc22, hf⟩ := bind_t hf
    refine k_VX (As := []) (rest := []) (n := 0) ⟨hx, hb, hml, hown, hts⟩ (met_X7_needRowLeft l hlt k vf a hvf x u21 hc22) w398 w400 ws10 w1 w401 ⟨rfl, by decide +kernel, by decide +kernel, by decide +kernel⟩ ⟨Nat.le_of_ble_eq_true rfl, Nat.le_of_ble_eq_true rfl⟩ hK hE hP hD hS hA (isC := [0, 1, 2, 3, 4, 5, 6, 7, 8, 9, 10, 11, 12, 13, 14, 15, 16, 17, 18, 19, 20, 21, 22, 23]) (isR := []) (isB := [0, 1, 2, 3, 4, 5, 6, 7, 8, 9, 10, 11, 12, 13, 14, 15, 16, 17, 18, 19, 20, 21, 22, 23]) (ws' := W_F cI cV vf a x) ⟨([] : List Nat).filterMap (fun i : Nat => (W_F cI cV vf a x : va_W)[i]?), rfl, rfl, rfl, rfl, by decide, rfl, rfl⟩ 0 6 rfl rfl rfl rfl hl.1 rfl (Nat.le_of_ble_eq_true rfl) dX7_append_20 ⟨Nat.le_of_ble_eq_true rfl, Nat.le_of_ble_eq_true rfl⟩ (fun E ce q9 H locs h25 hP hD hS hce hcv hcl => ?_) (fun rv9 H locs h25 hP hD hS => ?_)
    · obtain ⟨k23, hq9, hE9⟩ := rsV_x h25
      replace hf := thr_x hf hq9
      obtain rfl := Option.some.inj hf
      exact k_out htab hlocks hce hcv hcl (by rw [hE9]; rfl) hK hP hD hS (Nat.le_of_ble_eq_true rfl) (Nat.le_of_ble_eq_true rfl)
    obtain ⟨r24, hq9, rfl⟩ := rsV_v h25
    replace hf := thr_v hf hq9
    refine W.eq (g2 := F0 m 23 ls []) rfl ?_
    refine lv_aload_n hx hb dX7_append_23 rfl (lv_at hl 0 rfl) ?_
    refine lv_iconst (v := 4) hx hb dX7_append_24 (by decide) ?_
    refine lv_iload_n hx hb dX7_append_25 rfl (lv_at hl 1 rfl) ?_
    refine lv_iload_n hx hb dX7_append_26 rfl (lv_at hl 2 rfl) ?_
    refine lv_iconst (v := 0) hx hb dX7_append_27 (by decide) ?_
    refine lv_iconst (v := 0) hx hb dX7_append_28 (by decide) ?_
    obtain ⟨u26, hc27, hf⟩ := bind_t hf
    refine k_V (As := [.int 4, .int p1, .int p2, .int 0, .int 0]) (rest := []) (n := 5) ⟨hx, hb, hml, hown, hts⟩ (met_X7_call l k vf a hvf x 4 p1 p2 0 0 u26 hc27) w403 w405 ws11 w1 w406 ⟨rfl, by decide +kernel, by decide +kernel, by decide +kernel⟩ ⟨Nat.le_of_ble_eq_true rfl, Nat.le_of_ble_eq_true rfl⟩ hK hE hP hD hS hA (isC := [0, 1, 2, 3, 4, 5, 6, 7, 8, 9, 10, 11, 12, 13, 14, 15, 16, 17, 18, 19, 20, 21, 22, 23]) (isR := []) (isB := [0, 1, 2, 3, 4, 5, 6, 7, 8, 9, 10, 11, 12, 13, 14, 15, 16, 17, 18, 19, 20, 21, 22, 23]) (ws' := W_F cI cV vf a u26.1) ⟨([] : List Nat).filterMap (fun i : Nat => (W_F cI cV vf a x : va_W)[i]?), rfl, rfl, rfl, rfl, by decide, rfl, rfl⟩ 0 6 rfl rfl rfl rfl hl.1 rfl (Nat.le_of_ble_eq_true rfl) dX7_append_29 ⟨Nat.le_of_ble_eq_true rfl, Nat.le_of_ble_eq_true rfl⟩ (fun H locs hP hD hS => ?_)
    try dsimp only at hf
    refine W.eq (g2 := F0 m 32 ls [.int u26.2]) rfl ?_
    obtain ⟨x28, hx28⟩ : ∃ z, z = u26.1 := ⟨_, rfl⟩
    replace hf := keep_e hf x28 hx28
    have hP : va_P D vwCl (W_F cI cV vf a x28) H := by rw [hx28]; exact hP
    have hD : va_D A (W_F cI cV vf a x28) := by rw [hx28]; exact hD
    obtain rfl := Option.some.inj hf
    refine vx_ret ?_
    exact W.iret (v := u26.2) hx hb hr (fun t ht hW => ⟨_, rfl, ⟨rfl, by rw [ht]; exact hP, va_K.moved hW.alike hK, hD, hS.F ht⟩⟩) hS.2.2 dX7_append_32 hlocks
  exact M0 s.heap [] ls hf hP hD hS hl
/-! Compactforms.needGroup(I)V -/
def fX7_needGroup (p0 : Int32) : Option ((Int32 ⊕ Nat)) := (fX7_isGroup p0).bind (fun u1 => (if u1 = 0 then some (.inr 0) else some (.inl 0)))
set_option maxHeartbeats 4000000 in
set_option maxRecDepth 100000 in
theorem met_X7_needGroup {D : va_G} {cI cV cJ cD : ClassId} (l : Launch) (hlt : l.stackTraces = false) (p0 : Int32) (res : (Int32 ⊕ Nat)) (hf : fX7_needGroup p0 = some res) : MX l yX7_needGroup cX7_needGroup 1 none { frames := 6, cells := 1, slots := 6, locals := 100 } D (TY cI cV cJ cD) ([]) ([]) [.int p0] (rsV res) := by
  intro sz
  refine vx_ofW (cc := cX7_needGroup) (maxL := 1) (ret := none) (by decide +kernel) rfl ?_
  intro p e s m args below meth c s₁ B hml htab hv
  obtain ⟨rfl, hsz, hP, hK, hD0, hE⟩ := hv
  have hx := B.exec
  have hb := B.bytes
  have hr := B.returns
  have hts := atoms_spec (ws := .code yX7_needGroup cX7_needGroup 1 none :: GW) B.pre
  have hg : ∀ w ∈ GW, w.before (([.int p0] : List Value).toArray) s = true := fun w h => hts w (List.mem_cons_of_mem _ h)
  have hown : s.vm.findClass RX7 = some m.cls := findClass_of_methodNamed B.named
  have hlocks := B.notSynchronized
  subst hsz
  have hD := hD0.self (sz := s.heap.size)
  generalize hAe : va_A ([]) s.heap.size = A at hD hE ⊢
  have hA : ∀ q : Nat, s.heap.size ≤ q → A q := fun q h => by rw [← hAe]; exact Or.inr h
  have hS : va_S A s.heap s.heap [] := va_S.rf
  have hl := lv_entry ([.int p0]) (n := 1) (Nat.le_of_ble_eq_true rfl)
  rw [lg_entry_eq]
  generalize (lg_sl ([.int p0]) ++ List.replicate (1 - (lg_sl ([.int p0])).length) Slot.unset).toArray = ls at hl ⊢
  have hl : lv_has ls 1 [(0, .int p0)] := hl
  have M0 : ∀ (H : Heap) (locs : List Loc) (ls : Array Slot), fX7_needGroup p0 = some res → va_P D vwCl ([]) H → va_D A ([]) → va_S A s.heap H locs → lv_has ls 1 [(0, .int p0)] → W p l e ({ frames := 6, cells := 1, slots := 6, locals := 100 } : Room) s m ([.int p0] : List Value).toArray below meth c H locs 0 0 (vx_MQ below (QR D (TY cI cV cJ cD) ([]) A (rsV res)) (XR D (TY cI cV cJ cD) ([]) A (rsV res)) (([.int p0] : List Value).toArray) s 1 6 A) (F0 m 0 ls []) := by
    intro H locs ls hf hP hD hS hl
    dsimp only [fX7_needGroup] at hf
    refine lv_iload_n hx hb dX7_needGroup_0 rfl (lv_at hl 0 rfl) ?_
    obtain ⟨u1, hc2, hf⟩ := bind_t hf
    refine k_S (As := [.int p0]) (rest := []) (n := 1) ⟨hx, hb, hml, hown, hts⟩ (met_X7_isGroup l p0 u1 hc2) w603 w550 w1 w551 ⟨by decide +kernel, by decide +kernel, by decide +kernel⟩ ⟨Nat.le_of_ble_eq_true rfl, Nat.le_of_ble_eq_true rfl⟩ hK hE hP hD hS hA (isC := []) (isR := []) (isB := []) (ws' := []) ⟨([] : List Nat).filterMap (fun i : Nat => ([] : va_W)[i]?), rfl, rfl, rfl, rfl, by decide, rfl, rfl⟩ rfl hl.1 rfl (Nat.le_of_ble_eq_true rfl) dX7_needGroup_1 ⟨Nat.le_of_ble_eq_true rfl, Nat.le_of_ble_eq_true rfl⟩ (fun H locs hP hD hS => ?_)
    try dsimp only at hf
    refine W.eq (g2 := F0 m 4 ls [.int u1]) rfl ?_
    refine lv_if_ne (tgt := 17) hx hb dX7_needGroup_4 (by decide) (fun c3 => ?_) (fun c3 => ?_)
    · replace hf := if_f c3 hf
      obtain rfl := Option.some.inj hf
      refine W.widen (k := 1) (n := 6) (Nat.le_of_ble_eq_true rfl) (Nat.le_of_ble_eq_true rfl) ?_
      refine vx_ret ?_
      exact W.vret hx hb hr (fun t ht hW => ⟨_, rfl, ⟨rfl, by rw [ht]; exact hP, va_K.moved hW.alike hK, hD, hS.F ht⟩⟩) hS.2.2 dX7_needGroup_17 hlocks
    · replace hf := if_t c3 hf
      obtain rfl := Option.some.inj hf
      exact k_throw hx hb hlt (own := RX7) (text := "no such group") hown (by decide +kernel) htab hlocks (hg _ w218) (hg _ w12) (hE.1.2.2.2.1 _ (List.mem_of_getElem? (i := 6) rfl)) (thr_at196 hg hE.1) thr_ok196_192 hE (by rw [hml]; exact hl.1) dX7_needGroup_7 dX7_needGroup_10 dX7_needGroup_11 dX7_needGroup_13 dX7_needGroup_16 (Nat.le_of_ble_eq_true rfl) (Nat.le_of_ble_eq_true rfl) (Nat.le_of_ble_eq_true rfl) (Nat.le_of_ble_eq_true rfl) rfl hK hP hD hS (Nat.le_of_ble_eq_true rfl) (Nat.le_of_ble_eq_true rfl)
  exact M0 s.heap [] ls hf hP hD hS hl
/-! Compactforms.needReader(I)V -/
def fX7_needReader (p0 : Int32) : Option ((Int32 ⊕ Nat)) := (fX7_isWithin p0 0 3).bind (fun u1 => (if u1 = 0 then some (.inr 0) else some (.inl 0)))
set_option maxHeartbeats 4000000 in
set_option maxRecDepth 100000 in
theorem met_X7_needReader {D : va_G} {cI cV cJ cD : ClassId} (l : Launch) (hlt : l.stackTraces = false) (p0 : Int32) (res : (Int32 ⊕ Nat)) (hf : fX7_needReader p0 = some res) : MX l yX7_needReader cX7_needReader 1 none { frames := 6, cells := 1, slots := 6, locals := 100 } D (TY cI cV cJ cD) ([]) ([]) [.int p0] (rsV res) := by
  intro sz
  refine vx_ofW (cc := cX7_needReader) (maxL := 1) (ret := none) (by decide +kernel) rfl ?_
  intro p e s m args below meth c s₁ B hml htab hv
  obtain ⟨rfl, hsz, hP, hK, hD0, hE⟩ := hv
  have hx := B.exec
  have hb := B.bytes
  have hr := B.returns
  have hts := atoms_spec (ws := .code yX7_needReader cX7_needReader 1 none :: GW) B.pre
  have hg : ∀ w ∈ GW, w.before (([.int p0] : List Value).toArray) s = true := fun w h => hts w (List.mem_cons_of_mem _ h)
  have hown : s.vm.findClass RX7 = some m.cls := findClass_of_methodNamed B.named
  have hlocks := B.notSynchronized
  subst hsz
  have hD := hD0.self (sz := s.heap.size)
  generalize hAe : va_A ([]) s.heap.size = A at hD hE ⊢
  have hA : ∀ q : Nat, s.heap.size ≤ q → A q := fun q h => by rw [← hAe]; exact Or.inr h
  have hS : va_S A s.heap s.heap [] := va_S.rf
  have hl := lv_entry ([.int p0]) (n := 1) (Nat.le_of_ble_eq_true rfl)
  rw [lg_entry_eq]
  generalize (lg_sl ([.int p0]) ++ List.replicate (1 - (lg_sl ([.int p0])).length) Slot.unset).toArray = ls at hl ⊢
  have hl : lv_has ls 1 [(0, .int p0)] := hl
  have M0 : ∀ (H : Heap) (locs : List Loc) (ls : Array Slot), fX7_needReader p0 = some res → va_P D vwCl ([]) H → va_D A ([]) → va_S A s.heap H locs → lv_has ls 1 [(0, .int p0)] → W p l e ({ frames := 6, cells := 1, slots := 6, locals := 100 } : Room) s m ([.int p0] : List Value).toArray below meth c H locs 0 0 (vx_MQ below (QR D (TY cI cV cJ cD) ([]) A (rsV res)) (XR D (TY cI cV cJ cD) ([]) A (rsV res)) (([.int p0] : List Value).toArray) s 1 6 A) (F0 m 0 ls []) := by
    intro H locs ls hf hP hD hS hl
    dsimp only [fX7_needReader] at hf
    refine lv_iload_n hx hb dX7_needReader_0 rfl (lv_at hl 0 rfl) ?_
    refine lv_iconst (v := 0) hx hb dX7_needReader_1 (by decide) ?_
    refine lv_iconst (v := 3) hx hb dX7_needReader_2 (by decide) ?_
    obtain ⟨u1, hc2, hf⟩ := bind_t hf
    refine k_S (As := [.int p0, .int 0, .int 3]) (rest := []) (n := 3) ⟨hx, hb, hml, hown, hts⟩ (met_X7_isWithin l p0 0 3 u1 hc2) w215 w216 w1 w217 ⟨by decide +kernel, by decide +kernel, by decide +kernel⟩ ⟨Nat.le_of_ble_eq_true rfl, Nat.le_of_ble_eq_true rfl⟩ hK hE hP hD hS hA (isC := []) (isR := []) (isB := []) (ws' := []) ⟨([] : List Nat).filterMap (fun i : Nat => ([] : va_W)[i]?), rfl, rfl, rfl, rfl, by decide, rfl, rfl⟩ rfl hl.1 rfl (Nat.le_of_ble_eq_true rfl) dX7_needReader_3 ⟨Nat.le_of_ble_eq_true rfl, Nat.le_of_ble_eq_true rfl⟩ (fun H locs hP hD hS => ?_)
    try dsimp only at hf
    refine W.eq (g2 := F0 m 6 ls [.int u1]) rfl ?_
    refine lv_if_ne (tgt := 19) hx hb dX7_needReader_6 (by decide) (fun c3 => ?_) (fun c3 => ?_)
    · replace hf := if_f c3 hf
      obtain rfl := Option.some.inj hf
      refine W.widen (k := 1) (n := 6) (Nat.le_of_ble_eq_true rfl) (Nat.le_of_ble_eq_true rfl) ?_
      refine vx_ret ?_
      exact W.vret hx hb hr (fun t ht hW => ⟨_, rfl, ⟨rfl, by rw [ht]; exact hP, va_K.moved hW.alike hK, hD, hS.F ht⟩⟩) hS.2.2 dX7_needReader_19 hlocks
    · replace hf := if_t c3 hf
      obtain rfl := Option.some.inj hf
      exact k_throw hx hb hlt (own := RX7) (text := "no such reader") hown (by decide +kernel) htab hlocks (hg _ w218) (hg _ w12) (hE.1.2.2.2.1 _ (List.mem_of_getElem? (i := 7) rfl)) (thr_at196 hg hE.1) thr_ok196_192 hE (by rw [hml]; exact hl.1) dX7_needReader_9 dX7_needReader_12 dX7_needReader_13 dX7_needReader_15 dX7_needReader_18 (Nat.le_of_ble_eq_true rfl) (Nat.le_of_ble_eq_true rfl) (Nat.le_of_ble_eq_true rfl) (Nat.le_of_ble_eq_true rfl) rfl hK hP hD hS (Nat.le_of_ble_eq_true rfl) (Nat.le_of_ble_eq_true rfl)
  exact M0 s.heap [] ls hf hP hD hS hl
/-! Compactforms.read(III)I -/
def fX7_read (k : Nat) (x : FSt) (p1 : Int32) (p2 : Int32) (p3 : Int32) : Option (FSt × (Int32 ⊕ Nat)) := (fX7_needKey p1).bind (fun u1 => thr u1 (fun k3 => some (x, .inr k3)) (fun r4 => (fX7_needGroup p2).bind (fun u6 => thr u6 (fun k8 => some (x, .inr k8)) (fun r9 => (fX7_needReader p3).bind (fun u11 => thr u11 (fun k13 => some (x, .inr k13)) (fun r14 => (fX7_needType k x p1 4).bind (fun u16 => thr u16 (fun k18 => some (x, .inr k18)) (fun r19 => (fX7_needRowLeft k x).bind (fun u21 => thr u21 (fun k23 => some (x, .inr k23)) (fun r24 => (fX7_call k x 9 p1 p2 p3 0).bind (fun u26 => keep u26.1 (fun x28 => some (x28, (.inl u26.2))))))))))))))
set_option maxHeartbeats 4000000 in
set_option maxRecDepth 100000 in
theorem met_X7_read {D : va_G} {cI cV cJ cD : ClassId} (l : Launch) (hlt : l.stackTraces = false) (k : Nat) (vf : Nat → Option Nat) (a : Nat → Nat) (hvf : vf k = some (a 6)) (x : FSt) (p1 : Int32) (p2 : Int32) (p3 : Int32) (res : FSt × (Int32 ⊕ Nat)) (hf : fX7_read k x p1 p2 p3 = some res) : MX l yX7_read cX7_read 4 (some .int) { frames := 7, cells := 5, slots := 30, locals := 180 } D (TY cI cV cJ cD) (W_F cI cV vf a x) (W_F cI cV vf a res.1) [.ref (a 0), .int p1, .int p2, .int p3] (rsI res.2) := by
  intro sz
  refine vx_ofW (cc := cX7_read) (maxL := 4) (ret := (some .int)) (by decide +kernel) rfl ?_
  intro p e s m args below meth c s₁ B hml htab hv
  obtain ⟨rfl, hsz, hP, hK, hD0, hE⟩ := hv
  have hx := B.exec
  have hb := B.bytes
  have hr := B.returns
  have hts := atoms_spec (ws := .code yX7_read cX7_read 4 (some .int) :: GW) B.pre
  have hg : ∀ w ∈ GW, w.before (([.ref (a 0), .int p1, .int p2, .int p3] : List Value).toArray) s = true := fun w h => hts w (List.mem_cons_of_mem _ h)
  have hown : s.vm.findClass RX7 = some m.cls := findClass_of_methodNamed B.named
  have hlocks := B.notSynchronized
  subst hsz
  have hD := hD0.self (sz := s.heap.size)
  generalize hAe : va_A (W_F cI cV vf a x) s.heap.size = A at hD hE ⊢
  have hA : ∀ q : Nat, s.heap.size ≤ q → A q := fun q h => by rw [← hAe]; exact Or.inr h
  have hS : va_S A s.heap s.heap [] := va_S.rf
  have hl := lv_entry ([.ref (a 0), .int p1, .int p2, .int p3]) (n := 4) (Nat.le_of_ble_eq_true rfl)
  rw [lg_entry_eq]
  generalize (lg_sl ([.ref (a 0), .int p1, .int p2, .int p3]) ++ List.replicate (4 - (lg_sl ([.ref (a 0), .int p1, .int p2, .int p3])).length) Slot.unset).toArray = ls at hl ⊢
  have hl : lv_has ls 4 [(0, .ref (a 0)), (1, .int p1), (2, .int p2), (3, .int p3)] := hl
  have M0 : ∀ (H : Heap) (locs : List Loc) (ls : Array Slot), fX7_read k x p1 p2 p3 = some res → va_P D vwCl (W_F cI cV vf a x) H → va_D A (W_F cI cV vf a x) → va_S A s.heap H locs → lv_has ls 4 [(0, .ref (a 0)), (1, .int p1), (2, .int p2), (3, .int p3)] → W p l e ({ frames := 7, cells := 5, slots := 30, locals := 180 } : Room) s m ([.ref (a 0), .int p1, .int p2, .int p3] : List Value).toArray below meth c H locs 0 0 (vx_MQ below (QR D (TY cI cV cJ cD) (W_F cI cV vf a res.1) A (rsI res.2)) (XR D (TY cI cV cJ cD) (W_F cI cV vf a res.1) A (rsI res.2)) (([.ref (a 0), .int p1, .int p2, .int p3] : List Value).toArray) s 5 30 A) (F0 m 0 ls []) := by
    intro H locs ls hf hP hD hS hl
    dsimp only [fX7_read] at hf
    refine lv_iload_n hx hb dX7_read_0 rfl (lv_at hl 1 rfl) ?_
    obtain ⟨u1, hc2, hf⟩ := bind_t hf
    refine k_SX (As := [.int p1]) (rest := []) (n := 1) ⟨hx, hb, hml, hown, hts⟩ (met_X7_needKey l hlt p1 u1 hc2) w209 w210 w1 w211 ⟨by decide +kernel, by decide +kernel, by decide +kernel⟩ ⟨Nat.le_of_ble_eq_true rfl, Nat.le_of_ble_eq_true rfl⟩ hK hE hP hD hS hA (isC := []) (isR := [0, 1, 2, 3, 4, 5, 6, 7, 8, 9, 10, 11, 12, 13, 14, 15, 16, 17, 18, 19, 20, 21, 22, 23]) (isB := [0, 1, 2, 3, 4, 5, 6, 7, 8, 9, 10, 11, 12, 13, 14, 15, 16, 17, 18, 19, 20, 21, 22, 23]) (ws' := W_F cI cV vf a x) ⟨([0, 1, 2, 3, 4, 5, 6, 7, 8, 9, 10, 11, 12, 13, 14, 15, 16, 17, 18, 19, 20, 21, 22, 23] : List Nat).filterMap (fun i : Nat => (W_F cI cV vf a x : va_W)[i]?), rfl, rfl, rfl, rfl, by decide, rfl, rfl⟩ rfl hl.1 rfl (Nat.le_of_ble_eq_true rfl) dX7_read_1 ⟨Nat.le_of_ble_eq_true rfl, Nat.le_of_ble_eq_true rfl⟩ (fun E ce q9 H locs h5 hP hD hS hce hcv hcl => ?_) (fun rv9 H locs h5 hP hD hS => ?_)
    · obtain ⟨k3, hq9, hE9⟩ := rsV_x h5
      replace hf := thr_x hf hq9
      obtain rfl := Option.some.inj hf
      exact k_out htab hlocks hce hcv hcl (by rw [hE9]; rfl) hK hP hD hS (Nat.le_of_ble_eq_true rfl) (Nat.le_of_ble_eq_true rfl)
    obtain ⟨r4, hq9, rfl⟩ := rsV_v h5
    replace hf := thr_v hf hq9
    refine W.eq (g2 := F0 m 4 ls []) rfl ?_
    refine lv_iload_n hx hb dX7_read_4 rfl (lv_at hl 2 rfl) ?_
    obtain ⟨u6, hc7, hf⟩ := bind_t hf
    refine k_SX (As := [.int p2]) (rest := []) (n := 1) ⟨hx, hb, hml, hown, hts⟩ (met_X7_needGroup l hlt p2 u6 hc7) w600 w601 w1 w602 ⟨by decide +kernel, by decide +kernel, by decide +kernel⟩ ⟨Nat.le_of_ble_eq_true rfl, Nat.le_of_ble_eq_true rfl⟩ hK hE hP hD hS hA (isC := []) (isR := [0, 1, 2, 3, 4, 5, 6, 7, 8, 9, 10, 11, 12, 13, 14, 15, 16, 17, 18, 19, 20, 21, 22, 23]) (isB := [0, 1, 2, 3, 4, 5, 6, 7, 8, 9, 10, 11, 12, 13, 14, 15, 16, 17, 18, 19, 20, 21, 22, 23]) (ws' := W_F cI cV vf a x) ⟨([0, 1, 2, 3, 4, 5, 6, 7, 8, 9, 10, 11, 12, 13, 14, 15, 16, 17, 18, 19, 20, 21, 22, 23] : List Nat).filterMap (fun i : Nat => (W_F cI cV vf a x : va_W)[i]?), rfl, rfl, rfl, rfl, by decide, rfl, rfl⟩ rfl hl.1 rfl (Nat.le_of_ble_eq_true rfl) dX7_read_5 ⟨Nat.le_of_ble_eq_true rfl, Nat.le_of_ble_eq_true rfl⟩ (fun E ce q9 H locs h10 hP hD hS hce hcv hcl => ?_) (fun rv9 H locs h10 hP hD hS => ?_)
    · obtain ⟨k8, hq9, hE9⟩ := rsV_x h10
      replace hf := thr_x hf hq9
      obtain rfl := Option.some.inj hf
      exact k_out htab hlocks hce hcv hcl (by rw [hE9]; rfl) hK hP hD hS (Nat.le_of_ble_eq_true rfl) (Nat.le_of_ble_eq_true rfl)
    obtain ⟨r9, hq9, rfl⟩ := rsV_v h10
    replace hf := thr_v hf hq9
    refine W.eq (g2 := F0 m 8 ls []) rfl ?_
    refine lv_iload_n hx hb dX7_read_8 rfl (lv_at hl 3 rfl) ?_
    obtain ⟨u11, hc12, hf⟩ := bind_t hf
    refine k_SX (As := [.int p3]) (rest := []) (n := 1) ⟨hx, hb, hml, hown, hts⟩ (met_X7_needReader l hlt p3 u11 hc12) w605 w606 w1 w607 ⟨by decide +kernel, by decide +kernel, by decide +kernel⟩ ⟨Nat.le_of_ble_eq_true rfl, Nat.le_of_ble_eq_true rfl⟩ hK hE hP hD hS hA (isC := []) (isR := [0, 1, 2, 3, 4, 5, 6, 7, 8, 9, 10, 11, 12, 13, 14, 15, 16, 17, 18, 19, 20, 21, 22, 23]) (isB := [0, 1, 2, 3, 4, 5, 6, 7, 8, 9, 10, 11, 12, 13, 14, 15, 16, 17, 18, 19, 20, 21, 22, 23]) (ws' := W_F cI cV vf a x) ⟨([0, 1, 2, 3, 4, 5, 6, 7, 8, 9, 10, 11, 12, 13, 14, 15, 16, 17, 18, 19, 20, 21, 22, 23] : List Nat).filterMap (fun i : Nat => (W_F cI cV vf a x : va_W)[i]?), rfl, rfl, rfl, rfl, by decide, rfl, rfl⟩ rfl hl.1 rfl (Nat.le_of_ble_eq_true rfl) dX7_read_9 ⟨Nat.le_of_ble_eq_true rfl, Nat.le_of_ble_eq_true rfl⟩ (fun E ce q9 H locs h15 hP hD hS hce hcv hcl => ?_) (fun rv9 H locs h15 hP hD hS => ?_)
    · obtain ⟨k13, hq9, hE9⟩ := rsV_x h15
      replace hf := thr_x hf hq9
      obtain rfl := Option.some.inj hf
      exact k_out htab hlocks hce hcv hcl (by rw [hE9]; rfl) hK hP hD hS (Nat.le_of_ble_eq_true rfl) (Nat.le_of_ble_eq_true rfl)
    obtain ⟨r14, hq9, rfl⟩ := rsV_v h15
    replace hf := thr_v hf hq9
    refine W.eq (g2 := F0 m 12 ls []) rfl ?_
    refine lv_aload_n hx hb dX7_read_12 rfl (lv_at hl 0 rfl) ?_
    refine lv_iload_n hx hb dX7_read_13 rfl (lv_at hl 1 rfl) ?_
    refine lv_iconst (v := 4) hx hb dX7_read_14 (by decide) ?_
    obtain ⟨u16, hc17, hf⟩ := bind_t hf
    refine k_VX (As := [.int p1, .int 4]) (rest := []) (n := 2) ⟨hx, hb, hml, hown, hts⟩ (met_X7_needType l hlt k vf a hvf x p1 4 u16 hc17) w373 w375 ws8 w1 w376 ⟨rfl, by decide +kernel, by decide +kernel, by decide +kernel⟩ ⟨Nat.le_of_ble_eq_true rfl, Nat.le_of_ble_eq_true rfl⟩ hK hE hP hD hS hA (isC := [0, 1, 2, 3, 4, 5, 6, 7, 8, 9, 10, 11, 12, 13, 14, 15, 16, 17, 18, 19, 20, 21, 22, 23]) (isR := []) (isB := [0, 1, 2, 3, 4, 5, 6, 7, 8, 9, 10, 11, 12, 13, 14, 15, 16, 17, 18, 19, 20, 21, 22, 23]) (ws' := W_F cI cV vf a x) ⟨([] : List Nat).filterMap (fun i : Nat => (W_F cI cV vf a x : va_W)[i]?), rfl, rfl, rfl, rfl, by decide, rfl, rfl⟩ 0 6 rfl rfl rfl rfl hl.1 rfl (Nat.le_of_ble_eq_true rfl) dX7_read_15 ⟨Nat.le_of_ble_eq_true rfl, Nat.le_of_ble_eq_true rfl⟩ (fun E ce q9 H locs h20 hP hD hS hce hcv hcl => ?_) (fun rv9 H locs h20 hP hD hS => ?_)
    · obtain ⟨k18, hq9, hE9⟩ := rsV_x h20
      replace hf := thr_x hf hq9
      obtain rfl := Option.some.inj hf
      exact k_out htab hlocks hce hcv hcl (by rw [hE9]; rfl) hK hP hD hS (Nat.le_of_ble_eq_true rfl) (Nat.le_of_ble_eq_true rfl)
    obtain ⟨r19, hq9, rfl⟩ := rsV_v h20
    replace hf := thr_v hf hq9
    refine W.eq (g2 := F0 m 18 ls []) rfl ?_
    refine lv_aload_n hx hb dX7_read_18 rfl (lv_at hl 0 rfl) ?_
    obtain ⟨u21, hc22, hf⟩ := bind_t hf
    refine k_VX (As := []) (rest := []) (n := 0) ⟨hx, hb, hml, hown, hts⟩ (met_X7_needRowLeft l hlt k vf a hvf x u21 hc22) w398 w400 ws10 w1 w401 ⟨rfl, by decide +kernel, by decide +kernel, by decide +kernel⟩ ⟨Nat.le_of_ble_eq_true rfl, Nat.le_of_ble_eq_true rfl⟩ hK hE hP hD hS hA (isC := [0, 1, 2, 3, 4, 5, 6, 7, 8, 9, 10, 11, 12, 13, 14, 15, 16, 17, 18, 19, 20, 21, 22, 23]) (isR := []) (isB := [0, 1, 2, 3, 4, 5, 6, 7, 8, 9, 10, 11, 12, 13, 14, 15, 16, 17, 18, 19, 20, 21, 22, 23]) (ws' := W_F cI cV vf a x) ⟨([] : List Nat).filterMap (fun i : Nat => (W_F cI cV vf a x : va_W)[i]?), rfl, rfl, rfl, rfl, by decide, rfl, rfl⟩ 0 6 rfl rfl rfl rfl hl.1 rfl (Nat.le_of_ble_eq_true rfl) dX7_read_19 ⟨Nat.le_of_ble_eq_true rfl, Nat.le_of_ble_eq_true rfl⟩ (fun E ce q9 H locs h25 hP hD hS hce hcv hcl => ?_) (fun rv9 H locs h25 hP hD hS => ?_)
    · obtain ⟨k23, hq9, hE9⟩ := rsV_x h25
      replace hf := thr_x hf hq9
      obtain rfl := Option.some.inj hf
      exact k_out htab hlocks hce hcv hcl (by rw [hE9]; rfl) hK hP hD hS (Nat.le_of_ble_eq_true rfl) (Nat.le_of_ble_eq_true rfl)
    obtain ⟨r24, hq9, rfl⟩ := rsV_v h25
    replace hf := thr_v hf hq9
    refine W.eq (g2 := F0 m 22 ls []) rfl ?_
    refine lv_aload_n hx hb dX7_read_22 rfl (lv_at hl 0 rfl) ?_
    refine lv_bipush (v := 9) hx hb dX7_read_23 (by decide) ?_
    refine lv_iload_n hx hb dX7_read_25 rfl (lv_at hl 1 rfl) ?_
    refine lv_iload_n hx hb dX7_read_26 rfl (lv_at hl 2 rfl) ?_
    refine lv_iload_n hx hb dX7_read_27 rfl (lv_at hl 3 rfl) ?_
    refine lv_iconst (v := 0) hx hb dX7_read_28 (by decide) ?_
    obtain ⟨u26, hc27, hf⟩ := bind_t hf
    refine k_V (As := [.int 9, .int p1, .int p2, .int p3, .int 0]) (rest := []) (n := 5) ⟨hx, hb, hml, hown, hts⟩ (met_X7_call l k vf a hvf x 9 p1 p2 p3 0 u26 hc27) w403 w405 ws11 w1 w406 ⟨rfl, by decide +kernel, by decide +kernel, by decide +kernel⟩ ⟨Nat.le_of_ble_eq_true rfl, Nat.le_of_ble_eq_true rfl⟩ hK hE hP hD hS hA (isC := [0, 1, 2, 3, 4, 5, 6, 7, 8, 9, 10, 11, 12, 13, 14, 15, 16, 17, 18, 19, 20, 21, 22, 23]) (isR := []) (isB := [0, 1, 2, 3, 4, 5, 6, 7, 8, 9, 10, 11, 12, 13, 14, 15, 16, 17, 18, 19, 20, 21, 22, 23]) (ws' := W_F cI cV vf a u26.1) ⟨([] : List Nat).filterMap (fun i : Nat => (W_F cI cV vf a x : va_W)[i]?), rfl, rfl, rfl, rfl, by decide, rfl, rfl⟩ 0 6 rfl rfl rfl rfl hl.1 rfl (Nat.le_of_ble_eq_true rfl) dX7_read_29 ⟨Nat.le_of_ble_eq_true rfl, Nat.le_of_ble_eq_true rfl⟩ (fun H locs hP hD hS => ?_)
    try dsimp only at hf
    refine W.eq (g2 := F0 m 32 ls [.int u26.2]) rfl ?_
    obtain ⟨x28, hx28⟩ : ∃ z, z = u26.1 := ⟨_, rfl⟩
    replace hf := keep_e hf x28 hx28
    have hP : va_P D vwCl (W_F cI cV vf a x28) H := by rw [hx28]; exact hP
    have hD : va_D A (W_F cI cV vf a x28) := by rw [hx28]; exact hD
    obtain rfl := Option.some.inj hf
    refine vx_ret ?_
    exact W.iret (v := u26.2) hx hb hr (fun t ht hW => ⟨_, rfl, ⟨rfl, by rw [ht]; exact hP, va_K.moved hW.alike hK, hD, hS.F ht⟩⟩) hS.2.2 dX7_read_32 hlocks
  exact M0 s.heap [] ls hf hP hD hS hl
/-! Compactforms.done(III)Z -/
def fX7_done (k : Nat) (x : FSt) (p1 : Int32) (p2 : Int32) (p3 : Int32) : Option (FSt × (Int32 ⊕ Nat)) := (fX7_needKey p1).bind (fun u1 => thr u1 (fun k3 => some (x, .inr k3)) (fun r4 => (fX7_needGroup p2).bind (fun u6 => thr u6 (fun k8 => some (x, .inr k8)) (fun r9 => (fX7_needType k x p1 4).bind (fun u11 => thr u11 (fun k13 => some (x, .inr k13)) (fun r14 => (fX7_needRowLeft k x).bind (fun u16 => thr u16 (fun k18 => some (x, .inr k18)) (fun r19 => (fX7_call k x 10 p1 p2 p3 0).bind (fun u21 => keep u21.1 (fun x23 => (if u21.2 ≤ 0 then some (x23, (.inl 0)) else some (x23, (.inl 1)))))))))))))
set_option maxHeartbeats 4000000 in
set_option maxRecDepth 100000 in
theorem met_X7_done {D : va_G} {cI cV cJ cD : ClassId} (l : Launch) (hlt : l.stackTraces = false) (k : Nat) (vf : Nat → Option Nat) (a : Nat → Nat) (hvf : vf k = some (a 6)) (x : FSt) (p1 : Int32) (p2 : Int32) (p3 : Int32) (res : FSt × (Int32 ⊕ Nat)) (hf : fX7_done k x p1 p2 p3 = some res) : MX l yX7_done cX7_done 4 (some .boolean) { frames := 7, cells := 4, slots := 24, locals := 180 } D (TY cI cV cJ cD) (W_F cI cV vf a x) (W_F cI cV vf a res.1) [.ref (a 0), .int p1, .int p2, .int p3] (rsI res.2) := by
  intro sz
  refine vx_ofW (cc := cX7_done) (maxL := 4) (ret := (some .boolean)) (by decide +kernel) rfl ?_
  intro p e s m args below meth c s₁ B hml htab hv
  obtain ⟨rfl, hsz, hP, hK, hD0, hE⟩ := hv
  have hx := B.exec
  have hb := B.bytes
  have hr := B.returns
  have hts := atoms_spec (ws := .code yX7_done cX7_done 4 (some .boolean) :: GW) B.pre
  have hg : ∀ w ∈ GW, w.before (([.ref (a 0), .int p1, .int p2, .int p3] : List Value).toArray) s = true := fun w h => hts w (List.mem_cons_of_mem _ h)
  have hown : s.vm.findClass RX7 = some m.cls := findClass_of_methodNamed B.named
  have hlocks := B.notSynchronized
  subst hsz
  have hD := hD0.self (sz := s.heap.size)
  generalize hAe : va_A (W_F cI cV vf a x) s.heap.size = A at hD hE ⊢
  have hA : ∀ q : Nat, s.heap.size ≤ q → A q := fun q h => by rw [← hAe]; exact Or.inr h
  have hS : va_S A s.heap s.heap [] := va_S.rf
  have hl := lv_entry ([.ref (a 0), .int p1, .int p2, .int p3]) (n := 4) (Nat.le_of_ble_eq_true rfl)
  rw [lg_entry_eq]
  generalize (lg_sl ([.ref (a 0), .int p1, .int p2, .int p3]) ++ List.replicate (4 - (lg_sl ([.ref (a 0), .int p1, .int p2, .int p3])).length) Slot.unset).toArray = ls at hl ⊢
  have hl : lv_has ls 4 [(0, .ref (a 0)), (1, .int p1), (2, .int p2), (3, .int p3)] := hl
  have M0 : ∀ (H : Heap) (locs : List Loc) (ls : Array Slot), fX7_done k x p1 p2 p3 = some res → va_P D vwCl (W_F cI cV vf a x) H → va_D A (W_F cI cV vf a x) → va_S A s.heap H locs → lv_has ls 4 [(0, .ref (a 0)), (1, .int p1), (2, .int p2), (3, .int p3)] → W p l e ({ frames := 7, cells := 4, slots := 24, locals := 180 } : Room) s m ([.ref (a 0), .int p1, .int p2, .int p3] : List Value).toArray below meth c H locs 0 0 (vx_MQ below (QR D (TY cI cV cJ cD) (W_F cI cV vf a res.1) A (rsI res.2)) (XR D (TY cI cV cJ cD) (W_F cI cV vf a res.1) A (rsI res.2)) (([.ref (a 0), .int p1, .int p2, .int p3] : List Value).toArray) s 4 24 A) (F0 m 0 ls []) := by
    intro H locs ls hf hP hD hS hl
    dsimp only [fX7_done] at hf
    refine lv_iload_n hx hb dX7_done_0 rfl (lv_at hl 1 rfl) ?_
    obtain ⟨u1, hc2, hf⟩ := bind_t hf
    refine k_SX (As := [.int p1]) (rest := []) (n := 1) ⟨hx, hb, hml, hown, hts⟩ (met_X7_needKey l hlt p1 u1 hc2) w209 w210 w1 w211 ⟨by decide +kernel, by decide +kernel, by decide +kernel⟩ ⟨Nat.le_of_ble_eq_true rfl, Nat.le_of_ble_eq_true rfl⟩ hK hE hP hD hS hA (isC := []) (isR := [0, 1, 2, 3, 4, 5, 6, 7, 8, 9, 10, 11, 12, 13, 14, 15, 16, 17, 18, 19, 20, 21, 22, 23]) (isB := [0, 1, 2, 3, 4, 5, 6, 7, 8, 9, 10, 11, 12, 13, 14, 15, 16, 17, 18, 19, 20, 21, 22, 23]) (ws' := W_F cI cV vf a x) ⟨([0, 1, 2, 3, 4, 5, 6, 7, 8, 9, 10, 11, 12, 13, 14, 15, 16, 17, 18, 19, 20, 21, 22, 23] : List Nat).filterMap (fun i : Nat => (W_F cI cV vf a x : va_W)[i]?), rfl, rfl, rfl, rfl, by decide, rfl, rfl⟩ rfl hl.1 rfl (Nat.le_of_ble_eq_true rfl) dX7_done_1 ⟨Nat.le_of_ble_eq_true rfl, Nat.le_of_ble_eq_true rfl⟩ (fun E ce q9 H locs h5 hP hD hS hce hcv hcl => ?_) (fun rv9 H locs h5 hP hD hS => ?_)
    · obtain ⟨k3, hq9, hE9⟩ := rsV_x h5
      replace hf := thr_x hf hq9
      obtain rfl := Option.some.inj hf
      exact k_out htab hlocks hce hcv hcl (by rw [hE9]; rfl) hK hP hD hS (Nat.le_of_ble_eq_true rfl) (Nat.le_of_ble_eq_true rfl)
    obtain ⟨r4, hq9, rfl⟩ := rsV_v h5
    replace hf := thr_v hf hq9
    refine W.eq (g2 := F0 m 4 ls []) rfl ?_
    refine lv_iload_n hx hb dX7_done_4 rfl (lv_at hl 2 rfl) ?_
    obtain ⟨u6, hc7, hf⟩ := bind_t hf
    refine k_SX (As := [.int p2]) (rest := []) (n := 1) ⟨hx, hb, hml, hown, hts⟩ (met_X7_needGroup l hlt p2 u6 hc7) w600 w601 w1 w602 ⟨by decide +kernel, by decide +kernel, by decide +kernel⟩ ⟨Nat.le_of_ble_eq_true rfl, Nat.le_of_ble_eq_true rfl⟩ hK hE hP hD hS hA (isC := []) (isR := [0, 1, 2, 3, 4, 5, 6, 7, 8, 9, 10, 11, 12, 13, 14, 15, 16, 17, 18, 19, 20, 21, 22, 23]) (isB := [0, 1, 2, 3, 4, 5, 6, 7, 8, 9, 10, 11, 12, 13, 14, 15, 16, 17, 18, 19, 20, 21, 22, 23]) (ws' := W_F cI cV vf a x) ⟨([0, 1, 2, 3, 4, 5, 6, 7, 8, 9, 10, 11, 12, 13, 14, 15, 16, 17, 18, 19, 20, 21, 22, 23] : List Nat).filterMap (fun i : Nat => (W_F cI cV vf a x : va_W)[i]?), rfl, rfl, rfl, rfl, by decide, rfl, rfl⟩ rfl hl.1 rfl (Nat.le_of_ble_eq_true rfl) dX7_done_5 ⟨Nat.le_of_ble_eq_true rfl, Nat.le_of_ble_eq_true rfl⟩ (fun E ce q9 H locs h10 hP hD hS hce hcv hcl => ?_) (fun rv9 H locs h10 hP hD hS => ?_)
    · obtain ⟨k8, hq9, hE9⟩ := rsV_x h10
      replace hf := thr_x hf hq9
      obtain rfl := Option.some.inj hf
      exact k_out htab hlocks hce hcv hcl (by rw [hE9]; rfl) hK hP hD hS (Nat.le_of_ble_eq_true rfl) (Nat.le_of_ble_eq_true rfl)
    obtain ⟨r9, hq9, rfl⟩ := rsV_v h10
    replace hf := thr_v hf hq9
    refine W.eq (g2 := F0 m 8 ls []) rfl ?_
    refine lv_aload_n hx hb dX7_done_8 rfl (lv_at hl 0 rfl) ?_
    refine lv_iload_n hx hb dX7_done_9 rfl (lv_at hl 1 rfl) ?_
    refine lv_iconst (v := 4) hx hb dX7_done_10 (by decide) ?_
    obtain ⟨u11, hc12, hf⟩ := bind_t hf
    refine k_VX (As := [.int p1, .int 4]) (rest := []) (n := 2) ⟨hx, hb, hml, hown, hts⟩ (met_X7_needType l hlt k vf a hvf x p1 4 u11 hc12) w373 w375 ws8 w1 w376 ⟨rfl, by decide +kernel, by decide +kernel, by decide +kernel⟩ ⟨Nat.le_of_ble_eq_true rfl, Nat.le_of_ble_eq_true rfl⟩ hK hE hP hD hS hA (isC := [0, 1, 2, 3, 4, 5, 6, 7, 8, 9, 10, 11, 12, 13, 14, 15, 16, 17, 18, 19, 20, 21, 22, 23]) (isR := []) (isB := [0, 1, 2, 3, 4, 5, 6, 7, 8, 9, 10, 11, 12, 13, 14, 15, 16, 17, 18, 19, 20, 21, 22, 23]) (ws' := W_F cI cV vf a x) ⟨([] : List Nat).filterMap (fun i : Nat => (W_F cI cV vf a x : va_W)[i]?), rfl, rfl, rfl, rfl, by decide, rfl, rfl⟩ 0 6 rfl rfl rfl rfl hl.1 rfl (Nat.le_of_ble_eq_true rfl) dX7_done_11 ⟨Nat.le_of_ble_eq_true rfl, Nat.le_of_ble_eq_true rfl⟩ (fun E ce q9 H locs h15 hP hD hS hce hcv hcl => ?_) (fun rv9 H locs h15 hP hD hS => ?_)
    · obtain ⟨k13, hq9, hE9⟩ := rsV_x h15
      replace hf := thr_x hf hq9
      obtain rfl := Option.some.inj hf
      exact k_out htab hlocks hce hcv hcl (by rw [hE9]; rfl) hK hP hD hS (Nat.le_of_ble_eq_true rfl) (Nat.le_of_ble_eq_true rfl)
    obtain ⟨r14, hq9, rfl⟩ := rsV_v h15
    replace hf := thr_v hf hq9
    refine W.eq (g2 := F0 m 14 ls []) rfl ?_
    refine lv_aload_n hx hb dX7_done_14 rfl (lv_at hl 0 rfl) ?_
    obtain ⟨u16, hc17, hf⟩ := bind_t hf
    refine k_VX (As := []) (rest := []) (n := 0) ⟨hx, hb, hml, hown, hts⟩ (met_X7_needRowLeft l hlt k vf a hvf x u16 hc17) w398 w400 ws10 w1 w401 ⟨rfl, by decide +kernel, by decide +kernel, by decide +kernel⟩ ⟨Nat.le_of_ble_eq_true rfl, Nat.le_of_ble_eq_true rfl⟩ hK hE hP hD hS hA (isC := [0, 1, 2, 3, 4, 5, 6, 7, 8, 9, 10, 11, 12, 13, 14, 15, 16, 17, 18, 19, 20, 21, 22, 23]) (isR := []) (isB := [0, 1, 2, 3, 4, 5, 6, 7, 8, 9, 10, 11, 12, 13, 14, 15, 16, 17, 18, 19, 20, 21, 22, 23]) (ws' := W_F cI cV vf a x) ⟨([] : List Nat).filterMap (fun i : Nat => (W_F cI cV vf a x : va_W)[i]?), rfl, rfl, rfl, rfl, by decide, rfl, rfl⟩ 0 6 rfl rfl rfl rfl hl.1 rfl (Nat.le_of_ble_eq_true rfl) dX7_done_15 ⟨Nat.le_of_ble_eq_true rfl, Nat.le_of_ble_eq_true rfl⟩ (fun E ce q9 H locs h20 hP hD hS hce hcv hcl => ?_) (fun rv9 H locs h20 hP hD hS => ?_)
    · obtain ⟨k18, hq9, hE9⟩ := rsV_x h20
      replace hf := thr_x hf hq9
      obtain rfl := Option.some.inj hf
      exact k_out htab hlocks hce hcv hcl (by rw [hE9]; rfl) hK hP hD hS (Nat.le_of_ble_eq_true rfl) (Nat.le_of_ble_eq_true rfl)
    obtain ⟨r19, hq9, rfl⟩ := rsV_v h20
    replace hf := thr_v hf hq9
    refine W.eq (g2 := F0 m 18 ls []) rfl ?_
    refine lv_aload_n hx hb dX7_done_18 rfl (lv_at hl 0 rfl) ?_
    refine lv_bipush (v := 10) hx hb dX7_done_19 (by decide) ?_
    refine lv_iload_n hx hb dX7_done_21 rfl (lv_at hl 1 rfl) ?_
    refine lv_iload_n hx hb dX7_done_22 rfl (lv_at hl 2 rfl) ?_
    refine lv_iload_n hx hb dX7_done_23 rfl (lv_at hl 3 rfl) ?_
    refine lv_iconst (v := 0) hx hb dX7_done_24 (by decide) ?_
    obtain ⟨u21, hc22, hf⟩ := bind_t hf
    refine k_V (As := [.int 10, .int p1, .int p2, .int p3, .int 0]) (rest := []) (n := 5) ⟨hx, hb, hml, hown, hts⟩ (met_X7_call l k vf a hvf x 10 p1 p2 p3 0 u21 hc22) w403 w405 ws11 w1 w406 ⟨rfl, by decide +kernel, by decide +kernel, by decide +kernel⟩ ⟨Nat.le_of_ble_eq_true rfl, Nat.le_of_ble_eq_true rfl⟩ hK hE hP hD hS hA (isC := [0, 1, 2, 3, 4, 5, 6, 7, 8, 9, 10, 11, 12, 13, 14, 15, 16, 17, 18, 19, 20, 21, 22, 23]) (isR := []) (isB := [0, 1, 2, 3, 4, 5, 6, 7, 8, 9, 10, 11, 12, 13, 14, 15, 16, 17, 18, 19, 20, 21, 22, 23]) (ws' := W_F cI cV vf a u21.1) ⟨([] : List Nat).filterMap (fun i : Nat => (W_F cI cV vf a x : va_W)[i]?), rfl, rfl, rfl, rfl, by decide, rfl, rfl⟩ 0 6 rfl rfl rfl rfl hl.1 rfl (Nat.le_of_ble_eq_true rfl) dX7_done_25 ⟨Nat.le_of_ble_eq_true rfl, Nat.le_of_ble_eq_true rfl⟩ (fun H locs hP hD hS => ?_)
    try dsimp only at hf
    refine W.eq (g2 := F0 m 28 ls [.int u21.2]) rfl ?_
    obtain ⟨x23, hx23⟩ : ∃ z, z = u21.1 := ⟨_, rfl⟩
    replace hf := keep_e hf x23 hx23
    have hP : va_P D vwCl (W_F cI cV vf a x23) H := by rw [hx23]; exact hP
    have hD : va_D A (W_F cI cV vf a x23) := by rw [hx23]; exact hD
    refine lv_if_le (tgt := 35) hx hb dX7_done_28 (by decide) (fun c24 => ?_) (fun c24 => ?_)
    · replace hf := if_t c24 hf
      refine lv_iconst (v := 0) hx hb dX7_done_35 (by decide) ?_
      obtain rfl := Option.some.inj hf
      refine vx_ret ?_
      exact W.zret (v := 0) hx hb hr (by decide +kernel) (fun t ht hW => ⟨_, rfl, ⟨rfl, by rw [ht]; exact hP, va_K.moved hW.alike hK, hD, hS.F ht⟩⟩) hS.2.2 dX7_done_36 hlocks
    · replace hf := if_f c24 hf
      refine lv_iconst (v := 1) hx hb dX7_done_31 (by decide) ?_
      refine lv_goto (tgt := 36) hx hb dX7_done_32 (by decide) ?_
      obtain rfl := Option.some.inj hf
      refine vx_ret ?_
      exact W.zret (v := 1) hx hb hr (by decide +kernel) (fun t ht hW => ⟨_, rfl, ⟨rfl, by rw [ht]; exact hP, va_K.moved hW.alike hK, hD, hS.F ht⟩⟩) hS.2.2 dX7_done_36 hlocks
  exact M0 s.heap [] ls hf hP hD hS hl

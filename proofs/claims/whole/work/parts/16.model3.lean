/-! CompactformsModel.ends(III)Z -/
def fX8_ends_33 (x : MSt) (v1 : Int32) (v2 : Int32) (v3 : Int32) (s0 : Int32) : Option (MSt × Int32) := (if s0 = 0 then chk (isB s0) (some (x, s0)) else (fX8_spot v1 v2 v3).bind (fun u3 => chk (inb u3 1920) (keep (mWaits_s x (upd (mWaits x) (u3).toNatClampNeg 0)) (fun x6 => chk (isB s0) (some (x6, s0))))))
def fX8_ends_32 (x : MSt) (v1 : Int32) (v2 : Int32) (v3 : Int32) : Option (MSt × Int32) := fX8_ends_33 x v1 v2 v3 0
def fX8_ends (x : MSt) (p1 : Int32) (p2 : Int32) (p3 : Int32) : Option (MSt × Int32) := chk (inb p1 16) ((fX8_isIn p3 1 ((mSize x) (p1).toNatClampNeg)).bind (fun u9 => (if u9 = 0 then fX8_ends_32 x p1 p2 p3 else (fX8_spot p1 p2 p3).bind (fun u12 => chk (inb u12 1920) ((if ((mWaits x) (u12).toNatClampNeg) ≤ 0 then fX8_ends_32 x p1 p2 p3 else fX8_ends_33 x p1 p2 p3 1))))))
set_option maxHeartbeats 4000000 in
set_option maxRecDepth 100000 in
theorem met_X8_ends {D : va_G} {cI cV cJ cD : ClassId} (l : Launch) (a : Nat → Nat) (x : MSt) (p1 : Int32) (p2 : Int32) (p3 : Int32) (res : MSt × Int32) (hf : fX8_ends x p1 p2 p3 = some res) : MM l yX8_ends cX8_ends 5 (some .boolean) { frames := 1, cells := 0, slots := 0, locals := 22 } D (TY cI cV cJ cD) (W_Model cI a x) (W_Model cI a res.1) [.ref (a 0), .int p1, .int p2, .int p3] (some (.int res.2)) := by
  intro sz
  refine Met.ofW (cc := cX8_ends) (maxL := 5) (ret := (some .boolean)) (by decide +kernel) rfl ?_
  intro p e s m args below meth c s₁ B hml hv
  obtain ⟨rfl, hsz, hP, hK, hD0, hE⟩ := hv
  have hx := B.exec
  have hb := B.bytes
  have hr := B.returns
  have hts := atoms_spec (ws := .code yX8_ends cX8_ends 5 (some .boolean) :: GW) B.pre
  have hg : ∀ w ∈ GW, w.before (([.ref (a 0), .int p1, .int p2, .int p3] : List Value).toArray) s = true := fun w h => hts w (List.mem_cons_of_mem _ h)
  have hown : s.vm.findClass RX8 = some m.cls := findClass_of_methodNamed B.named
  have hlocks := B.notSynchronized
  subst hsz
  have hD := hD0.self (sz := s.heap.size)
  generalize hAe : va_A (W_Model cI a x) s.heap.size = A at hD hE ⊢
  have hA : ∀ q : Nat, s.heap.size ≤ q → A q := fun q h => by rw [← hAe]; exact Or.inr h
  have hS : va_S A s.heap s.heap [] := va_S.rf
  have hl := lv_entry ([.ref (a 0), .int p1, .int p2, .int p3]) (n := 5) (Nat.le_of_ble_eq_true rfl)
  rw [lg_entry_eq]
  generalize (lg_sl ([.ref (a 0), .int p1, .int p2, .int p3]) ++ List.replicate (5 - (lg_sl ([.ref (a 0), .int p1, .int p2, .int p3])).length) Slot.unset).toArray = ls at hl ⊢
  have hl : lv_has ls 5 [(0, .ref (a 0)), (1, .int p1), (2, .int p2), (3, .int p3)] := hl
  have L33 : ∀ (x : MSt) (v1 : Int32) (v2 : Int32) (v3 : Int32) (s0 : Int32) (H : Heap) (locs : List Loc) (ls : Array Slot), fX8_ends_33 x v1 v2 v3 s0  = some res → va_P D vwCl (W_Model cI a x) H → va_D A (W_Model cI a x) → va_S A s.heap H locs → lv_has ls 5 [(0, .ref (a 0)), (1, .int v1), (2, .int v2), (3, .int v3)] → W p l e ({ frames := 1, cells := 0, slots := 0, locals := 22 } : Room) s m ([.ref (a 0), .int p1, .int p2, .int p3] : List Value).toArray below meth c H locs 0 0 (MQ below (QW D (TY cI cV cJ cD) (W_Model cI a res.1) A (some (.int res.2))) (([.ref (a 0), .int p1, .int p2, .int p3] : List Value).toArray) s 0 0 A) (F0 m 33 ls [.int s0]) := by
    intro x v1 v2 v3 s0 H locs ls hf hP hD hS hl
    dsimp only [fX8_ends_33] at hf
    refine lv_istore (lv' := [(4, .int s0), (0, .ref (a 0)), (1, .int v1), (2, .int v2), (3, .int v3)]) hx hb dX8_ends_33 hl (by decide) rfl (fun ls hl => ?_)
    refine lv_iload hx hb dX8_ends_35 (lv_at hl 0 rfl) ?_
    refine lv_if_eq (tgt := 52) hx hb dX8_ends_37 (by decide) (fun c1 => ?_) (fun c1 => ?_)
    · replace hf := if_t c1 hf
      refine lv_iload hx hb dX8_ends_52 (lv_at hl 0 rfl) ?_
      obtain ⟨hz2, hf⟩ := chk_t hf
      obtain rfl := Option.some.inj hf
      exact W.zret (v := s0) hx hb hr (isB_narrow hz2) (fun t ht hW => ⟨rfl, by rw [ht]; exact hP, va_K.moved hW.alike hK, hD, hS.F ht⟩) hS.2.2 dX8_ends_54 hlocks
    · replace hf := if_f c1 hf
      refine lv_aload_n hx hb dX8_ends_40 rfl (lv_at hl 1 rfl) ?_
      refine va_get (D := D) (ci := 7) (v := .ref (a 10)) (C := RX8) (T := TX8) (N := 24) hx hb hg in_X8 hown hK hP 0 rfl rfl 11 (by decide) (hg _ w836) (fun _ h9 => h9) rfl dX8_ends_41 ?_
      refine lv_iload_n hx hb dX8_ends_44 rfl (lv_at hl 2 rfl) ?_
      refine lv_iload_n hx hb dX8_ends_45 rfl (lv_at hl 3 rfl) ?_
      refine lv_iload_n hx hb dX8_ends_46 rfl (lv_at hl 4 rfl) ?_
      obtain ⟨u3, hc4, hf⟩ := bind_t hf
      refine k_S (As := [.int v1, .int v2, .int v3]) (rest := [.ref (a 10)]) (n := 3) ⟨hx, hb, hml, hown, hts⟩ (met_X8_spot l v1 v2 v3 u3 hc4) w1033 w1034 w9 w1035 ⟨by decide +kernel, by decide +kernel, by decide +kernel⟩ ⟨Nat.le_of_ble_eq_true rfl, Nat.le_of_ble_eq_true rfl⟩ hK hE hP hD hS hA (isC := []) (isR := [0, 1, 2, 3, 4, 5, 6, 7, 8, 9, 10, 11, 12, 13, 14]) (isB := [0, 1, 2, 3, 4, 5, 6, 7, 8, 9, 10, 11, 12, 13, 14]) (ws' := W_Model cI a x) ⟨([0, 1, 2, 3, 4, 5, 6, 7, 8, 9, 10, 11, 12, 13, 14] : List Nat).filterMap (fun i : Nat => (W_Model cI a x : va_W)[i]?), rfl, rfl, rfl, rfl, by decide, rfl, rfl⟩ rfl hl.1 rfl (Nat.le_of_ble_eq_true rfl) dX8_ends_47 ⟨Nat.le_of_ble_eq_true rfl, Nat.le_of_ble_eq_true rfl⟩ (fun H locs hP hD hS => ?_)
      try dsimp only at hf
      refine W.eq (g2 := F0 m 50 ls [.int u3, .ref (a 10)]) rfl ?_
      refine lv_iconst (v := 0) hx hb dX8_ends_50 (by decide) ?_
      obtain ⟨hi5, hf⟩ := chk_t hf
      refine va_iast hx hb hK hP hD hS 10 0 rfl rfl (inb_in hi5) dX8_ends_51 (fun H locs hP hD hS => ?_)
      obtain ⟨x6, hx6⟩ : ∃ z, z = (mWaits_s x (upd (mWaits x) (u3).toNatClampNeg 0)) := ⟨_, rfl⟩
      replace hf := keep_e hf x6 hx6
      have hP : va_P D vwCl (W_Model cI a x6) H := by rw [hx6]; exact hP
      have hD : va_D A (W_Model cI a x6) := by rw [hx6]; exact hD
      refine lv_iload hx hb dX8_ends_52 (lv_at hl 0 rfl) ?_
      obtain ⟨hz7, hf⟩ := chk_t hf
      obtain rfl := Option.some.inj hf
      exact W.zret (v := s0) hx hb hr (isB_narrow hz7) (fun t ht hW => ⟨rfl, by rw [ht]; exact hP, va_K.moved hW.alike hK, hD, hS.F ht⟩) hS.2.2 dX8_ends_54 hlocks
  have L32 : ∀ (x : MSt) (v1 : Int32) (v2 : Int32) (v3 : Int32) (H : Heap) (locs : List Loc) (ls : Array Slot), fX8_ends_32 x v1 v2 v3  = some res → va_P D vwCl (W_Model cI a x) H → va_D A (W_Model cI a x) → va_S A s.heap H locs → lv_has ls 5 [(0, .ref (a 0)), (1, .int v1), (2, .int v2), (3, .int v3)] → W p l e ({ frames := 1, cells := 0, slots := 0, locals := 22 } : Room) s m ([.ref (a 0), .int p1, .int p2, .int p3] : List Value).toArray below meth c H locs 0 0 (MQ below (QW D (TY cI cV cJ cD) (W_Model cI a res.1) A (some (.int res.2))) (([.ref (a 0), .int p1, .int p2, .int p3] : List Value).toArray) s 0 0 A) (F0 m 32 ls []) := by
    intro x v1 v2 v3 H locs ls hf hP hD hS hl
    dsimp only [fX8_ends_32] at hf
    refine lv_iconst (v := 0) hx hb dX8_ends_32 (by decide) ?_
    exact L33 x v1 v2 v3 0 H locs ls hf hP hD hS (lv_sub hl [0, 1, 2, 3] rfl)
  have M0 : ∀ (H : Heap) (locs : List Loc) (ls : Array Slot), fX8_ends x p1 p2 p3 = some res → va_P D vwCl (W_Model cI a x) H → va_D A (W_Model cI a x) → va_S A s.heap H locs → lv_has ls 5 [(0, .ref (a 0)), (1, .int p1), (2, .int p2), (3, .int p3)] → W p l e ({ frames := 1, cells := 0, slots := 0, locals := 22 } : Room) s m ([.ref (a 0), .int p1, .int p2, .int p3] : List Value).toArray below meth c H locs 0 0 (MQ below (QW D (TY cI cV cJ cD) (W_Model cI a res.1) A (some (.int res.2))) (([.ref (a 0), .int p1, .int p2, .int p3] : List Value).toArray) s 0 0 A) (F0 m 0 ls []) := by
    intro H locs ls hf hP hD hS hl
    dsimp only [fX8_ends] at hf
    refine lv_iload_n hx hb dX8_ends_0 rfl (lv_at hl 3 rfl) ?_
    refine lv_iconst (v := 1) hx hb dX8_ends_1 (by decide) ?_
    refine lv_aload_n hx hb dX8_ends_2 rfl (lv_at hl 0 rfl) ?_
    refine va_get (D := D) (ci := 7) (v := .ref (a 4)) (C := RX8) (T := TX8) (N := 24) hx hb hg in_X8 hown hK hP 0 rfl rfl 5 (by decide) (hg _ w830) (fun _ h9 => h9) rfl dX8_ends_3 ?_
    refine lv_iload_n hx hb dX8_ends_6 rfl (lv_at hl 1 rfl) ?_
    obtain ⟨hi8, hf⟩ := chk_t hf
    refine va_iald hx hb hK hP 4 0 rfl rfl (inb_in hi8) dX8_ends_7 ?_
    obtain ⟨u9, hc10, hf⟩ := bind_t hf
    refine k_S (As := [.int p3, .int 1, .int ((mSize x) (p1).toNatClampNeg)]) (rest := []) (n := 3) ⟨hx, hb, hml, hown, hts⟩ (met_X8_isIn l p3 1 ((mSize x) (p1).toNatClampNeg) u9 hc10) w909 w910 w9 w911 ⟨by decide +kernel, by decide +kernel, by decide +kernel⟩ ⟨Nat.le_of_ble_eq_true rfl, Nat.le_of_ble_eq_true rfl⟩ hK hE hP hD hS hA (isC := []) (isR := [0, 1, 2, 3, 4, 5, 6, 7, 8, 9, 10, 11, 12, 13, 14]) (isB := [0, 1, 2, 3, 4, 5, 6, 7, 8, 9, 10, 11, 12, 13, 14]) (ws' := W_Model cI a x) ⟨([0, 1, 2, 3, 4, 5, 6, 7, 8, 9, 10, 11, 12, 13, 14] : List Nat).filterMap (fun i : Nat => (W_Model cI a x : va_W)[i]?), rfl, rfl, rfl, rfl, by decide, rfl, rfl⟩ rfl hl.1 rfl (Nat.le_of_ble_eq_true rfl) dX8_ends_8 ⟨Nat.le_of_ble_eq_true rfl, Nat.le_of_ble_eq_true rfl⟩ (fun H locs hP hD hS => ?_)
    try dsimp only at hf
    refine W.eq (g2 := F0 m 11 ls [.int u9]) rfl ?_
    refine lv_if_eq (tgt := 32) hx hb dX8_ends_11 (by decide) (fun c11 => ?_) (fun c11 => ?_)
    · replace hf := if_t c11 hf
      exact L32 x p1 p2 p3 H locs ls hf hP hD hS (lv_sub hl [0, 1, 2, 3] rfl)
    · replace hf := if_f c11 hf
      refine lv_aload_n hx hb dX8_ends_14 rfl (lv_at hl 0 rfl) ?_
      refine va_get (D := D) (ci := 7) (v := .ref (a 10)) (C := RX8) (T := TX8) (N := 24) hx hb hg in_X8 hown hK hP 0 rfl rfl 11 (by decide) (hg _ w836) (fun _ h9 => h9) rfl dX8_ends_15 ?_
      refine lv_iload_n hx hb dX8_ends_18 rfl (lv_at hl 1 rfl) ?_
      refine lv_iload_n hx hb dX8_ends_19 rfl (lv_at hl 2 rfl) ?_
      refine lv_iload_n hx hb dX8_ends_20 rfl (lv_at hl 3 rfl) ?_
      obtain ⟨u12, hc13, hf⟩ := bind_t hf
      refine k_S (As := [.int p1, .int p2, .int p3]) (rest := [.ref (a 10)]) (n := 3) ⟨hx, hb, hml, hown, hts⟩ (met_X8_spot l p1 p2 p3 u12 hc13) w1033 w1034 w9 w1035 ⟨by decide +kernel, by decide +kernel, by decide +kernel⟩ ⟨Nat.le_of_ble_eq_true rfl, Nat.le_of_ble_eq_true rfl⟩ hK hE hP hD hS hA (isC := []) (isR := [0, 1, 2, 3, 4, 5, 6, 7, 8, 9, 10, 11, 12, 13, 14]) (isB := [0, 1, 2, 3, 4, 5, 6, 7, 8, 9, 10, 11, 12, 13, 14]) (ws' := W_Model cI a x) ⟨([0, 1, 2, 3, 4, 5, 6, 7, 8, 9, 10, 11, 12, 13, 14] : List Nat).filterMap (fun i : Nat => (W_Model cI a x : va_W)[i]?), rfl, rfl, rfl, rfl, by decide, rfl, rfl⟩ rfl hl.1 rfl (Nat.le_of_ble_eq_true rfl) dX8_ends_21 ⟨Nat.le_of_ble_eq_true rfl, Nat.le_of_ble_eq_true rfl⟩ (fun H locs hP hD hS => ?_)
      try dsimp only at hf
      refine W.eq (g2 := F0 m 24 ls [.int u12, .ref (a 10)]) rfl ?_
      obtain ⟨hi14, hf⟩ := chk_t hf
      refine va_iald hx hb hK hP 10 0 rfl rfl (inb_in hi14) dX8_ends_24 ?_
      refine lv_if_le (tgt := 32) hx hb dX8_ends_25 (by decide) (fun c15 => ?_) (fun c15 => ?_)
      · replace hf := if_t c15 hf
        exact L32 x p1 p2 p3 H locs ls hf hP hD hS (lv_sub hl [0, 1, 2, 3] rfl)
      · replace hf := if_f c15 hf
        refine lv_iconst (v := 1) hx hb dX8_ends_28 (by decide) ?_
        refine lv_goto (tgt := 33) hx hb dX8_ends_29 (by decide) ?_
        exact L33 x p1 p2 p3 1 H locs ls hf hP hD hS (lv_sub hl [0, 1, 2, 3] rfl)
  exact M0 s.heap [] ls hf hP hD hS hl
/-! CompactformsModel.claims(IIII)I -/
def fX8_claims_11 (v1 : Int32) (v2 : Int32) (v3 : Int32) (v4 : Int32) (rec11 : MSt × Int32 × Int32 → Option (MSt × Int32)) (s : MSt × Int32 × Int32) : Option (MSt × Int32) := match s with | (x, v5, v6) => (fX8_spot v1 v2 1).bind (fun u1 => (if (u1 + 40) ≤ v6 then some (x, v5) else chk (inb v6 1920) ((if ((mWaits x) (v6).toNatClampNeg) ≤ 0 then keep (v6 + 1) (fun y6 => rec11 (x, v5, y6)) else chk (inb v6 1920) ((if ((mWaits x) (v6).toNatClampNeg) = (v3 + 1) then keep (v6 + 1) (fun y9 => rec11 (x, v5, y9)) else chk (inb v6 1920) ((if ((mNow x) - ((mSince x) (v6).toNatClampNeg)) < v4 then keep (v6 + 1) (fun y12 => rec11 (x, v5, y12)) else chk (inb v6 1920) (keep (mWaits_s x (upd (mWaits x) (v6).toNatClampNeg (v3 + 1))) (fun x14 => chk (inb v6 1920) (keep (mSince_s x14 (upd (mSince x14) (v6).toNatClampNeg (mNow x14))) (fun x16 => keep (v5 + 1) (fun y17 => keep (v6 + 1) (fun y18 => rec11 (x16, y17, y18)))))))))))))))
def fX8_claims (x : MSt) (p1 : Int32) (p2 : Int32) (p3 : Int32) (p4 : Int32) : Option (MSt × Int32) := (fX8_spot p1 p2 1).bind (fun u19 => iterK FU (fX8_claims_11 p1 p2 p3 p4) (x, 0, u19))
set_option maxHeartbeats 4000000 in
set_option maxRecDepth 100000 in
theorem met_X8_claims {D : va_G} {cI cV cJ cD : ClassId} (l : Launch) (a : Nat → Nat) (x : MSt) (p1 : Int32) (p2 : Int32) (p3 : Int32) (p4 : Int32) (res : MSt × Int32) (hf : fX8_claims x p1 p2 p3 p4 = some res) : MM l yX8_claims cX8_claims 7 (some .int) { frames := 1, cells := 0, slots := 0, locals := 22 } D (TY cI cV cJ cD) (W_Model cI a x) (W_Model cI a res.1) [.ref (a 0), .int p1, .int p2, .int p3, .int p4] (some (.int res.2)) := by
  intro sz
  refine Met.ofW (cc := cX8_claims) (maxL := 7) (ret := (some .int)) (by decide +kernel) rfl ?_
  intro p e s m args below meth c s₁ B hml hv
  obtain ⟨rfl, hsz, hP, hK, hD0, hE⟩ := hv
  have hx := B.exec
  have hb := B.bytes
  have hr := B.returns
  have hts := atoms_spec (ws := .code yX8_claims cX8_claims 7 (some .int) :: GW) B.pre
  have hg : ∀ w ∈ GW, w.before (([.ref (a 0), .int p1, .int p2, .int p3, .int p4] : List Value).toArray) s = true := fun w h => hts w (List.mem_cons_of_mem _ h)
  have hown : s.vm.findClass RX8 = some m.cls := findClass_of_methodNamed B.named
  have hlocks := B.notSynchronized
  subst hsz
  have hD := hD0.self (sz := s.heap.size)
  generalize hAe : va_A (W_Model cI a x) s.heap.size = A at hD hE ⊢
  have hA : ∀ q : Nat, s.heap.size ≤ q → A q := fun q h => by rw [← hAe]; exact Or.inr h
  have hS : va_S A s.heap s.heap [] := va_S.rf
  have hl := lv_entry ([.ref (a 0), .int p1, .int p2, .int p3, .int p4]) (n := 7) (Nat.le_of_ble_eq_true rfl)
  rw [lg_entry_eq]
  generalize (lg_sl ([.ref (a 0), .int p1, .int p2, .int p3, .int p4]) ++ List.replicate (7 - (lg_sl ([.ref (a 0), .int p1, .int p2, .int p3, .int p4])).length) Slot.unset).toArray = ls at hl ⊢
  have hl : lv_has ls 7 [(0, .ref (a 0)), (1, .int p1), (2, .int p2), (3, .int p3), (4, .int p4)] := hl
  have S11 : ∀ (v1 : Int32) (v2 : Int32) (v3 : Int32) (v4 : Int32) (rec11 : MSt × Int32 × Int32 → Option (MSt × Int32)) (hrec11 : ∀ (x : MSt), ∀ (v5 : Int32), ∀ (v6 : Int32), ∀ (H : Heap) (locs : List Loc) (ls : Array Slot), rec11 (x, v5, v6) = some res → va_P D vwCl (W_Model cI a x) H → va_D A (W_Model cI a x) → va_S A s.heap H locs → lv_has ls 7 [(0, .ref (a 0)), (1, .int v1), (2, .int v2), (3, .int v3), (4, .int v4), (5, .int v5), (6, .int v6)] → W p l e ({ frames := 1, cells := 0, slots := 0, locals := 22 } : Room) s m ([.ref (a 0), .int p1, .int p2, .int p3, .int p4] : List Value).toArray below meth c H locs 0 0 (MQ below (QW D (TY cI cV cJ cD) (W_Model cI a res.1) A (some (.int res.2))) (([.ref (a 0), .int p1, .int p2, .int p3, .int p4] : List Value).toArray) s 0 0 A) (F0 m 11 ls [])) (x : MSt) (v5 : Int32) (v6 : Int32) (H : Heap) (locs : List Loc) (ls : Array Slot), fX8_claims_11 v1 v2 v3 v4  rec11 (x, v5, v6) = some res → va_P D vwCl (W_Model cI a x) H → va_D A (W_Model cI a x) → va_S A s.heap H locs → lv_has ls 7 [(0, .ref (a 0)), (1, .int v1), (2, .int v2), (3, .int v3), (4, .int v4), (5, .int v5), (6, .int v6)] → W p l e ({ frames := 1, cells := 0, slots := 0, locals := 22 } : Room) s m ([.ref (a 0), .int p1, .int p2, .int p3, .int p4] : List Value).toArray below meth c H locs 0 0 (MQ below (QW D (TY cI cV cJ cD) (W_Model cI a res.1) A (some (.int res.2))) (([.ref (a 0), .int p1, .int p2, .int p3, .int p4] : List Value).toArray) s 0 0 A) (F0 m 11 ls []) := by
    intro v1 v2 v3 v4 rec11 hrec11 x v5 v6 H locs ls hf hP hD hS hl
    dsimp only [fX8_claims_11] at hf
    refine lv_iload hx hb dX8_claims_11 (lv_at hl 6 rfl) ?_
    refine lv_iload_n hx hb dX8_claims_13 rfl (lv_at hl 1 rfl) ?_
    refine lv_iload_n hx hb dX8_claims_14 rfl (lv_at hl 2 rfl) ?_
    refine lv_iconst (v := 1) hx hb dX8_claims_15 (by decide) ?_
    obtain ⟨u1, hc2, hf⟩ := bind_t hf
    refine k_S (As := [.int v1, .int v2, .int 1]) (rest := [.int v6]) (n := 3) ⟨hx, hb, hml, hown, hts⟩ (met_X8_spot l v1 v2 1 u1 hc2) w1033 w1034 w9 w1035 ⟨by decide +kernel, by decide +kernel, by decide +kernel⟩ ⟨Nat.le_of_ble_eq_true rfl, Nat.le_of_ble_eq_true rfl⟩ hK hE hP hD hS hA (isC := []) (isR := [0, 1, 2, 3, 4, 5, 6, 7, 8, 9, 10, 11, 12, 13, 14]) (isB := [0, 1, 2, 3, 4, 5, 6, 7, 8, 9, 10, 11, 12, 13, 14]) (ws' := W_Model cI a x) ⟨([0, 1, 2, 3, 4, 5, 6, 7, 8, 9, 10, 11, 12, 13, 14] : List Nat).filterMap (fun i : Nat => (W_Model cI a x : va_W)[i]?), rfl, rfl, rfl, rfl, by decide, rfl, rfl⟩ rfl hl.1 rfl (Nat.le_of_ble_eq_true rfl) dX8_claims_16 ⟨Nat.le_of_ble_eq_true rfl, Nat.le_of_ble_eq_true rfl⟩ (fun H locs hP hD hS => ?_)
    try dsimp only at hf
    refine W.eq (g2 := F0 m 19 ls [.int u1, .int v6]) rfl ?_
    refine lv_bipush (v := 40) hx hb dX8_claims_19 (by decide) ?_
    refine lv_iadd hx hb dX8_claims_21 ?_
    refine lv_icmp_ge (tgt := 95) hx hb dX8_claims_22 (by decide) (fun c3 => ?_) (fun c3 => ?_)
    · replace hf := if_t c3 hf
      refine lv_iload hx hb dX8_claims_95 (lv_at hl 5 rfl) ?_
      obtain rfl := Option.some.inj hf
      exact W.iret (v := v5) hx hb hr (fun t ht hW => ⟨rfl, by rw [ht]; exact hP, va_K.moved hW.alike hK, hD, hS.F ht⟩) hS.2.2 dX8_claims_97 hlocks
    · replace hf := if_f c3 hf
      refine lv_aload_n hx hb dX8_claims_25 rfl (lv_at hl 0 rfl) ?_
      refine va_get (D := D) (ci := 7) (v := .ref (a 10)) (C := RX8) (T := TX8) (N := 24) hx hb hg in_X8 hown hK hP 0 rfl rfl 11 (by decide) (hg _ w836) (fun _ h9 => h9) rfl dX8_claims_26 ?_
      refine lv_iload hx hb dX8_claims_29 (lv_at hl 6 rfl) ?_
      obtain ⟨hi4, hf⟩ := chk_t hf
      refine va_iald hx hb hK hP 10 0 rfl rfl (inb_in hi4) dX8_claims_31 ?_
      refine lv_if_le (tgt := 89) hx hb dX8_claims_32 (by decide) (fun c5 => ?_) (fun c5 => ?_)
      · replace hf := if_t c5 hf
        obtain ⟨y6, hy6⟩ : ∃ z : Int32, z = (v6 + 1) := ⟨_, rfl⟩
        replace hf := keep_e hf y6 hy6
        refine lv_iinc (v := y6) (lv' := [(6, .int y6), (0, .ref (a 0)), (1, .int v1), (2, .int v2), (3, .int v3), (4, .int v4), (5, .int v5)]) hx hb dX8_claims_89 hl (k := 6) rfl (by rw [hy6]; rfl) (by decide) rfl (fun ls hl => ?_)
        refine lv_goto (tgt := 11) hx hb dX8_claims_92 (by decide) ?_
        exact hrec11 x v5 y6 H locs ls hf hP hD hS (lv_sub hl [1, 2, 3, 4, 5, 6, 0] rfl)
      · replace hf := if_f c5 hf
        refine lv_aload_n hx hb dX8_claims_35 rfl (lv_at hl 0 rfl) ?_
        refine va_get (D := D) (ci := 7) (v := .ref (a 10)) (C := RX8) (T := TX8) (N := 24) hx hb hg in_X8 hown hK hP 0 rfl rfl 11 (by decide) (hg _ w836) (fun _ h9 => h9) rfl dX8_claims_36 ?_
        refine lv_iload hx hb dX8_claims_39 (lv_at hl 6 rfl) ?_
        obtain ⟨hi7, hf⟩ := chk_t hf
        refine va_iald hx hb hK hP 10 0 rfl rfl (inb_in hi7) dX8_claims_41 ?_
        refine lv_iload_n hx hb dX8_claims_42 rfl (lv_at hl 3 rfl) ?_
        refine lv_iconst (v := 1) hx hb dX8_claims_43 (by decide) ?_
        refine lv_iadd hx hb dX8_claims_44 ?_
        refine lv_icmp_eq (tgt := 89) hx hb dX8_claims_45 (by decide) (fun c8 => ?_) (fun c8 => ?_)
        · replace hf := if_t c8 hf
          obtain ⟨y9, hy9⟩ : ∃ z : Int32, z = (v6 + 1) := ⟨_, rfl⟩
          replace hf := keep_e hf y9 hy9
          refine lv_iinc (v := y9) (lv' := [(6, .int y9), (0, .ref (a 0)), (1, .int v1), (2, .int v2), (3, .int v3), (4, .int v4), (5, .int v5)]) hx hb dX8_claims_89 hl (k := 6) rfl (by rw [hy9]; rfl) (by decide) rfl (fun ls hl => ?_)
          refine lv_goto (tgt := 11) hx hb dX8_claims_92 (by decide) ?_
          exact hrec11 x v5 y9 H locs ls hf hP hD hS (lv_sub hl [1, 2, 3, 4, 5, 6, 0] rfl)
        · replace hf := if_f c8 hf
          refine lv_aload_n hx hb dX8_claims_48 rfl (lv_at hl 0 rfl) ?_
          refine va_get (D := D) (ci := 7) (v := .int (mNow x)) (C := RX8) (T := TX8) (N := 24) hx hb hg in_X8 hown hK hP 0 rfl rfl 1 (by decide) (hg _ w826) (fun _ h9 => h9) rfl dX8_claims_49 ?_
          refine lv_aload_n hx hb dX8_claims_52 rfl (lv_at hl 0 rfl) ?_
          refine va_get (D := D) (ci := 7) (v := .ref (a 11)) (C := RX8) (T := TX8) (N := 24) hx hb hg in_X8 hown hK hP 0 rfl rfl 12 (by decide) (hg _ w837) (fun _ h9 => h9) rfl dX8_claims_53 ?_
          refine lv_iload hx hb dX8_claims_56 (lv_at hl 6 rfl) ?_
          obtain ⟨hi10, hf⟩ := chk_t hf
          refine va_iald hx hb hK hP 11 0 rfl rfl (inb_in hi10) dX8_claims_58 ?_
          refine lv_isub hx hb dX8_claims_59 ?_
          refine lv_iload hx hb dX8_claims_60 (lv_at hl 4 rfl) ?_
          refine lv_icmp_lt (tgt := 89) hx hb dX8_claims_62 (by decide) (fun c11 => ?_) (fun c11 => ?_)
          · replace hf := if_t c11 hf
            obtain ⟨y12, hy12⟩ : ∃ z : Int32, z = (v6 + 1) := ⟨_, rfl⟩
            replace hf := keep_e hf y12 hy12
            refine lv_iinc (v := y12) (lv' := [(6, .int y12), (0, .ref (a 0)), (1, .int v1), (2, .int v2), (3, .int v3), (4, .int v4), (5, .int v5)]) hx hb dX8_claims_89 hl (k := 6) rfl (by rw [hy12]; rfl) (by decide) rfl (fun ls hl => ?_)
            refine lv_goto (tgt := 11) hx hb dX8_claims_92 (by decide) ?_
            exact hrec11 x v5 y12 H locs ls hf hP hD hS (lv_sub hl [1, 2, 3, 4, 5, 6, 0] rfl)
          · replace hf := if_f c11 hf
            refine lv_aload_n hx hb dX8_claims_65 rfl (lv_at hl 0 rfl) ?_
            refine va_get (D := D) (ci := 7) (v := .ref (a 10)) (C := RX8) (T := TX8) (N := 24) hx hb hg in_X8 hown hK hP 0 rfl rfl 11 (by decide) (hg _ w836) (fun _ h9 => h9) rfl dX8_claims_66 ?_
            refine lv_iload hx hb dX8_claims_69 (lv_at hl 6 rfl) ?_
            refine lv_iload_n hx hb dX8_claims_71 rfl (lv_at hl 3 rfl) ?_
            refine lv_iconst (v := 1) hx hb dX8_claims_72 (by decide) ?_
            refine lv_iadd hx hb dX8_claims_73 ?_
            obtain ⟨hi13, hf⟩ := chk_t hf
            refine va_iast hx hb hK hP hD hS 10 0 rfl rfl (inb_in hi13) dX8_claims_74 (fun H locs hP hD hS => ?_)
            obtain ⟨x14, hx14⟩ : ∃ z, z = (mWaits_s x (upd (mWaits x) (v6).toNatClampNeg (v3 + 1))) := ⟨_, rfl⟩
            replace hf := keep_e hf x14 hx14
            have hP : va_P D vwCl (W_Model cI a x14) H := by rw [hx14]; exact hP
            have hD : va_D A (W_Model cI a x14) := by rw [hx14]; exact hD
            refine lv_aload_n hx hb dX8_claims_75 rfl (lv_at hl 0 rfl) ?_
            refine va_get (D := D) (ci := 7) (v := .ref (a 11)) (C := RX8) (T := TX8) (N := 24) hx hb hg in_X8 hown hK hP 0 rfl rfl 12 (by decide) (hg _ w837) (fun _ h9 => h9) rfl dX8_claims_76 ?_
            refine lv_iload hx hb dX8_claims_79 (lv_at hl 6 rfl) ?_
            refine lv_aload_n hx hb dX8_claims_81 rfl (lv_at hl 0 rfl) ?_
            refine va_get (D := D) (ci := 7) (v := .int (mNow x14)) (C := RX8) (T := TX8) (N := 24) hx hb hg in_X8 hown hK hP 0 rfl rfl 1 (by decide) (hg _ w826) (fun _ h9 => h9) rfl dX8_claims_82 ?_
            obtain ⟨hi15, hf⟩ := chk_t hf
            refine va_iast hx hb hK hP hD hS 11 0 rfl rfl (inb_in hi15) dX8_claims_85 (fun H locs hP hD hS => ?_)
            obtain ⟨x16, hx16⟩ : ∃ z, z = (mSince_s x14 (upd (mSince x14) (v6).toNatClampNeg (mNow x14))) := ⟨_, rfl⟩
            replace hf := keep_e hf x16 hx16
            have hP : va_P D vwCl (W_Model cI a x16) H := by rw [hx16]; exact hP
            have hD : va_D A (W_Model cI a x16) := by rw [hx16]; exact hD
            obtain ⟨y17, hy17⟩ : ∃ z : Int32, z = (v5 + 1) := ⟨_, rfl⟩
            replace hf := keep_e hf y17 hy17
            refine lv_iinc (v := y17) (lv' := [(5, .int y17), (0, .ref (a 0)), (1, .int v1), (2, .int v2), (3, .int v3), (4, .int v4), (6, .int v6)]) hx hb dX8_claims_86 hl (k := 5) rfl (by rw [hy17]; rfl) (by decide) rfl (fun ls hl => ?_)
            obtain ⟨y18, hy18⟩ : ∃ z : Int32, z = (v6 + 1) := ⟨_, rfl⟩
            replace hf := keep_e hf y18 hy18
            refine lv_iinc (v := y18) (lv' := [(6, .int y18), (5, .int y17), (0, .ref (a 0)), (1, .int v1), (2, .int v2), (3, .int v3), (4, .int v4)]) hx hb dX8_claims_89 hl (k := 6) rfl (by rw [hy18]; rfl) (by decide) rfl (fun ls hl => ?_)
            refine lv_goto (tgt := 11) hx hb dX8_claims_92 (by decide) ?_
            exact hrec11 x16 y17 y18 H locs ls hf hP hD hS (lv_sub hl [2, 3, 4, 5, 6, 1, 0] rfl)
  have L11 : ∀ (v1 : Int32) (v2 : Int32) (v3 : Int32) (v4 : Int32) (fu : Nat) (x : MSt) (v5 : Int32) (v6 : Int32) (H : Heap) (locs : List Loc) (ls : Array Slot), iterK fu (fX8_claims_11 v1 v2 v3 v4 ) (x, v5, v6) = some res → va_P D vwCl (W_Model cI a x) H → va_D A (W_Model cI a x) → va_S A s.heap H locs → lv_has ls 7 [(0, .ref (a 0)), (1, .int v1), (2, .int v2), (3, .int v3), (4, .int v4), (5, .int v5), (6, .int v6)] → W p l e ({ frames := 1, cells := 0, slots := 0, locals := 22 } : Room) s m ([.ref (a 0), .int p1, .int p2, .int p3, .int p4] : List Value).toArray below meth c H locs 0 0 (MQ below (QW D (TY cI cV cJ cD) (W_Model cI a res.1) A (some (.int res.2))) (([.ref (a 0), .int p1, .int p2, .int p3, .int p4] : List Value).toArray) s 0 0 A) (F0 m 11 ls []) := by
    intro v1 v2 v3 v4 fu
    induction fu with
    | zero =>
      intro x v5 v6 H locs ls hf
      cases hf
    | succ fu ih =>
      intro x v5 v6 H locs ls hf hP hD hS hl
      exact S11 v1 v2 v3 v4 (iterK fu (fX8_claims_11 v1 v2 v3 v4 )) ih x v5 v6 H locs ls hf hP hD hS hl
  have M0 : ∀ (H : Heap) (locs : List Loc) (ls : Array Slot), fX8_claims x p1 p2 p3 p4 = some res → va_P D vwCl (W_Model cI a x) H → va_D A (W_Model cI a x) → va_S A s.heap H locs → lv_has ls 7 [(0, .ref (a 0)), (1, .int p1), (2, .int p2), (3, .int p3), (4, .int p4)] → W p l e ({ frames := 1, cells := 0, slots := 0, locals := 22 } : Room) s m ([.ref (a 0), .int p1, .int p2, .int p3, .int p4] : List Value).toArray below meth c H locs 0 0 (MQ below (QW D (TY cI cV cJ cD) (W_Model cI a res.1) A (some (.int res.2))) (([.ref (a 0), .int p1, .int p2, .int p3, .int p4] : List Value).toArray) s 0 0 A) (F0 m 0 ls []) := by
    intro H locs ls hf hP hD hS hl
    dsimp only [fX8_claims] at hf
    refine lv_iconst (v := 0) hx hb dX8_claims_0 (by decide) ?_
    refine lv_istore (lv' := [(5, .int 0), (0, .ref (a 0)), (1, .int p1), (2, .int p2), (3, .int p3), (4, .int p4)]) hx hb dX8_claims_1 hl (by decide) rfl (fun ls hl => ?_)
    refine lv_iload_n hx hb dX8_claims_3 rfl (lv_at hl 2 rfl) ?_
    refine lv_iload_n hx hb dX8_claims_4 rfl (lv_at hl 3 rfl) ?_
    refine lv_iconst (v := 1) hx hb dX8_claims_5 (by decide) ?_
    obtain ⟨u19, hc20, hf⟩ := bind_t hf
    refine k_S (As := [.int p1, .int p2, .int 1]) (rest := []) (n := 3) ⟨hx, hb, hml, hown, hts⟩ (met_X8_spot l p1 p2 1 u19 hc20) w1033 w1034 w9 w1035 ⟨by decide +kernel, by decide +kernel, by decide +kernel⟩ ⟨Nat.le_of_ble_eq_true rfl, Nat.le_of_ble_eq_true rfl⟩ hK hE hP hD hS hA (isC := []) (isR := [0, 1, 2, 3, 4, 5, 6, 7, 8, 9, 10, 11, 12, 13, 14]) (isB := [0, 1, 2, 3, 4, 5, 6, 7, 8, 9, 10, 11, 12, 13, 14]) (ws' := W_Model cI a x) ⟨([0, 1, 2, 3, 4, 5, 6, 7, 8, 9, 10, 11, 12, 13, 14] : List Nat).filterMap (fun i : Nat => (W_Model cI a x : va_W)[i]?), rfl, rfl, rfl, rfl, by decide, rfl, rfl⟩ rfl hl.1 rfl (Nat.le_of_ble_eq_true rfl) dX8_claims_6 ⟨Nat.le_of_ble_eq_true rfl, Nat.le_of_ble_eq_true rfl⟩ (fun H locs hP hD hS => ?_)
    try dsimp only at hf
    refine W.eq (g2 := F0 m 9 ls [.int u19]) rfl ?_
    refine lv_istore (lv' := [(6, .int u19), (5, .int 0), (0, .ref (a 0)), (1, .int p1), (2, .int p2), (3, .int p3), (4, .int p4)]) hx hb dX8_claims_9 hl (by decide) rfl (fun ls hl => ?_)
    exact L11 p1 p2 p3 p4 FU x 0 u19 H locs ls hf hP hD hS (lv_sub hl [2, 3, 4, 5, 6, 1, 0] rfl)
  exact M0 s.heap [] ls hf hP hD hS hl
/-! CompactformsModel.push(IIZ)I -/
def fX8_push_119 (x : MSt) (v7 : Int32) (s0 : Int32) (s1 : Int32) (s2 : Int32) (s3 : Int32) : Option (MSt × Int32) := (fX8_writes x s3 s2 s1 s0 0).bind (fun u1 => keep u1 (fun x3 => some (x3, v7)))
def fX8_push_89 (x : MSt) (v1 : Int32) (v2 : Int32) (v3 : Int32) (s0 : Int32) : Option (MSt × Int32) := (fX8_can x s0).bind (fun u4 => keep u4.1 (fun x6 => (if u4.2 = 0 then some (x6, 0) else (fX8_pushes x6 v1 v2 v3).bind (fun u8 => keep u8.1 (fun x10 => keep u8.2 (fun y11 => (if v3 = 0 then fX8_push_119 x10 y11 0 v2 v1 1 else fX8_push_119 x10 y11 1 v2 v1 1)))))))
def fX8_push_88 (x : MSt) (v1 : Int32) (v2 : Int32) (v3 : Int32) : Option (MSt × Int32) := fX8_push_89 x v1 v2 v3 3
def fX8_push_49 (x : MSt) (v1 : Int32) (v2 : Int32) (v3 : Int32) (v4 : Int32) (s0 : Int32) : Option (MSt × Int32) := (if v4 = 0 then fX8_push_89 x v1 v2 v3 1 else (fX8_isValue v2).bind (fun u14 => (if u14 = 0 then fX8_push_89 x v1 v2 v3 2 else (if s0 = 0 then fX8_push_88 x v1 v2 v3 else (fX8_isFull x).bind (fun u18 => (if u18 = 0 then fX8_push_89 x v1 v2 v3 0 else fX8_push_88 x v1 v2 v3))))))
def fX8_push_48 (x : MSt) (v1 : Int32) (v2 : Int32) (v3 : Int32) (v4 : Int32) : Option (MSt × Int32) := fX8_push_49 x v1 v2 v3 v4 0
def fX8_push_44 (x : MSt) (v1 : Int32) (v2 : Int32) (v3 : Int32) (v4 : Int32) : Option (MSt × Int32) := fX8_push_49 x v1 v2 v3 v4 1
def fX8_push_20 (x : MSt) (v1 : Int32) (v2 : Int32) (v3 : Int32) (v4 : Int32) (s0 : Int32) : Option (MSt × Int32) := (if s0 = 0 then fX8_push_44 x v1 v2 v3 v4 else (if s0 = 1 then chk (inb v1 16) ((if 40 ≤ ((mSize x) (v1).toNatClampNeg) then fX8_push_48 x v1 v2 v3 v4 else fX8_push_44 x v1 v2 v3 v4)) else fX8_push_48 x v1 v2 v3 v4))
def fX8_push (x : MSt) (p1 : Int32) (p2 : Int32) (p3 : Int32) : Option (MSt × Int32) := (fX8_isKey p1).bind (fun u25 => (if u25 = 0 then fX8_push_20 x p1 p2 p3 u25 0 else (fX8_typeNow x p1).bind (fun u28 => fX8_push_20 x p1 p2 p3 u25 u28)))
set_option maxHeartbeats 4000000 in
set_option maxRecDepth 100000 in
theorem met_X8_push {D : va_G} {cI cV cJ cD : ClassId} (l : Launch) (a : Nat → Nat) (x : MSt) (p1 : Int32) (p2 : Int32) (p3 : Int32) (res : MSt × Int32) (hf : fX8_push x p1 p2 p3 = some res) : MM l yX8_push cX8_push 8 (some .int) { frames := 3, cells := 0, slots := 0, locals := 67 } D (TY cI cV cJ cD) (W_Model cI a x) (W_Model cI a res.1) [.ref (a 0), .int p1, .int p2, .int p3] (some (.int res.2)) := by
  intro sz
  refine Met.ofW (cc := cX8_push) (maxL := 8) (ret := (some .int)) (by decide +kernel) rfl ?_
  intro p e s m args below meth c s₁ B hml hv
  obtain ⟨rfl, hsz, hP, hK, hD0, hE⟩ := hv
  have hx := B.exec
  have hb := B.bytes
  have hr := B.returns
  have hts := atoms_spec (ws := .code yX8_push cX8_push 8 (some .int) :: GW) B.pre
  have hg : ∀ w ∈ GW, w.before (([.ref (a 0), .int p1, .int p2, .int p3] : List Value).toArray) s = true := fun w h => hts w (List.mem_cons_of_mem _ h)
  have hown : s.vm.findClass RX8 = some m.cls := findClass_of_methodNamed B.named
  have hlocks := B.notSynchronized
  subst hsz
  have hD := hD0.self (sz := s.heap.size)
  generalize hAe : va_A (W_Model cI a x) s.heap.size = A at hD hE ⊢
  have hA : ∀ q : Nat, s.heap.size ≤ q → A q := fun q h => by rw [← hAe]; exact Or.inr h
  have hS : va_S A s.heap s.heap [] := va_S.rf
  have hl := lv_entry ([.ref (a 0), .int p1, .int p2, .int p3]) (n := 8) (Nat.le_of_ble_eq_true rfl)
  rw [lg_entry_eq]
  generalize (lg_sl ([.ref (a 0), .int p1, .int p2, .int p3]) ++ List.replicate (8 - (lg_sl ([.ref (a 0), .int p1, .int p2, .int p3])).length) Slot.unset).toArray = ls at hl ⊢
  have hl : lv_has ls 8 [(0, .ref (a 0)), (1, .int p1), (2, .int p2), (3, .int p3)] := hl
  have L119 : ∀ (x : MSt) (v7 : Int32) (s0 : Int32) (s1 : Int32) (s2 : Int32) (s3 : Int32) (H : Heap) (locs : List Loc) (ls : Array Slot), fX8_push_119 x v7 s0 s1 s2 s3  = some res → va_P D vwCl (W_Model cI a x) H → va_D A (W_Model cI a x) → va_S A s.heap H locs → lv_has ls 8 [(7, .int v7)] → W p l e ({ frames := 3, cells := 0, slots := 0, locals := 67 } : Room) s m ([.ref (a 0), .int p1, .int p2, .int p3] : List Value).toArray below meth c H locs 0 0 (MQ below (QW D (TY cI cV cJ cD) (W_Model cI a res.1) A (some (.int res.2))) (([.ref (a 0), .int p1, .int p2, .int p3] : List Value).toArray) s 0 0 A) (F0 m 119 ls [.int s0, .int s1, .int s2, .int s3, .ref (a 0)]) := by
    intro x v7 s0 s1 s2 s3 H locs ls hf hP hD hS hl
    dsimp only [fX8_push_119] at hf
    refine lv_iconst (v := 0) hx hb dX8_push_119 (by decide) ?_
    obtain ⟨u1, hc2, hf⟩ := bind_t hf
    refine k_V (As := [.int s3, .int s2, .int s1, .int s0, .int 0]) (rest := []) (n := 5) ⟨hx, hb, hml, hown, hts⟩ (met_X8_writes l a x s3 s2 s1 s0 0 u1 hc2) w947 w949 ws33 w9 w950 ⟨rfl, by decide +kernel, by decide +kernel, by decide +kernel⟩ ⟨Nat.le_of_ble_eq_true rfl, Nat.le_of_ble_eq_true rfl⟩ hK hE hP hD hS hA (isC := [0, 1, 2, 3, 4, 5, 6, 7, 8, 9, 10, 11, 12, 13, 14]) (isR := []) (isB := [0, 1, 2, 3, 4, 5, 6, 7, 8, 9, 10, 11, 12, 13, 14]) (ws' := W_Model cI a u1) ⟨([] : List Nat).filterMap (fun i : Nat => (W_Model cI a x : va_W)[i]?), rfl, rfl, rfl, rfl, by decide, rfl, rfl⟩ 0 7 rfl rfl rfl rfl hl.1 rfl (Nat.le_of_ble_eq_true rfl) dX8_push_120 ⟨Nat.le_of_ble_eq_true rfl, Nat.le_of_ble_eq_true rfl⟩ (fun H locs hP hD hS => ?_)
    try dsimp only at hf
    refine W.eq (g2 := F0 m 123 ls []) rfl ?_
    obtain ⟨x3, hx3⟩ : ∃ z, z = u1 := ⟨_, rfl⟩
    replace hf := keep_e hf x3 hx3
    have hP : va_P D vwCl (W_Model cI a x3) H := by rw [hx3]; exact hP
    have hD : va_D A (W_Model cI a x3) := by rw [hx3]; exact hD
    refine lv_iload hx hb dX8_push_123 (lv_at hl 0 rfl) ?_
    obtain rfl := Option.some.inj hf
    exact W.iret (v := v7) hx hb hr (fun t ht hW => ⟨rfl, by rw [ht]; exact hP, va_K.moved hW.alike hK, hD, hS.F ht⟩) hS.2.2 dX8_push_125 hlocks
  have L89 : ∀ (x : MSt) (v1 : Int32) (v2 : Int32) (v3 : Int32) (s0 : Int32) (H : Heap) (locs : List Loc) (ls : Array Slot), fX8_push_89 x v1 v2 v3 s0  = some res → va_P D vwCl (W_Model cI a x) H → va_D A (W_Model cI a x) → va_S A s.heap H locs → lv_has ls 8 [(0, .ref (a 0)), (1, .int v1), (2, .int v2), (3, .int v3)] → W p l e ({ frames := 3, cells := 0, slots := 0, locals := 67 } : Room) s m ([.ref (a 0), .int p1, .int p2, .int p3] : List Value).toArray below meth c H locs 0 0 (MQ below (QW D (TY cI cV cJ cD) (W_Model cI a res.1) A (some (.int res.2))) (([.ref (a 0), .int p1, .int p2, .int p3] : List Value).toArray) s 0 0 A) (F0 m 89 ls [.int s0, .ref (a 0)]) := by
    intro x v1 v2 v3 s0 H locs ls hf hP hD hS hl
    dsimp only [fX8_push_89] at hf
    obtain ⟨u4, hc5, hf⟩ := bind_t hf
    refine k_V (As := [.int s0]) (rest := []) (n := 1) ⟨hx, hb, hml, hown, hts⟩ (met_X8_can l a x s0 u4 hc5) w927 w929 ws28 w9 w930 ⟨rfl, by decide +kernel, by decide +kernel, by decide +kernel⟩ ⟨Nat.le_of_ble_eq_true rfl, Nat.le_of_ble_eq_true rfl⟩ hK hE hP hD hS hA (isC := [0, 1, 2, 3, 4, 5, 6, 7, 8, 9, 10, 11, 12, 13, 14]) (isR := []) (isB := [0, 1, 2, 3, 4, 5, 6, 7, 8, 9, 10, 11, 12, 13, 14]) (ws' := W_Model cI a u4.1) ⟨([] : List Nat).filterMap (fun i : Nat => (W_Model cI a x : va_W)[i]?), rfl, rfl, rfl, rfl, by decide, rfl, rfl⟩ 0 7 rfl rfl rfl rfl hl.1 rfl (Nat.le_of_ble_eq_true rfl) dX8_push_89 ⟨Nat.le_of_ble_eq_true rfl, Nat.le_of_ble_eq_true rfl⟩ (fun H locs hP hD hS => ?_)
    try dsimp only at hf
    refine W.eq (g2 := F0 m 92 ls [.int u4.2]) rfl ?_
    obtain ⟨x6, hx6⟩ : ∃ z, z = u4.1 := ⟨_, rfl⟩
    replace hf := keep_e hf x6 hx6
    have hP : va_P D vwCl (W_Model cI a x6) H := by rw [hx6]; exact hP
    have hD : va_D A (W_Model cI a x6) := by rw [hx6]; exact hD
    refine lv_if_ne (tgt := 97) hx hb dX8_push_92 (by decide) (fun c7 => ?_) (fun c7 => ?_)
    · replace hf := if_f c7 hf
      refine lv_aload_n hx hb dX8_push_97 rfl (lv_at hl 0 rfl) ?_
      refine lv_iload_n hx hb dX8_push_98 rfl (lv_at hl 1 rfl) ?_
      refine lv_iload_n hx hb dX8_push_99 rfl (lv_at hl 2 rfl) ?_
      refine lv_iload_n hx hb dX8_push_100 rfl (lv_at hl 3 rfl) ?_
      obtain ⟨u8, hc9, hf⟩ := bind_t hf
      refine k_V (As := [.int v1, .int v2, .int v3]) (rest := []) (n := 3) ⟨hx, hb, hml, hown, hts⟩ (met_X8_pushes l a x6 v1 v2 v3 u8 hc9) w931 w933 ws29 w9 w934 ⟨rfl, by decide +kernel, by decide +kernel, by decide +kernel⟩ ⟨Nat.le_of_ble_eq_true rfl, Nat.le_of_ble_eq_true rfl⟩ hK hE hP hD hS hA (isC := [0, 1, 2, 3, 4, 5, 6, 7, 8, 9, 10, 11, 12, 13, 14]) (isR := []) (isB := [0, 1, 2, 3, 4, 5, 6, 7, 8, 9, 10, 11, 12, 13, 14]) (ws' := W_Model cI a u8.1) ⟨([] : List Nat).filterMap (fun i : Nat => (W_Model cI a x6 : va_W)[i]?), rfl, rfl, rfl, rfl, by decide, rfl, rfl⟩ 0 7 rfl rfl rfl rfl hl.1 rfl (Nat.le_of_ble_eq_true rfl) dX8_push_101 ⟨Nat.le_of_ble_eq_true rfl, Nat.le_of_ble_eq_true rfl⟩ (fun H locs hP hD hS => ?_)
      try dsimp only at hf
      refine W.eq (g2 := F0 m 104 ls [.int u8.2]) rfl ?_
      obtain ⟨x10, hx10⟩ : ∃ z, z = u8.1 := ⟨_, rfl⟩
      replace hf := keep_e hf x10 hx10
      have hP : va_P D vwCl (W_Model cI a x10) H := by rw [hx10]; exact hP
      have hD : va_D A (W_Model cI a x10) := by rw [hx10]; exact hD
      refine lv_topi (fun y11 hy11 => ?_)
      replace hf := keep_e hf y11 hy11
      refine lv_istore (lv' := [(7, .int y11), (0, .ref (a 0)), (1, .int v1), (2, .int v2), (3, .int v3)]) hx hb dX8_push_104 hl (by decide) rfl (fun ls hl => ?_)
      refine lv_aload_n hx hb dX8_push_106 rfl (lv_at hl 1 rfl) ?_
      refine lv_iconst (v := 1) hx hb dX8_push_107 (by decide) ?_
      refine lv_iload_n hx hb dX8_push_108 rfl (lv_at hl 2 rfl) ?_
      refine lv_iload_n hx hb dX8_push_109 rfl (lv_at hl 3 rfl) ?_
      refine lv_iload_n hx hb dX8_push_110 rfl (lv_at hl 4 rfl) ?_
      refine lv_if_eq (tgt := 118) hx hb dX8_push_111 (by decide) (fun c12 => ?_) (fun c12 => ?_)
      · replace hf := if_t c12 hf
        refine lv_iconst (v := 0) hx hb dX8_push_118 (by decide) ?_
        exact L119 x10 y11 0 v2 v1 1 H locs ls hf hP hD hS (lv_sub hl [0] rfl)
      · replace hf := if_f c12 hf
        refine lv_iconst (v := 1) hx hb dX8_push_114 (by decide) ?_
        refine lv_goto (tgt := 119) hx hb dX8_push_115 (by decide) ?_
        exact L119 x10 y11 1 v2 v1 1 H locs ls hf hP hD hS (lv_sub hl [0] rfl)
    · replace hf := if_t c7 hf
      refine lv_iconst (v := 0) hx hb dX8_push_95 (by decide) ?_
      obtain rfl := Option.some.inj hf
      exact W.iret (v := 0) hx hb hr (fun t ht hW => ⟨rfl, by rw [ht]; exact hP, va_K.moved hW.alike hK, hD, hS.F ht⟩) hS.2.2 dX8_push_96 hlocks
  have L88 : ∀ (x : MSt) (v1 : Int32) (v2 : Int32) (v3 : Int32) (H : Heap) (locs : List Loc) (ls : Array Slot), fX8_push_88 x v1 v2 v3  = some res → va_P D vwCl (W_Model cI a x) H → va_D A (W_Model cI a x) → va_S A s.heap H locs → lv_has ls 8 [(0, .ref (a 0)), (1, .int v1), (2, .int v2), (3, .int v3)] → W p l e ({ frames := 3, cells := 0, slots := 0, locals := 67 } : Room) s m ([.ref (a 0), .int p1, .int p2, .int p3] : List Value).toArray below meth c H locs 0 0 (MQ below (QW D (TY cI cV cJ cD) (W_Model cI a res.1) A (some (.int res.2))) (([.ref (a 0), .int p1, .int p2, .int p3] : List Value).toArray) s 0 0 A) (F0 m 88 ls [.ref (a 0)]) := by
    intro x v1 v2 v3 H locs ls hf hP hD hS hl
    dsimp only [fX8_push_88] at hf
    refine lv_iconst (v := 3) hx hb dX8_push_88 (by decide) ?_
    exact L89 x v1 v2 v3 3 H locs ls hf hP hD hS (lv_sub hl [0, 1, 2, 3] rfl)
  have L49 : ∀ (x : MSt) (v1 : Int32) (v2 : Int32) (v3 : Int32) (v4 : Int32) (s0 : Int32) (H : Heap) (locs : List Loc) (ls : Array Slot), fX8_push_49 x v1 v2 v3 v4 s0  = some res → va_P D vwCl (W_Model cI a x) H → va_D A (W_Model cI a x) → va_S A s.heap H locs → lv_has ls 8 [(0, .ref (a 0)), (1, .int v1), (2, .int v2), (3, .int v3), (4, .int v4)] → W p l e ({ frames := 3, cells := 0, slots := 0, locals := 67 } : Room) s m ([.ref (a 0), .int p1, .int p2, .int p3] : List Value).toArray below meth c H locs 0 0 (MQ below (QW D (TY cI cV cJ cD) (W_Model cI a res.1) A (some (.int res.2))) (([.ref (a 0), .int p1, .int p2, .int p3] : List Value).toArray) s 0 0 A) (F0 m 49 ls [.int s0]) := by
    intro x v1 v2 v3 v4 s0 H locs ls hf hP hD hS hl
    dsimp only [fX8_push_49] at hf
    refine lv_istore (lv' := [(6, .int s0), (0, .ref (a 0)), (1, .int v1), (2, .int v2), (3, .int v3), (4, .int v4)]) hx hb dX8_push_49 hl (by decide) rfl (fun ls hl => ?_)
    refine lv_aload_n hx hb dX8_push_51 rfl (lv_at hl 1 rfl) ?_
    refine lv_iload hx hb dX8_push_52 (lv_at hl 5 rfl) ?_
    refine lv_if_ne (tgt := 61) hx hb dX8_push_54 (by decide) (fun c13 => ?_) (fun c13 => ?_)
    · replace hf := if_f c13 hf
      refine lv_iload_n hx hb dX8_push_61 rfl (lv_at hl 3 rfl) ?_
      obtain ⟨u14, hc15, hf⟩ := bind_t hf
      refine k_S (As := [.int v2]) (rest := [.ref (a 0)]) (n := 1) ⟨hx, hb, hml, hown, hts⟩ (met_X8_isValue l v2 u14 hc15) w920 w921 w9 w922 ⟨by decide +kernel, by decide +kernel, by decide +kernel⟩ ⟨Nat.le_of_ble_eq_true rfl, Nat.le_of_ble_eq_true rfl⟩ hK hE hP hD hS hA (isC := []) (isR := [0, 1, 2, 3, 4, 5, 6, 7, 8, 9, 10, 11, 12, 13, 14]) (isB := [0, 1, 2, 3, 4, 5, 6, 7, 8, 9, 10, 11, 12, 13, 14]) (ws' := W_Model cI a x) ⟨([0, 1, 2, 3, 4, 5, 6, 7, 8, 9, 10, 11, 12, 13, 14] : List Nat).filterMap (fun i : Nat => (W_Model cI a x : va_W)[i]?), rfl, rfl, rfl, rfl, by decide, rfl, rfl⟩ rfl hl.1 rfl (Nat.le_of_ble_eq_true rfl) dX8_push_62 ⟨Nat.le_of_ble_eq_true rfl, Nat.le_of_ble_eq_true rfl⟩ (fun H locs hP hD hS => ?_)
      try dsimp only at hf
      refine W.eq (g2 := F0 m 65 ls [.int u14, .ref (a 0)]) rfl ?_
      refine lv_if_ne (tgt := 72) hx hb dX8_push_65 (by decide) (fun c16 => ?_) (fun c16 => ?_)
      · replace hf := if_f c16 hf
        refine lv_iload hx hb dX8_push_72 (lv_at hl 0 rfl) ?_
        refine lv_if_eq (tgt := 88) hx hb dX8_push_74 (by decide) (fun c17 => ?_) (fun c17 => ?_)
        · replace hf := if_t c17 hf
          exact L88 x v1 v2 v3 H locs ls hf hP hD hS (lv_sub hl [1, 2, 3, 4] rfl)
        · replace hf := if_f c17 hf
          refine lv_aload_n hx hb dX8_push_77 rfl (lv_at hl 1 rfl) ?_
          obtain ⟨u18, hc19, hf⟩ := bind_t hf
          refine k_V (As := []) (rest := [.ref (a 0)]) (n := 0) ⟨hx, hb, hml, hown, hts⟩ (met_X8_isFull l a x u18 hc19) w923 w925 ws27 w9 w926 ⟨rfl, by decide +kernel, by decide +kernel, by decide +kernel⟩ ⟨Nat.le_of_ble_eq_true rfl, Nat.le_of_ble_eq_true rfl⟩ hK hE hP hD hS hA (isC := [0, 1, 2, 3, 4, 5, 6, 7, 8, 9, 10, 11, 12, 13, 14]) (isR := []) (isB := [0, 1, 2, 3, 4, 5, 6, 7, 8, 9, 10, 11, 12, 13, 14]) (ws' := W_Model cI a x) ⟨([] : List Nat).filterMap (fun i : Nat => (W_Model cI a x : va_W)[i]?), rfl, rfl, rfl, rfl, by decide, rfl, rfl⟩ 0 7 rfl rfl rfl rfl hl.1 rfl (Nat.le_of_ble_eq_true rfl) dX8_push_78 ⟨Nat.le_of_ble_eq_true rfl, Nat.le_of_ble_eq_true rfl⟩ (fun H locs hP hD hS => ?_)
          try dsimp only at hf
          refine W.eq (g2 := F0 m 81 ls [.int u18, .ref (a 0)]) rfl ?_
          refine lv_if_ne (tgt := 88) hx hb dX8_push_81 (by decide) (fun c20 => ?_) (fun c20 => ?_)
          · replace hf := if_f c20 hf
            exact L88 x v1 v2 v3 H locs ls hf hP hD hS (lv_sub hl [1, 2, 3, 4] rfl)
          · replace hf := if_t c20 hf
            refine lv_iconst (v := 0) hx hb dX8_push_84 (by decide) ?_
            refine lv_goto (tgt := 89) hx hb dX8_push_85 (by decide) ?_
            exact L89 x v1 v2 v3 0 H locs ls hf hP hD hS (lv_sub hl [1, 2, 3, 4] rfl)
      · replace hf := if_t c16 hf
        refine lv_iconst (v := 2) hx hb dX8_push_68 (by decide) ?_
        refine lv_goto (tgt := 89) hx hb dX8_push_69 (by decide) ?_
        exact L89 x v1 v2 v3 2 H locs ls hf hP hD hS (lv_sub hl [1, 2, 3, 4] rfl)
    · replace hf := if_t c13 hf
      refine lv_iconst (v := 1) hx hb dX8_push_57 (by decide) ?_
      refine lv_goto (tgt := 89) hx hb dX8_push_58 (by decide) ?_
      exact L89 x v1 v2 v3 1 H locs ls hf hP hD hS (lv_sub hl [1, 2, 3, 4] rfl)
  have L48 : ∀ (x : MSt) (v1 : Int32) (v2 : Int32) (v3 : Int32) (v4 : Int32) (H : Heap) (locs : List Loc) (ls : Array Slot), fX8_push_48 x v1 v2 v3 v4  = some res → va_P D vwCl (W_Model cI a x) H → va_D A (W_Model cI a x) → va_S A s.heap H locs → lv_has ls 8 [(0, .ref (a 0)), (1, .int v1), (2, .int v2), (3, .int v3), (4, .int v4)] → W p l e ({ frames := 3, cells := 0, slots := 0, locals := 67 } : Room) s m ([.ref (a 0), .int p1, .int p2, .int p3] : List Value).toArray below meth c H locs 0 0 (MQ below (QW D (TY cI cV cJ cD) (W_Model cI a res.1) A (some (.int res.2))) (([.ref (a 0), .int p1, .int p2, .int p3] : List Value).toArray) s 0 0 A) (F0 m 48 ls []) := by
    intro x v1 v2 v3 v4 H locs ls hf hP hD hS hl
    dsimp only [fX8_push_48] at hf
    refine lv_iconst (v := 0) hx hb dX8_push_48 (by decide) ?_
    exact L49 x v1 v2 v3 v4 0 H locs ls hf hP hD hS (lv_sub hl [0, 1, 2, 3, 4] rfl)
  have L44 : ∀ (x : MSt) (v1 : Int32) (v2 : Int32) (v3 : Int32) (v4 : Int32) (H : Heap) (locs : List Loc) (ls : Array Slot), fX8_push_44 x v1 v2 v3 v4  = some res → va_P D vwCl (W_Model cI a x) H → va_D A (W_Model cI a x) → va_S A s.heap H locs → lv_has ls 8 [(0, .ref (a 0)), (1, .int v1), (2, .int v2), (3, .int v3), (4, .int v4)] → W p l e ({ frames := 3, cells := 0, slots := 0, locals := 67 } : Room) s m ([.ref (a 0), .int p1, .int p2, .int p3] : List Value).toArray below meth c H locs 0 0 (MQ below (QW D (TY cI cV cJ cD) (W_Model cI a res.1) A (some (.int res.2))) (([.ref (a 0), .int p1, .int p2, .int p3] : List Value).toArray) s 0 0 A) (F0 m 44 ls []) := by
    intro x v1 v2 v3 v4 H locs ls hf hP hD hS hl
    dsimp only [fX8_push_44] at hf
    refine lv_iconst (v := 1) hx hb dX8_push_44 (by decide) ?_
    refine lv_goto (tgt := 49) hx hb dX8_push_45 (by decide) ?_
    exact L49 x v1 v2 v3 v4 1 H locs ls hf hP hD hS (lv_sub hl [0, 1, 2, 3, 4] rfl)
  have L20 : ∀ (x : MSt) (v1 : Int32) (v2 : Int32) (v3 : Int32) (v4 : Int32) (s0 : Int32) (H : Heap) (locs : List Loc) (ls : Array Slot), fX8_push_20 x v1 v2 v3 v4 s0  = some res → va_P D vwCl (W_Model cI a x) H → va_D A (W_Model cI a x) → va_S A s.heap H locs → lv_has ls 8 [(0, .ref (a 0)), (1, .int v1), (2, .int v2), (3, .int v3), (4, .int v4)] → W p l e ({ frames := 3, cells := 0, slots := 0, locals := 67 } : Room) s m ([.ref (a 0), .int p1, .int p2, .int p3] : List Value).toArray below meth c H locs 0 0 (MQ below (QW D (TY cI cV cJ cD) (W_Model cI a res.1) A (some (.int res.2))) (([.ref (a 0), .int p1, .int p2, .int p3] : List Value).toArray) s 0 0 A) (F0 m 20 ls [.int s0]) := by
    intro x v1 v2 v3 v4 s0 H locs ls hf hP hD hS hl
    dsimp only [fX8_push_20] at hf
    refine lv_istore (lv' := [(5, .int s0), (0, .ref (a 0)), (1, .int v1), (2, .int v2), (3, .int v3), (4, .int v4)]) hx hb dX8_push_20 hl (by decide) rfl (fun ls hl => ?_)
    refine lv_iload hx hb dX8_push_22 (lv_at hl 0 rfl) ?_
    refine lv_if_eq (tgt := 44) hx hb dX8_push_24 (by decide) (fun c21 => ?_) (fun c21 => ?_)
    · replace hf := if_t c21 hf
      exact L44 x v1 v2 v3 v4 H locs ls hf hP hD hS (lv_sub hl [1, 2, 3, 4, 5] rfl)
    · replace hf := if_f c21 hf
      refine lv_iload hx hb dX8_push_27 (lv_at hl 0 rfl) ?_
      refine lv_iconst (v := 1) hx hb dX8_push_29 (by decide) ?_
      refine lv_icmp_ne (tgt := 48) hx hb dX8_push_30 (by decide) (fun c22 => ?_) (fun c22 => ?_)
      · replace hf := if_f c22 hf
        exact L48 x v1 v2 v3 v4 H locs ls hf hP hD hS (lv_sub hl [1, 2, 3, 4, 5] rfl)
      · replace hf := if_t c22 hf
        refine lv_aload_n hx hb dX8_push_33 rfl (lv_at hl 1 rfl) ?_
        refine va_get (D := D) (ci := 7) (v := .ref (a 4)) (C := RX8) (T := TX8) (N := 24) hx hb hg in_X8 hown hK hP 0 rfl rfl 5 (by decide) (hg _ w830) (fun _ h9 => h9) rfl dX8_push_34 ?_
        refine lv_iload_n hx hb dX8_push_37 rfl (lv_at hl 2 rfl) ?_
        obtain ⟨hi23, hf⟩ := chk_t hf
        refine va_iald hx hb hK hP 4 0 rfl rfl (inb_in hi23) dX8_push_38 ?_
        refine lv_bipush (v := 40) hx hb dX8_push_39 (by decide) ?_
        refine lv_icmp_ge (tgt := 48) hx hb dX8_push_41 (by decide) (fun c24 => ?_) (fun c24 => ?_)
        · replace hf := if_t c24 hf
          exact L48 x v1 v2 v3 v4 H locs ls hf hP hD hS (lv_sub hl [1, 2, 3, 4, 5] rfl)
        · replace hf := if_f c24 hf
          exact L44 x v1 v2 v3 v4 H locs ls hf hP hD hS (lv_sub hl [1, 2, 3, 4, 5] rfl)
  have M0 : ∀ (H : Heap) (locs : List Loc) (ls : Array Slot), fX8_push x p1 p2 p3 = some res → va_P D vwCl (W_Model cI a x) H → va_D A (W_Model cI a x) → va_S A s.heap H locs → lv_has ls 8 [(0, .ref (a 0)), (1, .int p1), (2, .int p2), (3, .int p3)] → W p l e ({ frames := 3, cells := 0, slots := 0, locals := 67 } : Room) s m ([.ref (a 0), .int p1, .int p2, .int p3] : List Value).toArray below meth c H locs 0 0 (MQ below (QW D (TY cI cV cJ cD) (W_Model cI a res.1) A (some (.int res.2))) (([.ref (a 0), .int p1, .int p2, .int p3] : List Value).toArray) s 0 0 A) (F0 m 0 ls []) := by
    intro H locs ls hf hP hD hS hl
    dsimp only [fX8_push] at hf
    refine lv_iload_n hx hb dX8_push_0 rfl (lv_at hl 1 rfl) ?_
    obtain ⟨u25, hc26, hf⟩ := bind_t hf
    refine k_S (As := [.int p1]) (rest := []) (n := 1) ⟨hx, hb, hml, hown, hts⟩ (met_X8_isKey l p1 u25 hc26) w906 w907 w9 w908 ⟨by decide +kernel, by decide +kernel, by decide +kernel⟩ ⟨Nat.le_of_ble_eq_true rfl, Nat.le_of_ble_eq_true rfl⟩ hK hE hP hD hS hA (isC := []) (isR := [0, 1, 2, 3, 4, 5, 6, 7, 8, 9, 10, 11, 12, 13, 14]) (isB := [0, 1, 2, 3, 4, 5, 6, 7, 8, 9, 10, 11, 12, 13, 14]) (ws' := W_Model cI a x) ⟨([0, 1, 2, 3, 4, 5, 6, 7, 8, 9, 10, 11, 12, 13, 14] : List Nat).filterMap (fun i : Nat => (W_Model cI a x : va_W)[i]?), rfl, rfl, rfl, rfl, by decide, rfl, rfl⟩ rfl hl.1 rfl (Nat.le_of_ble_eq_true rfl) dX8_push_1 ⟨Nat.le_of_ble_eq_true rfl, Nat.le_of_ble_eq_true rfl⟩ (fun H locs hP hD hS => ?_)
    try dsimp only at hf
    refine W.eq (g2 := F0 m 4 ls [.int u25]) rfl ?_
    refine lv_istore (lv' := [(4, .int u25), (0, .ref (a 0)), (1, .int p1), (2, .int p2), (3, .int p3)]) hx hb dX8_push_4 hl (by decide) rfl (fun ls hl => ?_)
    refine lv_iload hx hb dX8_push_6 (lv_at hl 0 rfl) ?_
    refine lv_if_eq (tgt := 19) hx hb dX8_push_8 (by decide) (fun c27 => ?_) (fun c27 => ?_)
    · replace hf := if_t c27 hf
      refine lv_iconst (v := 0) hx hb dX8_push_19 (by decide) ?_
      exact L20 x p1 p2 p3 u25 0 H locs ls hf hP hD hS (lv_sub hl [1, 2, 3, 4, 0] rfl)
    · replace hf := if_f c27 hf
      refine lv_aload_n hx hb dX8_push_11 rfl (lv_at hl 1 rfl) ?_
      refine lv_iload_n hx hb dX8_push_12 rfl (lv_at hl 2 rfl) ?_
      obtain ⟨u28, hc29, hf⟩ := bind_t hf
      refine k_V (As := [.int p1]) (rest := []) (n := 1) ⟨hx, hb, hml, hown, hts⟩ (met_X8_typeNow l a x p1 u28 hc29) w912 w914 ws25 w9 w915 ⟨rfl, by decide +kernel, by decide +kernel, by decide +kernel⟩ ⟨Nat.le_of_ble_eq_true rfl, Nat.le_of_ble_eq_true rfl⟩ hK hE hP hD hS hA (isC := [0, 1, 2, 3, 4, 5, 6, 7, 8, 9, 10, 11, 12, 13, 14]) (isR := []) (isB := [0, 1, 2, 3, 4, 5, 6, 7, 8, 9, 10, 11, 12, 13, 14]) (ws' := W_Model cI a x) ⟨([] : List Nat).filterMap (fun i : Nat => (W_Model cI a x : va_W)[i]?), rfl, rfl, rfl, rfl, by decide, rfl, rfl⟩ 0 7 rfl rfl rfl rfl hl.1 rfl (Nat.le_of_ble_eq_true rfl) dX8_push_13 ⟨Nat.le_of_ble_eq_true rfl, Nat.le_of_ble_eq_true rfl⟩ (fun H locs hP hD hS => ?_)
      try dsimp only at hf
      refine W.eq (g2 := F0 m 16 ls [.int u28]) rfl ?_
      refine lv_goto (tgt := 20) hx hb dX8_push_16 (by decide) ?_
      exact L20 x p1 p2 p3 u25 u28 H locs ls hf hP hD hS (lv_sub hl [1, 2, 3, 4, 0] rfl)
  exact M0 s.heap [] ls hf hP hD hS hl
/-! CompactformsModel.pop(IZ)I -/
def fX8_pop_63 (x : MSt) (v4 : Int32) (s0 : Int32) (s1 : Int32) (s2 : Int32) : Option (MSt × Int32) := (fX8_writes x s2 s1 s0 0 0).bind (fun u1 => keep u1 (fun x3 => some (x3, v4)))
def fX8_pop_35 (x : MSt) (v1 : Int32) (v2 : Int32) (s0 : Int32) : Option (MSt × Int32) := (fX8_can x s0).bind (fun u4 => keep u4.1 (fun x6 => (if u4.2 = 0 then some (x6, 0) else (fX8_pops x6 v1 v2).bind (fun u8 => keep u8.1 (fun x10 => keep u8.2 (fun y11 => (if v2 = 0 then fX8_pop_63 x10 y11 0 v1 2 else fX8_pop_63 x10 y11 1 v1 2)))))))
def fX8_pop_34 (x : MSt) (v1 : Int32) (v2 : Int32) : Option (MSt × Int32) := fX8_pop_35 x v1 v2 2
def fX8_pop (x : MSt) (p1 : Int32) (p2 : Int32) : Option (MSt × Int32) := (fX8_isKey p1).bind (fun u13 => (if u13 = 0 then fX8_pop_35 x p1 p2 1 else (fX8_typeNow x p1).bind (fun u16 => (if u16 = 1 then (fX8_isFull x).bind (fun u19 => (if u19 = 0 then fX8_pop_35 x p1 p2 0 else fX8_pop_34 x p1 p2)) else fX8_pop_34 x p1 p2))))
set_option maxHeartbeats 4000000 in
set_option maxRecDepth 100000 in
theorem met_X8_pop {D : va_G} {cI cV cJ cD : ClassId} (l : Launch) (a : Nat → Nat) (x : MSt) (p1 : Int32) (p2 : Int32) (res : MSt × Int32) (hf : fX8_pop x p1 p2 = some res) : MM l yX8_pop cX8_pop 5 (some .int) { frames := 2, cells := 0, slots := 0, locals := 47 } D (TY cI cV cJ cD) (W_Model cI a x) (W_Model cI a res.1) [.ref (a 0), .int p1, .int p2] (some (.int res.2)) := by
  intro sz
  refine Met.ofW (cc := cX8_pop) (maxL := 5) (ret := (some .int)) (by decide +kernel) rfl ?_
  intro p e s m args below meth c s₁ B hml hv
  obtain ⟨rfl, hsz, hP, hK, hD0, hE⟩ := hv
  have hx := B.exec
  have hb := B.bytes
  have hr := B.returns
  have hts := atoms_spec (ws := .code yX8_pop cX8_pop 5 (some .int) :: GW) B.pre
  have hg : ∀ w ∈ GW, w.before (([.ref (a 0), .int p1, .int p2] : List Value).toArray) s = true := fun w h => hts w (List.mem_cons_of_mem _ h)
  have hown : s.vm.findClass RX8 = some m.cls := findClass_of_methodNamed B.named
  have hlocks := B.notSynchronized
  subst hsz
  have hD := hD0.self (sz := s.heap.size)
  generalize hAe : va_A (W_Model cI a x) s.heap.size = A at hD hE ⊢
  have hA : ∀ q : Nat, s.heap.size ≤ q → A q := fun q h => by rw [← hAe]; exact Or.inr h
  have hS : va_S A s.heap s.heap [] := va_S.rf
  have hl := lv_entry ([.ref (a 0), .int p1, .int p2]) (n := 5) (Nat.le_of_ble_eq_true rfl)
  rw [lg_entry_eq]
  generalize (lg_sl ([.ref (a 0), .int p1, .int p2]) ++ List.replicate (5 - (lg_sl ([.ref (a 0), .int p1, .int p2])).length) Slot.unset).toArray = ls at hl ⊢
  have hl : lv_has ls 5 [(0, .ref (a 0)), (1, .int p1), (2, .int p2)] := hl
  have L63 : ∀ (x : MSt) (v4 : Int32) (s0 : Int32) (s1 : Int32) (s2 : Int32) (H : Heap) (locs : List Loc) (ls : Array Slot), fX8_pop_63 x v4 s0 s1 s2  = some res → va_P D vwCl (W_Model cI a x) H → va_D A (W_Model cI a x) → va_S A s.heap H locs → lv_has ls 5 [(4, .int v4)] → W p l e ({ frames := 2, cells := 0, slots := 0, locals := 47 } : Room) s m ([.ref (a 0), .int p1, .int p2] : List Value).toArray below meth c H locs 0 0 (MQ below (QW D (TY cI cV cJ cD) (W_Model cI a res.1) A (some (.int res.2))) (([.ref (a 0), .int p1, .int p2] : List Value).toArray) s 0 0 A) (F0 m 63 ls [.int s0, .int s1, .int s2, .ref (a 0)]) := by
    intro x v4 s0 s1 s2 H locs ls hf hP hD hS hl
    dsimp only [fX8_pop_63] at hf
    refine lv_iconst (v := 0) hx hb dX8_pop_63 (by decide) ?_
    refine lv_iconst (v := 0) hx hb dX8_pop_64 (by decide) ?_
    obtain ⟨u1, hc2, hf⟩ := bind_t hf
    refine k_V (As := [.int s2, .int s1, .int s0, .int 0, .int 0]) (rest := []) (n := 5) ⟨hx, hb, hml, hown, hts⟩ (met_X8_writes l a x s2 s1 s0 0 0 u1 hc2) w947 w949 ws33 w9 w950 ⟨rfl, by decide +kernel, by decide +kernel, by decide +kernel⟩ ⟨Nat.le_of_ble_eq_true rfl, Nat.le_of_ble_eq_true rfl⟩ hK hE hP hD hS hA (isC := [0, 1, 2, 3, 4, 5, 6, 7, 8, 9, 10, 11, 12, 13, 14]) (isR := []) (isB := [0, 1, 2, 3, 4, 5, 6, 7, 8, 9, 10, 11, 12, 13, 14]) (ws' := W_Model cI a u1) ⟨([] : List Nat).filterMap (fun i : Nat => (W_Model cI a x : va_W)[i]?), rfl, rfl, rfl, rfl, by decide, rfl, rfl⟩ 0 7 rfl rfl rfl rfl hl.1 rfl (Nat.le_of_ble_eq_true rfl) dX8_pop_65 ⟨Nat.le_of_ble_eq_true rfl, Nat.le_of_ble_eq_true rfl⟩ (fun H locs hP hD hS => ?_)
    try dsimp only at hf
    refine W.eq (g2 := F0 m 68 ls []) rfl ?_
    obtain ⟨x3, hx3⟩ : ∃ z, z = u1 := ⟨_, rfl⟩
    replace hf := keep_e hf x3 hx3
    have hP : va_P D vwCl (W_Model cI a x3) H := by rw [hx3]; exact hP
    have hD : va_D A (W_Model cI a x3) := by rw [hx3]; exact hD
    refine lv_iload hx hb dX8_pop_68 (lv_at hl 0 rfl) ?_
    obtain rfl := Option.some.inj hf
    exact W.iret (v := v4) hx hb hr (fun t ht hW => ⟨rfl, by rw [ht]; exact hP, va_K.moved hW.alike hK, hD, hS.F ht⟩) hS.2.2 dX8_pop_70 hlocks
  have L35 : ∀ (x : MSt) (v1 : Int32) (v2 : Int32) (s0 : Int32) (H : Heap) (locs : List Loc) (ls : Array Slot), fX8_pop_35 x v1 v2 s0  = some res → va_P D vwCl (W_Model cI a x) H → va_D A (W_Model cI a x) → va_S A s.heap H locs → lv_has ls 5 [(0, .ref (a 0)), (1, .int v1), (2, .int v2)] → W p l e ({ frames := 2, cells := 0, slots := 0, locals := 47 } : Room) s m ([.ref (a 0), .int p1, .int p2] : List Value).toArray below meth c H locs 0 0 (MQ below (QW D (TY cI cV cJ cD) (W_Model cI a res.1) A (some (.int res.2))) (([.ref (a 0), .int p1, .int p2] : List Value).toArray) s 0 0 A) (F0 m 35 ls [.int s0, .ref (a 0)]) := by
    intro x v1 v2 s0 H locs ls hf hP hD hS hl
    dsimp only [fX8_pop_35] at hf
    obtain ⟨u4, hc5, hf⟩ := bind_t hf
    refine k_V (As := [.int s0]) (rest := []) (n := 1) ⟨hx, hb, hml, hown, hts⟩ (met_X8_can l a x s0 u4 hc5) w927 w929 ws28 w9 w930 ⟨rfl, by decide +kernel, by decide +kernel, by decide +kernel⟩ ⟨Nat.le_of_ble_eq_true rfl, Nat.le_of_ble_eq_true rfl⟩ hK hE hP hD hS hA (isC := [0, 1, 2, 3, 4, 5, 6, 7, 8, 9, 10, 11, 12, 13, 14]) (isR := []) (isB := [0, 1, 2, 3, 4, 5, 6, 7, 8, 9, 10, 11, 12, 13, 14]) (ws' := W_Model cI a u4.1) ⟨([] : List Nat).filterMap (fun i : Nat => (W_Model cI a x : va_W)[i]?), rfl, rfl, rfl, rfl, by decide, rfl, rfl⟩ 0 7 rfl rfl rfl rfl hl.1 rfl (Nat.le_of_ble_eq_true rfl) dX8_pop_35 ⟨Nat.le_of_ble_eq_true rfl, Nat.le_of_ble_eq_true rfl⟩ (fun H locs hP hD hS => ?_)
    try dsimp only at hf
    refine W.eq (g2 := F0 m 38 ls [.int u4.2]) rfl ?_
    obtain ⟨x6, hx6⟩ : ∃ z, z = u4.1 := ⟨_, rfl⟩
    replace hf := keep_e hf x6 hx6
    have hP : va_P D vwCl (W_Model cI a x6) H := by rw [hx6]; exact hP
    have hD : va_D A (W_Model cI a x6) := by rw [hx6]; exact hD
    refine lv_if_ne (tgt := 43) hx hb dX8_pop_38 (by decide) (fun c7 => ?_) (fun c7 => ?_)
    · replace hf := if_f c7 hf
      refine lv_aload_n hx hb dX8_pop_43 rfl (lv_at hl 0 rfl) ?_
      refine lv_iload_n hx hb dX8_pop_44 rfl (lv_at hl 1 rfl) ?_
      refine lv_iload_n hx hb dX8_pop_45 rfl (lv_at hl 2 rfl) ?_
      obtain ⟨u8, hc9, hf⟩ := bind_t hf
      refine k_V (As := [.int v1, .int v2]) (rest := []) (n := 2) ⟨hx, hb, hml, hown, hts⟩ (met_X8_pops l a x6 v1 v2 u8 hc9) w955 w957 ws34 w9 w958 ⟨rfl, by decide +kernel, by decide +kernel, by decide +kernel⟩ ⟨Nat.le_of_ble_eq_true rfl, Nat.le_of_ble_eq_true rfl⟩ hK hE hP hD hS hA (isC := [0, 1, 2, 3, 4, 5, 6, 7, 8, 9, 10, 11, 12, 13, 14]) (isR := []) (isB := [0, 1, 2, 3, 4, 5, 6, 7, 8, 9, 10, 11, 12, 13, 14]) (ws' := W_Model cI a u8.1) ⟨([] : List Nat).filterMap (fun i : Nat => (W_Model cI a x6 : va_W)[i]?), rfl, rfl, rfl, rfl, by decide, rfl, rfl⟩ 0 7 rfl rfl rfl rfl hl.1 rfl (Nat.le_of_ble_eq_true rfl) dX8_pop_46 ⟨Nat.le_of_ble_eq_true rfl, Nat.le_of_ble_eq_true rfl⟩ (fun H locs hP hD hS => ?_)
      try dsimp only at hf
      refine W.eq (g2 := F0 m 49 ls [.int u8.2]) rfl ?_
      obtain ⟨x10, hx10⟩ : ∃ z, z = u8.1 := ⟨_, rfl⟩
      replace hf := keep_e hf x10 hx10
      have hP : va_P D vwCl (W_Model cI a x10) H := by rw [hx10]; exact hP
      have hD : va_D A (W_Model cI a x10) := by rw [hx10]; exact hD
      refine lv_topi (fun y11 hy11 => ?_)
      replace hf := keep_e hf y11 hy11
      refine lv_istore (lv' := [(4, .int y11), (0, .ref (a 0)), (1, .int v1), (2, .int v2)]) hx hb dX8_pop_49 hl (by decide) rfl (fun ls hl => ?_)
      refine lv_aload_n hx hb dX8_pop_51 rfl (lv_at hl 1 rfl) ?_
      refine lv_iconst (v := 2) hx hb dX8_pop_52 (by decide) ?_
      refine lv_iload_n hx hb dX8_pop_53 rfl (lv_at hl 2 rfl) ?_
      refine lv_iload_n hx hb dX8_pop_54 rfl (lv_at hl 3 rfl) ?_
      refine lv_if_eq (tgt := 62) hx hb dX8_pop_55 (by decide) (fun c12 => ?_) (fun c12 => ?_)
      · replace hf := if_t c12 hf
        refine lv_iconst (v := 0) hx hb dX8_pop_62 (by decide) ?_
        exact L63 x10 y11 0 v1 2 H locs ls hf hP hD hS (lv_sub hl [0] rfl)
      · replace hf := if_f c12 hf
        refine lv_iconst (v := 1) hx hb dX8_pop_58 (by decide) ?_
        refine lv_goto (tgt := 63) hx hb dX8_pop_59 (by decide) ?_
        exact L63 x10 y11 1 v1 2 H locs ls hf hP hD hS (lv_sub hl [0] rfl)
    · replace hf := if_t c7 hf
      refine lv_iconst (v := 0) hx hb dX8_pop_41 (by decide) ?_
      obtain rfl := Option.some.inj hf
      exact W.iret (v := 0) hx hb hr (fun t ht hW => ⟨rfl, by rw [ht]; exact hP, va_K.moved hW.alike hK, hD, hS.F ht⟩) hS.2.2 dX8_pop_42 hlocks
  have L34 : ∀ (x : MSt) (v1 : Int32) (v2 : Int32) (H : Heap) (locs : List Loc) (ls : Array Slot), fX8_pop_34 x v1 v2  = some res → va_P D vwCl (W_Model cI a x) H → va_D A (W_Model cI a x) → va_S A s.heap H locs → lv_has ls 5 [(0, .ref (a 0)), (1, .int v1), (2, .int v2)] → W p l e ({ frames := 2, cells := 0, slots := 0, locals := 47 } : Room) s m ([.ref (a 0), .int p1, .int p2] : List Value).toArray below meth c H locs 0 0 (MQ below (QW D (TY cI cV cJ cD) (W_Model cI a res.1) A (some (.int res.2))) (([.ref (a 0), .int p1, .int p2] : List Value).toArray) s 0 0 A) (F0 m 34 ls [.ref (a 0)]) := by
    intro x v1 v2 H locs ls hf hP hD hS hl
    dsimp only [fX8_pop_34] at hf
    refine lv_iconst (v := 2) hx hb dX8_pop_34 (by decide) ?_
    exact L35 x v1 v2 2 H locs ls hf hP hD hS (lv_sub hl [0, 1, 2] rfl)
  have M0 : ∀ (H : Heap) (locs : List Loc) (ls : Array Slot), fX8_pop x p1 p2 = some res → va_P D vwCl (W_Model cI a x) H → va_D A (W_Model cI a x) → va_S A s.heap H locs → lv_has ls 5 [(0, .ref (a 0)), (1, .int p1), (2, .int p2)] → W p l e ({ frames := 2, cells := 0, slots := 0, locals := 47 } : Room) s m ([.ref (a 0), .int p1, .int p2] : List Value).toArray below meth c H locs 0 0 (MQ below (QW D (TY cI cV cJ cD) (W_Model cI a res.1) A (some (.int res.2))) (([.ref (a 0), .int p1, .int p2] : List Value).toArray) s 0 0 A) (F0 m 0 ls []) := by
    intro H locs ls hf hP hD hS hl
    dsimp only [fX8_pop] at hf
    refine lv_iload_n hx hb dX8_pop_0 rfl (lv_at hl 1 rfl) ?_
    obtain ⟨u13, hc14, hf⟩ := bind_t hf
    refine k_S (As := [.int p1]) (rest := []) (n := 1) ⟨hx, hb, hml, hown, hts⟩ (met_X8_isKey l p1 u13 hc14) w906 w907 w9 w908 ⟨by decide +kernel, by decide +kernel, by decide +kernel⟩ ⟨Nat.le_of_ble_eq_true rfl, Nat.le_of_ble_eq_true rfl⟩ hK hE hP hD hS hA (isC := []) (isR := [0, 1, 2, 3, 4, 5, 6, 7, 8, 9, 10, 11, 12, 13, 14]) (isB := [0, 1, 2, 3, 4, 5, 6, 7, 8, 9, 10, 11, 12, 13, 14]) (ws' := W_Model cI a x) ⟨([0, 1, 2, 3, 4, 5, 6, 7, 8, 9, 10, 11, 12, 13, 14] : List Nat).filterMap (fun i : Nat => (W_Model cI a x : va_W)[i]?), rfl, rfl, rfl, rfl, by decide, rfl, rfl⟩ rfl hl.1 rfl (Nat.le_of_ble_eq_true rfl) dX8_pop_1 ⟨Nat.le_of_ble_eq_true rfl, Nat.le_of_ble_eq_true rfl⟩ (fun H locs hP hD hS => ?_)
    try dsimp only at hf
    refine W.eq (g2 := F0 m 4 ls [.int u13]) rfl ?_
    refine lv_istore_n (lv' := [(3, .int u13), (0, .ref (a 0)), (1, .int p1), (2, .int p2)]) hx hb dX8_pop_4 rfl hl (by decide) rfl (fun ls hl => ?_)
    refine lv_aload_n hx hb dX8_pop_5 rfl (lv_at hl 1 rfl) ?_
    refine lv_iload_n hx hb dX8_pop_6 rfl (lv_at hl 0 rfl) ?_
    refine lv_if_ne (tgt := 14) hx hb dX8_pop_7 (by decide) (fun c15 => ?_) (fun c15 => ?_)
    · replace hf := if_f c15 hf
      refine lv_aload_n hx hb dX8_pop_14 rfl (lv_at hl 1 rfl) ?_
      refine lv_iload_n hx hb dX8_pop_15 rfl (lv_at hl 2 rfl) ?_
      obtain ⟨u16, hc17, hf⟩ := bind_t hf
      refine k_V (As := [.int p1]) (rest := [.ref (a 0)]) (n := 1) ⟨hx, hb, hml, hown, hts⟩ (met_X8_typeNow l a x p1 u16 hc17) w912 w914 ws25 w9 w915 ⟨rfl, by decide +kernel, by decide +kernel, by decide +kernel⟩ ⟨Nat.le_of_ble_eq_true rfl, Nat.le_of_ble_eq_true rfl⟩ hK hE hP hD hS hA (isC := [0, 1, 2, 3, 4, 5, 6, 7, 8, 9, 10, 11, 12, 13, 14]) (isR := []) (isB := [0, 1, 2, 3, 4, 5, 6, 7, 8, 9, 10, 11, 12, 13, 14]) (ws' := W_Model cI a x) ⟨([] : List Nat).filterMap (fun i : Nat => (W_Model cI a x : va_W)[i]?), rfl, rfl, rfl, rfl, by decide, rfl, rfl⟩ 0 7 rfl rfl rfl rfl hl.1 rfl (Nat.le_of_ble_eq_true rfl) dX8_pop_16 ⟨Nat.le_of_ble_eq_true rfl, Nat.le_of_ble_eq_true rfl⟩ (fun H locs hP hD hS => ?_)
      try dsimp only at hf
      refine W.eq (g2 := F0 m 19 ls [.int u16, .ref (a 0)]) rfl ?_
      refine lv_iconst (v := 1) hx hb dX8_pop_19 (by decide) ?_
      refine lv_icmp_ne (tgt := 34) hx hb dX8_pop_20 (by decide) (fun c18 => ?_) (fun c18 => ?_)
      · replace hf := if_f c18 hf
        exact L34 x p1 p2 H locs ls hf hP hD hS (lv_sub hl [1, 2, 3] rfl)
      · replace hf := if_t c18 hf
        refine lv_aload_n hx hb dX8_pop_23 rfl (lv_at hl 1 rfl) ?_
        obtain ⟨u19, hc20, hf⟩ := bind_t hf
        refine k_V (As := []) (rest := [.ref (a 0)]) (n := 0) ⟨hx, hb, hml, hown, hts⟩ (met_X8_isFull l a x u19 hc20) w923 w925 ws27 w9 w926 ⟨rfl, by decide +kernel, by decide +kernel, by decide +kernel⟩ ⟨Nat.le_of_ble_eq_true rfl, Nat.le_of_ble_eq_true rfl⟩ hK hE hP hD hS hA (isC := [0, 1, 2, 3, 4, 5, 6, 7, 8, 9, 10, 11, 12, 13, 14]) (isR := []) (isB := [0, 1, 2, 3, 4, 5, 6, 7, 8, 9, 10, 11, 12, 13, 14]) (ws' := W_Model cI a x) ⟨([] : List Nat).filterMap (fun i : Nat => (W_Model cI a x : va_W)[i]?), rfl, rfl, rfl, rfl, by decide, rfl, rfl⟩ 0 7 rfl rfl rfl rfl hl.1 rfl (Nat.le_of_ble_eq_true rfl) dX8_pop_24 ⟨Nat.le_of_ble_eq_true rfl, Nat.le_of_ble_eq_true rfl⟩ (fun H locs hP hD hS => ?_)
        try dsimp only at hf
        refine W.eq (g2 := F0 m 27 ls [.int u19, .ref (a 0)]) rfl ?_
        refine lv_if_ne (tgt := 34) hx hb dX8_pop_27 (by decide) (fun c21 => ?_) (fun c21 => ?_)
        · replace hf := if_f c21 hf
          exact L34 x p1 p2 H locs ls hf hP hD hS (lv_sub hl [1, 2, 3] rfl)
        · replace hf := if_t c21 hf
          refine lv_iconst (v := 0) hx hb dX8_pop_30 (by decide) ?_
          refine lv_goto (tgt := 35) hx hb dX8_pop_31 (by decide) ?_
          exact L35 x p1 p2 0 H locs ls hf hP hD hS (lv_sub hl [1, 2, 3] rfl)
    · replace hf := if_t c15 hf
      refine lv_iconst (v := 1) hx hb dX8_pop_10 (by decide) ?_
      refine lv_goto (tgt := 35) hx hb dX8_pop_11 (by decide) ?_
      exact L35 x p1 p2 1 H locs ls hf hP hD hS (lv_sub hl [1, 2, 3] rfl)
  exact M0 s.heap [] ls hf hP hD hS hl
/-! CompactformsModel.hasRoom(III)Z -/
def fX8_hasRoom (x : MSt) (p1 : Int32) (p2 : Int32) (p3 : Int32) : Option (Int32) := (fX8_typeNow x p1).bind (fun u1 => (if u1 = 0 then some 1 else (if u1 = p2 then chk (inb p1 16) ((if ((mSize x) (p1).toNatClampNeg) < 40 then some 1 else (fX8_find x p1 p3).bind (fun u7 => (if u7 = (-1) then some 0 else some 1)))) else some 0)))
set_option maxHeartbeats 4000000 in
set_option maxRecDepth 100000 in
theorem met_X8_hasRoom {D : va_G} {cI cV cJ cD : ClassId} (l : Launch) (a : Nat → Nat) (x : MSt) (p1 : Int32) (p2 : Int32) (p3 : Int32) (res : Int32) (hf : fX8_hasRoom x p1 p2 p3 = some res) : MM l yX8_hasRoom cX8_hasRoom 5 (some .boolean) { frames := 2, cells := 0, slots := 0, locals := 42 } D (TY cI cV cJ cD) (W_Model cI a x) (W_Model cI a x) [.ref (a 0), .int p1, .int p2, .int p3] (some (.int res)) := by
  intro sz
  refine Met.ofW (cc := cX8_hasRoom) (maxL := 5) (ret := (some .boolean)) (by decide +kernel) rfl ?_
  intro p e s m args below meth c s₁ B hml hv
  obtain ⟨rfl, hsz, hP, hK, hD0, hE⟩ := hv
  have hx := B.exec
  have hb := B.bytes
  have hr := B.returns
  have hts := atoms_spec (ws := .code yX8_hasRoom cX8_hasRoom 5 (some .boolean) :: GW) B.pre
  have hg : ∀ w ∈ GW, w.before (([.ref (a 0), .int p1, .int p2, .int p3] : List Value).toArray) s = true := fun w h => hts w (List.mem_cons_of_mem _ h)
  have hown : s.vm.findClass RX8 = some m.cls := findClass_of_methodNamed B.named
  have hlocks := B.notSynchronized
  subst hsz
  have hD := hD0.self (sz := s.heap.size)
  generalize hAe : va_A (W_Model cI a x) s.heap.size = A at hD hE ⊢
  have hA : ∀ q : Nat, s.heap.size ≤ q → A q := fun q h => by rw [← hAe]; exact Or.inr h
  have hS : va_S A s.heap s.heap [] := va_S.rf
  have hl := lv_entry ([.ref (a 0), .int p1, .int p2, .int p3]) (n := 5) (Nat.le_of_ble_eq_true rfl)
  rw [lg_entry_eq]
  generalize (lg_sl ([.ref (a 0), .int p1, .int p2, .int p3]) ++ List.replicate (5 - (lg_sl ([.ref (a 0), .int p1, .int p2, .int p3])).length) Slot.unset).toArray = ls at hl ⊢
  have hl : lv_has ls 5 [(0, .ref (a 0)), (1, .int p1), (2, .int p2), (3, .int p3)] := hl
  have M0 : ∀ (H : Heap) (locs : List Loc) (ls : Array Slot), fX8_hasRoom x p1 p2 p3 = some res → va_P D vwCl (W_Model cI a x) H → va_D A (W_Model cI a x) → va_S A s.heap H locs → lv_has ls 5 [(0, .ref (a 0)), (1, .int p1), (2, .int p2), (3, .int p3)] → W p l e ({ frames := 2, cells := 0, slots := 0, locals := 42 } : Room) s m ([.ref (a 0), .int p1, .int p2, .int p3] : List Value).toArray below meth c H locs 0 0 (MQ below (QW D (TY cI cV cJ cD) (W_Model cI a x) A (some (.int res))) (([.ref (a 0), .int p1, .int p2, .int p3] : List Value).toArray) s 0 0 A) (F0 m 0 ls []) := by
    intro H locs ls hf hP hD hS hl
    dsimp only [fX8_hasRoom] at hf
    refine lv_aload_n hx hb dX8_hasRoom_0 rfl (lv_at hl 0 rfl) ?_
    refine lv_iload_n hx hb dX8_hasRoom_1 rfl (lv_at hl 1 rfl) ?_
    obtain ⟨u1, hc2, hf⟩ := bind_t hf
    refine k_V (As := [.int p1]) (rest := []) (n := 1) ⟨hx, hb, hml, hown, hts⟩ (met_X8_typeNow l a x p1 u1 hc2) w912 w914 ws25 w9 w915 ⟨rfl, by decide +kernel, by decide +kernel, by decide +kernel⟩ ⟨Nat.le_of_ble_eq_true rfl, Nat.le_of_ble_eq_true rfl⟩ hK hE hP hD hS hA (isC := [0, 1, 2, 3, 4, 5, 6, 7, 8, 9, 10, 11, 12, 13, 14]) (isR := []) (isB := [0, 1, 2, 3, 4, 5, 6, 7, 8, 9, 10, 11, 12, 13, 14]) (ws' := W_Model cI a x) ⟨([] : List Nat).filterMap (fun i : Nat => (W_Model cI a x : va_W)[i]?), rfl, rfl, rfl, rfl, by decide, rfl, rfl⟩ 0 7 rfl rfl rfl rfl hl.1 rfl (Nat.le_of_ble_eq_true rfl) dX8_hasRoom_2 ⟨Nat.le_of_ble_eq_true rfl, Nat.le_of_ble_eq_true rfl⟩ (fun H locs hP hD hS => ?_)
    try dsimp only at hf
    refine W.eq (g2 := F0 m 5 ls [.int u1]) rfl ?_
    refine lv_istore (lv' := [(4, .int u1), (0, .ref (a 0)), (1, .int p1), (2, .int p2), (3, .int p3)]) hx hb dX8_hasRoom_5 hl (by decide) rfl (fun ls hl => ?_)
    refine lv_iload hx hb dX8_hasRoom_7 (lv_at hl 0 rfl) ?_
    refine lv_if_eq (tgt := 39) hx hb dX8_hasRoom_9 (by decide) (fun c3 => ?_) (fun c3 => ?_)
    · replace hf := if_t c3 hf
      refine lv_iconst (v := 1) hx hb dX8_hasRoom_39 (by decide) ?_
      refine lv_goto (tgt := 44) hx hb dX8_hasRoom_40 (by decide) ?_
      obtain rfl := Option.some.inj hf
      exact W.zret (v := 1) hx hb hr (by decide +kernel) (fun t ht hW => ⟨rfl, by rw [ht]; exact hP, va_K.moved hW.alike hK, hD, hS.F ht⟩) hS.2.2 dX8_hasRoom_44 hlocks
    · replace hf := if_f c3 hf
      refine lv_iload hx hb dX8_hasRoom_12 (lv_at hl 0 rfl) ?_
      refine lv_iload_n hx hb dX8_hasRoom_14 rfl (lv_at hl 3 rfl) ?_
      refine lv_icmp_ne (tgt := 43) hx hb dX8_hasRoom_15 (by decide) (fun c4 => ?_) (fun c4 => ?_)
      · replace hf := if_f c4 hf
        refine lv_iconst (v := 0) hx hb dX8_hasRoom_43 (by decide) ?_
        obtain rfl := Option.some.inj hf
        exact W.zret (v := 0) hx hb hr (by decide +kernel) (fun t ht hW => ⟨rfl, by rw [ht]; exact hP, va_K.moved hW.alike hK, hD, hS.F ht⟩) hS.2.2 dX8_hasRoom_44 hlocks
      · replace hf := if_t c4 hf
        refine lv_aload_n hx hb dX8_hasRoom_18 rfl (lv_at hl 1 rfl) ?_
        refine va_get (D := D) (ci := 7) (v := .ref (a 4)) (C := RX8) (T := TX8) (N := 24) hx hb hg in_X8 hown hK hP 0 rfl rfl 5 (by decide) (hg _ w830) (fun _ h9 => h9) rfl dX8_hasRoom_19 ?_
        refine lv_iload_n hx hb dX8_hasRoom_22 rfl (lv_at hl 2 rfl) ?_
        obtain ⟨hi5, hf⟩ := chk_t hf
        refine va_iald hx hb hK hP 4 0 rfl rfl (inb_in hi5) dX8_hasRoom_23 ?_
        refine lv_bipush (v := 40) hx hb dX8_hasRoom_24 (by decide) ?_
        refine lv_icmp_lt (tgt := 39) hx hb dX8_hasRoom_26 (by decide) (fun c6 => ?_) (fun c6 => ?_)
        · replace hf := if_t c6 hf
          refine lv_iconst (v := 1) hx hb dX8_hasRoom_39 (by decide) ?_
          refine lv_goto (tgt := 44) hx hb dX8_hasRoom_40 (by decide) ?_
          obtain rfl := Option.some.inj hf
          exact W.zret (v := 1) hx hb hr (by decide +kernel) (fun t ht hW => ⟨rfl, by rw [ht]; exact hP, va_K.moved hW.alike hK, hD, hS.F ht⟩) hS.2.2 dX8_hasRoom_44 hlocks
        · replace hf := if_f c6 hf
          refine lv_aload_n hx hb dX8_hasRoom_29 rfl (lv_at hl 1 rfl) ?_
          refine lv_iload_n hx hb dX8_hasRoom_30 rfl (lv_at hl 2 rfl) ?_
          refine lv_iload_n hx hb dX8_hasRoom_31 rfl (lv_at hl 4 rfl) ?_
          obtain ⟨u7, hc8, hf⟩ := bind_t hf
          refine k_V (As := [.int p1, .int p3]) (rest := []) (n := 2) ⟨hx, hb, hml, hown, hts⟩ (met_X8_find l a x p1 p3 u7 hc8) w975 w977 ws38 w9 w978 ⟨rfl, by decide +kernel, by decide +kernel, by decide +kernel⟩ ⟨Nat.le_of_ble_eq_true rfl, Nat.le_of_ble_eq_true rfl⟩ hK hE hP hD hS hA (isC := [0, 1, 2, 3, 4, 5, 6, 7, 8, 9, 10, 11, 12, 13, 14]) (isR := []) (isB := [0, 1, 2, 3, 4, 5, 6, 7, 8, 9, 10, 11, 12, 13, 14]) (ws' := W_Model cI a x) ⟨([] : List Nat).filterMap (fun i : Nat => (W_Model cI a x : va_W)[i]?), rfl, rfl, rfl, rfl, by decide, rfl, rfl⟩ 0 7 rfl rfl rfl rfl hl.1 rfl (Nat.le_of_ble_eq_true rfl) dX8_hasRoom_32 ⟨Nat.le_of_ble_eq_true rfl, Nat.le_of_ble_eq_true rfl⟩ (fun H locs hP hD hS => ?_)
          try dsimp only at hf
          refine W.eq (g2 := F0 m 35 ls [.int u7]) rfl ?_
          refine lv_iconst (v := (-1)) hx hb dX8_hasRoom_35 (by decide) ?_
          refine lv_icmp_eq (tgt := 43) hx hb dX8_hasRoom_36 (by decide) (fun c9 => ?_) (fun c9 => ?_)
          · replace hf := if_t c9 hf
            refine lv_iconst (v := 0) hx hb dX8_hasRoom_43 (by decide) ?_
            obtain rfl := Option.some.inj hf
            exact W.zret (v := 0) hx hb hr (by decide +kernel) (fun t ht hW => ⟨rfl, by rw [ht]; exact hP, va_K.moved hW.alike hK, hD, hS.F ht⟩) hS.2.2 dX8_hasRoom_44 hlocks
          · replace hf := if_f c9 hf
            refine lv_iconst (v := 1) hx hb dX8_hasRoom_39 (by decide) ?_
            refine lv_goto (tgt := 44) hx hb dX8_hasRoom_40 (by decide) ?_
            obtain rfl := Option.some.inj hf
            exact W.zret (v := 1) hx hb hr (by decide +kernel) (fun t ht hW => ⟨rfl, by rw [ht]; exact hP, va_K.moved hW.alike hK, hD, hS.F ht⟩) hS.2.2 dX8_hasRoom_44 hlocks
  exact M0 s.heap [] ls hf hP hD hS hl
/-! CompactformsModel.add(II)Z -/
def fX8_add_47 (x : MSt) (v1 : Int32) (v2 : Int32) (s0 : Int32) : Option (MSt × Int32) := (fX8_can x s0).bind (fun u1 => keep u1.1 (fun x3 => (if u1.2 = 0 then some (x3, 0) else keep (mWriting_s x3 (mRows x3)) (fun x5 => (fX8_adds x5 v1 v2).bind (fun u6 => keep u6.1 (fun x8 => keep u6.2 (fun y9 => (if y9 = 0 then chk (isB y9) (some (x8, y9)) else (fX8_writes x8 3 v1 v2 0 0).bind (fun u12 => keep u12 (fun x14 => chk (isB y9) (some (x14, y9))))))))))))
def fX8_add_46 (x : MSt) (v1 : Int32) (v2 : Int32) : Option (MSt × Int32) := fX8_add_47 x v1 v2 3
def fX8_add (x : MSt) (p1 : Int32) (p2 : Int32) : Option (MSt × Int32) := (fX8_isKey p1).bind (fun u16 => (if u16 = 0 then fX8_add_47 x p1 p2 1 else (fX8_isValue p2).bind (fun u19 => (if u19 = 0 then fX8_add_47 x p1 p2 2 else (fX8_hasRoom x p1 2 p2).bind (fun u22 => (if u22 = 0 then fX8_add_46 x p1 p2 else (fX8_isFull x).bind (fun u25 => (if u25 = 0 then fX8_add_47 x p1 p2 0 else fX8_add_46 x p1 p2))))))))
set_option maxHeartbeats 4000000 in
set_option maxRecDepth 100000 in
theorem met_X8_add {D : va_G} {cI cV cJ cD : ClassId} (l : Launch) (a : Nat → Nat) (x : MSt) (p1 : Int32) (p2 : Int32) (res : MSt × Int32) (hf : fX8_add x p1 p2 = some res) : MM l yX8_add cX8_add 5 (some .boolean) { frames := 3, cells := 0, slots := 0, locals := 67 } D (TY cI cV cJ cD) (W_Model cI a x) (W_Model cI a res.1) [.ref (a 0), .int p1, .int p2] (some (.int res.2)) := by
  intro sz
  refine Met.ofW (cc := cX8_add) (maxL := 5) (ret := (some .boolean)) (by decide +kernel) rfl ?_
  intro p e s m args below meth c s₁ B hml hv
  obtain ⟨rfl, hsz, hP, hK, hD0, hE⟩ := hv
  have hx := B.exec
  have hb := B.bytes
  have hr := B.returns
  have hts := atoms_spec (ws := .code yX8_add cX8_add 5 (some .boolean) :: GW) B.pre
  have hg : ∀ w ∈ GW, w.before (([.ref (a 0), .int p1, .int p2] : List Value).toArray) s = true := fun w h => hts w (List.mem_cons_of_mem _ h)
  have hown : s.vm.findClass RX8 = some m.cls := findClass_of_methodNamed B.named
  have hlocks := B.notSynchronized
  subst hsz
  have hD := hD0.self (sz := s.heap.size)
  generalize hAe : va_A (W_Model cI a x) s.heap.size = A at hD hE ⊢
  have hA : ∀ q : Nat, s.heap.size ≤ q → A q := fun q h => by rw [← hAe]; exact Or.inr h
  have hS : va_S A s.heap s.heap [] := va_S.rf
  have hl := lv_entry ([.ref (a 0), .int p1, .int p2]) (n := 5) (Nat.le_of_ble_eq_true rfl)
  rw [lg_entry_eq]
  generalize (lg_sl ([.ref (a 0), .int p1, .int p2]) ++ List.replicate (5 - (lg_sl ([.ref (a 0), .int p1, .int p2])).length) Slot.unset).toArray = ls at hl ⊢
  have hl : lv_has ls 5 [(0, .ref (a 0)), (1, .int p1), (2, .int p2)] := hl
  have L47 : ∀ (x : MSt) (v1 : Int32) (v2 : Int32) (s0 : Int32) (H : Heap) (locs : List Loc) (ls : Array Slot), fX8_add_47 x v1 v2 s0  = some res → va_P D vwCl (W_Model cI a x) H → va_D A (W_Model cI a x) → va_S A s.heap H locs → lv_has ls 5 [(0, .ref (a 0)), (1, .int v1), (2, .int v2)] → W p l e ({ frames := 3, cells := 0, slots := 0, locals := 67 } : Room) s m ([.ref (a 0), .int p1, .int p2] : List Value).toArray below meth c H locs 0 0 (MQ below (QW D (TY cI cV cJ cD) (W_Model cI a res.1) A (some (.int res.2))) (([.ref (a 0), .int p1, .int p2] : List Value).toArray) s 0 0 A) (F0 m 47 ls [.int s0, .ref (a 0)]) := by
    intro x v1 v2 s0 H locs ls hf hP hD hS hl
    dsimp only [fX8_add_47] at hf
    obtain ⟨u1, hc2, hf⟩ := bind_t hf
    refine k_V (As := [.int s0]) (rest := []) (n := 1) ⟨hx, hb, hml, hown, hts⟩ (met_X8_can l a x s0 u1 hc2) w927 w929 ws28 w9 w930 ⟨rfl, by decide +kernel, by decide +kernel, by decide +kernel⟩ ⟨Nat.le_of_ble_eq_true rfl, Nat.le_of_ble_eq_true rfl⟩ hK hE hP hD hS hA (isC := [0, 1, 2, 3, 4, 5, 6, 7, 8, 9, 10, 11, 12, 13, 14]) (isR := []) (isB := [0, 1, 2, 3, 4, 5, 6, 7, 8, 9, 10, 11, 12, 13, 14]) (ws' := W_Model cI a u1.1) ⟨([] : List Nat).filterMap (fun i : Nat => (W_Model cI a x : va_W)[i]?), rfl, rfl, rfl, rfl, by decide, rfl, rfl⟩ 0 7 rfl rfl rfl rfl hl.1 rfl (Nat.le_of_ble_eq_true rfl) dX8_add_47 ⟨Nat.le_of_ble_eq_true rfl, Nat.le_of_ble_eq_true rfl⟩ (fun H locs hP hD hS => ?_)
    try dsimp only at hf
    refine W.eq (g2 := F0 m 50 ls [.int u1.2]) rfl ?_
    obtain ⟨x3, hx3⟩ : ∃ z, z = u1.1 := ⟨_, rfl⟩
    replace hf := keep_e hf x3 hx3
    have hP : va_P D vwCl (W_Model cI a x3) H := by rw [hx3]; exact hP
    have hD : va_D A (W_Model cI a x3) := by rw [hx3]; exact hD
    refine lv_if_ne (tgt := 55) hx hb dX8_add_50 (by decide) (fun c4 => ?_) (fun c4 => ?_)
    · replace hf := if_f c4 hf
      refine lv_aload_n hx hb dX8_add_55 rfl (lv_at hl 0 rfl) ?_
      refine lv_aload_n hx hb dX8_add_56 rfl (lv_at hl 0 rfl) ?_
      refine va_get (D := D) (ci := 7) (v := .int (mRows x3)) (C := RX8) (T := TX8) (N := 24) hx hb hg in_X8 hown hK hP 0 rfl rfl 14 (by decide) (hg _ w839) (fun _ h9 => h9) rfl dX8_add_57 ?_
      refine va_put (D := D) (ci := 7) (v := .int (mRows x3)) (ty := .int) (C := RX8) (T := TX8) (N := 24) hx hb hg in_X8 tyX8 tyX8_ok nmX8 hown hK hP hD hS 0 rfl rfl 15 (by decide) (hg _ w840) (fun _ h9 => h9) rfl (by decide +kernel) rfl rfl (Nat.le_of_ble_eq_true rfl) dX8_add_60 (fun H locs hP hD hS => ?_)
      obtain ⟨x5, hx5⟩ : ∃ z, z = (mWriting_s x3 (mRows x3)) := ⟨_, rfl⟩
      replace hf := keep_e hf x5 hx5
      have hP : va_P D vwCl (W_Model cI a x5) H := by rw [hx5]; exact hP
      have hD : va_D A (W_Model cI a x5) := by rw [hx5]; exact hD
      refine lv_aload_n hx hb dX8_add_63 rfl (lv_at hl 0 rfl) ?_
      refine lv_iload_n hx hb dX8_add_64 rfl (lv_at hl 1 rfl) ?_
      refine lv_iload_n hx hb dX8_add_65 rfl (lv_at hl 2 rfl) ?_
      obtain ⟨u6, hc7, hf⟩ := bind_t hf
      refine k_V (As := [.int v1, .int v2]) (rest := []) (n := 2) ⟨hx, hb, hml, hown, hts⟩ (met_X8_adds l a x5 v1 v2 u6 hc7) w979 w981 ws39 w9 w982 ⟨rfl, by decide +kernel, by decide +kernel, by decide +kernel⟩ ⟨Nat.le_of_ble_eq_true rfl, Nat.le_of_ble_eq_true rfl⟩ hK hE hP hD hS hA (isC := [0, 1, 2, 3, 4, 5, 6, 7, 8, 9, 10, 11, 12, 13, 14]) (isR := []) (isB := [0, 1, 2, 3, 4, 5, 6, 7, 8, 9, 10, 11, 12, 13, 14]) (ws' := W_Model cI a u6.1) ⟨([] : List Nat).filterMap (fun i : Nat => (W_Model cI a x5 : va_W)[i]?), rfl, rfl, rfl, rfl, by decide, rfl, rfl⟩ 0 7 rfl rfl rfl rfl hl.1 rfl (Nat.le_of_ble_eq_true rfl) dX8_add_66 ⟨Nat.le_of_ble_eq_true rfl, Nat.le_of_ble_eq_true rfl⟩ (fun H locs hP hD hS => ?_)
      try dsimp only at hf
      refine W.eq (g2 := F0 m 69 ls [.int u6.2]) rfl ?_
      obtain ⟨x8, hx8⟩ : ∃ z, z = u6.1 := ⟨_, rfl⟩
      replace hf := keep_e hf x8 hx8
      have hP : va_P D vwCl (W_Model cI a x8) H := by rw [hx8]; exact hP
      have hD : va_D A (W_Model cI a x8) := by rw [hx8]; exact hD
      refine lv_topi (fun y9 hy9 => ?_)
      replace hf := keep_e hf y9 hy9
      refine lv_istore (lv' := [(4, .int y9), (0, .ref (a 0)), (1, .int v1), (2, .int v2)]) hx hb dX8_add_69 hl (by decide) rfl (fun ls hl => ?_)
      refine lv_iload hx hb dX8_add_71 (lv_at hl 0 rfl) ?_
      refine lv_if_eq (tgt := 85) hx hb dX8_add_73 (by decide) (fun c10 => ?_) (fun c10 => ?_)
      · replace hf := if_t c10 hf
        refine lv_iload hx hb dX8_add_85 (lv_at hl 0 rfl) ?_
        obtain ⟨hz11, hf⟩ := chk_t hf
        obtain rfl := Option.some.inj hf
        exact W.zret (v := y9) hx hb hr (isB_narrow hz11) (fun t ht hW => ⟨rfl, by rw [ht]; exact hP, va_K.moved hW.alike hK, hD, hS.F ht⟩) hS.2.2 dX8_add_87 hlocks
      · replace hf := if_f c10 hf
        refine lv_aload_n hx hb dX8_add_76 rfl (lv_at hl 1 rfl) ?_
        refine lv_iconst (v := 3) hx hb dX8_add_77 (by decide) ?_
        refine lv_iload_n hx hb dX8_add_78 rfl (lv_at hl 2 rfl) ?_
        refine lv_iload_n hx hb dX8_add_79 rfl (lv_at hl 3 rfl) ?_
        refine lv_iconst (v := 0) hx hb dX8_add_80 (by decide) ?_
        refine lv_iconst (v := 0) hx hb dX8_add_81 (by decide) ?_
        obtain ⟨u12, hc13, hf⟩ := bind_t hf
        refine k_V (As := [.int 3, .int v1, .int v2, .int 0, .int 0]) (rest := []) (n := 5) ⟨hx, hb, hml, hown, hts⟩ (met_X8_writes l a x8 3 v1 v2 0 0 u12 hc13) w947 w949 ws33 w9 w950 ⟨rfl, by decide +kernel, by decide +kernel, by decide +kernel⟩ ⟨Nat.le_of_ble_eq_true rfl, Nat.le_of_ble_eq_true rfl⟩ hK hE hP hD hS hA (isC := [0, 1, 2, 3, 4, 5, 6, 7, 8, 9, 10, 11, 12, 13, 14]) (isR := []) (isB := [0, 1, 2, 3, 4, 5, 6, 7, 8, 9, 10, 11, 12, 13, 14]) (ws' := W_Model cI a u12) ⟨([] : List Nat).filterMap (fun i : Nat => (W_Model cI a x8 : va_W)[i]?), rfl, rfl, rfl, rfl, by decide, rfl, rfl⟩ 0 7 rfl rfl rfl rfl hl.1 rfl (Nat.le_of_ble_eq_true rfl) dX8_add_82 ⟨Nat.le_of_ble_eq_true rfl, Nat.le_of_ble_eq_true rfl⟩ (fun H locs hP hD hS => ?_)
        try dsimp only at hf
        refine W.eq (g2 := F0 m 85 ls []) rfl ?_
        obtain ⟨x14, hx14⟩ : ∃ z, z = u12 := ⟨_, rfl⟩
        replace hf := keep_e hf x14 hx14
        have hP : va_P D vwCl (W_Model cI a x14) H := by rw [hx14]; exact hP
        have hD : va_D A (W_Model cI a x14) := by rw [hx14]; exact hD
        refine lv_iload hx hb dX8_add_85 (lv_at hl 0 rfl) ?_
        obtain ⟨hz15, hf⟩ := chk_t hf
        obtain rfl := Option.some.inj hf
        exact W.zret (v := y9) hx hb hr (isB_narrow hz15) (fun t ht hW => ⟨rfl, by rw [ht]; exact hP, va_K.moved hW.alike hK, hD, hS.F ht⟩) hS.2.2 dX8_add_87 hlocks
    · replace hf := if_t c4 hf
      refine lv_iconst (v := 0) hx hb dX8_add_53 (by decide) ?_
      obtain rfl := Option.some.inj hf
      exact W.zret (v := 0) hx hb hr (by decide +kernel) (fun t ht hW => ⟨rfl, by rw [ht]; exact hP, va_K.moved hW.alike hK, hD, hS.F ht⟩) hS.2.2 dX8_add_54 hlocks
  have L46 : ∀ (x : MSt) (v1 : Int32) (v2 : Int32) (H : Heap) (locs : List Loc) (ls : Array Slot), fX8_add_46 x v1 v2  = some res → va_P D vwCl (W_Model cI a x) H → va_D A (W_Model cI a x) → va_S A s.heap H locs → lv_has ls 5 [(0, .ref (a 0)), (1, .int v1), (2, .int v2)] → W p l e ({ frames := 3, cells := 0, slots := 0, locals := 67 } : Room) s m ([.ref (a 0), .int p1, .int p2] : List Value).toArray below meth c H locs 0 0 (MQ below (QW D (TY cI cV cJ cD) (W_Model cI a res.1) A (some (.int res.2))) (([.ref (a 0), .int p1, .int p2] : List Value).toArray) s 0 0 A) (F0 m 46 ls [.ref (a 0)]) := by
    intro x v1 v2 H locs ls hf hP hD hS hl
    dsimp only [fX8_add_46] at hf
    refine lv_iconst (v := 3) hx hb dX8_add_46 (by decide) ?_
    exact L47 x v1 v2 3 H locs ls hf hP hD hS (lv_sub hl [0, 1, 2] rfl)
  have M0 : ∀ (H : Heap) (locs : List Loc) (ls : Array Slot), fX8_add x p1 p2 = some res → va_P D vwCl (W_Model cI a x) H → va_D A (W_Model cI a x) → va_S A s.heap H locs → lv_has ls 5 [(0, .ref (a 0)), (1, .int p1), (2, .int p2)] → W p l e ({ frames := 3, cells := 0, slots := 0, locals := 67 } : Room) s m ([.ref (a 0), .int p1, .int p2] : List Value).toArray below meth c H locs 0 0 (MQ below (QW D (TY cI cV cJ cD) (W_Model cI a res.1) A (some (.int res.2))) (([.ref (a 0), .int p1, .int p2] : List Value).toArray) s 0 0 A) (F0 m 0 ls []) := by
    intro H locs ls hf hP hD hS hl
    dsimp only [fX8_add] at hf
    refine lv_iload_n hx hb dX8_add_0 rfl (lv_at hl 1 rfl) ?_
    obtain ⟨u16, hc17, hf⟩ := bind_t hf
    refine k_S (As := [.int p1]) (rest := []) (n := 1) ⟨hx, hb, hml, hown, hts⟩ (met_X8_isKey l p1 u16 hc17) w906 w907 w9 w908 ⟨by decide +kernel, by decide +kernel, by decide +kernel⟩ ⟨Nat.le_of_ble_eq_true rfl, Nat.le_of_ble_eq_true rfl⟩ hK hE hP hD hS hA (isC := []) (isR := [0, 1, 2, 3, 4, 5, 6, 7, 8, 9, 10, 11, 12, 13, 14]) (isB := [0, 1, 2, 3, 4, 5, 6, 7, 8, 9, 10, 11, 12, 13, 14]) (ws' := W_Model cI a x) ⟨([0, 1, 2, 3, 4, 5, 6, 7, 8, 9, 10, 11, 12, 13, 14] : List Nat).filterMap (fun i : Nat => (W_Model cI a x : va_W)[i]?), rfl, rfl, rfl, rfl, by decide, rfl, rfl⟩ rfl hl.1 rfl (Nat.le_of_ble_eq_true rfl) dX8_add_1 ⟨Nat.le_of_ble_eq_true rfl, Nat.le_of_ble_eq_true rfl⟩ (fun H locs hP hD hS => ?_)
    try dsimp only at hf
    refine W.eq (g2 := F0 m 4 ls [.int u16]) rfl ?_
    refine lv_istore_n (lv' := [(3, .int u16), (0, .ref (a 0)), (1, .int p1), (2, .int p2)]) hx hb dX8_add_4 rfl hl (by decide) rfl (fun ls hl => ?_)
    refine lv_aload_n hx hb dX8_add_5 rfl (lv_at hl 1 rfl) ?_
    refine lv_iload_n hx hb dX8_add_6 rfl (lv_at hl 0 rfl) ?_
    refine lv_if_ne (tgt := 14) hx hb dX8_add_7 (by decide) (fun c18 => ?_) (fun c18 => ?_)
    · replace hf := if_f c18 hf
      refine lv_iload_n hx hb dX8_add_14 rfl (lv_at hl 3 rfl) ?_
      obtain ⟨u19, hc20, hf⟩ := bind_t hf
      refine k_S (As := [.int p2]) (rest := [.ref (a 0)]) (n := 1) ⟨hx, hb, hml, hown, hts⟩ (met_X8_isValue l p2 u19 hc20) w920 w921 w9 w922 ⟨by decide +kernel, by decide +kernel, by decide +kernel⟩ ⟨Nat.le_of_ble_eq_true rfl, Nat.le_of_ble_eq_true rfl⟩ hK hE hP hD hS hA (isC := []) (isR := [0, 1, 2, 3, 4, 5, 6, 7, 8, 9, 10, 11, 12, 13, 14]) (isB := [0, 1, 2, 3, 4, 5, 6, 7, 8, 9, 10, 11, 12, 13, 14]) (ws' := W_Model cI a x) ⟨([0, 1, 2, 3, 4, 5, 6, 7, 8, 9, 10, 11, 12, 13, 14] : List Nat).filterMap (fun i : Nat => (W_Model cI a x : va_W)[i]?), rfl, rfl, rfl, rfl, by decide, rfl, rfl⟩ rfl hl.1 rfl (Nat.le_of_ble_eq_true rfl) dX8_add_15 ⟨Nat.le_of_ble_eq_true rfl, Nat.le_of_ble_eq_true rfl⟩ (fun H locs hP hD hS => ?_)
      try dsimp only at hf
      refine W.eq (g2 := F0 m 18 ls [.int u19, .ref (a 0)]) rfl ?_
      refine lv_if_ne (tgt := 25) hx hb dX8_add_18 (by decide) (fun c21 => ?_) (fun c21 => ?_)
      · replace hf := if_f c21 hf
        refine lv_aload_n hx hb dX8_add_25 rfl (lv_at hl 1 rfl) ?_
        refine lv_iload_n hx hb dX8_add_26 rfl (lv_at hl 2 rfl) ?_
        refine lv_iconst (v := 2) hx hb dX8_add_27 (by decide) ?_
        refine lv_iload_n hx hb dX8_add_28 rfl (lv_at hl 3 rfl) ?_
        obtain ⟨u22, hc23, hf⟩ := bind_t hf
        refine k_V (As := [.int p1, .int 2, .int p2]) (rest := [.ref (a 0)]) (n := 3) ⟨hx, hb, hml, hown, hts⟩ (met_X8_hasRoom l a x p1 2 p2 u22 hc23) w971 w973 ws37 w9 w974 ⟨rfl, by decide +kernel, by decide +kernel, by decide +kernel⟩ ⟨Nat.le_of_ble_eq_true rfl, Nat.le_of_ble_eq_true rfl⟩ hK hE hP hD hS hA (isC := [0, 1, 2, 3, 4, 5, 6, 7, 8, 9, 10, 11, 12, 13, 14]) (isR := []) (isB := [0, 1, 2, 3, 4, 5, 6, 7, 8, 9, 10, 11, 12, 13, 14]) (ws' := W_Model cI a x) ⟨([] : List Nat).filterMap (fun i : Nat => (W_Model cI a x : va_W)[i]?), rfl, rfl, rfl, rfl, by decide, rfl, rfl⟩ 0 7 rfl rfl rfl rfl hl.1 rfl (Nat.le_of_ble_eq_true rfl) dX8_add_29 ⟨Nat.le_of_ble_eq_true rfl, Nat.le_of_ble_eq_true rfl⟩ (fun H locs hP hD hS => ?_)
        try dsimp only at hf
        refine W.eq (g2 := F0 m 32 ls [.int u22, .ref (a 0)]) rfl ?_
        refine lv_if_eq (tgt := 46) hx hb dX8_add_32 (by decide) (fun c24 => ?_) (fun c24 => ?_)
        · replace hf := if_t c24 hf
          exact L46 x p1 p2 H locs ls hf hP hD hS (lv_sub hl [1, 2, 3] rfl)
        · replace hf := if_f c24 hf
          refine lv_aload_n hx hb dX8_add_35 rfl (lv_at hl 1 rfl) ?_
          obtain ⟨u25, hc26, hf⟩ := bind_t hf
          refine k_V (As := []) (rest := [.ref (a 0)]) (n := 0) ⟨hx, hb, hml, hown, hts⟩ (met_X8_isFull l a x u25 hc26) w923 w925 ws27 w9 w926 ⟨rfl, by decide +kernel, by decide +kernel, by decide +kernel⟩ ⟨Nat.le_of_ble_eq_true rfl, Nat.le_of_ble_eq_true rfl⟩ hK hE hP hD hS hA (isC := [0, 1, 2, 3, 4, 5, 6, 7, 8, 9, 10, 11, 12, 13, 14]) (isR := []) (isB := [0, 1, 2, 3, 4, 5, 6, 7, 8, 9, 10, 11, 12, 13, 14]) (ws' := W_Model cI a x) ⟨([] : List Nat).filterMap (fun i : Nat => (W_Model cI a x : va_W)[i]?), rfl, rfl, rfl, rfl, by decide, rfl, rfl⟩ 0 7 rfl rfl rfl rfl hl.1 rfl (Nat.le_of_ble_eq_true rfl) dX8_add_36 ⟨Nat.le_of_ble_eq_true rfl, Nat.le_of_ble_eq_true rfl⟩ (fun H locs hP hD hS => ?_)
          try dsimp only at hf
          refine W.eq (g2 := F0 m 39 ls [.int u25, .ref (a 0)]) rfl ?_
          refine lv_if_ne (tgt := 46) hx hb dX8_add_39 (by decide) (fun c27 => ?_) (fun c27 => ?_)
          · replace hf := if_f c27 hf
            exact L46 x p1 p2 H locs ls hf hP hD hS (lv_sub hl [1, 2, 3] rfl)
          · replace hf := if_t c27 hf
            refine lv_iconst (v := 0) hx hb dX8_add_42 (by decide) ?_
            refine lv_goto (tgt := 47) hx hb dX8_add_43 (by decide) ?_
            exact L47 x p1 p2 0 H locs ls hf hP hD hS (lv_sub hl [1, 2, 3] rfl)
      · replace hf := if_t c21 hf
        refine lv_iconst (v := 2) hx hb dX8_add_21 (by decide) ?_
        refine lv_goto (tgt := 47) hx hb dX8_add_22 (by decide) ?_
        exact L47 x p1 p2 2 H locs ls hf hP hD hS (lv_sub hl [1, 2, 3] rfl)
    · replace hf := if_t c18 hf
      refine lv_iconst (v := 1) hx hb dX8_add_10 (by decide) ?_
      refine lv_goto (tgt := 47) hx hb dX8_add_11 (by decide) ?_
      exact L47 x p1 p2 1 H locs ls hf hP hD hS (lv_sub hl [1, 2, 3] rfl)
  exact M0 s.heap [] ls hf hP hD hS hl
/-! CompactformsModel.take(II)Z -/
def fX8_take_71 (x : MSt) (v1 : Int32) (v2 : Int32) (s0 : Int32) : Option (MSt × Int32) := (fX8_can x s0).bind (fun u1 => keep u1.1 (fun x3 => (if u1.2 = 0 then some (x3, 0) else (fX8_takes x3 v1 v2).bind (fun u5 => keep u5.1 (fun x7 => keep u5.2 (fun y8 => (if y8 = 0 then chk (isB y8) (some (x7, y8)) else (fX8_writes x7 4 v1 v2 0 0).bind (fun u11 => keep u11 (fun x13 => chk (isB y8) (some (x13, y8)))))))))))
def fX8_take_39 (x : MSt) (v1 : Int32) (v2 : Int32) (v3 : Int32) (s0 : Int32) : Option (MSt × Int32) := (if v3 = 0 then fX8_take_71 x v1 v2 1 else (fX8_isValue v2).bind (fun u16 => (if u16 = 0 then fX8_take_71 x v1 v2 2 else (if s0 = 0 then fX8_take_71 x v1 v2 3 else fX8_take_71 x v1 v2 0))))
def fX8_take_38 (x : MSt) (v1 : Int32) (v2 : Int32) (v3 : Int32) : Option (MSt × Int32) := fX8_take_39 x v1 v2 v3 0
def fX8_take_27 (x : MSt) (v1 : Int32) (v2 : Int32) (v3 : Int32) : Option (MSt × Int32) := (fX8_isFull x).bind (fun u20 => (if u20 = 0 then fX8_take_39 x v1 v2 v3 1 else fX8_take_38 x v1 v2 v3))
def fX8_take (x : MSt) (p1 : Int32) (p2 : Int32) : Option (MSt × Int32) := (fX8_isKey p1).bind (fun u23 => (if u23 = 0 then fX8_take_38 x p1 p2 u23 else (fX8_typeNow x p1).bind (fun u26 => (if u26 = 2 then fX8_take_27 x p1 p2 u23 else (fX8_typeNow x p1).bind (fun u29 => (if u29 = 3 then fX8_take_27 x p1 p2 u23 else fX8_take_38 x p1 p2 u23))))))
set_option maxHeartbeats 4000000 in
set_option maxRecDepth 100000 in
theorem met_X8_take {D : va_G} {cI cV cJ cD : ClassId} (l : Launch) (a : Nat → Nat) (x : MSt) (p1 : Int32) (p2 : Int32) (res : MSt × Int32) (hf : fX8_take x p1 p2 = some res) : MM l yX8_take cX8_take 6 (some .boolean) { frames := 2, cells := 0, slots := 0, locals := 47 } D (TY cI cV cJ cD) (W_Model cI a x) (W_Model cI a res.1) [.ref (a 0), .int p1, .int p2] (some (.int res.2)) := by
  intro sz
  refine Met.ofW (cc := cX8_take) (maxL := 6) (ret := (some .boolean)) (by decide +kernel) rfl ?_
  intro p e s m args below meth c s₁ B hml hv
  obtain ⟨rfl, hsz, hP, hK, hD0, hE⟩ := hv
  have hx := B.exec
  have hb := B.bytes
  have hr := B.returns
  have hts := atoms_spec (ws := .code yX8_take cX8_take 6 (some .boolean) :: GW) B.pre
  have hg : ∀ w ∈ GW, w.before (([.ref (a 0), .int p1, .int p2] : List Value).toArray) s = true := fun w h => hts w (List.mem_cons_of_mem _ h)
  have hown : s.vm.findClass RX8 = some m.cls := findClass_of_methodNamed B.named
  have hlocks := B.notSynchronized
  subst hsz
  have hD := hD0.self (sz := s.heap.size)
  generalize hAe : va_A (W_Model cI a x) s.heap.size = A at hD hE ⊢
  have hA : ∀ q : Nat, s.heap.size ≤ q → A q := fun q h => by rw [← hAe]; exact Or.inr h
  have hS : va_S A s.heap s.heap [] := va_S.rf
  have hl := lv_entry ([.ref (a 0), .int p1, .int p2]) (n := 6) (Nat.le_of_ble_eq_true rfl)
  rw [lg_entry_eq]
  generalize (lg_sl ([.ref (a 0), .int p1, .int p2]) ++ List.replicate (6 - (lg_sl ([.ref (a 0), .int p1, .int p2])).length) Slot.unset).toArray = ls at hl ⊢
  have hl : lv_has ls 6 [(0, .ref (a 0)), (1, .int p1), (2, .int p2)] := hl
  have L71 : ∀ (x : MSt) (v1 : Int32) (v2 : Int32) (s0 : Int32) (H : Heap) (locs : List Loc) (ls : Array Slot), fX8_take_71 x v1 v2 s0  = some res → va_P D vwCl (W_Model cI a x) H → va_D A (W_Model cI a x) → va_S A s.heap H locs → lv_has ls 6 [(0, .ref (a 0)), (1, .int v1), (2, .int v2)] → W p l e ({ frames := 2, cells := 0, slots := 0, locals := 47 } : Room) s m ([.ref (a 0), .int p1, .int p2] : List Value).toArray below meth c H locs 0 0 (MQ below (QW D (TY cI cV cJ cD) (W_Model cI a res.1) A (some (.int res.2))) (([.ref (a 0), .int p1, .int p2] : List Value).toArray) s 0 0 A) (F0 m 71 ls [.int s0, .ref (a 0)]) := by
    intro x v1 v2 s0 H locs ls hf hP hD hS hl
    dsimp only [fX8_take_71] at hf
    obtain ⟨u1, hc2, hf⟩ := bind_t hf
    refine k_V (As := [.int s0]) (rest := []) (n := 1) ⟨hx, hb, hml, hown, hts⟩ (met_X8_can l a x s0 u1 hc2) w927 w929 ws28 w9 w930 ⟨rfl, by decide +kernel, by decide +kernel, by decide +kernel⟩ ⟨Nat.le_of_ble_eq_true rfl, Nat.le_of_ble_eq_true rfl⟩ hK hE hP hD hS hA (isC := [0, 1, 2, 3, 4, 5, 6, 7, 8, 9, 10, 11, 12, 13, 14]) (isR := []) (isB := [0, 1, 2, 3, 4, 5, 6, 7, 8, 9, 10, 11, 12, 13, 14]) (ws' := W_Model cI a u1.1) ⟨([] : List Nat).filterMap (fun i : Nat => (W_Model cI a x : va_W)[i]?), rfl, rfl, rfl, rfl, by decide, rfl, rfl⟩ 0 7 rfl rfl rfl rfl hl.1 rfl (Nat.le_of_ble_eq_true rfl) dX8_take_71 ⟨Nat.le_of_ble_eq_true rfl, Nat.le_of_ble_eq_true rfl⟩ (fun H locs hP hD hS => ?_)
    try dsimp only at hf
    refine W.eq (g2 := F0 m 74 ls [.int u1.2]) rfl ?_
    obtain ⟨x3, hx3⟩ : ∃ z, z = u1.1 := ⟨_, rfl⟩
    replace hf := keep_e hf x3 hx3
    have hP : va_P D vwCl (W_Model cI a x3) H := by rw [hx3]; exact hP
    have hD : va_D A (W_Model cI a x3) := by rw [hx3]; exact hD
    refine lv_if_ne (tgt := 79) hx hb dX8_take_74 (by decide) (fun c4 => ?_) (fun c4 => ?_)
    · replace hf := if_f c4 hf
      refine lv_aload_n hx hb dX8_take_79 rfl (lv_at hl 0 rfl) ?_
      refine lv_iload_n hx hb dX8_take_80 rfl (lv_at hl 1 rfl) ?_
      refine lv_iload_n hx hb dX8_take_81 rfl (lv_at hl 2 rfl) ?_
      obtain ⟨u5, hc6, hf⟩ := bind_t hf
      refine k_V (As := [.int v1, .int v2]) (rest := []) (n := 2) ⟨hx, hb, hml, hown, hts⟩ (met_X8_takes l a x3 v1 v2 u5 hc6) w987 w989 ws40 w9 w990 ⟨rfl, by decide +kernel, by decide +kernel, by decide +kernel⟩ ⟨Nat.le_of_ble_eq_true rfl, Nat.le_of_ble_eq_true rfl⟩ hK hE hP hD hS hA (isC := [0, 1, 2, 3, 4, 5, 6, 7, 8, 9, 10, 11, 12, 13, 14]) (isR := []) (isB := [0, 1, 2, 3, 4, 5, 6, 7, 8, 9, 10, 11, 12, 13, 14]) (ws' := W_Model cI a u5.1) ⟨([] : List Nat).filterMap (fun i : Nat => (W_Model cI a x3 : va_W)[i]?), rfl, rfl, rfl, rfl, by decide, rfl, rfl⟩ 0 7 rfl rfl rfl rfl hl.1 rfl (Nat.le_of_ble_eq_true rfl) dX8_take_82 ⟨Nat.le_of_ble_eq_true rfl, Nat.le_of_ble_eq_true rfl⟩ (fun H locs hP hD hS => ?_)
      try dsimp only at hf
      refine W.eq (g2 := F0 m 85 ls [.int u5.2]) rfl ?_
      obtain ⟨x7, hx7⟩ : ∃ z, z = u5.1 := ⟨_, rfl⟩
      replace hf := keep_e hf x7 hx7
      have hP : va_P D vwCl (W_Model cI a x7) H := by rw [hx7]; exact hP
      have hD : va_D A (W_Model cI a x7) := by rw [hx7]; exact hD
      refine lv_topi (fun y8 hy8 => ?_)
      replace hf := keep_e hf y8 hy8
      refine lv_istore (lv' := [(5, .int y8), (0, .ref (a 0)), (1, .int v1), (2, .int v2)]) hx hb dX8_take_85 hl (by decide) rfl (fun ls hl => ?_)
      refine lv_iload hx hb dX8_take_87 (lv_at hl 0 rfl) ?_
      refine lv_if_eq (tgt := 101) hx hb dX8_take_89 (by decide) (fun c9 => ?_) (fun c9 => ?_)
      · replace hf := if_t c9 hf
        refine lv_iload hx hb dX8_take_101 (lv_at hl 0 rfl) ?_
        obtain ⟨hz10, hf⟩ := chk_t hf
        obtain rfl := Option.some.inj hf
        exact W.zret (v := y8) hx hb hr (isB_narrow hz10) (fun t ht hW => ⟨rfl, by rw [ht]; exact hP, va_K.moved hW.alike hK, hD, hS.F ht⟩) hS.2.2 dX8_take_103 hlocks
      · replace hf := if_f c9 hf
        refine lv_aload_n hx hb dX8_take_92 rfl (lv_at hl 1 rfl) ?_
        refine lv_iconst (v := 4) hx hb dX8_take_93 (by decide) ?_
        refine lv_iload_n hx hb dX8_take_94 rfl (lv_at hl 2 rfl) ?_
        refine lv_iload_n hx hb dX8_take_95 rfl (lv_at hl 3 rfl) ?_
        refine lv_iconst (v := 0) hx hb dX8_take_96 (by decide) ?_
        refine lv_iconst (v := 0) hx hb dX8_take_97 (by decide) ?_
        obtain ⟨u11, hc12, hf⟩ := bind_t hf
        refine k_V (As := [.int 4, .int v1, .int v2, .int 0, .int 0]) (rest := []) (n := 5) ⟨hx, hb, hml, hown, hts⟩ (met_X8_writes l a x7 4 v1 v2 0 0 u11 hc12) w947 w949 ws33 w9 w950 ⟨rfl, by decide +kernel, by decide +kernel, by decide +kernel⟩ ⟨Nat.le_of_ble_eq_true rfl, Nat.le_of_ble_eq_true rfl⟩ hK hE hP hD hS hA (isC := [0, 1, 2, 3, 4, 5, 6, 7, 8, 9, 10, 11, 12, 13, 14]) (isR := []) (isB := [0, 1, 2, 3, 4, 5, 6, 7, 8, 9, 10, 11, 12, 13, 14]) (ws' := W_Model cI a u11) ⟨([] : List Nat).filterMap (fun i : Nat => (W_Model cI a x7 : va_W)[i]?), rfl, rfl, rfl, rfl, by decide, rfl, rfl⟩ 0 7 rfl rfl rfl rfl hl.1 rfl (Nat.le_of_ble_eq_true rfl) dX8_take_98 ⟨Nat.le_of_ble_eq_true rfl, Nat.le_of_ble_eq_true rfl⟩ (fun H locs hP hD hS => ?_)
        try dsimp only at hf
        refine W.eq (g2 := F0 m 101 ls []) rfl ?_
        obtain ⟨x13, hx13⟩ : ∃ z, z = u11 := ⟨_, rfl⟩
        replace hf := keep_e hf x13 hx13
        have hP : va_P D vwCl (W_Model cI a x13) H := by rw [hx13]; exact hP
        have hD : va_D A (W_Model cI a x13) := by rw [hx13]; exact hD
        refine lv_iload hx hb dX8_take_101 (lv_at hl 0 rfl) ?_
        obtain ⟨hz14, hf⟩ := chk_t hf
        obtain rfl := Option.some.inj hf
        exact W.zret (v := y8) hx hb hr (isB_narrow hz14) (fun t ht hW => ⟨rfl, by rw [ht]; exact hP, va_K.moved hW.alike hK, hD, hS.F ht⟩) hS.2.2 dX8_take_103 hlocks
    · replace hf := if_t c4 hf
      refine lv_iconst (v := 0) hx hb dX8_take_77 (by decide) ?_
      obtain rfl := Option.some.inj hf
      exact W.zret (v := 0) hx hb hr (by decide +kernel) (fun t ht hW => ⟨rfl, by rw [ht]; exact hP, va_K.moved hW.alike hK, hD, hS.F ht⟩) hS.2.2 dX8_take_78 hlocks
  have L39 : ∀ (x : MSt) (v1 : Int32) (v2 : Int32) (v3 : Int32) (s0 : Int32) (H : Heap) (locs : List Loc) (ls : Array Slot), fX8_take_39 x v1 v2 v3 s0  = some res → va_P D vwCl (W_Model cI a x) H → va_D A (W_Model cI a x) → va_S A s.heap H locs → lv_has ls 6 [(0, .ref (a 0)), (1, .int v1), (2, .int v2), (3, .int v3)] → W p l e ({ frames := 2, cells := 0, slots := 0, locals := 47 } : Room) s m ([.ref (a 0), .int p1, .int p2] : List Value).toArray below meth c H locs 0 0 (MQ below (QW D (TY cI cV cJ cD) (W_Model cI a res.1) A (some (.int res.2))) (([.ref (a 0), .int p1, .int p2] : List Value).toArray) s 0 0 A) (F0 m 39 ls [.int s0]) := by
    intro x v1 v2 v3 s0 H locs ls hf hP hD hS hl
    dsimp only [fX8_take_39] at hf
    refine lv_istore (lv' := [(4, .int s0), (0, .ref (a 0)), (1, .int v1), (2, .int v2), (3, .int v3)]) hx hb dX8_take_39 hl (by decide) rfl (fun ls hl => ?_)
    refine lv_aload_n hx hb dX8_take_41 rfl (lv_at hl 1 rfl) ?_
    refine lv_iload_n hx hb dX8_take_42 rfl (lv_at hl 4 rfl) ?_
    refine lv_if_ne (tgt := 50) hx hb dX8_take_43 (by decide) (fun c15 => ?_) (fun c15 => ?_)
    · replace hf := if_f c15 hf
      refine lv_iload_n hx hb dX8_take_50 rfl (lv_at hl 3 rfl) ?_
      obtain ⟨u16, hc17, hf⟩ := bind_t hf
      refine k_S (As := [.int v2]) (rest := [.ref (a 0)]) (n := 1) ⟨hx, hb, hml, hown, hts⟩ (met_X8_isValue l v2 u16 hc17) w920 w921 w9 w922 ⟨by decide +kernel, by decide +kernel, by decide +kernel⟩ ⟨Nat.le_of_ble_eq_true rfl, Nat.le_of_ble_eq_true rfl⟩ hK hE hP hD hS hA (isC := []) (isR := [0, 1, 2, 3, 4, 5, 6, 7, 8, 9, 10, 11, 12, 13, 14]) (isB := [0, 1, 2, 3, 4, 5, 6, 7, 8, 9, 10, 11, 12, 13, 14]) (ws' := W_Model cI a x) ⟨([0, 1, 2, 3, 4, 5, 6, 7, 8, 9, 10, 11, 12, 13, 14] : List Nat).filterMap (fun i : Nat => (W_Model cI a x : va_W)[i]?), rfl, rfl, rfl, rfl, by decide, rfl, rfl⟩ rfl hl.1 rfl (Nat.le_of_ble_eq_true rfl) dX8_take_51 ⟨Nat.le_of_ble_eq_true rfl, Nat.le_of_ble_eq_true rfl⟩ (fun H locs hP hD hS => ?_)
      try dsimp only at hf
      refine W.eq (g2 := F0 m 54 ls [.int u16, .ref (a 0)]) rfl ?_
      refine lv_if_ne (tgt := 61) hx hb dX8_take_54 (by decide) (fun c18 => ?_) (fun c18 => ?_)
      · replace hf := if_f c18 hf
        refine lv_iload hx hb dX8_take_61 (lv_at hl 0 rfl) ?_
        refine lv_if_eq (tgt := 70) hx hb dX8_take_63 (by decide) (fun c19 => ?_) (fun c19 => ?_)
        · replace hf := if_t c19 hf
          refine lv_iconst (v := 3) hx hb dX8_take_70 (by decide) ?_
          exact L71 x v1 v2 3 H locs ls hf hP hD hS (lv_sub hl [1, 2, 3] rfl)
        · replace hf := if_f c19 hf
          refine lv_iconst (v := 0) hx hb dX8_take_66 (by decide) ?_
          refine lv_goto (tgt := 71) hx hb dX8_take_67 (by decide) ?_
          exact L71 x v1 v2 0 H locs ls hf hP hD hS (lv_sub hl [1, 2, 3] rfl)
      · replace hf := if_t c18 hf
        refine lv_iconst (v := 2) hx hb dX8_take_57 (by decide) ?_
        refine lv_goto (tgt := 71) hx hb dX8_take_58 (by decide) ?_
        exact L71 x v1 v2 2 H locs ls hf hP hD hS (lv_sub hl [1, 2, 3] rfl)
    · replace hf := if_t c15 hf
      refine lv_iconst (v := 1) hx hb dX8_take_46 (by decide) ?_
      refine lv_goto (tgt := 71) hx hb dX8_take_47 (by decide) ?_
      exact L71 x v1 v2 1 H locs ls hf hP hD hS (lv_sub hl [1, 2, 3] rfl)
  have L38 : ∀ (x : MSt) (v1 : Int32) (v2 : Int32) (v3 : Int32) (H : Heap) (locs : List Loc) (ls : Array Slot), fX8_take_38 x v1 v2 v3  = some res → va_P D vwCl (W_Model cI a x) H → va_D A (W_Model cI a x) → va_S A s.heap H locs → lv_has ls 6 [(0, .ref (a 0)), (1, .int v1), (2, .int v2), (3, .int v3)] → W p l e ({ frames := 2, cells := 0, slots := 0, locals := 47 } : Room) s m ([.ref (a 0), .int p1, .int p2] : List Value).toArray below meth c H locs 0 0 (MQ below (QW D (TY cI cV cJ cD) (W_Model cI a res.1) A (some (.int res.2))) (([.ref (a 0), .int p1, .int p2] : List Value).toArray) s 0 0 A) (F0 m 38 ls []) := by
    intro x v1 v2 v3 H locs ls hf hP hD hS hl
    dsimp only [fX8_take_38] at hf
    refine lv_iconst (v := 0) hx hb dX8_take_38 (by decide) ?_
    exact L39 x v1 v2 v3 0 H locs ls hf hP hD hS (lv_sub hl [0, 1, 2, 3] rfl)
  have L27 : ∀ (x : MSt) (v1 : Int32) (v2 : Int32) (v3 : Int32) (H : Heap) (locs : List Loc) (ls : Array Slot), fX8_take_27 x v1 v2 v3  = some res → va_P D vwCl (W_Model cI a x) H → va_D A (W_Model cI a x) → va_S A s.heap H locs → lv_has ls 6 [(0, .ref (a 0)), (1, .int v1), (2, .int v2), (3, .int v3)] → W p l e ({ frames := 2, cells := 0, slots := 0, locals := 47 } : Room) s m ([.ref (a 0), .int p1, .int p2] : List Value).toArray below meth c H locs 0 0 (MQ below (QW D (TY cI cV cJ cD) (W_Model cI a res.1) A (some (.int res.2))) (([.ref (a 0), .int p1, .int p2] : List Value).toArray) s 0 0 A) (F0 m 27 ls []) := by
    intro x v1 v2 v3 H locs ls hf hP hD hS hl
    dsimp only [fX8_take_27] at hf
    refine lv_aload_n hx hb dX8_take_27 rfl (lv_at hl 0 rfl) ?_
    obtain ⟨u20, hc21, hf⟩ := bind_t hf
    refine k_V (As := []) (rest := []) (n := 0) ⟨hx, hb, hml, hown, hts⟩ (met_X8_isFull l a x u20 hc21) w923 w925 ws27 w9 w926 ⟨rfl, by decide +kernel, by decide +kernel, by decide +kernel⟩ ⟨Nat.le_of_ble_eq_true rfl, Nat.le_of_ble_eq_true rfl⟩ hK hE hP hD hS hA (isC := [0, 1, 2, 3, 4, 5, 6, 7, 8, 9, 10, 11, 12, 13, 14]) (isR := []) (isB := [0, 1, 2, 3, 4, 5, 6, 7, 8, 9, 10, 11, 12, 13, 14]) (ws' := W_Model cI a x) ⟨([] : List Nat).filterMap (fun i : Nat => (W_Model cI a x : va_W)[i]?), rfl, rfl, rfl, rfl, by decide, rfl, rfl⟩ 0 7 rfl rfl rfl rfl hl.1 rfl (Nat.le_of_ble_eq_true rfl) dX8_take_28 ⟨Nat.le_of_ble_eq_true rfl, Nat.le_of_ble_eq_true rfl⟩ (fun H locs hP hD hS => ?_)
    try dsimp only at hf
    refine W.eq (g2 := F0 m 31 ls [.int u20]) rfl ?_
    refine lv_if_ne (tgt := 38) hx hb dX8_take_31 (by decide) (fun c22 => ?_) (fun c22 => ?_)
    · replace hf := if_f c22 hf
      exact L38 x v1 v2 v3 H locs ls hf hP hD hS (lv_sub hl [0, 1, 2, 3] rfl)
    · replace hf := if_t c22 hf
      refine lv_iconst (v := 1) hx hb dX8_take_34 (by decide) ?_
      refine lv_goto (tgt := 39) hx hb dX8_take_35 (by decide) ?_
      exact L39 x v1 v2 v3 1 H locs ls hf hP hD hS (lv_sub hl [0, 1, 2, 3] rfl)
  have M0 : ∀ (H : Heap) (locs : List Loc) (ls : Array Slot), fX8_take x p1 p2 = some res → va_P D vwCl (W_Model cI a x) H → va_D A (W_Model cI a x) → va_S A s.heap H locs → lv_has ls 6 [(0, .ref (a 0)), (1, .int p1), (2, .int p2)] → W p l e ({ frames := 2, cells := 0, slots := 0, locals := 47 } : Room) s m ([.ref (a 0), .int p1, .int p2] : List Value).toArray below meth c H locs 0 0 (MQ below (QW D (TY cI cV cJ cD) (W_Model cI a res.1) A (some (.int res.2))) (([.ref (a 0), .int p1, .int p2] : List Value).toArray) s 0 0 A) (F0 m 0 ls []) := by
    intro H locs ls hf hP hD hS hl
    dsimp only [fX8_take] at hf
    refine lv_iload_n hx hb dX8_take_0 rfl (lv_at hl 1 rfl) ?_
    obtain ⟨u23, hc24, hf⟩ := bind_t hf
    refine k_S (As := [.int p1]) (rest := []) (n := 1) ⟨hx, hb, hml, hown, hts⟩ (met_X8_isKey l p1 u23 hc24) w906 w907 w9 w908 ⟨by decide +kernel, by decide +kernel, by decide +kernel⟩ ⟨Nat.le_of_ble_eq_true rfl, Nat.le_of_ble_eq_true rfl⟩ hK hE hP hD hS hA (isC := []) (isR := [0, 1, 2, 3, 4, 5, 6, 7, 8, 9, 10, 11, 12, 13, 14]) (isB := [0, 1, 2, 3, 4, 5, 6, 7, 8, 9, 10, 11, 12, 13, 14]) (ws' := W_Model cI a x) ⟨([0, 1, 2, 3, 4, 5, 6, 7, 8, 9, 10, 11, 12, 13, 14] : List Nat).filterMap (fun i : Nat => (W_Model cI a x : va_W)[i]?), rfl, rfl, rfl, rfl, by decide, rfl, rfl⟩ rfl hl.1 rfl (Nat.le_of_ble_eq_true rfl) dX8_take_1 ⟨Nat.le_of_ble_eq_true rfl, Nat.le_of_ble_eq_true rfl⟩ (fun H locs hP hD hS => ?_)
    try dsimp only at hf
    refine W.eq (g2 := F0 m 4 ls [.int u23]) rfl ?_
    refine lv_istore_n (lv' := [(3, .int u23), (0, .ref (a 0)), (1, .int p1), (2, .int p2)]) hx hb dX8_take_4 rfl hl (by decide) rfl (fun ls hl => ?_)
    refine lv_iload_n hx hb dX8_take_5 rfl (lv_at hl 0 rfl) ?_
    refine lv_if_eq (tgt := 38) hx hb dX8_take_6 (by decide) (fun c25 => ?_) (fun c25 => ?_)
    · replace hf := if_t c25 hf
      exact L38 x p1 p2 u23 H locs ls hf hP hD hS (lv_sub hl [1, 2, 3, 0] rfl)
    · replace hf := if_f c25 hf
      refine lv_aload_n hx hb dX8_take_9 rfl (lv_at hl 1 rfl) ?_
      refine lv_iload_n hx hb dX8_take_10 rfl (lv_at hl 2 rfl) ?_
      obtain ⟨u26, hc27, hf⟩ := bind_t hf
      refine k_V (As := [.int p1]) (rest := []) (n := 1) ⟨hx, hb, hml, hown, hts⟩ (met_X8_typeNow l a x p1 u26 hc27) w912 w914 ws25 w9 w915 ⟨rfl, by decide +kernel, by decide +kernel, by decide +kernel⟩ ⟨Nat.le_of_ble_eq_true rfl, Nat.le_of_ble_eq_true rfl⟩ hK hE hP hD hS hA (isC := [0, 1, 2, 3, 4, 5, 6, 7, 8, 9, 10, 11, 12, 13, 14]) (isR := []) (isB := [0, 1, 2, 3, 4, 5, 6, 7, 8, 9, 10, 11, 12, 13, 14]) (ws' := W_Model cI a x) ⟨([] : List Nat).filterMap (fun i : Nat => (W_Model cI a x : va_W)[i]?), rfl, rfl, rfl, rfl, by decide, rfl, rfl⟩ 0 7 rfl rfl rfl rfl hl.1 rfl (Nat.le_of_ble_eq_true rfl) dX8_take_11 ⟨Nat.le_of_ble_eq_true rfl, Nat.le_of_ble_eq_true rfl⟩ (fun H locs hP hD hS => ?_)
      try dsimp only at hf
      refine W.eq (g2 := F0 m 14 ls [.int u26]) rfl ?_
      refine lv_iconst (v := 2) hx hb dX8_take_14 (by decide) ?_
      refine lv_icmp_eq (tgt := 27) hx hb dX8_take_15 (by decide) (fun c28 => ?_) (fun c28 => ?_)
      · replace hf := if_t c28 hf
        exact L27 x p1 p2 u23 H locs ls hf hP hD hS (lv_sub hl [1, 2, 3, 0] rfl)
      · replace hf := if_f c28 hf
        refine lv_aload_n hx hb dX8_take_18 rfl (lv_at hl 1 rfl) ?_
        refine lv_iload_n hx hb dX8_take_19 rfl (lv_at hl 2 rfl) ?_
        obtain ⟨u29, hc30, hf⟩ := bind_t hf
        refine k_V (As := [.int p1]) (rest := []) (n := 1) ⟨hx, hb, hml, hown, hts⟩ (met_X8_typeNow l a x p1 u29 hc30) w912 w914 ws25 w9 w915 ⟨rfl, by decide +kernel, by decide +kernel, by decide +kernel⟩ ⟨Nat.le_of_ble_eq_true rfl, Nat.le_of_ble_eq_true rfl⟩ hK hE hP hD hS hA (isC := [0, 1, 2, 3, 4, 5, 6, 7, 8, 9, 10, 11, 12, 13, 14]) (isR := []) (isB := [0, 1, 2, 3, 4, 5, 6, 7, 8, 9, 10, 11, 12, 13, 14]) (ws' := W_Model cI a x) ⟨([] : List Nat).filterMap (fun i : Nat => (W_Model cI a x : va_W)[i]?), rfl, rfl, rfl, rfl, by decide, rfl, rfl⟩ 0 7 rfl rfl rfl rfl hl.1 rfl (Nat.le_of_ble_eq_true rfl) dX8_take_20 ⟨Nat.le_of_ble_eq_true rfl, Nat.le_of_ble_eq_true rfl⟩ (fun H locs hP hD hS => ?_)
        try dsimp only at hf
        refine W.eq (g2 := F0 m 23 ls [.int u29]) rfl ?_
        refine lv_iconst (v := 3) hx hb dX8_take_23 (by decide) ?_
        refine lv_icmp_ne (tgt := 38) hx hb dX8_take_24 (by decide) (fun c31 => ?_) (fun c31 => ?_)
        · replace hf := if_f c31 hf
          exact L38 x p1 p2 u23 H locs ls hf hP hD hS (lv_sub hl [1, 2, 3, 0] rfl)
        · replace hf := if_t c31 hf
          exact L27 x p1 p2 u23 H locs ls hf hP hD hS (lv_sub hl [1, 2, 3, 0] rfl)
  exact M0 s.heap [] ls hf hP hD hS hl
/-! CompactformsModel.isNumber(I)Z -/
def fX8_isNumber (p0 : Int32) : Option (Int32) := (if 2139095040 < (p0 &&& 2147483647) then some 0 else some 1)
set_option maxHeartbeats 4000000 in
set_option maxRecDepth 100000 in
theorem met_X8_isNumber {D : va_G} {cI cV cJ cD : ClassId} (l : Launch) (p0 : Int32) (res : Int32) (hf : fX8_isNumber p0 = some res) : MM l yX8_isNumber cX8_isNumber 1 (some .boolean) { frames := 0, cells := 0, slots := 0, locals := 0 } D (TY cI cV cJ cD) ([]) ([]) [.int p0] (some (.int res)) := by
  intro sz
  refine Met.ofW (cc := cX8_isNumber) (maxL := 1) (ret := (some .boolean)) (by decide +kernel) rfl ?_
  intro p e s m args below meth c s₁ B hml hv
  obtain ⟨rfl, hsz, hP, hK, hD0, hE⟩ := hv
  have hx := B.exec
  have hb := B.bytes
  have hr := B.returns
  have hts := atoms_spec (ws := .code yX8_isNumber cX8_isNumber 1 (some .boolean) :: GW) B.pre
  have hg : ∀ w ∈ GW, w.before (([.int p0] : List Value).toArray) s = true := fun w h => hts w (List.mem_cons_of_mem _ h)
  have hown : s.vm.findClass RX8 = some m.cls := findClass_of_methodNamed B.named
  have hlocks := B.notSynchronized
  subst hsz
  have hD := hD0.self (sz := s.heap.size)
  generalize hAe : va_A ([]) s.heap.size = A at hD hE ⊢
  have hA : ∀ q : Nat, s.heap.size ≤ q → A q := fun q h => by rw [← hAe]; exact Or.inr h
  have hS : va_S A s.heap s.heap [] := va_S.rf
  have hl := lv_entry ([.int p0]) (n := 1) (Nat.le_of_ble_eq_true rfl)
  rw [lg_entry_eq]
  generalize (lg_sl ([.int p0]) ++ List.replicate (1 - (lg_sl ([.int p0])).length) Slot.unset).toArray = ls at hl ⊢
  have hl : lv_has ls 1 [(0, .int p0)] := hl
  have M0 : ∀ (H : Heap) (locs : List Loc) (ls : Array Slot), fX8_isNumber p0 = some res → va_P D vwCl ([]) H → va_D A ([]) → va_S A s.heap H locs → lv_has ls 1 [(0, .int p0)] → W p l e ({ frames := 0, cells := 0, slots := 0, locals := 0 } : Room) s m ([.int p0] : List Value).toArray below meth c H locs 0 0 (MQ below (QW D (TY cI cV cJ cD) ([]) A (some (.int res))) (([.int p0] : List Value).toArray) s 0 0 A) (F0 m 0 ls []) := by
    intro H locs ls hf hP hD hS hl
    dsimp only [fX8_isNumber] at hf
    refine lv_iload_n hx hb dX8_isNumber_0 rfl (lv_at hl 0 rfl) ?_
    refine lv_ldc (own := RX8) (v := 2147483647) hx hb hown (hg _ w998) dX8_isNumber_1 ?_
    refine lv_iand hx hb dX8_isNumber_3 ?_
    refine lv_ldc (own := RX8) (v := 2139095040) hx hb hown (hg _ w999) dX8_isNumber_4 ?_
    refine lv_icmp_gt (tgt := 13) hx hb dX8_isNumber_6 (by decide) (fun c1 => ?_) (fun c1 => ?_)
    · replace hf := if_t c1 hf
      refine lv_iconst (v := 0) hx hb dX8_isNumber_13 (by decide) ?_
      obtain rfl := Option.some.inj hf
      exact W.zret (v := 0) hx hb hr (by decide +kernel) (fun t ht hW => ⟨rfl, by rw [ht]; exact hP, va_K.moved hW.alike hK, hD, hS.F ht⟩) hS.2.2 dX8_isNumber_14 hlocks
    · replace hf := if_f c1 hf
      refine lv_iconst (v := 1) hx hb dX8_isNumber_9 (by decide) ?_
      refine lv_goto (tgt := 14) hx hb dX8_isNumber_10 (by decide) ?_
      obtain rfl := Option.some.inj hf
      exact W.zret (v := 1) hx hb hr (by decide +kernel) (fun t ht hW => ⟨rfl, by rw [ht]; exact hP, va_K.moved hW.alike hK, hD, hS.F ht⟩) hS.2.2 dX8_isNumber_14 hlocks
  exact M0 s.heap [] ls hf hP hD hS hl
/-! CompactformsModel.rate(III)I -/
def fX8_rate_68 (x : MSt) (v1 : Int32) (v2 : Int32) (v3 : Int32) (s0 : Int32) : Option (MSt × Int32) := (fX8_can x s0).bind (fun u1 => keep u1.1 (fun x3 => (if u1.2 = 0 then some (x3, 0) else (fX8_rates x3 v1 v2 v3).bind (fun u5 => keep u5.1 (fun x7 => keep u5.2 (fun y8 => (fX8_writes x7 5 v1 v2 v3 0).bind (fun u9 => keep u9 (fun x11 => some (x11, y8)))))))))
def fX8_rate_67 (x : MSt) (v1 : Int32) (v2 : Int32) (v3 : Int32) : Option (MSt × Int32) := fX8_rate_68 x v1 v2 v3 3
def fX8_rate_25 (x : MSt) (v1 : Int32) (v2 : Int32) (v3 : Int32) (v4 : Int32) (s0 : Int32) : Option (MSt × Int32) := (if v4 = 0 then fX8_rate_68 x v1 v2 v3 1 else (if s0 = 0 then fX8_rate_68 x v1 v2 v3 2 else (fX8_hasRoom x v1 3 v2).bind (fun u14 => (if u14 = 0 then fX8_rate_67 x v1 v2 v3 else (fX8_isFull x).bind (fun u17 => (if u17 = 0 then fX8_rate_68 x v1 v2 v3 0 else fX8_rate_67 x v1 v2 v3))))))
def fX8_rate_24 (x : MSt) (v1 : Int32) (v2 : Int32) (v3 : Int32) (v4 : Int32) : Option (MSt × Int32) := fX8_rate_25 x v1 v2 v3 v4 0
def fX8_rate (x : MSt) (p1 : Int32) (p2 : Int32) (p3 : Int32) : Option (MSt × Int32) := (fX8_isKey p1).bind (fun u20 => (fX8_isValue p2).bind (fun u22 => (if u22 = 0 then fX8_rate_24 x p1 p2 p3 u20 else (fX8_isNumber p3).bind (fun u25 => (if u25 = 0 then fX8_rate_24 x p1 p2 p3 u20 else fX8_rate_25 x p1 p2 p3 u20 1)))))
set_option maxHeartbeats 4000000 in
set_option maxRecDepth 100000 in
theorem met_X8_rate {D : va_G} {cI cV cJ cD : ClassId} (l : Launch) (a : Nat → Nat) (x : MSt) (p1 : Int32) (p2 : Int32) (p3 : Int32) (res : MSt × Int32) (hf : fX8_rate x p1 p2 p3 = some res) : MM l yX8_rate cX8_rate 7 (some .int) { frames := 3, cells := 0, slots := 0, locals := 72 } D (TY cI cV cJ cD) (W_Model cI a x) (W_Model cI a res.1) [.ref (a 0), .int p1, .int p2, .int p3] (some (.int res.2)) := by
  intro sz
  refine Met.ofW (cc := cX8_rate) (maxL := 7) (ret := (some .int)) (by decide +kernel) rfl ?_
  intro p e s m args below meth c s₁ B hml hv
  obtain ⟨rfl, hsz, hP, hK, hD0, hE⟩ := hv
  have hx := B.exec
  have hb := B.bytes
  have hr := B.returns
  have hts := atoms_spec (ws := .code yX8_rate cX8_rate 7 (some .int) :: GW) B.pre
  have hg : ∀ w ∈ GW, w.before (([.ref (a 0), .int p1, .int p2, .int p3] : List Value).toArray) s = true := fun w h => hts w (List.mem_cons_of_mem _ h)
  have hown : s.vm.findClass RX8 = some m.cls := findClass_of_methodNamed B.named
  have hlocks := B.notSynchronized
  subst hsz
  have hD := hD0.self (sz := s.heap.size)
  generalize hAe : va_A (W_Model cI a x) s.heap.size = A at hD hE ⊢
  have hA : ∀ q : Nat, s.heap.size ≤ q → A q := fun q h => by rw [← hAe]; exact Or.inr h
  have hS : va_S A s.heap s.heap [] := va_S.rf
  have hl := lv_entry ([.ref (a 0), .int p1, .int p2, .int p3]) (n := 7) (Nat.le_of_ble_eq_true rfl)
  rw [lg_entry_eq]
  generalize (lg_sl ([.ref (a 0), .int p1, .int p2, .int p3]) ++ List.replicate (7 - (lg_sl ([.ref (a 0), .int p1, .int p2, .int p3])).length) Slot.unset).toArray = ls at hl ⊢
  have hl : lv_has ls 7 [(0, .ref (a 0)), (1, .int p1), (2, .int p2), (3, .int p3)] := hl
  have L68 : ∀ (x : MSt) (v1 : Int32) (v2 : Int32) (v3 : Int32) (s0 : Int32) (H : Heap) (locs : List Loc) (ls : Array Slot), fX8_rate_68 x v1 v2 v3 s0  = some res → va_P D vwCl (W_Model cI a x) H → va_D A (W_Model cI a x) → va_S A s.heap H locs → lv_has ls 7 [(0, .ref (a 0)), (1, .int v1), (2, .int v2), (3, .int v3)] → W p l e ({ frames := 3, cells := 0, slots := 0, locals := 72 } : Room) s m ([.ref (a 0), .int p1, .int p2, .int p3] : List Value).toArray below meth c H locs 0 0 (MQ below (QW D (TY cI cV cJ cD) (W_Model cI a res.1) A (some (.int res.2))) (([.ref (a 0), .int p1, .int p2, .int p3] : List Value).toArray) s 0 0 A) (F0 m 68 ls [.int s0, .ref (a 0)]) := by
    intro x v1 v2 v3 s0 H locs ls hf hP hD hS hl
    dsimp only [fX8_rate_68] at hf
    obtain ⟨u1, hc2, hf⟩ := bind_t hf
    refine k_V (As := [.int s0]) (rest := []) (n := 1) ⟨hx, hb, hml, hown, hts⟩ (met_X8_can l a x s0 u1 hc2) w927 w929 ws28 w9 w930 ⟨rfl, by decide +kernel, by decide +kernel, by decide +kernel⟩ ⟨Nat.le_of_ble_eq_true rfl, Nat.le_of_ble_eq_true rfl⟩ hK hE hP hD hS hA (isC := [0, 1, 2, 3, 4, 5, 6, 7, 8, 9, 10, 11, 12, 13, 14]) (isR := []) (isB := [0, 1, 2, 3, 4, 5, 6, 7, 8, 9, 10, 11, 12, 13, 14]) (ws' := W_Model cI a u1.1) ⟨([] : List Nat).filterMap (fun i : Nat => (W_Model cI a x : va_W)[i]?), rfl, rfl, rfl, rfl, by decide, rfl, rfl⟩ 0 7 rfl rfl rfl rfl hl.1 rfl (Nat.le_of_ble_eq_true rfl) dX8_rate_68 ⟨Nat.le_of_ble_eq_true rfl, Nat.le_of_ble_eq_true rfl⟩ (fun H locs hP hD hS => ?_)
    try dsimp only at hf
    refine W.eq (g2 := F0 m 71 ls [.int u1.2]) rfl ?_
    obtain ⟨x3, hx3⟩ : ∃ z, z = u1.1 := ⟨_, rfl⟩
    replace hf := keep_e hf x3 hx3
    have hP : va_P D vwCl (W_Model cI a x3) H := by rw [hx3]; exact hP
    have hD : va_D A (W_Model cI a x3) := by rw [hx3]; exact hD
    refine lv_if_ne (tgt := 76) hx hb dX8_rate_71 (by decide) (fun c4 => ?_) (fun c4 => ?_)
    · replace hf := if_f c4 hf
      refine lv_aload_n hx hb dX8_rate_76 rfl (lv_at hl 0 rfl) ?_
      refine lv_iload_n hx hb dX8_rate_77 rfl (lv_at hl 1 rfl) ?_
      refine lv_iload_n hx hb dX8_rate_78 rfl (lv_at hl 2 rfl) ?_
      refine lv_iload_n hx hb dX8_rate_79 rfl (lv_at hl 3 rfl) ?_
      obtain ⟨u5, hc6, hf⟩ := bind_t hf
      refine k_V (As := [.int v1, .int v2, .int v3]) (rest := []) (n := 3) ⟨hx, hb, hml, hown, hts⟩ (met_X8_rates l a x3 v1 v2 v3 u5 hc6) w1000 w1002 ws41 w9 w1003 ⟨rfl, by decide +kernel, by decide +kernel, by decide +kernel⟩ ⟨Nat.le_of_ble_eq_true rfl, Nat.le_of_ble_eq_true rfl⟩ hK hE hP hD hS hA (isC := [0, 1, 2, 3, 4, 5, 6, 7, 8, 9, 10, 11, 12, 13, 14]) (isR := []) (isB := [0, 1, 2, 3, 4, 5, 6, 7, 8, 9, 10, 11, 12, 13, 14]) (ws' := W_Model cI a u5.1) ⟨([] : List Nat).filterMap (fun i : Nat => (W_Model cI a x3 : va_W)[i]?), rfl, rfl, rfl, rfl, by decide, rfl, rfl⟩ 0 7 rfl rfl rfl rfl hl.1 rfl (Nat.le_of_ble_eq_true rfl) dX8_rate_80 ⟨Nat.le_of_ble_eq_true rfl, Nat.le_of_ble_eq_true rfl⟩ (fun H locs hP hD hS => ?_)
      try dsimp only at hf
      refine W.eq (g2 := F0 m 83 ls [.int u5.2]) rfl ?_
      obtain ⟨x7, hx7⟩ : ∃ z, z = u5.1 := ⟨_, rfl⟩
      replace hf := keep_e hf x7 hx7
      have hP : va_P D vwCl (W_Model cI a x7) H := by rw [hx7]; exact hP
      have hD : va_D A (W_Model cI a x7) := by rw [hx7]; exact hD
      refine lv_topi (fun y8 hy8 => ?_)
      replace hf := keep_e hf y8 hy8
      refine lv_istore (lv' := [(6, .int y8), (0, .ref (a 0)), (1, .int v1), (2, .int v2), (3, .int v3)]) hx hb dX8_rate_83 hl (by decide) rfl (fun ls hl => ?_)
      refine lv_aload_n hx hb dX8_rate_85 rfl (lv_at hl 1 rfl) ?_
      refine lv_iconst (v := 5) hx hb dX8_rate_86 (by decide) ?_
      refine lv_iload_n hx hb dX8_rate_87 rfl (lv_at hl 2 rfl) ?_
      refine lv_iload_n hx hb dX8_rate_88 rfl (lv_at hl 3 rfl) ?_
      refine lv_iload_n hx hb dX8_rate_89 rfl (lv_at hl 4 rfl) ?_
      refine lv_iconst (v := 0) hx hb dX8_rate_90 (by decide) ?_
      obtain ⟨u9, hc10, hf⟩ := bind_t hf
      refine k_V (As := [.int 5, .int v1, .int v2, .int v3, .int 0]) (rest := []) (n := 5) ⟨hx, hb, hml, hown, hts⟩ (met_X8_writes l a x7 5 v1 v2 v3 0 u9 hc10) w947 w949 ws33 w9 w950 ⟨rfl, by decide +kernel, by decide +kernel, by decide +kernel⟩ ⟨Nat.le_of_ble_eq_true rfl, Nat.le_of_ble_eq_true rfl⟩ hK hE hP hD hS hA (isC := [0, 1, 2, 3, 4, 5, 6, 7, 8, 9, 10, 11, 12, 13, 14]) (isR := []) (isB := [0, 1, 2, 3, 4, 5, 6, 7, 8, 9, 10, 11, 12, 13, 14]) (ws' := W_Model cI a u9) ⟨([] : List Nat).filterMap (fun i : Nat => (W_Model cI a x7 : va_W)[i]?), rfl, rfl, rfl, rfl, by decide, rfl, rfl⟩ 0 7 rfl rfl rfl rfl hl.1 rfl (Nat.le_of_ble_eq_true rfl) dX8_rate_91 ⟨Nat.le_of_ble_eq_true rfl, Nat.le_of_ble_eq_true rfl⟩ (fun H locs hP hD hS => ?_)
      try dsimp only at hf
      refine W.eq (g2 := F0 m 94 ls []) rfl ?_
      obtain ⟨x11, hx11⟩ : ∃ z, z = u9 := ⟨_, rfl⟩
      replace hf := keep_e hf x11 hx11
      have hP : va_P D vwCl (W_Model cI a x11) H := by rw [hx11]; exact hP
      have hD : va_D A (W_Model cI a x11) := by rw [hx11]; exact hD
      refine lv_iload hx hb dX8_rate_94 (lv_at hl 0 rfl) ?_
      obtain rfl := Option.some.inj hf
      exact W.iret (v := y8) hx hb hr (fun t ht hW => ⟨rfl, by rw [ht]; exact hP, va_K.moved hW.alike hK, hD, hS.F ht⟩) hS.2.2 dX8_rate_96 hlocks
    · replace hf := if_t c4 hf
      refine lv_iconst (v := 0) hx hb dX8_rate_74 (by decide) ?_
      obtain rfl := Option.some.inj hf
      exact W.iret (v := 0) hx hb hr (fun t ht hW => ⟨rfl, by rw [ht]; exact hP, va_K.moved hW.alike hK, hD, hS.F ht⟩) hS.2.2 dX8_rate_75 hlocks
  have L67 : ∀ (x : MSt) (v1 : Int32) (v2 : Int32) (v3 : Int32) (H : Heap) (locs : List Loc) (ls : Array Slot), fX8_rate_67 x v1 v2 v3  = some res → va_P D vwCl (W_Model cI a x) H → va_D A (W_Model cI a x) → va_S A s.heap H locs → lv_has ls 7 [(0, .ref (a 0)), (1, .int v1), (2, .int v2), (3, .int v3)] → W p l e ({ frames := 3, cells := 0, slots := 0, locals := 72 } : Room) s m ([.ref (a 0), .int p1, .int p2, .int p3] : List Value).toArray below meth c H locs 0 0 (MQ below (QW D (TY cI cV cJ cD) (W_Model cI a res.1) A (some (.int res.2))) (([.ref (a 0), .int p1, .int p2, .int p3] : List Value).toArray) s 0 0 A) (F0 m 67 ls [.ref (a 0)]) := by
    intro x v1 v2 v3 H locs ls hf hP hD hS hl
    dsimp only [fX8_rate_67] at hf
    refine lv_iconst (v := 3) hx hb dX8_rate_67 (by decide) ?_
    exact L68 x v1 v2 v3 3 H locs ls hf hP hD hS (lv_sub hl [0, 1, 2, 3] rfl)
  have L25 : ∀ (x : MSt) (v1 : Int32) (v2 : Int32) (v3 : Int32) (v4 : Int32) (s0 : Int32) (H : Heap) (locs : List Loc) (ls : Array Slot), fX8_rate_25 x v1 v2 v3 v4 s0  = some res → va_P D vwCl (W_Model cI a x) H → va_D A (W_Model cI a x) → va_S A s.heap H locs → lv_has ls 7 [(0, .ref (a 0)), (1, .int v1), (2, .int v2), (3, .int v3), (4, .int v4)] → W p l e ({ frames := 3, cells := 0, slots := 0, locals := 72 } : Room) s m ([.ref (a 0), .int p1, .int p2, .int p3] : List Value).toArray below meth c H locs 0 0 (MQ below (QW D (TY cI cV cJ cD) (W_Model cI a res.1) A (some (.int res.2))) (([.ref (a 0), .int p1, .int p2, .int p3] : List Value).toArray) s 0 0 A) (F0 m 25 ls [.int s0]) := by
    intro x v1 v2 v3 v4 s0 H locs ls hf hP hD hS hl
    dsimp only [fX8_rate_25] at hf
    refine lv_istore (lv' := [(5, .int s0), (0, .ref (a 0)), (1, .int v1), (2, .int v2), (3, .int v3), (4, .int v4)]) hx hb dX8_rate_25 hl (by decide) rfl (fun ls hl => ?_)
    refine lv_aload_n hx hb dX8_rate_27 rfl (lv_at hl 1 rfl) ?_
    refine lv_iload hx hb dX8_rate_28 (lv_at hl 5 rfl) ?_
    refine lv_if_ne (tgt := 37) hx hb dX8_rate_30 (by decide) (fun c12 => ?_) (fun c12 => ?_)
    · replace hf := if_f c12 hf
      refine lv_iload hx hb dX8_rate_37 (lv_at hl 0 rfl) ?_
      refine lv_if_ne (tgt := 46) hx hb dX8_rate_39 (by decide) (fun c13 => ?_) (fun c13 => ?_)
      · replace hf := if_f c13 hf
        refine lv_aload_n hx hb dX8_rate_46 rfl (lv_at hl 1 rfl) ?_
        refine lv_iload_n hx hb dX8_rate_47 rfl (lv_at hl 2 rfl) ?_
        refine lv_iconst (v := 3) hx hb dX8_rate_48 (by decide) ?_
        refine lv_iload_n hx hb dX8_rate_49 rfl (lv_at hl 3 rfl) ?_
        obtain ⟨u14, hc15, hf⟩ := bind_t hf
        refine k_V (As := [.int v1, .int 3, .int v2]) (rest := [.ref (a 0)]) (n := 3) ⟨hx, hb, hml, hown, hts⟩ (met_X8_hasRoom l a x v1 3 v2 u14 hc15) w971 w973 ws37 w9 w974 ⟨rfl, by decide +kernel, by decide +kernel, by decide +kernel⟩ ⟨Nat.le_of_ble_eq_true rfl, Nat.le_of_ble_eq_true rfl⟩ hK hE hP hD hS hA (isC := [0, 1, 2, 3, 4, 5, 6, 7, 8, 9, 10, 11, 12, 13, 14]) (isR := []) (isB := [0, 1, 2, 3, 4, 5, 6, 7, 8, 9, 10, 11, 12, 13, 14]) (ws' := W_Model cI a x) ⟨([] : List Nat).filterMap (fun i : Nat => (W_Model cI a x : va_W)[i]?), rfl, rfl, rfl, rfl, by decide, rfl, rfl⟩ 0 7 rfl rfl rfl rfl hl.1 rfl (Nat.le_of_ble_eq_true rfl) dX8_rate_50 ⟨Nat.le_of_ble_eq_true rfl, Nat.le_of_ble_eq_true rfl⟩ (fun H locs hP hD hS => ?_)
        try dsimp only at hf
        refine W.eq (g2 := F0 m 53 ls [.int u14, .ref (a 0)]) rfl ?_
        refine lv_if_eq (tgt := 67) hx hb dX8_rate_53 (by decide) (fun c16 => ?_) (fun c16 => ?_)
        · replace hf := if_t c16 hf
          exact L67 x v1 v2 v3 H locs ls hf hP hD hS (lv_sub hl [1, 2, 3, 4] rfl)
        · replace hf := if_f c16 hf
          refine lv_aload_n hx hb dX8_rate_56 rfl (lv_at hl 1 rfl) ?_
          obtain ⟨u17, hc18, hf⟩ := bind_t hf
          refine k_V (As := []) (rest := [.ref (a 0)]) (n := 0) ⟨hx, hb, hml, hown, hts⟩ (met_X8_isFull l a x u17 hc18) w923 w925 ws27 w9 w926 ⟨rfl, by decide +kernel, by decide +kernel, by decide +kernel⟩ ⟨Nat.le_of_ble_eq_true rfl, Nat.le_of_ble_eq_true rfl⟩ hK hE hP hD hS hA (isC := [0, 1, 2, 3, 4, 5, 6, 7, 8, 9, 10, 11, 12, 13, 14]) (isR := []) (isB := [0, 1, 2, 3, 4, 5, 6, 7, 8, 9, 10, 11, 12, 13, 14]) (ws' := W_Model cI a x) ⟨([] : List Nat).filterMap (fun i : Nat => (W_Model cI a x : va_W)[i]?), rfl, rfl, rfl, rfl, by decide, rfl, rfl⟩ 0 7 rfl rfl rfl rfl hl.1 rfl (Nat.le_of_ble_eq_true rfl) dX8_rate_57 ⟨Nat.le_of_ble_eq_true rfl, Nat.le_of_ble_eq_true rfl⟩ (fun H locs hP hD hS => ?_)
          try dsimp only at hf
          refine W.eq (g2 := F0 m 60 ls [.int u17, .ref (a 0)]) rfl ?_
          refine lv_if_ne (tgt := 67) hx hb dX8_rate_60 (by decide) (fun c19 => ?_) (fun c19 => ?_)
          · replace hf := if_f c19 hf
            exact L67 x v1 v2 v3 H locs ls hf hP hD hS (lv_sub hl [1, 2, 3, 4] rfl)
          · replace hf := if_t c19 hf
            refine lv_iconst (v := 0) hx hb dX8_rate_63 (by decide) ?_
            refine lv_goto (tgt := 68) hx hb dX8_rate_64 (by decide) ?_
            exact L68 x v1 v2 v3 0 H locs ls hf hP hD hS (lv_sub hl [1, 2, 3, 4] rfl)
      · replace hf := if_t c13 hf
        refine lv_iconst (v := 2) hx hb dX8_rate_42 (by decide) ?_
        refine lv_goto (tgt := 68) hx hb dX8_rate_43 (by decide) ?_
        exact L68 x v1 v2 v3 2 H locs ls hf hP hD hS (lv_sub hl [1, 2, 3, 4] rfl)
    · replace hf := if_t c12 hf
      refine lv_iconst (v := 1) hx hb dX8_rate_33 (by decide) ?_
      refine lv_goto (tgt := 68) hx hb dX8_rate_34 (by decide) ?_
      exact L68 x v1 v2 v3 1 H locs ls hf hP hD hS (lv_sub hl [1, 2, 3, 4] rfl)
  have L24 : ∀ (x : MSt) (v1 : Int32) (v2 : Int32) (v3 : Int32) (v4 : Int32) (H : Heap) (locs : List Loc) (ls : Array Slot), fX8_rate_24 x v1 v2 v3 v4  = some res → va_P D vwCl (W_Model cI a x) H → va_D A (W_Model cI a x) → va_S A s.heap H locs → lv_has ls 7 [(0, .ref (a 0)), (1, .int v1), (2, .int v2), (3, .int v3), (4, .int v4)] → W p l e ({ frames := 3, cells := 0, slots := 0, locals := 72 } : Room) s m ([.ref (a 0), .int p1, .int p2, .int p3] : List Value).toArray below meth c H locs 0 0 (MQ below (QW D (TY cI cV cJ cD) (W_Model cI a res.1) A (some (.int res.2))) (([.ref (a 0), .int p1, .int p2, .int p3] : List Value).toArray) s 0 0 A) (F0 m 24 ls []) := by
    intro x v1 v2 v3 v4 H locs ls hf hP hD hS hl
    dsimp only [fX8_rate_24] at hf
    refine lv_iconst (v := 0) hx hb dX8_rate_24 (by decide) ?_
    exact L25 x v1 v2 v3 v4 0 H locs ls hf hP hD hS (lv_sub hl [0, 1, 2, 3, 4] rfl)
  have M0 : ∀ (H : Heap) (locs : List Loc) (ls : Array Slot), fX8_rate x p1 p2 p3 = some res → va_P D vwCl (W_Model cI a x) H → va_D A (W_Model cI a x) → va_S A s.heap H locs → lv_has ls 7 [(0, .ref (a 0)), (1, .int p1), (2, .int p2), (3, .int p3)] → W p l e ({ frames := 3, cells := 0, slots := 0, locals := 72 } : Room) s m ([.ref (a 0), .int p1, .int p2, .int p3] : List Value).toArray below meth c H locs 0 0 (MQ below (QW D (TY cI cV cJ cD) (W_Model cI a res.1) A (some (.int res.2))) (([.ref (a 0), .int p1, .int p2, .int p3] : List Value).toArray) s 0 0 A) (F0 m 0 ls []) := by
    intro H locs ls hf hP hD hS hl
    dsimp only [fX8_rate] at hf
    refine lv_iload_n hx hb dX8_rate_0 rfl (lv_at hl 1 rfl) ?_
    obtain ⟨u20, hc21, hf⟩ := bind_t hf
    refine k_S (As := [.int p1]) (rest := []) (n := 1) ⟨hx, hb, hml, hown, hts⟩ (met_X8_isKey l p1 u20 hc21) w906 w907 w9 w908 ⟨by decide +kernel, by decide +kernel, by decide +kernel⟩ ⟨Nat.le_of_ble_eq_true rfl, Nat.le_of_ble_eq_true rfl⟩ hK hE hP hD hS hA (isC := []) (isR := [0, 1, 2, 3, 4, 5, 6, 7, 8, 9, 10, 11, 12, 13, 14]) (isB := [0, 1, 2, 3, 4, 5, 6, 7, 8, 9, 10, 11, 12, 13, 14]) (ws' := W_Model cI a x) ⟨([0, 1, 2, 3, 4, 5, 6, 7, 8, 9, 10, 11, 12, 13, 14] : List Nat).filterMap (fun i : Nat => (W_Model cI a x : va_W)[i]?), rfl, rfl, rfl, rfl, by decide, rfl, rfl⟩ rfl hl.1 rfl (Nat.le_of_ble_eq_true rfl) dX8_rate_1 ⟨Nat.le_of_ble_eq_true rfl, Nat.le_of_ble_eq_true rfl⟩ (fun H locs hP hD hS => ?_)
    try dsimp only at hf
    refine W.eq (g2 := F0 m 4 ls [.int u20]) rfl ?_
    refine lv_istore (lv' := [(4, .int u20), (0, .ref (a 0)), (1, .int p1), (2, .int p2), (3, .int p3)]) hx hb dX8_rate_4 hl (by decide) rfl (fun ls hl => ?_)
    refine lv_iload_n hx hb dX8_rate_6 rfl (lv_at hl 3 rfl) ?_
    obtain ⟨u22, hc23, hf⟩ := bind_t hf
    refine k_S (As := [.int p2]) (rest := []) (n := 1) ⟨hx, hb, hml, hown, hts⟩ (met_X8_isValue l p2 u22 hc23) w920 w921 w9 w922 ⟨by decide +kernel, by decide +kernel, by decide +kernel⟩ ⟨Nat.le_of_ble_eq_true rfl, Nat.le_of_ble_eq_true rfl⟩ hK hE hP hD hS hA (isC := []) (isR := [0, 1, 2, 3, 4, 5, 6, 7, 8, 9, 10, 11, 12, 13, 14]) (isB := [0, 1, 2, 3, 4, 5, 6, 7, 8, 9, 10, 11, 12, 13, 14]) (ws' := W_Model cI a x) ⟨([0, 1, 2, 3, 4, 5, 6, 7, 8, 9, 10, 11, 12, 13, 14] : List Nat).filterMap (fun i : Nat => (W_Model cI a x : va_W)[i]?), rfl, rfl, rfl, rfl, by decide, rfl, rfl⟩ rfl hl.1 rfl (Nat.le_of_ble_eq_true rfl) dX8_rate_7 ⟨Nat.le_of_ble_eq_true rfl, Nat.le_of_ble_eq_true rfl⟩ (fun H locs hP hD hS => ?_)
    try dsimp only at hf
    refine W.eq (g2 := F0 m 10 ls [.int u22]) rfl ?_
    refine lv_if_eq (tgt := 24) hx hb dX8_rate_10 (by decide) (fun c24 => ?_) (fun c24 => ?_)
    · replace hf := if_t c24 hf
      exact L24 x p1 p2 p3 u20 H locs ls hf hP hD hS (lv_sub hl [1, 2, 3, 4, 0] rfl)
    · replace hf := if_f c24 hf
      refine lv_iload_n hx hb dX8_rate_13 rfl (lv_at hl 4 rfl) ?_
      obtain ⟨u25, hc26, hf⟩ := bind_t hf
      refine k_S (As := [.int p3]) (rest := []) (n := 1) ⟨hx, hb, hml, hown, hts⟩ (met_X8_isNumber l p3 u25 hc26) w995 w996 w9 w997 ⟨by decide +kernel, by decide +kernel, by decide +kernel⟩ ⟨Nat.le_of_ble_eq_true rfl, Nat.le_of_ble_eq_true rfl⟩ hK hE hP hD hS hA (isC := []) (isR := [0, 1, 2, 3, 4, 5, 6, 7, 8, 9, 10, 11, 12, 13, 14]) (isB := [0, 1, 2, 3, 4, 5, 6, 7, 8, 9, 10, 11, 12, 13, 14]) (ws' := W_Model cI a x) ⟨([0, 1, 2, 3, 4, 5, 6, 7, 8, 9, 10, 11, 12, 13, 14] : List Nat).filterMap (fun i : Nat => (W_Model cI a x : va_W)[i]?), rfl, rfl, rfl, rfl, by decide, rfl, rfl⟩ rfl hl.1 rfl (Nat.le_of_ble_eq_true rfl) dX8_rate_14 ⟨Nat.le_of_ble_eq_true rfl, Nat.le_of_ble_eq_true rfl⟩ (fun H locs hP hD hS => ?_)
      try dsimp only at hf
      refine W.eq (g2 := F0 m 17 ls [.int u25]) rfl ?_
      refine lv_if_eq (tgt := 24) hx hb dX8_rate_17 (by decide) (fun c27 => ?_) (fun c27 => ?_)
      · replace hf := if_t c27 hf
        exact L24 x p1 p2 p3 u20 H locs ls hf hP hD hS (lv_sub hl [1, 2, 3, 4, 0] rfl)
      · replace hf := if_f c27 hf
        refine lv_iconst (v := 1) hx hb dX8_rate_20 (by decide) ?_
        refine lv_goto (tgt := 25) hx hb dX8_rate_21 (by decide) ?_
        exact L25 x p1 p2 p3 u20 1 H locs ls hf hP hD hS (lv_sub hl [1, 2, 3, 4, 0] rfl)
  exact M0 s.heap [] ls hf hP hD hS hl
/-! CompactformsModel.append(II)I -/
def fX8_append_86 (x : MSt) (v1 : Int32) (v2 : Int32) (s0 : Int32) : Option (MSt × Int32) := (fX8_can x s0).bind (fun u1 => keep u1.1 (fun x3 => (if u1.2 = 0 then some (x3, 0) else keep (mWriting_s x3 (mRows x3)) (fun x5 => (fX8_appends x5 v1 v2).bind (fun u6 => keep u6.1 (fun x8 => keep u6.2 (fun y9 => (fX8_writes x8 6 v1 v2 0 0).bind (fun u10 => keep u10 (fun x12 => some (x12, y9))))))))))
def fX8_append_85 (x : MSt) (v1 : Int32) (v2 : Int32) : Option (MSt × Int32) := fX8_append_86 x v1 v2 3
def fX8_append_47 (x : MSt) (v1 : Int32) (v2 : Int32) (v3 : Int32) (s0 : Int32) : Option (MSt × Int32) := (if v3 = 0 then fX8_append_86 x v1 v2 1 else (fX8_isValue v2).bind (fun u14 => (if u14 = 0 then fX8_append_86 x v1 v2 2 else (if s0 = 0 then fX8_append_85 x v1 v2 else (fX8_isFull x).bind (fun u18 => (if u18 = 0 then fX8_append_86 x v1 v2 0 else fX8_append_85 x v1 v2))))))
def fX8_append_46 (x : MSt) (v1 : Int32) (v2 : Int32) (v3 : Int32) : Option (MSt × Int32) := fX8_append_47 x v1 v2 v3 0
def fX8_append_42 (x : MSt) (v1 : Int32) (v2 : Int32) (v3 : Int32) : Option (MSt × Int32) := fX8_append_47 x v1 v2 v3 1
def fX8_append_18 (x : MSt) (v1 : Int32) (v2 : Int32) (v3 : Int32) (s0 : Int32) : Option (MSt × Int32) := (if s0 = 0 then fX8_append_42 x v1 v2 v3 else (if s0 = 4 then chk (inb v1 16) ((if 40 ≤ ((mSize x) (v1).toNatClampNeg) then fX8_append_46 x v1 v2 v3 else fX8_append_42 x v1 v2 v3)) else fX8_append_46 x v1 v2 v3))
def fX8_append (x : MSt) (p1 : Int32) (p2 : Int32) : Option (MSt × Int32) := (fX8_isKey p1).bind (fun u25 => (if u25 = 0 then fX8_append_18 x p1 p2 u25 0 else (fX8_typeNow x p1).bind (fun u28 => fX8_append_18 x p1 p2 u25 u28)))
set_option maxHeartbeats 4000000 in
set_option maxRecDepth 100000 in
theorem met_X8_append {D : va_G} {cI cV cJ cD : ClassId} (l : Launch) (a : Nat → Nat) (x : MSt) (p1 : Int32) (p2 : Int32) (res : MSt × Int32) (hf : fX8_append x p1 p2 = some res) : MM l yX8_append cX8_append 7 (some .int) { frames := 3, cells := 0, slots := 0, locals := 66 } D (TY cI cV cJ cD) (W_Model cI a x) (W_Model cI a res.1) [.ref (a 0), .int p1, .int p2] (some (.int res.2)) := by
  intro sz
  refine Met.ofW (cc := cX8_append) (maxL := 7) (ret := (some .int)) (by decide +kernel) rfl ?_
  intro p e s m args below meth c s₁ B hml hv
  obtain ⟨rfl, hsz, hP, hK, hD0, hE⟩ := hv
  have hx := B.exec
  have hb := B.bytes
  have hr := B.returns
  have hts := atoms_spec (ws := .code yX8_append cX8_append 7 (some .int) :: GW) B.pre
  have hg : ∀ w ∈ GW, w.before (([.ref (a 0), .int p1, .int p2] : List Value).toArray) s = true := fun w h => hts w (List.mem_cons_of_mem _ h)
  have hown : s.vm.findClass RX8 = some m.cls := findClass_of_methodNamed B.named
  have hlocks := B.notSynchronized
  subst hsz
  have hD := hD0.self (sz := s.heap.size)
  generalize hAe : va_A (W_Model cI a x) s.heap.size = A at hD hE ⊢
  have hA : ∀ q : Nat, s.heap.size ≤ q → A q := fun q h => by rw [← hAe]; exact Or.inr h
  have hS : va_S A s.heap s.heap [] := va_S.rf
  have hl := lv_entry ([.ref (a 0), .int p1, .int p2]) (n := 7) (Nat.le_of_ble_eq_true rfl)
  rw [lg_entry_eq]
  generalize (lg_sl ([.ref (a 0), .int p1, .int p2]) ++ List.replicate (7 - (lg_sl ([.ref (a 0), .int p1, .int p2])).length) Slot.unset).toArray = ls at hl ⊢
  have hl : lv_has ls 7 [(0, .ref (a 0)), (1, .int p1), (2, .int p2)] := hl
  have L86 : ∀ (x : MSt) (v1 : Int32) (v2 : Int32) (s0 : Int32) (H : Heap) (locs : List Loc) (ls : Array Slot), fX8_append_86 x v1 v2 s0  = some res → va_P D vwCl (W_Model cI a x) H → va_D A (W_Model cI a x) → va_S A s.heap H locs → lv_has ls 7 [(0, .ref (a 0)), (1, .int v1), (2, .int v2)] → W p l e ({ frames := 3, cells := 0, slots := 0, locals := 66 } : Room) s m ([.ref (a 0), .int p1, .int p2] : List Value).toArray below meth c H locs 0 0 (MQ below (QW D (TY cI cV cJ cD) (W_Model cI a res.1) A (some (.int res.2))) (([.ref (a 0), .int p1, .int p2] : List Value).toArray) s 0 0 A) (F0 m 86 ls [.int s0, .ref (a 0)]) := by
    intro x v1 v2 s0 H locs ls hf hP hD hS hl
    dsimp only [fX8_append_86] at hf
    obtain ⟨u1, hc2, hf⟩ := bind_t hf
    refine k_V (As := [.int s0]) (rest := []) (n := 1) ⟨hx, hb, hml, hown, hts⟩ (met_X8_can l a x s0 u1 hc2) w927 w929 ws28 w9 w930 ⟨rfl, by decide +kernel, by decide +kernel, by decide +kernel⟩ ⟨Nat.le_of_ble_eq_true rfl, Nat.le_of_ble_eq_true rfl⟩ hK hE hP hD hS hA (isC := [0, 1, 2, 3, 4, 5, 6, 7, 8, 9, 10, 11, 12, 13, 14]) (isR := []) (isB := [0, 1, 2, 3, 4, 5, 6, 7, 8, 9, 10, 11, 12, 13, 14]) (ws' := W_Model cI a u1.1) ⟨([] : List Nat).filterMap (fun i : Nat => (W_Model cI a x : va_W)[i]?), rfl, rfl, rfl, rfl, by decide, rfl, rfl⟩ 0 7 rfl rfl rfl rfl hl.1 rfl (Nat.le_of_ble_eq_true rfl) dX8_append_86 ⟨Nat.le_of_ble_eq_true rfl, Nat.le_of_ble_eq_true rfl⟩ (fun H locs hP hD hS => ?_)
    try dsimp only at hf
    refine W.eq (g2 := F0 m 89 ls [.int u1.2]) rfl ?_
    obtain ⟨x3, hx3⟩ : ∃ z, z = u1.1 := ⟨_, rfl⟩
    replace hf := keep_e hf x3 hx3
    have hP : va_P D vwCl (W_Model cI a x3) H := by rw [hx3]; exact hP
    have hD : va_D A (W_Model cI a x3) := by rw [hx3]; exact hD
    refine lv_if_ne (tgt := 94) hx hb dX8_append_89 (by decide) (fun c4 => ?_) (fun c4 => ?_)
    · replace hf := if_f c4 hf
      refine lv_aload_n hx hb dX8_append_94 rfl (lv_at hl 0 rfl) ?_
      refine lv_aload_n hx hb dX8_append_95 rfl (lv_at hl 0 rfl) ?_
      refine va_get (D := D) (ci := 7) (v := .int (mRows x3)) (C := RX8) (T := TX8) (N := 24) hx hb hg in_X8 hown hK hP 0 rfl rfl 14 (by decide) (hg _ w839) (fun _ h9 => h9) rfl dX8_append_96 ?_
      refine va_put (D := D) (ci := 7) (v := .int (mRows x3)) (ty := .int) (C := RX8) (T := TX8) (N := 24) hx hb hg in_X8 tyX8 tyX8_ok nmX8 hown hK hP hD hS 0 rfl rfl 15 (by decide) (hg _ w840) (fun _ h9 => h9) rfl (by decide +kernel) rfl rfl (Nat.le_of_ble_eq_true rfl) dX8_append_99 (fun H locs hP hD hS => ?_)
      obtain ⟨x5, hx5⟩ : ∃ z, z = (mWriting_s x3 (mRows x3)) := ⟨_, rfl⟩
      replace hf := keep_e hf x5 hx5
      have hP : va_P D vwCl (W_Model cI a x5) H := by rw [hx5]; exact hP
      have hD : va_D A (W_Model cI a x5) := by rw [hx5]; exact hD
      refine lv_aload_n hx hb dX8_append_102 rfl (lv_at hl 0 rfl) ?_
      refine lv_iload_n hx hb dX8_append_103 rfl (lv_at hl 1 rfl) ?_
      refine lv_iload_n hx hb dX8_append_104 rfl (lv_at hl 2 rfl) ?_
      obtain ⟨u6, hc7, hf⟩ := bind_t hf
      refine k_V (As := [.int v1, .int v2]) (rest := []) (n := 2) ⟨hx, hb, hml, hown, hts⟩ (met_X8_appends l a x5 v1 v2 u6 hc7) w1011 w1013 ws42 w9 w1014 ⟨rfl, by decide +kernel, by decide +kernel, by decide +kernel⟩ ⟨Nat.le_of_ble_eq_true rfl, Nat.le_of_ble_eq_true rfl⟩ hK hE hP hD hS hA (isC := [0, 1, 2, 3, 4, 5, 6, 7, 8, 9, 10, 11, 12, 13, 14]) (isR := []) (isB := [0, 1, 2, 3, 4, 5, 6, 7, 8, 9, 10, 11, 12, 13, 14]) (ws' := W_Model cI a u6.1) ⟨([] : List Nat).filterMap (fun i : Nat => (W_Model cI a x5 : va_W)[i]?), rfl, rfl, rfl, rfl, by decide, rfl, rfl⟩ 0 7 rfl rfl rfl rfl hl.1 rfl (Nat.le_of_ble_eq_true rfl) dX8_append_105 ⟨Nat.le_of_ble_eq_true rfl, Nat.le_of_ble_eq_true rfl⟩ (fun H locs hP hD hS => ?_)
      try dsimp only at hf
      refine W.eq (g2 := F0 m 108 ls [.int u6.2]) rfl ?_
      obtain ⟨x8, hx8⟩ : ∃ z, z = u6.1 := ⟨_, rfl⟩
      replace hf := keep_e hf x8 hx8
      have hP : va_P D vwCl (W_Model cI a x8) H := by rw [hx8]; exact hP
      have hD : va_D A (W_Model cI a x8) := by rw [hx8]; exact hD
      refine lv_topi (fun y9 hy9 => ?_)
      replace hf := keep_e hf y9 hy9
      refine lv_istore (lv' := [(6, .int y9), (0, .ref (a 0)), (1, .int v1), (2, .int v2)]) hx hb dX8_append_108 hl (by decide) rfl (fun ls hl => ?_)
      refine lv_aload_n hx hb dX8_append_110 rfl (lv_at hl 1 rfl) ?_
      refine lv_bipush (v := 6) hx hb dX8_append_111 (by decide) ?_
      refine lv_iload_n hx hb dX8_append_113 rfl (lv_at hl 2 rfl) ?_
      refine lv_iload_n hx hb dX8_append_114 rfl (lv_at hl 3 rfl) ?_
      refine lv_iconst (v := 0) hx hb dX8_append_115 (by decide) ?_
      refine lv_iconst (v := 0) hx hb dX8_append_116 (by decide) ?_
      obtain ⟨u10, hc11, hf⟩ := bind_t hf
      refine k_V (As := [.int 6, .int v1, .int v2, .int 0, .int 0]) (rest := []) (n := 5) ⟨hx, hb, hml, hown, hts⟩ (met_X8_writes l a x8 6 v1 v2 0 0 u10 hc11) w947 w949 ws33 w9 w950 ⟨rfl, by decide +kernel, by decide +kernel, by decide +kernel⟩ ⟨Nat.le_of_ble_eq_true rfl, Nat.le_of_ble_eq_true rfl⟩ hK hE hP hD hS hA (isC := [0, 1, 2, 3, 4, 5, 6, 7, 8, 9, 10, 11, 12, 13, 14]) (isR := []) (isB := [0, 1, 2, 3, 4, 5, 6, 7, 8, 9, 10, 11, 12, 13, 14]) (ws' := W_Model cI a u10) ⟨([] : List Nat).filterMap (fun i : Nat => (W_Model cI a x8 : va_W)[i]?), rfl, rfl, rfl, rfl, by decide, rfl, rfl⟩ 0 7 rfl rfl rfl rfl hl.1 rfl (Nat.le_of_ble_eq_true rfl) dX8_append_117 ⟨Nat.le_of_ble_eq_true rfl, Nat.le_of_ble_eq_true rfl⟩ (fun H locs hP hD hS => ?_)
      try dsimp only at hf
      refine W.eq (g2 := F0 m 120 ls []) rfl ?_
      obtain ⟨x12, hx12⟩ : ∃ z, z = u10 := ⟨_, rfl⟩
      replace hf := keep_e hf x12 hx12
      have hP : va_P D vwCl (W_Model cI a x12) H := by rw [hx12]; exact hP
      have hD : va_D A (W_Model cI a x12) := by rw [hx12]; exact hD
      refine lv_iload hx hb dX8_append_120 (lv_at hl 0 rfl) ?_
      obtain rfl := Option.some.inj hf
      exact W.iret (v := y9) hx hb hr (fun t ht hW => ⟨rfl, by rw [ht]; exact hP, va_K.moved hW.alike hK, hD, hS.F ht⟩) hS.2.2 dX8_append_122 hlocks
    · replace hf := if_t c4 hf
      refine lv_iconst (v := 0) hx hb dX8_append_92 (by decide) ?_
      obtain rfl := Option.some.inj hf
      exact W.iret (v := 0) hx hb hr (fun t ht hW => ⟨rfl, by rw [ht]; exact hP, va_K.moved hW.alike hK, hD, hS.F ht⟩) hS.2.2 dX8_append_93 hlocks
  have L85 : ∀ (x : MSt) (v1 : Int32) (v2 : Int32) (H : Heap) (locs : List Loc) (ls : Array Slot), fX8_append_85 x v1 v2  = some res → va_P D vwCl (W_Model cI a x) H → va_D A (W_Model cI a x) → va_S A s.heap H locs → lv_has ls 7 [(0, .ref (a 0)), (1, .int v1), (2, .int v2)] → W p l e ({ frames := 3, cells := 0, slots := 0, locals := 66 } : Room) s m ([.ref (a 0), .int p1, .int p2] : List Value).toArray below meth c H locs 0 0 (MQ below (QW D (TY cI cV cJ cD) (W_Model cI a res.1) A (some (.int res.2))) (([.ref (a 0), .int p1, .int p2] : List Value).toArray) s 0 0 A) (F0 m 85 ls [.ref (a 0)]) := by
    intro x v1 v2 H locs ls hf hP hD hS hl
    dsimp only [fX8_append_85] at hf
    refine lv_iconst (v := 3) hx hb dX8_append_85 (by decide) ?_
    exact L86 x v1 v2 3 H locs ls hf hP hD hS (lv_sub hl [0, 1, 2] rfl)
  have L47 : ∀ (x : MSt) (v1 : Int32) (v2 : Int32) (v3 : Int32) (s0 : Int32) (H : Heap) (locs : List Loc) (ls : Array Slot), fX8_append_47 x v1 v2 v3 s0  = some res → va_P D vwCl (W_Model cI a x) H → va_D A (W_Model cI a x) → va_S A s.heap H locs → lv_has ls 7 [(0, .ref (a 0)), (1, .int v1), (2, .int v2), (3, .int v3)] → W p l e ({ frames := 3, cells := 0, slots := 0, locals := 66 } : Room) s m ([.ref (a 0), .int p1, .int p2] : List Value).toArray below meth c H locs 0 0 (MQ below (QW D (TY cI cV cJ cD) (W_Model cI a res.1) A (some (.int res.2))) (([.ref (a 0), .int p1, .int p2] : List Value).toArray) s 0 0 A) (F0 m 47 ls [.int s0]) := by
    intro x v1 v2 v3 s0 H locs ls hf hP hD hS hl
    dsimp only [fX8_append_47] at hf
    refine lv_istore (lv' := [(5, .int s0), (0, .ref (a 0)), (1, .int v1), (2, .int v2), (3, .int v3)]) hx hb dX8_append_47 hl (by decide) rfl (fun ls hl => ?_)
    refine lv_aload_n hx hb dX8_append_49 rfl (lv_at hl 1 rfl) ?_
    refine lv_iload_n hx hb dX8_append_50 rfl (lv_at hl 4 rfl) ?_
    refine lv_if_ne (tgt := 58) hx hb dX8_append_51 (by decide) (fun c13 => ?_) (fun c13 => ?_)
    · replace hf := if_f c13 hf
      refine lv_iload_n hx hb dX8_append_58 rfl (lv_at hl 3 rfl) ?_
      obtain ⟨u14, hc15, hf⟩ := bind_t hf
      refine k_S (As := [.int v2]) (rest := [.ref (a 0)]) (n := 1) ⟨hx, hb, hml, hown, hts⟩ (met_X8_isValue l v2 u14 hc15) w920 w921 w9 w922 ⟨by decide +kernel, by decide +kernel, by decide +kernel⟩ ⟨Nat.le_of_ble_eq_true rfl, Nat.le_of_ble_eq_true rfl⟩ hK hE hP hD hS hA (isC := []) (isR := [0, 1, 2, 3, 4, 5, 6, 7, 8, 9, 10, 11, 12, 13, 14]) (isB := [0, 1, 2, 3, 4, 5, 6, 7, 8, 9, 10, 11, 12, 13, 14]) (ws' := W_Model cI a x) ⟨([0, 1, 2, 3, 4, 5, 6, 7, 8, 9, 10, 11, 12, 13, 14] : List Nat).filterMap (fun i : Nat => (W_Model cI a x : va_W)[i]?), rfl, rfl, rfl, rfl, by decide, rfl, rfl⟩ rfl hl.1 rfl (Nat.le_of_ble_eq_true rfl) dX8_append_59 ⟨Nat.le_of_ble_eq_true rfl, Nat.le_of_ble_eq_true rfl⟩ (fun H locs hP hD hS => ?_)
      try dsimp only at hf
      refine W.eq (g2 := F0 m 62 ls [.int u14, .ref (a 0)]) rfl ?_
      refine lv_if_ne (tgt := 69) hx hb dX8_append_62 (by decide) (fun c16 => ?_) (fun c16 => ?_)
      · replace hf := if_f c16 hf
        refine lv_iload hx hb dX8_append_69 (lv_at hl 0 rfl) ?_
        refine lv_if_eq (tgt := 85) hx hb dX8_append_71 (by decide) (fun c17 => ?_) (fun c17 => ?_)
        · replace hf := if_t c17 hf
          exact L85 x v1 v2 H locs ls hf hP hD hS (lv_sub hl [1, 2, 3] rfl)
        · replace hf := if_f c17 hf
          refine lv_aload_n hx hb dX8_append_74 rfl (lv_at hl 1 rfl) ?_
          obtain ⟨u18, hc19, hf⟩ := bind_t hf
          refine k_V (As := []) (rest := [.ref (a 0)]) (n := 0) ⟨hx, hb, hml, hown, hts⟩ (met_X8_isFull l a x u18 hc19) w923 w925 ws27 w9 w926 ⟨rfl, by decide +kernel, by decide +kernel, by decide +kernel⟩ ⟨Nat.le_of_ble_eq_true rfl, Nat.le_of_ble_eq_true rfl⟩ hK hE hP hD hS hA (isC := [0, 1, 2, 3, 4, 5, 6, 7, 8, 9, 10, 11, 12, 13, 14]) (isR := []) (isB := [0, 1, 2, 3, 4, 5, 6, 7, 8, 9, 10, 11, 12, 13, 14]) (ws' := W_Model cI a x) ⟨([] : List Nat).filterMap (fun i : Nat => (W_Model cI a x : va_W)[i]?), rfl, rfl, rfl, rfl, by decide, rfl, rfl⟩ 0 7 rfl rfl rfl rfl hl.1 rfl (Nat.le_of_ble_eq_true rfl) dX8_append_75 ⟨Nat.le_of_ble_eq_true rfl, Nat.le_of_ble_eq_true rfl⟩ (fun H locs hP hD hS => ?_)
          try dsimp only at hf
          refine W.eq (g2 := F0 m 78 ls [.int u18, .ref (a 0)]) rfl ?_
          refine lv_if_ne (tgt := 85) hx hb dX8_append_78 (by decide) (fun c20 => ?_) (fun c20 => ?_)
          · replace hf := if_f c20 hf
            exact L85 x v1 v2 H locs ls hf hP hD hS (lv_sub hl [1, 2, 3] rfl)
          · replace hf := if_t c20 hf
            refine lv_iconst (v := 0) hx hb dX8_append_81 (by decide) ?_
            refine lv_goto (tgt := 86) hx hb dX8_append_82 (by decide) ?_
            exact L86 x v1 v2 0 H locs ls hf hP hD hS (lv_sub hl [1, 2, 3] rfl)
      · replace hf := if_t c16 hf
        refine lv_iconst (v := 2) hx hb dX8_append_65 (by decide) ?_
        refine lv_goto (tgt := 86) hx hb dX8_append_66 (by decide) ?_
        exact L86 x v1 v2 2 H locs ls hf hP hD hS (lv_sub hl [1, 2, 3] rfl)
    · replace hf := if_t c13 hf
      refine lv_iconst (v := 1) hx hb dX8_append_54 (by decide) ?_
      refine lv_goto (tgt := 86) hx hb dX8_append_55 (by decide) ?_
      exact L86 x v1 v2 1 H locs ls hf hP hD hS (lv_sub hl [1, 2, 3] rfl)
  have L46 : ∀ (x : MSt) (v1 : Int32) (v2 : Int32) (v3 : Int32) (H : Heap) (locs : List Loc) (ls : Array Slot), fX8_append_46 x v1 v2 v3  = some res → va_P D vwCl (W_Model cI a x) H → va_D A (W_Model cI a x) → va_S A s.heap H locs → lv_has ls 7 [(0, .ref (a 0)), (1, .int v1), (2, .int v2), (3, .int v3)] → W p l e ({ frames := 3, cells := 0, slots := 0, locals := 66 } : Room) s m ([.ref (a 0), .int p1, .int p2] : List Value).toArray below meth c H locs 0 0 (MQ below (QW D (TY cI cV cJ cD) (W_Model cI a res.1) A (some (.int res.2))) (([.ref (a 0), .int p1, .int p2] : List Value).toArray) s 0 0 A) (F0 m 46 ls []) := by
    intro x v1 v2 v3 H locs ls hf hP hD hS hl
    dsimp only [fX8_append_46] at hf
    refine lv_iconst (v := 0) hx hb dX8_append_46 (by decide) ?_
    exact L47 x v1 v2 v3 0 H locs ls hf hP hD hS (lv_sub hl [0, 1, 2, 3] rfl)
  have L42 : ∀ (x : MSt) (v1 : Int32) (v2 : Int32) (v3 : Int32) (H : Heap) (locs : List Loc) (ls : Array Slot), fX8_append_42 x v1 v2 v3  = some res → va_P D vwCl (W_Model cI a x) H → va_D A (W_Model cI a x) → va_S A s.heap H locs → lv_has ls 7 [(0, .ref (a 0)), (1, .int v1), (2, .int v2), (3, .int v3)] → W p l e ({ frames := 3, cells := 0, slots := 0, locals := 66 } : Room) s m ([.ref (a 0), .int p1, .int p2] : List Value).toArray below meth c H locs 0 0 (MQ below (QW D (TY cI cV cJ cD) (W_Model cI a res.1) A (some (.int res.2))) (([.ref (a 0), .int p1, .int p2] : List Value).toArray) s 0 0 A) (F0 m 42 ls []) := by
    intro x v1 v2 v3 H locs ls hf hP hD hS hl
    dsimp only [fX8_append_42] at hf
    refine lv_iconst (v := 1) hx hb dX8_append_42 (by decide) ?_
    refine lv_goto (tgt := 47) hx hb dX8_append_43 (by decide) ?_
    exact L47 x v1 v2 v3 1 H locs ls hf hP hD hS (lv_sub hl [0, 1, 2, 3] rfl)
  have L18 : ∀ (x : MSt) (v1 : Int32) (v2 : Int32) (v3 : Int32) (s0 : Int32) (H : Heap) (locs : List Loc) (ls : Array Slot), fX8_append_18 x v1 v2 v3 s0  = some res → va_P D vwCl (W_Model cI a x) H → va_D A (W_Model cI a x) → va_S A s.heap H locs → lv_has ls 7 [(0, .ref (a 0)), (1, .int v1), (2, .int v2), (3, .int v3)] → W p l e ({ frames := 3, cells := 0, slots := 0, locals := 66 } : Room) s m ([.ref (a 0), .int p1, .int p2] : List Value).toArray below meth c H locs 0 0 (MQ below (QW D (TY cI cV cJ cD) (W_Model cI a res.1) A (some (.int res.2))) (([.ref (a 0), .int p1, .int p2] : List Value).toArray) s 0 0 A) (F0 m 18 ls [.int s0]) := by
    intro x v1 v2 v3 s0 H locs ls hf hP hD hS hl
    dsimp only [fX8_append_18] at hf
    refine lv_istore (lv' := [(4, .int s0), (0, .ref (a 0)), (1, .int v1), (2, .int v2), (3, .int v3)]) hx hb dX8_append_18 hl (by decide) rfl (fun ls hl => ?_)
    refine lv_iload hx hb dX8_append_20 (lv_at hl 0 rfl) ?_
    refine lv_if_eq (tgt := 42) hx hb dX8_append_22 (by decide) (fun c21 => ?_) (fun c21 => ?_)
    · replace hf := if_t c21 hf
      exact L42 x v1 v2 v3 H locs ls hf hP hD hS (lv_sub hl [1, 2, 3, 4] rfl)
    · replace hf := if_f c21 hf
      refine lv_iload hx hb dX8_append_25 (lv_at hl 0 rfl) ?_
      refine lv_iconst (v := 4) hx hb dX8_append_27 (by decide) ?_
      refine lv_icmp_ne (tgt := 46) hx hb dX8_append_28 (by decide) (fun c22 => ?_) (fun c22 => ?_)
      · replace hf := if_f c22 hf
        exact L46 x v1 v2 v3 H locs ls hf hP hD hS (lv_sub hl [1, 2, 3, 4] rfl)
      · replace hf := if_t c22 hf
        refine lv_aload_n hx hb dX8_append_31 rfl (lv_at hl 1 rfl) ?_
        refine va_get (D := D) (ci := 7) (v := .ref (a 4)) (C := RX8) (T := TX8) (N := 24) hx hb hg in_X8 hown hK hP 0 rfl rfl 5 (by decide) (hg _ w830) (fun _ h9 => h9) rfl dX8_append_32 ?_
        refine lv_iload_n hx hb dX8_append_35 rfl (lv_at hl 2 rfl) ?_
        obtain ⟨hi23, hf⟩ := chk_t hf
        refine va_iald hx hb hK hP 4 0 rfl rfl (inb_in hi23) dX8_append_36 ?_
        refine lv_bipush (v := 40) hx hb dX8_append_37 (by decide) ?_
        refine lv_icmp_ge (tgt := 46) hx hb dX8_append_39 (by decide) (fun c24 => ?_) (fun c24 => ?_)
        · replace hf := if_t c24 hf
          exact L46 x v1 v2 v3 H locs ls hf hP hD hS (lv_sub hl [1, 2, 3, 4] rfl)
        · replace hf := if_f c24 hf
          exact L42 x v1 v2 v3 H locs ls hf hP hD hS (lv_sub hl [1, 2, 3, 4] rfl)
  have M0 : ∀ (H : Heap) (locs : List Loc) (ls : Array Slot), fX8_append x p1 p2 = some res → va_P D vwCl (W_Model cI a x) H → va_D A (W_Model cI a x) → va_S A s.heap H locs → lv_has ls 7 [(0, .ref (a 0)), (1, .int p1), (2, .int p2)] → W p l e ({ frames := 3, cells := 0, slots := 0, locals := 66 } : Room) s m ([.ref (a 0), .int p1, .int p2] : List Value).toArray below meth c H locs 0 0 (MQ below (QW D (TY cI cV cJ cD) (W_Model cI a res.1) A (some (.int res.2))) (([.ref (a 0), .int p1, .int p2] : List Value).toArray) s 0 0 A) (F0 m 0 ls []) := by
    intro H locs ls hf hP hD hS hl
    dsimp only [fX8_append] at hf
    refine lv_iload_n hx hb dX8_append_0 rfl (lv_at hl 1 rfl) ?_
    obtain ⟨u25, hc26, hf⟩ := bind_t hf
    refine k_S (As := [.int p1]) (rest := []) (n := 1) ⟨hx, hb, hml, hown, hts⟩ (met_X8_isKey l p1 u25 hc26) w906 w907 w9 w908 ⟨by decide +kernel, by decide +kernel, by decide +kernel⟩ ⟨Nat.le_of_ble_eq_true rfl, Nat.le_of_ble_eq_true rfl⟩ hK hE hP hD hS hA (isC := []) (isR := [0, 1, 2, 3, 4, 5, 6, 7, 8, 9, 10, 11, 12, 13, 14]) (isB := [0, 1, 2, 3, 4, 5, 6, 7, 8, 9, 10, 11, 12, 13, 14]) (ws' := W_Model cI a x) ⟨([0, 1, 2, 3, 4, 5, 6, 7, 8, 9, 10, 11, 12, 13, 14] : List Nat).filterMap (fun i : Nat => (W_Model cI a x : va_W)[i]?), rfl, rfl, rfl, rfl, by decide, rfl, rfl⟩ rfl hl.1 rfl (Nat.le_of_ble_eq_true rfl) dX8_append_1 ⟨Nat.le_of_ble_eq_true rfl, Nat.le_of_ble_eq_true rfl⟩ (fun H locs hP hD hS => ?_)
    try dsimp only at hf
    refine W.eq (g2 := F0 m 4 ls [.int u25]) rfl ?_
    refine lv_istore_n (lv' := [(3, .int u25), (0, .ref (a 0)), (1, .int p1), (2, .int p2)]) hx hb dX8_append_4 rfl hl (by decide) rfl (fun ls hl => ?_)
    refine lv_iload_n hx hb dX8_append_5 rfl (lv_at hl 0 rfl) ?_
    refine lv_if_eq (tgt := 17) hx hb dX8_append_6 (by decide) (fun c27 => ?_) (fun c27 => ?_)
    · replace hf := if_t c27 hf
      refine lv_iconst (v := 0) hx hb dX8_append_17 (by decide) ?_
      exact L18 x p1 p2 u25 0 H locs ls hf hP hD hS (lv_sub hl [1, 2, 3, 0] rfl)
    · replace hf := if_f c27 hf
      refine lv_aload_n hx hb dX8_append_9 rfl (lv_at hl 1 rfl) ?_
      refine lv_iload_n hx hb dX8_append_10 rfl (lv_at hl 2 rfl) ?_
      obtain ⟨u28, hc29, hf⟩ := bind_t hf
      refine k_V (As := [.int p1]) (rest := []) (n := 1) ⟨hx, hb, hml, hown, hts⟩ (met_X8_typeNow l a x p1 u28 hc29) w912 w914 ws25 w9 w915 ⟨rfl, by decide +kernel, by decide +kernel, by decide +kernel⟩ ⟨Nat.le_of_ble_eq_true rfl, Nat.le_of_ble_eq_true rfl⟩ hK hE hP hD hS hA (isC := [0, 1, 2, 3, 4, 5, 6, 7, 8, 9, 10, 11, 12, 13, 14]) (isR := []) (isB := [0, 1, 2, 3, 4, 5, 6, 7, 8, 9, 10, 11, 12, 13, 14]) (ws' := W_Model cI a x) ⟨([] : List Nat).filterMap (fun i : Nat => (W_Model cI a x : va_W)[i]?), rfl, rfl, rfl, rfl, by decide, rfl, rfl⟩ 0 7 rfl rfl rfl rfl hl.1 rfl (Nat.le_of_ble_eq_true rfl) dX8_append_11 ⟨Nat.le_of_ble_eq_true rfl, Nat.le_of_ble_eq_true rfl⟩ (fun H locs hP hD hS => ?_)
      try dsimp only at hf
      refine W.eq (g2 := F0 m 14 ls [.int u28]) rfl ?_
      refine lv_goto (tgt := 18) hx hb dX8_append_14 (by decide) ?_
      exact L18 x p1 p2 u25 u28 H locs ls hf hP hD hS (lv_sub hl [1, 2, 3, 0] rfl)
  exact M0 s.heap [] ls hf hP hD hS hl
/-! CompactformsModel.isGroup(II)Z -/
def fX8_isGroup (p0 : Int32) (p1 : Int32) : Option (Int32) := (fX8_isKey p0).bind (fun u1 => (if u1 = 0 then some 0 else (fX8_isIn p1 0 2).bind (fun u4 => (if u4 = 0 then some 0 else some 1))))
set_option maxHeartbeats 4000000 in
set_option maxRecDepth 100000 in
theorem met_X8_isGroup {D : va_G} {cI cV cJ cD : ClassId} (l : Launch) (p0 : Int32) (p1 : Int32) (res : Int32) (hf : fX8_isGroup p0 p1 = some res) : MM l yX8_isGroup cX8_isGroup 2 (some .boolean) { frames := 2, cells := 0, slots := 0, locals := 42 } D (TY cI cV cJ cD) ([]) ([]) [.int p0, .int p1] (some (.int res)) := by
  intro sz
  refine Met.ofW (cc := cX8_isGroup) (maxL := 2) (ret := (some .boolean)) (by decide +kernel) rfl ?_
  intro p e s m args below meth c s₁ B hml hv
  obtain ⟨rfl, hsz, hP, hK, hD0, hE⟩ := hv
  have hx := B.exec
  have hb := B.bytes
  have hr := B.returns
  have hts := atoms_spec (ws := .code yX8_isGroup cX8_isGroup 2 (some .boolean) :: GW) B.pre
  have hg : ∀ w ∈ GW, w.before (([.int p0, .int p1] : List Value).toArray) s = true := fun w h => hts w (List.mem_cons_of_mem _ h)
  have hown : s.vm.findClass RX8 = some m.cls := findClass_of_methodNamed B.named
  have hlocks := B.notSynchronized
  subst hsz
  have hD := hD0.self (sz := s.heap.size)
  generalize hAe : va_A ([]) s.heap.size = A at hD hE ⊢
  have hA : ∀ q : Nat, s.heap.size ≤ q → A q := fun q h => by rw [← hAe]; exact Or.inr h
  have hS : va_S A s.heap s.heap [] := va_S.rf
  have hl := lv_entry ([.int p0, .int p1]) (n := 2) (Nat.le_of_ble_eq_true rfl)
  rw [lg_entry_eq]
  generalize (lg_sl ([.int p0, .int p1]) ++ List.replicate (2 - (lg_sl ([.int p0, .int p1])).length) Slot.unset).toArray = ls at hl ⊢
  have hl : lv_has ls 2 [(0, .int p0), (1, .int p1)] := hl
  have M0 : ∀ (H : Heap) (locs : List Loc) (ls : Array Slot), fX8_isGroup p0 p1 = some res → va_P D vwCl ([]) H → va_D A ([]) → va_S A s.heap H locs → lv_has ls 2 [(0, .int p0), (1, .int p1)] → W p l e ({ frames := 2, cells := 0, slots := 0, locals := 42 } : Room) s m ([.int p0, .int p1] : List Value).toArray below meth c H locs 0 0 (MQ below (QW D (TY cI cV cJ cD) ([]) A (some (.int res))) (([.int p0, .int p1] : List Value).toArray) s 0 0 A) (F0 m 0 ls []) := by
    intro H locs ls hf hP hD hS hl
    dsimp only [fX8_isGroup] at hf
    refine lv_iload_n hx hb dX8_isGroup_0 rfl (lv_at hl 0 rfl) ?_
    obtain ⟨u1, hc2, hf⟩ := bind_t hf
    refine k_S (As := [.int p0]) (rest := []) (n := 1) ⟨hx, hb, hml, hown, hts⟩ (met_X8_isKey l p0 u1 hc2) w906 w907 w9 w908 ⟨by decide +kernel, by decide +kernel, by decide +kernel⟩ ⟨Nat.le_of_ble_eq_true rfl, Nat.le_of_ble_eq_true rfl⟩ hK hE hP hD hS hA (isC := []) (isR := []) (isB := []) (ws' := []) ⟨([] : List Nat).filterMap (fun i : Nat => ([] : va_W)[i]?), rfl, rfl, rfl, rfl, by decide, rfl, rfl⟩ rfl hl.1 rfl (Nat.le_of_ble_eq_true rfl) dX8_isGroup_1 ⟨Nat.le_of_ble_eq_true rfl, Nat.le_of_ble_eq_true rfl⟩ (fun H locs hP hD hS => ?_)
    try dsimp only at hf
    refine W.eq (g2 := F0 m 4 ls [.int u1]) rfl ?_
    refine lv_if_eq (tgt := 20) hx hb dX8_isGroup_4 (by decide) (fun c3 => ?_) (fun c3 => ?_)
    · replace hf := if_t c3 hf
      refine lv_iconst (v := 0) hx hb dX8_isGroup_20 (by decide) ?_
      obtain rfl := Option.some.inj hf
      exact W.zret (v := 0) hx hb hr (by decide +kernel) (fun t ht hW => ⟨rfl, by rw [ht]; exact hP, va_K.moved hW.alike hK, hD, hS.F ht⟩) hS.2.2 dX8_isGroup_21 hlocks
    · replace hf := if_f c3 hf
      refine lv_iload_n hx hb dX8_isGroup_7 rfl (lv_at hl 1 rfl) ?_
      refine lv_iconst (v := 0) hx hb dX8_isGroup_8 (by decide) ?_
      refine lv_iconst (v := 2) hx hb dX8_isGroup_9 (by decide) ?_
      obtain ⟨u4, hc5, hf⟩ := bind_t hf
      refine k_S (As := [.int p1, .int 0, .int 2]) (rest := []) (n := 3) ⟨hx, hb, hml, hown, hts⟩ (met_X8_isIn l p1 0 2 u4 hc5) w909 w910 w9 w911 ⟨by decide +kernel, by decide +kernel, by decide +kernel⟩ ⟨Nat.le_of_ble_eq_true rfl, Nat.le_of_ble_eq_true rfl⟩ hK hE hP hD hS hA (isC := []) (isR := []) (isB := []) (ws' := []) ⟨([] : List Nat).filterMap (fun i : Nat => ([] : va_W)[i]?), rfl, rfl, rfl, rfl, by decide, rfl, rfl⟩ rfl hl.1 rfl (Nat.le_of_ble_eq_true rfl) dX8_isGroup_10 ⟨Nat.le_of_ble_eq_true rfl, Nat.le_of_ble_eq_true rfl⟩ (fun H locs hP hD hS => ?_)
      try dsimp only at hf
      refine W.eq (g2 := F0 m 13 ls [.int u4]) rfl ?_
      refine lv_if_eq (tgt := 20) hx hb dX8_isGroup_13 (by decide) (fun c6 => ?_) (fun c6 => ?_)
      · replace hf := if_t c6 hf
        refine lv_iconst (v := 0) hx hb dX8_isGroup_20 (by decide) ?_
        obtain rfl := Option.some.inj hf
        exact W.zret (v := 0) hx hb hr (by decide +kernel) (fun t ht hW => ⟨rfl, by rw [ht]; exact hP, va_K.moved hW.alike hK, hD, hS.F ht⟩) hS.2.2 dX8_isGroup_21 hlocks
      · replace hf := if_f c6 hf
        refine lv_iconst (v := 1) hx hb dX8_isGroup_16 (by decide) ?_
        refine lv_goto (tgt := 21) hx hb dX8_isGroup_17 (by decide) ?_
        obtain rfl := Option.some.inj hf
        exact W.zret (v := 1) hx hb hr (by decide +kernel) (fun t ht hW => ⟨rfl, by rw [ht]; exact hP, va_K.moved hW.alike hK, hD, hS.F ht⟩) hS.2.2 dX8_isGroup_21 hlocks
  exact M0 s.heap [] ls hf hP hD hS hl
/-! CompactformsModel.isReader(III)Z -/
def fX8_isReader (p0 : Int32) (p1 : Int32) (p2 : Int32) : Option (Int32) := (fX8_isGroup p0 p1).bind (fun u1 => (if u1 = 0 then some 0 else (fX8_isIn p2 0 3).bind (fun u4 => (if u4 = 0 then some 0 else some 1))))
set_option maxHeartbeats 4000000 in
set_option maxRecDepth 100000 in
theorem met_X8_isReader {D : va_G} {cI cV cJ cD : ClassId} (l : Launch) (p0 : Int32) (p1 : Int32) (p2 : Int32) (res : Int32) (hf : fX8_isReader p0 p1 p2 = some res) : MM l yX8_isReader cX8_isReader 3 (some .boolean) { frames := 3, cells := 0, slots := 0, locals := 63 } D (TY cI cV cJ cD) ([]) ([]) [.int p0, .int p1, .int p2] (some (.int res)) := by
  intro sz
  refine Met.ofW (cc := cX8_isReader) (maxL := 3) (ret := (some .boolean)) (by decide +kernel) rfl ?_
  intro p e s m args below meth c s₁ B hml hv
  obtain ⟨rfl, hsz, hP, hK, hD0, hE⟩ := hv
  have hx := B.exec
  have hb := B.bytes
  have hr := B.returns
  have hts := atoms_spec (ws := .code yX8_isReader cX8_isReader 3 (some .boolean) :: GW) B.pre
  have hg : ∀ w ∈ GW, w.before (([.int p0, .int p1, .int p2] : List Value).toArray) s = true := fun w h => hts w (List.mem_cons_of_mem _ h)
  have hown : s.vm.findClass RX8 = some m.cls := findClass_of_methodNamed B.named
  have hlocks := B.notSynchronized
  subst hsz
  have hD := hD0.self (sz := s.heap.size)
  generalize hAe : va_A ([]) s.heap.size = A at hD hE ⊢
  have hA : ∀ q : Nat, s.heap.size ≤ q → A q := fun q h => by rw [← hAe]; exact Or.inr h
  have hS : va_S A s.heap s.heap [] := va_S.rf
  have hl := lv_entry ([.int p0, .int p1, .int p2]) (n := 3) (Nat.le_of_ble_eq_true rfl)
  rw [lg_entry_eq]
  generalize (lg_sl ([.int p0, .int p1, .int p2]) ++ List.replicate (3 - (lg_sl ([.int p0, .int p1, .int p2])).length) Slot.unset).toArray = ls at hl ⊢
  have hl : lv_has ls 3 [(0, .int p0), (1, .int p1), (2, .int p2)] := hl
  have M0 : ∀ (H : Heap) (locs : List Loc) (ls : Array Slot), fX8_isReader p0 p1 p2 = some res → va_P D vwCl ([]) H → va_D A ([]) → va_S A s.heap H locs → lv_has ls 3 [(0, .int p0), (1, .int p1), (2, .int p2)] → W p l e ({ frames := 3, cells := 0, slots := 0, locals := 63 } : Room) s m ([.int p0, .int p1, .int p2] : List Value).toArray below meth c H locs 0 0 (MQ below (QW D (TY cI cV cJ cD) ([]) A (some (.int res))) (([.int p0, .int p1, .int p2] : List Value).toArray) s 0 0 A) (F0 m 0 ls []) := by
    intro H locs ls hf hP hD hS hl
    dsimp only [fX8_isReader] at hf
    refine lv_iload_n hx hb dX8_isReader_0 rfl (lv_at hl 0 rfl) ?_
    refine lv_iload_n hx hb dX8_isReader_1 rfl (lv_at hl 1 rfl) ?_
    obtain ⟨u1, hc2, hf⟩ := bind_t hf
    refine k_S (As := [.int p0, .int p1]) (rest := []) (n := 2) ⟨hx, hb, hml, hown, hts⟩ (met_X8_isGroup l p0 p1 u1 hc2) w1022 w1023 w9 w1024 ⟨by decide +kernel, by decide +kernel, by decide +kernel⟩ ⟨Nat.le_of_ble_eq_true rfl, Nat.le_of_ble_eq_true rfl⟩ hK hE hP hD hS hA (isC := []) (isR := []) (isB := []) (ws' := []) ⟨([] : List Nat).filterMap (fun i : Nat => ([] : va_W)[i]?), rfl, rfl, rfl, rfl, by decide, rfl, rfl⟩ rfl hl.1 rfl (Nat.le_of_ble_eq_true rfl) dX8_isReader_2 ⟨Nat.le_of_ble_eq_true rfl, Nat.le_of_ble_eq_true rfl⟩ (fun H locs hP hD hS => ?_)
    try dsimp only at hf
    refine W.eq (g2 := F0 m 5 ls [.int u1]) rfl ?_
    refine lv_if_eq (tgt := 21) hx hb dX8_isReader_5 (by decide) (fun c3 => ?_) (fun c3 => ?_)
    · replace hf := if_t c3 hf
      refine lv_iconst (v := 0) hx hb dX8_isReader_21 (by decide) ?_
      obtain rfl := Option.some.inj hf
      exact W.zret (v := 0) hx hb hr (by decide +kernel) (fun t ht hW => ⟨rfl, by rw [ht]; exact hP, va_K.moved hW.alike hK, hD, hS.F ht⟩) hS.2.2 dX8_isReader_22 hlocks
    · replace hf := if_f c3 hf
      refine lv_iload_n hx hb dX8_isReader_8 rfl (lv_at hl 2 rfl) ?_
      refine lv_iconst (v := 0) hx hb dX8_isReader_9 (by decide) ?_
      refine lv_iconst (v := 3) hx hb dX8_isReader_10 (by decide) ?_
      obtain ⟨u4, hc5, hf⟩ := bind_t hf
      refine k_S (As := [.int p2, .int 0, .int 3]) (rest := []) (n := 3) ⟨hx, hb, hml, hown, hts⟩ (met_X8_isIn l p2 0 3 u4 hc5) w909 w910 w9 w911 ⟨by decide +kernel, by decide +kernel, by decide +kernel⟩ ⟨Nat.le_of_ble_eq_true rfl, Nat.le_of_ble_eq_true rfl⟩ hK hE hP hD hS hA (isC := []) (isR := []) (isB := []) (ws' := []) ⟨([] : List Nat).filterMap (fun i : Nat => ([] : va_W)[i]?), rfl, rfl, rfl, rfl, by decide, rfl, rfl⟩ rfl hl.1 rfl (Nat.le_of_ble_eq_true rfl) dX8_isReader_11 ⟨Nat.le_of_ble_eq_true rfl, Nat.le_of_ble_eq_true rfl⟩ (fun H locs hP hD hS => ?_)
      try dsimp only at hf
      refine W.eq (g2 := F0 m 14 ls [.int u4]) rfl ?_
      refine lv_if_eq (tgt := 21) hx hb dX8_isReader_14 (by decide) (fun c6 => ?_) (fun c6 => ?_)
      · replace hf := if_t c6 hf
        refine lv_iconst (v := 0) hx hb dX8_isReader_21 (by decide) ?_
        obtain rfl := Option.some.inj hf
        exact W.zret (v := 0) hx hb hr (by decide +kernel) (fun t ht hW => ⟨rfl, by rw [ht]; exact hP, va_K.moved hW.alike hK, hD, hS.F ht⟩) hS.2.2 dX8_isReader_22 hlocks
      · replace hf := if_f c6 hf
        refine lv_iconst (v := 1) hx hb dX8_isReader_17 (by decide) ?_
        refine lv_goto (tgt := 22) hx hb dX8_isReader_18 (by decide) ?_
        obtain rfl := Option.some.inj hf
        exact W.zret (v := 1) hx hb hr (by decide +kernel) (fun t ht hW => ⟨rfl, by rw [ht]; exact hP, va_K.moved hW.alike hK, hD, hS.F ht⟩) hS.2.2 dX8_isReader_22 hlocks
  exact M0 s.heap [] ls hf hP hD hS hl

/-! CompactformsModel.copiesStream(I)V -/
def fX8_copiesStream_51 (rec7 : MSt × Int32 → Option (MSt)) (v1 : Int32) (v2 : Int32) (rec51 : MSt × Int32 → Option (MSt)) (s : MSt × Int32) : Option (MSt) := match s with | (x, v3) => (if 6 ≤ v3 then keep (mNewRows_s x ((mNewRows x) + 1)) (fun x2 => keep (v2 + 1) (fun y3 => rec7 (x2, y3))) else chk (inb ((6 * v2) + v3) 1800) (chk (inb ((6 * (mNewRows x)) + v3) 3600) (keep (mFresh_s x (upd (mFresh x) (((6 * (mNewRows x)) + v3)).toNatClampNeg ((mLog x) (((6 * v2) + v3)).toNatClampNeg))) (fun x6 => keep (v3 + 1) (fun y7 => rec51 (x6, y7))))))
def fX8_copiesStream_7 (v1 : Int32) (rec7 : MSt × Int32 → Option (MSt)) (s : MSt × Int32) : Option (MSt) := match s with | (x, v2) => (if (mRows x) ≤ v2 then some x else chk (inb ((6 * v2) + 1) 1800) ((if ((mLog x) (((6 * v2) + 1)).toNatClampNeg) = v1 then chk (inb (6 * v2) 1800) ((fX8_isIn ((mLog x) ((6 * v2)).toNatClampNeg) 6 9).bind (fun u13 => (if u13 = 0 then keep (v2 + 1) (fun y16 => rec7 (x, y16)) else iterK FU (fX8_copiesStream_51 rec7 v1 v2) (x, 0)))) else keep (v2 + 1) (fun y11 => rec7 (x, y11)))))
def fX8_copiesStream (x : MSt) (p1 : Int32) : Option (MSt) := chk (inb p1 16) (keep ((mMadeAt x) (p1).toNatClampNeg) (fun y18 => iterK FU (fX8_copiesStream_7 p1) (x, y18)))
set_option maxHeartbeats 4000000 in
set_option maxRecDepth 100000 in
theorem met_X8_copiesStream {D : va_G} {cI cV cJ cD : ClassId} (l : Launch) (a : Nat → Nat) (x : MSt) (p1 : Int32) (res : MSt) (hf : fX8_copiesStream x p1 = some res) : MM l yX8_copiesStream cX8_copiesStream 4 none { frames := 1, cells := 0, slots := 0, locals := 22 } D (TY cI cV cJ cD) (W_Model cI a x) (W_Model cI a res) [.ref (a 0), .int p1] none := by
  intro sz
  refine Met.ofW (cc := cX8_copiesStream) (maxL := 4) (ret := none) (by decide +kernel) rfl ?_
  intro p e s m args below meth c s₁ B hml hv
  obtain ⟨rfl, hsz, hP, hK, hD0, hE⟩ := hv
  have hx := B.exec
  have hb := B.bytes
  have hr := B.returns
  have hts := atoms_spec (ws := .code yX8_copiesStream cX8_copiesStream 4 none :: GW) B.pre
  have hg : ∀ w ∈ GW, w.before (([.ref (a 0), .int p1] : List Value).toArray) s = true := fun w h => hts w (List.mem_cons_of_mem _ h)
  have hown : s.vm.findClass RX8 = some m.cls := findClass_of_methodNamed B.named
  have hlocks := B.notSynchronized
  subst hsz
  have hD := hD0.self (sz := s.heap.size)
  generalize hAe : va_A (W_Model cI a x) s.heap.size = A at hD hE ⊢
  have hA : ∀ q : Nat, s.heap.size ≤ q → A q := fun q h => by rw [← hAe]; exact Or.inr h
  have hS : va_S A s.heap s.heap [] := va_S.rf
  have hl := lv_entry ([.ref (a 0), .int p1]) (n := 4) (Nat.le_of_ble_eq_true rfl)
  rw [lg_entry_eq]
  generalize (lg_sl ([.ref (a 0), .int p1]) ++ List.replicate (4 - (lg_sl ([.ref (a 0), .int p1])).length) Slot.unset).toArray = ls at hl ⊢
  have hl : lv_has ls 4 [(0, .ref (a 0)), (1, .int p1)] := hl
  have S51 : ∀ (v1 : Int32) (v2 : Int32) (rec7 : MSt × Int32 → Option (MSt)) (hrec7 : ∀ (x : MSt), ∀ (v2 : Int32), ∀ (H : Heap) (locs : List Loc) (ls : Array Slot), rec7 (x, v2) = some res → va_P D vwCl (W_Model cI a x) H → va_D A (W_Model cI a x) → va_S A s.heap H locs → lv_has ls 4 [(0, .ref (a 0)), (1, .int v1), (2, .int v2)] → W p l e ({ frames := 1, cells := 0, slots := 0, locals := 22 } : Room) s m ([.ref (a 0), .int p1] : List Value).toArray below meth c H locs 0 0 (MQ below (QW D (TY cI cV cJ cD) (W_Model cI a res) A none) (([.ref (a 0), .int p1] : List Value).toArray) s 0 0 A) (F0 m 7 ls [])) (rec51 : MSt × Int32 → Option (MSt)) (hrec51 : ∀ (x : MSt), ∀ (v3 : Int32), ∀ (H : Heap) (locs : List Loc) (ls : Array Slot), rec51 (x, v3) = some res → va_P D vwCl (W_Model cI a x) H → va_D A (W_Model cI a x) → va_S A s.heap H locs → lv_has ls 4 [(0, .ref (a 0)), (1, .int v1), (2, .int v2), (3, .int v3)] → W p l e ({ frames := 1, cells := 0, slots := 0, locals := 22 } : Room) s m ([.ref (a 0), .int p1] : List Value).toArray below meth c H locs 0 0 (MQ below (QW D (TY cI cV cJ cD) (W_Model cI a res) A none) (([.ref (a 0), .int p1] : List Value).toArray) s 0 0 A) (F0 m 51 ls [])) (x : MSt) (v3 : Int32) (H : Heap) (locs : List Loc) (ls : Array Slot), fX8_copiesStream_51 rec7 v1 v2  rec51 (x, v3) = some res → va_P D vwCl (W_Model cI a x) H → va_D A (W_Model cI a x) → va_S A s.heap H locs → lv_has ls 4 [(0, .ref (a 0)), (1, .int v1), (2, .int v2), (3, .int v3)] → W p l e ({ frames := 1, cells := 0, slots := 0, locals := 22 } : Room) s m ([.ref (a 0), .int p1] : List Value).toArray below meth c H locs 0 0 (MQ below (QW D (TY cI cV cJ cD) (W_Model cI a res) A none) (([.ref (a 0), .int p1] : List Value).toArray) s 0 0 A) (F0 m 51 ls []) := by
    intro v1 v2 rec7 hrec7 rec51 hrec51 x v3 H locs ls hf hP hD hS hl
    dsimp only [fX8_copiesStream_51] at hf
    refine lv_iload_n hx hb dX8_copiesStream_51 rfl (lv_at hl 3 rfl) ?_
    refine lv_bipush (v := 6) hx hb dX8_copiesStream_52 (by decide) ?_
    refine lv_icmp_ge (tgt := 88) hx hb dX8_copiesStream_54 (by decide) (fun c1 => ?_) (fun c1 => ?_)
    · replace hf := if_t c1 hf
      refine lv_aload_n hx hb dX8_copiesStream_88 rfl (lv_at hl 0 rfl) ?_
      refine lv_dup hx hb dX8_copiesStream_89 rfl ?_
      refine va_get (D := D) (ci := 7) (v := .int (mNewRows x)) (C := RX8) (T := TX8) (N := 24) hx hb hg in_X8 hown hK hP 0 rfl rfl 20 (by decide) (hg _ w845) (fun _ h9 => h9) rfl dX8_copiesStream_90 ?_
      refine lv_iconst (v := 1) hx hb dX8_copiesStream_93 (by decide) ?_
      refine lv_iadd hx hb dX8_copiesStream_94 ?_
      refine va_put (D := D) (ci := 7) (v := .int ((mNewRows x) + 1)) (ty := .int) (C := RX8) (T := TX8) (N := 24) hx hb hg in_X8 tyX8 tyX8_ok nmX8 hown hK hP hD hS 0 rfl rfl 20 (by decide) (hg _ w845) (fun _ h9 => h9) rfl (by decide +kernel) rfl rfl (Nat.le_of_ble_eq_true rfl) dX8_copiesStream_95 (fun H locs hP hD hS => ?_)
      obtain ⟨x2, hx2⟩ : ∃ z, z = (mNewRows_s x ((mNewRows x) + 1)) := ⟨_, rfl⟩
      replace hf := keep_e hf x2 hx2
      have hP : va_P D vwCl (W_Model cI a x2) H := by rw [hx2]; exact hP
      have hD : va_D A (W_Model cI a x2) := by rw [hx2]; exact hD
      obtain ⟨y3, hy3⟩ : ∃ z : Int32, z = (v2 + 1) := ⟨_, rfl⟩
      replace hf := keep_e hf y3 hy3
      refine lv_iinc (v := y3) (lv' := [(2, .int y3), (0, .ref (a 0)), (1, .int v1), (3, .int v3)]) hx hb dX8_copiesStream_98 hl (k := 2) rfl (by rw [hy3]; rfl) (by decide) rfl (fun ls hl => ?_)
      refine lv_goto (tgt := 7) hx hb dX8_copiesStream_101 (by decide) ?_
      exact hrec7 x2 y3 H locs ls hf hP hD hS (lv_sub hl [1, 2, 0] rfl)
    · replace hf := if_f c1 hf
      refine lv_aload_n hx hb dX8_copiesStream_57 rfl (lv_at hl 0 rfl) ?_
      refine va_get (D := D) (ci := 7) (v := .ref (a 13)) (C := RX8) (T := TX8) (N := 24) hx hb hg in_X8 hown hK hP 0 rfl rfl 21 (by decide) (hg _ w846) (fun _ h9 => h9) rfl dX8_copiesStream_58 ?_
      refine lv_bipush (v := 6) hx hb dX8_copiesStream_61 (by decide) ?_
      refine lv_aload_n hx hb dX8_copiesStream_63 rfl (lv_at hl 0 rfl) ?_
      refine va_get (D := D) (ci := 7) (v := .int (mNewRows x)) (C := RX8) (T := TX8) (N := 24) hx hb hg in_X8 hown hK hP 0 rfl rfl 20 (by decide) (hg _ w845) (fun _ h9 => h9) rfl dX8_copiesStream_64 ?_
      refine lv_imul hx hb dX8_copiesStream_67 ?_
      refine lv_iload_n hx hb dX8_copiesStream_68 rfl (lv_at hl 3 rfl) ?_
      refine lv_iadd hx hb dX8_copiesStream_69 ?_
      refine lv_aload_n hx hb dX8_copiesStream_70 rfl (lv_at hl 0 rfl) ?_
      refine va_get (D := D) (ci := 7) (v := .ref (a 12)) (C := RX8) (T := TX8) (N := 24) hx hb hg in_X8 hown hK hP 0 rfl rfl 16 (by decide) (hg _ w841) (fun _ h9 => h9) rfl dX8_copiesStream_71 ?_
      refine lv_bipush (v := 6) hx hb dX8_copiesStream_74 (by decide) ?_
      refine lv_iload_n hx hb dX8_copiesStream_76 rfl (lv_at hl 2 rfl) ?_
      refine lv_imul hx hb dX8_copiesStream_77 ?_
      refine lv_iload_n hx hb dX8_copiesStream_78 rfl (lv_at hl 3 rfl) ?_
      refine lv_iadd hx hb dX8_copiesStream_79 ?_
      obtain ⟨hi4, hf⟩ := chk_t hf
      refine va_iald hx hb hK hP 12 0 rfl rfl (inb_in hi4) dX8_copiesStream_80 ?_
      obtain ⟨hi5, hf⟩ := chk_t hf
      refine va_iast hx hb hK hP hD hS 13 0 rfl rfl (inb_in hi5) dX8_copiesStream_81 (fun H locs hP hD hS => ?_)
      obtain ⟨x6, hx6⟩ : ∃ z, z = (mFresh_s x (upd (mFresh x) (((6 * (mNewRows x)) + v3)).toNatClampNeg ((mLog x) (((6 * v2) + v3)).toNatClampNeg))) := ⟨_, rfl⟩
      replace hf := keep_e hf x6 hx6
      have hP : va_P D vwCl (W_Model cI a x6) H := by rw [hx6]; exact hP
      have hD : va_D A (W_Model cI a x6) := by rw [hx6]; exact hD
      obtain ⟨y7, hy7⟩ : ∃ z : Int32, z = (v3 + 1) := ⟨_, rfl⟩
      replace hf := keep_e hf y7 hy7
      refine lv_iinc (v := y7) (lv' := [(3, .int y7), (0, .ref (a 0)), (1, .int v1), (2, .int v2)]) hx hb dX8_copiesStream_82 hl (k := 3) rfl (by rw [hy7]; rfl) (by decide) rfl (fun ls hl => ?_)
      refine lv_goto (tgt := 51) hx hb dX8_copiesStream_85 (by decide) ?_
      exact hrec51 x6 y7 H locs ls hf hP hD hS (lv_sub hl [1, 2, 3, 0] rfl)
  have L51 : ∀ (v1 : Int32) (v2 : Int32) (rec7 : MSt × Int32 → Option (MSt)) (hrec7 : ∀ (x : MSt), ∀ (v2 : Int32), ∀ (H : Heap) (locs : List Loc) (ls : Array Slot), rec7 (x, v2) = some res → va_P D vwCl (W_Model cI a x) H → va_D A (W_Model cI a x) → va_S A s.heap H locs → lv_has ls 4 [(0, .ref (a 0)), (1, .int v1), (2, .int v2)] → W p l e ({ frames := 1, cells := 0, slots := 0, locals := 22 } : Room) s m ([.ref (a 0), .int p1] : List Value).toArray below meth c H locs 0 0 (MQ below (QW D (TY cI cV cJ cD) (W_Model cI a res) A none) (([.ref (a 0), .int p1] : List Value).toArray) s 0 0 A) (F0 m 7 ls [])) (fu : Nat) (x : MSt) (v3 : Int32) (H : Heap) (locs : List Loc) (ls : Array Slot), iterK fu (fX8_copiesStream_51 rec7 v1 v2 ) (x, v3) = some res → va_P D vwCl (W_Model cI a x) H → va_D A (W_Model cI a x) → va_S A s.heap H locs → lv_has ls 4 [(0, .ref (a 0)), (1, .int v1), (2, .int v2), (3, .int v3)] → W p l e ({ frames := 1, cells := 0, slots := 0, locals := 22 } : Room) s m ([.ref (a 0), .int p1] : List Value).toArray below meth c H locs 0 0 (MQ below (QW D (TY cI cV cJ cD) (W_Model cI a res) A none) (([.ref (a 0), .int p1] : List Value).toArray) s 0 0 A) (F0 m 51 ls []) := by
    intro v1 v2 rec7 hrec7 fu
    induction fu with
    | zero =>
      intro x v3 H locs ls hf
      cases hf
    | succ fu ih =>
      intro x v3 H locs ls hf hP hD hS hl
      exact S51 v1 v2 rec7 hrec7 (iterK fu (fX8_copiesStream_51 rec7 v1 v2 )) ih x v3 H locs ls hf hP hD hS hl
  have S7 : ∀ (v1 : Int32) (rec7 : MSt × Int32 → Option (MSt)) (hrec7 : ∀ (x : MSt), ∀ (v2 : Int32), ∀ (H : Heap) (locs : List Loc) (ls : Array Slot), rec7 (x, v2) = some res → va_P D vwCl (W_Model cI a x) H → va_D A (W_Model cI a x) → va_S A s.heap H locs → lv_has ls 4 [(0, .ref (a 0)), (1, .int v1), (2, .int v2)] → W p l e ({ frames := 1, cells := 0, slots := 0, locals := 22 } : Room) s m ([.ref (a 0), .int p1] : List Value).toArray below meth c H locs 0 0 (MQ below (QW D (TY cI cV cJ cD) (W_Model cI a res) A none) (([.ref (a 0), .int p1] : List Value).toArray) s 0 0 A) (F0 m 7 ls [])) (x : MSt) (v2 : Int32) (H : Heap) (locs : List Loc) (ls : Array Slot), fX8_copiesStream_7 v1  rec7 (x, v2) = some res → va_P D vwCl (W_Model cI a x) H → va_D A (W_Model cI a x) → va_S A s.heap H locs → lv_has ls 4 [(0, .ref (a 0)), (1, .int v1), (2, .int v2)] → W p l e ({ frames := 1, cells := 0, slots := 0, locals := 22 } : Room) s m ([.ref (a 0), .int p1] : List Value).toArray below meth c H locs 0 0 (MQ below (QW D (TY cI cV cJ cD) (W_Model cI a res) A none) (([.ref (a 0), .int p1] : List Value).toArray) s 0 0 A) (F0 m 7 ls []) := by
    intro v1 rec7 hrec7 x v2 H locs ls hf hP hD hS hl
    dsimp only [fX8_copiesStream_7] at hf
    refine lv_iload_n hx hb dX8_copiesStream_7 rfl (lv_at hl 2 rfl) ?_
    refine lv_aload_n hx hb dX8_copiesStream_8 rfl (lv_at hl 0 rfl) ?_
    refine va_get (D := D) (ci := 7) (v := .int (mRows x)) (C := RX8) (T := TX8) (N := 24) hx hb hg in_X8 hown hK hP 0 rfl rfl 14 (by decide) (hg _ w839) (fun _ h9 => h9) rfl dX8_copiesStream_9 ?_
    refine lv_icmp_ge (tgt := 104) hx hb dX8_copiesStream_12 (by decide) (fun c8 => ?_) (fun c8 => ?_)
    · replace hf := if_t c8 hf
      obtain rfl := Option.some.inj hf
      exact W.vret hx hb hr (fun t ht hW => ⟨rfl, by rw [ht]; exact hP, va_K.moved hW.alike hK, hD, hS.F ht⟩) hS.2.2 dX8_copiesStream_104 hlocks
    · replace hf := if_f c8 hf
      refine lv_aload_n hx hb dX8_copiesStream_15 rfl (lv_at hl 0 rfl) ?_
      refine va_get (D := D) (ci := 7) (v := .ref (a 12)) (C := RX8) (T := TX8) (N := 24) hx hb hg in_X8 hown hK hP 0 rfl rfl 16 (by decide) (hg _ w841) (fun _ h9 => h9) rfl dX8_copiesStream_16 ?_
      refine lv_bipush (v := 6) hx hb dX8_copiesStream_19 (by decide) ?_
      refine lv_iload_n hx hb dX8_copiesStream_21 rfl (lv_at hl 2 rfl) ?_
      refine lv_imul hx hb dX8_copiesStream_22 ?_
      refine lv_iconst (v := 1) hx hb dX8_copiesStream_23 (by decide) ?_
      refine lv_iadd hx hb dX8_copiesStream_24 ?_
      obtain ⟨hi9, hf⟩ := chk_t hf
      refine va_iald hx hb hK hP 12 0 rfl rfl (inb_in hi9) dX8_copiesStream_25 ?_
      refine lv_iload_n hx hb dX8_copiesStream_26 rfl (lv_at hl 1 rfl) ?_
      refine lv_icmp_ne (tgt := 98) hx hb dX8_copiesStream_27 (by decide) (fun c10 => ?_) (fun c10 => ?_)
      · replace hf := if_f c10 hf
        obtain ⟨y11, hy11⟩ : ∃ z : Int32, z = (v2 + 1) := ⟨_, rfl⟩
        replace hf := keep_e hf y11 hy11
        refine lv_iinc (v := y11) (lv' := [(2, .int y11), (0, .ref (a 0)), (1, .int v1)]) hx hb dX8_copiesStream_98 hl (k := 2) rfl (by rw [hy11]; rfl) (by decide) rfl (fun ls hl => ?_)
        refine lv_goto (tgt := 7) hx hb dX8_copiesStream_101 (by decide) ?_
        exact hrec7 x y11 H locs ls hf hP hD hS (lv_sub hl [1, 2, 0] rfl)
      · replace hf := if_t c10 hf
        refine lv_aload_n hx hb dX8_copiesStream_30 rfl (lv_at hl 0 rfl) ?_
        refine va_get (D := D) (ci := 7) (v := .ref (a 12)) (C := RX8) (T := TX8) (N := 24) hx hb hg in_X8 hown hK hP 0 rfl rfl 16 (by decide) (hg _ w841) (fun _ h9 => h9) rfl dX8_copiesStream_31 ?_
        refine lv_bipush (v := 6) hx hb dX8_copiesStream_34 (by decide) ?_
        refine lv_iload_n hx hb dX8_copiesStream_36 rfl (lv_at hl 2 rfl) ?_
        refine lv_imul hx hb dX8_copiesStream_37 ?_
        obtain ⟨hi12, hf⟩ := chk_t hf
        refine va_iald hx hb hK hP 12 0 rfl rfl (inb_in hi12) dX8_copiesStream_38 ?_
        refine lv_bipush (v := 6) hx hb dX8_copiesStream_39 (by decide) ?_
        refine lv_bipush (v := 9) hx hb dX8_copiesStream_41 (by decide) ?_
        obtain ⟨u13, hc14, hf⟩ := bind_t hf
        refine k_S (As := [.int ((mLog x) ((6 * v2)).toNatClampNeg), .int 6, .int 9]) (rest := []) (n := 3) ⟨hx, hb, hml, hown, hts⟩ (met_X8_isIn l ((mLog x) ((6 * v2)).toNatClampNeg) 6 9 u13 hc14) w909 w910 w9 w911 ⟨by decide +kernel, by decide +kernel, by decide +kernel⟩ ⟨Nat.le_of_ble_eq_true rfl, Nat.le_of_ble_eq_true rfl⟩ hK hE hP hD hS hA (isC := []) (isR := [0, 1, 2, 3, 4, 5, 6, 7, 8, 9, 10, 11, 12, 13, 14]) (isB := [0, 1, 2, 3, 4, 5, 6, 7, 8, 9, 10, 11, 12, 13, 14]) (ws' := W_Model cI a x) ⟨([0, 1, 2, 3, 4, 5, 6, 7, 8, 9, 10, 11, 12, 13, 14] : List Nat).filterMap (fun i : Nat => (W_Model cI a x : va_W)[i]?), rfl, rfl, rfl, rfl, by decide, rfl, rfl⟩ rfl hl.1 rfl (Nat.le_of_ble_eq_true rfl) dX8_copiesStream_43 ⟨Nat.le_of_ble_eq_true rfl, Nat.le_of_ble_eq_true rfl⟩ (fun H locs hP hD hS => ?_)
        try dsimp only at hf
        refine W.eq (g2 := F0 m 46 ls [.int u13]) rfl ?_
        refine lv_if_eq (tgt := 98) hx hb dX8_copiesStream_46 (by decide) (fun c15 => ?_) (fun c15 => ?_)
        · replace hf := if_t c15 hf
          obtain ⟨y16, hy16⟩ : ∃ z : Int32, z = (v2 + 1) := ⟨_, rfl⟩
          replace hf := keep_e hf y16 hy16
          refine lv_iinc (v := y16) (lv' := [(2, .int y16), (0, .ref (a 0)), (1, .int v1)]) hx hb dX8_copiesStream_98 hl (k := 2) rfl (by rw [hy16]; rfl) (by decide) rfl (fun ls hl => ?_)
          refine lv_goto (tgt := 7) hx hb dX8_copiesStream_101 (by decide) ?_
          exact hrec7 x y16 H locs ls hf hP hD hS (lv_sub hl [1, 2, 0] rfl)
        · replace hf := if_f c15 hf
          refine lv_iconst (v := 0) hx hb dX8_copiesStream_49 (by decide) ?_
          refine lv_istore_n (lv' := [(3, .int 0), (0, .ref (a 0)), (1, .int v1), (2, .int v2)]) hx hb dX8_copiesStream_50 rfl hl (by decide) rfl (fun ls hl => ?_)
          exact L51 v1 v2 rec7 hrec7 FU x 0 H locs ls hf hP hD hS (lv_sub hl [1, 2, 3, 0] rfl)
  have L7 : ∀ (v1 : Int32) (fu : Nat) (x : MSt) (v2 : Int32) (H : Heap) (locs : List Loc) (ls : Array Slot), iterK fu (fX8_copiesStream_7 v1 ) (x, v2) = some res → va_P D vwCl (W_Model cI a x) H → va_D A (W_Model cI a x) → va_S A s.heap H locs → lv_has ls 4 [(0, .ref (a 0)), (1, .int v1), (2, .int v2)] → W p l e ({ frames := 1, cells := 0, slots := 0, locals := 22 } : Room) s m ([.ref (a 0), .int p1] : List Value).toArray below meth c H locs 0 0 (MQ below (QW D (TY cI cV cJ cD) (W_Model cI a res) A none) (([.ref (a 0), .int p1] : List Value).toArray) s 0 0 A) (F0 m 7 ls []) := by
    intro v1 fu
    induction fu with
    | zero =>
      intro x v2 H locs ls hf
      cases hf
    | succ fu ih =>
      intro x v2 H locs ls hf hP hD hS hl
      exact S7 v1 (iterK fu (fX8_copiesStream_7 v1 )) ih x v2 H locs ls hf hP hD hS hl
  have M0 : ∀ (H : Heap) (locs : List Loc) (ls : Array Slot), fX8_copiesStream x p1 = some res → va_P D vwCl (W_Model cI a x) H → va_D A (W_Model cI a x) → va_S A s.heap H locs → lv_has ls 4 [(0, .ref (a 0)), (1, .int p1)] → W p l e ({ frames := 1, cells := 0, slots := 0, locals := 22 } : Room) s m ([.ref (a 0), .int p1] : List Value).toArray below meth c H locs 0 0 (MQ below (QW D (TY cI cV cJ cD) (W_Model cI a res) A none) (([.ref (a 0), .int p1] : List Value).toArray) s 0 0 A) (F0 m 0 ls []) := by
    intro H locs ls hf hP hD hS hl
    dsimp only [fX8_copiesStream] at hf
    refine lv_aload_n hx hb dX8_copiesStream_0 rfl (lv_at hl 0 rfl) ?_
    refine va_get (D := D) (ci := 7) (v := .ref (a 8)) (C := RX8) (T := TX8) (N := 24) hx hb hg in_X8 hown hK hP 0 rfl rfl 9 (by decide) (hg _ w834) (fun _ h9 => h9) rfl dX8_copiesStream_1 ?_
    refine lv_iload_n hx hb dX8_copiesStream_4 rfl (lv_at hl 1 rfl) ?_
    obtain ⟨hi17, hf⟩ := chk_t hf
    refine va_iald hx hb hK hP 8 0 rfl rfl (inb_in hi17) dX8_copiesStream_5 ?_
    refine lv_topi (fun y18 hy18 => ?_)
    replace hf := keep_e hf y18 hy18
    refine lv_istore_n (lv' := [(2, .int y18), (0, .ref (a 0)), (1, .int p1)]) hx hb dX8_copiesStream_6 rfl hl (by decide) rfl (fun ls hl => ?_)
    exact L7 p1 FU x y18 H locs ls hf hP hD hS (lv_sub hl [1, 2, 0] rfl)
  exact M0 s.heap [] ls hf hP hD hS hl
/-! CompactformsModel.rewrites(I)V -/
def fX8_rewrites_131 (x : MSt) (v1 : Int32) : Option (MSt) := chk (inb v1 16) ((if ((mEnd x) (v1).toNatClampNeg) = (-1) then some x else chk (inb v1 16) ((fX8_notes x 11 v1 ((mEnd x) (v1).toNatClampNeg) 0).bind (fun u4 => keep u4 (fun x6 => some x6)))))
def fX8_rewrites_15 (v1 : Int32) (rec15 : MSt × Int32 → Option (MSt)) (s : MSt × Int32) : Option (MSt) := match s with | (x, v2) => chk (inb v1 16) ((if ((40 * v1) + ((mSize x) (v1).toNatClampNeg)) ≤ v2 then chk (inb v1 16) ((if ((mType x) (v1).toNatClampNeg) = 4 then (fX8_copiesStream x v1).bind (fun u11 => keep u11 (fun x13 => fX8_rewrites_131 x13 v1)) else fX8_rewrites_131 x v1)) else chk (inb v1 16) ((if ((mType x) (v1).toNatClampNeg) = 1 then chk (inb v2 640) ((fX8_notes x 1 v1 ((mValues x) (v2).toNatClampNeg) 1).bind (fun u33 => keep u33 (fun x35 => keep (v2 + 1) (fun y36 => rec15 (x35, y36))))) else chk (inb v1 16) ((if ((mType x) (v1).toNatClampNeg) = 2 then chk (inb v2 640) ((fX8_notes x 3 v1 ((mValues x) (v2).toNatClampNeg) 0).bind (fun u28 => keep u28 (fun x30 => keep (v2 + 1) (fun y31 => rec15 (x30, y31))))) else chk (inb v1 16) ((if ((mType x) (v1).toNatClampNeg) = 3 then chk (inb v2 640) (chk (inb v2 640) ((fX8_notes x 5 v1 ((mValues x) (v2).toNatClampNeg) ((mBits x) (v2).toNatClampNeg)).bind (fun u23 => keep u23 (fun x25 => keep (v2 + 1) (fun y26 => rec15 (x25, y26)))))) else keep (v2 + 1) (fun y20 => rec15 (x, y20))))))))))
def fX8_rewrites (x : MSt) (p1 : Int32) : Option (MSt) := chk (inb p1 16) (keep (mFreshAt_s x (upd (mFreshAt x) (p1).toNatClampNeg (mNewRows x))) (fun x38 => keep (40 * p1) (fun y39 => iterK FU (fX8_rewrites_15 p1) (x38, y39))))
set_option maxHeartbeats 4000000 in
set_option maxRecDepth 100000 in
theorem met_X8_rewrites {D : va_G} {cI cV cJ cD : ClassId} (l : Launch) (a : Nat → Nat) (x : MSt) (p1 : Int32) (res : MSt) (hf : fX8_rewrites x p1 = some res) : MM l yX8_rewrites cX8_rewrites 3 none { frames := 2, cells := 0, slots := 0, locals := 45 } D (TY cI cV cJ cD) (W_Model cI a x) (W_Model cI a res) [.ref (a 0), .int p1] none := by
  intro sz
  refine Met.ofW (cc := cX8_rewrites) (maxL := 3) (ret := none) (by decide +kernel) rfl ?_
  intro p e s m args below meth c s₁ B hml hv
  obtain ⟨rfl, hsz, hP, hK, hD0, hE⟩ := hv
  have hx := B.exec
  have hb := B.bytes
  have hr := B.returns
  have hts := atoms_spec (ws := .code yX8_rewrites cX8_rewrites 3 none :: GW) B.pre
  have hg : ∀ w ∈ GW, w.before (([.ref (a 0), .int p1] : List Value).toArray) s = true := fun w h => hts w (List.mem_cons_of_mem _ h)
  have hown : s.vm.findClass RX8 = some m.cls := findClass_of_methodNamed B.named
  have hlocks := B.notSynchronized
  subst hsz
  have hD := hD0.self (sz := s.heap.size)
  generalize hAe : va_A (W_Model cI a x) s.heap.size = A at hD hE ⊢
  have hA : ∀ q : Nat, s.heap.size ≤ q → A q := fun q h => by rw [← hAe]; exact Or.inr h
  have hS : va_S A s.heap s.heap [] := va_S.rf
  have hl := lv_entry ([.ref (a 0), .int p1]) (n := 3) (Nat.le_of_ble_eq_true rfl)
  rw [lg_entry_eq]
  generalize (lg_sl ([.ref (a 0), .int p1]) ++ List.replicate (3 - (lg_sl ([.ref (a 0), .int p1])).length) Slot.unset).toArray = ls at hl ⊢
  have hl : lv_has ls 3 [(0, .ref (a 0)), (1, .int p1)] := hl
  have L131 : ∀ (x : MSt) (v1 : Int32) (H : Heap) (locs : List Loc) (ls : Array Slot), fX8_rewrites_131 x v1  = some res → va_P D vwCl (W_Model cI a x) H → va_D A (W_Model cI a x) → va_S A s.heap H locs → lv_has ls 3 [(0, .ref (a 0)), (1, .int v1)] → W p l e ({ frames := 2, cells := 0, slots := 0, locals := 45 } : Room) s m ([.ref (a 0), .int p1] : List Value).toArray below meth c H locs 0 0 (MQ below (QW D (TY cI cV cJ cD) (W_Model cI a res) A none) (([.ref (a 0), .int p1] : List Value).toArray) s 0 0 A) (F0 m 131 ls []) := by
    intro x v1 H locs ls hf hP hD hS hl
    dsimp only [fX8_rewrites_131] at hf
    refine lv_aload_n hx hb dX8_rewrites_131 rfl (lv_at hl 0 rfl) ?_
    refine va_get (D := D) (ci := 7) (v := .ref (a 2)) (C := RX8) (T := TX8) (N := 24) hx hb hg in_X8 hown hK hP 0 rfl rfl 3 (by decide) (hg _ w828) (fun _ h9 => h9) rfl dX8_rewrites_132 ?_
    refine lv_iload_n hx hb dX8_rewrites_135 rfl (lv_at hl 1 rfl) ?_
    obtain ⟨hi1, hf⟩ := chk_t hf
    refine va_iald hx hb hK hP 2 0 rfl rfl (inb_in hi1) dX8_rewrites_136 ?_
    refine lv_iconst (v := (-1)) hx hb dX8_rewrites_137 (by decide) ?_
    refine lv_icmp_eq (tgt := 155) hx hb dX8_rewrites_138 (by decide) (fun c2 => ?_) (fun c2 => ?_)
    · replace hf := if_t c2 hf
      obtain rfl := Option.some.inj hf
      exact W.vret hx hb hr (fun t ht hW => ⟨rfl, by rw [ht]; exact hP, va_K.moved hW.alike hK, hD, hS.F ht⟩) hS.2.2 dX8_rewrites_155 hlocks
    · replace hf := if_f c2 hf
      refine lv_aload_n hx hb dX8_rewrites_141 rfl (lv_at hl 0 rfl) ?_
      refine lv_bipush (v := 11) hx hb dX8_rewrites_142 (by decide) ?_
      refine lv_iload_n hx hb dX8_rewrites_144 rfl (lv_at hl 1 rfl) ?_
      refine lv_aload_n hx hb dX8_rewrites_145 rfl (lv_at hl 0 rfl) ?_
      refine va_get (D := D) (ci := 7) (v := .ref (a 2)) (C := RX8) (T := TX8) (N := 24) hx hb hg in_X8 hown hK hP 0 rfl rfl 3 (by decide) (hg _ w828) (fun _ h9 => h9) rfl dX8_rewrites_146 ?_
      refine lv_iload_n hx hb dX8_rewrites_149 rfl (lv_at hl 1 rfl) ?_
      obtain ⟨hi3, hf⟩ := chk_t hf
      refine va_iald hx hb hK hP 2 0 rfl rfl (inb_in hi3) dX8_rewrites_150 ?_
      refine lv_iconst (v := 0) hx hb dX8_rewrites_151 (by decide) ?_
      obtain ⟨u4, hc5, hf⟩ := bind_t hf
      refine k_V (As := [.int 11, .int v1, .int ((mEnd x) (v1).toNatClampNeg), .int 0]) (rest := []) (n := 4) ⟨hx, hb, hml, hown, hts⟩ (met_X8_notes l a x 11 v1 ((mEnd x) (v1).toNatClampNeg) 0 u4 hc5) w1089 w1091 ws48 w9 w1092 ⟨rfl, by decide +kernel, by decide +kernel, by decide +kernel⟩ ⟨Nat.le_of_ble_eq_true rfl, Nat.le_of_ble_eq_true rfl⟩ hK hE hP hD hS hA (isC := [0, 1, 2, 3, 4, 5, 6, 7, 8, 9, 10, 11, 12, 13, 14]) (isR := []) (isB := [0, 1, 2, 3, 4, 5, 6, 7, 8, 9, 10, 11, 12, 13, 14]) (ws' := W_Model cI a u4) ⟨([] : List Nat).filterMap (fun i : Nat => (W_Model cI a x : va_W)[i]?), rfl, rfl, rfl, rfl, by decide, rfl, rfl⟩ 0 7 rfl rfl rfl rfl hl.1 rfl (Nat.le_of_ble_eq_true rfl) dX8_rewrites_152 ⟨Nat.le_of_ble_eq_true rfl, Nat.le_of_ble_eq_true rfl⟩ (fun H locs hP hD hS => ?_)
      try dsimp only at hf
      refine W.eq (g2 := F0 m 155 ls []) rfl ?_
      obtain ⟨x6, hx6⟩ : ∃ z, z = u4 := ⟨_, rfl⟩
      replace hf := keep_e hf x6 hx6
      have hP : va_P D vwCl (W_Model cI a x6) H := by rw [hx6]; exact hP
      have hD : va_D A (W_Model cI a x6) := by rw [hx6]; exact hD
      obtain rfl := Option.some.inj hf
      exact W.vret hx hb hr (fun t ht hW => ⟨rfl, by rw [ht]; exact hP, va_K.moved hW.alike hK, hD, hS.F ht⟩) hS.2.2 dX8_rewrites_155 hlocks
  have S15 : ∀ (v1 : Int32) (rec15 : MSt × Int32 → Option (MSt)) (hrec15 : ∀ (x : MSt), ∀ (v2 : Int32), ∀ (H : Heap) (locs : List Loc) (ls : Array Slot), rec15 (x, v2) = some res → va_P D vwCl (W_Model cI a x) H → va_D A (W_Model cI a x) → va_S A s.heap H locs → lv_has ls 3 [(0, .ref (a 0)), (1, .int v1), (2, .int v2)] → W p l e ({ frames := 2, cells := 0, slots := 0, locals := 45 } : Room) s m ([.ref (a 0), .int p1] : List Value).toArray below meth c H locs 0 0 (MQ below (QW D (TY cI cV cJ cD) (W_Model cI a res) A none) (([.ref (a 0), .int p1] : List Value).toArray) s 0 0 A) (F0 m 15 ls [])) (x : MSt) (v2 : Int32) (H : Heap) (locs : List Loc) (ls : Array Slot), fX8_rewrites_15 v1  rec15 (x, v2) = some res → va_P D vwCl (W_Model cI a x) H → va_D A (W_Model cI a x) → va_S A s.heap H locs → lv_has ls 3 [(0, .ref (a 0)), (1, .int v1), (2, .int v2)] → W p l e ({ frames := 2, cells := 0, slots := 0, locals := 45 } : Room) s m ([.ref (a 0), .int p1] : List Value).toArray below meth c H locs 0 0 (MQ below (QW D (TY cI cV cJ cD) (W_Model cI a res) A none) (([.ref (a 0), .int p1] : List Value).toArray) s 0 0 A) (F0 m 15 ls []) := by
    intro v1 rec15 hrec15 x v2 H locs ls hf hP hD hS hl
    dsimp only [fX8_rewrites_15] at hf
    refine lv_iload_n hx hb dX8_rewrites_15 rfl (lv_at hl 2 rfl) ?_
    refine lv_bipush (v := 40) hx hb dX8_rewrites_16 (by decide) ?_
    refine lv_iload_n hx hb dX8_rewrites_18 rfl (lv_at hl 1 rfl) ?_
    refine lv_imul hx hb dX8_rewrites_19 ?_
    refine lv_aload_n hx hb dX8_rewrites_20 rfl (lv_at hl 0 rfl) ?_
    refine va_get (D := D) (ci := 7) (v := .ref (a 4)) (C := RX8) (T := TX8) (N := 24) hx hb hg in_X8 hown hK hP 0 rfl rfl 5 (by decide) (hg _ w830) (fun _ h9 => h9) rfl dX8_rewrites_21 ?_
    refine lv_iload_n hx hb dX8_rewrites_24 rfl (lv_at hl 1 rfl) ?_
    obtain ⟨hi7, hf⟩ := chk_t hf
    refine va_iald hx hb hK hP 4 0 rfl rfl (inb_in hi7) dX8_rewrites_25 ?_
    refine lv_iadd hx hb dX8_rewrites_26 ?_
    refine lv_icmp_ge (tgt := 116) hx hb dX8_rewrites_27 (by decide) (fun c8 => ?_) (fun c8 => ?_)
    · replace hf := if_t c8 hf
      refine lv_aload_n hx hb dX8_rewrites_116 rfl (lv_at hl 0 rfl) ?_
      refine va_get (D := D) (ci := 7) (v := .ref (a 1)) (C := RX8) (T := TX8) (N := 24) hx hb hg in_X8 hown hK hP 0 rfl rfl 2 (by decide) (hg _ w827) (fun _ h9 => h9) rfl dX8_rewrites_117 ?_
      refine lv_iload_n hx hb dX8_rewrites_120 rfl (lv_at hl 1 rfl) ?_
      obtain ⟨hi9, hf⟩ := chk_t hf
      refine va_iald hx hb hK hP 1 0 rfl rfl (inb_in hi9) dX8_rewrites_121 ?_
      refine lv_iconst (v := 4) hx hb dX8_rewrites_122 (by decide) ?_
      refine lv_icmp_ne (tgt := 131) hx hb dX8_rewrites_123 (by decide) (fun c10 => ?_) (fun c10 => ?_)
      · replace hf := if_f c10 hf
        exact L131 x v1 H locs ls hf hP hD hS (lv_sub hl [0, 1] rfl)
      · replace hf := if_t c10 hf
        refine lv_aload_n hx hb dX8_rewrites_126 rfl (lv_at hl 0 rfl) ?_
        refine lv_iload_n hx hb dX8_rewrites_127 rfl (lv_at hl 1 rfl) ?_
        obtain ⟨u11, hc12, hf⟩ := bind_t hf
        refine k_V (As := [.int v1]) (rest := []) (n := 1) ⟨hx, hb, hml, hown, hts⟩ (met_X8_copiesStream l a x v1 u11 hc12) w1093 w1095 ws49 w9 w1096 ⟨rfl, by decide +kernel, by decide +kernel, by decide +kernel⟩ ⟨Nat.le_of_ble_eq_true rfl, Nat.le_of_ble_eq_true rfl⟩ hK hE hP hD hS hA (isC := [0, 1, 2, 3, 4, 5, 6, 7, 8, 9, 10, 11, 12, 13, 14]) (isR := []) (isB := [0, 1, 2, 3, 4, 5, 6, 7, 8, 9, 10, 11, 12, 13, 14]) (ws' := W_Model cI a u11) ⟨([] : List Nat).filterMap (fun i : Nat => (W_Model cI a x : va_W)[i]?), rfl, rfl, rfl, rfl, by decide, rfl, rfl⟩ 0 7 rfl rfl rfl rfl hl.1 rfl (Nat.le_of_ble_eq_true rfl) dX8_rewrites_128 ⟨Nat.le_of_ble_eq_true rfl, Nat.le_of_ble_eq_true rfl⟩ (fun H locs hP hD hS => ?_)
        try dsimp only at hf
        refine W.eq (g2 := F0 m 131 ls []) rfl ?_
        obtain ⟨x13, hx13⟩ : ∃ z, z = u11 := ⟨_, rfl⟩
        replace hf := keep_e hf x13 hx13
        have hP : va_P D vwCl (W_Model cI a x13) H := by rw [hx13]; exact hP
        have hD : va_D A (W_Model cI a x13) := by rw [hx13]; exact hD
        exact L131 x13 v1 H locs ls hf hP hD hS (lv_sub hl [0, 1] rfl)
    · replace hf := if_f c8 hf
      refine lv_aload_n hx hb dX8_rewrites_30 rfl (lv_at hl 0 rfl) ?_
      refine va_get (D := D) (ci := 7) (v := .ref (a 1)) (C := RX8) (T := TX8) (N := 24) hx hb hg in_X8 hown hK hP 0 rfl rfl 2 (by decide) (hg _ w827) (fun _ h9 => h9) rfl dX8_rewrites_31 ?_
      refine lv_iload_n hx hb dX8_rewrites_34 rfl (lv_at hl 1 rfl) ?_
      obtain ⟨hi14, hf⟩ := chk_t hf
      refine va_iald hx hb hK hP 1 0 rfl rfl (inb_in hi14) dX8_rewrites_35 ?_
      refine lv_iconst (v := 1) hx hb dX8_rewrites_36 (by decide) ?_
      refine lv_icmp_ne (tgt := 56) hx hb dX8_rewrites_37 (by decide) (fun c15 => ?_) (fun c15 => ?_)
      · replace hf := if_f c15 hf
        refine lv_aload_n hx hb dX8_rewrites_56 rfl (lv_at hl 0 rfl) ?_
        refine va_get (D := D) (ci := 7) (v := .ref (a 1)) (C := RX8) (T := TX8) (N := 24) hx hb hg in_X8 hown hK hP 0 rfl rfl 2 (by decide) (hg _ w827) (fun _ h9 => h9) rfl dX8_rewrites_57 ?_
        refine lv_iload_n hx hb dX8_rewrites_60 rfl (lv_at hl 1 rfl) ?_
        obtain ⟨hi16, hf⟩ := chk_t hf
        refine va_iald hx hb hK hP 1 0 rfl rfl (inb_in hi16) dX8_rewrites_61 ?_
        refine lv_iconst (v := 2) hx hb dX8_rewrites_62 (by decide) ?_
        refine lv_icmp_ne (tgt := 82) hx hb dX8_rewrites_63 (by decide) (fun c17 => ?_) (fun c17 => ?_)
        · replace hf := if_f c17 hf
          refine lv_aload_n hx hb dX8_rewrites_82 rfl (lv_at hl 0 rfl) ?_
          refine va_get (D := D) (ci := 7) (v := .ref (a 1)) (C := RX8) (T := TX8) (N := 24) hx hb hg in_X8 hown hK hP 0 rfl rfl 2 (by decide) (hg _ w827) (fun _ h9 => h9) rfl dX8_rewrites_83 ?_
          refine lv_iload_n hx hb dX8_rewrites_86 rfl (lv_at hl 1 rfl) ?_
          obtain ⟨hi18, hf⟩ := chk_t hf
          refine va_iald hx hb hK hP 1 0 rfl rfl (inb_in hi18) dX8_rewrites_87 ?_
          refine lv_iconst (v := 3) hx hb dX8_rewrites_88 (by decide) ?_
          refine lv_icmp_ne (tgt := 110) hx hb dX8_rewrites_89 (by decide) (fun c19 => ?_) (fun c19 => ?_)
          · replace hf := if_f c19 hf
            obtain ⟨y20, hy20⟩ : ∃ z : Int32, z = (v2 + 1) := ⟨_, rfl⟩
            replace hf := keep_e hf y20 hy20
            refine lv_iinc (v := y20) (lv' := [(2, .int y20), (0, .ref (a 0)), (1, .int v1)]) hx hb dX8_rewrites_110 hl (k := 2) rfl (by rw [hy20]; rfl) (by decide) rfl (fun ls hl => ?_)
            refine lv_goto (tgt := 15) hx hb dX8_rewrites_113 (by decide) ?_
            exact hrec15 x y20 H locs ls hf hP hD hS (lv_sub hl [1, 2, 0] rfl)
          · replace hf := if_t c19 hf
            refine lv_aload_n hx hb dX8_rewrites_92 rfl (lv_at hl 0 rfl) ?_
            refine lv_iconst (v := 5) hx hb dX8_rewrites_93 (by decide) ?_
            refine lv_iload_n hx hb dX8_rewrites_94 rfl (lv_at hl 1 rfl) ?_
            refine lv_aload_n hx hb dX8_rewrites_95 rfl (lv_at hl 0 rfl) ?_
            refine va_get (D := D) (ci := 7) (v := .ref (a 6)) (C := RX8) (T := TX8) (N := 24) hx hb hg in_X8 hown hK hP 0 rfl rfl 7 (by decide) (hg _ w832) (fun _ h9 => h9) rfl dX8_rewrites_96 ?_
            refine lv_iload_n hx hb dX8_rewrites_99 rfl (lv_at hl 2 rfl) ?_
            obtain ⟨hi21, hf⟩ := chk_t hf
            refine va_iald hx hb hK hP 6 0 rfl rfl (inb_in hi21) dX8_rewrites_100 ?_
            refine lv_aload_n hx hb dX8_rewrites_101 rfl (lv_at hl 0 rfl) ?_
            refine va_get (D := D) (ci := 7) (v := .ref (a 7)) (C := RX8) (T := TX8) (N := 24) hx hb hg in_X8 hown hK hP 0 rfl rfl 8 (by decide) (hg _ w833) (fun _ h9 => h9) rfl dX8_rewrites_102 ?_
            refine lv_iload_n hx hb dX8_rewrites_105 rfl (lv_at hl 2 rfl) ?_
            obtain ⟨hi22, hf⟩ := chk_t hf
            refine va_iald hx hb hK hP 7 0 rfl rfl (inb_in hi22) dX8_rewrites_106 ?_
            obtain ⟨u23, hc24, hf⟩ := bind_t hf
            refine k_V (As := [.int 5, .int v1, .int ((mValues x) (v2).toNatClampNeg), .int ((mBits x) (v2).toNatClampNeg)]) (rest := []) (n := 4) ⟨hx, hb, hml, hown, hts⟩ (met_X8_notes l a x 5 v1 ((mValues x) (v2).toNatClampNeg) ((mBits x) (v2).toNatClampNeg) u23 hc24) w1089 w1091 ws48 w9 w1092 ⟨rfl, by decide +kernel, by decide +kernel, by decide +kernel⟩ ⟨Nat.le_of_ble_eq_true rfl, Nat.le_of_ble_eq_true rfl⟩ hK hE hP hD hS hA (isC := [0, 1, 2, 3, 4, 5, 6, 7, 8, 9, 10, 11, 12, 13, 14]) (isR := []) (isB := [0, 1, 2, 3, 4, 5, 6, 7, 8, 9, 10, 11, 12, 13, 14]) (ws' := W_Model cI a u23) ⟨([] : List Nat).filterMap (fun i : Nat => (W_Model cI a x : va_W)[i]?), rfl, rfl, rfl, rfl, by decide, rfl, rfl⟩ 0 7 rfl rfl rfl rfl hl.1 rfl (Nat.le_of_ble_eq_true rfl) dX8_rewrites_107 ⟨Nat.le_of_ble_eq_true rfl, Nat.le_of_ble_eq_true rfl⟩ (fun H locs hP hD hS => ?_)
            try dsimp only at hf
            refine W.eq (g2 := F0 m 110 ls []) rfl ?_
            obtain ⟨x25, hx25⟩ : ∃ z, z = u23 := ⟨_, rfl⟩
            replace hf := keep_e hf x25 hx25
            have hP : va_P D vwCl (W_Model cI a x25) H := by rw [hx25]; exact hP
            have hD : va_D A (W_Model cI a x25) := by rw [hx25]; exact hD
            obtain ⟨y26, hy26⟩ : ∃ z : Int32, z = (v2 + 1) := ⟨_, rfl⟩
            replace hf := keep_e hf y26 hy26
            refine lv_iinc (v := y26) (lv' := [(2, .int y26), (0, .ref (a 0)), (1, .int v1)]) hx hb dX8_rewrites_110 hl (k := 2) rfl (by rw [hy26]; rfl) (by decide) rfl (fun ls hl => ?_)
            refine lv_goto (tgt := 15) hx hb dX8_rewrites_113 (by decide) ?_
            exact hrec15 x25 y26 H locs ls hf hP hD hS (lv_sub hl [1, 2, 0] rfl)
        · replace hf := if_t c17 hf
          refine lv_aload_n hx hb dX8_rewrites_66 rfl (lv_at hl 0 rfl) ?_
          refine lv_iconst (v := 3) hx hb dX8_rewrites_67 (by decide) ?_
          refine lv_iload_n hx hb dX8_rewrites_68 rfl (lv_at hl 1 rfl) ?_
          refine lv_aload_n hx hb dX8_rewrites_69 rfl (lv_at hl 0 rfl) ?_
          refine va_get (D := D) (ci := 7) (v := .ref (a 6)) (C := RX8) (T := TX8) (N := 24) hx hb hg in_X8 hown hK hP 0 rfl rfl 7 (by decide) (hg _ w832) (fun _ h9 => h9) rfl dX8_rewrites_70 ?_
          refine lv_iload_n hx hb dX8_rewrites_73 rfl (lv_at hl 2 rfl) ?_
          obtain ⟨hi27, hf⟩ := chk_t hf
          refine va_iald hx hb hK hP 6 0 rfl rfl (inb_in hi27) dX8_rewrites_74 ?_
          refine lv_iconst (v := 0) hx hb dX8_rewrites_75 (by decide) ?_
          obtain ⟨u28, hc29, hf⟩ := bind_t hf
          refine k_V (As := [.int 3, .int v1, .int ((mValues x) (v2).toNatClampNeg), .int 0]) (rest := []) (n := 4) ⟨hx, hb, hml, hown, hts⟩ (met_X8_notes l a x 3 v1 ((mValues x) (v2).toNatClampNeg) 0 u28 hc29) w1089 w1091 ws48 w9 w1092 ⟨rfl, by decide +kernel, by decide +kernel, by decide +kernel⟩ ⟨Nat.le_of_ble_eq_true rfl, Nat.le_of_ble_eq_true rfl⟩ hK hE hP hD hS hA (isC := [0, 1, 2, 3, 4, 5, 6, 7, 8, 9, 10, 11, 12, 13, 14]) (isR := []) (isB := [0, 1, 2, 3, 4, 5, 6, 7, 8, 9, 10, 11, 12, 13, 14]) (ws' := W_Model cI a u28) ⟨([] : List Nat).filterMap (fun i : Nat => (W_Model cI a x : va_W)[i]?), rfl, rfl, rfl, rfl, by decide, rfl, rfl⟩ 0 7 rfl rfl rfl rfl hl.1 rfl (Nat.le_of_ble_eq_true rfl) dX8_rewrites_76 ⟨Nat.le_of_ble_eq_true rfl, Nat.le_of_ble_eq_true rfl⟩ (fun H locs hP hD hS => ?_)
          try dsimp only at hf
          refine W.eq (g2 := F0 m 79 ls []) rfl ?_
          obtain ⟨x30, hx30⟩ : ∃ z, z = u28 := ⟨_, rfl⟩
          replace hf := keep_e hf x30 hx30
          have hP : va_P D vwCl (W_Model cI a x30) H := by rw [hx30]; exact hP
          have hD : va_D A (W_Model cI a x30) := by rw [hx30]; exact hD
          refine lv_goto (tgt := 110) hx hb dX8_rewrites_79 (by decide) ?_
          obtain ⟨y31, hy31⟩ : ∃ z : Int32, z = (v2 + 1) := ⟨_, rfl⟩
          replace hf := keep_e hf y31 hy31
          refine lv_iinc (v := y31) (lv' := [(2, .int y31), (0, .ref (a 0)), (1, .int v1)]) hx hb dX8_rewrites_110 hl (k := 2) rfl (by rw [hy31]; rfl) (by decide) rfl (fun ls hl => ?_)
          refine lv_goto (tgt := 15) hx hb dX8_rewrites_113 (by decide) ?_
          exact hrec15 x30 y31 H locs ls hf hP hD hS (lv_sub hl [1, 2, 0] rfl)
      · replace hf := if_t c15 hf
        refine lv_aload_n hx hb dX8_rewrites_40 rfl (lv_at hl 0 rfl) ?_
        refine lv_iconst (v := 1) hx hb dX8_rewrites_41 (by decide) ?_
        refine lv_iload_n hx hb dX8_rewrites_42 rfl (lv_at hl 1 rfl) ?_
        refine lv_aload_n hx hb dX8_rewrites_43 rfl (lv_at hl 0 rfl) ?_
        refine va_get (D := D) (ci := 7) (v := .ref (a 6)) (C := RX8) (T := TX8) (N := 24) hx hb hg in_X8 hown hK hP 0 rfl rfl 7 (by decide) (hg _ w832) (fun _ h9 => h9) rfl dX8_rewrites_44 ?_
        refine lv_iload_n hx hb dX8_rewrites_47 rfl (lv_at hl 2 rfl) ?_
        obtain ⟨hi32, hf⟩ := chk_t hf
        refine va_iald hx hb hK hP 6 0 rfl rfl (inb_in hi32) dX8_rewrites_48 ?_
        refine lv_iconst (v := 1) hx hb dX8_rewrites_49 (by decide) ?_
        obtain ⟨u33, hc34, hf⟩ := bind_t hf
        refine k_V (As := [.int 1, .int v1, .int ((mValues x) (v2).toNatClampNeg), .int 1]) (rest := []) (n := 4) ⟨hx, hb, hml, hown, hts⟩ (met_X8_notes l a x 1 v1 ((mValues x) (v2).toNatClampNeg) 1 u33 hc34) w1089 w1091 ws48 w9 w1092 ⟨rfl, by decide +kernel, by decide +kernel, by decide +kernel⟩ ⟨Nat.le_of_ble_eq_true rfl, Nat.le_of_ble_eq_true rfl⟩ hK hE hP hD hS hA (isC := [0, 1, 2, 3, 4, 5, 6, 7, 8, 9, 10, 11, 12, 13, 14]) (isR := []) (isB := [0, 1, 2, 3, 4, 5, 6, 7, 8, 9, 10, 11, 12, 13, 14]) (ws' := W_Model cI a u33) ⟨([] : List Nat).filterMap (fun i : Nat => (W_Model cI a x : va_W)[i]?), rfl, rfl, rfl, rfl, by decide, rfl, rfl⟩ 0 7 rfl rfl rfl rfl hl.1 rfl (Nat.le_of_ble_eq_true rfl) dX8_rewrites_50 ⟨Nat.le_of_ble_eq_true rfl, Nat.le_of_ble_eq_true rfl⟩ (fun H locs hP hD hS => ?_)
        try dsimp only at hf
        refine W.eq (g2 := F0 m 53 ls []) rfl ?_
        obtain ⟨x35, hx35⟩ : ∃ z, z = u33 := ⟨_, rfl⟩
        replace hf := keep_e hf x35 hx35
        have hP : va_P D vwCl (W_Model cI a x35) H := by rw [hx35]; exact hP
        have hD : va_D A (W_Model cI a x35) := by rw [hx35]; exact hD
        refine lv_goto (tgt := 110) hx hb dX8_rewrites_53 (by decide) ?_
        obtain ⟨y36, hy36⟩ : ∃ z : Int32, z = (v2 + 1) := ⟨_, rfl⟩
        replace hf := keep_e hf y36 hy36
        refine lv_iinc (v := y36) (lv' := [(2, .int y36), (0, .ref (a 0)), (1, .int v1)]) hx hb dX8_rewrites_110 hl (k := 2) rfl (by rw [hy36]; rfl) (by decide) rfl (fun ls hl => ?_)
        refine lv_goto (tgt := 15) hx hb dX8_rewrites_113 (by decide) ?_
        exact hrec15 x35 y36 H locs ls hf hP hD hS (lv_sub hl [1, 2, 0] rfl)
  have L15 : ∀ (v1 : Int32) (fu : Nat) (x : MSt) (v2 : Int32) (H : Heap) (locs : List Loc) (ls : Array Slot), iterK fu (fX8_rewrites_15 v1 ) (x, v2) = some res → va_P D vwCl (W_Model cI a x) H → va_D A (W_Model cI a x) → va_S A s.heap H locs → lv_has ls 3 [(0, .ref (a 0)), (1, .int v1), (2, .int v2)] → W p l e ({ frames := 2, cells := 0, slots := 0, locals := 45 } : Room) s m ([.ref (a 0), .int p1] : List Value).toArray below meth c H locs 0 0 (MQ below (QW D (TY cI cV cJ cD) (W_Model cI a res) A none) (([.ref (a 0), .int p1] : List Value).toArray) s 0 0 A) (F0 m 15 ls []) := by
    intro v1 fu
    induction fu with
    | zero =>
      intro x v2 H locs ls hf
      cases hf
    | succ fu ih =>
      intro x v2 H locs ls hf hP hD hS hl
      exact S15 v1 (iterK fu (fX8_rewrites_15 v1 )) ih x v2 H locs ls hf hP hD hS hl
  have M0 : ∀ (H : Heap) (locs : List Loc) (ls : Array Slot), fX8_rewrites x p1 = some res → va_P D vwCl (W_Model cI a x) H → va_D A (W_Model cI a x) → va_S A s.heap H locs → lv_has ls 3 [(0, .ref (a 0)), (1, .int p1)] → W p l e ({ frames := 2, cells := 0, slots := 0, locals := 45 } : Room) s m ([.ref (a 0), .int p1] : List Value).toArray below meth c H locs 0 0 (MQ below (QW D (TY cI cV cJ cD) (W_Model cI a res) A none) (([.ref (a 0), .int p1] : List Value).toArray) s 0 0 A) (F0 m 0 ls []) := by
    intro H locs ls hf hP hD hS hl
    dsimp only [fX8_rewrites] at hf
    refine lv_aload_n hx hb dX8_rewrites_0 rfl (lv_at hl 0 rfl) ?_
    refine va_get (D := D) (ci := 7) (v := .ref (a 14)) (C := RX8) (T := TX8) (N := 24) hx hb hg in_X8 hown hK hP 0 rfl rfl 22 (by decide) (hg _ w847) (fun _ h9 => h9) rfl dX8_rewrites_1 ?_
    refine lv_iload_n hx hb dX8_rewrites_4 rfl (lv_at hl 1 rfl) ?_
    refine lv_aload_n hx hb dX8_rewrites_5 rfl (lv_at hl 0 rfl) ?_
    refine va_get (D := D) (ci := 7) (v := .int (mNewRows x)) (C := RX8) (T := TX8) (N := 24) hx hb hg in_X8 hown hK hP 0 rfl rfl 20 (by decide) (hg _ w845) (fun _ h9 => h9) rfl dX8_rewrites_6 ?_
    obtain ⟨hi37, hf⟩ := chk_t hf
    refine va_iast hx hb hK hP hD hS 14 0 rfl rfl (inb_in hi37) dX8_rewrites_9 (fun H locs hP hD hS => ?_)
    obtain ⟨x38, hx38⟩ : ∃ z, z = (mFreshAt_s x (upd (mFreshAt x) (p1).toNatClampNeg (mNewRows x))) := ⟨_, rfl⟩
    replace hf := keep_e hf x38 hx38
    have hP : va_P D vwCl (W_Model cI a x38) H := by rw [hx38]; exact hP
    have hD : va_D A (W_Model cI a x38) := by rw [hx38]; exact hD
    refine lv_bipush (v := 40) hx hb dX8_rewrites_10 (by decide) ?_
    refine lv_iload_n hx hb dX8_rewrites_12 rfl (lv_at hl 1 rfl) ?_
    refine lv_imul hx hb dX8_rewrites_13 ?_
    refine lv_topi (fun y39 hy39 => ?_)
    replace hf := keep_e hf y39 hy39
    refine lv_istore_n (lv' := [(2, .int y39), (0, .ref (a 0)), (1, .int p1)]) hx hb dX8_rewrites_14 rfl hl (by decide) rfl (fun ls hl => ?_)
    exact L15 p1 FU x38 y39 H locs ls hf hP hD hS (lv_sub hl [1, 2, 0] rfl)
  exact M0 s.heap [] ls hf hP hD hS hl
/-! CompactformsModel.rewrite()I -/
def fX8_rewrite_30 (rec30 : MSt × Int32 → Option (MSt × Int32)) (s : MSt × Int32) : Option (MSt × Int32) := match s with | (x, v1) => (if 16 ≤ v1 then some (x, (mToWrite x)) else (fX8_isThere x v1).bind (fun u2 => (if u2 = 0 then keep (v1 + 1) (fun y5 => rec30 (x, y5)) else (fX8_rewrites x v1).bind (fun u6 => keep u6 (fun x8 => keep (mToWrite_s x8 ((mToWrite x8) + 1)) (fun x9 => keep (v1 + 1) (fun y10 => rec30 (x9, y10))))))))
def fX8_rewrite (x : MSt) : Option (MSt × Int32) := keep (mThrown_s x 0) (fun x11 => keep (mIsRewriting_s x11 1) (fun x12 => keep (mToWrite_s x12 0) (fun x13 => keep (mNewRows_s x13 0) (fun x14 => keep (mBegunAt_s x14 (mRows x14)) (fun x15 => iterK FU (fX8_rewrite_30 ) (x15, 0))))))
set_option maxHeartbeats 4000000 in
set_option maxRecDepth 100000 in
theorem met_X8_rewrite {D : va_G} {cI cV cJ cD : ClassId} (l : Launch) (a : Nat → Nat) (x : MSt) (res : MSt × Int32) (hf : fX8_rewrite x = some res) : MM l yX8_rewrite cX8_rewrite 2 (some .int) { frames := 3, cells := 0, slots := 0, locals := 67 } D (TY cI cV cJ cD) (W_Model cI a x) (W_Model cI a res.1) [.ref (a 0)] (some (.int res.2)) := by
  intro sz
  refine Met.ofW (cc := cX8_rewrite) (maxL := 2) (ret := (some .int)) (by decide +kernel) rfl ?_
  intro p e s m args below meth c s₁ B hml hv
  obtain ⟨rfl, hsz, hP, hK, hD0, hE⟩ := hv
  have hx := B.exec
  have hb := B.bytes
  have hr := B.returns
  have hts := atoms_spec (ws := .code yX8_rewrite cX8_rewrite 2 (some .int) :: GW) B.pre
  have hg : ∀ w ∈ GW, w.before (([.ref (a 0)] : List Value).toArray) s = true := fun w h => hts w (List.mem_cons_of_mem _ h)
  have hown : s.vm.findClass RX8 = some m.cls := findClass_of_methodNamed B.named
  have hlocks := B.notSynchronized
  subst hsz
  have hD := hD0.self (sz := s.heap.size)
  generalize hAe : va_A (W_Model cI a x) s.heap.size = A at hD hE ⊢
  have hA : ∀ q : Nat, s.heap.size ≤ q → A q := fun q h => by rw [← hAe]; exact Or.inr h
  have hS : va_S A s.heap s.heap [] := va_S.rf
  have hl := lv_entry ([.ref (a 0)]) (n := 2) (Nat.le_of_ble_eq_true rfl)
  rw [lg_entry_eq]
  generalize (lg_sl ([.ref (a 0)]) ++ List.replicate (2 - (lg_sl ([.ref (a 0)])).length) Slot.unset).toArray = ls at hl ⊢
  have hl : lv_has ls 2 [(0, .ref (a 0))] := hl
  have S30 : ∀ (rec30 : MSt × Int32 → Option (MSt × Int32)) (hrec30 : ∀ (x : MSt), ∀ (v1 : Int32), ∀ (H : Heap) (locs : List Loc) (ls : Array Slot), rec30 (x, v1) = some res → va_P D vwCl (W_Model cI a x) H → va_D A (W_Model cI a x) → va_S A s.heap H locs → lv_has ls 2 [(0, .ref (a 0)), (1, .int v1)] → W p l e ({ frames := 3, cells := 0, slots := 0, locals := 67 } : Room) s m ([.ref (a 0)] : List Value).toArray below meth c H locs 0 0 (MQ below (QW D (TY cI cV cJ cD) (W_Model cI a res.1) A (some (.int res.2))) (([.ref (a 0)] : List Value).toArray) s 0 0 A) (F0 m 30 ls [])) (x : MSt) (v1 : Int32) (H : Heap) (locs : List Loc) (ls : Array Slot), fX8_rewrite_30  rec30 (x, v1) = some res → va_P D vwCl (W_Model cI a x) H → va_D A (W_Model cI a x) → va_S A s.heap H locs → lv_has ls 2 [(0, .ref (a 0)), (1, .int v1)] → W p l e ({ frames := 3, cells := 0, slots := 0, locals := 67 } : Room) s m ([.ref (a 0)] : List Value).toArray below meth c H locs 0 0 (MQ below (QW D (TY cI cV cJ cD) (W_Model cI a res.1) A (some (.int res.2))) (([.ref (a 0)] : List Value).toArray) s 0 0 A) (F0 m 30 ls []) := by
    intro rec30 hrec30 x v1 H locs ls hf hP hD hS hl
    dsimp only [fX8_rewrite_30] at hf
    refine lv_iload_n hx hb dX8_rewrite_30 rfl (lv_at hl 1 rfl) ?_
    refine lv_bipush (v := 16) hx hb dX8_rewrite_31 (by decide) ?_
    refine lv_icmp_ge (tgt := 65) hx hb dX8_rewrite_33 (by decide) (fun c1 => ?_) (fun c1 => ?_)
    · replace hf := if_t c1 hf
      refine lv_aload_n hx hb dX8_rewrite_65 rfl (lv_at hl 0 rfl) ?_
      refine va_get (D := D) (ci := 7) (v := .int (mToWrite x)) (C := RX8) (T := TX8) (N := 24) hx hb hg in_X8 hown hK hP 0 rfl rfl 18 (by decide) (hg _ w843) (fun _ h9 => h9) rfl dX8_rewrite_66 ?_
      obtain rfl := Option.some.inj hf
      exact W.iret (v := (mToWrite x)) hx hb hr (fun t ht hW => ⟨rfl, by rw [ht]; exact hP, va_K.moved hW.alike hK, hD, hS.F ht⟩) hS.2.2 dX8_rewrite_69 hlocks
    · replace hf := if_f c1 hf
      refine lv_aload_n hx hb dX8_rewrite_36 rfl (lv_at hl 0 rfl) ?_
      refine lv_iload_n hx hb dX8_rewrite_37 rfl (lv_at hl 1 rfl) ?_
      obtain ⟨u2, hc3, hf⟩ := bind_t hf
      refine k_V (As := [.int v1]) (rest := []) (n := 1) ⟨hx, hb, hml, hown, hts⟩ (met_X8_isThere l a x v1 u2 hc3) w916 w918 ws26 w9 w919 ⟨rfl, by decide +kernel, by decide +kernel, by decide +kernel⟩ ⟨Nat.le_of_ble_eq_true rfl, Nat.le_of_ble_eq_true rfl⟩ hK hE hP hD hS hA (isC := [0, 1, 2, 3, 4, 5, 6, 7, 8, 9, 10, 11, 12, 13, 14]) (isR := []) (isB := [0, 1, 2, 3, 4, 5, 6, 7, 8, 9, 10, 11, 12, 13, 14]) (ws' := W_Model cI a x) ⟨([] : List Nat).filterMap (fun i : Nat => (W_Model cI a x : va_W)[i]?), rfl, rfl, rfl, rfl, by decide, rfl, rfl⟩ 0 7 rfl rfl rfl rfl hl.1 rfl (Nat.le_of_ble_eq_true rfl) dX8_rewrite_38 ⟨Nat.le_of_ble_eq_true rfl, Nat.le_of_ble_eq_true rfl⟩ (fun H locs hP hD hS => ?_)
      try dsimp only at hf
      refine W.eq (g2 := F0 m 41 ls [.int u2]) rfl ?_
      refine lv_if_eq (tgt := 59) hx hb dX8_rewrite_41 (by decide) (fun c4 => ?_) (fun c4 => ?_)
      · replace hf := if_t c4 hf
        obtain ⟨y5, hy5⟩ : ∃ z : Int32, z = (v1 + 1) := ⟨_, rfl⟩
        replace hf := keep_e hf y5 hy5
        refine lv_iinc (v := y5) (lv' := [(1, .int y5), (0, .ref (a 0))]) hx hb dX8_rewrite_59 hl (k := 1) rfl (by rw [hy5]; rfl) (by decide) rfl (fun ls hl => ?_)
        refine lv_goto (tgt := 30) hx hb dX8_rewrite_62 (by decide) ?_
        exact hrec30 x y5 H locs ls hf hP hD hS (lv_sub hl [1, 0] rfl)
      · replace hf := if_f c4 hf
        refine lv_aload_n hx hb dX8_rewrite_44 rfl (lv_at hl 0 rfl) ?_
        refine lv_iload_n hx hb dX8_rewrite_45 rfl (lv_at hl 1 rfl) ?_
        obtain ⟨u6, hc7, hf⟩ := bind_t hf
        refine k_V (As := [.int v1]) (rest := []) (n := 1) ⟨hx, hb, hml, hown, hts⟩ (met_X8_rewrites l a x v1 u6 hc7) w1085 w1087 ws47 w9 w1088 ⟨rfl, by decide +kernel, by decide +kernel, by decide +kernel⟩ ⟨Nat.le_of_ble_eq_true rfl, Nat.le_of_ble_eq_true rfl⟩ hK hE hP hD hS hA (isC := [0, 1, 2, 3, 4, 5, 6, 7, 8, 9, 10, 11, 12, 13, 14]) (isR := []) (isB := [0, 1, 2, 3, 4, 5, 6, 7, 8, 9, 10, 11, 12, 13, 14]) (ws' := W_Model cI a u6) ⟨([] : List Nat).filterMap (fun i : Nat => (W_Model cI a x : va_W)[i]?), rfl, rfl, rfl, rfl, by decide, rfl, rfl⟩ 0 7 rfl rfl rfl rfl hl.1 rfl (Nat.le_of_ble_eq_true rfl) dX8_rewrite_46 ⟨Nat.le_of_ble_eq_true rfl, Nat.le_of_ble_eq_true rfl⟩ (fun H locs hP hD hS => ?_)
        try dsimp only at hf
        refine W.eq (g2 := F0 m 49 ls []) rfl ?_
        obtain ⟨x8, hx8⟩ : ∃ z, z = u6 := ⟨_, rfl⟩
        replace hf := keep_e hf x8 hx8
        have hP : va_P D vwCl (W_Model cI a x8) H := by rw [hx8]; exact hP
        have hD : va_D A (W_Model cI a x8) := by rw [hx8]; exact hD
        refine lv_aload_n hx hb dX8_rewrite_49 rfl (lv_at hl 0 rfl) ?_
        refine lv_dup hx hb dX8_rewrite_50 rfl ?_
        refine va_get (D := D) (ci := 7) (v := .int (mToWrite x8)) (C := RX8) (T := TX8) (N := 24) hx hb hg in_X8 hown hK hP 0 rfl rfl 18 (by decide) (hg _ w843) (fun _ h9 => h9) rfl dX8_rewrite_51 ?_
        refine lv_iconst (v := 1) hx hb dX8_rewrite_54 (by decide) ?_
        refine lv_iadd hx hb dX8_rewrite_55 ?_
        refine va_put (D := D) (ci := 7) (v := .int ((mToWrite x8) + 1)) (ty := .int) (C := RX8) (T := TX8) (N := 24) hx hb hg in_X8 tyX8 tyX8_ok nmX8 hown hK hP hD hS 0 rfl rfl 18 (by decide) (hg _ w843) (fun _ h9 => h9) rfl (by decide +kernel) rfl rfl (Nat.le_of_ble_eq_true rfl) dX8_rewrite_56 (fun H locs hP hD hS => ?_)
        obtain ⟨x9, hx9⟩ : ∃ z, z = (mToWrite_s x8 ((mToWrite x8) + 1)) := ⟨_, rfl⟩
        replace hf := keep_e hf x9 hx9
        have hP : va_P D vwCl (W_Model cI a x9) H := by rw [hx9]; exact hP
        have hD : va_D A (W_Model cI a x9) := by rw [hx9]; exact hD
        obtain ⟨y10, hy10⟩ : ∃ z : Int32, z = (v1 + 1) := ⟨_, rfl⟩
        replace hf := keep_e hf y10 hy10
        refine lv_iinc (v := y10) (lv' := [(1, .int y10), (0, .ref (a 0))]) hx hb dX8_rewrite_59 hl (k := 1) rfl (by rw [hy10]; rfl) (by decide) rfl (fun ls hl => ?_)
        refine lv_goto (tgt := 30) hx hb dX8_rewrite_62 (by decide) ?_
        exact hrec30 x9 y10 H locs ls hf hP hD hS (lv_sub hl [1, 0] rfl)
  have L30 : ∀ (fu : Nat) (x : MSt) (v1 : Int32) (H : Heap) (locs : List Loc) (ls : Array Slot), iterK fu (fX8_rewrite_30 ) (x, v1) = some res → va_P D vwCl (W_Model cI a x) H → va_D A (W_Model cI a x) → va_S A s.heap H locs → lv_has ls 2 [(0, .ref (a 0)), (1, .int v1)] → W p l e ({ frames := 3, cells := 0, slots := 0, locals := 67 } : Room) s m ([.ref (a 0)] : List Value).toArray below meth c H locs 0 0 (MQ below (QW D (TY cI cV cJ cD) (W_Model cI a res.1) A (some (.int res.2))) (([.ref (a 0)] : List Value).toArray) s 0 0 A) (F0 m 30 ls []) := by
    intro fu
    induction fu with
    | zero =>
      intro x v1 H locs ls hf
      cases hf
    | succ fu ih =>
      intro x v1 H locs ls hf hP hD hS hl
      exact S30 (iterK fu (fX8_rewrite_30 )) ih x v1 H locs ls hf hP hD hS hl
  have M0 : ∀ (H : Heap) (locs : List Loc) (ls : Array Slot), fX8_rewrite x = some res → va_P D vwCl (W_Model cI a x) H → va_D A (W_Model cI a x) → va_S A s.heap H locs → lv_has ls 2 [(0, .ref (a 0))] → W p l e ({ frames := 3, cells := 0, slots := 0, locals := 67 } : Room) s m ([.ref (a 0)] : List Value).toArray below meth c H locs 0 0 (MQ below (QW D (TY cI cV cJ cD) (W_Model cI a res.1) A (some (.int res.2))) (([.ref (a 0)] : List Value).toArray) s 0 0 A) (F0 m 0 ls []) := by
    intro H locs ls hf hP hD hS hl
    dsimp only [fX8_rewrite] at hf
    refine lv_aload_n hx hb dX8_rewrite_0 rfl (lv_at hl 0 rfl) ?_
    refine lv_iconst (v := 0) hx hb dX8_rewrite_1 (by decide) ?_
    refine va_put (D := D) (ci := 7) (v := .int 0) (ty := .int) (C := RX8) (T := TX8) (N := 24) hx hb hg in_X8 tyX8 tyX8_ok nmX8 hown hK hP hD hS 0 rfl rfl 23 (by decide) (hg _ w848) (fun _ h9 => h9) rfl (by decide +kernel) rfl rfl (Nat.le_of_ble_eq_true rfl) dX8_rewrite_2 (fun H locs hP hD hS => ?_)
    obtain ⟨x11, hx11⟩ : ∃ z, z = (mThrown_s x 0) := ⟨_, rfl⟩
    replace hf := keep_e hf x11 hx11
    have hP : va_P D vwCl (W_Model cI a x11) H := by rw [hx11]; exact hP
    have hD : va_D A (W_Model cI a x11) := by rw [hx11]; exact hD
    refine lv_aload_n hx hb dX8_rewrite_5 rfl (lv_at hl 0 rfl) ?_
    refine lv_iconst (v := 1) hx hb dX8_rewrite_6 (by decide) ?_
    refine va_put (D := D) (ci := 7) (v := .int 1) (ty := .boolean) (C := RX8) (T := TX8) (N := 24) hx hb hg in_X8 tyX8 tyX8_ok nmX8 hown hK hP hD hS 0 rfl rfl 17 (by decide) (hg _ w842) (fun _ h9 => h9) rfl (by decide +kernel) (by decide +kernel) (by decide +kernel) (Nat.le_of_ble_eq_true rfl) dX8_rewrite_7 (fun H locs hP hD hS => ?_)
    obtain ⟨x12, hx12⟩ : ∃ z, z = (mIsRewriting_s x11 1) := ⟨_, rfl⟩
    replace hf := keep_e hf x12 hx12
    have hP : va_P D vwCl (W_Model cI a x12) H := by rw [hx12]; exact hP
    have hD : va_D A (W_Model cI a x12) := by rw [hx12]; exact hD
    refine lv_aload_n hx hb dX8_rewrite_10 rfl (lv_at hl 0 rfl) ?_
    refine lv_iconst (v := 0) hx hb dX8_rewrite_11 (by decide) ?_
    refine va_put (D := D) (ci := 7) (v := .int 0) (ty := .int) (C := RX8) (T := TX8) (N := 24) hx hb hg in_X8 tyX8 tyX8_ok nmX8 hown hK hP hD hS 0 rfl rfl 18 (by decide) (hg _ w843) (fun _ h9 => h9) rfl (by decide +kernel) rfl rfl (Nat.le_of_ble_eq_true rfl) dX8_rewrite_12 (fun H locs hP hD hS => ?_)
    obtain ⟨x13, hx13⟩ : ∃ z, z = (mToWrite_s x12 0) := ⟨_, rfl⟩
    replace hf := keep_e hf x13 hx13
    have hP : va_P D vwCl (W_Model cI a x13) H := by rw [hx13]; exact hP
    have hD : va_D A (W_Model cI a x13) := by rw [hx13]; exact hD
    refine lv_aload_n hx hb dX8_rewrite_15 rfl (lv_at hl 0 rfl) ?_
    refine lv_iconst (v := 0) hx hb dX8_rewrite_16 (by decide) ?_
    refine va_put (D := D) (ci := 7) (v := .int 0) (ty := .int) (C := RX8) (T := TX8) (N := 24) hx hb hg in_X8 tyX8 tyX8_ok nmX8 hown hK hP hD hS 0 rfl rfl 20 (by decide) (hg _ w845) (fun _ h9 => h9) rfl (by decide +kernel) rfl rfl (Nat.le_of_ble_eq_true rfl) dX8_rewrite_17 (fun H locs hP hD hS => ?_)
    obtain ⟨x14, hx14⟩ : ∃ z, z = (mNewRows_s x13 0) := ⟨_, rfl⟩
    replace hf := keep_e hf x14 hx14
    have hP : va_P D vwCl (W_Model cI a x14) H := by rw [hx14]; exact hP
    have hD : va_D A (W_Model cI a x14) := by rw [hx14]; exact hD
    refine lv_aload_n hx hb dX8_rewrite_20 rfl (lv_at hl 0 rfl) ?_
    refine lv_aload_n hx hb dX8_rewrite_21 rfl (lv_at hl 0 rfl) ?_
    refine va_get (D := D) (ci := 7) (v := .int (mRows x14)) (C := RX8) (T := TX8) (N := 24) hx hb hg in_X8 hown hK hP 0 rfl rfl 14 (by decide) (hg _ w839) (fun _ h9 => h9) rfl dX8_rewrite_22 ?_
    refine va_put (D := D) (ci := 7) (v := .int (mRows x14)) (ty := .int) (C := RX8) (T := TX8) (N := 24) hx hb hg in_X8 tyX8 tyX8_ok nmX8 hown hK hP hD hS 0 rfl rfl 19 (by decide) (hg _ w844) (fun _ h9 => h9) rfl (by decide +kernel) rfl rfl (Nat.le_of_ble_eq_true rfl) dX8_rewrite_25 (fun H locs hP hD hS => ?_)
    obtain ⟨x15, hx15⟩ : ∃ z, z = (mBegunAt_s x14 (mRows x14)) := ⟨_, rfl⟩
    replace hf := keep_e hf x15 hx15
    have hP : va_P D vwCl (W_Model cI a x15) H := by rw [hx15]; exact hP
    have hD : va_D A (W_Model cI a x15) := by rw [hx15]; exact hD
    refine lv_iconst (v := 0) hx hb dX8_rewrite_28 (by decide) ?_
    refine lv_istore_n (lv' := [(1, .int 0), (0, .ref (a 0))]) hx hb dX8_rewrite_29 rfl hl (by decide) rfl (fun ls hl => ?_)
    exact L30  FU x15 0 H locs ls hf hP hD hS (lv_sub hl [1, 0] rfl)
  exact M0 s.heap [] ls hf hP hD hS hl
/-! CompactformsModel.replaces()V -/
def fX8_replaces_131 (rec131 : MSt × Int32 → Option (MSt)) (s : MSt × Int32) : Option (MSt) := match s with | (x, v1) => (if (6 * (mRows x)) ≤ v1 then keep (mIsRewriting_s x 0) (fun x2 => some x2) else chk (inb v1 3600) (chk (inb v1 1800) (keep (mLog_s x (upd (mLog x) (v1).toNatClampNeg ((mFresh x) (v1).toNatClampNeg))) (fun x5 => keep (v1 + 1) (fun y6 => rec131 (x5, y6))))))
def fX8_replaces_66 (rec66 : MSt × Int32 → Option (MSt)) (s : MSt × Int32) : Option (MSt) := match s with | (x, v1) => (if (6 * (mRows x)) ≤ v1 then keep (mRows_s x (((mNewRows x) + (mRows x)) - (mBegunAt x))) (fun x8 => iterK FU (fX8_replaces_131 ) (x8, 0)) else chk (inb v1 1800) (chk (inb (((6 * (mNewRows x)) + v1) - (6 * (mBegunAt x))) 3600) (keep (mFresh_s x (upd (mFresh x) ((((6 * (mNewRows x)) + v1) - (6 * (mBegunAt x)))).toNatClampNeg ((mLog x) (v1).toNatClampNeg))) (fun x11 => keep (v1 + 1) (fun y12 => rec66 (x11, y12))))))
def fX8_replaces_51 (rec2 : MSt × Int32 → Option (MSt)) (x : MSt) (v1 : Int32) (s0 : Int32) (s1 : Int32) : Option (MSt) := chk (inb s1 16) (keep (mMadeAt_s x (upd (mMadeAt x) (s1).toNatClampNeg s0)) (fun x14 => keep (v1 + 1) (fun y15 => rec2 (x14, y15))))
def fX8_replaces_2 (rec2 : MSt × Int32 → Option (MSt)) (s : MSt × Int32) : Option (MSt) := match s with | (x, v1) => (if 16 ≤ v1 then keep (6 * (mBegunAt x)) (fun y17 => iterK FU (fX8_replaces_66 ) (x, y17)) else chk (inb v1 16) ((if ((mMadeAt x) (v1).toNatClampNeg) < (mBegunAt x) then chk (inb v1 16) (fX8_replaces_51 rec2 x v1 ((mFreshAt x) (v1).toNatClampNeg) v1) else chk (inb v1 16) (fX8_replaces_51 rec2 x v1 ((((mMadeAt x) (v1).toNatClampNeg) - (mBegunAt x)) + (mNewRows x)) v1))))
def fX8_replaces (x : MSt) : Option (MSt) := iterK FU (fX8_replaces_2 ) (x, 0)
set_option maxHeartbeats 4000000 in
set_option maxRecDepth 100000 in
theorem met_X8_replaces {D : va_G} {cI cV cJ cD : ClassId} (l : Launch) (a : Nat → Nat) (x : MSt) (res : MSt) (hf : fX8_replaces x = some res) : MM l yX8_replaces cX8_replaces 2 none { frames := 0, cells := 0, slots := 0, locals := 0 } D (TY cI cV cJ cD) (W_Model cI a x) (W_Model cI a res) [.ref (a 0)] none := by
  intro sz
  refine Met.ofW (cc := cX8_replaces) (maxL := 2) (ret := none) (by decide +kernel) rfl ?_
  intro p e s m args below meth c s₁ B hml hv
  obtain ⟨rfl, hsz, hP, hK, hD0, hE⟩ := hv
  have hx := B.exec
  have hb := B.bytes
  have hr := B.returns
  have hts := atoms_spec (ws := .code yX8_replaces cX8_replaces 2 none :: GW) B.pre
  have hg : ∀ w ∈ GW, w.before (([.ref (a 0)] : List Value).toArray) s = true := fun w h => hts w (List.mem_cons_of_mem _ h)
  have hown : s.vm.findClass RX8 = some m.cls := findClass_of_methodNamed B.named
  have hlocks := B.notSynchronized
  subst hsz
  have hD := hD0.self (sz := s.heap.size)
  generalize hAe : va_A (W_Model cI a x) s.heap.size = A at hD hE ⊢
  have hA : ∀ q : Nat, s.heap.size ≤ q → A q := fun q h => by rw [← hAe]; exact Or.inr h
  have hS : va_S A s.heap s.heap [] := va_S.rf
  have hl := lv_entry ([.ref (a 0)]) (n := 2) (Nat.le_of_ble_eq_true rfl)
  rw [lg_entry_eq]
  generalize (lg_sl ([.ref (a 0)]) ++ List.replicate (2 - (lg_sl ([.ref (a 0)])).length) Slot.unset).toArray = ls at hl ⊢
  have hl : lv_has ls 2 [(0, .ref (a 0))] := hl
  have S131 : ∀ (rec131 : MSt × Int32 → Option (MSt)) (hrec131 : ∀ (x : MSt), ∀ (v1 : Int32), ∀ (H : Heap) (locs : List Loc) (ls : Array Slot), rec131 (x, v1) = some res → va_P D vwCl (W_Model cI a x) H → va_D A (W_Model cI a x) → va_S A s.heap H locs → lv_has ls 2 [(0, .ref (a 0)), (1, .int v1)] → W p l e ({ frames := 0, cells := 0, slots := 0, locals := 0 } : Room) s m ([.ref (a 0)] : List Value).toArray below meth c H locs 0 0 (MQ below (QW D (TY cI cV cJ cD) (W_Model cI a res) A none) (([.ref (a 0)] : List Value).toArray) s 0 0 A) (F0 m 131 ls [])) (x : MSt) (v1 : Int32) (H : Heap) (locs : List Loc) (ls : Array Slot), fX8_replaces_131  rec131 (x, v1) = some res → va_P D vwCl (W_Model cI a x) H → va_D A (W_Model cI a x) → va_S A s.heap H locs → lv_has ls 2 [(0, .ref (a 0)), (1, .int v1)] → W p l e ({ frames := 0, cells := 0, slots := 0, locals := 0 } : Room) s m ([.ref (a 0)] : List Value).toArray below meth c H locs 0 0 (MQ below (QW D (TY cI cV cJ cD) (W_Model cI a res) A none) (([.ref (a 0)] : List Value).toArray) s 0 0 A) (F0 m 131 ls []) := by
    intro rec131 hrec131 x v1 H locs ls hf hP hD hS hl
    dsimp only [fX8_replaces_131] at hf
    refine lv_iload_n hx hb dX8_replaces_131 rfl (lv_at hl 1 rfl) ?_
    refine lv_bipush (v := 6) hx hb dX8_replaces_132 (by decide) ?_
    refine lv_aload_n hx hb dX8_replaces_134 rfl (lv_at hl 0 rfl) ?_
    refine va_get (D := D) (ci := 7) (v := .int (mRows x)) (C := RX8) (T := TX8) (N := 24) hx hb hg in_X8 hown hK hP 0 rfl rfl 14 (by decide) (hg _ w839) (fun _ h9 => h9) rfl dX8_replaces_135 ?_
    refine lv_imul hx hb dX8_replaces_138 ?_
    refine lv_icmp_ge (tgt := 160) hx hb dX8_replaces_139 (by decide) (fun c1 => ?_) (fun c1 => ?_)
    · replace hf := if_t c1 hf
      refine lv_aload_n hx hb dX8_replaces_160 rfl (lv_at hl 0 rfl) ?_
      refine lv_iconst (v := 0) hx hb dX8_replaces_161 (by decide) ?_
      refine va_put (D := D) (ci := 7) (v := .int 0) (ty := .boolean) (C := RX8) (T := TX8) (N := 24) hx hb hg in_X8 tyX8 tyX8_ok nmX8 hown hK hP hD hS 0 rfl rfl 17 (by decide) (hg _ w842) (fun _ h9 => h9) rfl (by decide +kernel) (by decide +kernel) (by decide +kernel) (Nat.le_of_ble_eq_true rfl) dX8_replaces_162 (fun H locs hP hD hS => ?_)
      obtain ⟨x2, hx2⟩ : ∃ z, z = (mIsRewriting_s x 0) := ⟨_, rfl⟩
      replace hf := keep_e hf x2 hx2
      have hP : va_P D vwCl (W_Model cI a x2) H := by rw [hx2]; exact hP
      have hD : va_D A (W_Model cI a x2) := by rw [hx2]; exact hD
      obtain rfl := Option.some.inj hf
      exact W.vret hx hb hr (fun t ht hW => ⟨rfl, by rw [ht]; exact hP, va_K.moved hW.alike hK, hD, hS.F ht⟩) hS.2.2 dX8_replaces_165 hlocks
    · replace hf := if_f c1 hf
      refine lv_aload_n hx hb dX8_replaces_142 rfl (lv_at hl 0 rfl) ?_
      refine va_get (D := D) (ci := 7) (v := .ref (a 12)) (C := RX8) (T := TX8) (N := 24) hx hb hg in_X8 hown hK hP 0 rfl rfl 16 (by decide) (hg _ w841) (fun _ h9 => h9) rfl dX8_replaces_143 ?_
      refine lv_iload_n hx hb dX8_replaces_146 rfl (lv_at hl 1 rfl) ?_
      refine lv_aload_n hx hb dX8_replaces_147 rfl (lv_at hl 0 rfl) ?_
      refine va_get (D := D) (ci := 7) (v := .ref (a 13)) (C := RX8) (T := TX8) (N := 24) hx hb hg in_X8 hown hK hP 0 rfl rfl 21 (by decide) (hg _ w846) (fun _ h9 => h9) rfl dX8_replaces_148 ?_
      refine lv_iload_n hx hb dX8_replaces_151 rfl (lv_at hl 1 rfl) ?_
      obtain ⟨hi3, hf⟩ := chk_t hf
      refine va_iald hx hb hK hP 13 0 rfl rfl (inb_in hi3) dX8_replaces_152 ?_
      obtain ⟨hi4, hf⟩ := chk_t hf
      refine va_iast hx hb hK hP hD hS 12 0 rfl rfl (inb_in hi4) dX8_replaces_153 (fun H locs hP hD hS => ?_)
      obtain ⟨x5, hx5⟩ : ∃ z, z = (mLog_s x (upd (mLog x) (v1).toNatClampNeg ((mFresh x) (v1).toNatClampNeg))) := ⟨_, rfl⟩
      replace hf := keep_e hf x5 hx5
      have hP : va_P D vwCl (W_Model cI a x5) H := by rw [hx5]; exact hP
      have hD : va_D A (W_Model cI a x5) := by rw [hx5]; exact hD
      obtain ⟨y6, hy6⟩ : ∃ z : Int32, z = (v1 + 1) := ⟨_, rfl⟩
      replace hf := keep_e hf y6 hy6
      refine lv_iinc (v := y6) (lv' := [(1, .int y6), (0, .ref (a 0))]) hx hb dX8_replaces_154 hl (k := 1) rfl (by rw [hy6]; rfl) (by decide) rfl (fun ls hl => ?_)
      refine lv_goto (tgt := 131) hx hb dX8_replaces_157 (by decide) ?_
      exact hrec131 x5 y6 H locs ls hf hP hD hS (lv_sub hl [1, 0] rfl)
  have L131 : ∀ (fu : Nat) (x : MSt) (v1 : Int32) (H : Heap) (locs : List Loc) (ls : Array Slot), iterK fu (fX8_replaces_131 ) (x, v1) = some res → va_P D vwCl (W_Model cI a x) H → va_D A (W_Model cI a x) → va_S A s.heap H locs → lv_has ls 2 [(0, .ref (a 0)), (1, .int v1)] → W p l e ({ frames := 0, cells := 0, slots := 0, locals := 0 } : Room) s m ([.ref (a 0)] : List Value).toArray below meth c H locs 0 0 (MQ below (QW D (TY cI cV cJ cD) (W_Model cI a res) A none) (([.ref (a 0)] : List Value).toArray) s 0 0 A) (F0 m 131 ls []) := by
    intro fu
    induction fu with
    | zero =>
      intro x v1 H locs ls hf
      cases hf
    | succ fu ih =>
      intro x v1 H locs ls hf hP hD hS hl
      exact S131 (iterK fu (fX8_replaces_131 )) ih x v1 H locs ls hf hP hD hS hl
  have S66 : ∀ (rec66 : MSt × Int32 → Option (MSt)) (hrec66 : ∀ (x : MSt), ∀ (v1 : Int32), ∀ (H : Heap) (locs : List Loc) (ls : Array Slot), rec66 (x, v1) = some res → va_P D vwCl (W_Model cI a x) H → va_D A (W_Model cI a x) → va_S A s.heap H locs → lv_has ls 2 [(0, .ref (a 0)), (1, .int v1)] → W p l e ({ frames := 0, cells := 0, slots := 0, locals := 0 } : Room) s m ([.ref (a 0)] : List Value).toArray below meth c H locs 0 0 (MQ below (QW D (TY cI cV cJ cD) (W_Model cI a res) A none) (([.ref (a 0)] : List Value).toArray) s 0 0 A) (F0 m 66 ls [])) (x : MSt) (v1 : Int32) (H : Heap) (locs : List Loc) (ls : Array Slot), fX8_replaces_66  rec66 (x, v1) = some res → va_P D vwCl (W_Model cI a x) H → va_D A (W_Model cI a x) → va_S A s.heap H locs → lv_has ls 2 [(0, .ref (a 0)), (1, .int v1)] → W p l e ({ frames := 0, cells := 0, slots := 0, locals := 0 } : Room) s m ([.ref (a 0)] : List Value).toArray below meth c H locs 0 0 (MQ below (QW D (TY cI cV cJ cD) (W_Model cI a res) A none) (([.ref (a 0)] : List Value).toArray) s 0 0 A) (F0 m 66 ls []) := by
    intro rec66 hrec66 x v1 H locs ls hf hP hD hS hl
    dsimp only [fX8_replaces_66] at hf
    refine lv_iload_n hx hb dX8_replaces_66 rfl (lv_at hl 1 rfl) ?_
    refine lv_bipush (v := 6) hx hb dX8_replaces_67 (by decide) ?_
    refine lv_aload_n hx hb dX8_replaces_69 rfl (lv_at hl 0 rfl) ?_
    refine va_get (D := D) (ci := 7) (v := .int (mRows x)) (C := RX8) (T := TX8) (N := 24) hx hb hg in_X8 hown hK hP 0 rfl rfl 14 (by decide) (hg _ w839) (fun _ h9 => h9) rfl dX8_replaces_70 ?_
    refine lv_imul hx hb dX8_replaces_73 ?_
    refine lv_icmp_ge (tgt := 111) hx hb dX8_replaces_74 (by decide) (fun c7 => ?_) (fun c7 => ?_)
    · replace hf := if_t c7 hf
      refine lv_aload_n hx hb dX8_replaces_111 rfl (lv_at hl 0 rfl) ?_
      refine lv_aload_n hx hb dX8_replaces_112 rfl (lv_at hl 0 rfl) ?_
      refine va_get (D := D) (ci := 7) (v := .int (mNewRows x)) (C := RX8) (T := TX8) (N := 24) hx hb hg in_X8 hown hK hP 0 rfl rfl 20 (by decide) (hg _ w845) (fun _ h9 => h9) rfl dX8_replaces_113 ?_
      refine lv_aload_n hx hb dX8_replaces_116 rfl (lv_at hl 0 rfl) ?_
      refine va_get (D := D) (ci := 7) (v := .int (mRows x)) (C := RX8) (T := TX8) (N := 24) hx hb hg in_X8 hown hK hP 0 rfl rfl 14 (by decide) (hg _ w839) (fun _ h9 => h9) rfl dX8_replaces_117 ?_
      refine lv_iadd hx hb dX8_replaces_120 ?_
      refine lv_aload_n hx hb dX8_replaces_121 rfl (lv_at hl 0 rfl) ?_
      refine va_get (D := D) (ci := 7) (v := .int (mBegunAt x)) (C := RX8) (T := TX8) (N := 24) hx hb hg in_X8 hown hK hP 0 rfl rfl 19 (by decide) (hg _ w844) (fun _ h9 => h9) rfl dX8_replaces_122 ?_
      refine lv_isub hx hb dX8_replaces_125 ?_
      refine va_put (D := D) (ci := 7) (v := .int (((mNewRows x) + (mRows x)) - (mBegunAt x))) (ty := .int) (C := RX8) (T := TX8) (N := 24) hx hb hg in_X8 tyX8 tyX8_ok nmX8 hown hK hP hD hS 0 rfl rfl 14 (by decide) (hg _ w839) (fun _ h9 => h9) rfl (by decide +kernel) rfl rfl (Nat.le_of_ble_eq_true rfl) dX8_replaces_126 (fun H locs hP hD hS => ?_)
      obtain ⟨x8, hx8⟩ : ∃ z, z = (mRows_s x (((mNewRows x) + (mRows x)) - (mBegunAt x))) := ⟨_, rfl⟩
      replace hf := keep_e hf x8 hx8
      have hP : va_P D vwCl (W_Model cI a x8) H := by rw [hx8]; exact hP
      have hD : va_D A (W_Model cI a x8) := by rw [hx8]; exact hD
      refine lv_iconst (v := 0) hx hb dX8_replaces_129 (by decide) ?_
      refine lv_istore_n (lv' := [(1, .int 0), (0, .ref (a 0))]) hx hb dX8_replaces_130 rfl hl (by decide) rfl (fun ls hl => ?_)
      exact L131  FU x8 0 H locs ls hf hP hD hS (lv_sub hl [1, 0] rfl)
    · replace hf := if_f c7 hf
      refine lv_aload_n hx hb dX8_replaces_77 rfl (lv_at hl 0 rfl) ?_
      refine va_get (D := D) (ci := 7) (v := .ref (a 13)) (C := RX8) (T := TX8) (N := 24) hx hb hg in_X8 hown hK hP 0 rfl rfl 21 (by decide) (hg _ w846) (fun _ h9 => h9) rfl dX8_replaces_78 ?_
      refine lv_bipush (v := 6) hx hb dX8_replaces_81 (by decide) ?_
      refine lv_aload_n hx hb dX8_replaces_83 rfl (lv_at hl 0 rfl) ?_
      refine va_get (D := D) (ci := 7) (v := .int (mNewRows x)) (C := RX8) (T := TX8) (N := 24) hx hb hg in_X8 hown hK hP 0 rfl rfl 20 (by decide) (hg _ w845) (fun _ h9 => h9) rfl dX8_replaces_84 ?_
      refine lv_imul hx hb dX8_replaces_87 ?_
      refine lv_iload_n hx hb dX8_replaces_88 rfl (lv_at hl 1 rfl) ?_
      refine lv_iadd hx hb dX8_replaces_89 ?_
      refine lv_bipush (v := 6) hx hb dX8_replaces_90 (by decide) ?_
      refine lv_aload_n hx hb dX8_replaces_92 rfl (lv_at hl 0 rfl) ?_
      refine va_get (D := D) (ci := 7) (v := .int (mBegunAt x)) (C := RX8) (T := TX8) (N := 24) hx hb hg in_X8 hown hK hP 0 rfl rfl 19 (by decide) (hg _ w844) (fun _ h9 => h9) rfl dX8_replaces_93 ?_
      refine lv_imul hx hb dX8_replaces_96 ?_
      refine lv_isub hx hb dX8_replaces_97 ?_
      refine lv_aload_n hx hb dX8_replaces_98 rfl (lv_at hl 0 rfl) ?_
      refine va_get (D := D) (ci := 7) (v := .ref (a 12)) (C := RX8) (T := TX8) (N := 24) hx hb hg in_X8 hown hK hP 0 rfl rfl 16 (by decide) (hg _ w841) (fun _ h9 => h9) rfl dX8_replaces_99 ?_
      refine lv_iload_n hx hb dX8_replaces_102 rfl (lv_at hl 1 rfl) ?_
      obtain ⟨hi9, hf⟩ := chk_t hf
      refine va_iald hx hb hK hP 12 0 rfl rfl (inb_in hi9) dX8_replaces_103 ?_
      obtain ⟨hi10, hf⟩ := chk_t hf
      refine va_iast hx hb hK hP hD hS 13 0 rfl rfl (inb_in hi10) dX8_replaces_104 (fun H locs hP hD hS => ?_)
      obtain ⟨x11, hx11⟩ : ∃ z, z = (mFresh_s x (upd (mFresh x) ((((6 * (mNewRows x)) + v1) - (6 * (mBegunAt x)))).toNatClampNeg ((mLog x) (v1).toNatClampNeg))) := ⟨_, rfl⟩
      replace hf := keep_e hf x11 hx11
      have hP : va_P D vwCl (W_Model cI a x11) H := by rw [hx11]; exact hP
      have hD : va_D A (W_Model cI a x11) := by rw [hx11]; exact hD
      obtain ⟨y12, hy12⟩ : ∃ z : Int32, z = (v1 + 1) := ⟨_, rfl⟩
      replace hf := keep_e hf y12 hy12
      refine lv_iinc (v := y12) (lv' := [(1, .int y12), (0, .ref (a 0))]) hx hb dX8_replaces_105 hl (k := 1) rfl (by rw [hy12]; rfl) (by decide) rfl (fun ls hl => ?_)
      refine lv_goto (tgt := 66) hx hb dX8_replaces_108 (by decide) ?_
      exact hrec66 x11 y12 H locs ls hf hP hD hS (lv_sub hl [1, 0] rfl)
  have L66 : ∀ (fu : Nat) (x : MSt) (v1 : Int32) (H : Heap) (locs : List Loc) (ls : Array Slot), iterK fu (fX8_replaces_66 ) (x, v1) = some res → va_P D vwCl (W_Model cI a x) H → va_D A (W_Model cI a x) → va_S A s.heap H locs → lv_has ls 2 [(0, .ref (a 0)), (1, .int v1)] → W p l e ({ frames := 0, cells := 0, slots := 0, locals := 0 } : Room) s m ([.ref (a 0)] : List Value).toArray below meth c H locs 0 0 (MQ below (QW D (TY cI cV cJ cD) (W_Model cI a res) A none) (([.ref (a 0)] : List Value).toArray) s 0 0 A) (F0 m 66 ls []) := by
    intro fu
    induction fu with
    | zero =>
      intro x v1 H locs ls hf
      cases hf
    | succ fu ih =>
      intro x v1 H locs ls hf hP hD hS hl
      exact S66 (iterK fu (fX8_replaces_66 )) ih x v1 H locs ls hf hP hD hS hl
  have L51 : ∀ (x : MSt) (v1 : Int32) (s0 : Int32) (s1 : Int32) (rec2 : MSt × Int32 → Option (MSt)) (hrec2 : ∀ (x : MSt), ∀ (v1 : Int32), ∀ (H : Heap) (locs : List Loc) (ls : Array Slot), rec2 (x, v1) = some res → va_P D vwCl (W_Model cI a x) H → va_D A (W_Model cI a x) → va_S A s.heap H locs → lv_has ls 2 [(0, .ref (a 0)), (1, .int v1)] → W p l e ({ frames := 0, cells := 0, slots := 0, locals := 0 } : Room) s m ([.ref (a 0)] : List Value).toArray below meth c H locs 0 0 (MQ below (QW D (TY cI cV cJ cD) (W_Model cI a res) A none) (([.ref (a 0)] : List Value).toArray) s 0 0 A) (F0 m 2 ls [])) (H : Heap) (locs : List Loc) (ls : Array Slot), fX8_replaces_51 rec2 x v1 s0 s1  = some res → va_P D vwCl (W_Model cI a x) H → va_D A (W_Model cI a x) → va_S A s.heap H locs → lv_has ls 2 [(0, .ref (a 0)), (1, .int v1)] → W p l e ({ frames := 0, cells := 0, slots := 0, locals := 0 } : Room) s m ([.ref (a 0)] : List Value).toArray below meth c H locs 0 0 (MQ below (QW D (TY cI cV cJ cD) (W_Model cI a res) A none) (([.ref (a 0)] : List Value).toArray) s 0 0 A) (F0 m 51 ls [.int s0, .int s1, .ref (a 8)]) := by
    intro x v1 s0 s1 rec2 hrec2 H locs ls hf hP hD hS hl
    dsimp only [fX8_replaces_51] at hf
    obtain ⟨hi13, hf⟩ := chk_t hf
    refine va_iast hx hb hK hP hD hS 8 0 rfl rfl (inb_in hi13) dX8_replaces_51 (fun H locs hP hD hS => ?_)
    obtain ⟨x14, hx14⟩ : ∃ z, z = (mMadeAt_s x (upd (mMadeAt x) (s1).toNatClampNeg s0)) := ⟨_, rfl⟩
    replace hf := keep_e hf x14 hx14
    have hP : va_P D vwCl (W_Model cI a x14) H := by rw [hx14]; exact hP
    have hD : va_D A (W_Model cI a x14) := by rw [hx14]; exact hD
    obtain ⟨y15, hy15⟩ : ∃ z : Int32, z = (v1 + 1) := ⟨_, rfl⟩
    replace hf := keep_e hf y15 hy15
    refine lv_iinc (v := y15) (lv' := [(1, .int y15), (0, .ref (a 0))]) hx hb dX8_replaces_52 hl (k := 1) rfl (by rw [hy15]; rfl) (by decide) rfl (fun ls hl => ?_)
    refine lv_goto (tgt := 2) hx hb dX8_replaces_55 (by decide) ?_
    exact hrec2 x14 y15 H locs ls hf hP hD hS (lv_sub hl [1, 0] rfl)
  have S2 : ∀ (rec2 : MSt × Int32 → Option (MSt)) (hrec2 : ∀ (x : MSt), ∀ (v1 : Int32), ∀ (H : Heap) (locs : List Loc) (ls : Array Slot), rec2 (x, v1) = some res → va_P D vwCl (W_Model cI a x) H → va_D A (W_Model cI a x) → va_S A s.heap H locs → lv_has ls 2 [(0, .ref (a 0)), (1, .int v1)] → W p l e ({ frames := 0, cells := 0, slots := 0, locals := 0 } : Room) s m ([.ref (a 0)] : List Value).toArray below meth c H locs 0 0 (MQ below (QW D (TY cI cV cJ cD) (W_Model cI a res) A none) (([.ref (a 0)] : List Value).toArray) s 0 0 A) (F0 m 2 ls [])) (x : MSt) (v1 : Int32) (H : Heap) (locs : List Loc) (ls : Array Slot), fX8_replaces_2  rec2 (x, v1) = some res → va_P D vwCl (W_Model cI a x) H → va_D A (W_Model cI a x) → va_S A s.heap H locs → lv_has ls 2 [(0, .ref (a 0)), (1, .int v1)] → W p l e ({ frames := 0, cells := 0, slots := 0, locals := 0 } : Room) s m ([.ref (a 0)] : List Value).toArray below meth c H locs 0 0 (MQ below (QW D (TY cI cV cJ cD) (W_Model cI a res) A none) (([.ref (a 0)] : List Value).toArray) s 0 0 A) (F0 m 2 ls []) := by
    intro rec2 hrec2 x v1 H locs ls hf hP hD hS hl
    dsimp only [fX8_replaces_2] at hf
    refine lv_iload_n hx hb dX8_replaces_2 rfl (lv_at hl 1 rfl) ?_
    refine lv_bipush (v := 16) hx hb dX8_replaces_3 (by decide) ?_
    refine lv_icmp_ge (tgt := 58) hx hb dX8_replaces_5 (by decide) (fun c16 => ?_) (fun c16 => ?_)
    · replace hf := if_t c16 hf
      refine lv_bipush (v := 6) hx hb dX8_replaces_58 (by decide) ?_
      refine lv_aload_n hx hb dX8_replaces_60 rfl (lv_at hl 0 rfl) ?_
      refine va_get (D := D) (ci := 7) (v := .int (mBegunAt x)) (C := RX8) (T := TX8) (N := 24) hx hb hg in_X8 hown hK hP 0 rfl rfl 19 (by decide) (hg _ w844) (fun _ h9 => h9) rfl dX8_replaces_61 ?_
      refine lv_imul hx hb dX8_replaces_64 ?_
      refine lv_topi (fun y17 hy17 => ?_)
      replace hf := keep_e hf y17 hy17
      refine lv_istore_n (lv' := [(1, .int y17), (0, .ref (a 0))]) hx hb dX8_replaces_65 rfl hl (by decide) rfl (fun ls hl => ?_)
      exact L66  FU x y17 H locs ls hf hP hD hS (lv_sub hl [1, 0] rfl)
    · replace hf := if_f c16 hf
      refine lv_aload_n hx hb dX8_replaces_8 rfl (lv_at hl 0 rfl) ?_
      refine va_get (D := D) (ci := 7) (v := .ref (a 8)) (C := RX8) (T := TX8) (N := 24) hx hb hg in_X8 hown hK hP 0 rfl rfl 9 (by decide) (hg _ w834) (fun _ h9 => h9) rfl dX8_replaces_9 ?_
      refine lv_iload_n hx hb dX8_replaces_12 rfl (lv_at hl 1 rfl) ?_
      refine lv_aload_n hx hb dX8_replaces_13 rfl (lv_at hl 0 rfl) ?_
      refine va_get (D := D) (ci := 7) (v := .ref (a 8)) (C := RX8) (T := TX8) (N := 24) hx hb hg in_X8 hown hK hP 0 rfl rfl 9 (by decide) (hg _ w834) (fun _ h9 => h9) rfl dX8_replaces_14 ?_
      refine lv_iload_n hx hb dX8_replaces_17 rfl (lv_at hl 1 rfl) ?_
      obtain ⟨hi18, hf⟩ := chk_t hf
      refine va_iald hx hb hK hP 8 0 rfl rfl (inb_in hi18) dX8_replaces_18 ?_
      refine lv_aload_n hx hb dX8_replaces_19 rfl (lv_at hl 0 rfl) ?_
      refine va_get (D := D) (ci := 7) (v := .int (mBegunAt x)) (C := RX8) (T := TX8) (N := 24) hx hb hg in_X8 hown hK hP 0 rfl rfl 19 (by decide) (hg _ w844) (fun _ h9 => h9) rfl dX8_replaces_20 ?_
      refine lv_icmp_lt (tgt := 45) hx hb dX8_replaces_23 (by decide) (fun c19 => ?_) (fun c19 => ?_)
      · replace hf := if_t c19 hf
        refine lv_aload_n hx hb dX8_replaces_45 rfl (lv_at hl 0 rfl) ?_
        refine va_get (D := D) (ci := 7) (v := .ref (a 14)) (C := RX8) (T := TX8) (N := 24) hx hb hg in_X8 hown hK hP 0 rfl rfl 22 (by decide) (hg _ w847) (fun _ h9 => h9) rfl dX8_replaces_46 ?_
        refine lv_iload_n hx hb dX8_replaces_49 rfl (lv_at hl 1 rfl) ?_
        obtain ⟨hi20, hf⟩ := chk_t hf
        refine va_iald hx hb hK hP 14 0 rfl rfl (inb_in hi20) dX8_replaces_50 ?_
        exact L51 x v1 ((mFreshAt x) (v1).toNatClampNeg) v1 rec2 hrec2 H locs ls hf hP hD hS (lv_sub hl [0, 1] rfl)
      · replace hf := if_f c19 hf
        refine lv_aload_n hx hb dX8_replaces_26 rfl (lv_at hl 0 rfl) ?_
        refine va_get (D := D) (ci := 7) (v := .ref (a 8)) (C := RX8) (T := TX8) (N := 24) hx hb hg in_X8 hown hK hP 0 rfl rfl 9 (by decide) (hg _ w834) (fun _ h9 => h9) rfl dX8_replaces_27 ?_
        refine lv_iload_n hx hb dX8_replaces_30 rfl (lv_at hl 1 rfl) ?_
        obtain ⟨hi21, hf⟩ := chk_t hf
        refine va_iald hx hb hK hP 8 0 rfl rfl (inb_in hi21) dX8_replaces_31 ?_
        refine lv_aload_n hx hb dX8_replaces_32 rfl (lv_at hl 0 rfl) ?_
        refine va_get (D := D) (ci := 7) (v := .int (mBegunAt x)) (C := RX8) (T := TX8) (N := 24) hx hb hg in_X8 hown hK hP 0 rfl rfl 19 (by decide) (hg _ w844) (fun _ h9 => h9) rfl dX8_replaces_33 ?_
        refine lv_isub hx hb dX8_replaces_36 ?_
        refine lv_aload_n hx hb dX8_replaces_37 rfl (lv_at hl 0 rfl) ?_
        refine va_get (D := D) (ci := 7) (v := .int (mNewRows x)) (C := RX8) (T := TX8) (N := 24) hx hb hg in_X8 hown hK hP 0 rfl rfl 20 (by decide) (hg _ w845) (fun _ h9 => h9) rfl dX8_replaces_38 ?_
        refine lv_iadd hx hb dX8_replaces_41 ?_
        refine lv_goto (tgt := 51) hx hb dX8_replaces_42 (by decide) ?_
        exact L51 x v1 ((((mMadeAt x) (v1).toNatClampNeg) - (mBegunAt x)) + (mNewRows x)) v1 rec2 hrec2 H locs ls hf hP hD hS (lv_sub hl [0, 1] rfl)
  have L2 : ∀ (fu : Nat) (x : MSt) (v1 : Int32) (H : Heap) (locs : List Loc) (ls : Array Slot), iterK fu (fX8_replaces_2 ) (x, v1) = some res → va_P D vwCl (W_Model cI a x) H → va_D A (W_Model cI a x) → va_S A s.heap H locs → lv_has ls 2 [(0, .ref (a 0)), (1, .int v1)] → W p l e ({ frames := 0, cells := 0, slots := 0, locals := 0 } : Room) s m ([.ref (a 0)] : List Value).toArray below meth c H locs 0 0 (MQ below (QW D (TY cI cV cJ cD) (W_Model cI a res) A none) (([.ref (a 0)] : List Value).toArray) s 0 0 A) (F0 m 2 ls []) := by
    intro fu
    induction fu with
    | zero =>
      intro x v1 H locs ls hf
      cases hf
    | succ fu ih =>
      intro x v1 H locs ls hf hP hD hS hl
      exact S2 (iterK fu (fX8_replaces_2 )) ih x v1 H locs ls hf hP hD hS hl
  have M0 : ∀ (H : Heap) (locs : List Loc) (ls : Array Slot), fX8_replaces x = some res → va_P D vwCl (W_Model cI a x) H → va_D A (W_Model cI a x) → va_S A s.heap H locs → lv_has ls 2 [(0, .ref (a 0))] → W p l e ({ frames := 0, cells := 0, slots := 0, locals := 0 } : Room) s m ([.ref (a 0)] : List Value).toArray below meth c H locs 0 0 (MQ below (QW D (TY cI cV cJ cD) (W_Model cI a res) A none) (([.ref (a 0)] : List Value).toArray) s 0 0 A) (F0 m 0 ls []) := by
    intro H locs ls hf hP hD hS hl
    dsimp only [fX8_replaces] at hf
    refine lv_iconst (v := 0) hx hb dX8_replaces_0 (by decide) ?_
    refine lv_istore_n (lv' := [(1, .int 0), (0, .ref (a 0))]) hx hb dX8_replaces_1 rfl hl (by decide) rfl (fun ls hl => ?_)
    exact L2  FU x 0 H locs ls hf hP hD hS (lv_sub hl [1, 0] rfl)
  exact M0 s.heap [] ls hf hP hD hS hl
/-! CompactformsModel.writeOn(I)I -/
def fX8_writeOn_54 (x : MSt) (s0 : Int32) : Option (MSt × Int32) := keep (mToWrite_s x s0) (fun x1 => (if (mToWrite x1) = 0 then (fX8_replaces x1).bind (fun u3 => keep u3 (fun x5 => some (x5, (mToWrite x5)))) else some (x1, (mToWrite x1))))
def fX8_writeOn_27 (x : MSt) (v1 : Int32) (s0 : Int32) : Option (MSt × Int32) := (fX8_can x s0).bind (fun u6 => keep u6.1 (fun x8 => (if u6.2 = 0 then some (x8, 0) else (if (mToWrite x8) ≤ v1 then fX8_writeOn_54 x8 0 else fX8_writeOn_54 x8 ((mToWrite x8) - v1)))))
def fX8_writeOn (x : MSt) (p1 : Int32) : Option (MSt × Int32) := (fX8_isIn p1 1 16).bind (fun u11 => (if u11 = 0 then fX8_writeOn_27 x p1 1 else (if (mIsRewriting x) = 0 then fX8_writeOn_27 x p1 2 else fX8_writeOn_27 x p1 0)))
set_option maxHeartbeats 4000000 in
set_option maxRecDepth 100000 in
theorem met_X8_writeOn {D : va_G} {cI cV cJ cD : ClassId} (l : Launch) (a : Nat → Nat) (x : MSt) (p1 : Int32) (res : MSt × Int32) (hf : fX8_writeOn x p1 = some res) : MM l yX8_writeOn cX8_writeOn 2 (some .int) { frames := 1, cells := 0, slots := 0, locals := 22 } D (TY cI cV cJ cD) (W_Model cI a x) (W_Model cI a res.1) [.ref (a 0), .int p1] (some (.int res.2)) := by
  intro sz
  refine Met.ofW (cc := cX8_writeOn) (maxL := 2) (ret := (some .int)) (by decide +kernel) rfl ?_
  intro p e s m args below meth c s₁ B hml hv
  obtain ⟨rfl, hsz, hP, hK, hD0, hE⟩ := hv
  have hx := B.exec
  have hb := B.bytes
  have hr := B.returns
  have hts := atoms_spec (ws := .code yX8_writeOn cX8_writeOn 2 (some .int) :: GW) B.pre
  have hg : ∀ w ∈ GW, w.before (([.ref (a 0), .int p1] : List Value).toArray) s = true := fun w h => hts w (List.mem_cons_of_mem _ h)
  have hown : s.vm.findClass RX8 = some m.cls := findClass_of_methodNamed B.named
  have hlocks := B.notSynchronized
  subst hsz
  have hD := hD0.self (sz := s.heap.size)
  generalize hAe : va_A (W_Model cI a x) s.heap.size = A at hD hE ⊢
  have hA : ∀ q : Nat, s.heap.size ≤ q → A q := fun q h => by rw [← hAe]; exact Or.inr h
  have hS : va_S A s.heap s.heap [] := va_S.rf
  have hl := lv_entry ([.ref (a 0), .int p1]) (n := 2) (Nat.le_of_ble_eq_true rfl)
  rw [lg_entry_eq]
  generalize (lg_sl ([.ref (a 0), .int p1]) ++ List.replicate (2 - (lg_sl ([.ref (a 0), .int p1])).length) Slot.unset).toArray = ls at hl ⊢
  have hl : lv_has ls 2 [(0, .ref (a 0)), (1, .int p1)] := hl
  have L54 : ∀ (x : MSt) (s0 : Int32) (H : Heap) (locs : List Loc) (ls : Array Slot), fX8_writeOn_54 x s0  = some res → va_P D vwCl (W_Model cI a x) H → va_D A (W_Model cI a x) → va_S A s.heap H locs → lv_has ls 2 [(0, .ref (a 0))] → W p l e ({ frames := 1, cells := 0, slots := 0, locals := 22 } : Room) s m ([.ref (a 0), .int p1] : List Value).toArray below meth c H locs 0 0 (MQ below (QW D (TY cI cV cJ cD) (W_Model cI a res.1) A (some (.int res.2))) (([.ref (a 0), .int p1] : List Value).toArray) s 0 0 A) (F0 m 54 ls [.int s0, .ref (a 0)]) := by
    intro x s0 H locs ls hf hP hD hS hl
    dsimp only [fX8_writeOn_54] at hf
    refine va_put (D := D) (ci := 7) (v := .int s0) (ty := .int) (C := RX8) (T := TX8) (N := 24) hx hb hg in_X8 tyX8 tyX8_ok nmX8 hown hK hP hD hS 0 rfl rfl 18 (by decide) (hg _ w843) (fun _ h9 => h9) rfl (by decide +kernel) rfl rfl (Nat.le_of_ble_eq_true rfl) dX8_writeOn_54 (fun H locs hP hD hS => ?_)
    obtain ⟨x1, hx1⟩ : ∃ z, z = (mToWrite_s x s0) := ⟨_, rfl⟩
    replace hf := keep_e hf x1 hx1
    have hP : va_P D vwCl (W_Model cI a x1) H := by rw [hx1]; exact hP
    have hD : va_D A (W_Model cI a x1) := by rw [hx1]; exact hD
    refine lv_aload_n hx hb dX8_writeOn_57 rfl (lv_at hl 0 rfl) ?_
    refine va_get (D := D) (ci := 7) (v := .int (mToWrite x1)) (C := RX8) (T := TX8) (N := 24) hx hb hg in_X8 hown hK hP 0 rfl rfl 18 (by decide) (hg _ w843) (fun _ h9 => h9) rfl dX8_writeOn_58 ?_
    refine lv_if_ne (tgt := 68) hx hb dX8_writeOn_61 (by decide) (fun c2 => ?_) (fun c2 => ?_)
    · replace hf := if_f c2 hf
      refine lv_aload_n hx hb dX8_writeOn_68 rfl (lv_at hl 0 rfl) ?_
      refine va_get (D := D) (ci := 7) (v := .int (mToWrite x1)) (C := RX8) (T := TX8) (N := 24) hx hb hg in_X8 hown hK hP 0 rfl rfl 18 (by decide) (hg _ w843) (fun _ h9 => h9) rfl dX8_writeOn_69 ?_
      obtain rfl := Option.some.inj hf
      exact W.iret (v := (mToWrite x1)) hx hb hr (fun t ht hW => ⟨rfl, by rw [ht]; exact hP, va_K.moved hW.alike hK, hD, hS.F ht⟩) hS.2.2 dX8_writeOn_72 hlocks
    · replace hf := if_t c2 hf
      refine lv_aload_n hx hb dX8_writeOn_64 rfl (lv_at hl 0 rfl) ?_
      obtain ⟨u3, hc4, hf⟩ := bind_t hf
      refine k_V (As := []) (rest := []) (n := 0) ⟨hx, hb, hml, hown, hts⟩ (met_X8_replaces l a x1 u3 hc4) w1101 w1103 ws50 w9 w1104 ⟨rfl, by decide +kernel, by decide +kernel, by decide +kernel⟩ ⟨Nat.le_of_ble_eq_true rfl, Nat.le_of_ble_eq_true rfl⟩ hK hE hP hD hS hA (isC := [0, 1, 2, 3, 4, 5, 6, 7, 8, 9, 10, 11, 12, 13, 14]) (isR := []) (isB := [0, 1, 2, 3, 4, 5, 6, 7, 8, 9, 10, 11, 12, 13, 14]) (ws' := W_Model cI a u3) ⟨([] : List Nat).filterMap (fun i : Nat => (W_Model cI a x1 : va_W)[i]?), rfl, rfl, rfl, rfl, by decide, rfl, rfl⟩ 0 7 rfl rfl rfl rfl hl.1 rfl (Nat.le_of_ble_eq_true rfl) dX8_writeOn_65 ⟨Nat.le_of_ble_eq_true rfl, Nat.le_of_ble_eq_true rfl⟩ (fun H locs hP hD hS => ?_)
      try dsimp only at hf
      refine W.eq (g2 := F0 m 68 ls []) rfl ?_
      obtain ⟨x5, hx5⟩ : ∃ z, z = u3 := ⟨_, rfl⟩
      replace hf := keep_e hf x5 hx5
      have hP : va_P D vwCl (W_Model cI a x5) H := by rw [hx5]; exact hP
      have hD : va_D A (W_Model cI a x5) := by rw [hx5]; exact hD
      refine lv_aload_n hx hb dX8_writeOn_68 rfl (lv_at hl 0 rfl) ?_
      refine va_get (D := D) (ci := 7) (v := .int (mToWrite x5)) (C := RX8) (T := TX8) (N := 24) hx hb hg in_X8 hown hK hP 0 rfl rfl 18 (by decide) (hg _ w843) (fun _ h9 => h9) rfl dX8_writeOn_69 ?_
      obtain rfl := Option.some.inj hf
      exact W.iret (v := (mToWrite x5)) hx hb hr (fun t ht hW => ⟨rfl, by rw [ht]; exact hP, va_K.moved hW.alike hK, hD, hS.F ht⟩) hS.2.2 dX8_writeOn_72 hlocks
  have L27 : ∀ (x : MSt) (v1 : Int32) (s0 : Int32) (H : Heap) (locs : List Loc) (ls : Array Slot), fX8_writeOn_27 x v1 s0  = some res → va_P D vwCl (W_Model cI a x) H → va_D A (W_Model cI a x) → va_S A s.heap H locs → lv_has ls 2 [(0, .ref (a 0)), (1, .int v1)] → W p l e ({ frames := 1, cells := 0, slots := 0, locals := 22 } : Room) s m ([.ref (a 0), .int p1] : List Value).toArray below meth c H locs 0 0 (MQ below (QW D (TY cI cV cJ cD) (W_Model cI a res.1) A (some (.int res.2))) (([.ref (a 0), .int p1] : List Value).toArray) s 0 0 A) (F0 m 27 ls [.int s0, .ref (a 0)]) := by
    intro x v1 s0 H locs ls hf hP hD hS hl
    dsimp only [fX8_writeOn_27] at hf
    obtain ⟨u6, hc7, hf⟩ := bind_t hf
    refine k_V (As := [.int s0]) (rest := []) (n := 1) ⟨hx, hb, hml, hown, hts⟩ (met_X8_can l a x s0 u6 hc7) w927 w929 ws28 w9 w930 ⟨rfl, by decide +kernel, by decide +kernel, by decide +kernel⟩ ⟨Nat.le_of_ble_eq_true rfl, Nat.le_of_ble_eq_true rfl⟩ hK hE hP hD hS hA (isC := [0, 1, 2, 3, 4, 5, 6, 7, 8, 9, 10, 11, 12, 13, 14]) (isR := []) (isB := [0, 1, 2, 3, 4, 5, 6, 7, 8, 9, 10, 11, 12, 13, 14]) (ws' := W_Model cI a u6.1) ⟨([] : List Nat).filterMap (fun i : Nat => (W_Model cI a x : va_W)[i]?), rfl, rfl, rfl, rfl, by decide, rfl, rfl⟩ 0 7 rfl rfl rfl rfl hl.1 rfl (Nat.le_of_ble_eq_true rfl) dX8_writeOn_27 ⟨Nat.le_of_ble_eq_true rfl, Nat.le_of_ble_eq_true rfl⟩ (fun H locs hP hD hS => ?_)
    try dsimp only at hf
    refine W.eq (g2 := F0 m 30 ls [.int u6.2]) rfl ?_
    obtain ⟨x8, hx8⟩ : ∃ z, z = u6.1 := ⟨_, rfl⟩
    replace hf := keep_e hf x8 hx8
    have hP : va_P D vwCl (W_Model cI a x8) H := by rw [hx8]; exact hP
    have hD : va_D A (W_Model cI a x8) := by rw [hx8]; exact hD
    refine lv_if_ne (tgt := 35) hx hb dX8_writeOn_30 (by decide) (fun c9 => ?_) (fun c9 => ?_)
    · replace hf := if_f c9 hf
      refine lv_aload_n hx hb dX8_writeOn_35 rfl (lv_at hl 0 rfl) ?_
      refine lv_aload_n hx hb dX8_writeOn_36 rfl (lv_at hl 0 rfl) ?_
      refine va_get (D := D) (ci := 7) (v := .int (mToWrite x8)) (C := RX8) (T := TX8) (N := 24) hx hb hg in_X8 hown hK hP 0 rfl rfl 18 (by decide) (hg _ w843) (fun _ h9 => h9) rfl dX8_writeOn_37 ?_
      refine lv_iload_n hx hb dX8_writeOn_40 rfl (lv_at hl 1 rfl) ?_
      refine lv_icmp_le (tgt := 53) hx hb dX8_writeOn_41 (by decide) (fun c10 => ?_) (fun c10 => ?_)
      · replace hf := if_t c10 hf
        refine lv_iconst (v := 0) hx hb dX8_writeOn_53 (by decide) ?_
        exact L54 x8 0 H locs ls hf hP hD hS (lv_sub hl [0] rfl)
      · replace hf := if_f c10 hf
        refine lv_aload_n hx hb dX8_writeOn_44 rfl (lv_at hl 0 rfl) ?_
        refine va_get (D := D) (ci := 7) (v := .int (mToWrite x8)) (C := RX8) (T := TX8) (N := 24) hx hb hg in_X8 hown hK hP 0 rfl rfl 18 (by decide) (hg _ w843) (fun _ h9 => h9) rfl dX8_writeOn_45 ?_
        refine lv_iload_n hx hb dX8_writeOn_48 rfl (lv_at hl 1 rfl) ?_
        refine lv_isub hx hb dX8_writeOn_49 ?_
        refine lv_goto (tgt := 54) hx hb dX8_writeOn_50 (by decide) ?_
        exact L54 x8 ((mToWrite x8) - v1) H locs ls hf hP hD hS (lv_sub hl [0] rfl)
    · replace hf := if_t c9 hf
      refine lv_iconst (v := 0) hx hb dX8_writeOn_33 (by decide) ?_
      obtain rfl := Option.some.inj hf
      exact W.iret (v := 0) hx hb hr (fun t ht hW => ⟨rfl, by rw [ht]; exact hP, va_K.moved hW.alike hK, hD, hS.F ht⟩) hS.2.2 dX8_writeOn_34 hlocks
  have M0 : ∀ (H : Heap) (locs : List Loc) (ls : Array Slot), fX8_writeOn x p1 = some res → va_P D vwCl (W_Model cI a x) H → va_D A (W_Model cI a x) → va_S A s.heap H locs → lv_has ls 2 [(0, .ref (a 0)), (1, .int p1)] → W p l e ({ frames := 1, cells := 0, slots := 0, locals := 22 } : Room) s m ([.ref (a 0), .int p1] : List Value).toArray below meth c H locs 0 0 (MQ below (QW D (TY cI cV cJ cD) (W_Model cI a res.1) A (some (.int res.2))) (([.ref (a 0), .int p1] : List Value).toArray) s 0 0 A) (F0 m 0 ls []) := by
    intro H locs ls hf hP hD hS hl
    dsimp only [fX8_writeOn] at hf
    refine lv_aload_n hx hb dX8_writeOn_0 rfl (lv_at hl 0 rfl) ?_
    refine lv_iload_n hx hb dX8_writeOn_1 rfl (lv_at hl 1 rfl) ?_
    refine lv_iconst (v := 1) hx hb dX8_writeOn_2 (by decide) ?_
    refine lv_bipush (v := 16) hx hb dX8_writeOn_3 (by decide) ?_
    obtain ⟨u11, hc12, hf⟩ := bind_t hf
    refine k_S (As := [.int p1, .int 1, .int 16]) (rest := [.ref (a 0)]) (n := 3) ⟨hx, hb, hml, hown, hts⟩ (met_X8_isIn l p1 1 16 u11 hc12) w909 w910 w9 w911 ⟨by decide +kernel, by decide +kernel, by decide +kernel⟩ ⟨Nat.le_of_ble_eq_true rfl, Nat.le_of_ble_eq_true rfl⟩ hK hE hP hD hS hA (isC := []) (isR := [0, 1, 2, 3, 4, 5, 6, 7, 8, 9, 10, 11, 12, 13, 14]) (isB := [0, 1, 2, 3, 4, 5, 6, 7, 8, 9, 10, 11, 12, 13, 14]) (ws' := W_Model cI a x) ⟨([0, 1, 2, 3, 4, 5, 6, 7, 8, 9, 10, 11, 12, 13, 14] : List Nat).filterMap (fun i : Nat => (W_Model cI a x : va_W)[i]?), rfl, rfl, rfl, rfl, by decide, rfl, rfl⟩ rfl hl.1 rfl (Nat.le_of_ble_eq_true rfl) dX8_writeOn_5 ⟨Nat.le_of_ble_eq_true rfl, Nat.le_of_ble_eq_true rfl⟩ (fun H locs hP hD hS => ?_)
    try dsimp only at hf
    refine W.eq (g2 := F0 m 8 ls [.int u11, .ref (a 0)]) rfl ?_
    refine lv_if_ne (tgt := 15) hx hb dX8_writeOn_8 (by decide) (fun c13 => ?_) (fun c13 => ?_)
    · replace hf := if_f c13 hf
      refine lv_aload_n hx hb dX8_writeOn_15 rfl (lv_at hl 0 rfl) ?_
      refine va_get (D := D) (ci := 7) (v := .int (mIsRewriting x)) (C := RX8) (T := TX8) (N := 24) hx hb hg in_X8 hown hK hP 0 rfl rfl 17 (by decide) (hg _ w842) (fun _ h9 => h9) rfl dX8_writeOn_16 ?_
      refine lv_if_eq (tgt := 26) hx hb dX8_writeOn_19 (by decide) (fun c14 => ?_) (fun c14 => ?_)
      · replace hf := if_t c14 hf
        refine lv_iconst (v := 2) hx hb dX8_writeOn_26 (by decide) ?_
        exact L27 x p1 2 H locs ls hf hP hD hS (lv_sub hl [0, 1] rfl)
      · replace hf := if_f c14 hf
        refine lv_iconst (v := 0) hx hb dX8_writeOn_22 (by decide) ?_
        refine lv_goto (tgt := 27) hx hb dX8_writeOn_23 (by decide) ?_
        exact L27 x p1 0 H locs ls hf hP hD hS (lv_sub hl [0, 1] rfl)
    · replace hf := if_t c13 hf
      refine lv_iconst (v := 1) hx hb dX8_writeOn_11 (by decide) ?_
      refine lv_goto (tgt := 27) hx hb dX8_writeOn_12 (by decide) ?_
      exact L27 x p1 1 H locs ls hf hP hD hS (lv_sub hl [0, 1] rfl)
  exact M0 s.heap [] ls hf hP hD hS hl
/-! CompactformsModel.does(I)V -/
def fX8_does_81 (x : MSt) (s0 : Int32) (s1 : Int32) : Option (MSt) := (fX8_pops x s1 s0).bind (fun u1 => keep u1.1 (fun x3 => some x3))
def fX8_does_56 (x : MSt) (s0 : Int32) (s1 : Int32) (s2 : Int32) : Option (MSt) := (fX8_pushes x s2 s1 s0).bind (fun u4 => keep u4.1 (fun x6 => some x6))
def fX8_does (x : MSt) (p1 : Int32) : Option (MSt) := chk (inb p1 1800) (keep ((mLog x) (p1).toNatClampNeg) (fun y8 => chk (inb (p1 + 1) 1800) (keep ((mLog x) ((p1 + 1)).toNatClampNeg) (fun y10 => chk (inb (p1 + 2) 1800) (keep ((mLog x) ((p1 + 2)).toNatClampNeg) (fun y12 => chk (inb (p1 + 3) 1800) (keep ((mLog x) ((p1 + 3)).toNatClampNeg) (fun y14 => (if y8 = 1 then (if y14 = 1 then fX8_does_56 x 1 y12 y10 else fX8_does_56 x 0 y12 y10) else (if y8 = 2 then (if y12 = 1 then fX8_does_81 x 1 y10 else fX8_does_81 x 0 y10) else (if y8 = 3 then (fX8_adds x y10 y12).bind (fun u48 => keep u48.1 (fun x50 => some x50)) else (if y8 = 4 then (fX8_takes x y10 y12).bind (fun u45 => keep u45.1 (fun x47 => some x47)) else (if y8 = 5 then (fX8_rates x y10 y12 y14).bind (fun u42 => keep u42.1 (fun x44 => some x44)) else (if y8 = 6 then (fX8_appends x y10 y12).bind (fun u39 => keep u39.1 (fun x41 => some x41)) else (if y8 = 7 then (fX8_reads x y10 y12 y14).bind (fun u36 => keep u36.1 (fun x38 => some x38)) else (if y8 = 8 then (fX8_ends x y10 y12 y14).bind (fun u33 => keep u33.1 (fun x35 => some x35)) else (if y8 = 9 then chk (inb (p1 + 4) 1800) ((fX8_claims x y10 y12 y14 ((mLog x) ((p1 + 4)).toNatClampNeg)).bind (fun u30 => keep u30.1 (fun x32 => some x32))) else (if y8 = 10 then chk (inb y10 16) (keep (mType_s x (upd (mType x) (y10).toNatClampNeg 0)) (fun x28 => some x28)) else chk (inb y10 16) (keep (mEnd_s x (upd (mEnd x) (y10).toNatClampNeg y12)) (fun x26 => some x26))))))))))))))))))))
set_option maxHeartbeats 4000000 in
set_option maxRecDepth 100000 in
theorem met_X8_does {D : va_G} {cI cV cJ cD : ClassId} (l : Launch) (a : Nat → Nat) (x : MSt) (p1 : Int32) (res : MSt) (hf : fX8_does x p1 = some res) : MM l yX8_does cX8_does 6 none { frames := 3, cells := 0, slots := 0, locals := 72 } D (TY cI cV cJ cD) (W_Model cI a x) (W_Model cI a res) [.ref (a 0), .int p1] none := by
  intro sz
  refine Met.ofW (cc := cX8_does) (maxL := 6) (ret := none) (by decide +kernel) rfl ?_
  intro p e s m args below meth c s₁ B hml hv
  obtain ⟨rfl, hsz, hP, hK, hD0, hE⟩ := hv
  have hx := B.exec
  have hb := B.bytes
  have hr := B.returns
  have hts := atoms_spec (ws := .code yX8_does cX8_does 6 none :: GW) B.pre
  have hg : ∀ w ∈ GW, w.before (([.ref (a 0), .int p1] : List Value).toArray) s = true := fun w h => hts w (List.mem_cons_of_mem _ h)
  have hown : s.vm.findClass RX8 = some m.cls := findClass_of_methodNamed B.named
  have hlocks := B.notSynchronized
  subst hsz
  have hD := hD0.self (sz := s.heap.size)
  generalize hAe : va_A (W_Model cI a x) s.heap.size = A at hD hE ⊢
  have hA : ∀ q : Nat, s.heap.size ≤ q → A q := fun q h => by rw [← hAe]; exact Or.inr h
  have hS : va_S A s.heap s.heap [] := va_S.rf
  have hl := lv_entry ([.ref (a 0), .int p1]) (n := 6) (Nat.le_of_ble_eq_true rfl)
  rw [lg_entry_eq]
  generalize (lg_sl ([.ref (a 0), .int p1]) ++ List.replicate (6 - (lg_sl ([.ref (a 0), .int p1])).length) Slot.unset).toArray = ls at hl ⊢
  have hl : lv_has ls 6 [(0, .ref (a 0)), (1, .int p1)] := hl
  have L81 : ∀ (x : MSt) (s0 : Int32) (s1 : Int32) (H : Heap) (locs : List Loc) (ls : Array Slot), fX8_does_81 x s0 s1  = some res → va_P D vwCl (W_Model cI a x) H → va_D A (W_Model cI a x) → va_S A s.heap H locs → lv_has ls 6 [] → W p l e ({ frames := 3, cells := 0, slots := 0, locals := 72 } : Room) s m ([.ref (a 0), .int p1] : List Value).toArray below meth c H locs 0 0 (MQ below (QW D (TY cI cV cJ cD) (W_Model cI a res) A none) (([.ref (a 0), .int p1] : List Value).toArray) s 0 0 A) (F0 m 81 ls [.int s0, .int s1, .ref (a 0)]) := by
    intro x s0 s1 H locs ls hf hP hD hS hl
    dsimp only [fX8_does_81] at hf
    obtain ⟨u1, hc2, hf⟩ := bind_t hf
    refine k_V (As := [.int s1, .int s0]) (rest := []) (n := 2) ⟨hx, hb, hml, hown, hts⟩ (met_X8_pops l a x s1 s0 u1 hc2) w955 w957 ws34 w9 w958 ⟨rfl, by decide +kernel, by decide +kernel, by decide +kernel⟩ ⟨Nat.le_of_ble_eq_true rfl, Nat.le_of_ble_eq_true rfl⟩ hK hE hP hD hS hA (isC := [0, 1, 2, 3, 4, 5, 6, 7, 8, 9, 10, 11, 12, 13, 14]) (isR := []) (isB := [0, 1, 2, 3, 4, 5, 6, 7, 8, 9, 10, 11, 12, 13, 14]) (ws' := W_Model cI a u1.1) ⟨([] : List Nat).filterMap (fun i : Nat => (W_Model cI a x : va_W)[i]?), rfl, rfl, rfl, rfl, by decide, rfl, rfl⟩ 0 7 rfl rfl rfl rfl hl.1 rfl (Nat.le_of_ble_eq_true rfl) dX8_does_81 ⟨Nat.le_of_ble_eq_true rfl, Nat.le_of_ble_eq_true rfl⟩ (fun H locs hP hD hS => ?_)
    try dsimp only at hf
    refine W.eq (g2 := F0 m 84 ls [.int u1.2]) rfl ?_
    obtain ⟨x3, hx3⟩ : ∃ z, z = u1.1 := ⟨_, rfl⟩
    replace hf := keep_e hf x3 hx3
    have hP : va_P D vwCl (W_Model cI a x3) H := by rw [hx3]; exact hP
    have hD : va_D A (W_Model cI a x3) := by rw [hx3]; exact hD
    refine lv_pop hx hb dX8_does_84 rfl ?_
    refine lv_goto (tgt := 244) hx hb dX8_does_85 (by decide) ?_
    obtain rfl := Option.some.inj hf
    exact W.vret hx hb hr (fun t ht hW => ⟨rfl, by rw [ht]; exact hP, va_K.moved hW.alike hK, hD, hS.F ht⟩) hS.2.2 dX8_does_244 hlocks
  have L56 : ∀ (x : MSt) (s0 : Int32) (s1 : Int32) (s2 : Int32) (H : Heap) (locs : List Loc) (ls : Array Slot), fX8_does_56 x s0 s1 s2  = some res → va_P D vwCl (W_Model cI a x) H → va_D A (W_Model cI a x) → va_S A s.heap H locs → lv_has ls 6 [] → W p l e ({ frames := 3, cells := 0, slots := 0, locals := 72 } : Room) s m ([.ref (a 0), .int p1] : List Value).toArray below meth c H locs 0 0 (MQ below (QW D (TY cI cV cJ cD) (W_Model cI a res) A none) (([.ref (a 0), .int p1] : List Value).toArray) s 0 0 A) (F0 m 56 ls [.int s0, .int s1, .int s2, .ref (a 0)]) := by
    intro x s0 s1 s2 H locs ls hf hP hD hS hl
    dsimp only [fX8_does_56] at hf
    obtain ⟨u4, hc5, hf⟩ := bind_t hf
    refine k_V (As := [.int s2, .int s1, .int s0]) (rest := []) (n := 3) ⟨hx, hb, hml, hown, hts⟩ (met_X8_pushes l a x s2 s1 s0 u4 hc5) w931 w933 ws29 w9 w934 ⟨rfl, by decide +kernel, by decide +kernel, by decide +kernel⟩ ⟨Nat.le_of_ble_eq_true rfl, Nat.le_of_ble_eq_true rfl⟩ hK hE hP hD hS hA (isC := [0, 1, 2, 3, 4, 5, 6, 7, 8, 9, 10, 11, 12, 13, 14]) (isR := []) (isB := [0, 1, 2, 3, 4, 5, 6, 7, 8, 9, 10, 11, 12, 13, 14]) (ws' := W_Model cI a u4.1) ⟨([] : List Nat).filterMap (fun i : Nat => (W_Model cI a x : va_W)[i]?), rfl, rfl, rfl, rfl, by decide, rfl, rfl⟩ 0 7 rfl rfl rfl rfl hl.1 rfl (Nat.le_of_ble_eq_true rfl) dX8_does_56 ⟨Nat.le_of_ble_eq_true rfl, Nat.le_of_ble_eq_true rfl⟩ (fun H locs hP hD hS => ?_)
    try dsimp only at hf
    refine W.eq (g2 := F0 m 59 ls [.int u4.2]) rfl ?_
    obtain ⟨x6, hx6⟩ : ∃ z, z = u4.1 := ⟨_, rfl⟩
    replace hf := keep_e hf x6 hx6
    have hP : va_P D vwCl (W_Model cI a x6) H := by rw [hx6]; exact hP
    have hD : va_D A (W_Model cI a x6) := by rw [hx6]; exact hD
    refine lv_pop hx hb dX8_does_59 rfl ?_
    refine lv_goto (tgt := 244) hx hb dX8_does_60 (by decide) ?_
    obtain rfl := Option.some.inj hf
    exact W.vret hx hb hr (fun t ht hW => ⟨rfl, by rw [ht]; exact hP, va_K.moved hW.alike hK, hD, hS.F ht⟩) hS.2.2 dX8_does_244 hlocks
  have M0 : ∀ (H : Heap) (locs : List Loc) (ls : Array Slot), fX8_does x p1 = some res → va_P D vwCl (W_Model cI a x) H → va_D A (W_Model cI a x) → va_S A s.heap H locs → lv_has ls 6 [(0, .ref (a 0)), (1, .int p1)] → W p l e ({ frames := 3, cells := 0, slots := 0, locals := 72 } : Room) s m ([.ref (a 0), .int p1] : List Value).toArray below meth c H locs 0 0 (MQ below (QW D (TY cI cV cJ cD) (W_Model cI a res) A none) (([.ref (a 0), .int p1] : List Value).toArray) s 0 0 A) (F0 m 0 ls []) := by
    intro H locs ls hf hP hD hS hl
    dsimp only [fX8_does] at hf
    refine lv_aload_n hx hb dX8_does_0 rfl (lv_at hl 0 rfl) ?_
    refine va_get (D := D) (ci := 7) (v := .ref (a 12)) (C := RX8) (T := TX8) (N := 24) hx hb hg in_X8 hown hK hP 0 rfl rfl 16 (by decide) (hg _ w841) (fun _ h9 => h9) rfl dX8_does_1 ?_
    refine lv_iload_n hx hb dX8_does_4 rfl (lv_at hl 1 rfl) ?_
    obtain ⟨hi7, hf⟩ := chk_t hf
    refine va_iald hx hb hK hP 12 0 rfl rfl (inb_in hi7) dX8_does_5 ?_
    refine lv_topi (fun y8 hy8 => ?_)
    replace hf := keep_e hf y8 hy8
    refine lv_istore_n (lv' := [(2, .int y8), (0, .ref (a 0)), (1, .int p1)]) hx hb dX8_does_6 rfl hl (by decide) rfl (fun ls hl => ?_)
    refine lv_aload_n hx hb dX8_does_7 rfl (lv_at hl 1 rfl) ?_
    refine va_get (D := D) (ci := 7) (v := .ref (a 12)) (C := RX8) (T := TX8) (N := 24) hx hb hg in_X8 hown hK hP 0 rfl rfl 16 (by decide) (hg _ w841) (fun _ h9 => h9) rfl dX8_does_8 ?_
    refine lv_iload_n hx hb dX8_does_11 rfl (lv_at hl 2 rfl) ?_
    refine lv_iconst (v := 1) hx hb dX8_does_12 (by decide) ?_
    refine lv_iadd hx hb dX8_does_13 ?_
    obtain ⟨hi9, hf⟩ := chk_t hf
    refine va_iald hx hb hK hP 12 0 rfl rfl (inb_in hi9) dX8_does_14 ?_
    refine lv_topi (fun y10 hy10 => ?_)
    replace hf := keep_e hf y10 hy10
    refine lv_istore_n (lv' := [(3, .int y10), (2, .int y8), (0, .ref (a 0)), (1, .int p1)]) hx hb dX8_does_15 rfl hl (by decide) rfl (fun ls hl => ?_)
    refine lv_aload_n hx hb dX8_does_16 rfl (lv_at hl 2 rfl) ?_
    refine va_get (D := D) (ci := 7) (v := .ref (a 12)) (C := RX8) (T := TX8) (N := 24) hx hb hg in_X8 hown hK hP 0 rfl rfl 16 (by decide) (hg _ w841) (fun _ h9 => h9) rfl dX8_does_17 ?_
    refine lv_iload_n hx hb dX8_does_20 rfl (lv_at hl 3 rfl) ?_
    refine lv_iconst (v := 2) hx hb dX8_does_21 (by decide) ?_
    refine lv_iadd hx hb dX8_does_22 ?_
    obtain ⟨hi11, hf⟩ := chk_t hf
    refine va_iald hx hb hK hP 12 0 rfl rfl (inb_in hi11) dX8_does_23 ?_
    refine lv_topi (fun y12 hy12 => ?_)
    replace hf := keep_e hf y12 hy12
    refine lv_istore (lv' := [(4, .int y12), (3, .int y10), (2, .int y8), (0, .ref (a 0)), (1, .int p1)]) hx hb dX8_does_24 hl (by decide) rfl (fun ls hl => ?_)
    refine lv_aload_n hx hb dX8_does_26 rfl (lv_at hl 3 rfl) ?_
    refine va_get (D := D) (ci := 7) (v := .ref (a 12)) (C := RX8) (T := TX8) (N := 24) hx hb hg in_X8 hown hK hP 0 rfl rfl 16 (by decide) (hg _ w841) (fun _ h9 => h9) rfl dX8_does_27 ?_
    refine lv_iload_n hx hb dX8_does_30 rfl (lv_at hl 4 rfl) ?_
    refine lv_iconst (v := 3) hx hb dX8_does_31 (by decide) ?_
    refine lv_iadd hx hb dX8_does_32 ?_
    obtain ⟨hi13, hf⟩ := chk_t hf
    refine va_iald hx hb hK hP 12 0 rfl rfl (inb_in hi13) dX8_does_33 ?_
    refine lv_topi (fun y14 hy14 => ?_)
    replace hf := keep_e hf y14 hy14
    refine lv_istore (lv' := [(5, .int y14), (4, .int y12), (3, .int y10), (2, .int y8), (0, .ref (a 0)), (1, .int p1)]) hx hb dX8_does_34 hl (by decide) rfl (fun ls hl => ?_)
    refine lv_iload_n hx hb dX8_does_36 rfl (lv_at hl 3 rfl) ?_
    refine lv_iconst (v := 1) hx hb dX8_does_37 (by decide) ?_
    refine lv_icmp_ne (tgt := 63) hx hb dX8_does_38 (by decide) (fun c15 => ?_) (fun c15 => ?_)
    · replace hf := if_f c15 hf
      refine lv_iload_n hx hb dX8_does_63 rfl (lv_at hl 3 rfl) ?_
      refine lv_iconst (v := 2) hx hb dX8_does_64 (by decide) ?_
      refine lv_icmp_ne (tgt := 88) hx hb dX8_does_65 (by decide) (fun c16 => ?_) (fun c16 => ?_)
      · replace hf := if_f c16 hf
        refine lv_iload_n hx hb dX8_does_88 rfl (lv_at hl 3 rfl) ?_
        refine lv_iconst (v := 3) hx hb dX8_does_89 (by decide) ?_
        refine lv_icmp_ne (tgt := 104) hx hb dX8_does_90 (by decide) (fun c17 => ?_) (fun c17 => ?_)
        · replace hf := if_f c17 hf
          refine lv_iload_n hx hb dX8_does_104 rfl (lv_at hl 3 rfl) ?_
          refine lv_iconst (v := 4) hx hb dX8_does_105 (by decide) ?_
          refine lv_icmp_ne (tgt := 120) hx hb dX8_does_106 (by decide) (fun c18 => ?_) (fun c18 => ?_)
          · replace hf := if_f c18 hf
            refine lv_iload_n hx hb dX8_does_120 rfl (lv_at hl 3 rfl) ?_
            refine lv_iconst (v := 5) hx hb dX8_does_121 (by decide) ?_
            refine lv_icmp_ne (tgt := 138) hx hb dX8_does_122 (by decide) (fun c19 => ?_) (fun c19 => ?_)
            · replace hf := if_f c19 hf
              refine lv_iload_n hx hb dX8_does_138 rfl (lv_at hl 3 rfl) ?_
              refine lv_bipush (v := 6) hx hb dX8_does_139 (by decide) ?_
              refine lv_icmp_ne (tgt := 155) hx hb dX8_does_141 (by decide) (fun c20 => ?_) (fun c20 => ?_)
              · replace hf := if_f c20 hf
                refine lv_iload_n hx hb dX8_does_155 rfl (lv_at hl 3 rfl) ?_
                refine lv_bipush (v := 7) hx hb dX8_does_156 (by decide) ?_
                refine lv_icmp_ne (tgt := 174) hx hb dX8_does_158 (by decide) (fun c21 => ?_) (fun c21 => ?_)
                · replace hf := if_f c21 hf
                  refine lv_iload_n hx hb dX8_does_174 rfl (lv_at hl 3 rfl) ?_
                  refine lv_bipush (v := 8) hx hb dX8_does_175 (by decide) ?_
                  refine lv_icmp_ne (tgt := 193) hx hb dX8_does_177 (by decide) (fun c22 => ?_) (fun c22 => ?_)
                  · replace hf := if_f c22 hf
                    refine lv_iload_n hx hb dX8_does_193 rfl (lv_at hl 3 rfl) ?_
                    refine lv_bipush (v := 9) hx hb dX8_does_194 (by decide) ?_
                    refine lv_icmp_ne (tgt := 220) hx hb dX8_does_196 (by decide) (fun c23 => ?_) (fun c23 => ?_)
                    · replace hf := if_f c23 hf
                      refine lv_iload_n hx hb dX8_does_220 rfl (lv_at hl 3 rfl) ?_
                      refine lv_bipush (v := 10) hx hb dX8_does_221 (by decide) ?_
                      refine lv_icmp_ne (tgt := 236) hx hb dX8_does_223 (by decide) (fun c24 => ?_) (fun c24 => ?_)
                      · replace hf := if_f c24 hf
                        refine lv_aload_n hx hb dX8_does_236 rfl (lv_at hl 4 rfl) ?_
                        refine va_get (D := D) (ci := 7) (v := .ref (a 2)) (C := RX8) (T := TX8) (N := 24) hx hb hg in_X8 hown hK hP 0 rfl rfl 3 (by decide) (hg _ w828) (fun _ h9 => h9) rfl dX8_does_237 ?_
                        refine lv_iload_n hx hb dX8_does_240 rfl (lv_at hl 2 rfl) ?_
                        refine lv_iload hx hb dX8_does_241 (lv_at hl 1 rfl) ?_
                        obtain ⟨hi25, hf⟩ := chk_t hf
                        refine va_iast hx hb hK hP hD hS 2 0 rfl rfl (inb_in hi25) dX8_does_243 (fun H locs hP hD hS => ?_)
                        obtain ⟨x26, hx26⟩ : ∃ z, z = (mEnd_s x (upd (mEnd x) (y10).toNatClampNeg y12)) := ⟨_, rfl⟩
                        replace hf := keep_e hf x26 hx26
                        have hP : va_P D vwCl (W_Model cI a x26) H := by rw [hx26]; exact hP
                        have hD : va_D A (W_Model cI a x26) := by rw [hx26]; exact hD
                        obtain rfl := Option.some.inj hf
                        exact W.vret hx hb hr (fun t ht hW => ⟨rfl, by rw [ht]; exact hP, va_K.moved hW.alike hK, hD, hS.F ht⟩) hS.2.2 dX8_does_244 hlocks
                      · replace hf := if_t c24 hf
                        refine lv_aload_n hx hb dX8_does_226 rfl (lv_at hl 4 rfl) ?_
                        refine va_get (D := D) (ci := 7) (v := .ref (a 1)) (C := RX8) (T := TX8) (N := 24) hx hb hg in_X8 hown hK hP 0 rfl rfl 2 (by decide) (hg _ w827) (fun _ h9 => h9) rfl dX8_does_227 ?_
                        refine lv_iload_n hx hb dX8_does_230 rfl (lv_at hl 2 rfl) ?_
                        refine lv_iconst (v := 0) hx hb dX8_does_231 (by decide) ?_
                        obtain ⟨hi27, hf⟩ := chk_t hf
                        refine va_iast hx hb hK hP hD hS 1 0 rfl rfl (inb_in hi27) dX8_does_232 (fun H locs hP hD hS => ?_)
                        obtain ⟨x28, hx28⟩ : ∃ z, z = (mType_s x (upd (mType x) (y10).toNatClampNeg 0)) := ⟨_, rfl⟩
                        replace hf := keep_e hf x28 hx28
                        have hP : va_P D vwCl (W_Model cI a x28) H := by rw [hx28]; exact hP
                        have hD : va_D A (W_Model cI a x28) := by rw [hx28]; exact hD
                        refine lv_goto (tgt := 244) hx hb dX8_does_233 (by decide) ?_
                        obtain rfl := Option.some.inj hf
                        exact W.vret hx hb hr (fun t ht hW => ⟨rfl, by rw [ht]; exact hP, va_K.moved hW.alike hK, hD, hS.F ht⟩) hS.2.2 dX8_does_244 hlocks
                    · replace hf := if_t c23 hf
                      refine lv_aload_n hx hb dX8_does_199 rfl (lv_at hl 4 rfl) ?_
                      refine lv_iload_n hx hb dX8_does_200 rfl (lv_at hl 2 rfl) ?_
                      refine lv_iload hx hb dX8_does_201 (lv_at hl 1 rfl) ?_
                      refine lv_iload hx hb dX8_does_203 (lv_at hl 0 rfl) ?_
                      refine lv_aload_n hx hb dX8_does_205 rfl (lv_at hl 4 rfl) ?_
                      refine va_get (D := D) (ci := 7) (v := .ref (a 12)) (C := RX8) (T := TX8) (N := 24) hx hb hg in_X8 hown hK hP 0 rfl rfl 16 (by decide) (hg _ w841) (fun _ h9 => h9) rfl dX8_does_206 ?_
                      refine lv_iload_n hx hb dX8_does_209 rfl (lv_at hl 5 rfl) ?_
                      refine lv_iconst (v := 4) hx hb dX8_does_210 (by decide) ?_
                      refine lv_iadd hx hb dX8_does_211 ?_
                      obtain ⟨hi29, hf⟩ := chk_t hf
                      refine va_iald hx hb hK hP 12 0 rfl rfl (inb_in hi29) dX8_does_212 ?_
                      obtain ⟨u30, hc31, hf⟩ := bind_t hf
                      refine k_V (As := [.int y10, .int y12, .int y14, .int ((mLog x) ((p1 + 4)).toNatClampNeg)]) (rest := []) (n := 4) ⟨hx, hb, hml, hown, hts⟩ (met_X8_claims l a x y10 y12 y14 ((mLog x) ((p1 + 4)).toNatClampNeg) u30 hc31) w1048 w1050 ws46 w9 w1051 ⟨rfl, by decide +kernel, by decide +kernel, by decide +kernel⟩ ⟨Nat.le_of_ble_eq_true rfl, Nat.le_of_ble_eq_true rfl⟩ hK hE hP hD hS hA (isC := [0, 1, 2, 3, 4, 5, 6, 7, 8, 9, 10, 11, 12, 13, 14]) (isR := []) (isB := [0, 1, 2, 3, 4, 5, 6, 7, 8, 9, 10, 11, 12, 13, 14]) (ws' := W_Model cI a u30.1) ⟨([] : List Nat).filterMap (fun i : Nat => (W_Model cI a x : va_W)[i]?), rfl, rfl, rfl, rfl, by decide, rfl, rfl⟩ 0 7 rfl rfl rfl rfl hl.1 rfl (Nat.le_of_ble_eq_true rfl) dX8_does_213 ⟨Nat.le_of_ble_eq_true rfl, Nat.le_of_ble_eq_true rfl⟩ (fun H locs hP hD hS => ?_)
                      try dsimp only at hf
                      refine W.eq (g2 := F0 m 216 ls [.int u30.2]) rfl ?_
                      obtain ⟨x32, hx32⟩ : ∃ z, z = u30.1 := ⟨_, rfl⟩
                      replace hf := keep_e hf x32 hx32
                      have hP : va_P D vwCl (W_Model cI a x32) H := by rw [hx32]; exact hP
                      have hD : va_D A (W_Model cI a x32) := by rw [hx32]; exact hD
                      refine lv_pop hx hb dX8_does_216 rfl ?_
                      refine lv_goto (tgt := 244) hx hb dX8_does_217 (by decide) ?_
                      obtain rfl := Option.some.inj hf
                      exact W.vret hx hb hr (fun t ht hW => ⟨rfl, by rw [ht]; exact hP, va_K.moved hW.alike hK, hD, hS.F ht⟩) hS.2.2 dX8_does_244 hlocks
                  · replace hf := if_t c22 hf
                    refine lv_aload_n hx hb dX8_does_180 rfl (lv_at hl 4 rfl) ?_
                    refine lv_iload_n hx hb dX8_does_181 rfl (lv_at hl 2 rfl) ?_
                    refine lv_iload hx hb dX8_does_182 (lv_at hl 1 rfl) ?_
                    refine lv_iload hx hb dX8_does_184 (lv_at hl 0 rfl) ?_
                    obtain ⟨u33, hc34, hf⟩ := bind_t hf
                    refine k_V (As := [.int y10, .int y12, .int y14]) (rest := []) (n := 3) ⟨hx, hb, hml, hown, hts⟩ (met_X8_ends l a x y10 y12 y14 u33 hc34) w1040 w1042 ws45 w9 w1043 ⟨rfl, by decide +kernel, by decide +kernel, by decide +kernel⟩ ⟨Nat.le_of_ble_eq_true rfl, Nat.le_of_ble_eq_true rfl⟩ hK hE hP hD hS hA (isC := [0, 1, 2, 3, 4, 5, 6, 7, 8, 9, 10, 11, 12, 13, 14]) (isR := []) (isB := [0, 1, 2, 3, 4, 5, 6, 7, 8, 9, 10, 11, 12, 13, 14]) (ws' := W_Model cI a u33.1) ⟨([] : List Nat).filterMap (fun i : Nat => (W_Model cI a x : va_W)[i]?), rfl, rfl, rfl, rfl, by decide, rfl, rfl⟩ 0 7 rfl rfl rfl rfl hl.1 rfl (Nat.le_of_ble_eq_true rfl) dX8_does_186 ⟨Nat.le_of_ble_eq_true rfl, Nat.le_of_ble_eq_true rfl⟩ (fun H locs hP hD hS => ?_)
                    try dsimp only at hf
                    refine W.eq (g2 := F0 m 189 ls [.int u33.2]) rfl ?_
                    obtain ⟨x35, hx35⟩ : ∃ z, z = u33.1 := ⟨_, rfl⟩
                    replace hf := keep_e hf x35 hx35
                    have hP : va_P D vwCl (W_Model cI a x35) H := by rw [hx35]; exact hP
                    have hD : va_D A (W_Model cI a x35) := by rw [hx35]; exact hD
                    refine lv_pop hx hb dX8_does_189 rfl ?_
                    refine lv_goto (tgt := 244) hx hb dX8_does_190 (by decide) ?_
                    obtain rfl := Option.some.inj hf
                    exact W.vret hx hb hr (fun t ht hW => ⟨rfl, by rw [ht]; exact hP, va_K.moved hW.alike hK, hD, hS.F ht⟩) hS.2.2 dX8_does_244 hlocks
                · replace hf := if_t c21 hf
                  refine lv_aload_n hx hb dX8_does_161 rfl (lv_at hl 4 rfl) ?_
                  refine lv_iload_n hx hb dX8_does_162 rfl (lv_at hl 2 rfl) ?_
                  refine lv_iload hx hb dX8_does_163 (lv_at hl 1 rfl) ?_
                  refine lv_iload hx hb dX8_does_165 (lv_at hl 0 rfl) ?_
                  obtain ⟨u36, hc37, hf⟩ := bind_t hf
                  refine k_V (As := [.int y10, .int y12, .int y14]) (rest := []) (n := 3) ⟨hx, hb, hml, hown, hts⟩ (met_X8_reads l a x y10 y12 y14 u36 hc37) w1029 w1031 ws44 w9 w1032 ⟨rfl, by decide +kernel, by decide +kernel, by decide +kernel⟩ ⟨Nat.le_of_ble_eq_true rfl, Nat.le_of_ble_eq_true rfl⟩ hK hE hP hD hS hA (isC := [0, 1, 2, 3, 4, 5, 6, 7, 8, 9, 10, 11, 12, 13, 14]) (isR := []) (isB := [0, 1, 2, 3, 4, 5, 6, 7, 8, 9, 10, 11, 12, 13, 14]) (ws' := W_Model cI a u36.1) ⟨([] : List Nat).filterMap (fun i : Nat => (W_Model cI a x : va_W)[i]?), rfl, rfl, rfl, rfl, by decide, rfl, rfl⟩ 0 7 rfl rfl rfl rfl hl.1 rfl (Nat.le_of_ble_eq_true rfl) dX8_does_167 ⟨Nat.le_of_ble_eq_true rfl, Nat.le_of_ble_eq_true rfl⟩ (fun H locs hP hD hS => ?_)
                  try dsimp only at hf
                  refine W.eq (g2 := F0 m 170 ls [.int u36.2]) rfl ?_
                  obtain ⟨x38, hx38⟩ : ∃ z, z = u36.1 := ⟨_, rfl⟩
                  replace hf := keep_e hf x38 hx38
                  have hP : va_P D vwCl (W_Model cI a x38) H := by rw [hx38]; exact hP
                  have hD : va_D A (W_Model cI a x38) := by rw [hx38]; exact hD
                  refine lv_pop hx hb dX8_does_170 rfl ?_
                  refine lv_goto (tgt := 244) hx hb dX8_does_171 (by decide) ?_
                  obtain rfl := Option.some.inj hf
                  exact W.vret hx hb hr (fun t ht hW => ⟨rfl, by rw [ht]; exact hP, va_K.moved hW.alike hK, hD, hS.F ht⟩) hS.2.2 dX8_does_244 hlocks
              · replace hf := if_t c20 hf
                refine lv_aload_n hx hb dX8_does_144 rfl (lv_at hl 4 rfl) ?_
                refine lv_iload_n hx hb dX8_does_145 rfl (lv_at hl 2 rfl) ?_
                refine lv_iload hx hb dX8_does_146 (lv_at hl 1 rfl) ?_
                obtain ⟨u39, hc40, hf⟩ := bind_t hf
                refine k_V (As := [.int y10, .int y12]) (rest := []) (n := 2) ⟨hx, hb, hml, hown, hts⟩ (met_X8_appends l a x y10 y12 u39 hc40) w1011 w1013 ws42 w9 w1014 ⟨rfl, by decide +kernel, by decide +kernel, by decide +kernel⟩ ⟨Nat.le_of_ble_eq_true rfl, Nat.le_of_ble_eq_true rfl⟩ hK hE hP hD hS hA (isC := [0, 1, 2, 3, 4, 5, 6, 7, 8, 9, 10, 11, 12, 13, 14]) (isR := []) (isB := [0, 1, 2, 3, 4, 5, 6, 7, 8, 9, 10, 11, 12, 13, 14]) (ws' := W_Model cI a u39.1) ⟨([] : List Nat).filterMap (fun i : Nat => (W_Model cI a x : va_W)[i]?), rfl, rfl, rfl, rfl, by decide, rfl, rfl⟩ 0 7 rfl rfl rfl rfl hl.1 rfl (Nat.le_of_ble_eq_true rfl) dX8_does_148 ⟨Nat.le_of_ble_eq_true rfl, Nat.le_of_ble_eq_true rfl⟩ (fun H locs hP hD hS => ?_)
                try dsimp only at hf
                refine W.eq (g2 := F0 m 151 ls [.int u39.2]) rfl ?_
                obtain ⟨x41, hx41⟩ : ∃ z, z = u39.1 := ⟨_, rfl⟩
                replace hf := keep_e hf x41 hx41
                have hP : va_P D vwCl (W_Model cI a x41) H := by rw [hx41]; exact hP
                have hD : va_D A (W_Model cI a x41) := by rw [hx41]; exact hD
                refine lv_pop hx hb dX8_does_151 rfl ?_
                refine lv_goto (tgt := 244) hx hb dX8_does_152 (by decide) ?_
                obtain rfl := Option.some.inj hf
                exact W.vret hx hb hr (fun t ht hW => ⟨rfl, by rw [ht]; exact hP, va_K.moved hW.alike hK, hD, hS.F ht⟩) hS.2.2 dX8_does_244 hlocks
            · replace hf := if_t c19 hf
              refine lv_aload_n hx hb dX8_does_125 rfl (lv_at hl 4 rfl) ?_
              refine lv_iload_n hx hb dX8_does_126 rfl (lv_at hl 2 rfl) ?_
              refine lv_iload hx hb dX8_does_127 (lv_at hl 1 rfl) ?_
              refine lv_iload hx hb dX8_does_129 (lv_at hl 0 rfl) ?_
              obtain ⟨u42, hc43, hf⟩ := bind_t hf
              refine k_V (As := [.int y10, .int y12, .int y14]) (rest := []) (n := 3) ⟨hx, hb, hml, hown, hts⟩ (met_X8_rates l a x y10 y12 y14 u42 hc43) w1000 w1002 ws41 w9 w1003 ⟨rfl, by decide +kernel, by decide +kernel, by decide +kernel⟩ ⟨Nat.le_of_ble_eq_true rfl, Nat.le_of_ble_eq_true rfl⟩ hK hE hP hD hS hA (isC := [0, 1, 2, 3, 4, 5, 6, 7, 8, 9, 10, 11, 12, 13, 14]) (isR := []) (isB := [0, 1, 2, 3, 4, 5, 6, 7, 8, 9, 10, 11, 12, 13, 14]) (ws' := W_Model cI a u42.1) ⟨([] : List Nat).filterMap (fun i : Nat => (W_Model cI a x : va_W)[i]?), rfl, rfl, rfl, rfl, by decide, rfl, rfl⟩ 0 7 rfl rfl rfl rfl hl.1 rfl (Nat.le_of_ble_eq_true rfl) dX8_does_131 ⟨Nat.le_of_ble_eq_true rfl, Nat.le_of_ble_eq_true rfl⟩ (fun H locs hP hD hS => ?_)
              try dsimp only at hf
              refine W.eq (g2 := F0 m 134 ls [.int u42.2]) rfl ?_
              obtain ⟨x44, hx44⟩ : ∃ z, z = u42.1 := ⟨_, rfl⟩
              replace hf := keep_e hf x44 hx44
              have hP : va_P D vwCl (W_Model cI a x44) H := by rw [hx44]; exact hP
              have hD : va_D A (W_Model cI a x44) := by rw [hx44]; exact hD
              refine lv_pop hx hb dX8_does_134 rfl ?_
              refine lv_goto (tgt := 244) hx hb dX8_does_135 (by decide) ?_
              obtain rfl := Option.some.inj hf
              exact W.vret hx hb hr (fun t ht hW => ⟨rfl, by rw [ht]; exact hP, va_K.moved hW.alike hK, hD, hS.F ht⟩) hS.2.2 dX8_does_244 hlocks
          · replace hf := if_t c18 hf
            refine lv_aload_n hx hb dX8_does_109 rfl (lv_at hl 4 rfl) ?_
            refine lv_iload_n hx hb dX8_does_110 rfl (lv_at hl 2 rfl) ?_
            refine lv_iload hx hb dX8_does_111 (lv_at hl 1 rfl) ?_
            obtain ⟨u45, hc46, hf⟩ := bind_t hf
            refine k_V (As := [.int y10, .int y12]) (rest := []) (n := 2) ⟨hx, hb, hml, hown, hts⟩ (met_X8_takes l a x y10 y12 u45 hc46) w987 w989 ws40 w9 w990 ⟨rfl, by decide +kernel, by decide +kernel, by decide +kernel⟩ ⟨Nat.le_of_ble_eq_true rfl, Nat.le_of_ble_eq_true rfl⟩ hK hE hP hD hS hA (isC := [0, 1, 2, 3, 4, 5, 6, 7, 8, 9, 10, 11, 12, 13, 14]) (isR := []) (isB := [0, 1, 2, 3, 4, 5, 6, 7, 8, 9, 10, 11, 12, 13, 14]) (ws' := W_Model cI a u45.1) ⟨([] : List Nat).filterMap (fun i : Nat => (W_Model cI a x : va_W)[i]?), rfl, rfl, rfl, rfl, by decide, rfl, rfl⟩ 0 7 rfl rfl rfl rfl hl.1 rfl (Nat.le_of_ble_eq_true rfl) dX8_does_113 ⟨Nat.le_of_ble_eq_true rfl, Nat.le_of_ble_eq_true rfl⟩ (fun H locs hP hD hS => ?_)
            try dsimp only at hf
            refine W.eq (g2 := F0 m 116 ls [.int u45.2]) rfl ?_
            obtain ⟨x47, hx47⟩ : ∃ z, z = u45.1 := ⟨_, rfl⟩
            replace hf := keep_e hf x47 hx47
            have hP : va_P D vwCl (W_Model cI a x47) H := by rw [hx47]; exact hP
            have hD : va_D A (W_Model cI a x47) := by rw [hx47]; exact hD
            refine lv_pop hx hb dX8_does_116 rfl ?_
            refine lv_goto (tgt := 244) hx hb dX8_does_117 (by decide) ?_
            obtain rfl := Option.some.inj hf
            exact W.vret hx hb hr (fun t ht hW => ⟨rfl, by rw [ht]; exact hP, va_K.moved hW.alike hK, hD, hS.F ht⟩) hS.2.2 dX8_does_244 hlocks
        · replace hf := if_t c17 hf
          refine lv_aload_n hx hb dX8_does_93 rfl (lv_at hl 4 rfl) ?_
          refine lv_iload_n hx hb dX8_does_94 rfl (lv_at hl 2 rfl) ?_
          refine lv_iload hx hb dX8_does_95 (lv_at hl 1 rfl) ?_
          obtain ⟨u48, hc49, hf⟩ := bind_t hf
          refine k_V (As := [.int y10, .int y12]) (rest := []) (n := 2) ⟨hx, hb, hml, hown, hts⟩ (met_X8_adds l a x y10 y12 u48 hc49) w979 w981 ws39 w9 w982 ⟨rfl, by decide +kernel, by decide +kernel, by decide +kernel⟩ ⟨Nat.le_of_ble_eq_true rfl, Nat.le_of_ble_eq_true rfl⟩ hK hE hP hD hS hA (isC := [0, 1, 2, 3, 4, 5, 6, 7, 8, 9, 10, 11, 12, 13, 14]) (isR := []) (isB := [0, 1, 2, 3, 4, 5, 6, 7, 8, 9, 10, 11, 12, 13, 14]) (ws' := W_Model cI a u48.1) ⟨([] : List Nat).filterMap (fun i : Nat => (W_Model cI a x : va_W)[i]?), rfl, rfl, rfl, rfl, by decide, rfl, rfl⟩ 0 7 rfl rfl rfl rfl hl.1 rfl (Nat.le_of_ble_eq_true rfl) dX8_does_97 ⟨Nat.le_of_ble_eq_true rfl, Nat.le_of_ble_eq_true rfl⟩ (fun H locs hP hD hS => ?_)
          try dsimp only at hf
          refine W.eq (g2 := F0 m 100 ls [.int u48.2]) rfl ?_
          obtain ⟨x50, hx50⟩ : ∃ z, z = u48.1 := ⟨_, rfl⟩
          replace hf := keep_e hf x50 hx50
          have hP : va_P D vwCl (W_Model cI a x50) H := by rw [hx50]; exact hP
          have hD : va_D A (W_Model cI a x50) := by rw [hx50]; exact hD
          refine lv_pop hx hb dX8_does_100 rfl ?_
          refine lv_goto (tgt := 244) hx hb dX8_does_101 (by decide) ?_
          obtain rfl := Option.some.inj hf
          exact W.vret hx hb hr (fun t ht hW => ⟨rfl, by rw [ht]; exact hP, va_K.moved hW.alike hK, hD, hS.F ht⟩) hS.2.2 dX8_does_244 hlocks
      · replace hf := if_t c16 hf
        refine lv_aload_n hx hb dX8_does_68 rfl (lv_at hl 4 rfl) ?_
        refine lv_iload_n hx hb dX8_does_69 rfl (lv_at hl 2 rfl) ?_
        refine lv_iload hx hb dX8_does_70 (lv_at hl 1 rfl) ?_
        refine lv_iconst (v := 1) hx hb dX8_does_72 (by decide) ?_
        refine lv_icmp_ne (tgt := 80) hx hb dX8_does_73 (by decide) (fun c51 => ?_) (fun c51 => ?_)
        · replace hf := if_f c51 hf
          refine lv_iconst (v := 0) hx hb dX8_does_80 (by decide) ?_
          exact L81 x 0 y10 H locs ls hf hP hD hS (lv_sub hl [] rfl)
        · replace hf := if_t c51 hf
          refine lv_iconst (v := 1) hx hb dX8_does_76 (by decide) ?_
          refine lv_goto (tgt := 81) hx hb dX8_does_77 (by decide) ?_
          exact L81 x 1 y10 H locs ls hf hP hD hS (lv_sub hl [] rfl)
    · replace hf := if_t c15 hf
      refine lv_aload_n hx hb dX8_does_41 rfl (lv_at hl 4 rfl) ?_
      refine lv_iload_n hx hb dX8_does_42 rfl (lv_at hl 2 rfl) ?_
      refine lv_iload hx hb dX8_does_43 (lv_at hl 1 rfl) ?_
      refine lv_iload hx hb dX8_does_45 (lv_at hl 0 rfl) ?_
      refine lv_iconst (v := 1) hx hb dX8_does_47 (by decide) ?_
      refine lv_icmp_ne (tgt := 55) hx hb dX8_does_48 (by decide) (fun c52 => ?_) (fun c52 => ?_)
      · replace hf := if_f c52 hf
        refine lv_iconst (v := 0) hx hb dX8_does_55 (by decide) ?_
        exact L56 x 0 y12 y10 H locs ls hf hP hD hS (lv_sub hl [] rfl)
      · replace hf := if_t c52 hf
        refine lv_iconst (v := 1) hx hb dX8_does_51 (by decide) ?_
        refine lv_goto (tgt := 56) hx hb dX8_does_52 (by decide) ?_
        exact L56 x 1 y12 y10 H locs ls hf hP hD hS (lv_sub hl [] rfl)
  exact M0 s.heap [] ls hf hP hD hS hl
/-! CompactformsModel.restart()I -/
def fX8_restart_87 (x : MSt) (rec87 : Int32 × Int32 → Option (MSt × Int32)) (s : Int32 × Int32) : Option (MSt × Int32) := match s with | (v1, v2) => (if 16 ≤ v2 then some (x, v1) else (fX8_isThere x v2).bind (fun u2 => (if u2 = 0 then keep (v1 + 0) (fun y5 => keep (v2 + 1) (fun y6 => rec87 (y5, y6))) else keep (v1 + 1) (fun y7 => keep (v2 + 1) (fun y8 => rec87 (y7, y8))))))
def fX8_restart_33 (rec33 : MSt × Int32 → Option (MSt × Int32)) (s : MSt × Int32) : Option (MSt × Int32) := match s with | (x, v1) => (if (mRows x) ≤ v1 then keep (mNow_s x (mClock x)) (fun x10 => iterK FU (fX8_restart_87 x10) (0, 0)) else keep (mWriting_s x v1) (fun x11 => chk (inb ((6 * v1) + 5) 1800) (keep (mNow_s x11 ((mLog x11) (((6 * v1) + 5)).toNatClampNeg)) (fun x13 => (fX8_does x13 (6 * v1)).bind (fun u14 => keep u14 (fun x16 => keep (v1 + 1) (fun y17 => rec33 (x16, y17))))))))
def fX8_restart_12 (rec12 : MSt × Int32 → Option (MSt × Int32)) (s : MSt × Int32) : Option (MSt × Int32) := match s with | (x, v1) => (if 16 ≤ v1 then iterK FU (fX8_restart_33 ) (x, 0) else chk (inb v1 16) (keep (mType_s x (upd (mType x) (v1).toNatClampNeg 0)) (fun x20 => keep (v1 + 1) (fun y21 => rec12 (x20, y21)))))
def fX8_restart (x : MSt) : Option (MSt × Int32) := keep (mThrown_s x 0) (fun x22 => keep (mIsRewriting_s x22 0) (fun x23 => iterK FU (fX8_restart_12 ) (x23, 0)))
set_option maxHeartbeats 4000000 in
set_option maxRecDepth 100000 in
theorem met_X8_restart {D : va_G} {cI cV cJ cD : ClassId} (l : Launch) (a : Nat → Nat) (x : MSt) (res : MSt × Int32) (hf : fX8_restart x = some res) : MM l yX8_restart cX8_restart 3 (some .int) { frames := 4, cells := 0, slots := 0, locals := 97 } D (TY cI cV cJ cD) (W_Model cI a x) (W_Model cI a res.1) [.ref (a 0)] (some (.int res.2)) := by
  intro sz
  refine Met.ofW (cc := cX8_restart) (maxL := 3) (ret := (some .int)) (by decide +kernel) rfl ?_
  intro p e s m args below meth c s₁ B hml hv
  obtain ⟨rfl, hsz, hP, hK, hD0, hE⟩ := hv
  have hx := B.exec
  have hb := B.bytes
  have hr := B.returns
  have hts := atoms_spec (ws := .code yX8_restart cX8_restart 3 (some .int) :: GW) B.pre
  have hg : ∀ w ∈ GW, w.before (([.ref (a 0)] : List Value).toArray) s = true := fun w h => hts w (List.mem_cons_of_mem _ h)
  have hown : s.vm.findClass RX8 = some m.cls := findClass_of_methodNamed B.named
  have hlocks := B.notSynchronized
  subst hsz
  have hD := hD0.self (sz := s.heap.size)
  generalize hAe : va_A (W_Model cI a x) s.heap.size = A at hD hE ⊢
  have hA : ∀ q : Nat, s.heap.size ≤ q → A q := fun q h => by rw [← hAe]; exact Or.inr h
  have hS : va_S A s.heap s.heap [] := va_S.rf
  have hl := lv_entry ([.ref (a 0)]) (n := 3) (Nat.le_of_ble_eq_true rfl)
  rw [lg_entry_eq]
  generalize (lg_sl ([.ref (a 0)]) ++ List.replicate (3 - (lg_sl ([.ref (a 0)])).length) Slot.unset).toArray = ls at hl ⊢
  have hl : lv_has ls 3 [(0, .ref (a 0))] := hl
  have S87 : ∀ (x : MSt) (rec87 : Int32 × Int32 → Option (MSt × Int32)) (hrec87 : ∀ (v1 : Int32), ∀ (v2 : Int32), ∀ (H : Heap) (locs : List Loc) (ls : Array Slot), rec87 (v1, v2) = some res → va_P D vwCl (W_Model cI a x) H → va_D A (W_Model cI a x) → va_S A s.heap H locs → lv_has ls 3 [(0, .ref (a 0)), (1, .int v1), (2, .int v2)] → W p l e ({ frames := 4, cells := 0, slots := 0, locals := 97 } : Room) s m ([.ref (a 0)] : List Value).toArray below meth c H locs 0 0 (MQ below (QW D (TY cI cV cJ cD) (W_Model cI a res.1) A (some (.int res.2))) (([.ref (a 0)] : List Value).toArray) s 0 0 A) (F0 m 87 ls [])) (v1 : Int32) (v2 : Int32) (H : Heap) (locs : List Loc) (ls : Array Slot), fX8_restart_87 x  rec87 (v1, v2) = some res → va_P D vwCl (W_Model cI a x) H → va_D A (W_Model cI a x) → va_S A s.heap H locs → lv_has ls 3 [(0, .ref (a 0)), (1, .int v1), (2, .int v2)] → W p l e ({ frames := 4, cells := 0, slots := 0, locals := 97 } : Room) s m ([.ref (a 0)] : List Value).toArray below meth c H locs 0 0 (MQ below (QW D (TY cI cV cJ cD) (W_Model cI a res.1) A (some (.int res.2))) (([.ref (a 0)] : List Value).toArray) s 0 0 A) (F0 m 87 ls []) := by
    intro x rec87 hrec87 v1 v2 H locs ls hf hP hD hS hl
    dsimp only [fX8_restart_87] at hf
    refine lv_iload_n hx hb dX8_restart_87 rfl (lv_at hl 2 rfl) ?_
    refine lv_bipush (v := 16) hx hb dX8_restart_88 (by decide) ?_
    refine lv_icmp_ge (tgt := 115) hx hb dX8_restart_90 (by decide) (fun c1 => ?_) (fun c1 => ?_)
    · replace hf := if_t c1 hf
      refine lv_iload_n hx hb dX8_restart_115 rfl (lv_at hl 1 rfl) ?_
      obtain rfl := Option.some.inj hf
      exact W.iret (v := v1) hx hb hr (fun t ht hW => ⟨rfl, by rw [ht]; exact hP, va_K.moved hW.alike hK, hD, hS.F ht⟩) hS.2.2 dX8_restart_116 hlocks
    · replace hf := if_f c1 hf
      refine lv_iload_n hx hb dX8_restart_93 rfl (lv_at hl 1 rfl) ?_
      refine lv_aload_n hx hb dX8_restart_94 rfl (lv_at hl 0 rfl) ?_
      refine lv_iload_n hx hb dX8_restart_95 rfl (lv_at hl 2 rfl) ?_
      obtain ⟨u2, hc3, hf⟩ := bind_t hf
      refine k_V (As := [.int v2]) (rest := [.int v1]) (n := 1) ⟨hx, hb, hml, hown, hts⟩ (met_X8_isThere l a x v2 u2 hc3) w916 w918 ws26 w9 w919 ⟨rfl, by decide +kernel, by decide +kernel, by decide +kernel⟩ ⟨Nat.le_of_ble_eq_true rfl, Nat.le_of_ble_eq_true rfl⟩ hK hE hP hD hS hA (isC := [0, 1, 2, 3, 4, 5, 6, 7, 8, 9, 10, 11, 12, 13, 14]) (isR := []) (isB := [0, 1, 2, 3, 4, 5, 6, 7, 8, 9, 10, 11, 12, 13, 14]) (ws' := W_Model cI a x) ⟨([] : List Nat).filterMap (fun i : Nat => (W_Model cI a x : va_W)[i]?), rfl, rfl, rfl, rfl, by decide, rfl, rfl⟩ 0 7 rfl rfl rfl rfl hl.1 rfl (Nat.le_of_ble_eq_true rfl) dX8_restart_96 ⟨Nat.le_of_ble_eq_true rfl, Nat.le_of_ble_eq_true rfl⟩ (fun H locs hP hD hS => ?_)
      try dsimp only at hf
      refine W.eq (g2 := F0 m 99 ls [.int u2, .int v1]) rfl ?_
      refine lv_if_eq (tgt := 106) hx hb dX8_restart_99 (by decide) (fun c4 => ?_) (fun c4 => ?_)
      · replace hf := if_t c4 hf
        refine lv_iconst (v := 0) hx hb dX8_restart_106 (by decide) ?_
        refine lv_iadd hx hb dX8_restart_107 ?_
        refine lv_topi (fun y5 hy5 => ?_)
        replace hf := keep_e hf y5 hy5
        refine lv_istore_n (lv' := [(1, .int y5), (0, .ref (a 0)), (2, .int v2)]) hx hb dX8_restart_108 rfl hl (by decide) rfl (fun ls hl => ?_)
        obtain ⟨y6, hy6⟩ : ∃ z : Int32, z = (v2 + 1) := ⟨_, rfl⟩
        replace hf := keep_e hf y6 hy6
        refine lv_iinc (v := y6) (lv' := [(2, .int y6), (1, .int y5), (0, .ref (a 0))]) hx hb dX8_restart_109 hl (k := 2) rfl (by rw [hy6]; rfl) (by decide) rfl (fun ls hl => ?_)
        refine lv_goto (tgt := 87) hx hb dX8_restart_112 (by decide) ?_
        exact hrec87 y5 y6 H locs ls hf hP hD hS (lv_sub hl [2, 1, 0] rfl)
      · replace hf := if_f c4 hf
        refine lv_iconst (v := 1) hx hb dX8_restart_102 (by decide) ?_
        refine lv_goto (tgt := 107) hx hb dX8_restart_103 (by decide) ?_
        refine lv_iadd hx hb dX8_restart_107 ?_
        refine lv_topi (fun y7 hy7 => ?_)
        replace hf := keep_e hf y7 hy7
        refine lv_istore_n (lv' := [(1, .int y7), (0, .ref (a 0)), (2, .int v2)]) hx hb dX8_restart_108 rfl hl (by decide) rfl (fun ls hl => ?_)
        obtain ⟨y8, hy8⟩ : ∃ z : Int32, z = (v2 + 1) := ⟨_, rfl⟩
        replace hf := keep_e hf y8 hy8
        refine lv_iinc (v := y8) (lv' := [(2, .int y8), (1, .int y7), (0, .ref (a 0))]) hx hb dX8_restart_109 hl (k := 2) rfl (by rw [hy8]; rfl) (by decide) rfl (fun ls hl => ?_)
        refine lv_goto (tgt := 87) hx hb dX8_restart_112 (by decide) ?_
        exact hrec87 y7 y8 H locs ls hf hP hD hS (lv_sub hl [2, 1, 0] rfl)
  have L87 : ∀ (x : MSt) (fu : Nat) (v1 : Int32) (v2 : Int32) (H : Heap) (locs : List Loc) (ls : Array Slot), iterK fu (fX8_restart_87 x ) (v1, v2) = some res → va_P D vwCl (W_Model cI a x) H → va_D A (W_Model cI a x) → va_S A s.heap H locs → lv_has ls 3 [(0, .ref (a 0)), (1, .int v1), (2, .int v2)] → W p l e ({ frames := 4, cells := 0, slots := 0, locals := 97 } : Room) s m ([.ref (a 0)] : List Value).toArray below meth c H locs 0 0 (MQ below (QW D (TY cI cV cJ cD) (W_Model cI a res.1) A (some (.int res.2))) (([.ref (a 0)] : List Value).toArray) s 0 0 A) (F0 m 87 ls []) := by
    intro x fu
    induction fu with
    | zero =>
      intro v1 v2 H locs ls hf
      cases hf
    | succ fu ih =>
      intro v1 v2 H locs ls hf hP hD hS hl
      exact S87 x (iterK fu (fX8_restart_87 x )) ih v1 v2 H locs ls hf hP hD hS hl
  have S33 : ∀ (rec33 : MSt × Int32 → Option (MSt × Int32)) (hrec33 : ∀ (x : MSt), ∀ (v1 : Int32), ∀ (H : Heap) (locs : List Loc) (ls : Array Slot), rec33 (x, v1) = some res → va_P D vwCl (W_Model cI a x) H → va_D A (W_Model cI a x) → va_S A s.heap H locs → lv_has ls 3 [(0, .ref (a 0)), (1, .int v1)] → W p l e ({ frames := 4, cells := 0, slots := 0, locals := 97 } : Room) s m ([.ref (a 0)] : List Value).toArray below meth c H locs 0 0 (MQ below (QW D (TY cI cV cJ cD) (W_Model cI a res.1) A (some (.int res.2))) (([.ref (a 0)] : List Value).toArray) s 0 0 A) (F0 m 33 ls [])) (x : MSt) (v1 : Int32) (H : Heap) (locs : List Loc) (ls : Array Slot), fX8_restart_33  rec33 (x, v1) = some res → va_P D vwCl (W_Model cI a x) H → va_D A (W_Model cI a x) → va_S A s.heap H locs → lv_has ls 3 [(0, .ref (a 0)), (1, .int v1)] → W p l e ({ frames := 4, cells := 0, slots := 0, locals := 97 } : Room) s m ([.ref (a 0)] : List Value).toArray below meth c H locs 0 0 (MQ below (QW D (TY cI cV cJ cD) (W_Model cI a res.1) A (some (.int res.2))) (([.ref (a 0)] : List Value).toArray) s 0 0 A) (F0 m 33 ls []) := by
    intro rec33 hrec33 x v1 H locs ls hf hP hD hS hl
    dsimp only [fX8_restart_33] at hf
    refine lv_iload_n hx hb dX8_restart_33 rfl (lv_at hl 1 rfl) ?_
    refine lv_aload_n hx hb dX8_restart_34 rfl (lv_at hl 0 rfl) ?_
    refine va_get (D := D) (ci := 7) (v := .int (mRows x)) (C := RX8) (T := TX8) (N := 24) hx hb hg in_X8 hown hK hP 0 rfl rfl 14 (by decide) (hg _ w839) (fun _ h9 => h9) rfl dX8_restart_35 ?_
    refine lv_icmp_ge (tgt := 75) hx hb dX8_restart_38 (by decide) (fun c9 => ?_) (fun c9 => ?_)
    · replace hf := if_t c9 hf
      refine lv_aload_n hx hb dX8_restart_75 rfl (lv_at hl 0 rfl) ?_
      refine lv_aload_n hx hb dX8_restart_76 rfl (lv_at hl 0 rfl) ?_
      refine va_get (D := D) (ci := 7) (v := .int (mClock x)) (C := RX8) (T := TX8) (N := 24) hx hb hg in_X8 hown hK hP 0 rfl rfl 0 (by decide) (hg _ w825) (fun _ h9 => h9) rfl dX8_restart_77 ?_
      refine va_put (D := D) (ci := 7) (v := .int (mClock x)) (ty := .int) (C := RX8) (T := TX8) (N := 24) hx hb hg in_X8 tyX8 tyX8_ok nmX8 hown hK hP hD hS 0 rfl rfl 1 (by decide) (hg _ w826) (fun _ h9 => h9) rfl (by decide +kernel) rfl rfl (Nat.le_of_ble_eq_true rfl) dX8_restart_80 (fun H locs hP hD hS => ?_)
      obtain ⟨x10, hx10⟩ : ∃ z, z = (mNow_s x (mClock x)) := ⟨_, rfl⟩
      replace hf := keep_e hf x10 hx10
      have hP : va_P D vwCl (W_Model cI a x10) H := by rw [hx10]; exact hP
      have hD : va_D A (W_Model cI a x10) := by rw [hx10]; exact hD
      refine lv_iconst (v := 0) hx hb dX8_restart_83 (by decide) ?_
      refine lv_istore_n (lv' := [(1, .int 0), (0, .ref (a 0))]) hx hb dX8_restart_84 rfl hl (by decide) rfl (fun ls hl => ?_)
      refine lv_iconst (v := 0) hx hb dX8_restart_85 (by decide) ?_
      refine lv_istore_n (lv' := [(2, .int 0), (1, .int 0), (0, .ref (a 0))]) hx hb dX8_restart_86 rfl hl (by decide) rfl (fun ls hl => ?_)
      exact L87 x10 FU 0 0 H locs ls hf hP hD hS (lv_sub hl [2, 1, 0] rfl)
    · replace hf := if_f c9 hf
      refine lv_aload_n hx hb dX8_restart_41 rfl (lv_at hl 0 rfl) ?_
      refine lv_iload_n hx hb dX8_restart_42 rfl (lv_at hl 1 rfl) ?_
      refine va_put (D := D) (ci := 7) (v := .int v1) (ty := .int) (C := RX8) (T := TX8) (N := 24) hx hb hg in_X8 tyX8 tyX8_ok nmX8 hown hK hP hD hS 0 rfl rfl 15 (by decide) (hg _ w840) (fun _ h9 => h9) rfl (by decide +kernel) rfl rfl (Nat.le_of_ble_eq_true rfl) dX8_restart_43 (fun H locs hP hD hS => ?_)
      obtain ⟨x11, hx11⟩ : ∃ z, z = (mWriting_s x v1) := ⟨_, rfl⟩
      replace hf := keep_e hf x11 hx11
      have hP : va_P D vwCl (W_Model cI a x11) H := by rw [hx11]; exact hP
      have hD : va_D A (W_Model cI a x11) := by rw [hx11]; exact hD
      refine lv_aload_n hx hb dX8_restart_46 rfl (lv_at hl 0 rfl) ?_
      refine lv_aload_n hx hb dX8_restart_47 rfl (lv_at hl 0 rfl) ?_
      refine va_get (D := D) (ci := 7) (v := .ref (a 12)) (C := RX8) (T := TX8) (N := 24) hx hb hg in_X8 hown hK hP 0 rfl rfl 16 (by decide) (hg _ w841) (fun _ h9 => h9) rfl dX8_restart_48 ?_
      refine lv_bipush (v := 6) hx hb dX8_restart_51 (by decide) ?_
      refine lv_iload_n hx hb dX8_restart_53 rfl (lv_at hl 1 rfl) ?_
      refine lv_imul hx hb dX8_restart_54 ?_
      refine lv_iconst (v := 5) hx hb dX8_restart_55 (by decide) ?_
      refine lv_iadd hx hb dX8_restart_56 ?_
      obtain ⟨hi12, hf⟩ := chk_t hf
      refine va_iald hx hb hK hP 12 0 rfl rfl (inb_in hi12) dX8_restart_57 ?_
      refine va_put (D := D) (ci := 7) (v := .int ((mLog x11) (((6 * v1) + 5)).toNatClampNeg)) (ty := .int) (C := RX8) (T := TX8) (N := 24) hx hb hg in_X8 tyX8 tyX8_ok nmX8 hown hK hP hD hS 0 rfl rfl 1 (by decide) (hg _ w826) (fun _ h9 => h9) rfl (by decide +kernel) rfl rfl (Nat.le_of_ble_eq_true rfl) dX8_restart_58 (fun H locs hP hD hS => ?_)
      obtain ⟨x13, hx13⟩ : ∃ z, z = (mNow_s x11 ((mLog x11) (((6 * v1) + 5)).toNatClampNeg)) := ⟨_, rfl⟩
      replace hf := keep_e hf x13 hx13
      have hP : va_P D vwCl (W_Model cI a x13) H := by rw [hx13]; exact hP
      have hD : va_D A (W_Model cI a x13) := by rw [hx13]; exact hD
      refine lv_aload_n hx hb dX8_restart_61 rfl (lv_at hl 0 rfl) ?_
      refine lv_bipush (v := 6) hx hb dX8_restart_62 (by decide) ?_
      refine lv_iload_n hx hb dX8_restart_64 rfl (lv_at hl 1 rfl) ?_
      refine lv_imul hx hb dX8_restart_65 ?_
      obtain ⟨u14, hc15, hf⟩ := bind_t hf
      refine k_V (As := [.int (6 * v1)]) (rest := []) (n := 1) ⟨hx, hb, hml, hown, hts⟩ (met_X8_does l a x13 (6 * v1) u14 hc15) w1109 w1111 ws51 w9 w1112 ⟨rfl, by decide +kernel, by decide +kernel, by decide +kernel⟩ ⟨Nat.le_of_ble_eq_true rfl, Nat.le_of_ble_eq_true rfl⟩ hK hE hP hD hS hA (isC := [0, 1, 2, 3, 4, 5, 6, 7, 8, 9, 10, 11, 12, 13, 14]) (isR := []) (isB := [0, 1, 2, 3, 4, 5, 6, 7, 8, 9, 10, 11, 12, 13, 14]) (ws' := W_Model cI a u14) ⟨([] : List Nat).filterMap (fun i : Nat => (W_Model cI a x13 : va_W)[i]?), rfl, rfl, rfl, rfl, by decide, rfl, rfl⟩ 0 7 rfl rfl rfl rfl hl.1 rfl (Nat.le_of_ble_eq_true rfl) dX8_restart_66 ⟨Nat.le_of_ble_eq_true rfl, Nat.le_of_ble_eq_true rfl⟩ (fun H locs hP hD hS => ?_)
      try dsimp only at hf
      refine W.eq (g2 := F0 m 69 ls []) rfl ?_
      obtain ⟨x16, hx16⟩ : ∃ z, z = u14 := ⟨_, rfl⟩
      replace hf := keep_e hf x16 hx16
      have hP : va_P D vwCl (W_Model cI a x16) H := by rw [hx16]; exact hP
      have hD : va_D A (W_Model cI a x16) := by rw [hx16]; exact hD
      obtain ⟨y17, hy17⟩ : ∃ z : Int32, z = (v1 + 1) := ⟨_, rfl⟩
      replace hf := keep_e hf y17 hy17
      refine lv_iinc (v := y17) (lv' := [(1, .int y17), (0, .ref (a 0))]) hx hb dX8_restart_69 hl (k := 1) rfl (by rw [hy17]; rfl) (by decide) rfl (fun ls hl => ?_)
      refine lv_goto (tgt := 33) hx hb dX8_restart_72 (by decide) ?_
      exact hrec33 x16 y17 H locs ls hf hP hD hS (lv_sub hl [1, 0] rfl)
  have L33 : ∀ (fu : Nat) (x : MSt) (v1 : Int32) (H : Heap) (locs : List Loc) (ls : Array Slot), iterK fu (fX8_restart_33 ) (x, v1) = some res → va_P D vwCl (W_Model cI a x) H → va_D A (W_Model cI a x) → va_S A s.heap H locs → lv_has ls 3 [(0, .ref (a 0)), (1, .int v1)] → W p l e ({ frames := 4, cells := 0, slots := 0, locals := 97 } : Room) s m ([.ref (a 0)] : List Value).toArray below meth c H locs 0 0 (MQ below (QW D (TY cI cV cJ cD) (W_Model cI a res.1) A (some (.int res.2))) (([.ref (a 0)] : List Value).toArray) s 0 0 A) (F0 m 33 ls []) := by
    intro fu
    induction fu with
    | zero =>
      intro x v1 H locs ls hf
      cases hf
    | succ fu ih =>
      intro x v1 H locs ls hf hP hD hS hl
      exact S33 (iterK fu (fX8_restart_33 )) ih x v1 H locs ls hf hP hD hS hl
  have S12 : ∀ (rec12 : MSt × Int32 → Option (MSt × Int32)) (hrec12 : ∀ (x : MSt), ∀ (v1 : Int32), ∀ (H : Heap) (locs : List Loc) (ls : Array Slot), rec12 (x, v1) = some res → va_P D vwCl (W_Model cI a x) H → va_D A (W_Model cI a x) → va_S A s.heap H locs → lv_has ls 3 [(0, .ref (a 0)), (1, .int v1)] → W p l e ({ frames := 4, cells := 0, slots := 0, locals := 97 } : Room) s m ([.ref (a 0)] : List Value).toArray below meth c H locs 0 0 (MQ below (QW D (TY cI cV cJ cD) (W_Model cI a res.1) A (some (.int res.2))) (([.ref (a 0)] : List Value).toArray) s 0 0 A) (F0 m 12 ls [])) (x : MSt) (v1 : Int32) (H : Heap) (locs : List Loc) (ls : Array Slot), fX8_restart_12  rec12 (x, v1) = some res → va_P D vwCl (W_Model cI a x) H → va_D A (W_Model cI a x) → va_S A s.heap H locs → lv_has ls 3 [(0, .ref (a 0)), (1, .int v1)] → W p l e ({ frames := 4, cells := 0, slots := 0, locals := 97 } : Room) s m ([.ref (a 0)] : List Value).toArray below meth c H locs 0 0 (MQ below (QW D (TY cI cV cJ cD) (W_Model cI a res.1) A (some (.int res.2))) (([.ref (a 0)] : List Value).toArray) s 0 0 A) (F0 m 12 ls []) := by
    intro rec12 hrec12 x v1 H locs ls hf hP hD hS hl
    dsimp only [fX8_restart_12] at hf
    refine lv_iload_n hx hb dX8_restart_12 rfl (lv_at hl 1 rfl) ?_
    refine lv_bipush (v := 16) hx hb dX8_restart_13 (by decide) ?_
    refine lv_icmp_ge (tgt := 31) hx hb dX8_restart_15 (by decide) (fun c18 => ?_) (fun c18 => ?_)
    · replace hf := if_t c18 hf
      refine lv_iconst (v := 0) hx hb dX8_restart_31 (by decide) ?_
      refine lv_istore_n (lv' := [(1, .int 0), (0, .ref (a 0))]) hx hb dX8_restart_32 rfl hl (by decide) rfl (fun ls hl => ?_)
      exact L33  FU x 0 H locs ls hf hP hD hS (lv_sub hl [1, 0] rfl)
    · replace hf := if_f c18 hf
      refine lv_aload_n hx hb dX8_restart_18 rfl (lv_at hl 0 rfl) ?_
      refine va_get (D := D) (ci := 7) (v := .ref (a 1)) (C := RX8) (T := TX8) (N := 24) hx hb hg in_X8 hown hK hP 0 rfl rfl 2 (by decide) (hg _ w827) (fun _ h9 => h9) rfl dX8_restart_19 ?_
      refine lv_iload_n hx hb dX8_restart_22 rfl (lv_at hl 1 rfl) ?_
      refine lv_iconst (v := 0) hx hb dX8_restart_23 (by decide) ?_
      obtain ⟨hi19, hf⟩ := chk_t hf
      refine va_iast hx hb hK hP hD hS 1 0 rfl rfl (inb_in hi19) dX8_restart_24 (fun H locs hP hD hS => ?_)
      obtain ⟨x20, hx20⟩ : ∃ z, z = (mType_s x (upd (mType x) (v1).toNatClampNeg 0)) := ⟨_, rfl⟩
      replace hf := keep_e hf x20 hx20
      have hP : va_P D vwCl (W_Model cI a x20) H := by rw [hx20]; exact hP
      have hD : va_D A (W_Model cI a x20) := by rw [hx20]; exact hD
      obtain ⟨y21, hy21⟩ : ∃ z : Int32, z = (v1 + 1) := ⟨_, rfl⟩
      replace hf := keep_e hf y21 hy21
      refine lv_iinc (v := y21) (lv' := [(1, .int y21), (0, .ref (a 0))]) hx hb dX8_restart_25 hl (k := 1) rfl (by rw [hy21]; rfl) (by decide) rfl (fun ls hl => ?_)
      refine lv_goto (tgt := 12) hx hb dX8_restart_28 (by decide) ?_
      exact hrec12 x20 y21 H locs ls hf hP hD hS (lv_sub hl [1, 0] rfl)
  have L12 : ∀ (fu : Nat) (x : MSt) (v1 : Int32) (H : Heap) (locs : List Loc) (ls : Array Slot), iterK fu (fX8_restart_12 ) (x, v1) = some res → va_P D vwCl (W_Model cI a x) H → va_D A (W_Model cI a x) → va_S A s.heap H locs → lv_has ls 3 [(0, .ref (a 0)), (1, .int v1)] → W p l e ({ frames := 4, cells := 0, slots := 0, locals := 97 } : Room) s m ([.ref (a 0)] : List Value).toArray below meth c H locs 0 0 (MQ below (QW D (TY cI cV cJ cD) (W_Model cI a res.1) A (some (.int res.2))) (([.ref (a 0)] : List Value).toArray) s 0 0 A) (F0 m 12 ls []) := by
    intro fu
    induction fu with
    | zero =>
      intro x v1 H locs ls hf
      cases hf
    | succ fu ih =>
      intro x v1 H locs ls hf hP hD hS hl
      exact S12 (iterK fu (fX8_restart_12 )) ih x v1 H locs ls hf hP hD hS hl
  have M0 : ∀ (H : Heap) (locs : List Loc) (ls : Array Slot), fX8_restart x = some res → va_P D vwCl (W_Model cI a x) H → va_D A (W_Model cI a x) → va_S A s.heap H locs → lv_has ls 3 [(0, .ref (a 0))] → W p l e ({ frames := 4, cells := 0, slots := 0, locals := 97 } : Room) s m ([.ref (a 0)] : List Value).toArray below meth c H locs 0 0 (MQ below (QW D (TY cI cV cJ cD) (W_Model cI a res.1) A (some (.int res.2))) (([.ref (a 0)] : List Value).toArray) s 0 0 A) (F0 m 0 ls []) := by
    intro H locs ls hf hP hD hS hl
    dsimp only [fX8_restart] at hf
    refine lv_aload_n hx hb dX8_restart_0 rfl (lv_at hl 0 rfl) ?_
    refine lv_iconst (v := 0) hx hb dX8_restart_1 (by decide) ?_
    refine va_put (D := D) (ci := 7) (v := .int 0) (ty := .int) (C := RX8) (T := TX8) (N := 24) hx hb hg in_X8 tyX8 tyX8_ok nmX8 hown hK hP hD hS 0 rfl rfl 23 (by decide) (hg _ w848) (fun _ h9 => h9) rfl (by decide +kernel) rfl rfl (Nat.le_of_ble_eq_true rfl) dX8_restart_2 (fun H locs hP hD hS => ?_)
    obtain ⟨x22, hx22⟩ : ∃ z, z = (mThrown_s x 0) := ⟨_, rfl⟩
    replace hf := keep_e hf x22 hx22
    have hP : va_P D vwCl (W_Model cI a x22) H := by rw [hx22]; exact hP
    have hD : va_D A (W_Model cI a x22) := by rw [hx22]; exact hD
    refine lv_aload_n hx hb dX8_restart_5 rfl (lv_at hl 0 rfl) ?_
    refine lv_iconst (v := 0) hx hb dX8_restart_6 (by decide) ?_
    refine va_put (D := D) (ci := 7) (v := .int 0) (ty := .boolean) (C := RX8) (T := TX8) (N := 24) hx hb hg in_X8 tyX8 tyX8_ok nmX8 hown hK hP hD hS 0 rfl rfl 17 (by decide) (hg _ w842) (fun _ h9 => h9) rfl (by decide +kernel) (by decide +kernel) (by decide +kernel) (Nat.le_of_ble_eq_true rfl) dX8_restart_7 (fun H locs hP hD hS => ?_)
    obtain ⟨x23, hx23⟩ : ∃ z, z = (mIsRewriting_s x22 0) := ⟨_, rfl⟩
    replace hf := keep_e hf x23 hx23
    have hP : va_P D vwCl (W_Model cI a x23) H := by rw [hx23]; exact hP
    have hD : va_D A (W_Model cI a x23) := by rw [hx23]; exact hD
    refine lv_iconst (v := 0) hx hb dX8_restart_10 (by decide) ?_
    refine lv_istore_n (lv' := [(1, .int 0), (0, .ref (a 0))]) hx hb dX8_restart_11 rfl hl (by decide) rfl (fun ls hl => ?_)
    exact L12  FU x23 0 H locs ls hf hP hD hS (lv_sub hl [1, 0] rfl)
  exact M0 s.heap [] ls hf hP hD hS hl
/-! CompactformsModel.rows()I -/
def fX8_rows (x : MSt) : Option (MSt × Int32) := keep (mThrown_s x 0) (fun x1 => some (x1, (mRows x1)))
set_option maxHeartbeats 4000000 in
set_option maxRecDepth 100000 in
theorem met_X8_rows {D : va_G} {cI cV cJ cD : ClassId} (l : Launch) (a : Nat → Nat) (x : MSt) (res : MSt × Int32) (hf : fX8_rows x = some res) : MM l yX8_rows cX8_rows 1 (some .int) { frames := 0, cells := 0, slots := 0, locals := 0 } D (TY cI cV cJ cD) (W_Model cI a x) (W_Model cI a res.1) [.ref (a 0)] (some (.int res.2)) := by
  intro sz
  refine Met.ofW (cc := cX8_rows) (maxL := 1) (ret := (some .int)) (by decide +kernel) rfl ?_
  intro p e s m args below meth c s₁ B hml hv
  obtain ⟨rfl, hsz, hP, hK, hD0, hE⟩ := hv
  have hx := B.exec
  have hb := B.bytes
  have hr := B.returns
  have hts := atoms_spec (ws := .code yX8_rows cX8_rows 1 (some .int) :: GW) B.pre
  have hg : ∀ w ∈ GW, w.before (([.ref (a 0)] : List Value).toArray) s = true := fun w h => hts w (List.mem_cons_of_mem _ h)
  have hown : s.vm.findClass RX8 = some m.cls := findClass_of_methodNamed B.named
  have hlocks := B.notSynchronized
  subst hsz
  have hD := hD0.self (sz := s.heap.size)
  generalize hAe : va_A (W_Model cI a x) s.heap.size = A at hD hE ⊢
  have hA : ∀ q : Nat, s.heap.size ≤ q → A q := fun q h => by rw [← hAe]; exact Or.inr h
  have hS : va_S A s.heap s.heap [] := va_S.rf
  have hl := lv_entry ([.ref (a 0)]) (n := 1) (Nat.le_of_ble_eq_true rfl)
  rw [lg_entry_eq]
  generalize (lg_sl ([.ref (a 0)]) ++ List.replicate (1 - (lg_sl ([.ref (a 0)])).length) Slot.unset).toArray = ls at hl ⊢
  have hl : lv_has ls 1 [(0, .ref (a 0))] := hl
  have M0 : ∀ (H : Heap) (locs : List Loc) (ls : Array Slot), fX8_rows x = some res → va_P D vwCl (W_Model cI a x) H → va_D A (W_Model cI a x) → va_S A s.heap H locs → lv_has ls 1 [(0, .ref (a 0))] → W p l e ({ frames := 0, cells := 0, slots := 0, locals := 0 } : Room) s m ([.ref (a 0)] : List Value).toArray below meth c H locs 0 0 (MQ below (QW D (TY cI cV cJ cD) (W_Model cI a res.1) A (some (.int res.2))) (([.ref (a 0)] : List Value).toArray) s 0 0 A) (F0 m 0 ls []) := by
    intro H locs ls hf hP hD hS hl
    dsimp only [fX8_rows] at hf
    refine lv_aload_n hx hb dX8_rows_0 rfl (lv_at hl 0 rfl) ?_
    refine lv_iconst (v := 0) hx hb dX8_rows_1 (by decide) ?_
    refine va_put (D := D) (ci := 7) (v := .int 0) (ty := .int) (C := RX8) (T := TX8) (N := 24) hx hb hg in_X8 tyX8 tyX8_ok nmX8 hown hK hP hD hS 0 rfl rfl 23 (by decide) (hg _ w848) (fun _ h9 => h9) rfl (by decide +kernel) rfl rfl (Nat.le_of_ble_eq_true rfl) dX8_rows_2 (fun H locs hP hD hS => ?_)
    obtain ⟨x1, hx1⟩ : ∃ z, z = (mThrown_s x 0) := ⟨_, rfl⟩
    replace hf := keep_e hf x1 hx1
    have hP : va_P D vwCl (W_Model cI a x1) H := by rw [hx1]; exact hP
    have hD : va_D A (W_Model cI a x1) := by rw [hx1]; exact hD
    refine lv_aload_n hx hb dX8_rows_5 rfl (lv_at hl 0 rfl) ?_
    refine va_get (D := D) (ci := 7) (v := .int (mRows x1)) (C := RX8) (T := TX8) (N := 24) hx hb hg in_X8 hown hK hP 0 rfl rfl 14 (by decide) (hg _ w839) (fun _ h9 => h9) rfl dX8_rows_6 ?_
    obtain rfl := Option.some.inj hf
    exact W.iret (v := (mRows x1)) hx hb hr (fun t ht hW => ⟨rfl, by rw [ht]; exact hP, va_K.moved hW.alike hK, hD, hS.F ht⟩) hS.2.2 dX8_rows_9 hlocks
  exact M0 s.heap [] ls hf hP hD hS hl
/-! CompactformsModel.typeOf(I)I -/
def fX8_typeOf_13 (x : MSt) (v1 : Int32) (s0 : Int32) : Option (MSt × Int32) := (fX8_can x s0).bind (fun u1 => keep u1.1 (fun x3 => (if u1.2 = 0 then some (x3, 0) else (fX8_typeNow x3 v1).bind (fun u5 => some (x3, u5)))))
def fX8_typeOf (x : MSt) (p1 : Int32) : Option (MSt × Int32) := (fX8_isKey p1).bind (fun u7 => (if u7 = 0 then fX8_typeOf_13 x p1 1 else fX8_typeOf_13 x p1 0))
set_option maxHeartbeats 4000000 in
set_option maxRecDepth 100000 in
theorem met_X8_typeOf {D : va_G} {cI cV cJ cD : ClassId} (l : Launch) (a : Nat → Nat) (x : MSt) (p1 : Int32) (res : MSt × Int32) (hf : fX8_typeOf x p1 = some res) : MM l yX8_typeOf cX8_typeOf 2 (some .int) { frames := 2, cells := 0, slots := 0, locals := 42 } D (TY cI cV cJ cD) (W_Model cI a x) (W_Model cI a res.1) [.ref (a 0), .int p1] (some (.int res.2)) := by
  intro sz
  refine Met.ofW (cc := cX8_typeOf) (maxL := 2) (ret := (some .int)) (by decide +kernel) rfl ?_
  intro p e s m args below meth c s₁ B hml hv
  obtain ⟨rfl, hsz, hP, hK, hD0, hE⟩ := hv
  have hx := B.exec
  have hb := B.bytes
  have hr := B.returns
  have hts := atoms_spec (ws := .code yX8_typeOf cX8_typeOf 2 (some .int) :: GW) B.pre
  have hg : ∀ w ∈ GW, w.before (([.ref (a 0), .int p1] : List Value).toArray) s = true := fun w h => hts w (List.mem_cons_of_mem _ h)
  have hown : s.vm.findClass RX8 = some m.cls := findClass_of_methodNamed B.named
  have hlocks := B.notSynchronized
  subst hsz
  have hD := hD0.self (sz := s.heap.size)
  generalize hAe : va_A (W_Model cI a x) s.heap.size = A at hD hE ⊢
  have hA : ∀ q : Nat, s.heap.size ≤ q → A q := fun q h => by rw [← hAe]; exact Or.inr h
  have hS : va_S A s.heap s.heap [] := va_S.rf
  have hl := lv_entry ([.ref (a 0), .int p1]) (n := 2) (Nat.le_of_ble_eq_true rfl)
  rw [lg_entry_eq]
  generalize (lg_sl ([.ref (a 0), .int p1]) ++ List.replicate (2 - (lg_sl ([.ref (a 0), .int p1])).length) Slot.unset).toArray = ls at hl ⊢
  have hl : lv_has ls 2 [(0, .ref (a 0)), (1, .int p1)] := hl
  have L13 : ∀ (x : MSt) (v1 : Int32) (s0 : Int32) (H : Heap) (locs : List Loc) (ls : Array Slot), fX8_typeOf_13 x v1 s0  = some res → va_P D vwCl (W_Model cI a x) H → va_D A (W_Model cI a x) → va_S A s.heap H locs → lv_has ls 2 [(0, .ref (a 0)), (1, .int v1)] → W p l e ({ frames := 2, cells := 0, slots := 0, locals := 42 } : Room) s m ([.ref (a 0), .int p1] : List Value).toArray below meth c H locs 0 0 (MQ below (QW D (TY cI cV cJ cD) (W_Model cI a res.1) A (some (.int res.2))) (([.ref (a 0), .int p1] : List Value).toArray) s 0 0 A) (F0 m 13 ls [.int s0, .ref (a 0)]) := by
    intro x v1 s0 H locs ls hf hP hD hS hl
    dsimp only [fX8_typeOf_13] at hf
    obtain ⟨u1, hc2, hf⟩ := bind_t hf
    refine k_V (As := [.int s0]) (rest := []) (n := 1) ⟨hx, hb, hml, hown, hts⟩ (met_X8_can l a x s0 u1 hc2) w927 w929 ws28 w9 w930 ⟨rfl, by decide +kernel, by decide +kernel, by decide +kernel⟩ ⟨Nat.le_of_ble_eq_true rfl, Nat.le_of_ble_eq_true rfl⟩ hK hE hP hD hS hA (isC := [0, 1, 2, 3, 4, 5, 6, 7, 8, 9, 10, 11, 12, 13, 14]) (isR := []) (isB := [0, 1, 2, 3, 4, 5, 6, 7, 8, 9, 10, 11, 12, 13, 14]) (ws' := W_Model cI a u1.1) ⟨([] : List Nat).filterMap (fun i : Nat => (W_Model cI a x : va_W)[i]?), rfl, rfl, rfl, rfl, by decide, rfl, rfl⟩ 0 7 rfl rfl rfl rfl hl.1 rfl (Nat.le_of_ble_eq_true rfl) dX8_typeOf_13 ⟨Nat.le_of_ble_eq_true rfl, Nat.le_of_ble_eq_true rfl⟩ (fun H locs hP hD hS => ?_)
    try dsimp only at hf
    refine W.eq (g2 := F0 m 16 ls [.int u1.2]) rfl ?_
    obtain ⟨x3, hx3⟩ : ∃ z, z = u1.1 := ⟨_, rfl⟩
    replace hf := keep_e hf x3 hx3
    have hP : va_P D vwCl (W_Model cI a x3) H := by rw [hx3]; exact hP
    have hD : va_D A (W_Model cI a x3) := by rw [hx3]; exact hD
    refine lv_if_eq (tgt := 27) hx hb dX8_typeOf_16 (by decide) (fun c4 => ?_) (fun c4 => ?_)
    · replace hf := if_t c4 hf
      refine lv_iconst (v := 0) hx hb dX8_typeOf_27 (by decide) ?_
      obtain rfl := Option.some.inj hf
      exact W.iret (v := 0) hx hb hr (fun t ht hW => ⟨rfl, by rw [ht]; exact hP, va_K.moved hW.alike hK, hD, hS.F ht⟩) hS.2.2 dX8_typeOf_28 hlocks
    · replace hf := if_f c4 hf
      refine lv_aload_n hx hb dX8_typeOf_19 rfl (lv_at hl 0 rfl) ?_
      refine lv_iload_n hx hb dX8_typeOf_20 rfl (lv_at hl 1 rfl) ?_
      obtain ⟨u5, hc6, hf⟩ := bind_t hf
      refine k_V (As := [.int v1]) (rest := []) (n := 1) ⟨hx, hb, hml, hown, hts⟩ (met_X8_typeNow l a x3 v1 u5 hc6) w912 w914 ws25 w9 w915 ⟨rfl, by decide +kernel, by decide +kernel, by decide +kernel⟩ ⟨Nat.le_of_ble_eq_true rfl, Nat.le_of_ble_eq_true rfl⟩ hK hE hP hD hS hA (isC := [0, 1, 2, 3, 4, 5, 6, 7, 8, 9, 10, 11, 12, 13, 14]) (isR := []) (isB := [0, 1, 2, 3, 4, 5, 6, 7, 8, 9, 10, 11, 12, 13, 14]) (ws' := W_Model cI a x3) ⟨([] : List Nat).filterMap (fun i : Nat => (W_Model cI a x3 : va_W)[i]?), rfl, rfl, rfl, rfl, by decide, rfl, rfl⟩ 0 7 rfl rfl rfl rfl hl.1 rfl (Nat.le_of_ble_eq_true rfl) dX8_typeOf_21 ⟨Nat.le_of_ble_eq_true rfl, Nat.le_of_ble_eq_true rfl⟩ (fun H locs hP hD hS => ?_)
      try dsimp only at hf
      refine W.eq (g2 := F0 m 24 ls [.int u5]) rfl ?_
      refine lv_goto (tgt := 28) hx hb dX8_typeOf_24 (by decide) ?_
      obtain rfl := Option.some.inj hf
      exact W.iret (v := u5) hx hb hr (fun t ht hW => ⟨rfl, by rw [ht]; exact hP, va_K.moved hW.alike hK, hD, hS.F ht⟩) hS.2.2 dX8_typeOf_28 hlocks
  have M0 : ∀ (H : Heap) (locs : List Loc) (ls : Array Slot), fX8_typeOf x p1 = some res → va_P D vwCl (W_Model cI a x) H → va_D A (W_Model cI a x) → va_S A s.heap H locs → lv_has ls 2 [(0, .ref (a 0)), (1, .int p1)] → W p l e ({ frames := 2, cells := 0, slots := 0, locals := 42 } : Room) s m ([.ref (a 0), .int p1] : List Value).toArray below meth c H locs 0 0 (MQ below (QW D (TY cI cV cJ cD) (W_Model cI a res.1) A (some (.int res.2))) (([.ref (a 0), .int p1] : List Value).toArray) s 0 0 A) (F0 m 0 ls []) := by
    intro H locs ls hf hP hD hS hl
    dsimp only [fX8_typeOf] at hf
    refine lv_aload_n hx hb dX8_typeOf_0 rfl (lv_at hl 0 rfl) ?_
    refine lv_iload_n hx hb dX8_typeOf_1 rfl (lv_at hl 1 rfl) ?_
    obtain ⟨u7, hc8, hf⟩ := bind_t hf
    refine k_S (As := [.int p1]) (rest := [.ref (a 0)]) (n := 1) ⟨hx, hb, hml, hown, hts⟩ (met_X8_isKey l p1 u7 hc8) w906 w907 w9 w908 ⟨by decide +kernel, by decide +kernel, by decide +kernel⟩ ⟨Nat.le_of_ble_eq_true rfl, Nat.le_of_ble_eq_true rfl⟩ hK hE hP hD hS hA (isC := []) (isR := [0, 1, 2, 3, 4, 5, 6, 7, 8, 9, 10, 11, 12, 13, 14]) (isB := [0, 1, 2, 3, 4, 5, 6, 7, 8, 9, 10, 11, 12, 13, 14]) (ws' := W_Model cI a x) ⟨([0, 1, 2, 3, 4, 5, 6, 7, 8, 9, 10, 11, 12, 13, 14] : List Nat).filterMap (fun i : Nat => (W_Model cI a x : va_W)[i]?), rfl, rfl, rfl, rfl, by decide, rfl, rfl⟩ rfl hl.1 rfl (Nat.le_of_ble_eq_true rfl) dX8_typeOf_2 ⟨Nat.le_of_ble_eq_true rfl, Nat.le_of_ble_eq_true rfl⟩ (fun H locs hP hD hS => ?_)
    try dsimp only at hf
    refine W.eq (g2 := F0 m 5 ls [.int u7, .ref (a 0)]) rfl ?_
    refine lv_if_eq (tgt := 12) hx hb dX8_typeOf_5 (by decide) (fun c9 => ?_) (fun c9 => ?_)
    · replace hf := if_t c9 hf
      refine lv_iconst (v := 1) hx hb dX8_typeOf_12 (by decide) ?_
      exact L13 x p1 1 H locs ls hf hP hD hS (lv_sub hl [0, 1] rfl)
    · replace hf := if_f c9 hf
      refine lv_iconst (v := 0) hx hb dX8_typeOf_8 (by decide) ?_
      refine lv_goto (tgt := 13) hx hb dX8_typeOf_9 (by decide) ?_
      exact L13 x p1 0 H locs ls hf hP hD hS (lv_sub hl [0, 1] rfl)
  exact M0 s.heap [] ls hf hP hD hS hl
/-! CompactformsModel.formOf(I)I -/
def fX8_formOf_13 (x : MSt) (v1 : Int32) (s0 : Int32) : Option (MSt × Int32) := (fX8_can x s0).bind (fun u1 => keep u1.1 (fun x3 => (if u1.2 = 0 then some (x3, 0) else (fX8_isThere x3 v1).bind (fun u5 => (if u5 = 0 then some (x3, 0) else chk (inb v1 16) (some (x3, ((mForm x3) (v1).toNatClampNeg))))))))
def fX8_formOf (x : MSt) (p1 : Int32) : Option (MSt × Int32) := (fX8_isKey p1).bind (fun u9 => (if u9 = 0 then fX8_formOf_13 x p1 1 else fX8_formOf_13 x p1 0))
set_option maxHeartbeats 4000000 in
set_option maxRecDepth 100000 in
theorem met_X8_formOf {D : va_G} {cI cV cJ cD : ClassId} (l : Launch) (a : Nat → Nat) (x : MSt) (p1 : Int32) (res : MSt × Int32) (hf : fX8_formOf x p1 = some res) : MM l yX8_formOf cX8_formOf 2 (some .int) { frames := 2, cells := 0, slots := 0, locals := 42 } D (TY cI cV cJ cD) (W_Model cI a x) (W_Model cI a res.1) [.ref (a 0), .int p1] (some (.int res.2)) := by
  intro sz
  refine Met.ofW (cc := cX8_formOf) (maxL := 2) (ret := (some .int)) (by decide +kernel) rfl ?_
  intro p e s m args below meth c s₁ B hml hv
  obtain ⟨rfl, hsz, hP, hK, hD0, hE⟩ := hv
  have hx := B.exec
  have hb := B.bytes
  have hr := B.returns
  have hts := atoms_spec (ws := .code yX8_formOf cX8_formOf 2 (some .int) :: GW) B.pre
  have hg : ∀ w ∈ GW, w.before (([.ref (a 0), .int p1] : List Value).toArray) s = true := fun w h => hts w (List.mem_cons_of_mem _ h)
  have hown : s.vm.findClass RX8 = some m.cls := findClass_of_methodNamed B.named
  have hlocks := B.notSynchronized
  subst hsz
  have hD := hD0.self (sz := s.heap.size)
  generalize hAe : va_A (W_Model cI a x) s.heap.size = A at hD hE ⊢
  have hA : ∀ q : Nat, s.heap.size ≤ q → A q := fun q h => by rw [← hAe]; exact Or.inr h
  have hS : va_S A s.heap s.heap [] := va_S.rf
  have hl := lv_entry ([.ref (a 0), .int p1]) (n := 2) (Nat.le_of_ble_eq_true rfl)
  rw [lg_entry_eq]
  generalize (lg_sl ([.ref (a 0), .int p1]) ++ List.replicate (2 - (lg_sl ([.ref (a 0), .int p1])).length) Slot.unset).toArray = ls at hl ⊢
  have hl : lv_has ls 2 [(0, .ref (a 0)), (1, .int p1)] := hl
  have L13 : ∀ (x : MSt) (v1 : Int32) (s0 : Int32) (H : Heap) (locs : List Loc) (ls : Array Slot), fX8_formOf_13 x v1 s0  = some res → va_P D vwCl (W_Model cI a x) H → va_D A (W_Model cI a x) → va_S A s.heap H locs → lv_has ls 2 [(0, .ref (a 0)), (1, .int v1)] → W p l e ({ frames := 2, cells := 0, slots := 0, locals := 42 } : Room) s m ([.ref (a 0), .int p1] : List Value).toArray below meth c H locs 0 0 (MQ below (QW D (TY cI cV cJ cD) (W_Model cI a res.1) A (some (.int res.2))) (([.ref (a 0), .int p1] : List Value).toArray) s 0 0 A) (F0 m 13 ls [.int s0, .ref (a 0)]) := by
    intro x v1 s0 H locs ls hf hP hD hS hl
    dsimp only [fX8_formOf_13] at hf
    obtain ⟨u1, hc2, hf⟩ := bind_t hf
    refine k_V (As := [.int s0]) (rest := []) (n := 1) ⟨hx, hb, hml, hown, hts⟩ (met_X8_can l a x s0 u1 hc2) w927 w929 ws28 w9 w930 ⟨rfl, by decide +kernel, by decide +kernel, by decide +kernel⟩ ⟨Nat.le_of_ble_eq_true rfl, Nat.le_of_ble_eq_true rfl⟩ hK hE hP hD hS hA (isC := [0, 1, 2, 3, 4, 5, 6, 7, 8, 9, 10, 11, 12, 13, 14]) (isR := []) (isB := [0, 1, 2, 3, 4, 5, 6, 7, 8, 9, 10, 11, 12, 13, 14]) (ws' := W_Model cI a u1.1) ⟨([] : List Nat).filterMap (fun i : Nat => (W_Model cI a x : va_W)[i]?), rfl, rfl, rfl, rfl, by decide, rfl, rfl⟩ 0 7 rfl rfl rfl rfl hl.1 rfl (Nat.le_of_ble_eq_true rfl) dX8_formOf_13 ⟨Nat.le_of_ble_eq_true rfl, Nat.le_of_ble_eq_true rfl⟩ (fun H locs hP hD hS => ?_)
    try dsimp only at hf
    refine W.eq (g2 := F0 m 16 ls [.int u1.2]) rfl ?_
    obtain ⟨x3, hx3⟩ : ∃ z, z = u1.1 := ⟨_, rfl⟩
    replace hf := keep_e hf x3 hx3
    have hP : va_P D vwCl (W_Model cI a x3) H := by rw [hx3]; exact hP
    have hD : va_D A (W_Model cI a x3) := by rw [hx3]; exact hD
    refine lv_if_eq (tgt := 36) hx hb dX8_formOf_16 (by decide) (fun c4 => ?_) (fun c4 => ?_)
    · replace hf := if_t c4 hf
      refine lv_iconst (v := 0) hx hb dX8_formOf_36 (by decide) ?_
      obtain rfl := Option.some.inj hf
      exact W.iret (v := 0) hx hb hr (fun t ht hW => ⟨rfl, by rw [ht]; exact hP, va_K.moved hW.alike hK, hD, hS.F ht⟩) hS.2.2 dX8_formOf_37 hlocks
    · replace hf := if_f c4 hf
      refine lv_aload_n hx hb dX8_formOf_19 rfl (lv_at hl 0 rfl) ?_
      refine lv_iload_n hx hb dX8_formOf_20 rfl (lv_at hl 1 rfl) ?_
      obtain ⟨u5, hc6, hf⟩ := bind_t hf
      refine k_V (As := [.int v1]) (rest := []) (n := 1) ⟨hx, hb, hml, hown, hts⟩ (met_X8_isThere l a x3 v1 u5 hc6) w916 w918 ws26 w9 w919 ⟨rfl, by decide +kernel, by decide +kernel, by decide +kernel⟩ ⟨Nat.le_of_ble_eq_true rfl, Nat.le_of_ble_eq_true rfl⟩ hK hE hP hD hS hA (isC := [0, 1, 2, 3, 4, 5, 6, 7, 8, 9, 10, 11, 12, 13, 14]) (isR := []) (isB := [0, 1, 2, 3, 4, 5, 6, 7, 8, 9, 10, 11, 12, 13, 14]) (ws' := W_Model cI a x3) ⟨([] : List Nat).filterMap (fun i : Nat => (W_Model cI a x3 : va_W)[i]?), rfl, rfl, rfl, rfl, by decide, rfl, rfl⟩ 0 7 rfl rfl rfl rfl hl.1 rfl (Nat.le_of_ble_eq_true rfl) dX8_formOf_21 ⟨Nat.le_of_ble_eq_true rfl, Nat.le_of_ble_eq_true rfl⟩ (fun H locs hP hD hS => ?_)
      try dsimp only at hf
      refine W.eq (g2 := F0 m 24 ls [.int u5]) rfl ?_
      refine lv_if_eq (tgt := 36) hx hb dX8_formOf_24 (by decide) (fun c7 => ?_) (fun c7 => ?_)
      · replace hf := if_t c7 hf
        refine lv_iconst (v := 0) hx hb dX8_formOf_36 (by decide) ?_
        obtain rfl := Option.some.inj hf
        exact W.iret (v := 0) hx hb hr (fun t ht hW => ⟨rfl, by rw [ht]; exact hP, va_K.moved hW.alike hK, hD, hS.F ht⟩) hS.2.2 dX8_formOf_37 hlocks
      · replace hf := if_f c7 hf
        refine lv_aload_n hx hb dX8_formOf_27 rfl (lv_at hl 0 rfl) ?_
        refine va_get (D := D) (ci := 7) (v := .ref (a 3)) (C := RX8) (T := TX8) (N := 24) hx hb hg in_X8 hown hK hP 0 rfl rfl 4 (by decide) (hg _ w829) (fun _ h9 => h9) rfl dX8_formOf_28 ?_
        refine lv_iload_n hx hb dX8_formOf_31 rfl (lv_at hl 1 rfl) ?_
        obtain ⟨hi8, hf⟩ := chk_t hf
        refine va_iald hx hb hK hP 3 0 rfl rfl (inb_in hi8) dX8_formOf_32 ?_
        refine lv_goto (tgt := 37) hx hb dX8_formOf_33 (by decide) ?_
        obtain rfl := Option.some.inj hf
        exact W.iret (v := ((mForm x3) (v1).toNatClampNeg)) hx hb hr (fun t ht hW => ⟨rfl, by rw [ht]; exact hP, va_K.moved hW.alike hK, hD, hS.F ht⟩) hS.2.2 dX8_formOf_37 hlocks
  have M0 : ∀ (H : Heap) (locs : List Loc) (ls : Array Slot), fX8_formOf x p1 = some res → va_P D vwCl (W_Model cI a x) H → va_D A (W_Model cI a x) → va_S A s.heap H locs → lv_has ls 2 [(0, .ref (a 0)), (1, .int p1)] → W p l e ({ frames := 2, cells := 0, slots := 0, locals := 42 } : Room) s m ([.ref (a 0), .int p1] : List Value).toArray below meth c H locs 0 0 (MQ below (QW D (TY cI cV cJ cD) (W_Model cI a res.1) A (some (.int res.2))) (([.ref (a 0), .int p1] : List Value).toArray) s 0 0 A) (F0 m 0 ls []) := by
    intro H locs ls hf hP hD hS hl
    dsimp only [fX8_formOf] at hf
    refine lv_aload_n hx hb dX8_formOf_0 rfl (lv_at hl 0 rfl) ?_
    refine lv_iload_n hx hb dX8_formOf_1 rfl (lv_at hl 1 rfl) ?_
    obtain ⟨u9, hc10, hf⟩ := bind_t hf
    refine k_S (As := [.int p1]) (rest := [.ref (a 0)]) (n := 1) ⟨hx, hb, hml, hown, hts⟩ (met_X8_isKey l p1 u9 hc10) w906 w907 w9 w908 ⟨by decide +kernel, by decide +kernel, by decide +kernel⟩ ⟨Nat.le_of_ble_eq_true rfl, Nat.le_of_ble_eq_true rfl⟩ hK hE hP hD hS hA (isC := []) (isR := [0, 1, 2, 3, 4, 5, 6, 7, 8, 9, 10, 11, 12, 13, 14]) (isB := [0, 1, 2, 3, 4, 5, 6, 7, 8, 9, 10, 11, 12, 13, 14]) (ws' := W_Model cI a x) ⟨([0, 1, 2, 3, 4, 5, 6, 7, 8, 9, 10, 11, 12, 13, 14] : List Nat).filterMap (fun i : Nat => (W_Model cI a x : va_W)[i]?), rfl, rfl, rfl, rfl, by decide, rfl, rfl⟩ rfl hl.1 rfl (Nat.le_of_ble_eq_true rfl) dX8_formOf_2 ⟨Nat.le_of_ble_eq_true rfl, Nat.le_of_ble_eq_true rfl⟩ (fun H locs hP hD hS => ?_)
    try dsimp only at hf
    refine W.eq (g2 := F0 m 5 ls [.int u9, .ref (a 0)]) rfl ?_
    refine lv_if_eq (tgt := 12) hx hb dX8_formOf_5 (by decide) (fun c11 => ?_) (fun c11 => ?_)
    · replace hf := if_t c11 hf
      refine lv_iconst (v := 1) hx hb dX8_formOf_12 (by decide) ?_
      exact L13 x p1 1 H locs ls hf hP hD hS (lv_sub hl [0, 1] rfl)
    · replace hf := if_f c11 hf
      refine lv_iconst (v := 0) hx hb dX8_formOf_8 (by decide) ?_
      refine lv_goto (tgt := 13) hx hb dX8_formOf_9 (by decide) ?_
      exact L13 x p1 0 H locs ls hf hP hD hS (lv_sub hl [0, 1] rfl)
  exact M0 s.heap [] ls hf hP hD hS hl
/-! CompactformsModel.size(I)I -/
def fX8_size_13 (x : MSt) (v1 : Int32) (s0 : Int32) : Option (MSt × Int32) := (fX8_can x s0).bind (fun u1 => keep u1.1 (fun x3 => (if u1.2 = 0 then some (x3, 0) else (fX8_isThere x3 v1).bind (fun u5 => (if u5 = 0 then some (x3, 0) else chk (inb v1 16) (some (x3, ((mSize x3) (v1).toNatClampNeg))))))))
def fX8_size (x : MSt) (p1 : Int32) : Option (MSt × Int32) := (fX8_isKey p1).bind (fun u9 => (if u9 = 0 then fX8_size_13 x p1 1 else fX8_size_13 x p1 0))
set_option maxHeartbeats 4000000 in
set_option maxRecDepth 100000 in
theorem met_X8_size {D : va_G} {cI cV cJ cD : ClassId} (l : Launch) (a : Nat → Nat) (x : MSt) (p1 : Int32) (res : MSt × Int32) (hf : fX8_size x p1 = some res) : MM l yX8_size cX8_size 2 (some .int) { frames := 2, cells := 0, slots := 0, locals := 42 } D (TY cI cV cJ cD) (W_Model cI a x) (W_Model cI a res.1) [.ref (a 0), .int p1] (some (.int res.2)) := by
  intro sz
  refine Met.ofW (cc := cX8_size) (maxL := 2) (ret := (some .int)) (by decide +kernel) rfl ?_
  intro p e s m args below meth c s₁ B hml hv
  obtain ⟨rfl, hsz, hP, hK, hD0, hE⟩ := hv
  have hx := B.exec
  have hb := B.bytes
  have hr := B.returns
  have hts := atoms_spec (ws := .code yX8_size cX8_size 2 (some .int) :: GW) B.pre
  have hg : ∀ w ∈ GW, w.before (([.ref (a 0), .int p1] : List Value).toArray) s = true := fun w h => hts w (List.mem_cons_of_mem _ h)
  have hown : s.vm.findClass RX8 = some m.cls := findClass_of_methodNamed B.named
  have hlocks := B.notSynchronized
  subst hsz
  have hD := hD0.self (sz := s.heap.size)
  generalize hAe : va_A (W_Model cI a x) s.heap.size = A at hD hE ⊢
  have hA : ∀ q : Nat, s.heap.size ≤ q → A q := fun q h => by rw [← hAe]; exact Or.inr h
  have hS : va_S A s.heap s.heap [] := va_S.rf
  have hl := lv_entry ([.ref (a 0), .int p1]) (n := 2) (Nat.le_of_ble_eq_true rfl)
  rw [lg_entry_eq]
  generalize (lg_sl ([.ref (a 0), .int p1]) ++ List.replicate (2 - (lg_sl ([.ref (a 0), .int p1])).length) Slot.unset).toArray = ls at hl ⊢
  have hl : lv_has ls 2 [(0, .ref (a 0)), (1, .int p1)] := hl
  have L13 : ∀ (x : MSt) (v1 : Int32) (s0 : Int32) (H : Heap) (locs : List Loc) (ls : Array Slot), fX8_size_13 x v1 s0  = some res → va_P D vwCl (W_Model cI a x) H → va_D A (W_Model cI a x) → va_S A s.heap H locs → lv_has ls 2 [(0, .ref (a 0)), (1, .int v1)] → W p l e ({ frames := 2, cells := 0, slots := 0, locals := 42 } : Room) s m ([.ref (a 0), .int p1] : List Value).toArray below meth c H locs 0 0 (MQ below (QW D (TY cI cV cJ cD) (W_Model cI a res.1) A (some (.int res.2))) (([.ref (a 0), .int p1] : List Value).toArray) s 0 0 A) (F0 m 13 ls [.int s0, .ref (a 0)]) := by
    intro x v1 s0 H locs ls hf hP hD hS hl
    dsimp only [fX8_size_13] at hf
    obtain ⟨u1, hc2, hf⟩ := bind_t hf
    refine k_V (As := [.int s0]) (rest := []) (n := 1) ⟨hx, hb, hml, hown, hts⟩ (met_X8_can l a x s0 u1 hc2) w927 w929 ws28 w9 w930 ⟨rfl, by decide +kernel, by decide +kernel, by decide +kernel⟩ ⟨Nat.le_of_ble_eq_true rfl, Nat.le_of_ble_eq_true rfl⟩ hK hE hP hD hS hA (isC := [0, 1, 2, 3, 4, 5, 6, 7, 8, 9, 10, 11, 12, 13, 14]) (isR := []) (isB := [0, 1, 2, 3, 4, 5, 6, 7, 8, 9, 10, 11, 12, 13, 14]) (ws' := W_Model cI a u1.1) ⟨([] : List Nat).filterMap (fun i : Nat => (W_Model cI a x : va_W)[i]?), rfl, rfl, rfl, rfl, by decide, rfl, rfl⟩ 0 7 rfl rfl rfl rfl hl.1 rfl (Nat.le_of_ble_eq_true rfl) dX8_size_13 ⟨Nat.le_of_ble_eq_true rfl, Nat.le_of_ble_eq_true rfl⟩ (fun H locs hP hD hS => ?_)
    try dsimp only at hf
    refine W.eq (g2 := F0 m 16 ls [.int u1.2]) rfl ?_
    obtain ⟨x3, hx3⟩ : ∃ z, z = u1.1 := ⟨_, rfl⟩
    replace hf := keep_e hf x3 hx3
    have hP : va_P D vwCl (W_Model cI a x3) H := by rw [hx3]; exact hP
    have hD : va_D A (W_Model cI a x3) := by rw [hx3]; exact hD
    refine lv_if_eq (tgt := 36) hx hb dX8_size_16 (by decide) (fun c4 => ?_) (fun c4 => ?_)
    · replace hf := if_t c4 hf
      refine lv_iconst (v := 0) hx hb dX8_size_36 (by decide) ?_
      obtain rfl := Option.some.inj hf
      exact W.iret (v := 0) hx hb hr (fun t ht hW => ⟨rfl, by rw [ht]; exact hP, va_K.moved hW.alike hK, hD, hS.F ht⟩) hS.2.2 dX8_size_37 hlocks
    · replace hf := if_f c4 hf
      refine lv_aload_n hx hb dX8_size_19 rfl (lv_at hl 0 rfl) ?_
      refine lv_iload_n hx hb dX8_size_20 rfl (lv_at hl 1 rfl) ?_
      obtain ⟨u5, hc6, hf⟩ := bind_t hf
      refine k_V (As := [.int v1]) (rest := []) (n := 1) ⟨hx, hb, hml, hown, hts⟩ (met_X8_isThere l a x3 v1 u5 hc6) w916 w918 ws26 w9 w919 ⟨rfl, by decide +kernel, by decide +kernel, by decide +kernel⟩ ⟨Nat.le_of_ble_eq_true rfl, Nat.le_of_ble_eq_true rfl⟩ hK hE hP hD hS hA (isC := [0, 1, 2, 3, 4, 5, 6, 7, 8, 9, 10, 11, 12, 13, 14]) (isR := []) (isB := [0, 1, 2, 3, 4, 5, 6, 7, 8, 9, 10, 11, 12, 13, 14]) (ws' := W_Model cI a x3) ⟨([] : List Nat).filterMap (fun i : Nat => (W_Model cI a x3 : va_W)[i]?), rfl, rfl, rfl, rfl, by decide, rfl, rfl⟩ 0 7 rfl rfl rfl rfl hl.1 rfl (Nat.le_of_ble_eq_true rfl) dX8_size_21 ⟨Nat.le_of_ble_eq_true rfl, Nat.le_of_ble_eq_true rfl⟩ (fun H locs hP hD hS => ?_)
      try dsimp only at hf
      refine W.eq (g2 := F0 m 24 ls [.int u5]) rfl ?_
      refine lv_if_eq (tgt := 36) hx hb dX8_size_24 (by decide) (fun c7 => ?_) (fun c7 => ?_)
      · replace hf := if_t c7 hf
        refine lv_iconst (v := 0) hx hb dX8_size_36 (by decide) ?_
        obtain rfl := Option.some.inj hf
        exact W.iret (v := 0) hx hb hr (fun t ht hW => ⟨rfl, by rw [ht]; exact hP, va_K.moved hW.alike hK, hD, hS.F ht⟩) hS.2.2 dX8_size_37 hlocks
      · replace hf := if_f c7 hf
        refine lv_aload_n hx hb dX8_size_27 rfl (lv_at hl 0 rfl) ?_
        refine va_get (D := D) (ci := 7) (v := .ref (a 4)) (C := RX8) (T := TX8) (N := 24) hx hb hg in_X8 hown hK hP 0 rfl rfl 5 (by decide) (hg _ w830) (fun _ h9 => h9) rfl dX8_size_28 ?_
        refine lv_iload_n hx hb dX8_size_31 rfl (lv_at hl 1 rfl) ?_
        obtain ⟨hi8, hf⟩ := chk_t hf
        refine va_iald hx hb hK hP 4 0 rfl rfl (inb_in hi8) dX8_size_32 ?_
        refine lv_goto (tgt := 37) hx hb dX8_size_33 (by decide) ?_
        obtain rfl := Option.some.inj hf
        exact W.iret (v := ((mSize x3) (v1).toNatClampNeg)) hx hb hr (fun t ht hW => ⟨rfl, by rw [ht]; exact hP, va_K.moved hW.alike hK, hD, hS.F ht⟩) hS.2.2 dX8_size_37 hlocks
  have M0 : ∀ (H : Heap) (locs : List Loc) (ls : Array Slot), fX8_size x p1 = some res → va_P D vwCl (W_Model cI a x) H → va_D A (W_Model cI a x) → va_S A s.heap H locs → lv_has ls 2 [(0, .ref (a 0)), (1, .int p1)] → W p l e ({ frames := 2, cells := 0, slots := 0, locals := 42 } : Room) s m ([.ref (a 0), .int p1] : List Value).toArray below meth c H locs 0 0 (MQ below (QW D (TY cI cV cJ cD) (W_Model cI a res.1) A (some (.int res.2))) (([.ref (a 0), .int p1] : List Value).toArray) s 0 0 A) (F0 m 0 ls []) := by
    intro H locs ls hf hP hD hS hl
    dsimp only [fX8_size] at hf
    refine lv_aload_n hx hb dX8_size_0 rfl (lv_at hl 0 rfl) ?_
    refine lv_iload_n hx hb dX8_size_1 rfl (lv_at hl 1 rfl) ?_
    obtain ⟨u9, hc10, hf⟩ := bind_t hf
    refine k_S (As := [.int p1]) (rest := [.ref (a 0)]) (n := 1) ⟨hx, hb, hml, hown, hts⟩ (met_X8_isKey l p1 u9 hc10) w906 w907 w9 w908 ⟨by decide +kernel, by decide +kernel, by decide +kernel⟩ ⟨Nat.le_of_ble_eq_true rfl, Nat.le_of_ble_eq_true rfl⟩ hK hE hP hD hS hA (isC := []) (isR := [0, 1, 2, 3, 4, 5, 6, 7, 8, 9, 10, 11, 12, 13, 14]) (isB := [0, 1, 2, 3, 4, 5, 6, 7, 8, 9, 10, 11, 12, 13, 14]) (ws' := W_Model cI a x) ⟨([0, 1, 2, 3, 4, 5, 6, 7, 8, 9, 10, 11, 12, 13, 14] : List Nat).filterMap (fun i : Nat => (W_Model cI a x : va_W)[i]?), rfl, rfl, rfl, rfl, by decide, rfl, rfl⟩ rfl hl.1 rfl (Nat.le_of_ble_eq_true rfl) dX8_size_2 ⟨Nat.le_of_ble_eq_true rfl, Nat.le_of_ble_eq_true rfl⟩ (fun H locs hP hD hS => ?_)
    try dsimp only at hf
    refine W.eq (g2 := F0 m 5 ls [.int u9, .ref (a 0)]) rfl ?_
    refine lv_if_eq (tgt := 12) hx hb dX8_size_5 (by decide) (fun c11 => ?_) (fun c11 => ?_)
    · replace hf := if_t c11 hf
      refine lv_iconst (v := 1) hx hb dX8_size_12 (by decide) ?_
      exact L13 x p1 1 H locs ls hf hP hD hS (lv_sub hl [0, 1] rfl)
    · replace hf := if_f c11 hf
      refine lv_iconst (v := 0) hx hb dX8_size_8 (by decide) ?_
      refine lv_goto (tgt := 13) hx hb dX8_size_9 (by decide) ?_
      exact L13 x p1 0 H locs ls hf hP hD hS (lv_sub hl [0, 1] rfl)
  exact M0 s.heap [] ls hf hP hD hS hl
/-! CompactformsModel.valueAt(II)I -/
def fX8_valueAt_47 (x : MSt) (v1 : Int32) (v2 : Int32) (s0 : Int32) : Option (MSt × Int32) := (fX8_can x s0).bind (fun u1 => keep u1.1 (fun x3 => (if u1.2 = 0 then some (x3, 0) else chk (inb ((40 * v1) + v2) 640) (some (x3, ((mValues x3) (((40 * v1) + v2)).toNatClampNeg))))))
def fX8_valueAt_36 (x : MSt) (v1 : Int32) (v2 : Int32) (s0 : Int32) : Option (MSt × Int32) := (if s0 = 0 then fX8_valueAt_47 x v1 v2 1 else fX8_valueAt_47 x v1 v2 0)
def fX8_valueAt_35 (x : MSt) (v1 : Int32) (v2 : Int32) : Option (MSt × Int32) := fX8_valueAt_36 x v1 v2 0
def fX8_valueAt (x : MSt) (p1 : Int32) (p2 : Int32) : Option (MSt × Int32) := (fX8_isKey p1).bind (fun u7 => (if u7 = 0 then fX8_valueAt_35 x p1 p2 else (fX8_isThere x p1).bind (fun u10 => (if u10 = 0 then fX8_valueAt_35 x p1 p2 else chk (inb p1 16) ((fX8_isIn p2 0 (((mSize x) (p1).toNatClampNeg) - 1)).bind (fun u14 => (if u14 = 0 then fX8_valueAt_35 x p1 p2 else fX8_valueAt_36 x p1 p2 1)))))))
set_option maxHeartbeats 4000000 in
set_option maxRecDepth 100000 in
theorem met_X8_valueAt {D : va_G} {cI cV cJ cD : ClassId} (l : Launch) (a : Nat → Nat) (x : MSt) (p1 : Int32) (p2 : Int32) (res : MSt × Int32) (hf : fX8_valueAt x p1 p2 = some res) : MM l yX8_valueAt cX8_valueAt 4 (some .int) { frames := 2, cells := 0, slots := 0, locals := 42 } D (TY cI cV cJ cD) (W_Model cI a x) (W_Model cI a res.1) [.ref (a 0), .int p1, .int p2] (some (.int res.2)) := by
  intro sz
  refine Met.ofW (cc := cX8_valueAt) (maxL := 4) (ret := (some .int)) (by decide +kernel) rfl ?_
  intro p e s m args below meth c s₁ B hml hv
  obtain ⟨rfl, hsz, hP, hK, hD0, hE⟩ := hv
  have hx := B.exec
  have hb := B.bytes
  have hr := B.returns
  have hts := atoms_spec (ws := .code yX8_valueAt cX8_valueAt 4 (some .int) :: GW) B.pre
  have hg : ∀ w ∈ GW, w.before (([.ref (a 0), .int p1, .int p2] : List Value).toArray) s = true := fun w h => hts w (List.mem_cons_of_mem _ h)
  have hown : s.vm.findClass RX8 = some m.cls := findClass_of_methodNamed B.named
  have hlocks := B.notSynchronized
  subst hsz
  have hD := hD0.self (sz := s.heap.size)
  generalize hAe : va_A (W_Model cI a x) s.heap.size = A at hD hE ⊢
  have hA : ∀ q : Nat, s.heap.size ≤ q → A q := fun q h => by rw [← hAe]; exact Or.inr h
  have hS : va_S A s.heap s.heap [] := va_S.rf
  have hl := lv_entry ([.ref (a 0), .int p1, .int p2]) (n := 4) (Nat.le_of_ble_eq_true rfl)
  rw [lg_entry_eq]
  generalize (lg_sl ([.ref (a 0), .int p1, .int p2]) ++ List.replicate (4 - (lg_sl ([.ref (a 0), .int p1, .int p2])).length) Slot.unset).toArray = ls at hl ⊢
  have hl : lv_has ls 4 [(0, .ref (a 0)), (1, .int p1), (2, .int p2)] := hl
  have L47 : ∀ (x : MSt) (v1 : Int32) (v2 : Int32) (s0 : Int32) (H : Heap) (locs : List Loc) (ls : Array Slot), fX8_valueAt_47 x v1 v2 s0  = some res → va_P D vwCl (W_Model cI a x) H → va_D A (W_Model cI a x) → va_S A s.heap H locs → lv_has ls 4 [(0, .ref (a 0)), (1, .int v1), (2, .int v2)] → W p l e ({ frames := 2, cells := 0, slots := 0, locals := 42 } : Room) s m ([.ref (a 0), .int p1, .int p2] : List Value).toArray below meth c H locs 0 0 (MQ below (QW D (TY cI cV cJ cD) (W_Model cI a res.1) A (some (.int res.2))) (([.ref (a 0), .int p1, .int p2] : List Value).toArray) s 0 0 A) (F0 m 47 ls [.int s0, .ref (a 0)]) := by
    intro x v1 v2 s0 H locs ls hf hP hD hS hl
    dsimp only [fX8_valueAt_47] at hf
    obtain ⟨u1, hc2, hf⟩ := bind_t hf
    refine k_V (As := [.int s0]) (rest := []) (n := 1) ⟨hx, hb, hml, hown, hts⟩ (met_X8_can l a x s0 u1 hc2) w927 w929 ws28 w9 w930 ⟨rfl, by decide +kernel, by decide +kernel, by decide +kernel⟩ ⟨Nat.le_of_ble_eq_true rfl, Nat.le_of_ble_eq_true rfl⟩ hK hE hP hD hS hA (isC := [0, 1, 2, 3, 4, 5, 6, 7, 8, 9, 10, 11, 12, 13, 14]) (isR := []) (isB := [0, 1, 2, 3, 4, 5, 6, 7, 8, 9, 10, 11, 12, 13, 14]) (ws' := W_Model cI a u1.1) ⟨([] : List Nat).filterMap (fun i : Nat => (W_Model cI a x : va_W)[i]?), rfl, rfl, rfl, rfl, by decide, rfl, rfl⟩ 0 7 rfl rfl rfl rfl hl.1 rfl (Nat.le_of_ble_eq_true rfl) dX8_valueAt_47 ⟨Nat.le_of_ble_eq_true rfl, Nat.le_of_ble_eq_true rfl⟩ (fun H locs hP hD hS => ?_)
    try dsimp only at hf
    refine W.eq (g2 := F0 m 50 ls [.int u1.2]) rfl ?_
    obtain ⟨x3, hx3⟩ : ∃ z, z = u1.1 := ⟨_, rfl⟩
    replace hf := keep_e hf x3 hx3
    have hP : va_P D vwCl (W_Model cI a x3) H := by rw [hx3]; exact hP
    have hD : va_D A (W_Model cI a x3) := by rw [hx3]; exact hD
    refine lv_if_eq (tgt := 67) hx hb dX8_valueAt_50 (by decide) (fun c4 => ?_) (fun c4 => ?_)
    · replace hf := if_t c4 hf
      refine lv_iconst (v := 0) hx hb dX8_valueAt_67 (by decide) ?_
      obtain rfl := Option.some.inj hf
      exact W.iret (v := 0) hx hb hr (fun t ht hW => ⟨rfl, by rw [ht]; exact hP, va_K.moved hW.alike hK, hD, hS.F ht⟩) hS.2.2 dX8_valueAt_68 hlocks
    · replace hf := if_f c4 hf
      refine lv_aload_n hx hb dX8_valueAt_53 rfl (lv_at hl 0 rfl) ?_
      refine va_get (D := D) (ci := 7) (v := .ref (a 6)) (C := RX8) (T := TX8) (N := 24) hx hb hg in_X8 hown hK hP 0 rfl rfl 7 (by decide) (hg _ w832) (fun _ h9 => h9) rfl dX8_valueAt_54 ?_
      refine lv_bipush (v := 40) hx hb dX8_valueAt_57 (by decide) ?_
      refine lv_iload_n hx hb dX8_valueAt_59 rfl (lv_at hl 1 rfl) ?_
      refine lv_imul hx hb dX8_valueAt_60 ?_
      refine lv_iload_n hx hb dX8_valueAt_61 rfl (lv_at hl 2 rfl) ?_
      refine lv_iadd hx hb dX8_valueAt_62 ?_
      obtain ⟨hi5, hf⟩ := chk_t hf
      refine va_iald hx hb hK hP 6 0 rfl rfl (inb_in hi5) dX8_valueAt_63 ?_
      refine lv_goto (tgt := 68) hx hb dX8_valueAt_64 (by decide) ?_
      obtain rfl := Option.some.inj hf
      exact W.iret (v := ((mValues x3) (((40 * v1) + v2)).toNatClampNeg)) hx hb hr (fun t ht hW => ⟨rfl, by rw [ht]; exact hP, va_K.moved hW.alike hK, hD, hS.F ht⟩) hS.2.2 dX8_valueAt_68 hlocks
  have L36 : ∀ (x : MSt) (v1 : Int32) (v2 : Int32) (s0 : Int32) (H : Heap) (locs : List Loc) (ls : Array Slot), fX8_valueAt_36 x v1 v2 s0  = some res → va_P D vwCl (W_Model cI a x) H → va_D A (W_Model cI a x) → va_S A s.heap H locs → lv_has ls 4 [(0, .ref (a 0)), (1, .int v1), (2, .int v2)] → W p l e ({ frames := 2, cells := 0, slots := 0, locals := 42 } : Room) s m ([.ref (a 0), .int p1, .int p2] : List Value).toArray below meth c H locs 0 0 (MQ below (QW D (TY cI cV cJ cD) (W_Model cI a res.1) A (some (.int res.2))) (([.ref (a 0), .int p1, .int p2] : List Value).toArray) s 0 0 A) (F0 m 36 ls [.int s0]) := by
    intro x v1 v2 s0 H locs ls hf hP hD hS hl
    dsimp only [fX8_valueAt_36] at hf
    refine lv_istore_n (lv' := [(3, .int s0), (0, .ref (a 0)), (1, .int v1), (2, .int v2)]) hx hb dX8_valueAt_36 rfl hl (by decide) rfl (fun ls hl => ?_)
    refine lv_aload_n hx hb dX8_valueAt_37 rfl (lv_at hl 1 rfl) ?_
    refine lv_iload_n hx hb dX8_valueAt_38 rfl (lv_at hl 0 rfl) ?_
    refine lv_if_eq (tgt := 46) hx hb dX8_valueAt_39 (by decide) (fun c6 => ?_) (fun c6 => ?_)
    · replace hf := if_t c6 hf
      refine lv_iconst (v := 1) hx hb dX8_valueAt_46 (by decide) ?_
      exact L47 x v1 v2 1 H locs ls hf hP hD hS (lv_sub hl [1, 2, 3] rfl)
    · replace hf := if_f c6 hf
      refine lv_iconst (v := 0) hx hb dX8_valueAt_42 (by decide) ?_
      refine lv_goto (tgt := 47) hx hb dX8_valueAt_43 (by decide) ?_
      exact L47 x v1 v2 0 H locs ls hf hP hD hS (lv_sub hl [1, 2, 3] rfl)
  have L35 : ∀ (x : MSt) (v1 : Int32) (v2 : Int32) (H : Heap) (locs : List Loc) (ls : Array Slot), fX8_valueAt_35 x v1 v2  = some res → va_P D vwCl (W_Model cI a x) H → va_D A (W_Model cI a x) → va_S A s.heap H locs → lv_has ls 4 [(0, .ref (a 0)), (1, .int v1), (2, .int v2)] → W p l e ({ frames := 2, cells := 0, slots := 0, locals := 42 } : Room) s m ([.ref (a 0), .int p1, .int p2] : List Value).toArray below meth c H locs 0 0 (MQ below (QW D (TY cI cV cJ cD) (W_Model cI a res.1) A (some (.int res.2))) (([.ref (a 0), .int p1, .int p2] : List Value).toArray) s 0 0 A) (F0 m 35 ls []) := by
    intro x v1 v2 H locs ls hf hP hD hS hl
    dsimp only [fX8_valueAt_35] at hf
    refine lv_iconst (v := 0) hx hb dX8_valueAt_35 (by decide) ?_
    exact L36 x v1 v2 0 H locs ls hf hP hD hS (lv_sub hl [0, 1, 2] rfl)
  have M0 : ∀ (H : Heap) (locs : List Loc) (ls : Array Slot), fX8_valueAt x p1 p2 = some res → va_P D vwCl (W_Model cI a x) H → va_D A (W_Model cI a x) → va_S A s.heap H locs → lv_has ls 4 [(0, .ref (a 0)), (1, .int p1), (2, .int p2)] → W p l e ({ frames := 2, cells := 0, slots := 0, locals := 42 } : Room) s m ([.ref (a 0), .int p1, .int p2] : List Value).toArray below meth c H locs 0 0 (MQ below (QW D (TY cI cV cJ cD) (W_Model cI a res.1) A (some (.int res.2))) (([.ref (a 0), .int p1, .int p2] : List Value).toArray) s 0 0 A) (F0 m 0 ls []) := by
    intro H locs ls hf hP hD hS hl
    dsimp only [fX8_valueAt] at hf
    refine lv_iload_n hx hb dX8_valueAt_0 rfl (lv_at hl 1 rfl) ?_
    obtain ⟨u7, hc8, hf⟩ := bind_t hf
    refine k_S (As := [.int p1]) (rest := []) (n := 1) ⟨hx, hb, hml, hown, hts⟩ (met_X8_isKey l p1 u7 hc8) w906 w907 w9 w908 ⟨by decide +kernel, by decide +kernel, by decide +kernel⟩ ⟨Nat.le_of_ble_eq_true rfl, Nat.le_of_ble_eq_true rfl⟩ hK hE hP hD hS hA (isC := []) (isR := [0, 1, 2, 3, 4, 5, 6, 7, 8, 9, 10, 11, 12, 13, 14]) (isB := [0, 1, 2, 3, 4, 5, 6, 7, 8, 9, 10, 11, 12, 13, 14]) (ws' := W_Model cI a x) ⟨([0, 1, 2, 3, 4, 5, 6, 7, 8, 9, 10, 11, 12, 13, 14] : List Nat).filterMap (fun i : Nat => (W_Model cI a x : va_W)[i]?), rfl, rfl, rfl, rfl, by decide, rfl, rfl⟩ rfl hl.1 rfl (Nat.le_of_ble_eq_true rfl) dX8_valueAt_1 ⟨Nat.le_of_ble_eq_true rfl, Nat.le_of_ble_eq_true rfl⟩ (fun H locs hP hD hS => ?_)
    try dsimp only at hf
    refine W.eq (g2 := F0 m 4 ls [.int u7]) rfl ?_
    refine lv_if_eq (tgt := 35) hx hb dX8_valueAt_4 (by decide) (fun c9 => ?_) (fun c9 => ?_)
    · replace hf := if_t c9 hf
      exact L35 x p1 p2 H locs ls hf hP hD hS (lv_sub hl [0, 1, 2] rfl)
    · replace hf := if_f c9 hf
      refine lv_aload_n hx hb dX8_valueAt_7 rfl (lv_at hl 0 rfl) ?_
      refine lv_iload_n hx hb dX8_valueAt_8 rfl (lv_at hl 1 rfl) ?_
      obtain ⟨u10, hc11, hf⟩ := bind_t hf
      refine k_V (As := [.int p1]) (rest := []) (n := 1) ⟨hx, hb, hml, hown, hts⟩ (met_X8_isThere l a x p1 u10 hc11) w916 w918 ws26 w9 w919 ⟨rfl, by decide +kernel, by decide +kernel, by decide +kernel⟩ ⟨Nat.le_of_ble_eq_true rfl, Nat.le_of_ble_eq_true rfl⟩ hK hE hP hD hS hA (isC := [0, 1, 2, 3, 4, 5, 6, 7, 8, 9, 10, 11, 12, 13, 14]) (isR := []) (isB := [0, 1, 2, 3, 4, 5, 6, 7, 8, 9, 10, 11, 12, 13, 14]) (ws' := W_Model cI a x) ⟨([] : List Nat).filterMap (fun i : Nat => (W_Model cI a x : va_W)[i]?), rfl, rfl, rfl, rfl, by decide, rfl, rfl⟩ 0 7 rfl rfl rfl rfl hl.1 rfl (Nat.le_of_ble_eq_true rfl) dX8_valueAt_9 ⟨Nat.le_of_ble_eq_true rfl, Nat.le_of_ble_eq_true rfl⟩ (fun H locs hP hD hS => ?_)
      try dsimp only at hf
      refine W.eq (g2 := F0 m 12 ls [.int u10]) rfl ?_
      refine lv_if_eq (tgt := 35) hx hb dX8_valueAt_12 (by decide) (fun c12 => ?_) (fun c12 => ?_)
      · replace hf := if_t c12 hf
        exact L35 x p1 p2 H locs ls hf hP hD hS (lv_sub hl [0, 1, 2] rfl)
      · replace hf := if_f c12 hf
        refine lv_iload_n hx hb dX8_valueAt_15 rfl (lv_at hl 2 rfl) ?_
        refine lv_iconst (v := 0) hx hb dX8_valueAt_16 (by decide) ?_
        refine lv_aload_n hx hb dX8_valueAt_17 rfl (lv_at hl 0 rfl) ?_
        refine va_get (D := D) (ci := 7) (v := .ref (a 4)) (C := RX8) (T := TX8) (N := 24) hx hb hg in_X8 hown hK hP 0 rfl rfl 5 (by decide) (hg _ w830) (fun _ h9 => h9) rfl dX8_valueAt_18 ?_
        refine lv_iload_n hx hb dX8_valueAt_21 rfl (lv_at hl 1 rfl) ?_
        obtain ⟨hi13, hf⟩ := chk_t hf
        refine va_iald hx hb hK hP 4 0 rfl rfl (inb_in hi13) dX8_valueAt_22 ?_
        refine lv_iconst (v := 1) hx hb dX8_valueAt_23 (by decide) ?_
        refine lv_isub hx hb dX8_valueAt_24 ?_
        obtain ⟨u14, hc15, hf⟩ := bind_t hf
        refine k_S (As := [.int p2, .int 0, .int (((mSize x) (p1).toNatClampNeg) - 1)]) (rest := []) (n := 3) ⟨hx, hb, hml, hown, hts⟩ (met_X8_isIn l p2 0 (((mSize x) (p1).toNatClampNeg) - 1) u14 hc15) w909 w910 w9 w911 ⟨by decide +kernel, by decide +kernel, by decide +kernel⟩ ⟨Nat.le_of_ble_eq_true rfl, Nat.le_of_ble_eq_true rfl⟩ hK hE hP hD hS hA (isC := []) (isR := [0, 1, 2, 3, 4, 5, 6, 7, 8, 9, 10, 11, 12, 13, 14]) (isB := [0, 1, 2, 3, 4, 5, 6, 7, 8, 9, 10, 11, 12, 13, 14]) (ws' := W_Model cI a x) ⟨([0, 1, 2, 3, 4, 5, 6, 7, 8, 9, 10, 11, 12, 13, 14] : List Nat).filterMap (fun i : Nat => (W_Model cI a x : va_W)[i]?), rfl, rfl, rfl, rfl, by decide, rfl, rfl⟩ rfl hl.1 rfl (Nat.le_of_ble_eq_true rfl) dX8_valueAt_25 ⟨Nat.le_of_ble_eq_true rfl, Nat.le_of_ble_eq_true rfl⟩ (fun H locs hP hD hS => ?_)
        try dsimp only at hf
        refine W.eq (g2 := F0 m 28 ls [.int u14]) rfl ?_
        refine lv_if_eq (tgt := 35) hx hb dX8_valueAt_28 (by decide) (fun c16 => ?_) (fun c16 => ?_)
        · replace hf := if_t c16 hf
          exact L35 x p1 p2 H locs ls hf hP hD hS (lv_sub hl [0, 1, 2] rfl)
        · replace hf := if_f c16 hf
          refine lv_iconst (v := 1) hx hb dX8_valueAt_31 (by decide) ?_
          refine lv_goto (tgt := 36) hx hb dX8_valueAt_32 (by decide) ?_
          exact L36 x p1 p2 1 H locs ls hf hP hD hS (lv_sub hl [0, 1, 2] rfl)
  exact M0 s.heap [] ls hf hP hD hS hl

/-! Compactforms.held()I -/
def fX7_held_4 (x : SSt) (rec4 : Int32 × Int32 → Option (Int32)) (s : Int32 × Int32) : Option (Int32) := match s with | (v1, v2) => (if 16 ≤ v2 then some v1 else chk (inb v2 16) ((if (vlHeld (sV x (v2.toNatClampNeg))) = 0 then keep (v2 + 1) (fun y5 => rec4 (v1, y5)) else keep (v1 + 1) (fun y6 => keep (v2 + 1) (fun y7 => rec4 (y6, y7))))))
def fX7_held (x : SSt) : Option (Int32) := iterK FU (fX7_held_4 x) (0, 0)
set_option maxHeartbeats 4000000 in
set_option maxRecDepth 100000 in
theorem met_X7_held {D : va_G} {cI cV cJ cD : ClassId} (l : Launch) (vf : Nat → Option Nat) (ad : Nat → Nat → Nat) (a : Nat → Nat) (hvf : ∀ k, k < 16 → vf k = some (ad k 0)) (x : SSt) (res : Int32) (hf : fX7_held x = some res) : MM l yX7_held cX7_held 3 (some .int) { frames := 0, cells := 0, slots := 0, locals := 0 } D (TY cI cV cJ cD) (W_S cI cV vf a ad x) (W_S cI cV vf a ad x) [.ref (a 0)] (some (.int res)) := by
  intro sz
  refine Met.ofW (cc := cX7_held) (maxL := 3) (ret := (some .int)) (by decide +kernel) rfl ?_
  intro p e s m args below meth c s₁ B hml hv
  obtain ⟨rfl, hsz, hP, hK, hD0, hE⟩ := hv
  have hx := B.exec
  have hb := B.bytes
  have hr := B.returns
  have hts := atoms_spec (ws := .code yX7_held cX7_held 3 (some .int) :: GW) B.pre
  have hg : ∀ w ∈ GW, w.before (([.ref (a 0)] : List Value).toArray) s = true := fun w h => hts w (List.mem_cons_of_mem _ h)
  have hown : s.vm.findClass RX7 = some m.cls := findClass_of_methodNamed B.named
  have hlocks := B.notSynchronized
  subst hsz
  have hD := hD0.self (sz := s.heap.size)
  generalize hAe : va_A (W_S cI cV vf a ad x) s.heap.size = A at hD hE ⊢
  have hA : ∀ q : Nat, s.heap.size ≤ q → A q := fun q h => by rw [← hAe]; exact Or.inr h
  have hS : va_S A s.heap s.heap [] := va_S.rf
  have hl := lv_entry ([.ref (a 0)]) (n := 3) (Nat.le_of_ble_eq_true rfl)
  rw [lg_entry_eq]
  generalize (lg_sl ([.ref (a 0)]) ++ List.replicate (3 - (lg_sl ([.ref (a 0)])).length) Slot.unset).toArray = ls at hl ⊢
  have hl : lv_has ls 3 [(0, .ref (a 0))] := hl
  have S4 : ∀ (x : SSt) (rec4 : Int32 × Int32 → Option (Int32)) (hrec4 : ∀ (v1 : Int32), ∀ (v2 : Int32), ∀ (H : Heap) (locs : List Loc) (ls : Array Slot), rec4 (v1, v2) = some res → va_P D vwCl (W_S cI cV vf a ad x) H → va_D A (W_S cI cV vf a ad x) → va_S A s.heap H locs → lv_has ls 3 [(0, .ref (a 0)), (1, .int v1), (2, .int v2)] → W p l e ({ frames := 0, cells := 0, slots := 0, locals := 0 } : Room) s m ([.ref (a 0)] : List Value).toArray below meth c H locs 0 0 (MQ below (QW D (TY cI cV cJ cD) (W_S cI cV vf a ad x) A (some (.int res))) (([.ref (a 0)] : List Value).toArray) s 0 0 A) (F0 m 4 ls [])) (v1 : Int32) (v2 : Int32) (H : Heap) (locs : List Loc) (ls : Array Slot), fX7_held_4 x  rec4 (v1, v2) = some res → va_P D vwCl (W_S cI cV vf a ad x) H → va_D A (W_S cI cV vf a ad x) → va_S A s.heap H locs → lv_has ls 3 [(0, .ref (a 0)), (1, .int v1), (2, .int v2)] → W p l e ({ frames := 0, cells := 0, slots := 0, locals := 0 } : Room) s m ([.ref (a 0)] : List Value).toArray below meth c H locs 0 0 (MQ below (QW D (TY cI cV cJ cD) (W_S cI cV vf a ad x) A (some (.int res))) (([.ref (a 0)] : List Value).toArray) s 0 0 A) (F0 m 4 ls []) := by
    intro x rec4 hrec4 v1 v2 H locs ls hf hP hD hS hl
    dsimp only [fX7_held_4] at hf
    refine lv_iload_n hx hb dX7_held_4 rfl (lv_at hl 2 rfl) ?_
    refine lv_bipush (v := 16) hx hb dX7_held_5 (by decide) ?_
    refine lv_icmp_ge (tgt := 31) hx hb dX7_held_7 (by decide) (fun c1 => ?_) (fun c1 => ?_)
    · replace hf := if_t c1 hf
      refine lv_iload_n hx hb dX7_held_31 rfl (lv_at hl 1 rfl) ?_
      obtain rfl := Option.some.inj hf
      exact W.iret (v := v1) hx hb hr (fun t ht hW => ⟨rfl, by rw [ht]; exact hP, va_K.moved hW.alike hK, hD, hS.F ht⟩) hS.2.2 dX7_held_32 hlocks
    · replace hf := if_f c1 hf
      refine lv_aload_n hx hb dX7_held_10 rfl (lv_at hl 0 rfl) ?_
      refine va_get (D := D) (ci := 6) (v := .ref (a 1)) (C := RX7) (T := TX7) (N := 8) hx hb hg in_X7 hown hK hP 0 rfl rfl 0 (by decide) (hg _ w167) (fun _ h9 => h9) rfl dX7_held_11 ?_
      refine lv_iload_n hx hb dX7_held_14 rfl (lv_at hl 2 rfl) ?_
      obtain ⟨hi2, hf⟩ := chk_t hf
      have hk3 := inb_lt hi2
      refine va_aldq hx hb hK hP 1 1 rfl rfl (inb_in hi2) dX7_held_15 ?_
      refine W.eq (g2 := F0 m 16 ls [.ref (ad (v2.toNatClampNeg) 0)]) (by rw [hvf _ hk3]; rfl) ?_
      obtain ⟨wr9, p19, p29⟩ := cut_V (cI := cI) (cV := cV) (vf := vf) (a := a) (ad := ad) x hk3 (sV x (v2.toNatClampNeg))
      have hPk := hP.perm p19
      refine va_getN (D := D) (ci := 5) (v := .int (vlHeld (sV x (v2.toNatClampNeg)))) (C := RX6) (T := TX6) (N := 10) hx hb hg in_X6 hown hK hPk 0 rfl rfl 0 (by decide) (nwF_115 hE.1) (fun _ h9 => h9) rfl dX7_held_16 ?_
      refine lv_if_eq (tgt := 25) hx hb dX7_held_19 (by decide) (fun c4 => ?_) (fun c4 => ?_)
      · replace hf := if_t c4 hf
        obtain ⟨y5, hy5⟩ : ∃ z : Int32, z = (v2 + 1) := ⟨_, rfl⟩
        replace hf := keep_e hf y5 hy5
        refine lv_iinc (v := y5) (lv' := [(2, .int y5), (0, .ref (a 0)), (1, .int v1)]) hx hb dX7_held_25 hl (k := 2) rfl (by rw [hy5]; rfl) (by decide) rfl (fun ls hl => ?_)
        refine lv_goto (tgt := 4) hx hb dX7_held_28 (by decide) ?_
        exact hrec4 v1 y5 H locs ls hf hP hD hS (lv_sub hl [1, 2, 0] rfl)
      · replace hf := if_f c4 hf
        obtain ⟨y6, hy6⟩ : ∃ z : Int32, z = (v1 + 1) := ⟨_, rfl⟩
        replace hf := keep_e hf y6 hy6
        refine lv_iinc (v := y6) (lv' := [(1, .int y6), (0, .ref (a 0)), (2, .int v2)]) hx hb dX7_held_22 hl (k := 1) rfl (by rw [hy6]; rfl) (by decide) rfl (fun ls hl => ?_)
        obtain ⟨y7, hy7⟩ : ∃ z : Int32, z = (v2 + 1) := ⟨_, rfl⟩
        replace hf := keep_e hf y7 hy7
        refine lv_iinc (v := y7) (lv' := [(2, .int y7), (1, .int y6), (0, .ref (a 0))]) hx hb dX7_held_25 hl (k := 2) rfl (by rw [hy7]; rfl) (by decide) rfl (fun ls hl => ?_)
        refine lv_goto (tgt := 4) hx hb dX7_held_28 (by decide) ?_
        exact hrec4 y6 y7 H locs ls hf hP hD hS (lv_sub hl [2, 1, 0] rfl)
  have L4 : ∀ (x : SSt) (fu : Nat) (v1 : Int32) (v2 : Int32) (H : Heap) (locs : List Loc) (ls : Array Slot), iterK fu (fX7_held_4 x ) (v1, v2) = some res → va_P D vwCl (W_S cI cV vf a ad x) H → va_D A (W_S cI cV vf a ad x) → va_S A s.heap H locs → lv_has ls 3 [(0, .ref (a 0)), (1, .int v1), (2, .int v2)] → W p l e ({ frames := 0, cells := 0, slots := 0, locals := 0 } : Room) s m ([.ref (a 0)] : List Value).toArray below meth c H locs 0 0 (MQ below (QW D (TY cI cV cJ cD) (W_S cI cV vf a ad x) A (some (.int res))) (([.ref (a 0)] : List Value).toArray) s 0 0 A) (F0 m 4 ls []) := by
    intro x fu
    induction fu with
    | zero =>
      intro v1 v2 H locs ls hf
      cases hf
    | succ fu ih =>
      intro v1 v2 H locs ls hf hP hD hS hl
      exact S4 x (iterK fu (fX7_held_4 x )) ih v1 v2 H locs ls hf hP hD hS hl
  have M0 : ∀ (H : Heap) (locs : List Loc) (ls : Array Slot), fX7_held x = some res → va_P D vwCl (W_S cI cV vf a ad x) H → va_D A (W_S cI cV vf a ad x) → va_S A s.heap H locs → lv_has ls 3 [(0, .ref (a 0))] → W p l e ({ frames := 0, cells := 0, slots := 0, locals := 0 } : Room) s m ([.ref (a 0)] : List Value).toArray below meth c H locs 0 0 (MQ below (QW D (TY cI cV cJ cD) (W_S cI cV vf a ad x) A (some (.int res))) (([.ref (a 0)] : List Value).toArray) s 0 0 A) (F0 m 0 ls []) := by
    intro H locs ls hf hP hD hS hl
    dsimp only [fX7_held] at hf
    refine lv_iconst (v := 0) hx hb dX7_held_0 (by decide) ?_
    refine lv_istore_n (lv' := [(1, .int 0), (0, .ref (a 0))]) hx hb dX7_held_1 rfl hl (by decide) rfl (fun ls hl => ?_)
    refine lv_iconst (v := 0) hx hb dX7_held_2 (by decide) ?_
    refine lv_istore_n (lv' := [(2, .int 0), (1, .int 0), (0, .ref (a 0))]) hx hb dX7_held_3 rfl hl (by decide) rfl (fun ls hl => ?_)
    exact L4 x FU 0 0 H locs ls hf hP hD hS (lv_sub hl [2, 1, 0] rfl)
  exact M0 s.heap [] ls hf hP hD hS hl
/-! Compactforms.sample(I)I -/
def fX7_sample_22 (v1 : Int32) (v2 : Int32) (rec22 : SSt × Int32 × Int32 × Int32 → Option (SSt × (Int32 ⊕ Nat))) (s : SSt × Int32 × Int32 × Int32) : Option (SSt × (Int32 ⊕ Nat)) := match s with | (x, v3, v4, v5) => (if 16 ≤ v5 then some (x, (.inl v4)) else (if v1 ≤ v3 then some (x, (.inl v4)) else keep ((v2 + v5) - (v2 + v5) / 16 * 16) (fun y3 => chk (inb y3 16) ((if (vlHeld (sV x (y3.toNatClampNeg))) = 0 then keep (v5 + 1) (fun y7 => rec22 (x, v3, v4, y7)) else (if (vlEnd (sV x (y3.toNatClampNeg))) = (-1) then keep (v5 + 1) (fun y9 => rec22 (x, v3, v4, y9)) else keep (v3 + 1) (fun y10 => keep (sLs_s x y3) (fun x11 => (fX6_isThere (sV x11 (y3.toNatClampNeg)) (sClk x11)).bind (fun u12 => (if u12 = 0 then keep (sV_s x11 (vup (sV x11) (y3.toNatClampNeg) (vlHeld_s (sV x11 (y3.toNatClampNeg)) 0))) (fun x16 => keep (v4 + 1) (fun y17 => keep (v5 + 1) (fun y18 => rec22 (x16, y10, y17, y18)))) else keep (v5 + 1) (fun y15 => rec22 (x11, y10, v4, y15))))))))))))
def fX7_sample (x : SSt) (p1 : Int32) : Option (SSt × (Int32 ⊕ Nat)) := (fX7_needWithin p1 1 16).bind (fun u19 => thr u19 (fun k21 => some (x, .inr k21)) (fun r22 => keep ((sLs x) + 1) (fun y24 => iterK FU (fX7_sample_22 p1 y24) (x, 0, 0, 0))))
set_option maxHeartbeats 4000000 in
set_option maxRecDepth 100000 in
theorem met_X7_sample {D : va_G} {cI cV cJ cD : ClassId} (l : Launch) (hlt : l.stackTraces = false) (vf : Nat → Option Nat) (ad : Nat → Nat → Nat) (a : Nat → Nat) (hvf : ∀ k, k < 16 → vf k = some (ad k 0)) (x : SSt) (p1 : Int32) (res : SSt × (Int32 ⊕ Nat)) (hf : fX7_sample x p1 = some res) : MX l yX7_sample cX7_sample 8 (some .int) { frames := 7, cells := 1, slots := 6, locals := 122 } D (TY cI cV cJ cD) (W_S cI cV vf a ad x) (W_S cI cV vf a ad res.1) [.ref (a 0), .int p1] (rsI res.2) := by
  intro sz
  refine vx_ofW (cc := cX7_sample) (maxL := 8) (ret := (some .int)) (by decide +kernel) rfl ?_
  intro p e s m args below meth c s₁ B hml htab hv
  obtain ⟨rfl, hsz, hP, hK, hD0, hE⟩ := hv
  have hx := B.exec
  have hb := B.bytes
  have hr := B.returns
  have hts := atoms_spec (ws := .code yX7_sample cX7_sample 8 (some .int) :: GW) B.pre
  have hg : ∀ w ∈ GW, w.before (([.ref (a 0), .int p1] : List Value).toArray) s = true := fun w h => hts w (List.mem_cons_of_mem _ h)
  have hown : s.vm.findClass RX7 = some m.cls := findClass_of_methodNamed B.named
  have hlocks := B.notSynchronized
  subst hsz
  have hD := hD0.self (sz := s.heap.size)
  generalize hAe : va_A (W_S cI cV vf a ad x) s.heap.size = A at hD hE ⊢
  have hA : ∀ q : Nat, s.heap.size ≤ q → A q := fun q h => by rw [← hAe]; exact Or.inr h
  have hS : va_S A s.heap s.heap [] := va_S.rf
  have hl := lv_entry ([.ref (a 0), .int p1]) (n := 8) (Nat.le_of_ble_eq_true rfl)
  rw [lg_entry_eq]
  generalize (lg_sl ([.ref (a 0), .int p1]) ++ List.replicate (8 - (lg_sl ([.ref (a 0), .int p1])).length) Slot.unset).toArray = ls at hl ⊢
  have hl : lv_has ls 8 [(0, .ref (a 0)), (1, .int p1)] := hl
  have S22 : ∀ (v1 : Int32) (v2 : Int32) (rec22 : SSt × Int32 × Int32 × Int32 → Option (SSt × (Int32 ⊕ Nat))) (hrec22 : ∀ (x : SSt), ∀ (v3 : Int32), ∀ (v4 : Int32), ∀ (v5 : Int32), ∀ (H : Heap) (locs : List Loc) (ls : Array Slot), rec22 (x, v3, v4, v5) = some res → va_P D vwCl (W_S cI cV vf a ad x) H → va_D A (W_S cI cV vf a ad x) → va_S A s.heap H locs → lv_has ls 8 [(0, .ref (a 0)), (1, .int v1), (2, .int v2), (3, .int v3), (4, .int v4), (5, .int v5)] → W p l e ({ frames := 7, cells := 1, slots := 6, locals := 122 } : Room) s m ([.ref (a 0), .int p1] : List Value).toArray below meth c H locs 1 6 (vx_MQ below (QR D (TY cI cV cJ cD) (W_S cI cV vf a ad res.1) A (rsI res.2)) (XR D (TY cI cV cJ cD) (W_S cI cV vf a ad res.1) A (rsI res.2)) (([.ref (a 0), .int p1] : List Value).toArray) s 1 6 A) (F0 m 22 ls [])) (x : SSt) (v3 : Int32) (v4 : Int32) (v5 : Int32) (H : Heap) (locs : List Loc) (ls : Array Slot), fX7_sample_22 v1 v2  rec22 (x, v3, v4, v5) = some res → va_P D vwCl (W_S cI cV vf a ad x) H → va_D A (W_S cI cV vf a ad x) → va_S A s.heap H locs → lv_has ls 8 [(0, .ref (a 0)), (1, .int v1), (2, .int v2), (3, .int v3), (4, .int v4), (5, .int v5)] → W p l e ({ frames := 7, cells := 1, slots := 6, locals := 122 } : Room) s m ([.ref (a 0), .int p1] : List Value).toArray below meth c H locs 1 6 (vx_MQ below (QR D (TY cI cV cJ cD) (W_S cI cV vf a ad res.1) A (rsI res.2)) (XR D (TY cI cV cJ cD) (W_S cI cV vf a ad res.1) A (rsI res.2)) (([.ref (a 0), .int p1] : List Value).toArray) s 1 6 A) (F0 m 22 ls []) := by
    intro v1 v2 rec22 hrec22 x v3 v4 v5 H locs ls hf hP hD hS hl
    dsimp only [fX7_sample_22] at hf
    refine lv_iload hx hb dX7_sample_22 (lv_at hl 5 rfl) ?_
    refine lv_bipush (v := 16) hx hb dX7_sample_24 (by decide) ?_
    refine lv_icmp_ge (tgt := 105) hx hb dX7_sample_26 (by decide) (fun c1 => ?_) (fun c1 => ?_)
    · replace hf := if_t c1 hf
      refine lv_iload hx hb dX7_sample_105 (lv_at hl 4 rfl) ?_
      obtain rfl := Option.some.inj hf
      refine vx_ret ?_
      exact W.iret (v := v4) hx hb hr (fun t ht hW => ⟨_, rfl, ⟨rfl, by rw [ht]; exact hP, va_K.moved hW.alike hK, hD, hS.F ht⟩⟩) hS.2.2 dX7_sample_107 hlocks
    · replace hf := if_f c1 hf
      refine lv_iload_n hx hb dX7_sample_29 rfl (lv_at hl 3 rfl) ?_
      refine lv_iload_n hx hb dX7_sample_30 rfl (lv_at hl 1 rfl) ?_
      refine lv_icmp_ge (tgt := 105) hx hb dX7_sample_31 (by decide) (fun c2 => ?_) (fun c2 => ?_)
      · replace hf := if_t c2 hf
        refine lv_iload hx hb dX7_sample_105 (lv_at hl 4 rfl) ?_
        obtain rfl := Option.some.inj hf
        refine vx_ret ?_
        exact W.iret (v := v4) hx hb hr (fun t ht hW => ⟨_, rfl, ⟨rfl, by rw [ht]; exact hP, va_K.moved hW.alike hK, hD, hS.F ht⟩⟩) hS.2.2 dX7_sample_107 hlocks
      · replace hf := if_f c2 hf
        refine lv_iload_n hx hb dX7_sample_34 rfl (lv_at hl 2 rfl) ?_
        refine lv_iload hx hb dX7_sample_35 (lv_at hl 5 rfl) ?_
        refine lv_iadd hx hb dX7_sample_37 ?_
        refine lv_bipush (v := 16) hx hb dX7_sample_38 (by decide) ?_
        refine lv_irem hx hb dX7_sample_40 (by decide) ?_
        refine lv_topi (fun y3 hy3 => ?_)
        replace hf := keep_e hf y3 hy3
        refine lv_istore (lv' := [(6, .int y3), (0, .ref (a 0)), (1, .int v1), (2, .int v2), (3, .int v3), (4, .int v4), (5, .int v5)]) hx hb dX7_sample_41 hl (by decide) rfl (fun ls hl => ?_)
        refine lv_aload_n hx hb dX7_sample_43 rfl (lv_at hl 1 rfl) ?_
        refine va_get (D := D) (ci := 6) (v := .ref (a 1)) (C := RX7) (T := TX7) (N := 8) hx hb hg in_X7 hown hK hP 0 rfl rfl 0 (by decide) (hg _ w167) (fun _ h9 => h9) rfl dX7_sample_44 ?_
        refine lv_iload hx hb dX7_sample_47 (lv_at hl 0 rfl) ?_
        obtain ⟨hi4, hf⟩ := chk_t hf
        have hk5 := inb_lt hi4
        refine va_aldq hx hb hK hP 1 1 rfl rfl (inb_in hi4) dX7_sample_49 ?_
        refine W.eq (g2 := F0 m 50 ls [.ref (ad (y3.toNatClampNeg) 0)]) (by rw [hvf _ hk5]; rfl) ?_
        refine lv_astore (lv' := [(7, .ref (ad (y3.toNatClampNeg) 0)), (6, .int y3), (0, .ref (a 0)), (1, .int v1), (2, .int v2), (3, .int v3), (4, .int v4), (5, .int v5)]) hx hb dX7_sample_50 hl (by decide) rfl (fun ls hl => ?_)
        refine lv_aload hx hb dX7_sample_52 (lv_at hl 0 rfl) ?_
        obtain ⟨wr9, p19, p29⟩ := cut_V (cI := cI) (cV := cV) (vf := vf) (a := a) (ad := ad) x hk5 (sV x (y3.toNatClampNeg))
        have hPk := hP.perm p19
        refine va_getN (D := D) (ci := 5) (v := .int (vlHeld (sV x (y3.toNatClampNeg)))) (C := RX6) (T := TX6) (N := 10) hx hb hg in_X6 hown hK hPk 0 rfl rfl 0 (by decide) (nwF_115 hE.1) (fun _ h9 => h9) rfl dX7_sample_54 ?_
        refine lv_if_eq (tgt := 99) hx hb dX7_sample_57 (by decide) (fun c6 => ?_) (fun c6 => ?_)
        · replace hf := if_t c6 hf
          obtain ⟨y7, hy7⟩ : ∃ z : Int32, z = (v5 + 1) := ⟨_, rfl⟩
          replace hf := keep_e hf y7 hy7
          refine lv_iinc (v := y7) (lv' := [(5, .int y7), (7, .ref (ad (y3.toNatClampNeg) 0)), (6, .int y3), (0, .ref (a 0)), (1, .int v1), (2, .int v2), (3, .int v3), (4, .int v4)]) hx hb dX7_sample_99 hl (k := 7) rfl (by rw [hy7]; rfl) (by decide) rfl (fun ls hl => ?_)
          refine lv_goto (tgt := 22) hx hb dX7_sample_102 (by decide) ?_
          exact hrec22 x v3 v4 y7 H locs ls hf hP hD hS (lv_sub hl [3, 4, 5, 6, 7, 0] rfl)
        · replace hf := if_f c6 hf
          refine lv_aload hx hb dX7_sample_60 (lv_at hl 0 rfl) ?_
          obtain ⟨wr9, p19, p29⟩ := cut_V (cI := cI) (cV := cV) (vf := vf) (a := a) (ad := ad) x hk5 (sV x (y3.toNatClampNeg))
          have hPk := hP.perm p19
          refine va_getN (D := D) (ci := 5) (v := .int (vlEnd (sV x (y3.toNatClampNeg)))) (C := RX6) (T := TX6) (N := 10) hx hb hg in_X6 hown hK hPk 0 rfl rfl 2 (by decide) (nwF_106 hE.1) (fun _ h9 => h9) rfl dX7_sample_62 ?_
          refine lv_iconst (v := (-1)) hx hb dX7_sample_65 (by decide) ?_
          refine lv_icmp_eq (tgt := 99) hx hb dX7_sample_66 (by decide) (fun c8 => ?_) (fun c8 => ?_)
          · replace hf := if_t c8 hf
            obtain ⟨y9, hy9⟩ : ∃ z : Int32, z = (v5 + 1) := ⟨_, rfl⟩
            replace hf := keep_e hf y9 hy9
            refine lv_iinc (v := y9) (lv' := [(5, .int y9), (7, .ref (ad (y3.toNatClampNeg) 0)), (6, .int y3), (0, .ref (a 0)), (1, .int v1), (2, .int v2), (3, .int v3), (4, .int v4)]) hx hb dX7_sample_99 hl (k := 7) rfl (by rw [hy9]; rfl) (by decide) rfl (fun ls hl => ?_)
            refine lv_goto (tgt := 22) hx hb dX7_sample_102 (by decide) ?_
            exact hrec22 x v3 v4 y9 H locs ls hf hP hD hS (lv_sub hl [3, 4, 5, 6, 7, 0] rfl)
          · replace hf := if_f c8 hf
            obtain ⟨y10, hy10⟩ : ∃ z : Int32, z = (v3 + 1) := ⟨_, rfl⟩
            replace hf := keep_e hf y10 hy10
            refine lv_iinc (v := y10) (lv' := [(3, .int y10), (7, .ref (ad (y3.toNatClampNeg) 0)), (6, .int y3), (0, .ref (a 0)), (1, .int v1), (2, .int v2), (4, .int v4), (5, .int v5)]) hx hb dX7_sample_69 hl (k := 5) rfl (by rw [hy10]; rfl) (by decide) rfl (fun ls hl => ?_)
            refine lv_aload_n hx hb dX7_sample_72 rfl (lv_at hl 3 rfl) ?_
            refine lv_iload hx hb dX7_sample_73 (lv_at hl 2 rfl) ?_
            refine va_put (D := D) (ci := 6) (v := .int y3) (ty := .int) (C := RX7) (T := TX7) (N := 8) hx hb hg in_X7 tyX7 tyX7_ok nmX7 hown hK hP hD hS 0 rfl rfl 6 (by decide) (hg _ w173) (fun _ h9 => h9) rfl (by decide +kernel) rfl rfl (Nat.le_of_ble_eq_true rfl) dX7_sample_75 (fun H locs hP hD hS => ?_)
            obtain ⟨x11, hx11⟩ : ∃ z, z = (sLs_s x y3) := ⟨_, rfl⟩
            replace hf := keep_e hf x11 hx11
            have hP : va_P D vwCl (W_S cI cV vf a ad x11) H := by rw [hx11]; exact hP
            have hD : va_D A (W_S cI cV vf a ad x11) := by rw [hx11]; exact hD
            refine lv_aload hx hb dX7_sample_78 (lv_at hl 1 rfl) ?_
            refine lv_aload_n hx hb dX7_sample_80 rfl (lv_at hl 3 rfl) ?_
            refine va_get (D := D) (ci := 6) (v := .int (sClk x11)) (C := RX7) (T := TX7) (N := 8) hx hb hg in_X7 hown hK hP 0 rfl rfl 5 (by decide) (hg _ w172) (fun _ h9 => h9) rfl dX7_sample_81 ?_
            obtain ⟨u12, hc13, hf⟩ := bind_t hf
            refine k_VP (ws' := W_S cI cV vf a ad x11) (As := [.int (sClk x11)]) (rest := []) (n := 1) ⟨hx, hb, hml, hown, hts⟩ (met_X6_isThere l (ad (y3.toNatClampNeg)) (sV x11 (y3.toNatClampNeg)) (sClk x11) u12 hc13) w294 w295 w296 w3 w297 ⟨rfl, by decide +kernel, by decide +kernel, by decide +kernel⟩ ⟨Nat.le_of_ble_eq_true rfl, Nat.le_of_ble_eq_true rfl⟩ hK hE hP hD hS hA (cut_idV x11 hk5) 0 5 rfl rfl rfl rfl hl.1 rfl (Nat.le_of_ble_eq_true rfl) dX7_sample_84 ⟨Nat.le_of_ble_eq_true rfl, Nat.le_of_ble_eq_true rfl⟩ (fun H locs hP hD hS => ?_)
            try dsimp only at hf
            refine W.eq (g2 := F0 m 87 ls [.int u12]) rfl ?_
            refine lv_if_ne (tgt := 99) hx hb dX7_sample_87 (by decide) (fun c14 => ?_) (fun c14 => ?_)
            · replace hf := if_f c14 hf
              obtain ⟨y15, hy15⟩ : ∃ z : Int32, z = (v5 + 1) := ⟨_, rfl⟩
              replace hf := keep_e hf y15 hy15
              refine lv_iinc (v := y15) (lv' := [(5, .int y15), (3, .int y10), (7, .ref (ad (y3.toNatClampNeg) 0)), (6, .int y3), (0, .ref (a 0)), (1, .int v1), (2, .int v2), (4, .int v4)]) hx hb dX7_sample_99 hl (k := 7) rfl (by rw [hy15]; rfl) (by decide) rfl (fun ls hl => ?_)
              refine lv_goto (tgt := 22) hx hb dX7_sample_102 (by decide) ?_
              exact hrec22 x11 y10 v4 y15 H locs ls hf hP hD hS (lv_sub hl [4, 5, 6, 1, 7, 0] rfl)
            · replace hf := if_t c14 hf
              refine lv_aload hx hb dX7_sample_90 (lv_at hl 1 rfl) ?_
              refine lv_iconst (v := 0) hx hb dX7_sample_92 (by decide) ?_
              obtain ⟨wr9, p19, p29⟩ := cut_V (cI := cI) (cV := cV) (vf := vf) (a := a) (ad := ad) x11 hk5 (vlHeld_s (sV x11 (y3.toNatClampNeg)) 0)
              have hPk := hP.perm p19
              have hDk := hD.perm p19
              refine va_putN (D := D) (ci := 5) (v := .int 0) (ty := .boolean) (C := RX6) (T := TX6) (N := 10) hx hb hg in_X6 tyX6 tyX6_ok nmX6 hown hK hPk hDk hS 0 rfl rfl 0 (by decide) (nwF_115 hE.1) (fun _ h9 => h9) rfl (by decide +kernel) (by decide +kernel) (by decide +kernel) (Nat.le_of_ble_eq_true rfl) dX7_sample_93 (fun H locs hP hD hS => ?_)
              replace hP : va_P D vwCl (W_S cI cV vf a ad (sV_s x11 (vup (sV x11) (y3.toNatClampNeg) (vlHeld_s (sV x11 (y3.toNatClampNeg)) 0)))) H := (show va_P D vwCl (W_Value cI (ad (y3.toNatClampNeg)) (vlHeld_s (sV x11 (y3.toNatClampNeg)) 0) ++ wr9) H from hP).perm (List.perm_append_comm.trans p29)
              replace hD : va_D A (W_S cI cV vf a ad (sV_s x11 (vup (sV x11) (y3.toNatClampNeg) (vlHeld_s (sV x11 (y3.toNatClampNeg)) 0)))) := (show va_D A (W_Value cI (ad (y3.toNatClampNeg)) (vlHeld_s (sV x11 (y3.toNatClampNeg)) 0) ++ wr9) from hD).perm (List.perm_append_comm.trans p29)
              obtain ⟨x16, hx16⟩ : ∃ z, z = (sV_s x11 (vup (sV x11) (y3.toNatClampNeg) (vlHeld_s (sV x11 (y3.toNatClampNeg)) 0))) := ⟨_, rfl⟩
              replace hf := keep_e hf x16 hx16
              have hP : va_P D vwCl (W_S cI cV vf a ad x16) H := by rw [hx16]; exact hP
              have hD : va_D A (W_S cI cV vf a ad x16) := by rw [hx16]; exact hD
              obtain ⟨y17, hy17⟩ : ∃ z : Int32, z = (v4 + 1) := ⟨_, rfl⟩
              replace hf := keep_e hf y17 hy17
              refine lv_iinc (v := y17) (lv' := [(4, .int y17), (3, .int y10), (7, .ref (ad (y3.toNatClampNeg) 0)), (6, .int y3), (0, .ref (a 0)), (1, .int v1), (2, .int v2), (5, .int v5)]) hx hb dX7_sample_96 hl (k := 6) rfl (by rw [hy17]; rfl) (by decide) rfl (fun ls hl => ?_)
              obtain ⟨y18, hy18⟩ : ∃ z : Int32, z = (v5 + 1) := ⟨_, rfl⟩
              replace hf := keep_e hf y18 hy18
              refine lv_iinc (v := y18) (lv' := [(5, .int y18), (4, .int y17), (3, .int y10), (7, .ref (ad (y3.toNatClampNeg) 0)), (6, .int y3), (0, .ref (a 0)), (1, .int v1), (2, .int v2)]) hx hb dX7_sample_99 hl (k := 7) rfl (by rw [hy18]; rfl) (by decide) rfl (fun ls hl => ?_)
              refine lv_goto (tgt := 22) hx hb dX7_sample_102 (by decide) ?_
              exact hrec22 x16 y10 y17 y18 H locs ls hf hP hD hS (lv_sub hl [5, 6, 7, 2, 1, 0] rfl)
  have L22 : ∀ (v1 : Int32) (v2 : Int32) (fu : Nat) (x : SSt) (v3 : Int32) (v4 : Int32) (v5 : Int32) (H : Heap) (locs : List Loc) (ls : Array Slot), iterK fu (fX7_sample_22 v1 v2 ) (x, v3, v4, v5) = some res → va_P D vwCl (W_S cI cV vf a ad x) H → va_D A (W_S cI cV vf a ad x) → va_S A s.heap H locs → lv_has ls 8 [(0, .ref (a 0)), (1, .int v1), (2, .int v2), (3, .int v3), (4, .int v4), (5, .int v5)] → W p l e ({ frames := 7, cells := 1, slots := 6, locals := 122 } : Room) s m ([.ref (a 0), .int p1] : List Value).toArray below meth c H locs 1 6 (vx_MQ below (QR D (TY cI cV cJ cD) (W_S cI cV vf a ad res.1) A (rsI res.2)) (XR D (TY cI cV cJ cD) (W_S cI cV vf a ad res.1) A (rsI res.2)) (([.ref (a 0), .int p1] : List Value).toArray) s 1 6 A) (F0 m 22 ls []) := by
    intro v1 v2 fu
    induction fu with
    | zero =>
      intro x v3 v4 v5 H locs ls hf
      cases hf
    | succ fu ih =>
      intro x v3 v4 v5 H locs ls hf hP hD hS hl
      exact S22 v1 v2 (iterK fu (fX7_sample_22 v1 v2 )) ih x v3 v4 v5 H locs ls hf hP hD hS hl
  have M0 : ∀ (H : Heap) (locs : List Loc) (ls : Array Slot), fX7_sample x p1 = some res → va_P D vwCl (W_S cI cV vf a ad x) H → va_D A (W_S cI cV vf a ad x) → va_S A s.heap H locs → lv_has ls 8 [(0, .ref (a 0)), (1, .int p1)] → W p l e ({ frames := 7, cells := 1, slots := 6, locals := 122 } : Room) s m ([.ref (a 0), .int p1] : List Value).toArray below meth c H locs 0 0 (vx_MQ below (QR D (TY cI cV cJ cD) (W_S cI cV vf a ad res.1) A (rsI res.2)) (XR D (TY cI cV cJ cD) (W_S cI cV vf a ad res.1) A (rsI res.2)) (([.ref (a 0), .int p1] : List Value).toArray) s 1 6 A) (F0 m 0 ls []) := by
    intro H locs ls hf hP hD hS hl
    dsimp only [fX7_sample] at hf
    refine lv_iload_n hx hb dX7_sample_0 rfl (lv_at hl 1 rfl) ?_
    refine lv_iconst (v := 1) hx hb dX7_sample_1 (by decide) ?_
    refine lv_bipush (v := 16) hx hb dX7_sample_2 (by decide) ?_
    obtain ⟨u19, hc20, hf⟩ := bind_t hf
    refine k_SX (As := [.int p1, .int 1, .int 16]) (rest := []) (n := 3) ⟨hx, hb, hml, hown, hts⟩ (met_X7_needWithin l hlt p1 1 16 u19 hc20) w317 w318 w1 w319 ⟨by decide +kernel, by decide +kernel, by decide +kernel⟩ ⟨Nat.le_of_ble_eq_true rfl, Nat.le_of_ble_eq_true rfl⟩ hK hE hP hD hS hA (Cut.nil _) rfl hl.1 rfl (Nat.le_of_ble_eq_true rfl) dX7_sample_4 ⟨Nat.le_of_ble_eq_true rfl, Nat.le_of_ble_eq_true rfl⟩ (fun E ce q9 H locs h23 hP hD hS hce hcv hcl => ?_) (fun rv9 H locs h23 hP hD hS => ?_)
    · obtain ⟨k21, hq9, hE9⟩ := rsV_x h23
      replace hf := thr_x hf hq9
      obtain rfl := Option.some.inj hf
      exact k_out htab hlocks hce hcv hcl (by rw [hE9]; rfl) hK hP hD hS (Nat.le_of_ble_eq_true rfl) (Nat.le_of_ble_eq_true rfl)
    obtain ⟨r22, hq9, rfl⟩ := rsV_v h23
    replace hf := thr_v hf hq9
    refine W.eq (g2 := F0 m 7 ls []) rfl ?_
    refine lv_aload_n hx hb dX7_sample_7 rfl (lv_at hl 0 rfl) ?_
    refine va_get (D := D) (ci := 6) (v := .int (sLs x)) (C := RX7) (T := TX7) (N := 8) hx hb hg in_X7 hown hK hP 0 rfl rfl 6 (by decide) (hg _ w173) (fun _ h9 => h9) rfl dX7_sample_8 ?_
    refine lv_iconst (v := 1) hx hb dX7_sample_11 (by decide) ?_
    refine lv_iadd hx hb dX7_sample_12 ?_
    refine lv_topi (fun y24 hy24 => ?_)
    replace hf := keep_e hf y24 hy24
    refine lv_istore_n (lv' := [(2, .int y24), (0, .ref (a 0)), (1, .int p1)]) hx hb dX7_sample_13 rfl hl (by decide) rfl (fun ls hl => ?_)
    refine lv_iconst (v := 0) hx hb dX7_sample_14 (by decide) ?_
    refine lv_istore_n (lv' := [(3, .int 0), (2, .int y24), (0, .ref (a 0)), (1, .int p1)]) hx hb dX7_sample_15 rfl hl (by decide) rfl (fun ls hl => ?_)
    refine lv_iconst (v := 0) hx hb dX7_sample_16 (by decide) ?_
    refine lv_istore (lv' := [(4, .int 0), (3, .int 0), (2, .int y24), (0, .ref (a 0)), (1, .int p1)]) hx hb dX7_sample_17 hl (by decide) rfl (fun ls hl => ?_)
    refine lv_iconst (v := 0) hx hb dX7_sample_19 (by decide) ?_
    refine lv_istore (lv' := [(5, .int 0), (4, .int 0), (3, .int 0), (2, .int y24), (0, .ref (a 0)), (1, .int p1)]) hx hb dX7_sample_20 hl (by decide) rfl (fun ls hl => ?_)
    exact L22 p1 y24 FU x 0 0 0 H locs ls hf hP hD hS (lv_sub hl [4, 5, 3, 2, 1, 0] rfl)
  exact M0 s.heap [] ls hf hP hD hS hl
/-! Compactforms.rewrite()I -/
def fX7_rewrite_25 (rec25 : SSt × Int32 → Option (SSt × Int32)) (s : SSt × Int32) : Option (SSt × Int32) := match s with | (x, v1) => (if 16 ≤ v1 then some (x, (sKtw x)) else chk (decide (((v1).toNatClampNeg) < 16)) ((fX7_isThere ((v1).toNatClampNeg) (foc ((v1).toNatClampNeg) x) v1).bind (fun u2 => (if u2 = 0 then keep (v1 + 1) (fun y6 => rec25 (x, y6)) else chk (decide (((v1).toNatClampNeg) < 16)) ((fX7_writeAnew ((v1).toNatClampNeg) (foc ((v1).toNatClampNeg) x) v1).bind (fun u7 => keep (unf ((v1).toNatClampNeg) x u7) (fun x10 => keep (sKtw_s x10 ((sKtw x10) + 1)) (fun x11 => keep (v1 + 1) (fun y12 => rec25 (x11, y12))))))))))
def fX7_rewrite (x : SSt) : Option (SSt × Int32) := (fX3_makeEmpty (sNew x)).bind (fun u13 => keep (sNew_s x u13) (fun x15 => keep (sRar_s x15 (loN (sLog x15))) (fun x16 => keep (sKtw_s x16 0) (fun x17 => iterK FU (fX7_rewrite_25 ) (x17, 0)))))
set_option maxHeartbeats 4000000 in
set_option maxRecDepth 100000 in
theorem met_X7_rewrite {D : va_G} {cI cV cJ cD : ClassId} (l : Launch) (vf : Nat → Option Nat) (ad : Nat → Nat → Nat) (a : Nat → Nat) (hvf : ∀ k, k < 16 → vf k = some (ad k 0)) (x : SSt) (res : SSt × Int32) (hf : fX7_rewrite x = some res) : MM l yX7_rewrite cX7_rewrite 2 (some .int) { frames := 4, cells := 0, slots := 0, locals := 132 } D (TY cI cV cJ cD) (W_S cI cV vf a ad x) (W_S cI cV vf a ad res.1) [.ref (a 0)] (some (.int res.2)) := by
  intro sz
  refine Met.ofW (cc := cX7_rewrite) (maxL := 2) (ret := (some .int)) (by decide +kernel) rfl ?_
  intro p e s m args below meth c s₁ B hml hv
  obtain ⟨rfl, hsz, hP, hK, hD0, hE⟩ := hv
  have hx := B.exec
  have hb := B.bytes
  have hr := B.returns
  have hts := atoms_spec (ws := .code yX7_rewrite cX7_rewrite 2 (some .int) :: GW) B.pre
  have hg : ∀ w ∈ GW, w.before (([.ref (a 0)] : List Value).toArray) s = true := fun w h => hts w (List.mem_cons_of_mem _ h)
  have hown : s.vm.findClass RX7 = some m.cls := findClass_of_methodNamed B.named
  have hlocks := B.notSynchronized
  subst hsz
  have hD := hD0.self (sz := s.heap.size)
  generalize hAe : va_A (W_S cI cV vf a ad x) s.heap.size = A at hD hE ⊢
  have hA : ∀ q : Nat, s.heap.size ≤ q → A q := fun q h => by rw [← hAe]; exact Or.inr h
  have hS : va_S A s.heap s.heap [] := va_S.rf
  have hl := lv_entry ([.ref (a 0)]) (n := 2) (Nat.le_of_ble_eq_true rfl)
  rw [lg_entry_eq]
  generalize (lg_sl ([.ref (a 0)]) ++ List.replicate (2 - (lg_sl ([.ref (a 0)])).length) Slot.unset).toArray = ls at hl ⊢
  have hl : lv_has ls 2 [(0, .ref (a 0))] := hl
  have S25 : ∀ (rec25 : SSt × Int32 → Option (SSt × Int32)) (hrec25 : ∀ (x : SSt), ∀ (v1 : Int32), ∀ (H : Heap) (locs : List Loc) (ls : Array Slot), rec25 (x, v1) = some res → va_P D vwCl (W_S cI cV vf a ad x) H → va_D A (W_S cI cV vf a ad x) → va_S A s.heap H locs → lv_has ls 2 [(0, .ref (a 0)), (1, .int v1)] → W p l e ({ frames := 4, cells := 0, slots := 0, locals := 132 } : Room) s m ([.ref (a 0)] : List Value).toArray below meth c H locs 0 0 (MQ below (QW D (TY cI cV cJ cD) (W_S cI cV vf a ad res.1) A (some (.int res.2))) (([.ref (a 0)] : List Value).toArray) s 0 0 A) (F0 m 25 ls [])) (x : SSt) (v1 : Int32) (H : Heap) (locs : List Loc) (ls : Array Slot), fX7_rewrite_25  rec25 (x, v1) = some res → va_P D vwCl (W_S cI cV vf a ad x) H → va_D A (W_S cI cV vf a ad x) → va_S A s.heap H locs → lv_has ls 2 [(0, .ref (a 0)), (1, .int v1)] → W p l e ({ frames := 4, cells := 0, slots := 0, locals := 132 } : Room) s m ([.ref (a 0)] : List Value).toArray below meth c H locs 0 0 (MQ below (QW D (TY cI cV cJ cD) (W_S cI cV vf a ad res.1) A (some (.int res.2))) (([.ref (a 0)] : List Value).toArray) s 0 0 A) (F0 m 25 ls []) := by
    intro rec25 hrec25 x v1 H locs ls hf hP hD hS hl
    dsimp only [fX7_rewrite_25] at hf
    refine lv_iload_n hx hb dX7_rewrite_25 rfl (lv_at hl 1 rfl) ?_
    refine lv_bipush (v := 16) hx hb dX7_rewrite_26 (by decide) ?_
    refine lv_icmp_ge (tgt := 60) hx hb dX7_rewrite_28 (by decide) (fun c1 => ?_) (fun c1 => ?_)
    · replace hf := if_t c1 hf
      refine lv_aload_n hx hb dX7_rewrite_60 rfl (lv_at hl 0 rfl) ?_
      refine va_get (D := D) (ci := 6) (v := .int (sKtw x)) (C := RX7) (T := TX7) (N := 8) hx hb hg in_X7 hown hK hP 0 rfl rfl 4 (by decide) (hg _ w171) (fun _ h9 => h9) rfl dX7_rewrite_61 ?_
      obtain rfl := Option.some.inj hf
      exact W.iret (v := (sKtw x)) hx hb hr (fun t ht hW => ⟨rfl, by rw [ht]; exact hP, va_K.moved hW.alike hK, hD, hS.F ht⟩) hS.2.2 dX7_rewrite_64 hlocks
    · replace hf := if_f c1 hf
      refine lv_aload_n hx hb dX7_rewrite_31 rfl (lv_at hl 0 rfl) ?_
      refine lv_iload_n hx hb dX7_rewrite_32 rfl (lv_at hl 1 rfl) ?_
      obtain ⟨hi4, hf⟩ := chk_t hf
      replace hi4 := of_decide_eq_true hi4
      obtain ⟨u2, hc3, hf⟩ := bind_t hf
      refine k_VP (ws' := W_S cI cV vf a ad x) (As := [.int v1]) (rest := []) (n := 1) ⟨hx, hb, hml, hown, hts⟩ (met_X7_isThere l ((v1).toNatClampNeg) vf (foA a (ad ((v1).toNatClampNeg))) (hvf _ hi4) (foc ((v1).toNatClampNeg) x) v1 u2 hc3) w290 w292 ws2 w1 w293 ⟨rfl, by decide +kernel, by decide +kernel, by decide +kernel⟩ ⟨Nat.le_of_ble_eq_true rfl, Nat.le_of_ble_eq_true rfl⟩ hK hE hP hD hS hA (cut_idF x hi4) 0 6 rfl rfl rfl rfl hl.1 rfl (Nat.le_of_ble_eq_true rfl) dX7_rewrite_33 ⟨Nat.le_of_ble_eq_true rfl, Nat.le_of_ble_eq_true rfl⟩ (fun H locs hP hD hS => ?_)
      try dsimp only at hf
      refine W.eq (g2 := F0 m 36 ls [.int u2]) rfl ?_
      refine lv_if_eq (tgt := 54) hx hb dX7_rewrite_36 (by decide) (fun c5 => ?_) (fun c5 => ?_)
      · replace hf := if_t c5 hf
        obtain ⟨y6, hy6⟩ : ∃ z : Int32, z = (v1 + 1) := ⟨_, rfl⟩
        replace hf := keep_e hf y6 hy6
        refine lv_iinc (v := y6) (lv' := [(1, .int y6), (0, .ref (a 0))]) hx hb dX7_rewrite_54 hl (k := 1) rfl (by rw [hy6]; rfl) (by decide) rfl (fun ls hl => ?_)
        refine lv_goto (tgt := 25) hx hb dX7_rewrite_57 (by decide) ?_
        exact hrec25 x y6 H locs ls hf hP hD hS (lv_sub hl [1, 0] rfl)
      · replace hf := if_f c5 hf
        refine lv_aload_n hx hb dX7_rewrite_39 rfl (lv_at hl 0 rfl) ?_
        refine lv_iload_n hx hb dX7_rewrite_40 rfl (lv_at hl 1 rfl) ?_
        obtain ⟨hi9, hf⟩ := chk_t hf
        replace hi9 := of_decide_eq_true hi9
        obtain ⟨u7, hc8, hf⟩ := bind_t hf
        refine k_VP (ws' := W_S cI cV vf a ad (unf ((v1).toNatClampNeg) x u7)) (As := [.int v1]) (rest := []) (n := 1) ⟨hx, hb, hml, hown, hts⟩ (met_X7_writeAnew l ((v1).toNatClampNeg) vf (foA a (ad ((v1).toNatClampNeg))) (hvf _ hi9) (foc ((v1).toNatClampNeg) x) v1 u7 hc8) w718 w720 ws22 w1 w721 ⟨rfl, by decide +kernel, by decide +kernel, by decide +kernel⟩ ⟨Nat.le_of_ble_eq_true rfl, Nat.le_of_ble_eq_true rfl⟩ hK hE hP hD hS hA (cut_F x hi9 u7) 0 6 rfl rfl rfl rfl hl.1 rfl (Nat.le_of_ble_eq_true rfl) dX7_rewrite_41 ⟨Nat.le_of_ble_eq_true rfl, Nat.le_of_ble_eq_true rfl⟩ (fun H locs hP hD hS => ?_)
        try dsimp only at hf
        refine W.eq (g2 := F0 m 44 ls []) rfl ?_
        obtain ⟨x10, hx10⟩ : ∃ z, z = (unf ((v1).toNatClampNeg) x u7) := ⟨_, rfl⟩
        replace hf := keep_e hf x10 hx10
        have hP : va_P D vwCl (W_S cI cV vf a ad x10) H := by rw [hx10]; exact hP
        have hD : va_D A (W_S cI cV vf a ad x10) := by rw [hx10]; exact hD
        refine lv_aload_n hx hb dX7_rewrite_44 rfl (lv_at hl 0 rfl) ?_
        refine lv_dup hx hb dX7_rewrite_45 rfl ?_
        refine va_get (D := D) (ci := 6) (v := .int (sKtw x10)) (C := RX7) (T := TX7) (N := 8) hx hb hg in_X7 hown hK hP 0 rfl rfl 4 (by decide) (hg _ w171) (fun _ h9 => h9) rfl dX7_rewrite_46 ?_
        refine lv_iconst (v := 1) hx hb dX7_rewrite_49 (by decide) ?_
        refine lv_iadd hx hb dX7_rewrite_50 ?_
        refine va_put (D := D) (ci := 6) (v := .int ((sKtw x10) + 1)) (ty := .int) (C := RX7) (T := TX7) (N := 8) hx hb hg in_X7 tyX7 tyX7_ok nmX7 hown hK hP hD hS 0 rfl rfl 4 (by decide) (hg _ w171) (fun _ h9 => h9) rfl (by decide +kernel) rfl rfl (Nat.le_of_ble_eq_true rfl) dX7_rewrite_51 (fun H locs hP hD hS => ?_)
        obtain ⟨x11, hx11⟩ : ∃ z, z = (sKtw_s x10 ((sKtw x10) + 1)) := ⟨_, rfl⟩
        replace hf := keep_e hf x11 hx11
        have hP : va_P D vwCl (W_S cI cV vf a ad x11) H := by rw [hx11]; exact hP
        have hD : va_D A (W_S cI cV vf a ad x11) := by rw [hx11]; exact hD
        obtain ⟨y12, hy12⟩ : ∃ z : Int32, z = (v1 + 1) := ⟨_, rfl⟩
        replace hf := keep_e hf y12 hy12
        refine lv_iinc (v := y12) (lv' := [(1, .int y12), (0, .ref (a 0))]) hx hb dX7_rewrite_54 hl (k := 1) rfl (by rw [hy12]; rfl) (by decide) rfl (fun ls hl => ?_)
        refine lv_goto (tgt := 25) hx hb dX7_rewrite_57 (by decide) ?_
        exact hrec25 x11 y12 H locs ls hf hP hD hS (lv_sub hl [1, 0] rfl)
  have L25 : ∀ (fu : Nat) (x : SSt) (v1 : Int32) (H : Heap) (locs : List Loc) (ls : Array Slot), iterK fu (fX7_rewrite_25 ) (x, v1) = some res → va_P D vwCl (W_S cI cV vf a ad x) H → va_D A (W_S cI cV vf a ad x) → va_S A s.heap H locs → lv_has ls 2 [(0, .ref (a 0)), (1, .int v1)] → W p l e ({ frames := 4, cells := 0, slots := 0, locals := 132 } : Room) s m ([.ref (a 0)] : List Value).toArray below meth c H locs 0 0 (MQ below (QW D (TY cI cV cJ cD) (W_S cI cV vf a ad res.1) A (some (.int res.2))) (([.ref (a 0)] : List Value).toArray) s 0 0 A) (F0 m 25 ls []) := by
    intro fu
    induction fu with
    | zero =>
      intro x v1 H locs ls hf
      cases hf
    | succ fu ih =>
      intro x v1 H locs ls hf hP hD hS hl
      exact S25 (iterK fu (fX7_rewrite_25 )) ih x v1 H locs ls hf hP hD hS hl
  have M0 : ∀ (H : Heap) (locs : List Loc) (ls : Array Slot), fX7_rewrite x = some res → va_P D vwCl (W_S cI cV vf a ad x) H → va_D A (W_S cI cV vf a ad x) → va_S A s.heap H locs → lv_has ls 2 [(0, .ref (a 0))] → W p l e ({ frames := 4, cells := 0, slots := 0, locals := 132 } : Room) s m ([.ref (a 0)] : List Value).toArray below meth c H locs 0 0 (MQ below (QW D (TY cI cV cJ cD) (W_S cI cV vf a ad res.1) A (some (.int res.2))) (([.ref (a 0)] : List Value).toArray) s 0 0 A) (F0 m 0 ls []) := by
    intro H locs ls hf hP hD hS hl
    dsimp only [fX7_rewrite] at hf
    refine lv_aload_n hx hb dX7_rewrite_0 rfl (lv_at hl 0 rfl) ?_
    refine va_get (D := D) (ci := 6) (v := .ref (a 4)) (C := RX7) (T := TX7) (N := 8) hx hb hg in_X7 hown hK hP 0 rfl rfl 2 (by decide) (hg _ w169) (fun _ h9 => h9) rfl dX7_rewrite_1 ?_
    obtain ⟨u13, hc14, hf⟩ := bind_t hf
    refine k_VP (ws' := W_S cI cV vf a ad (sNew_s x u13)) (As := []) (rest := []) (n := 0) ⟨hx, hb, hml, hown, hts⟩ (met_X3_makeEmpty l (fun j => a (4 + j)) (sNew x)  u13 hc14) w714 w715 w716 w2 w717 ⟨rfl, by decide +kernel, by decide +kernel, by decide +kernel⟩ ⟨Nat.le_of_ble_eq_true rfl, Nat.le_of_ble_eq_true rfl⟩ hK hE hP hD hS hA (cut_new x u13) 0 2 rfl rfl rfl rfl hl.1 rfl (Nat.le_of_ble_eq_true rfl) dX7_rewrite_4 ⟨Nat.le_of_ble_eq_true rfl, Nat.le_of_ble_eq_true rfl⟩ (fun H locs hP hD hS => ?_)
    try dsimp only at hf
    refine W.eq (g2 := F0 m 7 ls []) rfl ?_
    obtain ⟨x15, hx15⟩ : ∃ z, z = (sNew_s x u13) := ⟨_, rfl⟩
    replace hf := keep_e hf x15 hx15
    have hP : va_P D vwCl (W_S cI cV vf a ad x15) H := by rw [hx15]; exact hP
    have hD : va_D A (W_S cI cV vf a ad x15) := by rw [hx15]; exact hD
    refine lv_aload_n hx hb dX7_rewrite_7 rfl (lv_at hl 0 rfl) ?_
    refine lv_aload_n hx hb dX7_rewrite_8 rfl (lv_at hl 0 rfl) ?_
    refine va_get (D := D) (ci := 6) (v := .ref (a 2)) (C := RX7) (T := TX7) (N := 8) hx hb hg in_X7 hown hK hP 0 rfl rfl 1 (by decide) (hg _ w168) (fun _ h9 => h9) rfl dX7_rewrite_9 ?_
    refine va_getN (D := D) (ci := 2) (v := .int (loN (sLog x15))) (C := RX3) (T := TX3) (N := 2) hx hb hg in_X3 hown hK hP 2 rfl rfl 1 (by decide) (nwF_123 hE.1) (fun _ h9 => h9) rfl dX7_rewrite_12 ?_
    refine va_put (D := D) (ci := 6) (v := .int (loN (sLog x15))) (ty := .int) (C := RX7) (T := TX7) (N := 8) hx hb hg in_X7 tyX7 tyX7_ok nmX7 hown hK hP hD hS 0 rfl rfl 3 (by decide) (hg _ w170) (fun _ h9 => h9) rfl (by decide +kernel) rfl rfl (Nat.le_of_ble_eq_true rfl) dX7_rewrite_15 (fun H locs hP hD hS => ?_)
    obtain ⟨x16, hx16⟩ : ∃ z, z = (sRar_s x15 (loN (sLog x15))) := ⟨_, rfl⟩
    replace hf := keep_e hf x16 hx16
    have hP : va_P D vwCl (W_S cI cV vf a ad x16) H := by rw [hx16]; exact hP
    have hD : va_D A (W_S cI cV vf a ad x16) := by rw [hx16]; exact hD
    refine lv_aload_n hx hb dX7_rewrite_18 rfl (lv_at hl 0 rfl) ?_
    refine lv_iconst (v := 0) hx hb dX7_rewrite_19 (by decide) ?_
    refine va_put (D := D) (ci := 6) (v := .int 0) (ty := .int) (C := RX7) (T := TX7) (N := 8) hx hb hg in_X7 tyX7 tyX7_ok nmX7 hown hK hP hD hS 0 rfl rfl 4 (by decide) (hg _ w171) (fun _ h9 => h9) rfl (by decide +kernel) rfl rfl (Nat.le_of_ble_eq_true rfl) dX7_rewrite_20 (fun H locs hP hD hS => ?_)
    obtain ⟨x17, hx17⟩ : ∃ z, z = (sKtw_s x16 0) := ⟨_, rfl⟩
    replace hf := keep_e hf x17 hx17
    have hP : va_P D vwCl (W_S cI cV vf a ad x17) H := by rw [hx17]; exact hP
    have hD : va_D A (W_S cI cV vf a ad x17) := by rw [hx17]; exact hD
    refine lv_iconst (v := 0) hx hb dX7_rewrite_23 (by decide) ?_
    refine lv_istore_n (lv' := [(1, .int 0), (0, .ref (a 0))]) hx hb dX7_rewrite_24 rfl hl (by decide) rfl (fun ls hl => ?_)
    exact L25  FU x17 0 H locs ls hf hP hD hS (lv_sub hl [1, 0] rfl)
  exact M0 s.heap [] ls hf hP hD hS hl
/-! Compactforms.restart()I -/
def fX7_restart_67 (x : SSt) (rec67 : Int32 × Int32 → Option (SSt × Int32)) (s : Int32 × Int32) : Option (SSt × Int32) := match s with | (v2, v3) => (if 16 ≤ v3 then some (x, v2) else chk (decide (((v3).toNatClampNeg) < 16)) ((fX7_isThere ((v3).toNatClampNeg) (foc ((v3).toNatClampNeg) x) v3).bind (fun u2 => (if u2 = 0 then keep (v3 + 1) (fun y6 => rec67 (v2, y6)) else keep (v2 + 1) (fun y7 => keep (v3 + 1) (fun y8 => rec67 (y7, y8)))))))
def fX7_restart_36 (v1 : Int32) (rec36 : SSt × Int32 → Option (SSt × Int32)) (s : SSt × Int32) : Option (SSt × Int32) := match s with | (x, v2) => (if (loN (sLog x)) ≤ v2 then keep (sClk_s x v1) (fun x10 => iterK FU (fX7_restart_67 x10) (0, 0)) else chk (decide ((rowKey x v2) < 16)) ((fX7_doAgain (rowKey x v2) (foc (rowKey x v2) x) v2).bind (fun u11 => keep (unf (rowKey x v2) x u11) (fun x14 => keep (v2 + 1) (fun y15 => rec36 (x14, y15))))))
def fX7_restart_12 (v1 : Int32) (rec12 : SSt × Int32 → Option (SSt × Int32)) (s : SSt × Int32) : Option (SSt × Int32) := match s with | (x, v2) => (if 16 ≤ v2 then iterK FU (fX7_restart_36 v1) (x, 0) else chk (inb v2 16) (keep (sV_s x (vup (sV x) (v2.toNatClampNeg) (vlHeld_s (sV x (v2.toNatClampNeg)) 0))) (fun x19 => keep (v2 + 1) (fun y20 => rec12 (x19, y20)))))
def fX7_restart (x : SSt) : Option (SSt × Int32) := keep (sClk x) (fun y21 => keep (sKtw_s x (-1)) (fun x22 => iterK FU (fX7_restart_12 y21) (x22, 0)))
set_option maxHeartbeats 4000000 in
set_option maxRecDepth 100000 in
theorem met_X7_restart {D : va_G} {cI cV cJ cD : ClassId} (l : Launch) (vf : Nat → Option Nat) (ad : Nat → Nat → Nat) (a : Nat → Nat) (hvf : ∀ k, k < 16 → vf k = some (ad k 0)) (x : SSt) (res : SSt × Int32) (hf : fX7_restart x = some res) : MM l yX7_restart cX7_restart 4 (some .int) { frames := 6, cells := 0, slots := 0, locals := 176 } D (TY cI cV cJ cD) (W_S cI cV vf a ad x) (W_S cI cV vf a ad res.1) [.ref (a 0)] (some (.int res.2)) := by
  intro sz
  refine Met.ofW (cc := cX7_restart) (maxL := 4) (ret := (some .int)) (by decide +kernel) rfl ?_
  intro p e s m args below meth c s₁ B hml hv
  obtain ⟨rfl, hsz, hP, hK, hD0, hE⟩ := hv
  have hx := B.exec
  have hb := B.bytes
  have hr := B.returns
  have hts := atoms_spec (ws := .code yX7_restart cX7_restart 4 (some .int) :: GW) B.pre
  have hg : ∀ w ∈ GW, w.before (([.ref (a 0)] : List Value).toArray) s = true := fun w h => hts w (List.mem_cons_of_mem _ h)
  have hown : s.vm.findClass RX7 = some m.cls := findClass_of_methodNamed B.named
  have hlocks := B.notSynchronized
  subst hsz
  have hD := hD0.self (sz := s.heap.size)
  generalize hAe : va_A (W_S cI cV vf a ad x) s.heap.size = A at hD hE ⊢
  have hA : ∀ q : Nat, s.heap.size ≤ q → A q := fun q h => by rw [← hAe]; exact Or.inr h
  have hS : va_S A s.heap s.heap [] := va_S.rf
  have hl := lv_entry ([.ref (a 0)]) (n := 4) (Nat.le_of_ble_eq_true rfl)
  rw [lg_entry_eq]
  generalize (lg_sl ([.ref (a 0)]) ++ List.replicate (4 - (lg_sl ([.ref (a 0)])).length) Slot.unset).toArray = ls at hl ⊢
  have hl : lv_has ls 4 [(0, .ref (a 0))] := hl
  have S67 : ∀ (x : SSt) (rec67 : Int32 × Int32 → Option (SSt × Int32)) (hrec67 : ∀ (v2 : Int32), ∀ (v3 : Int32), ∀ (H : Heap) (locs : List Loc) (ls : Array Slot), rec67 (v2, v3) = some res → va_P D vwCl (W_S cI cV vf a ad x) H → va_D A (W_S cI cV vf a ad x) → va_S A s.heap H locs → lv_has ls 4 [(0, .ref (a 0)), (2, .int v2), (3, .int v3)] → W p l e ({ frames := 6, cells := 0, slots := 0, locals := 176 } : Room) s m ([.ref (a 0)] : List Value).toArray below meth c H locs 0 0 (MQ below (QW D (TY cI cV cJ cD) (W_S cI cV vf a ad res.1) A (some (.int res.2))) (([.ref (a 0)] : List Value).toArray) s 0 0 A) (F0 m 67 ls [])) (v2 : Int32) (v3 : Int32) (H : Heap) (locs : List Loc) (ls : Array Slot), fX7_restart_67 x  rec67 (v2, v3) = some res → va_P D vwCl (W_S cI cV vf a ad x) H → va_D A (W_S cI cV vf a ad x) → va_S A s.heap H locs → lv_has ls 4 [(0, .ref (a 0)), (2, .int v2), (3, .int v3)] → W p l e ({ frames := 6, cells := 0, slots := 0, locals := 176 } : Room) s m ([.ref (a 0)] : List Value).toArray below meth c H locs 0 0 (MQ below (QW D (TY cI cV cJ cD) (W_S cI cV vf a ad res.1) A (some (.int res.2))) (([.ref (a 0)] : List Value).toArray) s 0 0 A) (F0 m 67 ls []) := by
    intro x rec67 hrec67 v2 v3 H locs ls hf hP hD hS hl
    dsimp only [fX7_restart_67] at hf
    refine lv_iload_n hx hb dX7_restart_67 rfl (lv_at hl 2 rfl) ?_
    refine lv_bipush (v := 16) hx hb dX7_restart_68 (by decide) ?_
    refine lv_icmp_ge (tgt := 90) hx hb dX7_restart_70 (by decide) (fun c1 => ?_) (fun c1 => ?_)
    · replace hf := if_t c1 hf
      refine lv_iload_n hx hb dX7_restart_90 rfl (lv_at hl 1 rfl) ?_
      obtain rfl := Option.some.inj hf
      exact W.iret (v := v2) hx hb hr (fun t ht hW => ⟨rfl, by rw [ht]; exact hP, va_K.moved hW.alike hK, hD, hS.F ht⟩) hS.2.2 dX7_restart_91 hlocks
    · replace hf := if_f c1 hf
      refine lv_aload_n hx hb dX7_restart_73 rfl (lv_at hl 0 rfl) ?_
      refine lv_iload_n hx hb dX7_restart_74 rfl (lv_at hl 2 rfl) ?_
      obtain ⟨hi4, hf⟩ := chk_t hf
      replace hi4 := of_decide_eq_true hi4
      obtain ⟨u2, hc3, hf⟩ := bind_t hf
      refine k_VP (ws' := W_S cI cV vf a ad x) (As := [.int v3]) (rest := []) (n := 1) ⟨hx, hb, hml, hown, hts⟩ (met_X7_isThere l ((v3).toNatClampNeg) vf (foA a (ad ((v3).toNatClampNeg))) (hvf _ hi4) (foc ((v3).toNatClampNeg) x) v3 u2 hc3) w290 w292 ws2 w1 w293 ⟨rfl, by decide +kernel, by decide +kernel, by decide +kernel⟩ ⟨Nat.le_of_ble_eq_true rfl, Nat.le_of_ble_eq_true rfl⟩ hK hE hP hD hS hA (cut_idF x hi4) 0 6 rfl rfl rfl rfl hl.1 rfl (Nat.le_of_ble_eq_true rfl) dX7_restart_75 ⟨Nat.le_of_ble_eq_true rfl, Nat.le_of_ble_eq_true rfl⟩ (fun H locs hP hD hS => ?_)
      try dsimp only at hf
      refine W.eq (g2 := F0 m 78 ls [.int u2]) rfl ?_
      refine lv_if_eq (tgt := 84) hx hb dX7_restart_78 (by decide) (fun c5 => ?_) (fun c5 => ?_)
      · replace hf := if_t c5 hf
        obtain ⟨y6, hy6⟩ : ∃ z : Int32, z = (v3 + 1) := ⟨_, rfl⟩
        replace hf := keep_e hf y6 hy6
        refine lv_iinc (v := y6) (lv' := [(3, .int y6), (0, .ref (a 0)), (2, .int v2)]) hx hb dX7_restart_84 hl (k := 2) rfl (by rw [hy6]; rfl) (by decide) rfl (fun ls hl => ?_)
        refine lv_goto (tgt := 67) hx hb dX7_restart_87 (by decide) ?_
        exact hrec67 v2 y6 H locs ls hf hP hD hS (lv_sub hl [1, 2, 0] rfl)
      · replace hf := if_f c5 hf
        obtain ⟨y7, hy7⟩ : ∃ z : Int32, z = (v2 + 1) := ⟨_, rfl⟩
        replace hf := keep_e hf y7 hy7
        refine lv_iinc (v := y7) (lv' := [(2, .int y7), (0, .ref (a 0)), (3, .int v3)]) hx hb dX7_restart_81 hl (k := 1) rfl (by rw [hy7]; rfl) (by decide) rfl (fun ls hl => ?_)
        obtain ⟨y8, hy8⟩ : ∃ z : Int32, z = (v3 + 1) := ⟨_, rfl⟩
        replace hf := keep_e hf y8 hy8
        refine lv_iinc (v := y8) (lv' := [(3, .int y8), (2, .int y7), (0, .ref (a 0))]) hx hb dX7_restart_84 hl (k := 2) rfl (by rw [hy8]; rfl) (by decide) rfl (fun ls hl => ?_)
        refine lv_goto (tgt := 67) hx hb dX7_restart_87 (by decide) ?_
        exact hrec67 y7 y8 H locs ls hf hP hD hS (lv_sub hl [2, 1, 0] rfl)
  have L67 : ∀ (x : SSt) (fu : Nat) (v2 : Int32) (v3 : Int32) (H : Heap) (locs : List Loc) (ls : Array Slot), iterK fu (fX7_restart_67 x ) (v2, v3) = some res → va_P D vwCl (W_S cI cV vf a ad x) H → va_D A (W_S cI cV vf a ad x) → va_S A s.heap H locs → lv_has ls 4 [(0, .ref (a 0)), (2, .int v2), (3, .int v3)] → W p l e ({ frames := 6, cells := 0, slots := 0, locals := 176 } : Room) s m ([.ref (a 0)] : List Value).toArray below meth c H locs 0 0 (MQ below (QW D (TY cI cV cJ cD) (W_S cI cV vf a ad res.1) A (some (.int res.2))) (([.ref (a 0)] : List Value).toArray) s 0 0 A) (F0 m 67 ls []) := by
    intro x fu
    induction fu with
    | zero =>
      intro v2 v3 H locs ls hf
      cases hf
    | succ fu ih =>
      intro v2 v3 H locs ls hf hP hD hS hl
      exact S67 x (iterK fu (fX7_restart_67 x )) ih v2 v3 H locs ls hf hP hD hS hl
  have S36 : ∀ (v1 : Int32) (rec36 : SSt × Int32 → Option (SSt × Int32)) (hrec36 : ∀ (x : SSt), ∀ (v2 : Int32), ∀ (H : Heap) (locs : List Loc) (ls : Array Slot), rec36 (x, v2) = some res → va_P D vwCl (W_S cI cV vf a ad x) H → va_D A (W_S cI cV vf a ad x) → va_S A s.heap H locs → lv_has ls 4 [(0, .ref (a 0)), (1, .int v1), (2, .int v2)] → W p l e ({ frames := 6, cells := 0, slots := 0, locals := 176 } : Room) s m ([.ref (a 0)] : List Value).toArray below meth c H locs 0 0 (MQ below (QW D (TY cI cV cJ cD) (W_S cI cV vf a ad res.1) A (some (.int res.2))) (([.ref (a 0)] : List Value).toArray) s 0 0 A) (F0 m 36 ls [])) (x : SSt) (v2 : Int32) (H : Heap) (locs : List Loc) (ls : Array Slot), fX7_restart_36 v1  rec36 (x, v2) = some res → va_P D vwCl (W_S cI cV vf a ad x) H → va_D A (W_S cI cV vf a ad x) → va_S A s.heap H locs → lv_has ls 4 [(0, .ref (a 0)), (1, .int v1), (2, .int v2)] → W p l e ({ frames := 6, cells := 0, slots := 0, locals := 176 } : Room) s m ([.ref (a 0)] : List Value).toArray below meth c H locs 0 0 (MQ below (QW D (TY cI cV cJ cD) (W_S cI cV vf a ad res.1) A (some (.int res.2))) (([.ref (a 0)] : List Value).toArray) s 0 0 A) (F0 m 36 ls []) := by
    intro v1 rec36 hrec36 x v2 H locs ls hf hP hD hS hl
    dsimp only [fX7_restart_36] at hf
    refine lv_iload_n hx hb dX7_restart_36 rfl (lv_at hl 2 rfl) ?_
    refine lv_aload_n hx hb dX7_restart_37 rfl (lv_at hl 0 rfl) ?_
    refine va_get (D := D) (ci := 6) (v := .ref (a 2)) (C := RX7) (T := TX7) (N := 8) hx hb hg in_X7 hown hK hP 0 rfl rfl 1 (by decide) (hg _ w168) (fun _ h9 => h9) rfl dX7_restart_38 ?_
    refine va_getN (D := D) (ci := 2) (v := .int (loN (sLog x))) (C := RX3) (T := TX3) (N := 2) hx hb hg in_X3 hown hK hP 2 rfl rfl 1 (by decide) (nwF_123 hE.1) (fun _ h9 => h9) rfl dX7_restart_41 ?_
    refine lv_icmp_ge (tgt := 58) hx hb dX7_restart_44 (by decide) (fun c9 => ?_) (fun c9 => ?_)
    · replace hf := if_t c9 hf
      refine lv_aload_n hx hb dX7_restart_58 rfl (lv_at hl 0 rfl) ?_
      refine lv_iload_n hx hb dX7_restart_59 rfl (lv_at hl 1 rfl) ?_
      refine va_put (D := D) (ci := 6) (v := .int v1) (ty := .int) (C := RX7) (T := TX7) (N := 8) hx hb hg in_X7 tyX7 tyX7_ok nmX7 hown hK hP hD hS 0 rfl rfl 5 (by decide) (hg _ w172) (fun _ h9 => h9) rfl (by decide +kernel) rfl rfl (Nat.le_of_ble_eq_true rfl) dX7_restart_60 (fun H locs hP hD hS => ?_)
      obtain ⟨x10, hx10⟩ : ∃ z, z = (sClk_s x v1) := ⟨_, rfl⟩
      replace hf := keep_e hf x10 hx10
      have hP : va_P D vwCl (W_S cI cV vf a ad x10) H := by rw [hx10]; exact hP
      have hD : va_D A (W_S cI cV vf a ad x10) := by rw [hx10]; exact hD
      refine lv_iconst (v := 0) hx hb dX7_restart_63 (by decide) ?_
      refine lv_istore_n (lv' := [(2, .int 0), (0, .ref (a 0)), (1, .int v1)]) hx hb dX7_restart_64 rfl hl (by decide) rfl (fun ls hl => ?_)
      refine lv_iconst (v := 0) hx hb dX7_restart_65 (by decide) ?_
      refine lv_istore_n (lv' := [(3, .int 0), (2, .int 0), (0, .ref (a 0)), (1, .int v1)]) hx hb dX7_restart_66 rfl hl (by decide) rfl (fun ls hl => ?_)
      exact L67 x10 FU 0 0 H locs ls hf hP hD hS (lv_sub hl [2, 1, 0] rfl)
    · replace hf := if_f c9 hf
      refine lv_aload_n hx hb dX7_restart_47 rfl (lv_at hl 0 rfl) ?_
      refine lv_iload_n hx hb dX7_restart_48 rfl (lv_at hl 2 rfl) ?_
      obtain ⟨hi13, hf⟩ := chk_t hf
      replace hi13 := of_decide_eq_true hi13
      obtain ⟨u11, hc12, hf⟩ := bind_t hf
      refine k_VP (ws' := W_S cI cV vf a ad (unf (rowKey x v2) x u11)) (As := [.int v2]) (rest := []) (n := 1) ⟨hx, hb, hml, hown, hts⟩ (met_X7_doAgain l (rowKey x v2) vf (foA a (ad (rowKey x v2))) (hvf _ hi13) (foc (rowKey x v2) x) v2 u11 hc12) w774 w776 ws24 w1 w777 ⟨rfl, by decide +kernel, by decide +kernel, by decide +kernel⟩ ⟨Nat.le_of_ble_eq_true rfl, Nat.le_of_ble_eq_true rfl⟩ hK hE hP hD hS hA (cut_F x hi13 u11) 0 6 rfl rfl rfl rfl hl.1 rfl (Nat.le_of_ble_eq_true rfl) dX7_restart_49 ⟨Nat.le_of_ble_eq_true rfl, Nat.le_of_ble_eq_true rfl⟩ (fun H locs hP hD hS => ?_)
      try dsimp only at hf
      refine W.eq (g2 := F0 m 52 ls []) rfl ?_
      obtain ⟨x14, hx14⟩ : ∃ z, z = (unf (rowKey x v2) x u11) := ⟨_, rfl⟩
      replace hf := keep_e hf x14 hx14
      have hP : va_P D vwCl (W_S cI cV vf a ad x14) H := by rw [hx14]; exact hP
      have hD : va_D A (W_S cI cV vf a ad x14) := by rw [hx14]; exact hD
      obtain ⟨y15, hy15⟩ : ∃ z : Int32, z = (v2 + 1) := ⟨_, rfl⟩
      replace hf := keep_e hf y15 hy15
      refine lv_iinc (v := y15) (lv' := [(2, .int y15), (0, .ref (a 0)), (1, .int v1)]) hx hb dX7_restart_52 hl (k := 2) rfl (by rw [hy15]; rfl) (by decide) rfl (fun ls hl => ?_)
      refine lv_goto (tgt := 36) hx hb dX7_restart_55 (by decide) ?_
      exact hrec36 x14 y15 H locs ls hf hP hD hS (lv_sub hl [1, 2, 0] rfl)
  have L36 : ∀ (v1 : Int32) (fu : Nat) (x : SSt) (v2 : Int32) (H : Heap) (locs : List Loc) (ls : Array Slot), iterK fu (fX7_restart_36 v1 ) (x, v2) = some res → va_P D vwCl (W_S cI cV vf a ad x) H → va_D A (W_S cI cV vf a ad x) → va_S A s.heap H locs → lv_has ls 4 [(0, .ref (a 0)), (1, .int v1), (2, .int v2)] → W p l e ({ frames := 6, cells := 0, slots := 0, locals := 176 } : Room) s m ([.ref (a 0)] : List Value).toArray below meth c H locs 0 0 (MQ below (QW D (TY cI cV cJ cD) (W_S cI cV vf a ad res.1) A (some (.int res.2))) (([.ref (a 0)] : List Value).toArray) s 0 0 A) (F0 m 36 ls []) := by
    intro v1 fu
    induction fu with
    | zero =>
      intro x v2 H locs ls hf
      cases hf
    | succ fu ih =>
      intro x v2 H locs ls hf hP hD hS hl
      exact S36 v1 (iterK fu (fX7_restart_36 v1 )) ih x v2 H locs ls hf hP hD hS hl
  have S12 : ∀ (v1 : Int32) (rec12 : SSt × Int32 → Option (SSt × Int32)) (hrec12 : ∀ (x : SSt), ∀ (v2 : Int32), ∀ (H : Heap) (locs : List Loc) (ls : Array Slot), rec12 (x, v2) = some res → va_P D vwCl (W_S cI cV vf a ad x) H → va_D A (W_S cI cV vf a ad x) → va_S A s.heap H locs → lv_has ls 4 [(0, .ref (a 0)), (1, .int v1), (2, .int v2)] → W p l e ({ frames := 6, cells := 0, slots := 0, locals := 176 } : Room) s m ([.ref (a 0)] : List Value).toArray below meth c H locs 0 0 (MQ below (QW D (TY cI cV cJ cD) (W_S cI cV vf a ad res.1) A (some (.int res.2))) (([.ref (a 0)] : List Value).toArray) s 0 0 A) (F0 m 12 ls [])) (x : SSt) (v2 : Int32) (H : Heap) (locs : List Loc) (ls : Array Slot), fX7_restart_12 v1  rec12 (x, v2) = some res → va_P D vwCl (W_S cI cV vf a ad x) H → va_D A (W_S cI cV vf a ad x) → va_S A s.heap H locs → lv_has ls 4 [(0, .ref (a 0)), (1, .int v1), (2, .int v2)] → W p l e ({ frames := 6, cells := 0, slots := 0, locals := 176 } : Room) s m ([.ref (a 0)] : List Value).toArray below meth c H locs 0 0 (MQ below (QW D (TY cI cV cJ cD) (W_S cI cV vf a ad res.1) A (some (.int res.2))) (([.ref (a 0)] : List Value).toArray) s 0 0 A) (F0 m 12 ls []) := by
    intro v1 rec12 hrec12 x v2 H locs ls hf hP hD hS hl
    dsimp only [fX7_restart_12] at hf
    refine lv_iload_n hx hb dX7_restart_12 rfl (lv_at hl 2 rfl) ?_
    refine lv_bipush (v := 16) hx hb dX7_restart_13 (by decide) ?_
    refine lv_icmp_ge (tgt := 34) hx hb dX7_restart_15 (by decide) (fun c16 => ?_) (fun c16 => ?_)
    · replace hf := if_t c16 hf
      refine lv_iconst (v := 0) hx hb dX7_restart_34 (by decide) ?_
      refine lv_istore_n (lv' := [(2, .int 0), (0, .ref (a 0)), (1, .int v1)]) hx hb dX7_restart_35 rfl hl (by decide) rfl (fun ls hl => ?_)
      exact L36 v1 FU x 0 H locs ls hf hP hD hS (lv_sub hl [1, 2, 0] rfl)
    · replace hf := if_f c16 hf
      refine lv_aload_n hx hb dX7_restart_18 rfl (lv_at hl 0 rfl) ?_
      refine va_get (D := D) (ci := 6) (v := .ref (a 1)) (C := RX7) (T := TX7) (N := 8) hx hb hg in_X7 hown hK hP 0 rfl rfl 0 (by decide) (hg _ w167) (fun _ h9 => h9) rfl dX7_restart_19 ?_
      refine lv_iload_n hx hb dX7_restart_22 rfl (lv_at hl 2 rfl) ?_
      obtain ⟨hi17, hf⟩ := chk_t hf
      have hk18 := inb_lt hi17
      refine va_aldq hx hb hK hP 1 1 rfl rfl (inb_in hi17) dX7_restart_23 ?_
      refine W.eq (g2 := F0 m 24 ls [.ref (ad (v2.toNatClampNeg) 0)]) (by rw [hvf _ hk18]; rfl) ?_
      refine lv_iconst (v := 0) hx hb dX7_restart_24 (by decide) ?_
      obtain ⟨wr9, p19, p29⟩ := cut_V (cI := cI) (cV := cV) (vf := vf) (a := a) (ad := ad) x hk18 (vlHeld_s (sV x (v2.toNatClampNeg)) 0)
      have hPk := hP.perm p19
      have hDk := hD.perm p19
      refine va_putN (D := D) (ci := 5) (v := .int 0) (ty := .boolean) (C := RX6) (T := TX6) (N := 10) hx hb hg in_X6 tyX6 tyX6_ok nmX6 hown hK hPk hDk hS 0 rfl rfl 0 (by decide) (nwF_115 hE.1) (fun _ h9 => h9) rfl (by decide +kernel) (by decide +kernel) (by decide +kernel) (Nat.le_of_ble_eq_true rfl) dX7_restart_25 (fun H locs hP hD hS => ?_)
      replace hP : va_P D vwCl (W_S cI cV vf a ad (sV_s x (vup (sV x) (v2.toNatClampNeg) (vlHeld_s (sV x (v2.toNatClampNeg)) 0)))) H := (show va_P D vwCl (W_Value cI (ad (v2.toNatClampNeg)) (vlHeld_s (sV x (v2.toNatClampNeg)) 0) ++ wr9) H from hP).perm (List.perm_append_comm.trans p29)
      replace hD : va_D A (W_S cI cV vf a ad (sV_s x (vup (sV x) (v2.toNatClampNeg) (vlHeld_s (sV x (v2.toNatClampNeg)) 0)))) := (show va_D A (W_Value cI (ad (v2.toNatClampNeg)) (vlHeld_s (sV x (v2.toNatClampNeg)) 0) ++ wr9) from hD).perm (List.perm_append_comm.trans p29)
      obtain ⟨x19, hx19⟩ : ∃ z, z = (sV_s x (vup (sV x) (v2.toNatClampNeg) (vlHeld_s (sV x (v2.toNatClampNeg)) 0))) := ⟨_, rfl⟩
      replace hf := keep_e hf x19 hx19
      have hP : va_P D vwCl (W_S cI cV vf a ad x19) H := by rw [hx19]; exact hP
      have hD : va_D A (W_S cI cV vf a ad x19) := by rw [hx19]; exact hD
      obtain ⟨y20, hy20⟩ : ∃ z : Int32, z = (v2 + 1) := ⟨_, rfl⟩
      replace hf := keep_e hf y20 hy20
      refine lv_iinc (v := y20) (lv' := [(2, .int y20), (0, .ref (a 0)), (1, .int v1)]) hx hb dX7_restart_28 hl (k := 2) rfl (by rw [hy20]; rfl) (by decide) rfl (fun ls hl => ?_)
      refine lv_goto (tgt := 12) hx hb dX7_restart_31 (by decide) ?_
      exact hrec12 x19 y20 H locs ls hf hP hD hS (lv_sub hl [1, 2, 0] rfl)
  have L12 : ∀ (v1 : Int32) (fu : Nat) (x : SSt) (v2 : Int32) (H : Heap) (locs : List Loc) (ls : Array Slot), iterK fu (fX7_restart_12 v1 ) (x, v2) = some res → va_P D vwCl (W_S cI cV vf a ad x) H → va_D A (W_S cI cV vf a ad x) → va_S A s.heap H locs → lv_has ls 4 [(0, .ref (a 0)), (1, .int v1), (2, .int v2)] → W p l e ({ frames := 6, cells := 0, slots := 0, locals := 176 } : Room) s m ([.ref (a 0)] : List Value).toArray below meth c H locs 0 0 (MQ below (QW D (TY cI cV cJ cD) (W_S cI cV vf a ad res.1) A (some (.int res.2))) (([.ref (a 0)] : List Value).toArray) s 0 0 A) (F0 m 12 ls []) := by
    intro v1 fu
    induction fu with
    | zero =>
      intro x v2 H locs ls hf
      cases hf
    | succ fu ih =>
      intro x v2 H locs ls hf hP hD hS hl
      exact S12 v1 (iterK fu (fX7_restart_12 v1 )) ih x v2 H locs ls hf hP hD hS hl
  have M0 : ∀ (H : Heap) (locs : List Loc) (ls : Array Slot), fX7_restart x = some res → va_P D vwCl (W_S cI cV vf a ad x) H → va_D A (W_S cI cV vf a ad x) → va_S A s.heap H locs → lv_has ls 4 [(0, .ref (a 0))] → W p l e ({ frames := 6, cells := 0, slots := 0, locals := 176 } : Room) s m ([.ref (a 0)] : List Value).toArray below meth c H locs 0 0 (MQ below (QW D (TY cI cV cJ cD) (W_S cI cV vf a ad res.1) A (some (.int res.2))) (([.ref (a 0)] : List Value).toArray) s 0 0 A) (F0 m 0 ls []) := by
    intro H locs ls hf hP hD hS hl
    dsimp only [fX7_restart] at hf
    refine lv_aload_n hx hb dX7_restart_0 rfl (lv_at hl 0 rfl) ?_
    refine va_get (D := D) (ci := 6) (v := .int (sClk x)) (C := RX7) (T := TX7) (N := 8) hx hb hg in_X7 hown hK hP 0 rfl rfl 5 (by decide) (hg _ w172) (fun _ h9 => h9) rfl dX7_restart_1 ?_
    refine lv_topi (fun y21 hy21 => ?_)
    replace hf := keep_e hf y21 hy21
    refine lv_istore_n (lv' := [(1, .int y21), (0, .ref (a 0))]) hx hb dX7_restart_4 rfl hl (by decide) rfl (fun ls hl => ?_)
    refine lv_aload_n hx hb dX7_restart_5 rfl (lv_at hl 1 rfl) ?_
    refine lv_iconst (v := (-1)) hx hb dX7_restart_6 (by decide) ?_
    refine va_put (D := D) (ci := 6) (v := .int (-1)) (ty := .int) (C := RX7) (T := TX7) (N := 8) hx hb hg in_X7 tyX7 tyX7_ok nmX7 hown hK hP hD hS 0 rfl rfl 4 (by decide) (hg _ w171) (fun _ h9 => h9) rfl (by decide +kernel) rfl rfl (Nat.le_of_ble_eq_true rfl) dX7_restart_7 (fun H locs hP hD hS => ?_)
    obtain ⟨x22, hx22⟩ : ∃ z, z = (sKtw_s x (-1)) := ⟨_, rfl⟩
    replace hf := keep_e hf x22 hx22
    have hP : va_P D vwCl (W_S cI cV vf a ad x22) H := by rw [hx22]; exact hP
    have hD : va_D A (W_S cI cV vf a ad x22) := by rw [hx22]; exact hD
    refine lv_iconst (v := 0) hx hb dX7_restart_10 (by decide) ?_
    refine lv_istore_n (lv' := [(2, .int 0), (1, .int y21), (0, .ref (a 0))]) hx hb dX7_restart_11 rfl hl (by decide) rfl (fun ls hl => ?_)
    exact L12 y21 FU x22 0 H locs ls hf hP hD hS (lv_sub hl [2, 1, 0] rfl)
  exact M0 s.heap [] ls hf hP hD hS hl

def fL_settles_13 (x : QSt) (s0 : Int32) (s1 : Int32) (s2 : Int32) : Option (QSt × Int32) := chk (inb s2 5) (keep (qC_s x (upd (qC x) (s2 : Int32).toNatClampNeg (s1 + s0))) (fun x12 => (fX7_held (qS x12)).bind (fun u13 => (if u13 < 0 then some (x12, 0) else (fX7_held (qS x12)).bind (fun u16 => (if 16 < u16 then some (x12, 0) else some (x12, 1)))))))
def fL_settles (x : QSt) (p1 : Int32) : Option (QSt × Int32) := chk (inb 1 5) ((if p1 = 0 then fL_settles_13 x 0 (qC x (1 : Int32).toNatClampNeg) 1 else fL_settles_13 x 1 (qC x (1 : Int32).toNatClampNeg) 1))
set_option maxHeartbeats 4000000 in
set_option maxRecDepth 100000 in
theorem met_L_settles {D : va_G} {cI cV cJ cD : ClassId} (l : Launch) (hlt : l.stackTraces = false) (vf : Nat → Option Nat) (ad : Nat → Nat → Nat) (a : Nat → Nat) (ac : Nat) (hvf : ∀ k, k < 16 → vf k = some (ad k 0)) (x : QSt) (p1 : Int32) (res : QSt × Int32) (hf : fL_settles x p1 = some res) : MM l yL_settles cL_settles 3 (some .boolean) { frames := 1, cells := 0, slots := 0, locals := 22 } D (TY cI cV cJ cD) (W_Q cI cV vf a ad ac x) (W_Q cI cV vf a ad ac res.1) [.ref (a 0), .int p1, .ref ac] (some (.int res.2)) := by
  intro sz
  refine Met.ofW (cc := cL_settles) (maxL := 3) (ret := (some .boolean)) (by decide +kernel) rfl ?_
  intro p e s m args below meth c s₁ B hml hv
  obtain ⟨rfl, hsz, hP, hK, hD0, hE⟩ := hv
  have hx := B.exec
  have hb := B.bytes
  have hr := B.returns
  have hts := atoms_spec (ws := .code yL_settles cL_settles 3 (some .boolean) :: GW) B.pre
  have hg : ∀ w ∈ GW, w.before (([.ref (a 0), .int p1, .ref ac] : List Value).toArray) s = true := fun w h => hts w (List.mem_cons_of_mem _ h)
  have hown : s.vm.findClass RL = some m.cls := findClass_of_methodNamed B.named
  have hlocks := B.notSynchronized
  subst hsz
  have hD := hD0.self (sz := s.heap.size)
  generalize hAe : va_A (W_Q cI cV vf a ad ac x) s.heap.size = A at hD hE ⊢
  have hA : ∀ q : Nat, s.heap.size ≤ q → A q := fun q h => by rw [← hAe]; exact Or.inr h
  have hS : va_S A s.heap s.heap [] := va_S.rf
  have hl := lv_entry ([.ref (a 0), .int p1, .ref ac]) (n := 3) (Nat.le_of_ble_eq_true rfl)
  rw [lg_entry_eq]
  generalize (lg_sl ([.ref (a 0), .int p1, .ref ac]) ++ List.replicate (3 - (lg_sl ([.ref (a 0), .int p1, .ref ac])).length) Slot.unset).toArray = ls at hl ⊢
  have hl : lv_has ls 3 [(0, .ref (a 0)), (1, .int p1), (2, .ref ac)] := hl
  have L13 : ∀ (x : QSt) (s0 : Int32) (s1 : Int32) (s2 : Int32) (H : Heap) (locs : List Loc) (ls : Array Slot), fL_settles_13 x s0 s1 s2  = some res → va_P D vwCl (W_Q cI cV vf a ad ac x) H → va_D A (W_Q cI cV vf a ad ac x) → va_S A s.heap H locs → lv_has ls 3 [(0, .ref (a 0))] → W p l e ({ frames := 1, cells := 0, slots := 0, locals := 22 } : Room) s m ([.ref (a 0), .int p1, .ref ac] : List Value).toArray below meth c H locs 0 0 (MQ below (QW D (TY cI cV cJ cD) (W_Q cI cV vf a ad ac res.1) A (some (.int res.2))) (([.ref (a 0), .int p1, .ref ac] : List Value).toArray) s 0 0 A) (F0 m 13 ls [.int s0, .int s1, .int s2, .ref ac]) := by
    intro x s0 s1 s2 H locs ls hf hP hD hS hl
    dsimp only [fL_settles_13] at hf
    refine lv_iadd hx hb dL_settles_13 ?_
    obtain ⟨hi11, hf⟩ := chk_t hf
    refine va_iast hx hb hK hP hD hS 0 0 rfl rfl (inb_in hi11) dL_settles_14 (fun H locs hP hD hS => ?_)
    obtain ⟨x12, hx12⟩ : ∃ z, z = (qC_s x (upd (qC x) (s2 : Int32).toNatClampNeg (s1 + s0))) := ⟨_, rfl⟩
    replace hf := keep_e hf x12 hx12
    have hP : va_P D vwCl (W_Q cI cV vf a ad ac x12) H := by rw [hx12]; exact hP
    have hD : va_D A (W_Q cI cV vf a ad ac x12) := by rw [hx12]; exact hD
    refine lv_aload_n hx hb dL_settles_15 rfl (lv_at hl 0 rfl) ?_
    obtain ⟨u13, hc14, hf⟩ := bind_t hf
    refine k_VP (ws' := W_Q cI cV vf a ad ac x12) (As := []) (rest := []) (n := 0) ⟨hx, hb, hml, hown, hts⟩ (met_X7_held l vf ad a hvf (qS x12)  u13 hc14) w676 w677 w678 w1 w679 ⟨rfl, by decide +kernel, by decide +kernel, by decide +kernel⟩ ⟨Nat.le_of_ble_eq_true rfl, Nat.le_of_ble_eq_true rfl⟩ hK hE hP hD hS hA (cut_QSi x12) 0 6 rfl rfl rfl rfl hl.1 rfl (Nat.le_of_ble_eq_true rfl) dL_settles_16 ⟨Nat.le_of_ble_eq_true rfl, Nat.le_of_ble_eq_true rfl⟩ (fun H locs hP hD hS => ?_)
    try dsimp only at hf
    refine W.eq (g2 := F0 m 19 ls [.int u13]) rfl ?_
    refine lv_if_lt (tgt := 35) hx hb dL_settles_19 (by decide) (fun c15 => ?_) (fun c15 => ?_)
    · replace hf := if_t c15 hf
      refine lv_iconst (v := 0) hx hb dL_settles_35 (by decide) ?_
      obtain rfl := Option.some.inj hf
      exact W.zret (v := 0) hx hb hr (by decide +kernel) (fun t ht hW => ⟨rfl, by rw [ht]; exact hP, va_K.moved hW.alike hK, hD, hS.F ht⟩) hS.2.2 dL_settles_36 hlocks
    · replace hf := if_f c15 hf
      refine lv_aload_n hx hb dL_settles_22 rfl (lv_at hl 0 rfl) ?_
      obtain ⟨u16, hc17, hf⟩ := bind_t hf
      refine k_VP (ws' := W_Q cI cV vf a ad ac x12) (As := []) (rest := []) (n := 0) ⟨hx, hb, hml, hown, hts⟩ (met_X7_held l vf ad a hvf (qS x12)  u16 hc17) w676 w677 w678 w1 w679 ⟨rfl, by decide +kernel, by decide +kernel, by decide +kernel⟩ ⟨Nat.le_of_ble_eq_true rfl, Nat.le_of_ble_eq_true rfl⟩ hK hE hP hD hS hA (cut_QSi x12) 0 6 rfl rfl rfl rfl hl.1 rfl (Nat.le_of_ble_eq_true rfl) dL_settles_23 ⟨Nat.le_of_ble_eq_true rfl, Nat.le_of_ble_eq_true rfl⟩ (fun H locs hP hD hS => ?_)
      try dsimp only at hf
      refine W.eq (g2 := F0 m 26 ls [.int u16]) rfl ?_
      refine lv_bipush (v := 16) hx hb dL_settles_26 (by decide) ?_
      refine lv_icmp_gt (tgt := 35) hx hb dL_settles_28 (by decide) (fun c18 => ?_) (fun c18 => ?_)
      · replace hf := if_t c18 hf
        refine lv_iconst (v := 0) hx hb dL_settles_35 (by decide) ?_
        obtain rfl := Option.some.inj hf
        exact W.zret (v := 0) hx hb hr (by decide +kernel) (fun t ht hW => ⟨rfl, by rw [ht]; exact hP, va_K.moved hW.alike hK, hD, hS.F ht⟩) hS.2.2 dL_settles_36 hlocks
      · replace hf := if_f c18 hf
        refine lv_iconst (v := 1) hx hb dL_settles_31 (by decide) ?_
        refine lv_goto (tgt := 36) hx hb dL_settles_32 (by decide) ?_
        obtain rfl := Option.some.inj hf
        exact W.zret (v := 1) hx hb hr (by decide +kernel) (fun t ht hW => ⟨rfl, by rw [ht]; exact hP, va_K.moved hW.alike hK, hD, hS.F ht⟩) hS.2.2 dL_settles_36 hlocks
  have M0 : ∀ (H : Heap) (locs : List Loc) (ls : Array Slot), fL_settles x p1 = some res → va_P D vwCl (W_Q cI cV vf a ad ac x) H → va_D A (W_Q cI cV vf a ad ac x) → va_S A s.heap H locs → lv_has ls 3 [(0, .ref (a 0)), (1, .int p1), (2, .ref ac)] → W p l e ({ frames := 1, cells := 0, slots := 0, locals := 22 } : Room) s m ([.ref (a 0), .int p1, .ref ac] : List Value).toArray below meth c H locs 0 0 (MQ below (QW D (TY cI cV cJ cD) (W_Q cI cV vf a ad ac res.1) A (some (.int res.2))) (([.ref (a 0), .int p1, .ref ac] : List Value).toArray) s 0 0 A) (F0 m 0 ls []) := by
    intro H locs ls hf hP hD hS hl
    dsimp only [fL_settles] at hf
    refine lv_aload_n hx hb dL_settles_0 rfl (lv_at hl 2 rfl) ?_
    refine lv_iconst (v := 1) hx hb dL_settles_1 (by decide) ?_
    refine lv_dup2_11 hx hb dL_settles_2 rfl rfl ?_
    obtain ⟨hi19, hf⟩ := chk_t hf
    refine va_iald hx hb hK hP 0 0 rfl rfl (inb_in hi19) dL_settles_3 ?_
    refine lv_iload_n hx hb dL_settles_4 rfl (lv_at hl 1 rfl) ?_
    refine lv_if_eq (tgt := 12) hx hb dL_settles_5 (by decide) (fun c20 => ?_) (fun c20 => ?_)
    · replace hf := if_t c20 hf
      refine lv_iconst (v := 0) hx hb dL_settles_12 (by decide) ?_
      exact L13 x 0 (qC x (1 : Int32).toNatClampNeg) 1 H locs ls hf hP hD hS (lv_sub hl [0] rfl)
    · replace hf := if_f c20 hf
      refine lv_iconst (v := 1) hx hb dL_settles_8 (by decide) ?_
      refine lv_goto (tgt := 13) hx hb dL_settles_9 (by decide) ?_
      exact L13 x 1 (qC x (1 : Int32).toNatClampNeg) 1 H locs ls hf hP hD hS (lv_sub hl [0] rfl)
  exact M0 s.heap [] ls hf hP hD hS hl
def fL_rewrites_5 (x : QSt) (rec5 : Int32 × Int32 → Option (QSt × Int32)) (s : Int32 × Int32) : Option (QSt × Int32) := match s with | (v3, v4) => (if 16 ≤ v4 then chk (inb 2 5) (keep (qC_s x (upd (qC x) (2 : Int32).toNatClampNeg 1)) (fun x29 => chk (inb 3 5) (keep (qC_s x29 (upd (qC x29) (3 : Int32).toNatClampNeg v3)) (fun x31 => chk (inb 1 5) (chk (inb 4 5) (keep (qC_s x31 (upd (qC x31) (4 : Int32).toNatClampNeg (qC x31 (1 : Int32).toNatClampNeg))) (fun x34 => (fX7_rewrite (qS x34)).bind (fun u35 => keep (qS_s x34 u35.1) (fun x37 => (if u35.2 = v3 then (fX7_rows 0 (foc 0 (qS x37))).bind (fun u39 => chk (inb 1 5) ((if u39 = (qC x37 (1 : Int32).toNatClampNeg) then some (x37, 1) else some (x37, 0)))) else some (x37, 0))))))))))) else chk (decide (((v4 : Int32).toNatClampNeg) < 16)) ((fX7_typeOf ((v4 : Int32).toNatClampNeg) (foc ((v4 : Int32).toNatClampNeg) (qS x)) v4).bind (fun u43 => thr u43 (fun k47 => none) (fun r46 => (if r46 ≤ 0 then keep (v3 + 0) (fun y49 => keep (v4 + 1) (fun y50 => rec5 (y49, y50))) else keep (v3 + 1) (fun y51 => keep (v4 + 1) (fun y52 => rec5 (y51, y52))))))))
def fL_rewrites (x : QSt) (p2 : Int32) : Option (QSt × Int32) := iterK FU (fL_rewrites_5 x) (0, 0)
set_option maxHeartbeats 4000000 in
set_option maxRecDepth 100000 in
theorem met_L_rewrites {D : va_G} {cI cV cJ cD : ClassId} (l : Launch) (hlt : l.stackTraces = false) (vf : Nat → Option Nat) (ad : Nat → Nat → Nat) (a : Nat → Nat) (ac : Nat) (hvf : ∀ k, k < 16 → vf k = some (ad k 0)) (x : QSt) (p2 : Int32) (res : QSt × Int32) (hf : fL_rewrites x p2 = some res) : MM l yL_rewrites cL_rewrites 5 (some .boolean) { frames := 8, cells := 0, slots := 0, locals := 153 } D (TY cI cV cJ cD) (W_Q cI cV vf a ad ac x) (W_Q cI cV vf a ad ac res.1) [.ref (a 0), .ref ac, .int p2] (some (.int res.2)) := by
  intro sz
  refine Met.ofW (cc := cL_rewrites) (maxL := 5) (ret := (some .boolean)) (by decide +kernel) rfl ?_
  intro p e s m args below meth c s₁ B hml hv
  obtain ⟨rfl, hsz, hP, hK, hD0, hE⟩ := hv
  have hx := B.exec
  have hb := B.bytes
  have hr := B.returns
  have hts := atoms_spec (ws := .code yL_rewrites cL_rewrites 5 (some .boolean) :: GW) B.pre
  have hg : ∀ w ∈ GW, w.before (([.ref (a 0), .ref ac, .int p2] : List Value).toArray) s = true := fun w h => hts w (List.mem_cons_of_mem _ h)
  have hown : s.vm.findClass RL = some m.cls := findClass_of_methodNamed B.named
  have hlocks := B.notSynchronized
  subst hsz
  have hD := hD0.self (sz := s.heap.size)
  generalize hAe : va_A (W_Q cI cV vf a ad ac x) s.heap.size = A at hD hE ⊢
  have hA : ∀ q : Nat, s.heap.size ≤ q → A q := fun q h => by rw [← hAe]; exact Or.inr h
  have hS : va_S A s.heap s.heap [] := va_S.rf
  have hl := lv_entry ([.ref (a 0), .ref ac, .int p2]) (n := 5) (Nat.le_of_ble_eq_true rfl)
  rw [lg_entry_eq]
  generalize (lg_sl ([.ref (a 0), .ref ac, .int p2]) ++ List.replicate (5 - (lg_sl ([.ref (a 0), .ref ac, .int p2])).length) Slot.unset).toArray = ls at hl ⊢
  have hl : lv_has ls 5 [(0, .ref (a 0)), (1, .ref ac), (2, .int p2)] := hl
  have S5 : ∀ (x : QSt) (rec5 : Int32 × Int32 → Option (QSt × Int32)) (hrec5 : ∀ (v3 : Int32), ∀ (v4 : Int32), ∀ (H : Heap) (locs : List Loc) (ls : Array Slot), rec5 (v3, v4) = some res → va_P D vwCl (W_Q cI cV vf a ad ac x) H → va_D A (W_Q cI cV vf a ad ac x) → va_S A s.heap H locs → lv_has ls 5 [(0, .ref (a 0)), (1, .ref ac), (3, .int v3), (4, .int v4)] → W p l e ({ frames := 8, cells := 0, slots := 0, locals := 153 } : Room) s m ([.ref (a 0), .ref ac, .int p2] : List Value).toArray below meth c H locs 0 0 (MQ below (QW D (TY cI cV cJ cD) (W_Q cI cV vf a ad ac res.1) A (some (.int res.2))) (([.ref (a 0), .ref ac, .int p2] : List Value).toArray) s 0 0 A) (F0 m 5 ls [])) (v3 : Int32) (v4 : Int32) (H : Heap) (locs : List Loc) (ls : Array Slot), fL_rewrites_5 x  rec5 (v3, v4) = some res → va_P D vwCl (W_Q cI cV vf a ad ac x) H → va_D A (W_Q cI cV vf a ad ac x) → va_S A s.heap H locs → lv_has ls 5 [(0, .ref (a 0)), (1, .ref ac), (3, .int v3), (4, .int v4)] → W p l e ({ frames := 8, cells := 0, slots := 0, locals := 153 } : Room) s m ([.ref (a 0), .ref ac, .int p2] : List Value).toArray below meth c H locs 0 0 (MQ below (QW D (TY cI cV cJ cD) (W_Q cI cV vf a ad ac res.1) A (some (.int res.2))) (([.ref (a 0), .ref ac, .int p2] : List Value).toArray) s 0 0 A) (F0 m 5 ls []) := by
    intro x rec5 hrec5 v3 v4 H locs ls hf hP hD hS hl
    dsimp only [fL_rewrites_5] at hf
    refine lv_iload hx hb dL_rewrites_5 (lv_at hl 3 rfl) ?_
    refine lv_bipush (v := 16) hx hb dL_rewrites_7 (by decide) ?_
    refine lv_icmp_ge (tgt := 35) hx hb dL_rewrites_9 (by decide) (fun c27 => ?_) (fun c27 => ?_)
    · replace hf := if_t c27 hf
      refine lv_aload_n hx hb dL_rewrites_35 rfl (lv_at hl 1 rfl) ?_
      refine lv_iconst (v := 2) hx hb dL_rewrites_36 (by decide) ?_
      refine lv_iconst (v := 1) hx hb dL_rewrites_37 (by decide) ?_
      obtain ⟨hi28, hf⟩ := chk_t hf
      refine va_iast hx hb hK hP hD hS 0 0 rfl rfl (inb_in hi28) dL_rewrites_38 (fun H locs hP hD hS => ?_)
      obtain ⟨x29, hx29⟩ : ∃ z, z = (qC_s x (upd (qC x) (2 : Int32).toNatClampNeg 1)) := ⟨_, rfl⟩
      replace hf := keep_e hf x29 hx29
      have hP : va_P D vwCl (W_Q cI cV vf a ad ac x29) H := by rw [hx29]; exact hP
      have hD : va_D A (W_Q cI cV vf a ad ac x29) := by rw [hx29]; exact hD
      refine lv_aload_n hx hb dL_rewrites_39 rfl (lv_at hl 1 rfl) ?_
      refine lv_iconst (v := 3) hx hb dL_rewrites_40 (by decide) ?_
      refine lv_iload_n hx hb dL_rewrites_41 rfl (lv_at hl 2 rfl) ?_
      obtain ⟨hi30, hf⟩ := chk_t hf
      refine va_iast hx hb hK hP hD hS 0 0 rfl rfl (inb_in hi30) dL_rewrites_42 (fun H locs hP hD hS => ?_)
      obtain ⟨x31, hx31⟩ : ∃ z, z = (qC_s x29 (upd (qC x29) (3 : Int32).toNatClampNeg v3)) := ⟨_, rfl⟩
      replace hf := keep_e hf x31 hx31
      have hP : va_P D vwCl (W_Q cI cV vf a ad ac x31) H := by rw [hx31]; exact hP
      have hD : va_D A (W_Q cI cV vf a ad ac x31) := by rw [hx31]; exact hD
      refine lv_aload_n hx hb dL_rewrites_43 rfl (lv_at hl 1 rfl) ?_
      refine lv_iconst (v := 4) hx hb dL_rewrites_44 (by decide) ?_
      refine lv_aload_n hx hb dL_rewrites_45 rfl (lv_at hl 1 rfl) ?_
      refine lv_iconst (v := 1) hx hb dL_rewrites_46 (by decide) ?_
      obtain ⟨hi32, hf⟩ := chk_t hf
      refine va_iald hx hb hK hP 0 0 rfl rfl (inb_in hi32) dL_rewrites_47 ?_
      obtain ⟨hi33, hf⟩ := chk_t hf
      refine va_iast hx hb hK hP hD hS 0 0 rfl rfl (inb_in hi33) dL_rewrites_48 (fun H locs hP hD hS => ?_)
      obtain ⟨x34, hx34⟩ : ∃ z, z = (qC_s x31 (upd (qC x31) (4 : Int32).toNatClampNeg (qC x31 (1 : Int32).toNatClampNeg))) := ⟨_, rfl⟩
      replace hf := keep_e hf x34 hx34
      have hP : va_P D vwCl (W_Q cI cV vf a ad ac x34) H := by rw [hx34]; exact hP
      have hD : va_D A (W_Q cI cV vf a ad ac x34) := by rw [hx34]; exact hD
      refine lv_aload_n hx hb dL_rewrites_49 rfl (lv_at hl 0 rfl) ?_
      obtain ⟨u35, hc36, hf⟩ := bind_t hf
      refine k_VP (ws' := W_Q cI cV vf a ad ac (qS_s x34 u35.1)) (As := []) (rest := []) (n := 0) ⟨hx, hb, hml, hown, hts⟩ (met_X7_rewrite l vf ad a hvf (qS x34)  u35 hc36) w710 w711 w712 w1 w713 ⟨rfl, by decide +kernel, by decide +kernel, by decide +kernel⟩ ⟨Nat.le_of_ble_eq_true rfl, Nat.le_of_ble_eq_true rfl⟩ hK hE hP hD hS hA (cut_QS x34 u35.1) 0 6 rfl rfl rfl rfl hl.1 rfl (Nat.le_of_ble_eq_true rfl) dL_rewrites_50 ⟨Nat.le_of_ble_eq_true rfl, Nat.le_of_ble_eq_true rfl⟩ (fun H locs hP hD hS => ?_)
      try dsimp only at hf
      refine W.eq (g2 := F0 m 53 ls [.int u35.2]) rfl ?_
      obtain ⟨x37, hx37⟩ : ∃ z, z = (qS_s x34 u35.1) := ⟨_, rfl⟩
      replace hf := keep_e hf x37 hx37
      have hP : va_P D vwCl (W_Q cI cV vf a ad ac x37) H := by rw [hx37]; exact hP
      have hD : va_D A (W_Q cI cV vf a ad ac x37) := by rw [hx37]; exact hD
      refine lv_iload_n hx hb dL_rewrites_53 rfl (lv_at hl 2 rfl) ?_
      refine lv_icmp_ne (tgt := 71) hx hb dL_rewrites_54 (by decide) (fun c38 => ?_) (fun c38 => ?_)
      · replace hf := if_f c38 hf
        refine lv_iconst (v := 0) hx hb dL_rewrites_71 (by decide) ?_
        obtain rfl := Option.some.inj hf
        exact W.zret (v := 0) hx hb hr (by decide +kernel) (fun t ht hW => ⟨rfl, by rw [ht]; exact hP, va_K.moved hW.alike hK, hD, hS.F ht⟩) hS.2.2 dL_rewrites_72 hlocks
      · replace hf := if_t c38 hf
        refine lv_aload_n hx hb dL_rewrites_57 rfl (lv_at hl 0 rfl) ?_
        obtain ⟨u39, hc40, hf⟩ := bind_t hf
        refine k_VP (ws' := W_Q cI cV vf a ad ac x37) (As := []) (rest := []) (n := 0) ⟨hx, hb, hml, hown, hts⟩ (met_X7_rows l 0 vf (foA a (ad 0)) (hvf _ (by decide : 0 < 16)) (foc 0 (qS x37))  u39 hc40) w669 w670 w671 w1 w672 ⟨rfl, by decide +kernel, by decide +kernel, by decide +kernel⟩ ⟨Nat.le_of_ble_eq_true rfl, Nat.le_of_ble_eq_true rfl⟩ hK hE hP hD hS hA (cut_QFi x37 (by decide : 0 < 16)) 0 6 rfl rfl rfl rfl hl.1 rfl (Nat.le_of_ble_eq_true rfl) dL_rewrites_58 ⟨Nat.le_of_ble_eq_true rfl, Nat.le_of_ble_eq_true rfl⟩ (fun H locs hP hD hS => ?_)
        try dsimp only at hf
        refine W.eq (g2 := F0 m 61 ls [.int u39]) rfl ?_
        refine lv_aload_n hx hb dL_rewrites_61 rfl (lv_at hl 1 rfl) ?_
        refine lv_iconst (v := 1) hx hb dL_rewrites_62 (by decide) ?_
        obtain ⟨hi41, hf⟩ := chk_t hf
        refine va_iald hx hb hK hP 0 0 rfl rfl (inb_in hi41) dL_rewrites_63 ?_
        refine lv_icmp_ne (tgt := 71) hx hb dL_rewrites_64 (by decide) (fun c42 => ?_) (fun c42 => ?_)
        · replace hf := if_f c42 hf
          refine lv_iconst (v := 0) hx hb dL_rewrites_71 (by decide) ?_
          obtain rfl := Option.some.inj hf
          exact W.zret (v := 0) hx hb hr (by decide +kernel) (fun t ht hW => ⟨rfl, by rw [ht]; exact hP, va_K.moved hW.alike hK, hD, hS.F ht⟩) hS.2.2 dL_rewrites_72 hlocks
        · replace hf := if_t c42 hf
          refine lv_iconst (v := 1) hx hb dL_rewrites_67 (by decide) ?_
          refine lv_goto (tgt := 72) hx hb dL_rewrites_68 (by decide) ?_
          obtain rfl := Option.some.inj hf
          exact W.zret (v := 1) hx hb hr (by decide +kernel) (fun t ht hW => ⟨rfl, by rw [ht]; exact hP, va_K.moved hW.alike hK, hD, hS.F ht⟩) hS.2.2 dL_rewrites_72 hlocks
    · replace hf := if_f c27 hf
      refine lv_iload_n hx hb dL_rewrites_12 rfl (lv_at hl 2 rfl) ?_
      refine lv_aload_n hx hb dL_rewrites_13 rfl (lv_at hl 0 rfl) ?_
      refine lv_iload hx hb dL_rewrites_14 (lv_at hl 3 rfl) ?_
      obtain ⟨hk45, hf⟩ := chk_t hf
      replace hk45 := of_decide_eq_true hk45
      obtain ⟨u43, hc44, hf⟩ := bind_t hf
      rcases u43 with r46 | k47
      rotate_left
      · exact (thr_n hf).elim
      replace hf := thr_v hf rfl
      refine k_VP (ws' := W_Q cI cV vf a ad ac x) (As := [.int v4]) (rest := [.int v3]) (n := 1) ⟨hx, hb, hml, hown, hts⟩ (met0_X7_typeOf l ((v4 : Int32).toNatClampNeg) vf (foA a (ad ((v4 : Int32).toNatClampNeg))) (hvf _ hk45) (foc ((v4 : Int32).toNatClampNeg) (qS x)) v4 r46 hc44) w205 w206 w207 w1 w208 ⟨rfl, by decide +kernel, by decide +kernel, by decide +kernel⟩ ⟨Nat.le_of_ble_eq_true rfl, Nat.le_of_ble_eq_true rfl⟩ hK hE hP hD hS hA (cut_QFi x hk45) 0 6 rfl rfl rfl rfl hl.1 rfl (Nat.le_of_ble_eq_true rfl) dL_rewrites_16 ⟨Nat.le_of_ble_eq_true rfl, Nat.le_of_ble_eq_true rfl⟩ (fun H locs hP hD hS => ?_)
      try dsimp only at hf
      refine W.eq (g2 := F0 m 19 ls [.int r46, .int v3]) rfl ?_
      refine lv_if_le (tgt := 26) hx hb dL_rewrites_19 (by decide) (fun c48 => ?_) (fun c48 => ?_)
      · replace hf := if_t c48 hf
        refine lv_iconst (v := 0) hx hb dL_rewrites_26 (by decide) ?_
        refine lv_iadd hx hb dL_rewrites_27 ?_
        refine lv_topi (fun y49 hy49 => ?_)
        replace hf := keep_e hf y49 hy49
        refine lv_istore_n (lv' := [(3, .int y49), (0, .ref (a 0)), (1, .ref ac), (4, .int v4)]) hx hb dL_rewrites_28 rfl hl (by decide) rfl (fun ls hl => ?_)
        obtain ⟨y50, hy50⟩ : ∃ z : Int32, z = (v4 + 1) := ⟨_, rfl⟩
        replace hf := keep_e hf y50 hy50
        refine lv_iinc (v := y50) (lv' := [(4, .int y50), (3, .int y49), (0, .ref (a 0)), (1, .ref ac)]) hx hb dL_rewrites_29 hl (k := 3) rfl (by rw [hy50]; rfl) (by decide) rfl (fun ls hl => ?_)
        refine lv_goto (tgt := 5) hx hb dL_rewrites_32 (by decide) ?_
        exact hrec5 y49 y50 H locs ls hf hP hD hS (lv_sub hl [2, 3, 1, 0] rfl)
      · replace hf := if_f c48 hf
        refine lv_iconst (v := 1) hx hb dL_rewrites_22 (by decide) ?_
        refine lv_goto (tgt := 27) hx hb dL_rewrites_23 (by decide) ?_
        refine lv_iadd hx hb dL_rewrites_27 ?_
        refine lv_topi (fun y51 hy51 => ?_)
        replace hf := keep_e hf y51 hy51
        refine lv_istore_n (lv' := [(3, .int y51), (0, .ref (a 0)), (1, .ref ac), (4, .int v4)]) hx hb dL_rewrites_28 rfl hl (by decide) rfl (fun ls hl => ?_)
        obtain ⟨y52, hy52⟩ : ∃ z : Int32, z = (v4 + 1) := ⟨_, rfl⟩
        replace hf := keep_e hf y52 hy52
        refine lv_iinc (v := y52) (lv' := [(4, .int y52), (3, .int y51), (0, .ref (a 0)), (1, .ref ac)]) hx hb dL_rewrites_29 hl (k := 3) rfl (by rw [hy52]; rfl) (by decide) rfl (fun ls hl => ?_)
        refine lv_goto (tgt := 5) hx hb dL_rewrites_32 (by decide) ?_
        exact hrec5 y51 y52 H locs ls hf hP hD hS (lv_sub hl [2, 3, 1, 0] rfl)
  have L5 : ∀ (x : QSt) (fu : Nat) (v3 : Int32) (v4 : Int32) (H : Heap) (locs : List Loc) (ls : Array Slot), iterK fu (fL_rewrites_5 x ) (v3, v4) = some res → va_P D vwCl (W_Q cI cV vf a ad ac x) H → va_D A (W_Q cI cV vf a ad ac x) → va_S A s.heap H locs → lv_has ls 5 [(0, .ref (a 0)), (1, .ref ac), (3, .int v3), (4, .int v4)] → W p l e ({ frames := 8, cells := 0, slots := 0, locals := 153 } : Room) s m ([.ref (a 0), .ref ac, .int p2] : List Value).toArray below meth c H locs 0 0 (MQ below (QW D (TY cI cV cJ cD) (W_Q cI cV vf a ad ac res.1) A (some (.int res.2))) (([.ref (a 0), .ref ac, .int p2] : List Value).toArray) s 0 0 A) (F0 m 5 ls []) := by
    intro x fu
    induction fu with
    | zero =>
      intro v3 v4 H locs ls hf
      cases hf
    | succ fu ih =>
      intro v3 v4 H locs ls hf hP hD hS hl
      exact S5 x (iterK fu (fL_rewrites_5 x )) ih v3 v4 H locs ls hf hP hD hS hl
  have M0 : ∀ (H : Heap) (locs : List Loc) (ls : Array Slot), fL_rewrites x p2 = some res → va_P D vwCl (W_Q cI cV vf a ad ac x) H → va_D A (W_Q cI cV vf a ad ac x) → va_S A s.heap H locs → lv_has ls 5 [(0, .ref (a 0)), (1, .ref ac), (2, .int p2)] → W p l e ({ frames := 8, cells := 0, slots := 0, locals := 153 } : Room) s m ([.ref (a 0), .ref ac, .int p2] : List Value).toArray below meth c H locs 0 0 (MQ below (QW D (TY cI cV cJ cD) (W_Q cI cV vf a ad ac res.1) A (some (.int res.2))) (([.ref (a 0), .ref ac, .int p2] : List Value).toArray) s 0 0 A) (F0 m 0 ls []) := by
    intro H locs ls hf hP hD hS hl
    dsimp only [fL_rewrites] at hf
    refine lv_iconst (v := 0) hx hb dL_rewrites_0 (by decide) ?_
    refine lv_istore_n (lv' := [(3, .int 0), (0, .ref (a 0)), (1, .ref ac), (2, .int p2)]) hx hb dL_rewrites_1 rfl hl (by decide) rfl (fun ls hl => ?_)
    refine lv_iconst (v := 0) hx hb dL_rewrites_2 (by decide) ?_
    refine lv_istore (lv' := [(4, .int 0), (3, .int 0), (0, .ref (a 0)), (1, .ref ac), (2, .int p2)]) hx hb dL_rewrites_3 hl (by decide) rfl (fun ls hl => ?_)
    exact L5 x FU  0 0 H locs ls hf hP hD hS (lv_sub hl [2, 3, 1, 0] rfl)
  exact M0 s.heap [] ls hf hP hD hS hl
def fL_goesOn_118 (x : GoSt) (v4 : Int32) (v5 : Int32) (s0 : Int32) (s1 : Int32) : Option (GoSt × Int32) := chk (inb s1 5) (keep (gqC_s x (upd (gqC x) (s1 : Int32).toNatClampNeg s0)) (fun x44 => chk (inb 1 5) (keep (gqC_s x44 (upd (gqC x44) (1 : Int32).toNatClampNeg v4)) (fun x46 => chk (isB v5) (some (x46, v5))))))
def fL_goesOn_103 (x : GoSt) (v4 : Int32) (s0 : Int32) : Option (GoSt × Int32) := chk (inb 3 5) ((if (gqC x (3 : Int32).toNatClampNeg) ≤ 0 then fL_goesOn_118 x v4 s0 0 2 else fL_goesOn_118 x v4 s0 1 2))
def fL_goesOn_102 (x : GoSt) (v4 : Int32) : Option (GoSt × Int32) := fL_goesOn_103 x v4 0
def fL_goesOn_98 (x : GoSt) (v4 : Int32) : Option (GoSt × Int32) := fL_goesOn_103 x v4 1
def fL_goesOn_47 (x : GoSt) (v3 : Int32) (s0 : Int32) (s1 : Int32) : Option (GoSt × Int32) := chk (inb s1 5) (keep (gqC_s x (upd (gqC x) (s1 : Int32).toNatClampNeg s0)) (fun x51 => (fX7_rows 0 (foc 0 (gqS x51))).bind (fun u52 => chk (inb 3 5) ((if v3 = (gqC x51 (3 : Int32).toNatClampNeg) then chk (inb 3 5) ((if (gqC x51 (3 : Int32).toNatClampNeg) ≤ 0 then chk (inb 1 5) ((if (gqC x51 (1 : Int32).toNatClampNeg) < u52 then fL_goesOn_102 x51 u52 else chk (inb 1 5) (chk (inb 4 5) ((if u52 < ((gqC x51 (1 : Int32).toNatClampNeg) - (gqC x51 (4 : Int32).toNatClampNeg)) then fL_goesOn_102 x51 u52 else fL_goesOn_98 x51 u52))))) else chk (inb 1 5) ((if u52 = (gqC x51 (1 : Int32).toNatClampNeg) then fL_goesOn_98 x51 u52 else fL_goesOn_102 x51 u52)))) else fL_goesOn_102 x51 u52)))))
def fL_goesOn (x : QSt) (p1 : Int32) : Option (GoSt × Int32) := keep (gqI x) (fun x0 => (fL_asks12 0 (foc 0 (gqS x0)) 12 p1 0 0 0).bind (fun u65 => (if u65.2.1 = 2 then keep (unf 0 (gqS x0) u65.1, gqC x0, gqB x0) (fun x68 => keep u65.2.2 (fun y71 => chk (inb 2 5) ((if (gqC x68 (2 : Int32).toNatClampNeg) = 0 then (if y71 = (-108) then some (x68, 1) else some (x68, 0)) else chk (inb 3 5) ((if (gqC x68 (3 : Int32).toNatClampNeg) ≤ p1 then fL_goesOn_47 x68 y71 0 3 else chk (inb 3 5) (fL_goesOn_47 x68 y71 ((gqC x68 (3 : Int32).toNatClampNeg) - p1) 3))))))) else chk (decide (u65.2.1 = 4)) (keep (unf 0 (gqS x0) (swL u65.1), gqC x0, !gqB x0) (fun x70 => keep u65.2.2 (fun y78 => chk (inb 2 5) ((if (gqC x70 (2 : Int32).toNatClampNeg) = 0 then (if y78 = (-108) then some (x70, 1) else some (x70, 0)) else chk (inb 3 5) ((if (gqC x70 (3 : Int32).toNatClampNeg) ≤ p1 then fL_goesOn_47 x70 y78 0 3 else chk (inb 3 5) (fL_goesOn_47 x70 y78 ((gqC x70 (3 : Int32).toNatClampNeg) - p1) 3)))))))))))
set_option maxHeartbeats 4000000 in
set_option maxRecDepth 100000 in
theorem met_L_goesOn {D : va_G} {cI cV cJ cD : ClassId} (l : Launch) (hlt : l.stackTraces = false) (vf : Nat → Option Nat) (ad : Nat → Nat → Nat) (a : Nat → Nat) (ac : Nat) (hvf : ∀ k, k < 16 → vf k = some (ad k 0)) (x : QSt) (p1 : Int32) (res : GoSt × Int32) (hf : fL_goesOn x p1 = some res) : MM l yL_goesOn cL_goesOn 6 (some .boolean) { frames := 9, cells := 2, slots := 12, locals := 170 } D (TY cI cV cJ cD) (W_Q cI cV vf a ad ac x) (W_G cI cV vf a ad ac res.1) [.ref (a 0), .int p1, .ref ac] (some (.int res.2)) := by
  intro sz
  refine Met.ofW (cc := cL_goesOn) (maxL := 6) (ret := (some .boolean)) (by decide +kernel) rfl ?_
  intro p e s m args below meth c s₁ B hml hv
  obtain ⟨rfl, hsz, hP, hK, hD0, hE⟩ := hv
  have hx := B.exec
  have hb := B.bytes
  have hr := B.returns
  have hts := atoms_spec (ws := .code yL_goesOn cL_goesOn 6 (some .boolean) :: GW) B.pre
  have hg : ∀ w ∈ GW, w.before (([.ref (a 0), .int p1, .ref ac] : List Value).toArray) s = true := fun w h => hts w (List.mem_cons_of_mem _ h)
  have hown : s.vm.findClass RL = some m.cls := findClass_of_methodNamed B.named
  have hlocks := B.notSynchronized
  subst hsz
  have hD := hD0.self (sz := s.heap.size)
  generalize hAe : va_A (W_Q cI cV vf a ad ac x) s.heap.size = A at hD hE ⊢
  have hA : ∀ q : Nat, s.heap.size ≤ q → A q := fun q h => by rw [← hAe]; exact Or.inr h
  have hS : va_S A s.heap s.heap [] := va_S.rf
  have hl := lv_entry ([.ref (a 0), .int p1, .ref ac]) (n := 6) (Nat.le_of_ble_eq_true rfl)
  rw [lg_entry_eq]
  generalize (lg_sl ([.ref (a 0), .int p1, .ref ac]) ++ List.replicate (6 - (lg_sl ([.ref (a 0), .int p1, .ref ac])).length) Slot.unset).toArray = ls at hl ⊢
  have hl : lv_has ls 6 [(0, .ref (a 0)), (1, .int p1), (2, .ref ac)] := hl
  have L118 : ∀ (x : GoSt) (v4 : Int32) (v5 : Int32) (s0 : Int32) (s1 : Int32) (H : Heap) (locs : List Loc) (ls : Array Slot), fL_goesOn_118 x v4 v5 s0 s1  = some res → va_P D vwCl (W_G cI cV vf a ad ac x) H → va_D A (W_G cI cV vf a ad ac x) → va_S A s.heap H locs → lv_has ls 6 [(2, .ref ac), (4, .int v4), (5, .int v5)] → W p l e ({ frames := 9, cells := 2, slots := 12, locals := 170 } : Room) s m ([.ref (a 0), .int p1, .ref ac] : List Value).toArray below meth c H locs 2 12 (MQ below (QW D (TY cI cV cJ cD) (W_G cI cV vf a ad ac res.1) A (some (.int res.2))) (([.ref (a 0), .int p1, .ref ac] : List Value).toArray) s 2 12 A) (F0 m 118 ls [.int s0, .int s1, .ref ac]) := by
    intro x v4 v5 s0 s1 H locs ls hf hP hD hS hl
    dsimp only [fL_goesOn_118] at hf
    obtain ⟨hi43, hf⟩ := chk_t hf
    refine va_iast hx hb hK hP hD hS 0 0 rfl rfl (inb_in hi43) dL_goesOn_118 (fun H locs hP hD hS => ?_)
    obtain ⟨x44, hx44⟩ : ∃ z, z = (gqC_s x (upd (gqC x) (s1 : Int32).toNatClampNeg s0)) := ⟨_, rfl⟩
    replace hf := keep_e hf x44 hx44
    have hP : va_P D vwCl (W_G cI cV vf a ad ac x44) H := by rw [hx44]; exact hP
    have hD : va_D A (W_G cI cV vf a ad ac x44) := by rw [hx44]; exact hD
    refine lv_aload_n hx hb dL_goesOn_119 rfl (lv_at hl 0 rfl) ?_
    refine lv_iconst (v := 1) hx hb dL_goesOn_120 (by decide) ?_
    refine lv_iload hx hb dL_goesOn_121 (lv_at hl 1 rfl) ?_
    obtain ⟨hi45, hf⟩ := chk_t hf
    refine va_iast hx hb hK hP hD hS 0 0 rfl rfl (inb_in hi45) dL_goesOn_123 (fun H locs hP hD hS => ?_)
    obtain ⟨x46, hx46⟩ : ∃ z, z = (gqC_s x44 (upd (gqC x44) (1 : Int32).toNatClampNeg v4)) := ⟨_, rfl⟩
    replace hf := keep_e hf x46 hx46
    have hP : va_P D vwCl (W_G cI cV vf a ad ac x46) H := by rw [hx46]; exact hP
    have hD : va_D A (W_G cI cV vf a ad ac x46) := by rw [hx46]; exact hD
    refine lv_iload hx hb dL_goesOn_124 (lv_at hl 2 rfl) ?_
    obtain ⟨hz47, hf⟩ := chk_t hf
    obtain rfl := Option.some.inj hf
    exact W.zret (v := v5) hx hb hr (isB_narrow hz47) (fun t ht hW => ⟨rfl, by rw [ht]; exact hP, va_K.moved hW.alike hK, hD, hS.F ht⟩) hS.2.2 dL_goesOn_126 hlocks
  have L103 : ∀ (x : GoSt) (v4 : Int32) (s0 : Int32) (H : Heap) (locs : List Loc) (ls : Array Slot), fL_goesOn_103 x v4 s0  = some res → va_P D vwCl (W_G cI cV vf a ad ac x) H → va_D A (W_G cI cV vf a ad ac x) → va_S A s.heap H locs → lv_has ls 6 [(2, .ref ac), (4, .int v4)] → W p l e ({ frames := 9, cells := 2, slots := 12, locals := 170 } : Room) s m ([.ref (a 0), .int p1, .ref ac] : List Value).toArray below meth c H locs 2 12 (MQ below (QW D (TY cI cV cJ cD) (W_G cI cV vf a ad ac res.1) A (some (.int res.2))) (([.ref (a 0), .int p1, .ref ac] : List Value).toArray) s 2 12 A) (F0 m 103 ls [.int s0]) := by
    intro x v4 s0 H locs ls hf hP hD hS hl
    dsimp only [fL_goesOn_103] at hf
    refine lv_istore (lv' := [(5, .int s0), (2, .ref ac), (4, .int v4)]) hx hb dL_goesOn_103 hl (by decide) rfl (fun ls hl => ?_)
    refine lv_aload_n hx hb dL_goesOn_105 rfl (lv_at hl 1 rfl) ?_
    refine lv_iconst (v := 2) hx hb dL_goesOn_106 (by decide) ?_
    refine lv_aload_n hx hb dL_goesOn_107 rfl (lv_at hl 1 rfl) ?_
    refine lv_iconst (v := 3) hx hb dL_goesOn_108 (by decide) ?_
    obtain ⟨hi48, hf⟩ := chk_t hf
    refine va_iald hx hb hK hP 0 0 rfl rfl (inb_in hi48) dL_goesOn_109 ?_
    refine lv_if_le (tgt := 117) hx hb dL_goesOn_110 (by decide) (fun c49 => ?_) (fun c49 => ?_)
    · replace hf := if_t c49 hf
      refine lv_iconst (v := 0) hx hb dL_goesOn_117 (by decide) ?_
      exact L118 x v4 s0 0 2 H locs ls hf hP hD hS (lv_sub hl [1, 2, 0] rfl)
    · replace hf := if_f c49 hf
      refine lv_iconst (v := 1) hx hb dL_goesOn_113 (by decide) ?_
      refine lv_goto (tgt := 118) hx hb dL_goesOn_114 (by decide) ?_
      exact L118 x v4 s0 1 2 H locs ls hf hP hD hS (lv_sub hl [1, 2, 0] rfl)
  have L102 : ∀ (x : GoSt) (v4 : Int32) (H : Heap) (locs : List Loc) (ls : Array Slot), fL_goesOn_102 x v4  = some res → va_P D vwCl (W_G cI cV vf a ad ac x) H → va_D A (W_G cI cV vf a ad ac x) → va_S A s.heap H locs → lv_has ls 6 [(2, .ref ac), (4, .int v4)] → W p l e ({ frames := 9, cells := 2, slots := 12, locals := 170 } : Room) s m ([.ref (a 0), .int p1, .ref ac] : List Value).toArray below meth c H locs 2 12 (MQ below (QW D (TY cI cV cJ cD) (W_G cI cV vf a ad ac res.1) A (some (.int res.2))) (([.ref (a 0), .int p1, .ref ac] : List Value).toArray) s 2 12 A) (F0 m 102 ls []) := by
    intro x v4 H locs ls hf hP hD hS hl
    dsimp only [fL_goesOn_102] at hf
    refine lv_iconst (v := 0) hx hb dL_goesOn_102 (by decide) ?_
    exact L103 x v4 0 H locs ls hf hP hD hS (lv_sub hl [0, 1] rfl)
  have L98 : ∀ (x : GoSt) (v4 : Int32) (H : Heap) (locs : List Loc) (ls : Array Slot), fL_goesOn_98 x v4  = some res → va_P D vwCl (W_G cI cV vf a ad ac x) H → va_D A (W_G cI cV vf a ad ac x) → va_S A s.heap H locs → lv_has ls 6 [(2, .ref ac), (4, .int v4)] → W p l e ({ frames := 9, cells := 2, slots := 12, locals := 170 } : Room) s m ([.ref (a 0), .int p1, .ref ac] : List Value).toArray below meth c H locs 2 12 (MQ below (QW D (TY cI cV cJ cD) (W_G cI cV vf a ad ac res.1) A (some (.int res.2))) (([.ref (a 0), .int p1, .ref ac] : List Value).toArray) s 2 12 A) (F0 m 98 ls []) := by
    intro x v4 H locs ls hf hP hD hS hl
    dsimp only [fL_goesOn_98] at hf
    refine lv_iconst (v := 1) hx hb dL_goesOn_98 (by decide) ?_
    refine lv_goto (tgt := 103) hx hb dL_goesOn_99 (by decide) ?_
    exact L103 x v4 1 H locs ls hf hP hD hS (lv_sub hl [0, 1] rfl)
  have L47 : ∀ (x : GoSt) (v3 : Int32) (s0 : Int32) (s1 : Int32) (H : Heap) (locs : List Loc) (ls : Array Slot), fL_goesOn_47 x v3 s0 s1  = some res → va_P D vwCl (W_G cI cV vf a ad ac x) H → va_D A (W_G cI cV vf a ad ac x) → va_S A s.heap H locs → lv_has ls 6 [(0, .ref (a 0)), (2, .ref ac), (3, .int v3)] → W p l e ({ frames := 9, cells := 2, slots := 12, locals := 170 } : Room) s m ([.ref (a 0), .int p1, .ref ac] : List Value).toArray below meth c H locs 2 12 (MQ below (QW D (TY cI cV cJ cD) (W_G cI cV vf a ad ac res.1) A (some (.int res.2))) (([.ref (a 0), .int p1, .ref ac] : List Value).toArray) s 2 12 A) (F0 m 47 ls [.int s0, .int s1, .ref ac]) := by
    intro x v3 s0 s1 H locs ls hf hP hD hS hl
    dsimp only [fL_goesOn_47] at hf
    obtain ⟨hi50, hf⟩ := chk_t hf
    refine va_iast hx hb hK hP hD hS 0 0 rfl rfl (inb_in hi50) dL_goesOn_47 (fun H locs hP hD hS => ?_)
    obtain ⟨x51, hx51⟩ : ∃ z, z = (gqC_s x (upd (gqC x) (s1 : Int32).toNatClampNeg s0)) := ⟨_, rfl⟩
    replace hf := keep_e hf x51 hx51
    have hP : va_P D vwCl (W_G cI cV vf a ad ac x51) H := by rw [hx51]; exact hP
    have hD : va_D A (W_G cI cV vf a ad ac x51) := by rw [hx51]; exact hD
    refine lv_aload_n hx hb dL_goesOn_48 rfl (lv_at hl 0 rfl) ?_
    refine W.eq (g2 := F0 m 49 ls [.ref ((swp (gqB x51) a) 0)]) (by simp only [swp_0]) ?_
    obtain ⟨u52, hc53, hf⟩ := bind_t hf
    refine k_VP (ws' := W_G cI cV vf a ad ac x51) (As := []) (rest := []) (n := 0) ⟨hx, hb, hml, hown, hts⟩ (met_X7_rows l 0 vf (foA (swp (gqB x51) a) (ad 0)) (hvf _ (by decide : 0 < 16)) (foc 0 (gqS x51))  u52 hc53) w669 w670 w671 w1 w672 ⟨rfl, by decide +kernel, by decide +kernel, by decide +kernel⟩ ⟨Nat.le_of_ble_eq_true rfl, Nat.le_of_ble_eq_true rfl⟩ hK hE hP hD hS hA (cut_GFi x51 (by decide : 0 < 16)) 0 6 rfl rfl rfl rfl hl.1 rfl (Nat.le_of_ble_eq_true rfl) dL_goesOn_49 ⟨Nat.le_of_ble_eq_true rfl, Nat.le_of_ble_eq_true rfl⟩ (fun H locs hP hD hS => ?_)
    try dsimp only at hf
    refine W.eq (g2 := F0 m 52 ls [.int u52]) rfl ?_
    refine lv_istore (lv' := [(4, .int u52), (0, .ref (a 0)), (2, .ref ac), (3, .int v3)]) hx hb dL_goesOn_52 hl (by decide) rfl (fun ls hl => ?_)
    refine lv_iload_n hx hb dL_goesOn_54 rfl (lv_at hl 3 rfl) ?_
    refine lv_aload_n hx hb dL_goesOn_55 rfl (lv_at hl 2 rfl) ?_
    refine lv_iconst (v := 3) hx hb dL_goesOn_56 (by decide) ?_
    obtain ⟨hi54, hf⟩ := chk_t hf
    refine va_iald hx hb hK hP 0 0 rfl rfl (inb_in hi54) dL_goesOn_57 ?_
    refine lv_icmp_ne (tgt := 102) hx hb dL_goesOn_58 (by decide) (fun c55 => ?_) (fun c55 => ?_)
    · replace hf := if_f c55 hf
      exact L102 x51 u52 H locs ls hf hP hD hS (lv_sub hl [2, 0] rfl)
    · replace hf := if_t c55 hf
      refine lv_aload_n hx hb dL_goesOn_61 rfl (lv_at hl 2 rfl) ?_
      refine lv_iconst (v := 3) hx hb dL_goesOn_62 (by decide) ?_
      obtain ⟨hi56, hf⟩ := chk_t hf
      refine va_iald hx hb hK hP 0 0 rfl rfl (inb_in hi56) dL_goesOn_63 ?_
      refine lv_if_le (tgt := 78) hx hb dL_goesOn_64 (by decide) (fun c57 => ?_) (fun c57 => ?_)
      · replace hf := if_t c57 hf
        refine lv_iload hx hb dL_goesOn_78 (lv_at hl 0 rfl) ?_
        refine lv_aload_n hx hb dL_goesOn_80 rfl (lv_at hl 2 rfl) ?_
        refine lv_iconst (v := 1) hx hb dL_goesOn_81 (by decide) ?_
        obtain ⟨hi58, hf⟩ := chk_t hf
        refine va_iald hx hb hK hP 0 0 rfl rfl (inb_in hi58) dL_goesOn_82 ?_
        refine lv_icmp_gt (tgt := 102) hx hb dL_goesOn_83 (by decide) (fun c59 => ?_) (fun c59 => ?_)
        · replace hf := if_t c59 hf
          exact L102 x51 u52 H locs ls hf hP hD hS (lv_sub hl [2, 0] rfl)
        · replace hf := if_f c59 hf
          refine lv_iload hx hb dL_goesOn_86 (lv_at hl 0 rfl) ?_
          refine lv_aload_n hx hb dL_goesOn_88 rfl (lv_at hl 2 rfl) ?_
          refine lv_iconst (v := 1) hx hb dL_goesOn_89 (by decide) ?_
          obtain ⟨hi60, hf⟩ := chk_t hf
          refine va_iald hx hb hK hP 0 0 rfl rfl (inb_in hi60) dL_goesOn_90 ?_
          refine lv_aload_n hx hb dL_goesOn_91 rfl (lv_at hl 2 rfl) ?_
          refine lv_iconst (v := 4) hx hb dL_goesOn_92 (by decide) ?_
          obtain ⟨hi61, hf⟩ := chk_t hf
          refine va_iald hx hb hK hP 0 0 rfl rfl (inb_in hi61) dL_goesOn_93 ?_
          refine lv_isub hx hb dL_goesOn_94 ?_
          refine lv_icmp_lt (tgt := 102) hx hb dL_goesOn_95 (by decide) (fun c62 => ?_) (fun c62 => ?_)
          · replace hf := if_t c62 hf
            exact L102 x51 u52 H locs ls hf hP hD hS (lv_sub hl [2, 0] rfl)
          · replace hf := if_f c62 hf
            exact L98 x51 u52 H locs ls hf hP hD hS (lv_sub hl [2, 0] rfl)
      · replace hf := if_f c57 hf
        refine lv_iload hx hb dL_goesOn_67 (lv_at hl 0 rfl) ?_
        refine lv_aload_n hx hb dL_goesOn_69 rfl (lv_at hl 2 rfl) ?_
        refine lv_iconst (v := 1) hx hb dL_goesOn_70 (by decide) ?_
        obtain ⟨hi63, hf⟩ := chk_t hf
        refine va_iald hx hb hK hP 0 0 rfl rfl (inb_in hi63) dL_goesOn_71 ?_
        refine lv_icmp_ne (tgt := 102) hx hb dL_goesOn_72 (by decide) (fun c64 => ?_) (fun c64 => ?_)
        · replace hf := if_f c64 hf
          exact L102 x51 u52 H locs ls hf hP hD hS (lv_sub hl [2, 0] rfl)
        · replace hf := if_t c64 hf
          refine lv_goto (tgt := 98) hx hb dL_goesOn_75 (by decide) ?_
          exact L98 x51 u52 H locs ls hf hP hD hS (lv_sub hl [2, 0] rfl)
  have M0 : ∀ (H : Heap) (locs : List Loc) (ls : Array Slot), fL_goesOn x p1 = some res → va_P D vwCl (W_Q cI cV vf a ad ac x) H → va_D A (W_Q cI cV vf a ad ac x) → va_S A s.heap H locs → lv_has ls 6 [(0, .ref (a 0)), (1, .int p1), (2, .ref ac)] → W p l e ({ frames := 9, cells := 2, slots := 12, locals := 170 } : Room) s m ([.ref (a 0), .int p1, .ref ac] : List Value).toArray below meth c H locs 0 0 (MQ below (QW D (TY cI cV cJ cD) (W_G cI cV vf a ad ac res.1) A (some (.int res.2))) (([.ref (a 0), .int p1, .ref ac] : List Value).toArray) s 2 12 A) (F0 m 0 ls []) := by
    intro H locs ls hf hP hD hS hl
    dsimp only [fL_goesOn] at hf
    obtain ⟨x0, hx0⟩ : ∃ z, z = gqI x := ⟨_, rfl⟩
    replace hf := keep_e hf x0 hx0
    have hP : va_P D vwCl (W_G cI cV vf a ad ac x0) H := by rw [hx0]; exact hP
    have hD : va_D A (W_G cI cV vf a ad ac x0) := by rw [hx0]; exact hD
    refine lv_aload_n hx hb dL_goesOn_0 rfl (lv_at hl 0 rfl) ?_
    refine lv_bipush (v := 12) hx hb dL_goesOn_1 (by decide) ?_
    refine lv_iload_n hx hb dL_goesOn_3 rfl (lv_at hl 1 rfl) ?_
    refine lv_iconst (v := 0) hx hb dL_goesOn_4 (by decide) ?_
    refine lv_iconst (v := 0) hx hb dL_goesOn_5 (by decide) ?_
    refine lv_iconst (v := 0) hx hb dL_goesOn_6 (by decide) ?_
    refine W.eq (g2 := F0 m 7 ls [.int 0, .int 0, .int 0, .int p1, .int 12, .ref ((swp (gqB x0) a) 0)]) (by simp only [swp_0]) ?_
    obtain ⟨u65, hc66, hf⟩ := bind_t hf
    by_cases hl9 : u65.2.1 = 2
    · replace hf := if_t hl9 hf
      have hm67 := met_L_asks12 (D := D) (cI := cI) (cV := cV) (cJ := cJ) (cD := cD) l hlt 0 vf (foA (swp (gqB x0) a) (ad 0)) (hvf _ (by decide : 0 < 16)) (foc 0 (gqS x0)) 12 p1 0 0 0 u65 hc66
      rw [hl9] at hm67
      refine k_SWQ (ws' := W_G cI cV vf a ad ac (unf 0 (gqS x0) u65.1, gqC x0, gqB x0)) (As := [.ref ((swp (gqB x0) a) 0), .int 12, .int p1, .int 0, .int 0, .int 0]) (rest := []) (n := 6) ⟨hx, hb, hml, hown, hts⟩ hm67 w360 w361 w0 w362 ⟨by decide +kernel, by decide +kernel, by decide +kernel⟩ ⟨Nat.le_of_ble_eq_true rfl, Nat.le_of_ble_eq_true rfl⟩ hK hE hP hD hS hA (cut_GX2 x0 u65.1) rfl hl.1 rfl (Nat.le_of_ble_eq_true rfl) dL_goesOn_7 ⟨Nat.le_of_ble_eq_true rfl, Nat.le_of_ble_eq_true rfl⟩ (fun H locs hP hD hS => ?_)
      try dsimp only at hf
      refine W.eq (g2 := F0 m 10 ls [.int u65.2.2]) rfl ?_
      obtain ⟨x68, hx68⟩ : ∃ z, z = (unf 0 (gqS x0) u65.1, gqC x0, gqB x0) := ⟨_, rfl⟩
      replace hf := keep_e hf x68 hx68
      have hP : va_P D vwCl (W_G cI cV vf a ad ac x68) H := by rw [hx68]; exact hP
      have hD : va_D A (W_G cI cV vf a ad ac x68) := by rw [hx68]; exact hD
      refine lv_topi (fun y71 hy71 => ?_)
      replace hf := keep_e hf y71 hy71
      refine lv_istore_n (lv' := [(3, .int y71), (0, .ref (a 0)), (1, .int p1), (2, .ref ac)]) hx hb dL_goesOn_10 rfl hl (by decide) rfl (fun ls hl => ?_)
      refine lv_aload_n hx hb dL_goesOn_11 rfl (lv_at hl 3 rfl) ?_
      refine lv_iconst (v := 2) hx hb dL_goesOn_12 (by decide) ?_
      obtain ⟨hi72, hf⟩ := chk_t hf
      refine va_iald hx hb hK hP 0 0 rfl rfl (inb_in hi72) dL_goesOn_13 ?_
      refine lv_if_ne (tgt := 29) hx hb dL_goesOn_14 (by decide) (fun c73 => ?_) (fun c73 => ?_)
      · replace hf := if_f c73 hf
        refine lv_aload_n hx hb dL_goesOn_29 rfl (lv_at hl 3 rfl) ?_
        refine lv_iconst (v := 3) hx hb dL_goesOn_30 (by decide) ?_
        refine lv_aload_n hx hb dL_goesOn_31 rfl (lv_at hl 3 rfl) ?_
        refine lv_iconst (v := 3) hx hb dL_goesOn_32 (by decide) ?_
        obtain ⟨hi74, hf⟩ := chk_t hf
        refine va_iald hx hb hK hP 0 0 rfl rfl (inb_in hi74) dL_goesOn_33 ?_
        refine lv_iload_n hx hb dL_goesOn_34 rfl (lv_at hl 2 rfl) ?_
        refine lv_icmp_le (tgt := 46) hx hb dL_goesOn_35 (by decide) (fun c75 => ?_) (fun c75 => ?_)
        · replace hf := if_t c75 hf
          refine lv_iconst (v := 0) hx hb dL_goesOn_46 (by decide) ?_
          exact L47 x68 y71 0 3 H locs ls hf hP hD hS (lv_sub hl [1, 3, 0] rfl)
        · replace hf := if_f c75 hf
          refine lv_aload_n hx hb dL_goesOn_38 rfl (lv_at hl 3 rfl) ?_
          refine lv_iconst (v := 3) hx hb dL_goesOn_39 (by decide) ?_
          obtain ⟨hi76, hf⟩ := chk_t hf
          refine va_iald hx hb hK hP 0 0 rfl rfl (inb_in hi76) dL_goesOn_40 ?_
          refine lv_iload_n hx hb dL_goesOn_41 rfl (lv_at hl 2 rfl) ?_
          refine lv_isub hx hb dL_goesOn_42 ?_
          refine lv_goto (tgt := 47) hx hb dL_goesOn_43 (by decide) ?_
          exact L47 x68 y71 ((gqC x68 (3 : Int32).toNatClampNeg) - p1) 3 H locs ls hf hP hD hS (lv_sub hl [1, 3, 0] rfl)
      · replace hf := if_t c73 hf
        refine lv_iload_n hx hb dL_goesOn_17 rfl (lv_at hl 0 rfl) ?_
        refine lv_bipush (v := (-108)) hx hb dL_goesOn_18 (by decide) ?_
        refine lv_icmp_ne (tgt := 27) hx hb dL_goesOn_20 (by decide) (fun c77 => ?_) (fun c77 => ?_)
        · replace hf := if_f c77 hf
          refine lv_iconst (v := 0) hx hb dL_goesOn_27 (by decide) ?_
          obtain rfl := Option.some.inj hf
          exact W.zret (v := 0) hx hb hr (by decide +kernel) (fun t ht hW => ⟨rfl, by rw [ht]; exact hP, va_K.moved hW.alike hK, hD, hS.F ht⟩) hS.2.2 dL_goesOn_28 hlocks
        · replace hf := if_t c77 hf
          refine lv_iconst (v := 1) hx hb dL_goesOn_23 (by decide) ?_
          refine lv_goto (tgt := 28) hx hb dL_goesOn_24 (by decide) ?_
          obtain rfl := Option.some.inj hf
          exact W.zret (v := 1) hx hb hr (by decide +kernel) (fun t ht hW => ⟨rfl, by rw [ht]; exact hP, va_K.moved hW.alike hK, hD, hS.F ht⟩) hS.2.2 dL_goesOn_28 hlocks
    replace hf := if_f hl9 hf
    obtain ⟨hl9, hf⟩ := chk_t hf
    replace hl9 := of_decide_eq_true hl9
    have hm69 := met_L_asks12 (D := D) (cI := cI) (cV := cV) (cJ := cJ) (cD := cD) l hlt 0 vf (foA (swp (gqB x0) a) (ad 0)) (hvf _ (by decide : 0 < 16)) (foc 0 (gqS x0)) 12 p1 0 0 0 u65 hc66
    rw [hl9] at hm69
    refine k_SWQ (ws' := W_G cI cV vf a ad ac (unf 0 (gqS x0) (swL u65.1), gqC x0, !gqB x0)) (As := [.ref ((swp (gqB x0) a) 0), .int 12, .int p1, .int 0, .int 0, .int 0]) (rest := []) (n := 6) ⟨hx, hb, hml, hown, hts⟩ hm69 w360 w361 w0 w362 ⟨by decide +kernel, by decide +kernel, by decide +kernel⟩ ⟨Nat.le_of_ble_eq_true rfl, Nat.le_of_ble_eq_true rfl⟩ hK hE hP hD hS hA (cut_GX4 x0 u65.1) rfl hl.1 rfl (Nat.le_of_ble_eq_true rfl) dL_goesOn_7 ⟨Nat.le_of_ble_eq_true rfl, Nat.le_of_ble_eq_true rfl⟩ (fun H locs hP hD hS => ?_)
    try dsimp only at hf
    refine W.eq (g2 := F0 m 10 ls [.int u65.2.2]) rfl ?_
    obtain ⟨x70, hx70⟩ : ∃ z, z = (unf 0 (gqS x0) (swL u65.1), gqC x0, !gqB x0) := ⟨_, rfl⟩
    replace hf := keep_e hf x70 hx70
    have hP : va_P D vwCl (W_G cI cV vf a ad ac x70) H := by rw [hx70]; exact hP
    have hD : va_D A (W_G cI cV vf a ad ac x70) := by rw [hx70]; exact hD
    refine lv_topi (fun y78 hy78 => ?_)
    replace hf := keep_e hf y78 hy78
    refine lv_istore_n (lv' := [(3, .int y78), (0, .ref (a 0)), (1, .int p1), (2, .ref ac)]) hx hb dL_goesOn_10 rfl hl (by decide) rfl (fun ls hl => ?_)
    refine lv_aload_n hx hb dL_goesOn_11 rfl (lv_at hl 3 rfl) ?_
    refine lv_iconst (v := 2) hx hb dL_goesOn_12 (by decide) ?_
    obtain ⟨hi79, hf⟩ := chk_t hf
    refine va_iald hx hb hK hP 0 0 rfl rfl (inb_in hi79) dL_goesOn_13 ?_
    refine lv_if_ne (tgt := 29) hx hb dL_goesOn_14 (by decide) (fun c80 => ?_) (fun c80 => ?_)
    · replace hf := if_f c80 hf
      refine lv_aload_n hx hb dL_goesOn_29 rfl (lv_at hl 3 rfl) ?_
      refine lv_iconst (v := 3) hx hb dL_goesOn_30 (by decide) ?_
      refine lv_aload_n hx hb dL_goesOn_31 rfl (lv_at hl 3 rfl) ?_
      refine lv_iconst (v := 3) hx hb dL_goesOn_32 (by decide) ?_
      obtain ⟨hi81, hf⟩ := chk_t hf
      refine va_iald hx hb hK hP 0 0 rfl rfl (inb_in hi81) dL_goesOn_33 ?_
      refine lv_iload_n hx hb dL_goesOn_34 rfl (lv_at hl 2 rfl) ?_
      refine lv_icmp_le (tgt := 46) hx hb dL_goesOn_35 (by decide) (fun c82 => ?_) (fun c82 => ?_)
      · replace hf := if_t c82 hf
        refine lv_iconst (v := 0) hx hb dL_goesOn_46 (by decide) ?_
        exact L47 x70 y78 0 3 H locs ls hf hP hD hS (lv_sub hl [1, 3, 0] rfl)
      · replace hf := if_f c82 hf
        refine lv_aload_n hx hb dL_goesOn_38 rfl (lv_at hl 3 rfl) ?_
        refine lv_iconst (v := 3) hx hb dL_goesOn_39 (by decide) ?_
        obtain ⟨hi83, hf⟩ := chk_t hf
        refine va_iald hx hb hK hP 0 0 rfl rfl (inb_in hi83) dL_goesOn_40 ?_
        refine lv_iload_n hx hb dL_goesOn_41 rfl (lv_at hl 2 rfl) ?_
        refine lv_isub hx hb dL_goesOn_42 ?_
        refine lv_goto (tgt := 47) hx hb dL_goesOn_43 (by decide) ?_
        exact L47 x70 y78 ((gqC x70 (3 : Int32).toNatClampNeg) - p1) 3 H locs ls hf hP hD hS (lv_sub hl [1, 3, 0] rfl)
    · replace hf := if_t c80 hf
      refine lv_iload_n hx hb dL_goesOn_17 rfl (lv_at hl 0 rfl) ?_
      refine lv_bipush (v := (-108)) hx hb dL_goesOn_18 (by decide) ?_
      refine lv_icmp_ne (tgt := 27) hx hb dL_goesOn_20 (by decide) (fun c84 => ?_) (fun c84 => ?_)
      · replace hf := if_f c84 hf
        refine lv_iconst (v := 0) hx hb dL_goesOn_27 (by decide) ?_
        obtain rfl := Option.some.inj hf
        exact W.zret (v := 0) hx hb hr (by decide +kernel) (fun t ht hW => ⟨rfl, by rw [ht]; exact hP, va_K.moved hW.alike hK, hD, hS.F ht⟩) hS.2.2 dL_goesOn_28 hlocks
      · replace hf := if_t c84 hf
        refine lv_iconst (v := 1) hx hb dL_goesOn_23 (by decide) ?_
        refine lv_goto (tgt := 28) hx hb dL_goesOn_24 (by decide) ?_
        obtain rfl := Option.some.inj hf
        exact W.zret (v := 1) hx hb hr (by decide +kernel) (fun t ht hW => ⟨rfl, by rw [ht]; exact hP, va_K.moved hW.alike hK, hD, hS.F ht⟩) hS.2.2 dL_goesOn_28 hlocks
  exact M0 s.heap [] ls hf hP hD hS hl
def fL_commands_713 (x : QSt) (v12 : Int32) (s0 : Int32) (s1 : Int32) (s2 : Int32) : Option (QSt × Int32) := (if s2 = (s1 + s0) then (fL_settles x v12).bind (fun u146 => keep u146.1 (fun x148 => (if u146.2 = 0 then some (x148, 0) else some (x148, 1)))) else some (x, 0))
def fL_commands_688 (x : QSt) (v10 : Int32) (v11 : Int32) (v12 : Int32) : Option (QSt × Int32) := (if v11 = v10 then (fX7_rows 0 (foc 0 (qS x))).bind (fun u151 => chk (inb 1 5) ((if v12 = 0 then fL_commands_713 x v12 0 (qC x (1 : Int32).toNatClampNeg) u151 else fL_commands_713 x v12 1 (qC x (1 : Int32).toNatClampNeg) u151))) else some (x, 0))
def fL_commands_686 (x : QSt) (v10 : Int32) (v11 : Int32) (s0 : Int32) : Option (QSt × Int32) := fL_commands_688 x v10 v11 s0
def fL_commands_673 (x : QSt) (v11 : Int32) (s0 : Int32) : Option (QSt × Int32) := (if v11 = 1 then fL_commands_686 x s0 v11 1 else fL_commands_686 x s0 v11 0)
def fL_commands_632 (x : QSt) (v11 : Int32) (v15 : Int32) (s0 : Int32) : Option (QSt × Int32) := fL_commands_688 x s0 v11 v15
def fL_commands_600 (x : QSt) (v2 : Int32) (v13 : Int32) (v14 : Int32) (s0 : Int32) : Option (QSt × Int32) := chk (decide (((v2 : Int32).toNatClampNeg) < 16)) ((fL_asks ((v2 : Int32).toNatClampNeg) (foc ((v2 : Int32).toNatClampNeg) (qS x)) 4 v2 v14 v13 0).bind (fun u156 => keep (qS_s x (unf ((v2 : Int32).toNatClampNeg) (qS x) u156.1)) (fun x159 => keep u156.2 (fun y160 => (if s0 = 0 then fL_commands_632 x159 y160 s0 (-108) else chk (decide (((v2 : Int32).toNatClampNeg) < 16)) ((fX7_indexOf ((v2 : Int32).toNatClampNeg) (foc ((v2 : Int32).toNatClampNeg) (qS x159)) v2 v14).bind (fun u162 => thr u162 (fun k166 => none) (fun r165 => fL_commands_632 x159 y160 s0 r165))))))))
def fL_commands_599 (x : QSt) (v2 : Int32) (v13 : Int32) (v14 : Int32) : Option (QSt × Int32) := fL_commands_600 x v2 v13 v14 0
def fL_commands_595 (x : QSt) (v2 : Int32) (v13 : Int32) (v14 : Int32) : Option (QSt × Int32) := fL_commands_600 x v2 v13 v14 1
def fL_commands_560 (x : QSt) (v2 : Int32) (v6 : Int32) (v7 : Int32) (v9 : Int32) (v13 : Int32) (s0 : Int32) : Option (QSt × Int32) := (if v9 = 0 then (if v6 = 0 then fL_commands_595 x v2 v13 s0 else (if v6 = 3 then (if v7 < 40 then fL_commands_595 x v2 v13 s0 else chk (decide (((v2 : Int32).toNatClampNeg) < 16)) ((fX7_indexOf ((v2 : Int32).toNatClampNeg) (foc ((v2 : Int32).toNatClampNeg) (qS x)) v2 s0).bind (fun u171 => thr u171 (fun k175 => none) (fun r174 => (if r174 < 0 then fL_commands_599 x v2 v13 s0 else fL_commands_595 x v2 v13 s0))))) else fL_commands_599 x v2 v13 s0)) else fL_commands_599 x v2 v13 s0)
def fL_commands_555 (x : QSt) (v2 : Int32) (v6 : Int32) (v7 : Int32) (v8 : Int32) (v9 : Int32) (v13 : Int32) : Option (QSt × Int32) := fL_commands_560 x v2 v6 v7 v9 v13 (v8 - v8 / 60 * 60)
def fL_commands_526 (x : QSt) (v2 : Int32) (v4 : Int32) (v6 : Int32) (v7 : Int32) (v8 : Int32) (v9 : Int32) (s0 : Int32) : Option (QSt × Int32) := (if v7 ≤ 0 then fL_commands_555 x v2 v6 v7 v8 v9 s0 else (if (v4 - v4 / 2 * 2) = 0 then chk (decide (¬ v7 = 0)) (chk (decide (((v2 : Int32).toNatClampNeg) < 16)) ((fX7_at ((v2 : Int32).toNatClampNeg) (foc ((v2 : Int32).toNatClampNeg) (qS x)) v2 ((v4 / 2) - (v4 / 2) / v7 * v7)).bind (fun u180 => thr u180 (fun k184 => none) (fun r183 => fL_commands_560 x v2 v6 v7 v9 s0 r183)))) else fL_commands_555 x v2 v6 v7 v8 v9 s0))
def fL_commands_525 (x : QSt) (v2 : Int32) (v4 : Int32) (v6 : Int32) (v7 : Int32) (v8 : Int32) (v9 : Int32) (s0 : Int32) (s1 : Int32) : Option (QSt × Int32) := fL_commands_526 x v2 v4 v6 v7 v8 v9 (s1 ||| s0)
def fL_commands_511 (x : QSt) (v2 : Int32) (v4 : Int32) (v6 : Int32) (v7 : Int32) (v8 : Int32) (v9 : Int32) (s0 : Int32) (s1 : Int32) : Option (QSt × Int32) := (if (v4 - v4 / 3 * 3) = 0 then fL_commands_525 x v2 v4 v6 v7 v8 v9 (-2147483648) (s1 ||| s0) else fL_commands_525 x v2 v4 v6 v7 v8 v9 0 (s1 ||| s0))
def fL_commands_444 (x : QSt) (v12 : Int32) : Option (QSt × Int32) := (fL_settles x v12).bind (fun u186 => keep u186.1 (fun x188 => (if u186.2 = 0 then some (x188, 0) else some (x188, 1))))
def fL_commands_424 (x : QSt) (v2 : Int32) (v10 : Int32) (v12 : Int32) (v13 : Int32) (s0 : Int32) (s1 : Int32) (s2 : Int32) : Option (QSt × Int32) := (if s2 = (s1 + s0) then (if v10 < 0 then fL_commands_444 x v12 else chk (decide (((v2 : Int32).toNatClampNeg) < 16)) ((fX7_indexOf ((v2 : Int32).toNatClampNeg) (foc ((v2 : Int32).toNatClampNeg) (qS x)) v2 v13).bind (fun u192 => thr u192 (fun k196 => none) (fun r195 => (if r195 = (-1) then fL_commands_444 x v12 else some (x, 0)))))) else some (x, 0))
def fL_commands_397 (x : QSt) (v2 : Int32) (v10 : Int32) (v11 : Int32) (v13 : Int32) (s0 : Int32) : Option (QSt × Int32) := (if v11 = v10 then (fX7_rows 0 (foc 0 (qS x))).bind (fun u199 => chk (inb 1 5) ((if s0 = 0 then fL_commands_424 x v2 v10 s0 v13 0 (qC x (1 : Int32).toNatClampNeg) u199 else fL_commands_424 x v2 v10 s0 v13 1 (qC x (1 : Int32).toNatClampNeg) u199))) else some (x, 0))
def fL_commands_384 (x : QSt) (v2 : Int32) (v11 : Int32) (v13 : Int32) (s0 : Int32) : Option (QSt × Int32) := (if v11 = 1 then fL_commands_397 x v2 s0 v11 v13 1 else fL_commands_397 x v2 s0 v11 v13 0)
def fL_commands_374 (x : QSt) (v2 : Int32) (v11 : Int32) (v13 : Int32) (v14 : Int32) : Option (QSt × Int32) := (if v14 = 0 then fL_commands_384 x v2 v11 v13 0 else fL_commands_384 x v2 v11 v13 1)
def fL_commands_369 (x : QSt) (v2 : Int32) (v11 : Int32) (v13 : Int32) : Option (QSt × Int32) := fL_commands_384 x v2 v11 v13 (-108)
def fL_commands_338 (x : QSt) (v2 : Int32) (v6 : Int32) (v9 : Int32) (v13 : Int32) (s0 : Int32) : Option (QSt × Int32) := chk (decide (((v2 : Int32).toNatClampNeg) < 16)) ((fL_asks ((v2 : Int32).toNatClampNeg) (foc ((v2 : Int32).toNatClampNeg) (qS x)) 3 v2 v13 0 0).bind (fun u205 => keep (qS_s x (unf ((v2 : Int32).toNatClampNeg) (qS x) u205.1)) (fun x208 => keep u205.2 (fun y209 => (if v9 = 0 then (if v6 = 2 then fL_commands_374 x208 v2 y209 v13 s0 else (if v6 = 3 then fL_commands_374 x208 v2 y209 v13 s0 else fL_commands_369 x208 v2 y209 v13)) else fL_commands_369 x208 v2 y209 v13)))))
def fL_commands_321 (x : QSt) (v2 : Int32) (v6 : Int32) (v9 : Int32) (s0 : Int32) : Option (QSt × Int32) := chk (decide (((v2 : Int32).toNatClampNeg) < 16)) ((fX7_indexOf ((v2 : Int32).toNatClampNeg) (foc ((v2 : Int32).toNatClampNeg) (qS x)) v2 s0).bind (fun u213 => thr u213 (fun k217 => none) (fun r216 => (if r216 < 0 then fL_commands_338 x v2 v6 v9 s0 0 else fL_commands_338 x v2 v6 v9 s0 1))))
def fL_commands_319 (x : QSt) (v2 : Int32) (v6 : Int32) (v8 : Int32) (v9 : Int32) : Option (QSt × Int32) := fL_commands_321 x v2 v6 v9 v8
def fL_commands_282 (x : QSt) (v10 : Int32) (v11 : Int32) (s0 : Int32) : Option (QSt × Int32) := fL_commands_688 x v10 v11 s0
def fL_commands_270 (x : QSt) (v11 : Int32) (s0 : Int32) : Option (QSt × Int32) := (if v11 < 0 then fL_commands_282 x s0 v11 0 else fL_commands_282 x s0 v11 1)
def fL_commands_263 (x : QSt) (v11 : Int32) : Option (QSt × Int32) := fL_commands_270 x v11 (-108)
def fL_commands_229 (x : QSt) (v10 : Int32) (v11 : Int32) (s0 : Int32) : Option (QSt × Int32) := fL_commands_688 x v10 v11 s0
def fL_commands_228 (x : QSt) (v10 : Int32) (v11 : Int32) : Option (QSt × Int32) := fL_commands_229 x v10 v11 0
def fL_commands_212 (x : QSt) (v11 : Int32) (v14 : Int32) (v15 : Int32) (s0 : Int32) : Option (QSt × Int32) := (if v15 = 0 then fL_commands_228 x s0 v11 else (if v14 = 0 then fL_commands_229 x s0 v11 1 else fL_commands_228 x s0 v11))
def fL_commands_167 (x : QSt) (v2 : Int32) (v3 : Int32) (v7 : Int32) (v8 : Int32) (v13 : Int32) (v14 : Int32) (v15 : Int32) (s0 : Int32) : Option (QSt × Int32) := chk (decide (((v2 : Int32).toNatClampNeg) < 16)) ((fL_asks ((v2 : Int32).toNatClampNeg) (foc ((v2 : Int32).toNatClampNeg) (qS x)) s0 v2 v8 (v3 - v3 / 2 * 2) 0).bind (fun u222 => keep (qS_s x (unf ((v2 : Int32).toNatClampNeg) (qS x) u222.1)) (fun x225 => keep u222.2 (fun y226 => (if v15 = 0 then fL_commands_212 x225 y226 v14 v15 (-108) else (if v13 = 2 then (if v14 = 0 then fL_commands_212 x225 y226 v14 v15 1 else fL_commands_212 x225 y226 v14 v15 0) else fL_commands_212 x225 y226 v14 v15 (v7 + 1)))))))
def fL_commands_146 (x : QSt) (v1 : Int32) (v2 : Int32) (v3 : Int32) (v7 : Int32) (v8 : Int32) (v13 : Int32) (v14 : Int32) (s0 : Int32) : Option (QSt × Int32) := (if v1 = 0 then fL_commands_167 x v2 v3 v7 v8 v13 v14 s0 0 else (if v1 = 1 then fL_commands_167 x v2 v3 v7 v8 v13 v14 s0 2 else fL_commands_167 x v2 v3 v7 v8 v13 v14 s0 5))
def fL_commands_145 (x : QSt) (v1 : Int32) (v2 : Int32) (v3 : Int32) (v7 : Int32) (v8 : Int32) (v13 : Int32) (v14 : Int32) : Option (QSt × Int32) := fL_commands_146 x v1 v2 v3 v7 v8 v13 v14 0
def fL_commands_141 (x : QSt) (v1 : Int32) (v2 : Int32) (v3 : Int32) (v7 : Int32) (v8 : Int32) (v13 : Int32) (v14 : Int32) : Option (QSt × Int32) := fL_commands_146 x v1 v2 v3 v7 v8 v13 v14 1
def fL_commands_110 (x : QSt) (v1 : Int32) (v2 : Int32) (v3 : Int32) (v6 : Int32) (v7 : Int32) (v8 : Int32) (v9 : Int32) (v13 : Int32) (s0 : Int32) : Option (QSt × Int32) := (if v9 = 0 then (if v6 = 0 then fL_commands_141 x v1 v2 v3 v7 v8 v13 s0 else (if v6 = v13 then (if v7 < 40 then fL_commands_141 x v1 v2 v3 v7 v8 v13 s0 else (if s0 = 0 then fL_commands_145 x v1 v2 v3 v7 v8 v13 s0 else fL_commands_141 x v1 v2 v3 v7 v8 v13 s0)) else fL_commands_145 x v1 v2 v3 v7 v8 v13 s0)) else fL_commands_145 x v1 v2 v3 v7 v8 v13 s0)
def fL_commands_109 (x : QSt) (v1 : Int32) (v2 : Int32) (v3 : Int32) (v6 : Int32) (v7 : Int32) (v8 : Int32) (v9 : Int32) (v13 : Int32) : Option (QSt × Int32) := fL_commands_110 x v1 v2 v3 v6 v7 v8 v9 v13 0
def fL_commands_81 (x : QSt) (v1 : Int32) (v2 : Int32) (v3 : Int32) (v6 : Int32) (v7 : Int32) (v8 : Int32) (v9 : Int32) (s0 : Int32) : Option (QSt × Int32) := (if s0 = 2 then (if v6 = 2 then chk (decide (((v2 : Int32).toNatClampNeg) < 16)) ((fX7_indexOf ((v2 : Int32).toNatClampNeg) (foc ((v2 : Int32).toNatClampNeg) (qS x)) v2 v8).bind (fun u239 => thr u239 (fun k243 => none) (fun r242 => (if r242 < 0 then fL_commands_109 x v1 v2 v3 v6 v7 v8 v9 s0 else fL_commands_110 x v1 v2 v3 v6 v7 v8 v9 s0 1)))) else fL_commands_109 x v1 v2 v3 v6 v7 v8 v9 s0) else fL_commands_109 x v1 v2 v3 v6 v7 v8 v9 s0)
def fL_commands_56 (x : QSt) (v1 : Int32) (v2 : Int32) (v3 : Int32) (v4 : Int32) (v6 : Int32) (v7 : Int32) (v8 : Int32) (s0 : Int32) : Option (QSt × Int32) := (if 3 ≤ v1 then (if v1 = 3 then chk (decide (((v2 : Int32).toNatClampNeg) < 16)) ((fL_asks ((v2 : Int32).toNatClampNeg) (foc ((v2 : Int32).toNatClampNeg) (qS x)) 1 v2 (v3 - v3 / 2 * 2) 0 0).bind (fun u267 => keep (qS_s x (unf ((v2 : Int32).toNatClampNeg) (qS x) u267.1)) (fun x270 => keep u267.2 (fun y271 => (if s0 = 0 then (if v6 = 1 then fL_commands_270 x270 y271 y271 else fL_commands_263 x270 y271) else fL_commands_263 x270 y271))))) else (if v1 = 4 then (if v7 ≤ 0 then fL_commands_319 x v2 v6 v8 s0 else (if (v4 - v4 / 3 * 3) ≤ 0 then fL_commands_319 x v2 v6 v8 s0 else chk (decide (¬ v7 = 0)) (chk (decide (((v2 : Int32).toNatClampNeg) < 16)) ((fX7_at ((v2 : Int32).toNatClampNeg) (foc ((v2 : Int32).toNatClampNeg) (qS x)) v2 ((v4 / 3) - (v4 / 3) / v7 * v7)).bind (fun u262 => thr u262 (fun k266 => none) (fun r265 => fL_commands_321 x v2 v6 s0 r265)))))) else (if v1 = 5 then (if (v3 - v3 / 5 * 5) = 0 then (if (v3 - v3 / 2 * 2) = 0 then fL_commands_526 x v2 v4 v6 v7 v8 s0 0 else fL_commands_526 x v2 v4 v6 v7 v8 s0 (-2147483648)) else (if (v3 - v3 / 2 * 2) = 0 then fL_commands_511 x v2 v4 v6 v7 v8 s0 4194304 ((124 + ((v3 / 5) - (v3 / 5) / 6 * 6)) <<< (23 &&& 31)) else fL_commands_511 x v2 v4 v6 v7 v8 s0 0 ((124 + ((v3 / 5) - (v3 / 5) / 6 * 6)) <<< (23 &&& 31)))) else chk (decide (((v2 : Int32).toNatClampNeg) < 16)) ((fL_asks ((v2 : Int32).toNatClampNeg) (foc ((v2 : Int32).toNatClampNeg) (qS x)) 9 v2 0 0 0).bind (fun u249 => keep (qS_s x (unf ((v2 : Int32).toNatClampNeg) (qS x) u249.1)) (fun x252 => keep u249.2 (fun y253 => (if s0 = 0 then (if v6 = 0 then fL_commands_673 x252 y253 0 else fL_commands_673 x252 y253 1) else fL_commands_673 x252 y253 (-108))))))))) else (if v1 = 0 then fL_commands_81 x v1 v2 v3 v6 v7 v8 s0 1 else (if v1 = 1 then fL_commands_81 x v1 v2 v3 v6 v7 v8 s0 2 else fL_commands_81 x v1 v2 v3 v6 v7 v8 s0 4)))
def fL_commands_39 (x : QSt) (v1 : Int32) (v2 : Int32) (v3 : Int32) (v4 : Int32) (v6 : Int32) (v7 : Int32) (s0 : Int32) : Option (QSt × Int32) := chk (inb 1 5) ((if (qC x (1 : Int32).toNatClampNeg) = 300 then fL_commands_56 x v1 v2 v3 v4 v6 v7 s0 1 else fL_commands_56 x v1 v2 v3 v4 v6 v7 s0 0))
def fL_commands (x : QSt) (p1 : Int32) (p2 : Int32) (p3 : Int32) (p4 : Int32) : Option (QSt × Int32) := chk (decide (((p2 : Int32).toNatClampNeg) < 16)) ((fX7_typeOf ((p2 : Int32).toNatClampNeg) (foc ((p2 : Int32).toNatClampNeg) (qS x)) p2).bind (fun u278 => thr u278 (fun k282 => none) (fun r281 => chk (decide (((p2 : Int32).toNatClampNeg) < 16)) ((fX7_size ((p2 : Int32).toNatClampNeg) (foc ((p2 : Int32).toNatClampNeg) (qS x)) p2).bind (fun u283 => thr u283 (fun k287 => none) (fun r286 => (if (p4 - p4 / 4 * 4) = 0 then fL_commands_39 x p1 p2 p3 p4 r281 r286 ((p4 / 4) - (p4 / 4) / 10000 * 10000) else fL_commands_39 x p1 p2 p3 p4 r281 r286 ((p4 / 4) - (p4 / 4) / 60 * 60))))))))
set_option maxHeartbeats 4000000 in
set_option maxRecDepth 100000 in
theorem met_L_commands {D : va_G} {cI cV cJ cD : ClassId} (l : Launch) (hlt : l.stackTraces = false) (vf : Nat → Option Nat) (ad : Nat → Nat → Nat) (a : Nat → Nat) (ac : Nat) (hvf : ∀ k, k < 16 → vf k = some (ad k 0)) (x : QSt) (p1 : Int32) (p2 : Int32) (p3 : Int32) (p4 : Int32) (res : QSt × Int32) (hf : fL_commands x p1 p2 p3 p4 = some res) : MM l yL_commands cL_commands 16 (some .boolean) { frames := 10, cells := 6, slots := 36, locals := 230 } D (TY cI cV cJ cD) (W_Q cI cV vf a ad ac x) (W_Q cI cV vf a ad ac res.1) [.ref (a 0), .int p1, .int p2, .int p3, .int p4, .ref ac] (some (.int res.2)) := by
  intro sz
  refine Met.ofW (cc := cL_commands) (maxL := 16) (ret := (some .boolean)) (by decide +kernel) rfl ?_
  intro p e s m args below meth c s₁ B hml hv
  obtain ⟨rfl, hsz, hP, hK, hD0, hE⟩ := hv
  have hx := B.exec
  have hb := B.bytes
  have hr := B.returns
  have hts := atoms_spec (ws := .code yL_commands cL_commands 16 (some .boolean) :: GW) B.pre
  have hg : ∀ w ∈ GW, w.before (([.ref (a 0), .int p1, .int p2, .int p3, .int p4, .ref ac] : List Value).toArray) s = true := fun w h => hts w (List.mem_cons_of_mem _ h)
  have hown : s.vm.findClass RL = some m.cls := findClass_of_methodNamed B.named
  have hlocks := B.notSynchronized
  subst hsz
  have hD := hD0.self (sz := s.heap.size)
  generalize hAe : va_A (W_Q cI cV vf a ad ac x) s.heap.size = A at hD hE ⊢
  have hA : ∀ q : Nat, s.heap.size ≤ q → A q := fun q h => by rw [← hAe]; exact Or.inr h
  have hS : va_S A s.heap s.heap [] := va_S.rf
  have hl := lv_entry ([.ref (a 0), .int p1, .int p2, .int p3, .int p4, .ref ac]) (n := 16) (Nat.le_of_ble_eq_true rfl)
  rw [lg_entry_eq]
  generalize (lg_sl ([.ref (a 0), .int p1, .int p2, .int p3, .int p4, .ref ac]) ++ List.replicate (16 - (lg_sl ([.ref (a 0), .int p1, .int p2, .int p3, .int p4, .ref ac])).length) Slot.unset).toArray = ls at hl ⊢
  have hl : lv_has ls 16 [(0, .ref (a 0)), (1, .int p1), (2, .int p2), (3, .int p3), (4, .int p4), (5, .ref ac)] := hl
  have L713 : ∀ (x : QSt) (v12 : Int32) (s0 : Int32) (s1 : Int32) (s2 : Int32) (H : Heap) (locs : List Loc) (ls : Array Slot), fL_commands_713 x v12 s0 s1 s2  = some res → va_P D vwCl (W_Q cI cV vf a ad ac x) H → va_D A (W_Q cI cV vf a ad ac x) → va_S A s.heap H locs → lv_has ls 16 [(0, .ref (a 0)), (5, .ref ac), (12, .int v12)] → W p l e ({ frames := 10, cells := 6, slots := 36, locals := 230 } : Room) s m ([.ref (a 0), .int p1, .int p2, .int p3, .int p4, .ref ac] : List Value).toArray below meth c H locs 6 36 (MQ below (QW D (TY cI cV cJ cD) (W_Q cI cV vf a ad ac res.1) A (some (.int res.2))) (([.ref (a 0), .int p1, .int p2, .int p3, .int p4, .ref ac] : List Value).toArray) s 6 36 A) (F0 m 713 ls [.int s0, .int s1, .int s2]) := by
    intro x v12 s0 s1 s2 H locs ls hf hP hD hS hl
    dsimp only [fL_commands_713] at hf
    refine lv_iadd hx hb dL_commands_713 ?_
    refine lv_icmp_ne (tgt := 732) hx hb dL_commands_714 (by decide) (fun c145 => ?_) (fun c145 => ?_)
    · replace hf := if_f c145 hf
      refine lv_iconst (v := 0) hx hb dL_commands_732 (by decide) ?_
      obtain rfl := Option.some.inj hf
      exact W.zret (v := 0) hx hb hr (by decide +kernel) (fun t ht hW => ⟨rfl, by rw [ht]; exact hP, va_K.moved hW.alike hK, hD, hS.F ht⟩) hS.2.2 dL_commands_733 hlocks
    · replace hf := if_t c145 hf
      refine lv_aload_n hx hb dL_commands_717 rfl (lv_at hl 0 rfl) ?_
      refine lv_iload hx hb dL_commands_718 (lv_at hl 2 rfl) ?_
      refine lv_aload hx hb dL_commands_720 (lv_at hl 1 rfl) ?_
      obtain ⟨u146, hc147, hf⟩ := bind_t hf
      refine k_SP (ws' := W_Q cI cV vf a ad ac u146.1) (As := [.ref (a 0), .int v12, .ref ac]) (rest := []) (n := 3) ⟨hx, hb, hml, hown, hts⟩ (met_L_settles l hlt vf ad a ac hvf x v12 u146 hc147) w673 w674 w0 w675 ⟨by decide +kernel, by decide +kernel, by decide +kernel⟩ ⟨Nat.le_of_ble_eq_true rfl, Nat.le_of_ble_eq_true rfl⟩ hK hE hP hD hS hA (CutP_self _ _) rfl hl.1 rfl (Nat.le_of_ble_eq_true rfl) dL_commands_722 ⟨Nat.le_of_ble_eq_true rfl, Nat.le_of_ble_eq_true rfl⟩ (fun H locs hP hD hS => ?_)
      try dsimp only at hf
      refine W.eq (g2 := F0 m 725 ls [.int u146.2]) rfl ?_
      obtain ⟨x148, hx148⟩ : ∃ z, z = u146.1 := ⟨_, rfl⟩
      replace hf := keep_e hf x148 hx148
      have hP : va_P D vwCl (W_Q cI cV vf a ad ac x148) H := by rw [hx148]; exact hP
      have hD : va_D A (W_Q cI cV vf a ad ac x148) := by rw [hx148]; exact hD
      refine lv_if_eq (tgt := 732) hx hb dL_commands_725 (by decide) (fun c149 => ?_) (fun c149 => ?_)
      · replace hf := if_t c149 hf
        refine lv_iconst (v := 0) hx hb dL_commands_732 (by decide) ?_
        obtain rfl := Option.some.inj hf
        exact W.zret (v := 0) hx hb hr (by decide +kernel) (fun t ht hW => ⟨rfl, by rw [ht]; exact hP, va_K.moved hW.alike hK, hD, hS.F ht⟩) hS.2.2 dL_commands_733 hlocks
      · replace hf := if_f c149 hf
        refine lv_iconst (v := 1) hx hb dL_commands_728 (by decide) ?_
        refine lv_goto (tgt := 733) hx hb dL_commands_729 (by decide) ?_
        obtain rfl := Option.some.inj hf
        exact W.zret (v := 1) hx hb hr (by decide +kernel) (fun t ht hW => ⟨rfl, by rw [ht]; exact hP, va_K.moved hW.alike hK, hD, hS.F ht⟩) hS.2.2 dL_commands_733 hlocks
  have L688 : ∀ (x : QSt) (v10 : Int32) (v11 : Int32) (v12 : Int32) (H : Heap) (locs : List Loc) (ls : Array Slot), fL_commands_688 x v10 v11 v12  = some res → va_P D vwCl (W_Q cI cV vf a ad ac x) H → va_D A (W_Q cI cV vf a ad ac x) → va_S A s.heap H locs → lv_has ls 16 [(0, .ref (a 0)), (5, .ref ac), (10, .int v10), (11, .int v11), (12, .int v12)] → W p l e ({ frames := 10, cells := 6, slots := 36, locals := 230 } : Room) s m ([.ref (a 0), .int p1, .int p2, .int p3, .int p4, .ref ac] : List Value).toArray below meth c H locs 6 36 (MQ below (QW D (TY cI cV cJ cD) (W_Q cI cV vf a ad ac res.1) A (some (.int res.2))) (([.ref (a 0), .int p1, .int p2, .int p3, .int p4, .ref ac] : List Value).toArray) s 6 36 A) (F0 m 688 ls []) := by
    intro x v10 v11 v12 H locs ls hf hP hD hS hl
    dsimp only [fL_commands_688] at hf
    refine lv_iload hx hb dL_commands_688 (lv_at hl 3 rfl) ?_
    refine lv_iload hx hb dL_commands_690 (lv_at hl 2 rfl) ?_
    refine lv_icmp_ne (tgt := 732) hx hb dL_commands_692 (by decide) (fun c150 => ?_) (fun c150 => ?_)
    · replace hf := if_f c150 hf
      refine lv_iconst (v := 0) hx hb dL_commands_732 (by decide) ?_
      obtain rfl := Option.some.inj hf
      exact W.zret (v := 0) hx hb hr (by decide +kernel) (fun t ht hW => ⟨rfl, by rw [ht]; exact hP, va_K.moved hW.alike hK, hD, hS.F ht⟩) hS.2.2 dL_commands_733 hlocks
    · replace hf := if_t c150 hf
      refine lv_aload_n hx hb dL_commands_695 rfl (lv_at hl 0 rfl) ?_
      obtain ⟨u151, hc152, hf⟩ := bind_t hf
      refine k_VP (ws' := W_Q cI cV vf a ad ac x) (As := []) (rest := []) (n := 0) ⟨hx, hb, hml, hown, hts⟩ (met_X7_rows l 0 vf (foA a (ad 0)) (hvf _ (by decide : 0 < 16)) (foc 0 (qS x))  u151 hc152) w669 w670 w671 w1 w672 ⟨rfl, by decide +kernel, by decide +kernel, by decide +kernel⟩ ⟨Nat.le_of_ble_eq_true rfl, Nat.le_of_ble_eq_true rfl⟩ hK hE hP hD hS hA (cut_QFi x (by decide : 0 < 16)) 0 6 rfl rfl rfl rfl hl.1 rfl (Nat.le_of_ble_eq_true rfl) dL_commands_696 ⟨Nat.le_of_ble_eq_true rfl, Nat.le_of_ble_eq_true rfl⟩ (fun H locs hP hD hS => ?_)
      try dsimp only at hf
      refine W.eq (g2 := F0 m 699 ls [.int u151]) rfl ?_
      refine lv_aload hx hb dL_commands_699 (lv_at hl 1 rfl) ?_
      refine lv_iconst (v := 1) hx hb dL_commands_701 (by decide) ?_
      obtain ⟨hi153, hf⟩ := chk_t hf
      refine va_iald hx hb hK hP 0 0 rfl rfl (inb_in hi153) dL_commands_702 ?_
      refine lv_iload hx hb dL_commands_703 (lv_at hl 4 rfl) ?_
      refine lv_if_eq (tgt := 712) hx hb dL_commands_705 (by decide) (fun c154 => ?_) (fun c154 => ?_)
      · replace hf := if_t c154 hf
        refine lv_iconst (v := 0) hx hb dL_commands_712 (by decide) ?_
        exact L713 x v12 0 (qC x (1 : Int32).toNatClampNeg) u151 H locs ls hf hP hD hS (lv_sub hl [0, 1, 4] rfl)
      · replace hf := if_f c154 hf
        refine lv_iconst (v := 1) hx hb dL_commands_708 (by decide) ?_
        refine lv_goto (tgt := 713) hx hb dL_commands_709 (by decide) ?_
        exact L713 x v12 1 (qC x (1 : Int32).toNatClampNeg) u151 H locs ls hf hP hD hS (lv_sub hl [0, 1, 4] rfl)
  have L686 : ∀ (x : QSt) (v10 : Int32) (v11 : Int32) (s0 : Int32) (H : Heap) (locs : List Loc) (ls : Array Slot), fL_commands_686 x v10 v11 s0  = some res → va_P D vwCl (W_Q cI cV vf a ad ac x) H → va_D A (W_Q cI cV vf a ad ac x) → va_S A s.heap H locs → lv_has ls 16 [(0, .ref (a 0)), (5, .ref ac), (10, .int v10), (11, .int v11)] → W p l e ({ frames := 10, cells := 6, slots := 36, locals := 230 } : Room) s m ([.ref (a 0), .int p1, .int p2, .int p3, .int p4, .ref ac] : List Value).toArray below meth c H locs 6 36 (MQ below (QW D (TY cI cV cJ cD) (W_Q cI cV vf a ad ac res.1) A (some (.int res.2))) (([.ref (a 0), .int p1, .int p2, .int p3, .int p4, .ref ac] : List Value).toArray) s 6 36 A) (F0 m 686 ls [.int s0]) := by
    intro x v10 v11 s0 H locs ls hf hP hD hS hl
    dsimp only [fL_commands_686] at hf
    refine lv_istore (lv' := [(12, .int s0), (0, .ref (a 0)), (5, .ref ac), (10, .int v10), (11, .int v11)]) hx hb dL_commands_686 hl (by decide) rfl (fun ls hl => ?_)
    exact L688 x v10 v11 s0 H locs ls hf hP hD hS (lv_sub hl [1, 2, 3, 4, 0] rfl)
  have L673 : ∀ (x : QSt) (v11 : Int32) (s0 : Int32) (H : Heap) (locs : List Loc) (ls : Array Slot), fL_commands_673 x v11 s0  = some res → va_P D vwCl (W_Q cI cV vf a ad ac x) H → va_D A (W_Q cI cV vf a ad ac x) → va_S A s.heap H locs → lv_has ls 16 [(0, .ref (a 0)), (5, .ref ac), (11, .int v11)] → W p l e ({ frames := 10, cells := 6, slots := 36, locals := 230 } : Room) s m ([.ref (a 0), .int p1, .int p2, .int p3, .int p4, .ref ac] : List Value).toArray below meth c H locs 6 36 (MQ below (QW D (TY cI cV cJ cD) (W_Q cI cV vf a ad ac res.1) A (some (.int res.2))) (([.ref (a 0), .int p1, .int p2, .int p3, .int p4, .ref ac] : List Value).toArray) s 6 36 A) (F0 m 673 ls [.int s0]) := by
    intro x v11 s0 H locs ls hf hP hD hS hl
    dsimp only [fL_commands_673] at hf
    refine lv_istore (lv' := [(10, .int s0), (0, .ref (a 0)), (5, .ref ac), (11, .int v11)]) hx hb dL_commands_673 hl (by decide) rfl (fun ls hl => ?_)
    refine lv_iload hx hb dL_commands_675 (lv_at hl 3 rfl) ?_
    refine lv_iconst (v := 1) hx hb dL_commands_677 (by decide) ?_
    refine lv_icmp_ne (tgt := 685) hx hb dL_commands_678 (by decide) (fun c155 => ?_) (fun c155 => ?_)
    · replace hf := if_f c155 hf
      refine lv_iconst (v := 0) hx hb dL_commands_685 (by decide) ?_
      exact L686 x s0 v11 0 H locs ls hf hP hD hS (lv_sub hl [1, 2, 0, 3] rfl)
    · replace hf := if_t c155 hf
      refine lv_iconst (v := 1) hx hb dL_commands_681 (by decide) ?_
      refine lv_goto (tgt := 686) hx hb dL_commands_682 (by decide) ?_
      exact L686 x s0 v11 1 H locs ls hf hP hD hS (lv_sub hl [1, 2, 0, 3] rfl)
  have L632 : ∀ (x : QSt) (v11 : Int32) (v15 : Int32) (s0 : Int32) (H : Heap) (locs : List Loc) (ls : Array Slot), fL_commands_632 x v11 v15 s0  = some res → va_P D vwCl (W_Q cI cV vf a ad ac x) H → va_D A (W_Q cI cV vf a ad ac x) → va_S A s.heap H locs → lv_has ls 16 [(0, .ref (a 0)), (5, .ref ac), (11, .int v11), (15, .int v15)] → W p l e ({ frames := 10, cells := 6, slots := 36, locals := 230 } : Room) s m ([.ref (a 0), .int p1, .int p2, .int p3, .int p4, .ref ac] : List Value).toArray below meth c H locs 6 36 (MQ below (QW D (TY cI cV cJ cD) (W_Q cI cV vf a ad ac res.1) A (some (.int res.2))) (([.ref (a 0), .int p1, .int p2, .int p3, .int p4, .ref ac] : List Value).toArray) s 6 36 A) (F0 m 632 ls [.int s0]) := by
    intro x v11 v15 s0 H locs ls hf hP hD hS hl
    dsimp only [fL_commands_632] at hf
    refine lv_istore (lv' := [(10, .int s0), (0, .ref (a 0)), (5, .ref ac), (11, .int v11), (15, .int v15)]) hx hb dL_commands_632 hl (by decide) rfl (fun ls hl => ?_)
    refine lv_iload hx hb dL_commands_634 (lv_at hl 4 rfl) ?_
    refine lv_istore (lv' := [(12, .int v15), (10, .int s0), (0, .ref (a 0)), (5, .ref ac), (11, .int v11), (15, .int v15)]) hx hb dL_commands_636 hl (by decide) rfl (fun ls hl => ?_)
    refine lv_goto (tgt := 688) hx hb dL_commands_638 (by decide) ?_
    exact L688 x s0 v11 v15 H locs ls hf hP hD hS (lv_sub hl [2, 3, 1, 4, 0] rfl)
  have L600 : ∀ (x : QSt) (v2 : Int32) (v13 : Int32) (v14 : Int32) (s0 : Int32) (H : Heap) (locs : List Loc) (ls : Array Slot), fL_commands_600 x v2 v13 v14 s0  = some res → va_P D vwCl (W_Q cI cV vf a ad ac x) H → va_D A (W_Q cI cV vf a ad ac x) → va_S A s.heap H locs → lv_has ls 16 [(0, .ref (a 0)), (2, .int v2), (5, .ref ac), (13, .int v13), (14, .int v14)] → W p l e ({ frames := 10, cells := 6, slots := 36, locals := 230 } : Room) s m ([.ref (a 0), .int p1, .int p2, .int p3, .int p4, .ref ac] : List Value).toArray below meth c H locs 0 0 (MQ below (QW D (TY cI cV cJ cD) (W_Q cI cV vf a ad ac res.1) A (some (.int res.2))) (([.ref (a 0), .int p1, .int p2, .int p3, .int p4, .ref ac] : List Value).toArray) s 6 36 A) (F0 m 600 ls [.int s0]) := by
    intro x v2 v13 v14 s0 H locs ls hf hP hD hS hl
    dsimp only [fL_commands_600] at hf
    refine lv_istore (lv' := [(15, .int s0), (0, .ref (a 0)), (2, .int v2), (5, .ref ac), (13, .int v13), (14, .int v14)]) hx hb dL_commands_600 hl (by decide) rfl (fun ls hl => ?_)
    refine lv_aload_n hx hb dL_commands_602 rfl (lv_at hl 1 rfl) ?_
    refine lv_iconst (v := 4) hx hb dL_commands_603 (by decide) ?_
    refine lv_iload_n hx hb dL_commands_604 rfl (lv_at hl 2 rfl) ?_
    refine lv_iload hx hb dL_commands_605 (lv_at hl 5 rfl) ?_
    refine lv_iload hx hb dL_commands_607 (lv_at hl 4 rfl) ?_
    refine lv_iconst (v := 0) hx hb dL_commands_609 (by decide) ?_
    obtain ⟨hk158, hf⟩ := chk_t hf
    replace hk158 := of_decide_eq_true hk158
    obtain ⟨u156, hc157, hf⟩ := bind_t hf
    refine k_SWQ (ws' := W_Q cI cV vf a ad ac (qS_s x (unf ((v2 : Int32).toNatClampNeg) (qS x) u156.1))) (As := [.ref (a 0), .int 4, .int v2, .int v14, .int v13, .int 0]) (rest := []) (n := 6) ⟨hx, hb, hml, hown, hts⟩ (met_L_asks l hlt ((v2 : Int32).toNatClampNeg) vf (foA a (ad ((v2 : Int32).toNatClampNeg))) (hvf _ hk158) (foc ((v2 : Int32).toNatClampNeg) (qS x)) 4 v2 v14 v13 0 u156 hc157) w360 w361 w0 w362 ⟨by decide +kernel, by decide +kernel, by decide +kernel⟩ ⟨Nat.le_of_ble_eq_true rfl, Nat.le_of_ble_eq_true rfl⟩ hK hE hP hD hS hA (cut_QF x hk158 u156.1) rfl hl.1 rfl (Nat.le_of_ble_eq_true rfl) dL_commands_610 ⟨Nat.le_of_ble_eq_true rfl, Nat.le_of_ble_eq_true rfl⟩ (fun H locs hP hD hS => ?_)
    try dsimp only at hf
    refine W.eq (g2 := F0 m 613 ls [.int u156.2]) rfl ?_
    obtain ⟨x159, hx159⟩ : ∃ z, z = (qS_s x (unf ((v2 : Int32).toNatClampNeg) (qS x) u156.1)) := ⟨_, rfl⟩
    replace hf := keep_e hf x159 hx159
    have hP : va_P D vwCl (W_Q cI cV vf a ad ac x159) H := by rw [hx159]; exact hP
    have hD : va_D A (W_Q cI cV vf a ad ac x159) := by rw [hx159]; exact hD
    refine lv_topi (fun y160 hy160 => ?_)
    replace hf := keep_e hf y160 hy160
    refine lv_istore (lv' := [(11, .int y160), (15, .int s0), (0, .ref (a 0)), (2, .int v2), (5, .ref ac), (13, .int v13), (14, .int v14)]) hx hb dL_commands_613 hl (by decide) rfl (fun ls hl => ?_)
    refine lv_iload hx hb dL_commands_615 (lv_at hl 1 rfl) ?_
    refine lv_if_eq (tgt := 630) hx hb dL_commands_617 (by decide) (fun c161 => ?_) (fun c161 => ?_)
    · replace hf := if_t c161 hf
      refine lv_bipush (v := (-108)) hx hb dL_commands_630 (by decide) ?_
      exact L632 x159 y160 s0 (-108) H locs ls hf hP hD hS (lv_sub hl [2, 4, 0, 1] rfl)
    · replace hf := if_f c161 hf
      refine lv_aload_n hx hb dL_commands_620 rfl (lv_at hl 2 rfl) ?_
      refine lv_iload_n hx hb dL_commands_621 rfl (lv_at hl 3 rfl) ?_
      refine lv_iload hx hb dL_commands_622 (lv_at hl 6 rfl) ?_
      obtain ⟨hk164, hf⟩ := chk_t hf
      replace hk164 := of_decide_eq_true hk164
      obtain ⟨u162, hc163, hf⟩ := bind_t hf
      rcases u162 with r165 | k166
      rotate_left
      · exact (thr_n hf).elim
      replace hf := thr_v hf rfl
      refine k_VP (ws' := W_Q cI cV vf a ad ac x159) (As := [.int v2, .int v14]) (rest := []) (n := 2) ⟨hx, hb, hml, hown, hts⟩ (met0_X7_indexOf l ((v2 : Int32).toNatClampNeg) vf (foA a (ad ((v2 : Int32).toNatClampNeg))) (hvf _ hk164) (foc ((v2 : Int32).toNatClampNeg) (qS x159)) v2 v14 r165 hc163) w310 w311 w312 w1 w313 ⟨rfl, by decide +kernel, by decide +kernel, by decide +kernel⟩ ⟨Nat.le_of_ble_eq_true rfl, Nat.le_of_ble_eq_true rfl⟩ hK hE hP hD hS hA (cut_QFi x159 hk164) 0 6 rfl rfl rfl rfl hl.1 rfl (Nat.le_of_ble_eq_true rfl) dL_commands_624 ⟨Nat.le_of_ble_eq_true rfl, Nat.le_of_ble_eq_true rfl⟩ (fun H locs hP hD hS => ?_)
      try dsimp only at hf
      refine W.eq (g2 := F0 m 627 ls [.int r165]) rfl ?_
      refine lv_goto (tgt := 632) hx hb dL_commands_627 (by decide) ?_
      exact L632 x159 y160 s0 r165 H locs ls hf hP hD hS (lv_sub hl [2, 4, 0, 1] rfl)
  have L599 : ∀ (x : QSt) (v2 : Int32) (v13 : Int32) (v14 : Int32) (H : Heap) (locs : List Loc) (ls : Array Slot), fL_commands_599 x v2 v13 v14  = some res → va_P D vwCl (W_Q cI cV vf a ad ac x) H → va_D A (W_Q cI cV vf a ad ac x) → va_S A s.heap H locs → lv_has ls 16 [(0, .ref (a 0)), (2, .int v2), (5, .ref ac), (13, .int v13), (14, .int v14)] → W p l e ({ frames := 10, cells := 6, slots := 36, locals := 230 } : Room) s m ([.ref (a 0), .int p1, .int p2, .int p3, .int p4, .ref ac] : List Value).toArray below meth c H locs 0 0 (MQ below (QW D (TY cI cV cJ cD) (W_Q cI cV vf a ad ac res.1) A (some (.int res.2))) (([.ref (a 0), .int p1, .int p2, .int p3, .int p4, .ref ac] : List Value).toArray) s 6 36 A) (F0 m 599 ls []) := by
    intro x v2 v13 v14 H locs ls hf hP hD hS hl
    dsimp only [fL_commands_599] at hf
    refine lv_iconst (v := 0) hx hb dL_commands_599 (by decide) ?_
    exact L600 x v2 v13 v14 0 H locs ls hf hP hD hS (lv_sub hl [0, 1, 2, 3, 4] rfl)
  have L595 : ∀ (x : QSt) (v2 : Int32) (v13 : Int32) (v14 : Int32) (H : Heap) (locs : List Loc) (ls : Array Slot), fL_commands_595 x v2 v13 v14  = some res → va_P D vwCl (W_Q cI cV vf a ad ac x) H → va_D A (W_Q cI cV vf a ad ac x) → va_S A s.heap H locs → lv_has ls 16 [(0, .ref (a 0)), (2, .int v2), (5, .ref ac), (13, .int v13), (14, .int v14)] → W p l e ({ frames := 10, cells := 6, slots := 36, locals := 230 } : Room) s m ([.ref (a 0), .int p1, .int p2, .int p3, .int p4, .ref ac] : List Value).toArray below meth c H locs 0 0 (MQ below (QW D (TY cI cV cJ cD) (W_Q cI cV vf a ad ac res.1) A (some (.int res.2))) (([.ref (a 0), .int p1, .int p2, .int p3, .int p4, .ref ac] : List Value).toArray) s 6 36 A) (F0 m 595 ls []) := by
    intro x v2 v13 v14 H locs ls hf hP hD hS hl
    dsimp only [fL_commands_595] at hf
    refine lv_iconst (v := 1) hx hb dL_commands_595 (by decide) ?_
    refine lv_goto (tgt := 600) hx hb dL_commands_596 (by decide) ?_
    exact L600 x v2 v13 v14 1 H locs ls hf hP hD hS (lv_sub hl [0, 1, 2, 3, 4] rfl)
  have L560 : ∀ (x : QSt) (v2 : Int32) (v6 : Int32) (v7 : Int32) (v9 : Int32) (v13 : Int32) (s0 : Int32) (H : Heap) (locs : List Loc) (ls : Array Slot), fL_commands_560 x v2 v6 v7 v9 v13 s0  = some res → va_P D vwCl (W_Q cI cV vf a ad ac x) H → va_D A (W_Q cI cV vf a ad ac x) → va_S A s.heap H locs → lv_has ls 16 [(0, .ref (a 0)), (2, .int v2), (5, .ref ac), (6, .int v6), (7, .int v7), (9, .int v9), (13, .int v13)] → W p l e ({ frames := 10, cells := 6, slots := 36, locals := 230 } : Room) s m ([.ref (a 0), .int p1, .int p2, .int p3, .int p4, .ref ac] : List Value).toArray below meth c H locs 0 0 (MQ below (QW D (TY cI cV cJ cD) (W_Q cI cV vf a ad ac res.1) A (some (.int res.2))) (([.ref (a 0), .int p1, .int p2, .int p3, .int p4, .ref ac] : List Value).toArray) s 6 36 A) (F0 m 560 ls [.int s0]) := by
    intro x v2 v6 v7 v9 v13 s0 H locs ls hf hP hD hS hl
    dsimp only [fL_commands_560] at hf
    refine lv_istore (lv' := [(14, .int s0), (0, .ref (a 0)), (2, .int v2), (5, .ref ac), (6, .int v6), (7, .int v7), (9, .int v9), (13, .int v13)]) hx hb dL_commands_560 hl (by decide) rfl (fun ls hl => ?_)
    refine lv_iload hx hb dL_commands_562 (lv_at hl 6 rfl) ?_
    refine lv_if_ne (tgt := 599) hx hb dL_commands_564 (by decide) (fun c167 => ?_) (fun c167 => ?_)
    · replace hf := if_f c167 hf
      exact L599 x v2 v13 s0 H locs ls hf hP hD hS (lv_sub hl [1, 2, 3, 7, 0] rfl)
    · replace hf := if_t c167 hf
      refine lv_iload hx hb dL_commands_567 (lv_at hl 4 rfl) ?_
      refine lv_if_eq (tgt := 595) hx hb dL_commands_569 (by decide) (fun c168 => ?_) (fun c168 => ?_)
      · replace hf := if_t c168 hf
        exact L595 x v2 v13 s0 H locs ls hf hP hD hS (lv_sub hl [1, 2, 3, 7, 0] rfl)
      · replace hf := if_f c168 hf
        refine lv_iload hx hb dL_commands_572 (lv_at hl 4 rfl) ?_
        refine lv_iconst (v := 3) hx hb dL_commands_574 (by decide) ?_
        refine lv_icmp_ne (tgt := 599) hx hb dL_commands_575 (by decide) (fun c169 => ?_) (fun c169 => ?_)
        · replace hf := if_f c169 hf
          exact L599 x v2 v13 s0 H locs ls hf hP hD hS (lv_sub hl [1, 2, 3, 7, 0] rfl)
        · replace hf := if_t c169 hf
          refine lv_iload hx hb dL_commands_578 (lv_at hl 5 rfl) ?_
          refine lv_bipush (v := 40) hx hb dL_commands_580 (by decide) ?_
          refine lv_icmp_lt (tgt := 595) hx hb dL_commands_582 (by decide) (fun c170 => ?_) (fun c170 => ?_)
          · replace hf := if_t c170 hf
            exact L595 x v2 v13 s0 H locs ls hf hP hD hS (lv_sub hl [1, 2, 3, 7, 0] rfl)
          · replace hf := if_f c170 hf
            refine lv_aload_n hx hb dL_commands_585 rfl (lv_at hl 1 rfl) ?_
            refine lv_iload_n hx hb dL_commands_586 rfl (lv_at hl 2 rfl) ?_
            refine lv_iload hx hb dL_commands_587 (lv_at hl 0 rfl) ?_
            obtain ⟨hk173, hf⟩ := chk_t hf
            replace hk173 := of_decide_eq_true hk173
            obtain ⟨u171, hc172, hf⟩ := bind_t hf
            rcases u171 with r174 | k175
            rotate_left
            · exact (thr_n hf).elim
            replace hf := thr_v hf rfl
            refine k_VP (ws' := W_Q cI cV vf a ad ac x) (As := [.int v2, .int s0]) (rest := []) (n := 2) ⟨hx, hb, hml, hown, hts⟩ (met0_X7_indexOf l ((v2 : Int32).toNatClampNeg) vf (foA a (ad ((v2 : Int32).toNatClampNeg))) (hvf _ hk173) (foc ((v2 : Int32).toNatClampNeg) (qS x)) v2 s0 r174 hc172) w310 w311 w312 w1 w313 ⟨rfl, by decide +kernel, by decide +kernel, by decide +kernel⟩ ⟨Nat.le_of_ble_eq_true rfl, Nat.le_of_ble_eq_true rfl⟩ hK hE hP hD hS hA (cut_QFi x hk173) 0 6 rfl rfl rfl rfl hl.1 rfl (Nat.le_of_ble_eq_true rfl) dL_commands_589 ⟨Nat.le_of_ble_eq_true rfl, Nat.le_of_ble_eq_true rfl⟩ (fun H locs hP hD hS => ?_)
            try dsimp only at hf
            refine W.eq (g2 := F0 m 592 ls [.int r174]) rfl ?_
            refine lv_if_lt (tgt := 599) hx hb dL_commands_592 (by decide) (fun c176 => ?_) (fun c176 => ?_)
            · replace hf := if_t c176 hf
              exact L599 x v2 v13 s0 H locs ls hf hP hD hS (lv_sub hl [1, 2, 3, 7, 0] rfl)
            · replace hf := if_f c176 hf
              exact L595 x v2 v13 s0 H locs ls hf hP hD hS (lv_sub hl [1, 2, 3, 7, 0] rfl)
  have L555 : ∀ (x : QSt) (v2 : Int32) (v6 : Int32) (v7 : Int32) (v8 : Int32) (v9 : Int32) (v13 : Int32) (H : Heap) (locs : List Loc) (ls : Array Slot), fL_commands_555 x v2 v6 v7 v8 v9 v13  = some res → va_P D vwCl (W_Q cI cV vf a ad ac x) H → va_D A (W_Q cI cV vf a ad ac x) → va_S A s.heap H locs → lv_has ls 16 [(0, .ref (a 0)), (2, .int v2), (5, .ref ac), (6, .int v6), (7, .int v7), (8, .int v8), (9, .int v9), (13, .int v13)] → W p l e ({ frames := 10, cells := 6, slots := 36, locals := 230 } : Room) s m ([.ref (a 0), .int p1, .int p2, .int p3, .int p4, .ref ac] : List Value).toArray below meth c H locs 0 0 (MQ below (QW D (TY cI cV cJ cD) (W_Q cI cV vf a ad ac res.1) A (some (.int res.2))) (([.ref (a 0), .int p1, .int p2, .int p3, .int p4, .ref ac] : List Value).toArray) s 6 36 A) (F0 m 555 ls []) := by
    intro x v2 v6 v7 v8 v9 v13 H locs ls hf hP hD hS hl
    dsimp only [fL_commands_555] at hf
    refine lv_iload hx hb dL_commands_555 (lv_at hl 5 rfl) ?_
    refine lv_bipush (v := 60) hx hb dL_commands_557 (by decide) ?_
    refine lv_irem hx hb dL_commands_559 (by decide) ?_
    exact L560 x v2 v6 v7 v9 v13 (v8 - v8 / 60 * 60) H locs ls hf hP hD hS (lv_sub hl [0, 1, 2, 3, 4, 6, 7] rfl)
  have L526 : ∀ (x : QSt) (v2 : Int32) (v4 : Int32) (v6 : Int32) (v7 : Int32) (v8 : Int32) (v9 : Int32) (s0 : Int32) (H : Heap) (locs : List Loc) (ls : Array Slot), fL_commands_526 x v2 v4 v6 v7 v8 v9 s0  = some res → va_P D vwCl (W_Q cI cV vf a ad ac x) H → va_D A (W_Q cI cV vf a ad ac x) → va_S A s.heap H locs → lv_has ls 16 [(0, .ref (a 0)), (2, .int v2), (4, .int v4), (5, .ref ac), (6, .int v6), (7, .int v7), (8, .int v8), (9, .int v9)] → W p l e ({ frames := 10, cells := 6, slots := 36, locals := 230 } : Room) s m ([.ref (a 0), .int p1, .int p2, .int p3, .int p4, .ref ac] : List Value).toArray below meth c H locs 0 0 (MQ below (QW D (TY cI cV cJ cD) (W_Q cI cV vf a ad ac res.1) A (some (.int res.2))) (([.ref (a 0), .int p1, .int p2, .int p3, .int p4, .ref ac] : List Value).toArray) s 6 36 A) (F0 m 526 ls [.int s0]) := by
    intro x v2 v4 v6 v7 v8 v9 s0 H locs ls hf hP hD hS hl
    dsimp only [fL_commands_526] at hf
    refine lv_istore (lv' := [(13, .int s0), (0, .ref (a 0)), (2, .int v2), (4, .int v4), (5, .ref ac), (6, .int v6), (7, .int v7), (8, .int v8), (9, .int v9)]) hx hb dL_commands_526 hl (by decide) rfl (fun ls hl => ?_)
    refine lv_iload hx hb dL_commands_528 (lv_at hl 6 rfl) ?_
    refine lv_if_le (tgt := 555) hx hb dL_commands_530 (by decide) (fun c177 => ?_) (fun c177 => ?_)
    · replace hf := if_t c177 hf
      exact L555 x v2 v6 v7 v8 v9 s0 H locs ls hf hP hD hS (lv_sub hl [1, 2, 4, 5, 6, 7, 8, 0] rfl)
    · replace hf := if_f c177 hf
      refine lv_iload hx hb dL_commands_533 (lv_at hl 3 rfl) ?_
      refine lv_iconst (v := 2) hx hb dL_commands_535 (by decide) ?_
      refine lv_irem hx hb dL_commands_536 (by decide) ?_
      refine lv_if_ne (tgt := 555) hx hb dL_commands_537 (by decide) (fun c178 => ?_) (fun c178 => ?_)
      · replace hf := if_f c178 hf
        exact L555 x v2 v6 v7 v8 v9 s0 H locs ls hf hP hD hS (lv_sub hl [1, 2, 4, 5, 6, 7, 8, 0] rfl)
      · replace hf := if_t c178 hf
        refine lv_aload_n hx hb dL_commands_540 rfl (lv_at hl 1 rfl) ?_
        refine lv_iload_n hx hb dL_commands_541 rfl (lv_at hl 2 rfl) ?_
        refine lv_iload hx hb dL_commands_542 (lv_at hl 3 rfl) ?_
        refine lv_iconst (v := 2) hx hb dL_commands_544 (by decide) ?_
        refine lv_idiv hx hb dL_commands_545 (by decide) ?_
        refine lv_iload hx hb dL_commands_546 (lv_at hl 6 rfl) ?_
        obtain ⟨hz179, hf⟩ := chk_t hf
        refine lv_irem hx hb dL_commands_548 (of_decide_eq_true hz179) ?_
        obtain ⟨hk182, hf⟩ := chk_t hf
        replace hk182 := of_decide_eq_true hk182
        obtain ⟨u180, hc181, hf⟩ := bind_t hf
        rcases u180 with r183 | k184
        rotate_left
        · exact (thr_n hf).elim
        replace hf := thr_v hf rfl
        refine k_VP (ws' := W_Q cI cV vf a ad ac x) (As := [.int v2, .int ((v4 / 2) - (v4 / 2) / v7 * v7)]) (rest := []) (n := 2) ⟨hx, hb, hml, hown, hts⟩ (met0_X7_at l ((v2 : Int32).toNatClampNeg) vf (foA a (ad ((v2 : Int32).toNatClampNeg))) (hvf _ hk182) (foc ((v2 : Int32).toNatClampNeg) (qS x)) v2 ((v4 / 2) - (v4 / 2) / v7 * v7) r183 hc181) w625 w626 w627 w1 w628 ⟨rfl, by decide +kernel, by decide +kernel, by decide +kernel⟩ ⟨Nat.le_of_ble_eq_true rfl, Nat.le_of_ble_eq_true rfl⟩ hK hE hP hD hS hA (cut_QFi x hk182) 0 6 rfl rfl rfl rfl hl.1 rfl (Nat.le_of_ble_eq_true rfl) dL_commands_549 ⟨Nat.le_of_ble_eq_true rfl, Nat.le_of_ble_eq_true rfl⟩ (fun H locs hP hD hS => ?_)
        try dsimp only at hf
        refine W.eq (g2 := F0 m 552 ls [.int r183]) rfl ?_
        refine lv_goto (tgt := 560) hx hb dL_commands_552 (by decide) ?_
        exact L560 x v2 v6 v7 v9 s0 r183 H locs ls hf hP hD hS (lv_sub hl [1, 2, 4, 5, 6, 8, 0] rfl)
  have L525 : ∀ (x : QSt) (v2 : Int32) (v4 : Int32) (v6 : Int32) (v7 : Int32) (v8 : Int32) (v9 : Int32) (s0 : Int32) (s1 : Int32) (H : Heap) (locs : List Loc) (ls : Array Slot), fL_commands_525 x v2 v4 v6 v7 v8 v9 s0 s1  = some res → va_P D vwCl (W_Q cI cV vf a ad ac x) H → va_D A (W_Q cI cV vf a ad ac x) → va_S A s.heap H locs → lv_has ls 16 [(0, .ref (a 0)), (2, .int v2), (4, .int v4), (5, .ref ac), (6, .int v6), (7, .int v7), (8, .int v8), (9, .int v9)] → W p l e ({ frames := 10, cells := 6, slots := 36, locals := 230 } : Room) s m ([.ref (a 0), .int p1, .int p2, .int p3, .int p4, .ref ac] : List Value).toArray below meth c H locs 0 0 (MQ below (QW D (TY cI cV cJ cD) (W_Q cI cV vf a ad ac res.1) A (some (.int res.2))) (([.ref (a 0), .int p1, .int p2, .int p3, .int p4, .ref ac] : List Value).toArray) s 6 36 A) (F0 m 525 ls [.int s0, .int s1]) := by
    intro x v2 v4 v6 v7 v8 v9 s0 s1 H locs ls hf hP hD hS hl
    dsimp only [fL_commands_525] at hf
    refine lv_ior hx hb dL_commands_525 ?_
    exact L526 x v2 v4 v6 v7 v8 v9 (s1 ||| s0) H locs ls hf hP hD hS (lv_sub hl [0, 1, 2, 3, 4, 5, 6, 7] rfl)
  have L511 : ∀ (x : QSt) (v2 : Int32) (v4 : Int32) (v6 : Int32) (v7 : Int32) (v8 : Int32) (v9 : Int32) (s0 : Int32) (s1 : Int32) (H : Heap) (locs : List Loc) (ls : Array Slot), fL_commands_511 x v2 v4 v6 v7 v8 v9 s0 s1  = some res → va_P D vwCl (W_Q cI cV vf a ad ac x) H → va_D A (W_Q cI cV vf a ad ac x) → va_S A s.heap H locs → lv_has ls 16 [(0, .ref (a 0)), (2, .int v2), (4, .int v4), (5, .ref ac), (6, .int v6), (7, .int v7), (8, .int v8), (9, .int v9)] → W p l e ({ frames := 10, cells := 6, slots := 36, locals := 230 } : Room) s m ([.ref (a 0), .int p1, .int p2, .int p3, .int p4, .ref ac] : List Value).toArray below meth c H locs 0 0 (MQ below (QW D (TY cI cV cJ cD) (W_Q cI cV vf a ad ac res.1) A (some (.int res.2))) (([.ref (a 0), .int p1, .int p2, .int p3, .int p4, .ref ac] : List Value).toArray) s 6 36 A) (F0 m 511 ls [.int s0, .int s1]) := by
    intro x v2 v4 v6 v7 v8 v9 s0 s1 H locs ls hf hP hD hS hl
    dsimp only [fL_commands_511] at hf
    refine lv_ior hx hb dL_commands_511 ?_
    refine lv_iload hx hb dL_commands_512 (lv_at hl 2 rfl) ?_
    refine lv_iconst (v := 3) hx hb dL_commands_514 (by decide) ?_
    refine lv_irem hx hb dL_commands_515 (by decide) ?_
    refine lv_if_ne (tgt := 524) hx hb dL_commands_516 (by decide) (fun c185 => ?_) (fun c185 => ?_)
    · replace hf := if_f c185 hf
      refine lv_iconst (v := 0) hx hb dL_commands_524 (by decide) ?_
      exact L525 x v2 v4 v6 v7 v8 v9 0 (s1 ||| s0) H locs ls hf hP hD hS (lv_sub hl [0, 1, 2, 3, 4, 5, 6, 7] rfl)
    · replace hf := if_t c185 hf
      refine lv_ldc (own := RL) (v := (-2147483648)) hx hb hown (hg _ w680) dL_commands_519 ?_
      refine lv_goto (tgt := 525) hx hb dL_commands_521 (by decide) ?_
      exact L525 x v2 v4 v6 v7 v8 v9 (-2147483648) (s1 ||| s0) H locs ls hf hP hD hS (lv_sub hl [0, 1, 2, 3, 4, 5, 6, 7] rfl)
  have L444 : ∀ (x : QSt) (v12 : Int32) (H : Heap) (locs : List Loc) (ls : Array Slot), fL_commands_444 x v12  = some res → va_P D vwCl (W_Q cI cV vf a ad ac x) H → va_D A (W_Q cI cV vf a ad ac x) → va_S A s.heap H locs → lv_has ls 16 [(0, .ref (a 0)), (5, .ref ac), (12, .int v12)] → W p l e ({ frames := 10, cells := 6, slots := 36, locals := 230 } : Room) s m ([.ref (a 0), .int p1, .int p2, .int p3, .int p4, .ref ac] : List Value).toArray below meth c H locs 6 36 (MQ below (QW D (TY cI cV cJ cD) (W_Q cI cV vf a ad ac res.1) A (some (.int res.2))) (([.ref (a 0), .int p1, .int p2, .int p3, .int p4, .ref ac] : List Value).toArray) s 6 36 A) (F0 m 444 ls []) := by
    intro x v12 H locs ls hf hP hD hS hl
    dsimp only [fL_commands_444] at hf
    refine lv_aload_n hx hb dL_commands_444 rfl (lv_at hl 0 rfl) ?_
    refine lv_iload hx hb dL_commands_445 (lv_at hl 2 rfl) ?_
    refine lv_aload hx hb dL_commands_447 (lv_at hl 1 rfl) ?_
    obtain ⟨u186, hc187, hf⟩ := bind_t hf
    refine k_SP (ws' := W_Q cI cV vf a ad ac u186.1) (As := [.ref (a 0), .int v12, .ref ac]) (rest := []) (n := 3) ⟨hx, hb, hml, hown, hts⟩ (met_L_settles l hlt vf ad a ac hvf x v12 u186 hc187) w673 w674 w0 w675 ⟨by decide +kernel, by decide +kernel, by decide +kernel⟩ ⟨Nat.le_of_ble_eq_true rfl, Nat.le_of_ble_eq_true rfl⟩ hK hE hP hD hS hA (CutP_self _ _) rfl hl.1 rfl (Nat.le_of_ble_eq_true rfl) dL_commands_449 ⟨Nat.le_of_ble_eq_true rfl, Nat.le_of_ble_eq_true rfl⟩ (fun H locs hP hD hS => ?_)
    try dsimp only at hf
    refine W.eq (g2 := F0 m 452 ls [.int u186.2]) rfl ?_
    obtain ⟨x188, hx188⟩ : ∃ z, z = u186.1 := ⟨_, rfl⟩
    replace hf := keep_e hf x188 hx188
    have hP : va_P D vwCl (W_Q cI cV vf a ad ac x188) H := by rw [hx188]; exact hP
    have hD : va_D A (W_Q cI cV vf a ad ac x188) := by rw [hx188]; exact hD
    refine lv_if_eq (tgt := 459) hx hb dL_commands_452 (by decide) (fun c189 => ?_) (fun c189 => ?_)
    · replace hf := if_t c189 hf
      refine lv_iconst (v := 0) hx hb dL_commands_459 (by decide) ?_
      obtain rfl := Option.some.inj hf
      exact W.zret (v := 0) hx hb hr (by decide +kernel) (fun t ht hW => ⟨rfl, by rw [ht]; exact hP, va_K.moved hW.alike hK, hD, hS.F ht⟩) hS.2.2 dL_commands_460 hlocks
    · replace hf := if_f c189 hf
      refine lv_iconst (v := 1) hx hb dL_commands_455 (by decide) ?_
      refine lv_goto (tgt := 460) hx hb dL_commands_456 (by decide) ?_
      obtain rfl := Option.some.inj hf
      exact W.zret (v := 1) hx hb hr (by decide +kernel) (fun t ht hW => ⟨rfl, by rw [ht]; exact hP, va_K.moved hW.alike hK, hD, hS.F ht⟩) hS.2.2 dL_commands_460 hlocks
  have L424 : ∀ (x : QSt) (v2 : Int32) (v10 : Int32) (v12 : Int32) (v13 : Int32) (s0 : Int32) (s1 : Int32) (s2 : Int32) (H : Heap) (locs : List Loc) (ls : Array Slot), fL_commands_424 x v2 v10 v12 v13 s0 s1 s2  = some res → va_P D vwCl (W_Q cI cV vf a ad ac x) H → va_D A (W_Q cI cV vf a ad ac x) → va_S A s.heap H locs → lv_has ls 16 [(0, .ref (a 0)), (2, .int v2), (5, .ref ac), (10, .int v10), (12, .int v12), (13, .int v13)] → W p l e ({ frames := 10, cells := 6, slots := 36, locals := 230 } : Room) s m ([.ref (a 0), .int p1, .int p2, .int p3, .int p4, .ref ac] : List Value).toArray below meth c H locs 6 36 (MQ below (QW D (TY cI cV cJ cD) (W_Q cI cV vf a ad ac res.1) A (some (.int res.2))) (([.ref (a 0), .int p1, .int p2, .int p3, .int p4, .ref ac] : List Value).toArray) s 6 36 A) (F0 m 424 ls [.int s0, .int s1, .int s2]) := by
    intro x v2 v10 v12 v13 s0 s1 s2 H locs ls hf hP hD hS hl
    dsimp only [fL_commands_424] at hf
    refine lv_iadd hx hb dL_commands_424 ?_
    refine lv_icmp_ne (tgt := 459) hx hb dL_commands_425 (by decide) (fun c190 => ?_) (fun c190 => ?_)
    · replace hf := if_f c190 hf
      refine lv_iconst (v := 0) hx hb dL_commands_459 (by decide) ?_
      obtain rfl := Option.some.inj hf
      exact W.zret (v := 0) hx hb hr (by decide +kernel) (fun t ht hW => ⟨rfl, by rw [ht]; exact hP, va_K.moved hW.alike hK, hD, hS.F ht⟩) hS.2.2 dL_commands_460 hlocks
    · replace hf := if_t c190 hf
      refine lv_iload hx hb dL_commands_428 (lv_at hl 3 rfl) ?_
      refine lv_if_lt (tgt := 444) hx hb dL_commands_430 (by decide) (fun c191 => ?_) (fun c191 => ?_)
      · replace hf := if_t c191 hf
        exact L444 x v12 H locs ls hf hP hD hS (lv_sub hl [0, 2, 4] rfl)
      · replace hf := if_f c191 hf
        refine lv_aload_n hx hb dL_commands_433 rfl (lv_at hl 0 rfl) ?_
        refine lv_iload_n hx hb dL_commands_434 rfl (lv_at hl 1 rfl) ?_
        refine lv_iload hx hb dL_commands_435 (lv_at hl 5 rfl) ?_
        obtain ⟨hk194, hf⟩ := chk_t hf
        replace hk194 := of_decide_eq_true hk194
        obtain ⟨u192, hc193, hf⟩ := bind_t hf
        rcases u192 with r195 | k196
        rotate_left
        · exact (thr_n hf).elim
        replace hf := thr_v hf rfl
        refine k_VP (ws' := W_Q cI cV vf a ad ac x) (As := [.int v2, .int v13]) (rest := []) (n := 2) ⟨hx, hb, hml, hown, hts⟩ (met0_X7_indexOf l ((v2 : Int32).toNatClampNeg) vf (foA a (ad ((v2 : Int32).toNatClampNeg))) (hvf _ hk194) (foc ((v2 : Int32).toNatClampNeg) (qS x)) v2 v13 r195 hc193) w310 w311 w312 w1 w313 ⟨rfl, by decide +kernel, by decide +kernel, by decide +kernel⟩ ⟨Nat.le_of_ble_eq_true rfl, Nat.le_of_ble_eq_true rfl⟩ hK hE hP hD hS hA (cut_QFi x hk194) 0 6 rfl rfl rfl rfl hl.1 rfl (Nat.le_of_ble_eq_true rfl) dL_commands_437 ⟨Nat.le_of_ble_eq_true rfl, Nat.le_of_ble_eq_true rfl⟩ (fun H locs hP hD hS => ?_)
        try dsimp only at hf
        refine W.eq (g2 := F0 m 440 ls [.int r195]) rfl ?_
        refine lv_iconst (v := (-1)) hx hb dL_commands_440 (by decide) ?_
        refine lv_icmp_ne (tgt := 459) hx hb dL_commands_441 (by decide) (fun c197 => ?_) (fun c197 => ?_)
        · replace hf := if_f c197 hf
          refine lv_iconst (v := 0) hx hb dL_commands_459 (by decide) ?_
          obtain rfl := Option.some.inj hf
          exact W.zret (v := 0) hx hb hr (by decide +kernel) (fun t ht hW => ⟨rfl, by rw [ht]; exact hP, va_K.moved hW.alike hK, hD, hS.F ht⟩) hS.2.2 dL_commands_460 hlocks
        · replace hf := if_t c197 hf
          exact L444 x v12 H locs ls hf hP hD hS (lv_sub hl [0, 2, 4] rfl)
  have L397 : ∀ (x : QSt) (v2 : Int32) (v10 : Int32) (v11 : Int32) (v13 : Int32) (s0 : Int32) (H : Heap) (locs : List Loc) (ls : Array Slot), fL_commands_397 x v2 v10 v11 v13 s0  = some res → va_P D vwCl (W_Q cI cV vf a ad ac x) H → va_D A (W_Q cI cV vf a ad ac x) → va_S A s.heap H locs → lv_has ls 16 [(0, .ref (a 0)), (2, .int v2), (5, .ref ac), (10, .int v10), (11, .int v11), (13, .int v13)] → W p l e ({ frames := 10, cells := 6, slots := 36, locals := 230 } : Room) s m ([.ref (a 0), .int p1, .int p2, .int p3, .int p4, .ref ac] : List Value).toArray below meth c H locs 6 36 (MQ below (QW D (TY cI cV cJ cD) (W_Q cI cV vf a ad ac res.1) A (some (.int res.2))) (([.ref (a 0), .int p1, .int p2, .int p3, .int p4, .ref ac] : List Value).toArray) s 6 36 A) (F0 m 397 ls [.int s0]) := by
    intro x v2 v10 v11 v13 s0 H locs ls hf hP hD hS hl
    dsimp only [fL_commands_397] at hf
    refine lv_istore (lv' := [(12, .int s0), (0, .ref (a 0)), (2, .int v2), (5, .ref ac), (10, .int v10), (11, .int v11), (13, .int v13)]) hx hb dL_commands_397 hl (by decide) rfl (fun ls hl => ?_)
    refine lv_iload hx hb dL_commands_399 (lv_at hl 5 rfl) ?_
    refine lv_iload hx hb dL_commands_401 (lv_at hl 4 rfl) ?_
    refine lv_icmp_ne (tgt := 459) hx hb dL_commands_403 (by decide) (fun c198 => ?_) (fun c198 => ?_)
    · replace hf := if_f c198 hf
      refine lv_iconst (v := 0) hx hb dL_commands_459 (by decide) ?_
      obtain rfl := Option.some.inj hf
      exact W.zret (v := 0) hx hb hr (by decide +kernel) (fun t ht hW => ⟨rfl, by rw [ht]; exact hP, va_K.moved hW.alike hK, hD, hS.F ht⟩) hS.2.2 dL_commands_460 hlocks
    · replace hf := if_t c198 hf
      refine lv_aload_n hx hb dL_commands_406 rfl (lv_at hl 1 rfl) ?_
      obtain ⟨u199, hc200, hf⟩ := bind_t hf
      refine k_VP (ws' := W_Q cI cV vf a ad ac x) (As := []) (rest := []) (n := 0) ⟨hx, hb, hml, hown, hts⟩ (met_X7_rows l 0 vf (foA a (ad 0)) (hvf _ (by decide : 0 < 16)) (foc 0 (qS x))  u199 hc200) w669 w670 w671 w1 w672 ⟨rfl, by decide +kernel, by decide +kernel, by decide +kernel⟩ ⟨Nat.le_of_ble_eq_true rfl, Nat.le_of_ble_eq_true rfl⟩ hK hE hP hD hS hA (cut_QFi x (by decide : 0 < 16)) 0 6 rfl rfl rfl rfl hl.1 rfl (Nat.le_of_ble_eq_true rfl) dL_commands_407 ⟨Nat.le_of_ble_eq_true rfl, Nat.le_of_ble_eq_true rfl⟩ (fun H locs hP hD hS => ?_)
      try dsimp only at hf
      refine W.eq (g2 := F0 m 410 ls [.int u199]) rfl ?_
      refine lv_aload hx hb dL_commands_410 (lv_at hl 3 rfl) ?_
      refine lv_iconst (v := 1) hx hb dL_commands_412 (by decide) ?_
      obtain ⟨hi201, hf⟩ := chk_t hf
      refine va_iald hx hb hK hP 0 0 rfl rfl (inb_in hi201) dL_commands_413 ?_
      refine lv_iload hx hb dL_commands_414 (lv_at hl 0 rfl) ?_
      refine lv_if_eq (tgt := 423) hx hb dL_commands_416 (by decide) (fun c202 => ?_) (fun c202 => ?_)
      · replace hf := if_t c202 hf
        refine lv_iconst (v := 0) hx hb dL_commands_423 (by decide) ?_
        exact L424 x v2 v10 s0 v13 0 (qC x (1 : Int32).toNatClampNeg) u199 H locs ls hf hP hD hS (lv_sub hl [1, 2, 3, 4, 0, 6] rfl)
      · replace hf := if_f c202 hf
        refine lv_iconst (v := 1) hx hb dL_commands_419 (by decide) ?_
        refine lv_goto (tgt := 424) hx hb dL_commands_420 (by decide) ?_
        exact L424 x v2 v10 s0 v13 1 (qC x (1 : Int32).toNatClampNeg) u199 H locs ls hf hP hD hS (lv_sub hl [1, 2, 3, 4, 0, 6] rfl)
  have L384 : ∀ (x : QSt) (v2 : Int32) (v11 : Int32) (v13 : Int32) (s0 : Int32) (H : Heap) (locs : List Loc) (ls : Array Slot), fL_commands_384 x v2 v11 v13 s0  = some res → va_P D vwCl (W_Q cI cV vf a ad ac x) H → va_D A (W_Q cI cV vf a ad ac x) → va_S A s.heap H locs → lv_has ls 16 [(0, .ref (a 0)), (2, .int v2), (5, .ref ac), (11, .int v11), (13, .int v13)] → W p l e ({ frames := 10, cells := 6, slots := 36, locals := 230 } : Room) s m ([.ref (a 0), .int p1, .int p2, .int p3, .int p4, .ref ac] : List Value).toArray below meth c H locs 6 36 (MQ below (QW D (TY cI cV cJ cD) (W_Q cI cV vf a ad ac res.1) A (some (.int res.2))) (([.ref (a 0), .int p1, .int p2, .int p3, .int p4, .ref ac] : List Value).toArray) s 6 36 A) (F0 m 384 ls [.int s0]) := by
    intro x v2 v11 v13 s0 H locs ls hf hP hD hS hl
    dsimp only [fL_commands_384] at hf
    refine lv_istore (lv' := [(10, .int s0), (0, .ref (a 0)), (2, .int v2), (5, .ref ac), (11, .int v11), (13, .int v13)]) hx hb dL_commands_384 hl (by decide) rfl (fun ls hl => ?_)
    refine lv_iload hx hb dL_commands_386 (lv_at hl 4 rfl) ?_
    refine lv_iconst (v := 1) hx hb dL_commands_388 (by decide) ?_
    refine lv_icmp_ne (tgt := 396) hx hb dL_commands_389 (by decide) (fun c203 => ?_) (fun c203 => ?_)
    · replace hf := if_f c203 hf
      refine lv_iconst (v := 0) hx hb dL_commands_396 (by decide) ?_
      exact L397 x v2 s0 v11 v13 0 H locs ls hf hP hD hS (lv_sub hl [1, 2, 3, 0, 4, 5] rfl)
    · replace hf := if_t c203 hf
      refine lv_iconst (v := 1) hx hb dL_commands_392 (by decide) ?_
      refine lv_goto (tgt := 397) hx hb dL_commands_393 (by decide) ?_
      exact L397 x v2 s0 v11 v13 1 H locs ls hf hP hD hS (lv_sub hl [1, 2, 3, 0, 4, 5] rfl)
  have L374 : ∀ (x : QSt) (v2 : Int32) (v11 : Int32) (v13 : Int32) (v14 : Int32) (H : Heap) (locs : List Loc) (ls : Array Slot), fL_commands_374 x v2 v11 v13 v14  = some res → va_P D vwCl (W_Q cI cV vf a ad ac x) H → va_D A (W_Q cI cV vf a ad ac x) → va_S A s.heap H locs → lv_has ls 16 [(0, .ref (a 0)), (2, .int v2), (5, .ref ac), (11, .int v11), (13, .int v13), (14, .int v14)] → W p l e ({ frames := 10, cells := 6, slots := 36, locals := 230 } : Room) s m ([.ref (a 0), .int p1, .int p2, .int p3, .int p4, .ref ac] : List Value).toArray below meth c H locs 6 36 (MQ below (QW D (TY cI cV cJ cD) (W_Q cI cV vf a ad ac res.1) A (some (.int res.2))) (([.ref (a 0), .int p1, .int p2, .int p3, .int p4, .ref ac] : List Value).toArray) s 6 36 A) (F0 m 374 ls []) := by
    intro x v2 v11 v13 v14 H locs ls hf hP hD hS hl
    dsimp only [fL_commands_374] at hf
    refine lv_iload hx hb dL_commands_374 (lv_at hl 5 rfl) ?_
    refine lv_if_eq (tgt := 383) hx hb dL_commands_376 (by decide) (fun c204 => ?_) (fun c204 => ?_)
    · replace hf := if_t c204 hf
      refine lv_iconst (v := 0) hx hb dL_commands_383 (by decide) ?_
      exact L384 x v2 v11 v13 0 H locs ls hf hP hD hS (lv_sub hl [0, 1, 2, 3, 4] rfl)
    · replace hf := if_f c204 hf
      refine lv_iconst (v := 1) hx hb dL_commands_379 (by decide) ?_
      refine lv_goto (tgt := 384) hx hb dL_commands_380 (by decide) ?_
      exact L384 x v2 v11 v13 1 H locs ls hf hP hD hS (lv_sub hl [0, 1, 2, 3, 4] rfl)
  have L369 : ∀ (x : QSt) (v2 : Int32) (v11 : Int32) (v13 : Int32) (H : Heap) (locs : List Loc) (ls : Array Slot), fL_commands_369 x v2 v11 v13  = some res → va_P D vwCl (W_Q cI cV vf a ad ac x) H → va_D A (W_Q cI cV vf a ad ac x) → va_S A s.heap H locs → lv_has ls 16 [(0, .ref (a 0)), (2, .int v2), (5, .ref ac), (11, .int v11), (13, .int v13)] → W p l e ({ frames := 10, cells := 6, slots := 36, locals := 230 } : Room) s m ([.ref (a 0), .int p1, .int p2, .int p3, .int p4, .ref ac] : List Value).toArray below meth c H locs 6 36 (MQ below (QW D (TY cI cV cJ cD) (W_Q cI cV vf a ad ac res.1) A (some (.int res.2))) (([.ref (a 0), .int p1, .int p2, .int p3, .int p4, .ref ac] : List Value).toArray) s 6 36 A) (F0 m 369 ls []) := by
    intro x v2 v11 v13 H locs ls hf hP hD hS hl
    dsimp only [fL_commands_369] at hf
    refine lv_bipush (v := (-108)) hx hb dL_commands_369 (by decide) ?_
    refine lv_goto (tgt := 384) hx hb dL_commands_371 (by decide) ?_
    exact L384 x v2 v11 v13 (-108) H locs ls hf hP hD hS (lv_sub hl [0, 1, 2, 3, 4] rfl)
  have L338 : ∀ (x : QSt) (v2 : Int32) (v6 : Int32) (v9 : Int32) (v13 : Int32) (s0 : Int32) (H : Heap) (locs : List Loc) (ls : Array Slot), fL_commands_338 x v2 v6 v9 v13 s0  = some res → va_P D vwCl (W_Q cI cV vf a ad ac x) H → va_D A (W_Q cI cV vf a ad ac x) → va_S A s.heap H locs → lv_has ls 16 [(0, .ref (a 0)), (2, .int v2), (5, .ref ac), (6, .int v6), (9, .int v9), (13, .int v13)] → W p l e ({ frames := 10, cells := 6, slots := 36, locals := 230 } : Room) s m ([.ref (a 0), .int p1, .int p2, .int p3, .int p4, .ref ac] : List Value).toArray below meth c H locs 0 0 (MQ below (QW D (TY cI cV cJ cD) (W_Q cI cV vf a ad ac res.1) A (some (.int res.2))) (([.ref (a 0), .int p1, .int p2, .int p3, .int p4, .ref ac] : List Value).toArray) s 6 36 A) (F0 m 338 ls [.int s0]) := by
    intro x v2 v6 v9 v13 s0 H locs ls hf hP hD hS hl
    dsimp only [fL_commands_338] at hf
    refine lv_istore (lv' := [(14, .int s0), (0, .ref (a 0)), (2, .int v2), (5, .ref ac), (6, .int v6), (9, .int v9), (13, .int v13)]) hx hb dL_commands_338 hl (by decide) rfl (fun ls hl => ?_)
    refine lv_aload_n hx hb dL_commands_340 rfl (lv_at hl 1 rfl) ?_
    refine lv_iconst (v := 3) hx hb dL_commands_341 (by decide) ?_
    refine lv_iload_n hx hb dL_commands_342 rfl (lv_at hl 2 rfl) ?_
    refine lv_iload hx hb dL_commands_343 (lv_at hl 6 rfl) ?_
    refine lv_iconst (v := 0) hx hb dL_commands_345 (by decide) ?_
    refine lv_iconst (v := 0) hx hb dL_commands_346 (by decide) ?_
    obtain ⟨hk207, hf⟩ := chk_t hf
    replace hk207 := of_decide_eq_true hk207
    obtain ⟨u205, hc206, hf⟩ := bind_t hf
    refine k_SWQ (ws' := W_Q cI cV vf a ad ac (qS_s x (unf ((v2 : Int32).toNatClampNeg) (qS x) u205.1))) (As := [.ref (a 0), .int 3, .int v2, .int v13, .int 0, .int 0]) (rest := []) (n := 6) ⟨hx, hb, hml, hown, hts⟩ (met_L_asks l hlt ((v2 : Int32).toNatClampNeg) vf (foA a (ad ((v2 : Int32).toNatClampNeg))) (hvf _ hk207) (foc ((v2 : Int32).toNatClampNeg) (qS x)) 3 v2 v13 0 0 u205 hc206) w360 w361 w0 w362 ⟨by decide +kernel, by decide +kernel, by decide +kernel⟩ ⟨Nat.le_of_ble_eq_true rfl, Nat.le_of_ble_eq_true rfl⟩ hK hE hP hD hS hA (cut_QF x hk207 u205.1) rfl hl.1 rfl (Nat.le_of_ble_eq_true rfl) dL_commands_347 ⟨Nat.le_of_ble_eq_true rfl, Nat.le_of_ble_eq_true rfl⟩ (fun H locs hP hD hS => ?_)
    try dsimp only at hf
    refine W.eq (g2 := F0 m 350 ls [.int u205.2]) rfl ?_
    obtain ⟨x208, hx208⟩ : ∃ z, z = (qS_s x (unf ((v2 : Int32).toNatClampNeg) (qS x) u205.1)) := ⟨_, rfl⟩
    replace hf := keep_e hf x208 hx208
    have hP : va_P D vwCl (W_Q cI cV vf a ad ac x208) H := by rw [hx208]; exact hP
    have hD : va_D A (W_Q cI cV vf a ad ac x208) := by rw [hx208]; exact hD
    refine lv_topi (fun y209 hy209 => ?_)
    replace hf := keep_e hf y209 hy209
    refine lv_istore (lv' := [(11, .int y209), (14, .int s0), (0, .ref (a 0)), (2, .int v2), (5, .ref ac), (6, .int v6), (9, .int v9), (13, .int v13)]) hx hb dL_commands_350 hl (by decide) rfl (fun ls hl => ?_)
    refine lv_iload hx hb dL_commands_352 (lv_at hl 6 rfl) ?_
    refine lv_if_ne (tgt := 369) hx hb dL_commands_354 (by decide) (fun c210 => ?_) (fun c210 => ?_)
    · replace hf := if_f c210 hf
      exact L369 x208 v2 y209 v13 H locs ls hf hP hD hS (lv_sub hl [2, 3, 4, 0, 7] rfl)
    · replace hf := if_t c210 hf
      refine lv_iload hx hb dL_commands_357 (lv_at hl 5 rfl) ?_
      refine lv_iconst (v := 2) hx hb dL_commands_359 (by decide) ?_
      refine lv_icmp_eq (tgt := 374) hx hb dL_commands_360 (by decide) (fun c211 => ?_) (fun c211 => ?_)
      · replace hf := if_t c211 hf
        exact L374 x208 v2 y209 v13 s0 H locs ls hf hP hD hS (lv_sub hl [2, 3, 4, 0, 7, 1] rfl)
      · replace hf := if_f c211 hf
        refine lv_iload hx hb dL_commands_363 (lv_at hl 5 rfl) ?_
        refine lv_iconst (v := 3) hx hb dL_commands_365 (by decide) ?_
        refine lv_icmp_eq (tgt := 374) hx hb dL_commands_366 (by decide) (fun c212 => ?_) (fun c212 => ?_)
        · replace hf := if_t c212 hf
          exact L374 x208 v2 y209 v13 s0 H locs ls hf hP hD hS (lv_sub hl [2, 3, 4, 0, 7, 1] rfl)
        · replace hf := if_f c212 hf
          exact L369 x208 v2 y209 v13 H locs ls hf hP hD hS (lv_sub hl [2, 3, 4, 0, 7] rfl)
  have L321 : ∀ (x : QSt) (v2 : Int32) (v6 : Int32) (v9 : Int32) (s0 : Int32) (H : Heap) (locs : List Loc) (ls : Array Slot), fL_commands_321 x v2 v6 v9 s0  = some res → va_P D vwCl (W_Q cI cV vf a ad ac x) H → va_D A (W_Q cI cV vf a ad ac x) → va_S A s.heap H locs → lv_has ls 16 [(0, .ref (a 0)), (2, .int v2), (5, .ref ac), (6, .int v6), (9, .int v9)] → W p l e ({ frames := 10, cells := 6, slots := 36, locals := 230 } : Room) s m ([.ref (a 0), .int p1, .int p2, .int p3, .int p4, .ref ac] : List Value).toArray below meth c H locs 0 0 (MQ below (QW D (TY cI cV cJ cD) (W_Q cI cV vf a ad ac res.1) A (some (.int res.2))) (([.ref (a 0), .int p1, .int p2, .int p3, .int p4, .ref ac] : List Value).toArray) s 6 36 A) (F0 m 321 ls [.int s0]) := by
    intro x v2 v6 v9 s0 H locs ls hf hP hD hS hl
    dsimp only [fL_commands_321] at hf
    refine lv_istore (lv' := [(13, .int s0), (0, .ref (a 0)), (2, .int v2), (5, .ref ac), (6, .int v6), (9, .int v9)]) hx hb dL_commands_321 hl (by decide) rfl (fun ls hl => ?_)
    refine lv_aload_n hx hb dL_commands_323 rfl (lv_at hl 1 rfl) ?_
    refine lv_iload_n hx hb dL_commands_324 rfl (lv_at hl 2 rfl) ?_
    refine lv_iload hx hb dL_commands_325 (lv_at hl 0 rfl) ?_
    obtain ⟨hk215, hf⟩ := chk_t hf
    replace hk215 := of_decide_eq_true hk215
    obtain ⟨u213, hc214, hf⟩ := bind_t hf
    rcases u213 with r216 | k217
    rotate_left
    · exact (thr_n hf).elim
    replace hf := thr_v hf rfl
    refine k_VP (ws' := W_Q cI cV vf a ad ac x) (As := [.int v2, .int s0]) (rest := []) (n := 2) ⟨hx, hb, hml, hown, hts⟩ (met0_X7_indexOf l ((v2 : Int32).toNatClampNeg) vf (foA a (ad ((v2 : Int32).toNatClampNeg))) (hvf _ hk215) (foc ((v2 : Int32).toNatClampNeg) (qS x)) v2 s0 r216 hc214) w310 w311 w312 w1 w313 ⟨rfl, by decide +kernel, by decide +kernel, by decide +kernel⟩ ⟨Nat.le_of_ble_eq_true rfl, Nat.le_of_ble_eq_true rfl⟩ hK hE hP hD hS hA (cut_QFi x hk215) 0 6 rfl rfl rfl rfl hl.1 rfl (Nat.le_of_ble_eq_true rfl) dL_commands_327 ⟨Nat.le_of_ble_eq_true rfl, Nat.le_of_ble_eq_true rfl⟩ (fun H locs hP hD hS => ?_)
    try dsimp only at hf
    refine W.eq (g2 := F0 m 330 ls [.int r216]) rfl ?_
    refine lv_if_lt (tgt := 337) hx hb dL_commands_330 (by decide) (fun c218 => ?_) (fun c218 => ?_)
    · replace hf := if_t c218 hf
      refine lv_iconst (v := 0) hx hb dL_commands_337 (by decide) ?_
      exact L338 x v2 v6 v9 s0 0 H locs ls hf hP hD hS (lv_sub hl [1, 2, 3, 4, 5, 0] rfl)
    · replace hf := if_f c218 hf
      refine lv_iconst (v := 1) hx hb dL_commands_333 (by decide) ?_
      refine lv_goto (tgt := 338) hx hb dL_commands_334 (by decide) ?_
      exact L338 x v2 v6 v9 s0 1 H locs ls hf hP hD hS (lv_sub hl [1, 2, 3, 4, 5, 0] rfl)
  have L319 : ∀ (x : QSt) (v2 : Int32) (v6 : Int32) (v8 : Int32) (v9 : Int32) (H : Heap) (locs : List Loc) (ls : Array Slot), fL_commands_319 x v2 v6 v8 v9  = some res → va_P D vwCl (W_Q cI cV vf a ad ac x) H → va_D A (W_Q cI cV vf a ad ac x) → va_S A s.heap H locs → lv_has ls 16 [(0, .ref (a 0)), (2, .int v2), (5, .ref ac), (6, .int v6), (8, .int v8), (9, .int v9)] → W p l e ({ frames := 10, cells := 6, slots := 36, locals := 230 } : Room) s m ([.ref (a 0), .int p1, .int p2, .int p3, .int p4, .ref ac] : List Value).toArray below meth c H locs 0 0 (MQ below (QW D (TY cI cV cJ cD) (W_Q cI cV vf a ad ac res.1) A (some (.int res.2))) (([.ref (a 0), .int p1, .int p2, .int p3, .int p4, .ref ac] : List Value).toArray) s 6 36 A) (F0 m 319 ls []) := by
    intro x v2 v6 v8 v9 H locs ls hf hP hD hS hl
    dsimp only [fL_commands_319] at hf
    refine lv_iload hx hb dL_commands_319 (lv_at hl 4 rfl) ?_
    exact L321 x v2 v6 v9 v8 H locs ls hf hP hD hS (lv_sub hl [0, 1, 2, 3, 5] rfl)
  have L282 : ∀ (x : QSt) (v10 : Int32) (v11 : Int32) (s0 : Int32) (H : Heap) (locs : List Loc) (ls : Array Slot), fL_commands_282 x v10 v11 s0  = some res → va_P D vwCl (W_Q cI cV vf a ad ac x) H → va_D A (W_Q cI cV vf a ad ac x) → va_S A s.heap H locs → lv_has ls 16 [(0, .ref (a 0)), (5, .ref ac), (10, .int v10), (11, .int v11)] → W p l e ({ frames := 10, cells := 6, slots := 36, locals := 230 } : Room) s m ([.ref (a 0), .int p1, .int p2, .int p3, .int p4, .ref ac] : List Value).toArray below meth c H locs 6 36 (MQ below (QW D (TY cI cV cJ cD) (W_Q cI cV vf a ad ac res.1) A (some (.int res.2))) (([.ref (a 0), .int p1, .int p2, .int p3, .int p4, .ref ac] : List Value).toArray) s 6 36 A) (F0 m 282 ls [.int s0]) := by
    intro x v10 v11 s0 H locs ls hf hP hD hS hl
    dsimp only [fL_commands_282] at hf
    refine lv_istore (lv' := [(12, .int s0), (0, .ref (a 0)), (5, .ref ac), (10, .int v10), (11, .int v11)]) hx hb dL_commands_282 hl (by decide) rfl (fun ls hl => ?_)
    refine lv_goto (tgt := 688) hx hb dL_commands_284 (by decide) ?_
    exact L688 x v10 v11 s0 H locs ls hf hP hD hS (lv_sub hl [1, 2, 3, 4, 0] rfl)
  have L270 : ∀ (x : QSt) (v11 : Int32) (s0 : Int32) (H : Heap) (locs : List Loc) (ls : Array Slot), fL_commands_270 x v11 s0  = some res → va_P D vwCl (W_Q cI cV vf a ad ac x) H → va_D A (W_Q cI cV vf a ad ac x) → va_S A s.heap H locs → lv_has ls 16 [(0, .ref (a 0)), (5, .ref ac), (11, .int v11)] → W p l e ({ frames := 10, cells := 6, slots := 36, locals := 230 } : Room) s m ([.ref (a 0), .int p1, .int p2, .int p3, .int p4, .ref ac] : List Value).toArray below meth c H locs 6 36 (MQ below (QW D (TY cI cV cJ cD) (W_Q cI cV vf a ad ac res.1) A (some (.int res.2))) (([.ref (a 0), .int p1, .int p2, .int p3, .int p4, .ref ac] : List Value).toArray) s 6 36 A) (F0 m 270 ls [.int s0]) := by
    intro x v11 s0 H locs ls hf hP hD hS hl
    dsimp only [fL_commands_270] at hf
    refine lv_istore (lv' := [(10, .int s0), (0, .ref (a 0)), (5, .ref ac), (11, .int v11)]) hx hb dL_commands_270 hl (by decide) rfl (fun ls hl => ?_)
    refine lv_iload hx hb dL_commands_272 (lv_at hl 3 rfl) ?_
    refine lv_if_lt (tgt := 281) hx hb dL_commands_274 (by decide) (fun c219 => ?_) (fun c219 => ?_)
    · replace hf := if_t c219 hf
      refine lv_iconst (v := 0) hx hb dL_commands_281 (by decide) ?_
      exact L282 x s0 v11 0 H locs ls hf hP hD hS (lv_sub hl [1, 2, 0, 3] rfl)
    · replace hf := if_f c219 hf
      refine lv_iconst (v := 1) hx hb dL_commands_277 (by decide) ?_
      refine lv_goto (tgt := 282) hx hb dL_commands_278 (by decide) ?_
      exact L282 x s0 v11 1 H locs ls hf hP hD hS (lv_sub hl [1, 2, 0, 3] rfl)
  have L263 : ∀ (x : QSt) (v11 : Int32) (H : Heap) (locs : List Loc) (ls : Array Slot), fL_commands_263 x v11  = some res → va_P D vwCl (W_Q cI cV vf a ad ac x) H → va_D A (W_Q cI cV vf a ad ac x) → va_S A s.heap H locs → lv_has ls 16 [(0, .ref (a 0)), (5, .ref ac), (11, .int v11)] → W p l e ({ frames := 10, cells := 6, slots := 36, locals := 230 } : Room) s m ([.ref (a 0), .int p1, .int p2, .int p3, .int p4, .ref ac] : List Value).toArray below meth c H locs 6 36 (MQ below (QW D (TY cI cV cJ cD) (W_Q cI cV vf a ad ac res.1) A (some (.int res.2))) (([.ref (a 0), .int p1, .int p2, .int p3, .int p4, .ref ac] : List Value).toArray) s 6 36 A) (F0 m 263 ls []) := by
    intro x v11 H locs ls hf hP hD hS hl
    dsimp only [fL_commands_263] at hf
    refine lv_bipush (v := (-108)) hx hb dL_commands_263 (by decide) ?_
    refine lv_goto (tgt := 270) hx hb dL_commands_265 (by decide) ?_
    exact L270 x v11 (-108) H locs ls hf hP hD hS (lv_sub hl [0, 1, 2] rfl)
  have L229 : ∀ (x : QSt) (v10 : Int32) (v11 : Int32) (s0 : Int32) (H : Heap) (locs : List Loc) (ls : Array Slot), fL_commands_229 x v10 v11 s0  = some res → va_P D vwCl (W_Q cI cV vf a ad ac x) H → va_D A (W_Q cI cV vf a ad ac x) → va_S A s.heap H locs → lv_has ls 16 [(0, .ref (a 0)), (5, .ref ac), (10, .int v10), (11, .int v11)] → W p l e ({ frames := 10, cells := 6, slots := 36, locals := 230 } : Room) s m ([.ref (a 0), .int p1, .int p2, .int p3, .int p4, .ref ac] : List Value).toArray below meth c H locs 6 36 (MQ below (QW D (TY cI cV cJ cD) (W_Q cI cV vf a ad ac res.1) A (some (.int res.2))) (([.ref (a 0), .int p1, .int p2, .int p3, .int p4, .ref ac] : List Value).toArray) s 6 36 A) (F0 m 229 ls [.int s0]) := by
    intro x v10 v11 s0 H locs ls hf hP hD hS hl
    dsimp only [fL_commands_229] at hf
    refine lv_istore (lv' := [(12, .int s0), (0, .ref (a 0)), (5, .ref ac), (10, .int v10), (11, .int v11)]) hx hb dL_commands_229 hl (by decide) rfl (fun ls hl => ?_)
    refine lv_goto (tgt := 688) hx hb dL_commands_231 (by decide) ?_
    exact L688 x v10 v11 s0 H locs ls hf hP hD hS (lv_sub hl [1, 2, 3, 4, 0] rfl)
  have L228 : ∀ (x : QSt) (v10 : Int32) (v11 : Int32) (H : Heap) (locs : List Loc) (ls : Array Slot), fL_commands_228 x v10 v11  = some res → va_P D vwCl (W_Q cI cV vf a ad ac x) H → va_D A (W_Q cI cV vf a ad ac x) → va_S A s.heap H locs → lv_has ls 16 [(0, .ref (a 0)), (5, .ref ac), (10, .int v10), (11, .int v11)] → W p l e ({ frames := 10, cells := 6, slots := 36, locals := 230 } : Room) s m ([.ref (a 0), .int p1, .int p2, .int p3, .int p4, .ref ac] : List Value).toArray below meth c H locs 6 36 (MQ below (QW D (TY cI cV cJ cD) (W_Q cI cV vf a ad ac res.1) A (some (.int res.2))) (([.ref (a 0), .int p1, .int p2, .int p3, .int p4, .ref ac] : List Value).toArray) s 6 36 A) (F0 m 228 ls []) := by
    intro x v10 v11 H locs ls hf hP hD hS hl
    dsimp only [fL_commands_228] at hf
    refine lv_iconst (v := 0) hx hb dL_commands_228 (by decide) ?_
    exact L229 x v10 v11 0 H locs ls hf hP hD hS (lv_sub hl [0, 1, 2, 3] rfl)
  have L212 : ∀ (x : QSt) (v11 : Int32) (v14 : Int32) (v15 : Int32) (s0 : Int32) (H : Heap) (locs : List Loc) (ls : Array Slot), fL_commands_212 x v11 v14 v15 s0  = some res → va_P D vwCl (W_Q cI cV vf a ad ac x) H → va_D A (W_Q cI cV vf a ad ac x) → va_S A s.heap H locs → lv_has ls 16 [(0, .ref (a 0)), (5, .ref ac), (11, .int v11), (14, .int v14), (15, .int v15)] → W p l e ({ frames := 10, cells := 6, slots := 36, locals := 230 } : Room) s m ([.ref (a 0), .int p1, .int p2, .int p3, .int p4, .ref ac] : List Value).toArray below meth c H locs 6 36 (MQ below (QW D (TY cI cV cJ cD) (W_Q cI cV vf a ad ac res.1) A (some (.int res.2))) (([.ref (a 0), .int p1, .int p2, .int p3, .int p4, .ref ac] : List Value).toArray) s 6 36 A) (F0 m 212 ls [.int s0]) := by
    intro x v11 v14 v15 s0 H locs ls hf hP hD hS hl
    dsimp only [fL_commands_212] at hf
    refine lv_istore (lv' := [(10, .int s0), (0, .ref (a 0)), (5, .ref ac), (11, .int v11), (14, .int v14), (15, .int v15)]) hx hb dL_commands_212 hl (by decide) rfl (fun ls hl => ?_)
    refine lv_iload hx hb dL_commands_214 (lv_at hl 5 rfl) ?_
    refine lv_if_eq (tgt := 228) hx hb dL_commands_216 (by decide) (fun c220 => ?_) (fun c220 => ?_)
    · replace hf := if_t c220 hf
      exact L228 x s0 v11 H locs ls hf hP hD hS (lv_sub hl [1, 2, 0, 3] rfl)
    · replace hf := if_f c220 hf
      refine lv_iload hx hb dL_commands_219 (lv_at hl 4 rfl) ?_
      refine lv_if_ne (tgt := 228) hx hb dL_commands_221 (by decide) (fun c221 => ?_) (fun c221 => ?_)
      · replace hf := if_f c221 hf
        exact L228 x s0 v11 H locs ls hf hP hD hS (lv_sub hl [1, 2, 0, 3] rfl)
      · replace hf := if_t c221 hf
        refine lv_iconst (v := 1) hx hb dL_commands_224 (by decide) ?_
        refine lv_goto (tgt := 229) hx hb dL_commands_225 (by decide) ?_
        exact L229 x s0 v11 1 H locs ls hf hP hD hS (lv_sub hl [1, 2, 0, 3] rfl)
  have L167 : ∀ (x : QSt) (v2 : Int32) (v3 : Int32) (v7 : Int32) (v8 : Int32) (v13 : Int32) (v14 : Int32) (v15 : Int32) (s0 : Int32) (H : Heap) (locs : List Loc) (ls : Array Slot), fL_commands_167 x v2 v3 v7 v8 v13 v14 v15 s0  = some res → va_P D vwCl (W_Q cI cV vf a ad ac x) H → va_D A (W_Q cI cV vf a ad ac x) → va_S A s.heap H locs → lv_has ls 16 [(0, .ref (a 0)), (2, .int v2), (3, .int v3), (5, .ref ac), (7, .int v7), (8, .int v8), (13, .int v13), (14, .int v14), (15, .int v15)] → W p l e ({ frames := 10, cells := 6, slots := 36, locals := 230 } : Room) s m ([.ref (a 0), .int p1, .int p2, .int p3, .int p4, .ref ac] : List Value).toArray below meth c H locs 0 0 (MQ below (QW D (TY cI cV cJ cD) (W_Q cI cV vf a ad ac res.1) A (some (.int res.2))) (([.ref (a 0), .int p1, .int p2, .int p3, .int p4, .ref ac] : List Value).toArray) s 6 36 A) (F0 m 167 ls [.int s0, .ref (a 0)]) := by
    intro x v2 v3 v7 v8 v13 v14 v15 s0 H locs ls hf hP hD hS hl
    dsimp only [fL_commands_167] at hf
    refine lv_iload_n hx hb dL_commands_167 rfl (lv_at hl 1 rfl) ?_
    refine lv_iload hx hb dL_commands_168 (lv_at hl 5 rfl) ?_
    refine lv_iload_n hx hb dL_commands_170 rfl (lv_at hl 2 rfl) ?_
    refine lv_iconst (v := 2) hx hb dL_commands_171 (by decide) ?_
    refine lv_irem hx hb dL_commands_172 (by decide) ?_
    refine lv_iconst (v := 0) hx hb dL_commands_173 (by decide) ?_
    obtain ⟨hk224, hf⟩ := chk_t hf
    replace hk224 := of_decide_eq_true hk224
    obtain ⟨u222, hc223, hf⟩ := bind_t hf
    refine k_SWQ (ws' := W_Q cI cV vf a ad ac (qS_s x (unf ((v2 : Int32).toNatClampNeg) (qS x) u222.1))) (As := [.ref (a 0), .int s0, .int v2, .int v8, .int (v3 - v3 / 2 * 2), .int 0]) (rest := []) (n := 6) ⟨hx, hb, hml, hown, hts⟩ (met_L_asks l hlt ((v2 : Int32).toNatClampNeg) vf (foA a (ad ((v2 : Int32).toNatClampNeg))) (hvf _ hk224) (foc ((v2 : Int32).toNatClampNeg) (qS x)) s0 v2 v8 (v3 - v3 / 2 * 2) 0 u222 hc223) w360 w361 w0 w362 ⟨by decide +kernel, by decide +kernel, by decide +kernel⟩ ⟨Nat.le_of_ble_eq_true rfl, Nat.le_of_ble_eq_true rfl⟩ hK hE hP hD hS hA (cut_QF x hk224 u222.1) rfl hl.1 rfl (Nat.le_of_ble_eq_true rfl) dL_commands_174 ⟨Nat.le_of_ble_eq_true rfl, Nat.le_of_ble_eq_true rfl⟩ (fun H locs hP hD hS => ?_)
    try dsimp only at hf
    refine W.eq (g2 := F0 m 177 ls [.int u222.2]) rfl ?_
    obtain ⟨x225, hx225⟩ : ∃ z, z = (qS_s x (unf ((v2 : Int32).toNatClampNeg) (qS x) u222.1)) := ⟨_, rfl⟩
    replace hf := keep_e hf x225 hx225
    have hP : va_P D vwCl (W_Q cI cV vf a ad ac x225) H := by rw [hx225]; exact hP
    have hD : va_D A (W_Q cI cV vf a ad ac x225) := by rw [hx225]; exact hD
    refine lv_topi (fun y226 hy226 => ?_)
    replace hf := keep_e hf y226 hy226
    refine lv_istore (lv' := [(11, .int y226), (0, .ref (a 0)), (2, .int v2), (3, .int v3), (5, .ref ac), (7, .int v7), (8, .int v8), (13, .int v13), (14, .int v14), (15, .int v15)]) hx hb dL_commands_177 hl (by decide) rfl (fun ls hl => ?_)
    refine lv_iload hx hb dL_commands_179 (lv_at hl 9 rfl) ?_
    refine lv_if_ne (tgt := 189) hx hb dL_commands_181 (by decide) (fun c227 => ?_) (fun c227 => ?_)
    · replace hf := if_f c227 hf
      refine lv_iload hx hb dL_commands_189 (lv_at hl 7 rfl) ?_
      refine lv_iconst (v := 2) hx hb dL_commands_191 (by decide) ?_
      refine lv_icmp_ne (tgt := 208) hx hb dL_commands_192 (by decide) (fun c228 => ?_) (fun c228 => ?_)
      · replace hf := if_f c228 hf
        refine lv_iload hx hb dL_commands_208 (lv_at hl 5 rfl) ?_
        refine lv_iconst (v := 1) hx hb dL_commands_210 (by decide) ?_
        refine lv_iadd hx hb dL_commands_211 ?_
        exact L212 x225 y226 v14 v15 (v7 + 1) H locs ls hf hP hD hS (lv_sub hl [1, 4, 0, 8, 9] rfl)
      · replace hf := if_t c228 hf
        refine lv_iload hx hb dL_commands_195 (lv_at hl 8 rfl) ?_
        refine lv_if_eq (tgt := 204) hx hb dL_commands_197 (by decide) (fun c229 => ?_) (fun c229 => ?_)
        · replace hf := if_t c229 hf
          refine lv_iconst (v := 1) hx hb dL_commands_204 (by decide) ?_
          refine lv_goto (tgt := 212) hx hb dL_commands_205 (by decide) ?_
          exact L212 x225 y226 v14 v15 1 H locs ls hf hP hD hS (lv_sub hl [1, 4, 0, 8, 9] rfl)
        · replace hf := if_f c229 hf
          refine lv_iconst (v := 0) hx hb dL_commands_200 (by decide) ?_
          refine lv_goto (tgt := 212) hx hb dL_commands_201 (by decide) ?_
          exact L212 x225 y226 v14 v15 0 H locs ls hf hP hD hS (lv_sub hl [1, 4, 0, 8, 9] rfl)
    · replace hf := if_t c227 hf
      refine lv_bipush (v := (-108)) hx hb dL_commands_184 (by decide) ?_
      refine lv_goto (tgt := 212) hx hb dL_commands_186 (by decide) ?_
      exact L212 x225 y226 v14 v15 (-108) H locs ls hf hP hD hS (lv_sub hl [1, 4, 0, 8, 9] rfl)
  have L146 : ∀ (x : QSt) (v1 : Int32) (v2 : Int32) (v3 : Int32) (v7 : Int32) (v8 : Int32) (v13 : Int32) (v14 : Int32) (s0 : Int32) (H : Heap) (locs : List Loc) (ls : Array Slot), fL_commands_146 x v1 v2 v3 v7 v8 v13 v14 s0  = some res → va_P D vwCl (W_Q cI cV vf a ad ac x) H → va_D A (W_Q cI cV vf a ad ac x) → va_S A s.heap H locs → lv_has ls 16 [(0, .ref (a 0)), (1, .int v1), (2, .int v2), (3, .int v3), (5, .ref ac), (7, .int v7), (8, .int v8), (13, .int v13), (14, .int v14)] → W p l e ({ frames := 10, cells := 6, slots := 36, locals := 230 } : Room) s m ([.ref (a 0), .int p1, .int p2, .int p3, .int p4, .ref ac] : List Value).toArray below meth c H locs 0 0 (MQ below (QW D (TY cI cV cJ cD) (W_Q cI cV vf a ad ac res.1) A (some (.int res.2))) (([.ref (a 0), .int p1, .int p2, .int p3, .int p4, .ref ac] : List Value).toArray) s 6 36 A) (F0 m 146 ls [.int s0]) := by
    intro x v1 v2 v3 v7 v8 v13 v14 s0 H locs ls hf hP hD hS hl
    dsimp only [fL_commands_146] at hf
    refine lv_istore (lv' := [(15, .int s0), (0, .ref (a 0)), (1, .int v1), (2, .int v2), (3, .int v3), (5, .ref ac), (7, .int v7), (8, .int v8), (13, .int v13), (14, .int v14)]) hx hb dL_commands_146 hl (by decide) rfl (fun ls hl => ?_)
    refine lv_aload_n hx hb dL_commands_148 rfl (lv_at hl 1 rfl) ?_
    refine lv_iload_n hx hb dL_commands_149 rfl (lv_at hl 2 rfl) ?_
    refine lv_if_ne (tgt := 157) hx hb dL_commands_150 (by decide) (fun c230 => ?_) (fun c230 => ?_)
    · replace hf := if_f c230 hf
      refine lv_iload_n hx hb dL_commands_157 rfl (lv_at hl 2 rfl) ?_
      refine lv_iconst (v := 1) hx hb dL_commands_158 (by decide) ?_
      refine lv_icmp_ne (tgt := 166) hx hb dL_commands_159 (by decide) (fun c231 => ?_) (fun c231 => ?_)
      · replace hf := if_f c231 hf
        refine lv_iconst (v := 5) hx hb dL_commands_166 (by decide) ?_
        exact L167 x v2 v3 v7 v8 v13 v14 s0 5 H locs ls hf hP hD hS (lv_sub hl [1, 3, 4, 5, 6, 7, 8, 9, 0] rfl)
      · replace hf := if_t c231 hf
        refine lv_iconst (v := 2) hx hb dL_commands_162 (by decide) ?_
        refine lv_goto (tgt := 167) hx hb dL_commands_163 (by decide) ?_
        exact L167 x v2 v3 v7 v8 v13 v14 s0 2 H locs ls hf hP hD hS (lv_sub hl [1, 3, 4, 5, 6, 7, 8, 9, 0] rfl)
    · replace hf := if_t c230 hf
      refine lv_iconst (v := 0) hx hb dL_commands_153 (by decide) ?_
      refine lv_goto (tgt := 167) hx hb dL_commands_154 (by decide) ?_
      exact L167 x v2 v3 v7 v8 v13 v14 s0 0 H locs ls hf hP hD hS (lv_sub hl [1, 3, 4, 5, 6, 7, 8, 9, 0] rfl)
  have L145 : ∀ (x : QSt) (v1 : Int32) (v2 : Int32) (v3 : Int32) (v7 : Int32) (v8 : Int32) (v13 : Int32) (v14 : Int32) (H : Heap) (locs : List Loc) (ls : Array Slot), fL_commands_145 x v1 v2 v3 v7 v8 v13 v14  = some res → va_P D vwCl (W_Q cI cV vf a ad ac x) H → va_D A (W_Q cI cV vf a ad ac x) → va_S A s.heap H locs → lv_has ls 16 [(0, .ref (a 0)), (1, .int v1), (2, .int v2), (3, .int v3), (5, .ref ac), (7, .int v7), (8, .int v8), (13, .int v13), (14, .int v14)] → W p l e ({ frames := 10, cells := 6, slots := 36, locals := 230 } : Room) s m ([.ref (a 0), .int p1, .int p2, .int p3, .int p4, .ref ac] : List Value).toArray below meth c H locs 0 0 (MQ below (QW D (TY cI cV cJ cD) (W_Q cI cV vf a ad ac res.1) A (some (.int res.2))) (([.ref (a 0), .int p1, .int p2, .int p3, .int p4, .ref ac] : List Value).toArray) s 6 36 A) (F0 m 145 ls []) := by
    intro x v1 v2 v3 v7 v8 v13 v14 H locs ls hf hP hD hS hl
    dsimp only [fL_commands_145] at hf
    refine lv_iconst (v := 0) hx hb dL_commands_145 (by decide) ?_
    exact L146 x v1 v2 v3 v7 v8 v13 v14 0 H locs ls hf hP hD hS (lv_sub hl [0, 1, 2, 3, 4, 5, 6, 7, 8] rfl)
  have L141 : ∀ (x : QSt) (v1 : Int32) (v2 : Int32) (v3 : Int32) (v7 : Int32) (v8 : Int32) (v13 : Int32) (v14 : Int32) (H : Heap) (locs : List Loc) (ls : Array Slot), fL_commands_141 x v1 v2 v3 v7 v8 v13 v14  = some res → va_P D vwCl (W_Q cI cV vf a ad ac x) H → va_D A (W_Q cI cV vf a ad ac x) → va_S A s.heap H locs → lv_has ls 16 [(0, .ref (a 0)), (1, .int v1), (2, .int v2), (3, .int v3), (5, .ref ac), (7, .int v7), (8, .int v8), (13, .int v13), (14, .int v14)] → W p l e ({ frames := 10, cells := 6, slots := 36, locals := 230 } : Room) s m ([.ref (a 0), .int p1, .int p2, .int p3, .int p4, .ref ac] : List Value).toArray below meth c H locs 0 0 (MQ below (QW D (TY cI cV cJ cD) (W_Q cI cV vf a ad ac res.1) A (some (.int res.2))) (([.ref (a 0), .int p1, .int p2, .int p3, .int p4, .ref ac] : List Value).toArray) s 6 36 A) (F0 m 141 ls []) := by
    intro x v1 v2 v3 v7 v8 v13 v14 H locs ls hf hP hD hS hl
    dsimp only [fL_commands_141] at hf
    refine lv_iconst (v := 1) hx hb dL_commands_141 (by decide) ?_
    refine lv_goto (tgt := 146) hx hb dL_commands_142 (by decide) ?_
    exact L146 x v1 v2 v3 v7 v8 v13 v14 1 H locs ls hf hP hD hS (lv_sub hl [0, 1, 2, 3, 4, 5, 6, 7, 8] rfl)
  have L110 : ∀ (x : QSt) (v1 : Int32) (v2 : Int32) (v3 : Int32) (v6 : Int32) (v7 : Int32) (v8 : Int32) (v9 : Int32) (v13 : Int32) (s0 : Int32) (H : Heap) (locs : List Loc) (ls : Array Slot), fL_commands_110 x v1 v2 v3 v6 v7 v8 v9 v13 s0  = some res → va_P D vwCl (W_Q cI cV vf a ad ac x) H → va_D A (W_Q cI cV vf a ad ac x) → va_S A s.heap H locs → lv_has ls 16 [(0, .ref (a 0)), (1, .int v1), (2, .int v2), (3, .int v3), (5, .ref ac), (6, .int v6), (7, .int v7), (8, .int v8), (9, .int v9), (13, .int v13)] → W p l e ({ frames := 10, cells := 6, slots := 36, locals := 230 } : Room) s m ([.ref (a 0), .int p1, .int p2, .int p3, .int p4, .ref ac] : List Value).toArray below meth c H locs 0 0 (MQ below (QW D (TY cI cV cJ cD) (W_Q cI cV vf a ad ac res.1) A (some (.int res.2))) (([.ref (a 0), .int p1, .int p2, .int p3, .int p4, .ref ac] : List Value).toArray) s 6 36 A) (F0 m 110 ls [.int s0]) := by
    intro x v1 v2 v3 v6 v7 v8 v9 v13 s0 H locs ls hf hP hD hS hl
    dsimp only [fL_commands_110] at hf
    refine lv_istore (lv' := [(14, .int s0), (0, .ref (a 0)), (1, .int v1), (2, .int v2), (3, .int v3), (5, .ref ac), (6, .int v6), (7, .int v7), (8, .int v8), (9, .int v9), (13, .int v13)]) hx hb dL_commands_110 hl (by decide) rfl (fun ls hl => ?_)
    refine lv_iload hx hb dL_commands_112 (lv_at hl 9 rfl) ?_
    refine lv_if_ne (tgt := 145) hx hb dL_commands_114 (by decide) (fun c232 => ?_) (fun c232 => ?_)
    · replace hf := if_f c232 hf
      exact L145 x v1 v2 v3 v7 v8 v13 s0 H locs ls hf hP hD hS (lv_sub hl [1, 2, 3, 4, 5, 7, 8, 10, 0] rfl)
    · replace hf := if_t c232 hf
      refine lv_iload hx hb dL_commands_117 (lv_at hl 6 rfl) ?_
      refine lv_if_eq (tgt := 141) hx hb dL_commands_119 (by decide) (fun c233 => ?_) (fun c233 => ?_)
      · replace hf := if_t c233 hf
        exact L141 x v1 v2 v3 v7 v8 v13 s0 H locs ls hf hP hD hS (lv_sub hl [1, 2, 3, 4, 5, 7, 8, 10, 0] rfl)
      · replace hf := if_f c233 hf
        refine lv_iload hx hb dL_commands_122 (lv_at hl 6 rfl) ?_
        refine lv_iload hx hb dL_commands_124 (lv_at hl 10 rfl) ?_
        refine lv_icmp_ne (tgt := 145) hx hb dL_commands_126 (by decide) (fun c234 => ?_) (fun c234 => ?_)
        · replace hf := if_f c234 hf
          exact L145 x v1 v2 v3 v7 v8 v13 s0 H locs ls hf hP hD hS (lv_sub hl [1, 2, 3, 4, 5, 7, 8, 10, 0] rfl)
        · replace hf := if_t c234 hf
          refine lv_iload hx hb dL_commands_129 (lv_at hl 7 rfl) ?_
          refine lv_bipush (v := 40) hx hb dL_commands_131 (by decide) ?_
          refine lv_icmp_lt (tgt := 141) hx hb dL_commands_133 (by decide) (fun c235 => ?_) (fun c235 => ?_)
          · replace hf := if_t c235 hf
            exact L141 x v1 v2 v3 v7 v8 v13 s0 H locs ls hf hP hD hS (lv_sub hl [1, 2, 3, 4, 5, 7, 8, 10, 0] rfl)
          · replace hf := if_f c235 hf
            refine lv_iload hx hb dL_commands_136 (lv_at hl 0 rfl) ?_
            refine lv_if_eq (tgt := 145) hx hb dL_commands_138 (by decide) (fun c236 => ?_) (fun c236 => ?_)
            · replace hf := if_t c236 hf
              exact L145 x v1 v2 v3 v7 v8 v13 s0 H locs ls hf hP hD hS (lv_sub hl [1, 2, 3, 4, 5, 7, 8, 10, 0] rfl)
            · replace hf := if_f c236 hf
              exact L141 x v1 v2 v3 v7 v8 v13 s0 H locs ls hf hP hD hS (lv_sub hl [1, 2, 3, 4, 5, 7, 8, 10, 0] rfl)
  have L109 : ∀ (x : QSt) (v1 : Int32) (v2 : Int32) (v3 : Int32) (v6 : Int32) (v7 : Int32) (v8 : Int32) (v9 : Int32) (v13 : Int32) (H : Heap) (locs : List Loc) (ls : Array Slot), fL_commands_109 x v1 v2 v3 v6 v7 v8 v9 v13  = some res → va_P D vwCl (W_Q cI cV vf a ad ac x) H → va_D A (W_Q cI cV vf a ad ac x) → va_S A s.heap H locs → lv_has ls 16 [(0, .ref (a 0)), (1, .int v1), (2, .int v2), (3, .int v3), (5, .ref ac), (6, .int v6), (7, .int v7), (8, .int v8), (9, .int v9), (13, .int v13)] → W p l e ({ frames := 10, cells := 6, slots := 36, locals := 230 } : Room) s m ([.ref (a 0), .int p1, .int p2, .int p3, .int p4, .ref ac] : List Value).toArray below meth c H locs 0 0 (MQ below (QW D (TY cI cV cJ cD) (W_Q cI cV vf a ad ac res.1) A (some (.int res.2))) (([.ref (a 0), .int p1, .int p2, .int p3, .int p4, .ref ac] : List Value).toArray) s 6 36 A) (F0 m 109 ls []) := by
    intro x v1 v2 v3 v6 v7 v8 v9 v13 H locs ls hf hP hD hS hl
    dsimp only [fL_commands_109] at hf
    refine lv_iconst (v := 0) hx hb dL_commands_109 (by decide) ?_
    exact L110 x v1 v2 v3 v6 v7 v8 v9 v13 0 H locs ls hf hP hD hS (lv_sub hl [0, 1, 2, 3, 4, 5, 6, 7, 8, 9] rfl)
  have L81 : ∀ (x : QSt) (v1 : Int32) (v2 : Int32) (v3 : Int32) (v6 : Int32) (v7 : Int32) (v8 : Int32) (v9 : Int32) (s0 : Int32) (H : Heap) (locs : List Loc) (ls : Array Slot), fL_commands_81 x v1 v2 v3 v6 v7 v8 v9 s0  = some res → va_P D vwCl (W_Q cI cV vf a ad ac x) H → va_D A (W_Q cI cV vf a ad ac x) → va_S A s.heap H locs → lv_has ls 16 [(0, .ref (a 0)), (1, .int v1), (2, .int v2), (3, .int v3), (5, .ref ac), (6, .int v6), (7, .int v7), (8, .int v8), (9, .int v9)] → W p l e ({ frames := 10, cells := 6, slots := 36, locals := 230 } : Room) s m ([.ref (a 0), .int p1, .int p2, .int p3, .int p4, .ref ac] : List Value).toArray below meth c H locs 0 0 (MQ below (QW D (TY cI cV cJ cD) (W_Q cI cV vf a ad ac res.1) A (some (.int res.2))) (([.ref (a 0), .int p1, .int p2, .int p3, .int p4, .ref ac] : List Value).toArray) s 6 36 A) (F0 m 81 ls [.int s0]) := by
    intro x v1 v2 v3 v6 v7 v8 v9 s0 H locs ls hf hP hD hS hl
    dsimp only [fL_commands_81] at hf
    refine lv_istore (lv' := [(13, .int s0), (0, .ref (a 0)), (1, .int v1), (2, .int v2), (3, .int v3), (5, .ref ac), (6, .int v6), (7, .int v7), (8, .int v8), (9, .int v9)]) hx hb dL_commands_81 hl (by decide) rfl (fun ls hl => ?_)
    refine lv_iload hx hb dL_commands_83 (lv_at hl 0 rfl) ?_
    refine lv_iconst (v := 2) hx hb dL_commands_85 (by decide) ?_
    refine lv_icmp_ne (tgt := 109) hx hb dL_commands_86 (by decide) (fun c237 => ?_) (fun c237 => ?_)
    · replace hf := if_f c237 hf
      exact L109 x v1 v2 v3 v6 v7 v8 v9 s0 H locs ls hf hP hD hS (lv_sub hl [1, 2, 3, 4, 5, 6, 7, 8, 9, 0] rfl)
    · replace hf := if_t c237 hf
      refine lv_iload hx hb dL_commands_89 (lv_at hl 6 rfl) ?_
      refine lv_iconst (v := 2) hx hb dL_commands_91 (by decide) ?_
      refine lv_icmp_ne (tgt := 109) hx hb dL_commands_92 (by decide) (fun c238 => ?_) (fun c238 => ?_)
      · replace hf := if_f c238 hf
        exact L109 x v1 v2 v3 v6 v7 v8 v9 s0 H locs ls hf hP hD hS (lv_sub hl [1, 2, 3, 4, 5, 6, 7, 8, 9, 0] rfl)
      · replace hf := if_t c238 hf
        refine lv_aload_n hx hb dL_commands_95 rfl (lv_at hl 1 rfl) ?_
        refine lv_iload_n hx hb dL_commands_96 rfl (lv_at hl 3 rfl) ?_
        refine lv_iload hx hb dL_commands_97 (lv_at hl 8 rfl) ?_
        obtain ⟨hk241, hf⟩ := chk_t hf
        replace hk241 := of_decide_eq_true hk241
        obtain ⟨u239, hc240, hf⟩ := bind_t hf
        rcases u239 with r242 | k243
        rotate_left
        · exact (thr_n hf).elim
        replace hf := thr_v hf rfl
        refine k_VP (ws' := W_Q cI cV vf a ad ac x) (As := [.int v2, .int v8]) (rest := []) (n := 2) ⟨hx, hb, hml, hown, hts⟩ (met0_X7_indexOf l ((v2 : Int32).toNatClampNeg) vf (foA a (ad ((v2 : Int32).toNatClampNeg))) (hvf _ hk241) (foc ((v2 : Int32).toNatClampNeg) (qS x)) v2 v8 r242 hc240) w310 w311 w312 w1 w313 ⟨rfl, by decide +kernel, by decide +kernel, by decide +kernel⟩ ⟨Nat.le_of_ble_eq_true rfl, Nat.le_of_ble_eq_true rfl⟩ hK hE hP hD hS hA (cut_QFi x hk241) 0 6 rfl rfl rfl rfl hl.1 rfl (Nat.le_of_ble_eq_true rfl) dL_commands_99 ⟨Nat.le_of_ble_eq_true rfl, Nat.le_of_ble_eq_true rfl⟩ (fun H locs hP hD hS => ?_)
        try dsimp only at hf
        refine W.eq (g2 := F0 m 102 ls [.int r242]) rfl ?_
        refine lv_if_lt (tgt := 109) hx hb dL_commands_102 (by decide) (fun c244 => ?_) (fun c244 => ?_)
        · replace hf := if_t c244 hf
          exact L109 x v1 v2 v3 v6 v7 v8 v9 s0 H locs ls hf hP hD hS (lv_sub hl [1, 2, 3, 4, 5, 6, 7, 8, 9, 0] rfl)
        · replace hf := if_f c244 hf
          refine lv_iconst (v := 1) hx hb dL_commands_105 (by decide) ?_
          refine lv_goto (tgt := 110) hx hb dL_commands_106 (by decide) ?_
          exact L110 x v1 v2 v3 v6 v7 v8 v9 s0 1 H locs ls hf hP hD hS (lv_sub hl [1, 2, 3, 4, 5, 6, 7, 8, 9, 0] rfl)
  have L56 : ∀ (x : QSt) (v1 : Int32) (v2 : Int32) (v3 : Int32) (v4 : Int32) (v6 : Int32) (v7 : Int32) (v8 : Int32) (s0 : Int32) (H : Heap) (locs : List Loc) (ls : Array Slot), fL_commands_56 x v1 v2 v3 v4 v6 v7 v8 s0  = some res → va_P D vwCl (W_Q cI cV vf a ad ac x) H → va_D A (W_Q cI cV vf a ad ac x) → va_S A s.heap H locs → lv_has ls 16 [(0, .ref (a 0)), (1, .int v1), (2, .int v2), (3, .int v3), (4, .int v4), (5, .ref ac), (6, .int v6), (7, .int v7), (8, .int v8)] → W p l e ({ frames := 10, cells := 6, slots := 36, locals := 230 } : Room) s m ([.ref (a 0), .int p1, .int p2, .int p3, .int p4, .ref ac] : List Value).toArray below meth c H locs 0 0 (MQ below (QW D (TY cI cV cJ cD) (W_Q cI cV vf a ad ac res.1) A (some (.int res.2))) (([.ref (a 0), .int p1, .int p2, .int p3, .int p4, .ref ac] : List Value).toArray) s 6 36 A) (F0 m 56 ls [.int s0]) := by
    intro x v1 v2 v3 v4 v6 v7 v8 s0 H locs ls hf hP hD hS hl
    dsimp only [fL_commands_56] at hf
    refine lv_istore (lv' := [(9, .int s0), (0, .ref (a 0)), (1, .int v1), (2, .int v2), (3, .int v3), (4, .int v4), (5, .ref ac), (6, .int v6), (7, .int v7), (8, .int v8)]) hx hb dL_commands_56 hl (by decide) rfl (fun ls hl => ?_)
    refine lv_iload_n hx hb dL_commands_58 rfl (lv_at hl 2 rfl) ?_
    refine lv_iconst (v := 3) hx hb dL_commands_59 (by decide) ?_
    refine lv_icmp_ge (tgt := 234) hx hb dL_commands_60 (by decide) (fun c245 => ?_) (fun c245 => ?_)
    · replace hf := if_t c245 hf
      refine lv_iload_n hx hb dL_commands_234 rfl (lv_at hl 2 rfl) ?_
      refine lv_iconst (v := 3) hx hb dL_commands_235 (by decide) ?_
      refine lv_icmp_ne (tgt := 287) hx hb dL_commands_236 (by decide) (fun c246 => ?_) (fun c246 => ?_)
      · replace hf := if_f c246 hf
        refine lv_iload_n hx hb dL_commands_287 rfl (lv_at hl 2 rfl) ?_
        refine lv_iconst (v := 4) hx hb dL_commands_288 (by decide) ?_
        refine lv_icmp_ne (tgt := 461) hx hb dL_commands_289 (by decide) (fun c247 => ?_) (fun c247 => ?_)
        · replace hf := if_f c247 hf
          refine lv_iload_n hx hb dL_commands_461 rfl (lv_at hl 2 rfl) ?_
          refine lv_iconst (v := 5) hx hb dL_commands_462 (by decide) ?_
          refine lv_icmp_ne (tgt := 641) hx hb dL_commands_463 (by decide) (fun c248 => ?_) (fun c248 => ?_)
          · replace hf := if_f c248 hf
            refine lv_aload_n hx hb dL_commands_641 rfl (lv_at hl 1 rfl) ?_
            refine lv_bipush (v := 9) hx hb dL_commands_642 (by decide) ?_
            refine lv_iload_n hx hb dL_commands_644 rfl (lv_at hl 3 rfl) ?_
            refine lv_iconst (v := 0) hx hb dL_commands_645 (by decide) ?_
            refine lv_iconst (v := 0) hx hb dL_commands_646 (by decide) ?_
            refine lv_iconst (v := 0) hx hb dL_commands_647 (by decide) ?_
            obtain ⟨hk251, hf⟩ := chk_t hf
            replace hk251 := of_decide_eq_true hk251
            obtain ⟨u249, hc250, hf⟩ := bind_t hf
            refine k_SWQ (ws' := W_Q cI cV vf a ad ac (qS_s x (unf ((v2 : Int32).toNatClampNeg) (qS x) u249.1))) (As := [.ref (a 0), .int 9, .int v2, .int 0, .int 0, .int 0]) (rest := []) (n := 6) ⟨hx, hb, hml, hown, hts⟩ (met_L_asks l hlt ((v2 : Int32).toNatClampNeg) vf (foA a (ad ((v2 : Int32).toNatClampNeg))) (hvf _ hk251) (foc ((v2 : Int32).toNatClampNeg) (qS x)) 9 v2 0 0 0 u249 hc250) w360 w361 w0 w362 ⟨by decide +kernel, by decide +kernel, by decide +kernel⟩ ⟨Nat.le_of_ble_eq_true rfl, Nat.le_of_ble_eq_true rfl⟩ hK hE hP hD hS hA (cut_QF x hk251 u249.1) rfl hl.1 rfl (Nat.le_of_ble_eq_true rfl) dL_commands_648 ⟨Nat.le_of_ble_eq_true rfl, Nat.le_of_ble_eq_true rfl⟩ (fun H locs hP hD hS => ?_)
            try dsimp only at hf
            refine W.eq (g2 := F0 m 651 ls [.int u249.2]) rfl ?_
            obtain ⟨x252, hx252⟩ : ∃ z, z = (qS_s x (unf ((v2 : Int32).toNatClampNeg) (qS x) u249.1)) := ⟨_, rfl⟩
            replace hf := keep_e hf x252 hx252
            have hP : va_P D vwCl (W_Q cI cV vf a ad ac x252) H := by rw [hx252]; exact hP
            have hD : va_D A (W_Q cI cV vf a ad ac x252) := by rw [hx252]; exact hD
            refine lv_topi (fun y253 hy253 => ?_)
            replace hf := keep_e hf y253 hy253
            refine lv_istore (lv' := [(11, .int y253), (9, .int s0), (0, .ref (a 0)), (1, .int v1), (2, .int v2), (3, .int v3), (4, .int v4), (5, .ref ac), (6, .int v6), (7, .int v7), (8, .int v8)]) hx hb dL_commands_651 hl (by decide) rfl (fun ls hl => ?_)
            refine lv_iload hx hb dL_commands_653 (lv_at hl 1 rfl) ?_
            refine lv_if_eq (tgt := 663) hx hb dL_commands_655 (by decide) (fun c254 => ?_) (fun c254 => ?_)
            · replace hf := if_t c254 hf
              refine lv_iload hx hb dL_commands_663 (lv_at hl 8 rfl) ?_
              refine lv_if_ne (tgt := 672) hx hb dL_commands_665 (by decide) (fun c255 => ?_) (fun c255 => ?_)
              · replace hf := if_f c255 hf
                refine lv_iconst (v := 1) hx hb dL_commands_672 (by decide) ?_
                exact L673 x252 y253 1 H locs ls hf hP hD hS (lv_sub hl [2, 7, 0] rfl)
              · replace hf := if_t c255 hf
                refine lv_iconst (v := 0) hx hb dL_commands_668 (by decide) ?_
                refine lv_goto (tgt := 673) hx hb dL_commands_669 (by decide) ?_
                exact L673 x252 y253 0 H locs ls hf hP hD hS (lv_sub hl [2, 7, 0] rfl)
            · replace hf := if_f c254 hf
              refine lv_bipush (v := (-108)) hx hb dL_commands_658 (by decide) ?_
              refine lv_goto (tgt := 673) hx hb dL_commands_660 (by decide) ?_
              exact L673 x252 y253 (-108) H locs ls hf hP hD hS (lv_sub hl [2, 7, 0] rfl)
          · replace hf := if_t c248 hf
            refine lv_iload_n hx hb dL_commands_466 rfl (lv_at hl 4 rfl) ?_
            refine lv_iconst (v := 5) hx hb dL_commands_467 (by decide) ?_
            refine lv_irem hx hb dL_commands_468 (by decide) ?_
            refine lv_if_ne (tgt := 487) hx hb dL_commands_469 (by decide) (fun c256 => ?_) (fun c256 => ?_)
            · replace hf := if_f c256 hf
              refine lv_bipush (v := 124) hx hb dL_commands_487 (by decide) ?_
              refine lv_iload_n hx hb dL_commands_489 rfl (lv_at hl 4 rfl) ?_
              refine lv_iconst (v := 5) hx hb dL_commands_490 (by decide) ?_
              refine lv_idiv hx hb dL_commands_491 (by decide) ?_
              refine lv_bipush (v := 6) hx hb dL_commands_492 (by decide) ?_
              refine lv_irem hx hb dL_commands_494 (by decide) ?_
              refine lv_iadd hx hb dL_commands_495 ?_
              refine lv_bipush (v := 23) hx hb dL_commands_496 (by decide) ?_
              refine lv_ishl hx hb dL_commands_498 ?_
              refine lv_iload_n hx hb dL_commands_499 rfl (lv_at hl 4 rfl) ?_
              refine lv_iconst (v := 2) hx hb dL_commands_500 (by decide) ?_
              refine lv_irem hx hb dL_commands_501 (by decide) ?_
              refine lv_if_ne (tgt := 510) hx hb dL_commands_502 (by decide) (fun c257 => ?_) (fun c257 => ?_)
              · replace hf := if_f c257 hf
                refine lv_iconst (v := 0) hx hb dL_commands_510 (by decide) ?_
                exact L511 x v2 v4 v6 v7 v8 s0 0 ((124 + ((v3 / 5) - (v3 / 5) / 6 * 6)) <<< (23 &&& 31)) H locs ls hf hP hD hS (lv_sub hl [1, 3, 5, 6, 7, 8, 9, 0] rfl)
              · replace hf := if_t c257 hf
                refine lv_ldc (own := RL) (v := 4194304) hx hb hown (hg _ w681) dL_commands_505 ?_
                refine lv_goto (tgt := 511) hx hb dL_commands_507 (by decide) ?_
                exact L511 x v2 v4 v6 v7 v8 s0 4194304 ((124 + ((v3 / 5) - (v3 / 5) / 6 * 6)) <<< (23 &&& 31)) H locs ls hf hP hD hS (lv_sub hl [1, 3, 5, 6, 7, 8, 9, 0] rfl)
            · replace hf := if_t c256 hf
              refine lv_iload_n hx hb dL_commands_472 rfl (lv_at hl 4 rfl) ?_
              refine lv_iconst (v := 2) hx hb dL_commands_473 (by decide) ?_
              refine lv_irem hx hb dL_commands_474 (by decide) ?_
              refine lv_if_ne (tgt := 482) hx hb dL_commands_475 (by decide) (fun c258 => ?_) (fun c258 => ?_)
              · replace hf := if_f c258 hf
                refine lv_ldc (own := RL) (v := (-2147483648)) hx hb hown (hg _ w680) dL_commands_482 ?_
                refine lv_goto (tgt := 526) hx hb dL_commands_484 (by decide) ?_
                exact L526 x v2 v4 v6 v7 v8 s0 (-2147483648) H locs ls hf hP hD hS (lv_sub hl [1, 3, 5, 6, 7, 8, 9, 0] rfl)
              · replace hf := if_t c258 hf
                refine lv_iconst (v := 0) hx hb dL_commands_478 (by decide) ?_
                refine lv_goto (tgt := 526) hx hb dL_commands_479 (by decide) ?_
                exact L526 x v2 v4 v6 v7 v8 s0 0 H locs ls hf hP hD hS (lv_sub hl [1, 3, 5, 6, 7, 8, 9, 0] rfl)
        · replace hf := if_t c247 hf
          refine lv_iload hx hb dL_commands_292 (lv_at hl 8 rfl) ?_
          refine lv_if_le (tgt := 319) hx hb dL_commands_294 (by decide) (fun c259 => ?_) (fun c259 => ?_)
          · replace hf := if_t c259 hf
            exact L319 x v2 v6 v8 s0 H locs ls hf hP hD hS (lv_sub hl [1, 3, 6, 7, 9, 0] rfl)
          · replace hf := if_f c259 hf
            refine lv_iload hx hb dL_commands_297 (lv_at hl 5 rfl) ?_
            refine lv_iconst (v := 3) hx hb dL_commands_299 (by decide) ?_
            refine lv_irem hx hb dL_commands_300 (by decide) ?_
            refine lv_if_le (tgt := 319) hx hb dL_commands_301 (by decide) (fun c260 => ?_) (fun c260 => ?_)
            · replace hf := if_t c260 hf
              exact L319 x v2 v6 v8 s0 H locs ls hf hP hD hS (lv_sub hl [1, 3, 6, 7, 9, 0] rfl)
            · replace hf := if_f c260 hf
              refine lv_aload_n hx hb dL_commands_304 rfl (lv_at hl 1 rfl) ?_
              refine lv_iload_n hx hb dL_commands_305 rfl (lv_at hl 3 rfl) ?_
              refine lv_iload hx hb dL_commands_306 (lv_at hl 5 rfl) ?_
              refine lv_iconst (v := 3) hx hb dL_commands_308 (by decide) ?_
              refine lv_idiv hx hb dL_commands_309 (by decide) ?_
              refine lv_iload hx hb dL_commands_310 (lv_at hl 8 rfl) ?_
              obtain ⟨hz261, hf⟩ := chk_t hf
              refine lv_irem hx hb dL_commands_312 (of_decide_eq_true hz261) ?_
              obtain ⟨hk264, hf⟩ := chk_t hf
              replace hk264 := of_decide_eq_true hk264
              obtain ⟨u262, hc263, hf⟩ := bind_t hf
              rcases u262 with r265 | k266
              rotate_left
              · exact (thr_n hf).elim
              replace hf := thr_v hf rfl
              refine k_VP (ws' := W_Q cI cV vf a ad ac x) (As := [.int v2, .int ((v4 / 3) - (v4 / 3) / v7 * v7)]) (rest := []) (n := 2) ⟨hx, hb, hml, hown, hts⟩ (met0_X7_at l ((v2 : Int32).toNatClampNeg) vf (foA a (ad ((v2 : Int32).toNatClampNeg))) (hvf _ hk264) (foc ((v2 : Int32).toNatClampNeg) (qS x)) v2 ((v4 / 3) - (v4 / 3) / v7 * v7) r265 hc263) w625 w626 w627 w1 w628 ⟨rfl, by decide +kernel, by decide +kernel, by decide +kernel⟩ ⟨Nat.le_of_ble_eq_true rfl, Nat.le_of_ble_eq_true rfl⟩ hK hE hP hD hS hA (cut_QFi x hk264) 0 6 rfl rfl rfl rfl hl.1 rfl (Nat.le_of_ble_eq_true rfl) dL_commands_313 ⟨Nat.le_of_ble_eq_true rfl, Nat.le_of_ble_eq_true rfl⟩ (fun H locs hP hD hS => ?_)
              try dsimp only at hf
              refine W.eq (g2 := F0 m 316 ls [.int r265]) rfl ?_
              refine lv_goto (tgt := 321) hx hb dL_commands_316 (by decide) ?_
              exact L321 x v2 v6 s0 r265 H locs ls hf hP hD hS (lv_sub hl [1, 3, 6, 7, 0] rfl)
      · replace hf := if_t c246 hf
        refine lv_aload_n hx hb dL_commands_239 rfl (lv_at hl 1 rfl) ?_
        refine lv_iconst (v := 1) hx hb dL_commands_240 (by decide) ?_
        refine lv_iload_n hx hb dL_commands_241 rfl (lv_at hl 3 rfl) ?_
        refine lv_iload_n hx hb dL_commands_242 rfl (lv_at hl 4 rfl) ?_
        refine lv_iconst (v := 2) hx hb dL_commands_243 (by decide) ?_
        refine lv_irem hx hb dL_commands_244 (by decide) ?_
        refine lv_iconst (v := 0) hx hb dL_commands_245 (by decide) ?_
        refine lv_iconst (v := 0) hx hb dL_commands_246 (by decide) ?_
        obtain ⟨hk269, hf⟩ := chk_t hf
        replace hk269 := of_decide_eq_true hk269
        obtain ⟨u267, hc268, hf⟩ := bind_t hf
        refine k_SWQ (ws' := W_Q cI cV vf a ad ac (qS_s x (unf ((v2 : Int32).toNatClampNeg) (qS x) u267.1))) (As := [.ref (a 0), .int 1, .int v2, .int (v3 - v3 / 2 * 2), .int 0, .int 0]) (rest := []) (n := 6) ⟨hx, hb, hml, hown, hts⟩ (met_L_asks l hlt ((v2 : Int32).toNatClampNeg) vf (foA a (ad ((v2 : Int32).toNatClampNeg))) (hvf _ hk269) (foc ((v2 : Int32).toNatClampNeg) (qS x)) 1 v2 (v3 - v3 / 2 * 2) 0 0 u267 hc268) w360 w361 w0 w362 ⟨by decide +kernel, by decide +kernel, by decide +kernel⟩ ⟨Nat.le_of_ble_eq_true rfl, Nat.le_of_ble_eq_true rfl⟩ hK hE hP hD hS hA (cut_QF x hk269 u267.1) rfl hl.1 rfl (Nat.le_of_ble_eq_true rfl) dL_commands_247 ⟨Nat.le_of_ble_eq_true rfl, Nat.le_of_ble_eq_true rfl⟩ (fun H locs hP hD hS => ?_)
        try dsimp only at hf
        refine W.eq (g2 := F0 m 250 ls [.int u267.2]) rfl ?_
        obtain ⟨x270, hx270⟩ : ∃ z, z = (qS_s x (unf ((v2 : Int32).toNatClampNeg) (qS x) u267.1)) := ⟨_, rfl⟩
        replace hf := keep_e hf x270 hx270
        have hP : va_P D vwCl (W_Q cI cV vf a ad ac x270) H := by rw [hx270]; exact hP
        have hD : va_D A (W_Q cI cV vf a ad ac x270) := by rw [hx270]; exact hD
        refine lv_topi (fun y271 hy271 => ?_)
        replace hf := keep_e hf y271 hy271
        refine lv_istore (lv' := [(11, .int y271), (9, .int s0), (0, .ref (a 0)), (1, .int v1), (2, .int v2), (3, .int v3), (4, .int v4), (5, .ref ac), (6, .int v6), (7, .int v7), (8, .int v8)]) hx hb dL_commands_250 hl (by decide) rfl (fun ls hl => ?_)
        refine lv_iload hx hb dL_commands_252 (lv_at hl 1 rfl) ?_
        refine lv_if_ne (tgt := 263) hx hb dL_commands_254 (by decide) (fun c272 => ?_) (fun c272 => ?_)
        · replace hf := if_f c272 hf
          exact L263 x270 y271 H locs ls hf hP hD hS (lv_sub hl [2, 7, 0] rfl)
        · replace hf := if_t c272 hf
          refine lv_iload hx hb dL_commands_257 (lv_at hl 8 rfl) ?_
          refine lv_iconst (v := 1) hx hb dL_commands_259 (by decide) ?_
          refine lv_icmp_eq (tgt := 268) hx hb dL_commands_260 (by decide) (fun c273 => ?_) (fun c273 => ?_)
          · replace hf := if_t c273 hf
            refine lv_iload hx hb dL_commands_268 (lv_at hl 0 rfl) ?_
            exact L270 x270 y271 y271 H locs ls hf hP hD hS (lv_sub hl [2, 7, 0] rfl)
          · replace hf := if_f c273 hf
            exact L263 x270 y271 H locs ls hf hP hD hS (lv_sub hl [2, 7, 0] rfl)
    · replace hf := if_f c245 hf
      refine lv_iload_n hx hb dL_commands_63 rfl (lv_at hl 2 rfl) ?_
      refine lv_if_ne (tgt := 71) hx hb dL_commands_64 (by decide) (fun c274 => ?_) (fun c274 => ?_)
      · replace hf := if_f c274 hf
        refine lv_iload_n hx hb dL_commands_71 rfl (lv_at hl 2 rfl) ?_
        refine lv_iconst (v := 1) hx hb dL_commands_72 (by decide) ?_
        refine lv_icmp_ne (tgt := 80) hx hb dL_commands_73 (by decide) (fun c275 => ?_) (fun c275 => ?_)
        · replace hf := if_f c275 hf
          refine lv_iconst (v := 4) hx hb dL_commands_80 (by decide) ?_
          exact L81 x v1 v2 v3 v6 v7 v8 s0 4 H locs ls hf hP hD hS (lv_sub hl [1, 2, 3, 4, 6, 7, 8, 9, 0] rfl)
        · replace hf := if_t c275 hf
          refine lv_iconst (v := 2) hx hb dL_commands_76 (by decide) ?_
          refine lv_goto (tgt := 81) hx hb dL_commands_77 (by decide) ?_
          exact L81 x v1 v2 v3 v6 v7 v8 s0 2 H locs ls hf hP hD hS (lv_sub hl [1, 2, 3, 4, 6, 7, 8, 9, 0] rfl)
      · replace hf := if_t c274 hf
        refine lv_iconst (v := 1) hx hb dL_commands_67 (by decide) ?_
        refine lv_goto (tgt := 81) hx hb dL_commands_68 (by decide) ?_
        exact L81 x v1 v2 v3 v6 v7 v8 s0 1 H locs ls hf hP hD hS (lv_sub hl [1, 2, 3, 4, 6, 7, 8, 9, 0] rfl)
  have L39 : ∀ (x : QSt) (v1 : Int32) (v2 : Int32) (v3 : Int32) (v4 : Int32) (v6 : Int32) (v7 : Int32) (s0 : Int32) (H : Heap) (locs : List Loc) (ls : Array Slot), fL_commands_39 x v1 v2 v3 v4 v6 v7 s0  = some res → va_P D vwCl (W_Q cI cV vf a ad ac x) H → va_D A (W_Q cI cV vf a ad ac x) → va_S A s.heap H locs → lv_has ls 16 [(0, .ref (a 0)), (1, .int v1), (2, .int v2), (3, .int v3), (4, .int v4), (5, .ref ac), (6, .int v6), (7, .int v7)] → W p l e ({ frames := 10, cells := 6, slots := 36, locals := 230 } : Room) s m ([.ref (a 0), .int p1, .int p2, .int p3, .int p4, .ref ac] : List Value).toArray below meth c H locs 0 0 (MQ below (QW D (TY cI cV cJ cD) (W_Q cI cV vf a ad ac res.1) A (some (.int res.2))) (([.ref (a 0), .int p1, .int p2, .int p3, .int p4, .ref ac] : List Value).toArray) s 6 36 A) (F0 m 39 ls [.int s0]) := by
    intro x v1 v2 v3 v4 v6 v7 s0 H locs ls hf hP hD hS hl
    dsimp only [fL_commands_39] at hf
    refine lv_istore (lv' := [(8, .int s0), (0, .ref (a 0)), (1, .int v1), (2, .int v2), (3, .int v3), (4, .int v4), (5, .ref ac), (6, .int v6), (7, .int v7)]) hx hb dL_commands_39 hl (by decide) rfl (fun ls hl => ?_)
    refine lv_aload hx hb dL_commands_41 (lv_at hl 6 rfl) ?_
    refine lv_iconst (v := 1) hx hb dL_commands_43 (by decide) ?_
    obtain ⟨hi276, hf⟩ := chk_t hf
    refine va_iald hx hb hK hP 0 0 rfl rfl (inb_in hi276) dL_commands_44 ?_
    refine lv_sipush (v := 300) hx hb dL_commands_45 (by decide) ?_
    refine lv_icmp_ne (tgt := 55) hx hb dL_commands_48 (by decide) (fun c277 => ?_) (fun c277 => ?_)
    · replace hf := if_f c277 hf
      refine lv_iconst (v := 0) hx hb dL_commands_55 (by decide) ?_
      exact L56 x v1 v2 v3 v4 v6 v7 s0 0 H locs ls hf hP hD hS (lv_sub hl [1, 2, 3, 4, 5, 6, 7, 8, 0] rfl)
    · replace hf := if_t c277 hf
      refine lv_iconst (v := 1) hx hb dL_commands_51 (by decide) ?_
      refine lv_goto (tgt := 56) hx hb dL_commands_52 (by decide) ?_
      exact L56 x v1 v2 v3 v4 v6 v7 s0 1 H locs ls hf hP hD hS (lv_sub hl [1, 2, 3, 4, 5, 6, 7, 8, 0] rfl)
  have M0 : ∀ (H : Heap) (locs : List Loc) (ls : Array Slot), fL_commands x p1 p2 p3 p4 = some res → va_P D vwCl (W_Q cI cV vf a ad ac x) H → va_D A (W_Q cI cV vf a ad ac x) → va_S A s.heap H locs → lv_has ls 16 [(0, .ref (a 0)), (1, .int p1), (2, .int p2), (3, .int p3), (4, .int p4), (5, .ref ac)] → W p l e ({ frames := 10, cells := 6, slots := 36, locals := 230 } : Room) s m ([.ref (a 0), .int p1, .int p2, .int p3, .int p4, .ref ac] : List Value).toArray below meth c H locs 0 0 (MQ below (QW D (TY cI cV cJ cD) (W_Q cI cV vf a ad ac res.1) A (some (.int res.2))) (([.ref (a 0), .int p1, .int p2, .int p3, .int p4, .ref ac] : List Value).toArray) s 6 36 A) (F0 m 0 ls []) := by
    intro H locs ls hf hP hD hS hl
    dsimp only [fL_commands] at hf
    refine lv_aload_n hx hb dL_commands_0 rfl (lv_at hl 0 rfl) ?_
    refine lv_iload_n hx hb dL_commands_1 rfl (lv_at hl 2 rfl) ?_
    obtain ⟨hk280, hf⟩ := chk_t hf
    replace hk280 := of_decide_eq_true hk280
    obtain ⟨u278, hc279, hf⟩ := bind_t hf
    rcases u278 with r281 | k282
    rotate_left
    · exact (thr_n hf).elim
    replace hf := thr_v hf rfl
    refine k_VP (ws' := W_Q cI cV vf a ad ac x) (As := [.int p2]) (rest := []) (n := 1) ⟨hx, hb, hml, hown, hts⟩ (met0_X7_typeOf l ((p2 : Int32).toNatClampNeg) vf (foA a (ad ((p2 : Int32).toNatClampNeg))) (hvf _ hk280) (foc ((p2 : Int32).toNatClampNeg) (qS x)) p2 r281 hc279) w205 w206 w207 w1 w208 ⟨rfl, by decide +kernel, by decide +kernel, by decide +kernel⟩ ⟨Nat.le_of_ble_eq_true rfl, Nat.le_of_ble_eq_true rfl⟩ hK hE hP hD hS hA (cut_QFi x hk280) 0 6 rfl rfl rfl rfl hl.1 rfl (Nat.le_of_ble_eq_true rfl) dL_commands_2 ⟨Nat.le_of_ble_eq_true rfl, Nat.le_of_ble_eq_true rfl⟩ (fun H locs hP hD hS => ?_)
    try dsimp only at hf
    refine W.eq (g2 := F0 m 5 ls [.int r281]) rfl ?_
    refine lv_istore (lv' := [(6, .int r281), (0, .ref (a 0)), (1, .int p1), (2, .int p2), (3, .int p3), (4, .int p4), (5, .ref ac)]) hx hb dL_commands_5 hl (by decide) rfl (fun ls hl => ?_)
    refine lv_aload_n hx hb dL_commands_7 rfl (lv_at hl 1 rfl) ?_
    refine lv_iload_n hx hb dL_commands_8 rfl (lv_at hl 3 rfl) ?_
    obtain ⟨hk285, hf⟩ := chk_t hf
    replace hk285 := of_decide_eq_true hk285
    obtain ⟨u283, hc284, hf⟩ := bind_t hf
    rcases u283 with r286 | k287
    rotate_left
    · exact (thr_n hf).elim
    replace hf := thr_v hf rfl
    refine k_VP (ws' := W_Q cI cV vf a ad ac x) (As := [.int p2]) (rest := []) (n := 1) ⟨hx, hb, hml, hown, hts⟩ (met0_X7_size l ((p2 : Int32).toNatClampNeg) vf (foA a (ad ((p2 : Int32).toNatClampNeg))) (hvf _ hk285) (foc ((p2 : Int32).toNatClampNeg) (qS x)) p2 r286 hc284) w298 w299 w300 w1 w301 ⟨rfl, by decide +kernel, by decide +kernel, by decide +kernel⟩ ⟨Nat.le_of_ble_eq_true rfl, Nat.le_of_ble_eq_true rfl⟩ hK hE hP hD hS hA (cut_QFi x hk285) 0 6 rfl rfl rfl rfl hl.1 rfl (Nat.le_of_ble_eq_true rfl) dL_commands_9 ⟨Nat.le_of_ble_eq_true rfl, Nat.le_of_ble_eq_true rfl⟩ (fun H locs hP hD hS => ?_)
    try dsimp only at hf
    refine W.eq (g2 := F0 m 12 ls [.int r286]) rfl ?_
    refine lv_istore (lv' := [(7, .int r286), (6, .int r281), (0, .ref (a 0)), (1, .int p1), (2, .int p2), (3, .int p3), (4, .int p4), (5, .ref ac)]) hx hb dL_commands_12 hl (by decide) rfl (fun ls hl => ?_)
    refine lv_iload hx hb dL_commands_14 (lv_at hl 6 rfl) ?_
    refine lv_iconst (v := 4) hx hb dL_commands_16 (by decide) ?_
    refine lv_irem hx hb dL_commands_17 (by decide) ?_
    refine lv_if_ne (tgt := 32) hx hb dL_commands_18 (by decide) (fun c288 => ?_) (fun c288 => ?_)
    · replace hf := if_f c288 hf
      refine lv_iload hx hb dL_commands_32 (lv_at hl 6 rfl) ?_
      refine lv_iconst (v := 4) hx hb dL_commands_34 (by decide) ?_
      refine lv_idiv hx hb dL_commands_35 (by decide) ?_
      refine lv_bipush (v := 60) hx hb dL_commands_36 (by decide) ?_
      refine lv_irem hx hb dL_commands_38 (by decide) ?_
      exact L39 x p1 p2 p3 p4 r281 r286 ((p4 / 4) - (p4 / 4) / 60 * 60) H locs ls hf hP hD hS (lv_sub hl [2, 3, 4, 5, 6, 7, 1, 0] rfl)
    · replace hf := if_t c288 hf
      refine lv_iload hx hb dL_commands_21 (lv_at hl 6 rfl) ?_
      refine lv_iconst (v := 4) hx hb dL_commands_23 (by decide) ?_
      refine lv_idiv hx hb dL_commands_24 (by decide) ?_
      refine lv_sipush (v := 10000) hx hb dL_commands_25 (by decide) ?_
      refine lv_irem hx hb dL_commands_28 (by decide) ?_
      refine lv_goto (tgt := 39) hx hb dL_commands_29 (by decide) ?_
      exact L39 x p1 p2 p3 p4 r281 r286 ((p4 / 4) - (p4 / 4) / 10000 * 10000) H locs ls hf hP hD hS (lv_sub hl [2, 3, 4, 5, 6, 7, 1, 0] rfl)
  exact M0 s.heap [] ls hf hP hD hS hl
def fL_streams_435 (x : Q4St) (v13 : Int32) (s0 : Int32) : Option (QSt × Int32) := (fL_settles (q4S x, q4C x) v13).bind (fun u98 => keep (q4_c x u98.1) (fun x100 => (if u98.2 = 0 then some ((q4Q x100), 0) else (if s0 = 0 then some ((q4Q x100), 0) else some ((q4Q x100), 1)))))
def fL_streams_434 (x : Q4St) (v13 : Int32) : Option (QSt × Int32) := fL_streams_435 x v13 0
def fL_streams_426 (x : Q4St) (v13 : Int32) (s0 : Int32) (s1 : Int32) (s2 : Int32) : Option (QSt × Int32) := (if s2 = (s1 + s0) then fL_streams_435 x v13 1 else fL_streams_434 x v13)
def fL_streams_404 (x : Q4St) (v13 : Int32) (s0 : Int32) (s1 : Int32) (s2 : Int32) : Option (QSt × Int32) := (if s2 = (s1 + s0) then (fX7_rows 0 (foc 0 (q4S x))).bind (fun u105 => chk (inb 1 5) ((if v13 = 0 then fL_streams_426 x v13 0 (q4C x (1 : Int32).toNatClampNeg) u105 else fL_streams_426 x v13 1 (q4C x (1 : Int32).toNatClampNeg) u105))) else fL_streams_434 x v13)
def fL_streams_366 (x : Q4St) (v1 : Int32) (v9 : Int32) (v12 : Int32) (v13 : Int32) (s0 : Int32) : Option (QSt × Int32) := (if s0 = 0 then fL_streams_434 x v13 else (if v13 = 0 then fL_streams_404 x v13 0 v9 v12 else (if v1 = 0 then fL_streams_404 x v13 1 v9 v12 else (if v1 = 1 then fL_streams_404 x v13 (-1) v9 v12 else fL_streams_404 x v13 0 v9 v12))))
def fL_streams_350 (x : Q4St) (v1 : Int32) (v9 : Int32) (v12 : Int32) (v13 : Int32) : Option (QSt × Int32) := fL_streams_366 x v1 v9 v12 v13 0
def fL_streams_300 (x : Q4St) (v1 : Int32) (v9 : Int32) (v12 : Int32) (v13 : Int32) : Option (QSt × Int32) := fL_streams_366 x v1 v9 v12 v13 1
def fL_streams_280 (x : Q4St) (v1 : Int32) (v9 : Int32) (v12 : Int32) (v13 : Int32) : Option (QSt × Int32) := fL_streams_366 x v1 v9 v12 v13 0
def fL_streams_276 (x : Q4St) (v1 : Int32) (v9 : Int32) (v12 : Int32) (v13 : Int32) : Option (QSt × Int32) := fL_streams_366 x v1 v9 v12 v13 1
def fL_streams_225 (x : Q4St) (v1 : Int32) (v2 : Int32) (v6 : Int32) (v7 : Int32) (v9 : Int32) (v10 : Int32) (v11 : Int32) (v12 : Int32) (s0 : Int32) : Option (QSt × Int32) := (if v10 = 0 then (if v11 = (-108) then fL_streams_366 x v1 v9 v12 s0 1 else fL_streams_366 x v1 v9 v12 s0 0) else (if v1 = 0 then (if v11 = (-1) then fL_streams_276 x v1 v9 v12 s0 else (if v11 ≤ 0 then fL_streams_280 x v1 v9 v12 s0 else chk (decide (((v2 : Int32).toNatClampNeg) < 16)) ((fX7_size ((v2 : Int32).toNatClampNeg) (foc ((v2 : Int32).toNatClampNeg) (q4S x)) v2).bind (fun u131 => thr u131 (fun k135 => none) (fun r134 => (if r134 < v11 then fL_streams_280 x v1 v9 v12 s0 else chk (decide (((v2 : Int32).toNatClampNeg) < 16)) ((fX7_waiting ((v2 : Int32).toNatClampNeg) (foc ((v2 : Int32).toNatClampNeg) (q4S x)) v2 v6 v7).bind (fun u137 => thr u137 (fun k141 => none) (fun r140 => chk (inb v7 4) ((if r140 = ((q4W x (v7 : Int32).toNatClampNeg) + 1) then fL_streams_276 x v1 v9 v12 s0 else fL_streams_280 x v1 v9 v12 s0))))))))))) else (if v1 = 1 then (if v11 = 0 then fL_streams_300 x v1 v9 v12 s0 else (if v11 = 1 then fL_streams_300 x v1 v9 v12 s0 else fL_streams_366 x v1 v9 v12 s0 0)) else (if v11 < 0 then fL_streams_350 x v1 v9 v12 s0 else chk (inb v7 4) ((if (v9 - (q4W x (v7 : Int32).toNatClampNeg)) < v11 then fL_streams_350 x v1 v9 v12 s0 else chk (decide (((v2 : Int32).toNatClampNeg) < 16)) ((fX7_waiting ((v2 : Int32).toNatClampNeg) (foc ((v2 : Int32).toNatClampNeg) (q4S x)) v2 v6 v7).bind (fun u120 => thr u120 (fun k124 => none) (fun r123 => chk (inb v7 4) ((if r123 = ((q4W x (v7 : Int32).toNatClampNeg) + v11) then fL_streams_366 x v1 v9 v12 s0 1 else fL_streams_350 x v1 v9 v12 s0)))))))))))
def fL_streams_224 (x : Q4St) (v1 : Int32) (v2 : Int32) (v6 : Int32) (v7 : Int32) (v9 : Int32) (v10 : Int32) (v11 : Int32) (v12 : Int32) : Option (QSt × Int32) := fL_streams_225 x v1 v2 v6 v7 v9 v10 v11 v12 0
def fL_streams_220 (x : Q4St) (v1 : Int32) (v2 : Int32) (v6 : Int32) (v7 : Int32) (v9 : Int32) (v10 : Int32) (v11 : Int32) (v12 : Int32) : Option (QSt × Int32) := fL_streams_225 x v1 v2 v6 v7 v9 v10 v11 v12 1
def fL_streams_172 (x : Q4St) (v1 : Int32) (v2 : Int32) (v6 : Int32) (v7 : Int32) (v9 : Int32) (v10 : Int32) (v11 : Int32) (rec172 : Int32 × Int32 → Option (QSt × Int32)) (s : Int32 × Int32) : Option (QSt × Int32) := match s with | (v12, v13) => (if 4 ≤ v13 then (if v10 = 0 then fL_streams_224 x v1 v2 v6 v7 v9 v10 v11 v12 else (if v1 = 0 then (if v11 ≤ 0 then fL_streams_224 x v1 v2 v6 v7 v9 v10 v11 v12 else fL_streams_220 x v1 v2 v6 v7 v9 v10 v11 v12) else (if v11 ≤ 0 then fL_streams_224 x v1 v2 v6 v7 v9 v10 v11 v12 else fL_streams_220 x v1 v2 v6 v7 v9 v10 v11 v12))) else chk (decide (((v2 : Int32).toNatClampNeg) < 16)) ((fX7_waiting ((v2 : Int32).toNatClampNeg) (foc ((v2 : Int32).toNatClampNeg) (q4S x)) v2 v6 v13).bind (fun u149 => thr u149 (fun k153 => none) (fun r152 => keep (v12 + r152) (fun y154 => keep (v13 + 1) (fun y155 => rec172 (y154, y155)))))))
def fL_streams_161 (x : Q4St) (v1 : Int32) (v2 : Int32) (v6 : Int32) (v7 : Int32) (v9 : Int32) (v10 : Int32) (s0 : Int32) (s1 : Int32) (s2 : Int32) (s3 : Int32) (s4 : Int32) : Option (QSt × Int32) := chk (decide (((s3 : Int32).toNatClampNeg) < 16)) ((fL_asks ((s3 : Int32).toNatClampNeg) (foc ((s3 : Int32).toNatClampNeg) (q4S x)) s4 s3 s2 s1 s0).bind (fun u156 => keep (q4S_s x (unf ((s3 : Int32).toNatClampNeg) (q4S x) u156.1)) (fun x159 => keep u156.2 (fun y160 => iterK FU (fL_streams_172 x159 v1 v2 v6 v7 v9 v10 y160) (0, 0)))))
def fL_streams_83 (x : Q4St) (v1 : Int32) (v2 : Int32) (v4 : Int32) (v6 : Int32) (v7 : Int32) (v9 : Int32) (s0 : Int32) : Option (QSt × Int32) := (if v1 = 0 then chk (decide (((v2 : Int32).toNatClampNeg) < 16)) ((fL_asks ((v2 : Int32).toNatClampNeg) (foc ((v2 : Int32).toNatClampNeg) (q4S x)) 6 v2 v6 v7 0).bind (fun u169 => keep (q4S_s x (unf ((v2 : Int32).toNatClampNeg) (q4S x) u169.1)) (fun x172 => keep u169.2 (fun y173 => iterK FU (fL_streams_172 x172 v1 v2 v6 v7 v9 s0 y173) (0, 0))))) else (if v1 = 1 then chk (decide (((v2 : Int32).toNatClampNeg) < 16)) ((fL_asks ((v2 : Int32).toNatClampNeg) (foc ((v2 : Int32).toNatClampNeg) (q4S x)) 7 v2 v6 ((v4 - v4 / 42 * 42) - 1) 0).bind (fun u164 => keep (q4S_s x (unf ((v2 : Int32).toNatClampNeg) (q4S x) u164.1)) (fun x167 => keep u164.2 (fun y168 => iterK FU (fL_streams_172 x167 v1 v2 v6 v7 v9 s0 y168) (0, 0))))) else (if (v4 - v4 / 3 * 3) = 0 then fL_streams_161 x v1 v2 v6 v7 v9 s0 ((v4 / 3) - (v4 / 3) / 1001 * 1001) v7 v6 v2 8 else fL_streams_161 x v1 v2 v6 v7 v9 s0 ((v4 / 3) - (v4 / 3) / 5 * 5) v7 v6 v2 8)))
def fL_streams_82 (x : Q4St) (v1 : Int32) (v2 : Int32) (v4 : Int32) (v6 : Int32) (v7 : Int32) (v9 : Int32) : Option (QSt × Int32) := fL_streams_83 x v1 v2 v4 v6 v7 v9 0
def fL_streams_23 (v1 : Int32) (v2 : Int32) (v4 : Int32) (v6 : Int32) (v7 : Int32) (rec23 : Q4St × Int32 × Int32 → Option (QSt × Int32)) (s : Q4St × Int32 × Int32) : Option (QSt × Int32) := match s with | (x, v9, v10) => (if 4 ≤ v10 then chk (decide (((v2 : Int32).toNatClampNeg) < 16)) ((fX7_typeOf ((v2 : Int32).toNatClampNeg) (foc ((v2 : Int32).toNatClampNeg) (q4S x)) v2).bind (fun u175 => thr u175 (fun k179 => none) (fun r178 => (if r178 = 4 then chk (inb 1 5) ((if 300 ≤ (q4C x (1 : Int32).toNatClampNeg) then fL_streams_82 x v1 v2 v4 v6 v7 v9 else fL_streams_83 x v1 v2 v4 v6 v7 v9 1)) else fL_streams_82 x v1 v2 v4 v6 v7 v9)))) else chk (decide (((v2 : Int32).toNatClampNeg) < 16)) ((fX7_waiting ((v2 : Int32).toNatClampNeg) (foc ((v2 : Int32).toNatClampNeg) (q4S x)) v2 v6 v10).bind (fun u183 => thr u183 (fun k187 => none) (fun r186 => chk (inb v10 4) (keep (q4W_s x (upd (q4W x) (v10 : Int32).toNatClampNeg r186)) (fun x189 => chk (inb v10 4) (keep (v9 + (q4W x189 (v10 : Int32).toNatClampNeg)) (fun y191 => keep (v10 + 1) (fun y192 => rec23 (x189, y191, y192))))))))))
def fL_streams (x : QSt) (p1 : Int32) (p2 : Int32) (p3 : Int32) (p4 : Int32) : Option (QSt × Int32) := keep (q4I x) (fun x0 => keep (p3 - p3 / 3 * 3) (fun y193 => keep ((p3 / 3) - (p3 / 3) / 4 * 4) (fun y194 => iterK FU (fL_streams_23 p1 p2 p4 y193 y194) (x0, 0, 0))))
set_option maxHeartbeats 4000000 in
set_option maxRecDepth 100000 in
theorem met_L_streams {D : va_G} {cI cV cJ cD : ClassId} (l : Launch) (hlt : l.stackTraces = false) (vf : Nat → Option Nat) (ad : Nat → Nat → Nat) (a : Nat → Nat) (ac : Nat) (hvf : ∀ k, k < 16 → vf k = some (ad k 0)) (x : QSt) (p1 : Int32) (p2 : Int32) (p3 : Int32) (p4 : Int32) (res : QSt × Int32) (hf : fL_streams x p1 p2 p3 p4 = some res) : MM l yL_streams cL_streams 15 (some .boolean) { frames := 10, cells := 7, slots := 40, locals := 230 } D (TY cI cV cJ cD) (W_Q cI cV vf a ad ac x) (W_Q cI cV vf a ad ac res.1) [.ref (a 0), .int p1, .int p2, .int p3, .int p4, .ref ac] (some (.int res.2)) := by
  intro sz
  refine Met.ofW (cc := cL_streams) (maxL := 15) (ret := (some .boolean)) (by decide +kernel) rfl ?_
  intro p e s m args below meth c s₁ B hml hv
  obtain ⟨rfl, hsz, hP, hK, hD0, hE⟩ := hv
  have hx := B.exec
  have hb := B.bytes
  have hr := B.returns
  have hts := atoms_spec (ws := .code yL_streams cL_streams 15 (some .boolean) :: GW) B.pre
  have hg : ∀ w ∈ GW, w.before (([.ref (a 0), .int p1, .int p2, .int p3, .int p4, .ref ac] : List Value).toArray) s = true := fun w h => hts w (List.mem_cons_of_mem _ h)
  have hown : s.vm.findClass RL = some m.cls := findClass_of_methodNamed B.named
  have hlocks := B.notSynchronized
  subst hsz
  have hD := hD0.self (sz := s.heap.size)
  generalize hAe : va_A (W_Q cI cV vf a ad ac x) s.heap.size = A at hD hE ⊢
  have hA : ∀ q : Nat, s.heap.size ≤ q → A q := fun q h => by rw [← hAe]; exact Or.inr h
  have hS : va_S A s.heap s.heap [] := va_S.rf
  have hl := lv_entry ([.ref (a 0), .int p1, .int p2, .int p3, .int p4, .ref ac]) (n := 15) (Nat.le_of_ble_eq_true rfl)
  rw [lg_entry_eq]
  generalize (lg_sl ([.ref (a 0), .int p1, .int p2, .int p3, .int p4, .ref ac]) ++ List.replicate (15 - (lg_sl ([.ref (a 0), .int p1, .int p2, .int p3, .int p4, .ref ac])).length) Slot.unset).toArray = ls at hl ⊢
  have hl : lv_has ls 15 [(0, .ref (a 0)), (1, .int p1), (2, .int p2), (3, .int p3), (4, .int p4), (5, .ref ac)] := hl
  have L435 : ∀ (aw : Nat) (x : Q4St) (v13 : Int32) (s0 : Int32) (H : Heap) (locs : List Loc) (ls : Array Slot), fL_streams_435 x v13 s0  = some res → va_P D vwCl (W_Q4 cI cV vf a ad ac aw x) H → va_D A (W_Q4 cI cV vf a ad ac aw x) → va_S A s.heap H locs → lv_has ls 15 [(0, .ref (a 0)), (5, .ref ac), (13, .int v13)] → W p l e ({ frames := 10, cells := 7, slots := 40, locals := 230 } : Room) s m ([.ref (a 0), .int p1, .int p2, .int p3, .int p4, .ref ac] : List Value).toArray below meth c H locs 7 40 (MQ below (QW D (TY cI cV cJ cD) (W_Q cI cV vf a ad ac res.1) A (some (.int res.2))) (([.ref (a 0), .int p1, .int p2, .int p3, .int p4, .ref ac] : List Value).toArray) s 7 40 A) (F0 m 435 ls [.int s0]) := by
    intro aw x v13 s0 H locs ls hf hP hD hS hl
    dsimp only [fL_streams_435] at hf
    refine lv_istore (lv' := [(14, .int s0), (0, .ref (a 0)), (5, .ref ac), (13, .int v13)]) hx hb dL_streams_435 hl (by decide) rfl (fun ls hl => ?_)
    refine lv_aload_n hx hb dL_streams_437 rfl (lv_at hl 1 rfl) ?_
    refine lv_iload hx hb dL_streams_438 (lv_at hl 3 rfl) ?_
    refine lv_aload hx hb dL_streams_440 (lv_at hl 2 rfl) ?_
    obtain ⟨u98, hc99, hf⟩ := bind_t hf
    refine k_SP (ws' := W_Q4 cI cV vf a ad ac aw (q4_c x u98.1)) (As := [.ref (a 0), .int v13, .ref ac]) (rest := []) (n := 3) ⟨hx, hb, hml, hown, hts⟩ (met_L_settles l hlt vf ad a ac hvf (q4S x, q4C x) v13 u98 hc99) w673 w674 w0 w675 ⟨by decide +kernel, by decide +kernel, by decide +kernel⟩ ⟨Nat.le_of_ble_eq_true rfl, Nat.le_of_ble_eq_true rfl⟩ hK hE hP hD hS hA (cut_TQ x u98.1) rfl hl.1 rfl (Nat.le_of_ble_eq_true rfl) dL_streams_442 ⟨Nat.le_of_ble_eq_true rfl, Nat.le_of_ble_eq_true rfl⟩ (fun H locs hP hD hS => ?_)
    try dsimp only at hf
    refine W.eq (g2 := F0 m 445 ls [.int u98.2]) rfl ?_
    obtain ⟨x100, hx100⟩ : ∃ z, z = (q4_c x u98.1) := ⟨_, rfl⟩
    replace hf := keep_e hf x100 hx100
    have hP : va_P D vwCl (W_Q4 cI cV vf a ad ac aw x100) H := by rw [hx100]; exact hP
    have hD : va_D A (W_Q4 cI cV vf a ad ac aw x100) := by rw [hx100]; exact hD
    refine lv_if_eq (tgt := 457) hx hb dL_streams_445 (by decide) (fun c101 => ?_) (fun c101 => ?_)
    · replace hf := if_t c101 hf
      refine lv_iconst (v := 0) hx hb dL_streams_457 (by decide) ?_
      obtain rfl := Option.some.inj hf
      have hP := va_P_tl hP
      have hD := va_D_tl hD
      exact W.zret (v := 0) hx hb hr (by decide +kernel) (fun t ht hW => ⟨rfl, by rw [ht]; exact hP, va_K.moved hW.alike hK, hD, hS.F ht⟩) hS.2.2 dL_streams_458 hlocks
    · replace hf := if_f c101 hf
      refine lv_iload hx hb dL_streams_448 (lv_at hl 0 rfl) ?_
      refine lv_if_eq (tgt := 457) hx hb dL_streams_450 (by decide) (fun c102 => ?_) (fun c102 => ?_)
      · replace hf := if_t c102 hf
        refine lv_iconst (v := 0) hx hb dL_streams_457 (by decide) ?_
        obtain rfl := Option.some.inj hf
        have hP := va_P_tl hP
        have hD := va_D_tl hD
        exact W.zret (v := 0) hx hb hr (by decide +kernel) (fun t ht hW => ⟨rfl, by rw [ht]; exact hP, va_K.moved hW.alike hK, hD, hS.F ht⟩) hS.2.2 dL_streams_458 hlocks
      · replace hf := if_f c102 hf
        refine lv_iconst (v := 1) hx hb dL_streams_453 (by decide) ?_
        refine lv_goto (tgt := 458) hx hb dL_streams_454 (by decide) ?_
        obtain rfl := Option.some.inj hf
        have hP := va_P_tl hP
        have hD := va_D_tl hD
        exact W.zret (v := 1) hx hb hr (by decide +kernel) (fun t ht hW => ⟨rfl, by rw [ht]; exact hP, va_K.moved hW.alike hK, hD, hS.F ht⟩) hS.2.2 dL_streams_458 hlocks
  have L434 : ∀ (aw : Nat) (x : Q4St) (v13 : Int32) (H : Heap) (locs : List Loc) (ls : Array Slot), fL_streams_434 x v13  = some res → va_P D vwCl (W_Q4 cI cV vf a ad ac aw x) H → va_D A (W_Q4 cI cV vf a ad ac aw x) → va_S A s.heap H locs → lv_has ls 15 [(0, .ref (a 0)), (5, .ref ac), (13, .int v13)] → W p l e ({ frames := 10, cells := 7, slots := 40, locals := 230 } : Room) s m ([.ref (a 0), .int p1, .int p2, .int p3, .int p4, .ref ac] : List Value).toArray below meth c H locs 7 40 (MQ below (QW D (TY cI cV cJ cD) (W_Q cI cV vf a ad ac res.1) A (some (.int res.2))) (([.ref (a 0), .int p1, .int p2, .int p3, .int p4, .ref ac] : List Value).toArray) s 7 40 A) (F0 m 434 ls []) := by
    intro aw x v13 H locs ls hf hP hD hS hl
    dsimp only [fL_streams_434] at hf
    refine lv_iconst (v := 0) hx hb dL_streams_434 (by decide) ?_
    exact L435 aw x v13 0 H locs ls hf hP hD hS (lv_sub hl [0, 1, 2] rfl)
  have L426 : ∀ (aw : Nat) (x : Q4St) (v13 : Int32) (s0 : Int32) (s1 : Int32) (s2 : Int32) (H : Heap) (locs : List Loc) (ls : Array Slot), fL_streams_426 x v13 s0 s1 s2  = some res → va_P D vwCl (W_Q4 cI cV vf a ad ac aw x) H → va_D A (W_Q4 cI cV vf a ad ac aw x) → va_S A s.heap H locs → lv_has ls 15 [(0, .ref (a 0)), (5, .ref ac), (13, .int v13)] → W p l e ({ frames := 10, cells := 7, slots := 40, locals := 230 } : Room) s m ([.ref (a 0), .int p1, .int p2, .int p3, .int p4, .ref ac] : List Value).toArray below meth c H locs 7 40 (MQ below (QW D (TY cI cV cJ cD) (W_Q cI cV vf a ad ac res.1) A (some (.int res.2))) (([.ref (a 0), .int p1, .int p2, .int p3, .int p4, .ref ac] : List Value).toArray) s 7 40 A) (F0 m 426 ls [.int s0, .int s1, .int s2]) := by
    intro aw x v13 s0 s1 s2 H locs ls hf hP hD hS hl
    dsimp only [fL_streams_426] at hf
    refine lv_iadd hx hb dL_streams_426 ?_
    refine lv_icmp_ne (tgt := 434) hx hb dL_streams_427 (by decide) (fun c103 => ?_) (fun c103 => ?_)
    · replace hf := if_f c103 hf
      exact L434 aw x v13 H locs ls hf hP hD hS (lv_sub hl [0, 1, 2] rfl)
    · replace hf := if_t c103 hf
      refine lv_iconst (v := 1) hx hb dL_streams_430 (by decide) ?_
      refine lv_goto (tgt := 435) hx hb dL_streams_431 (by decide) ?_
      exact L435 aw x v13 1 H locs ls hf hP hD hS (lv_sub hl [0, 1, 2] rfl)
  have L404 : ∀ (aw : Nat) (x : Q4St) (v13 : Int32) (s0 : Int32) (s1 : Int32) (s2 : Int32) (H : Heap) (locs : List Loc) (ls : Array Slot), fL_streams_404 x v13 s0 s1 s2  = some res → va_P D vwCl (W_Q4 cI cV vf a ad ac aw x) H → va_D A (W_Q4 cI cV vf a ad ac aw x) → va_S A s.heap H locs → lv_has ls 15 [(0, .ref (a 0)), (5, .ref ac), (13, .int v13)] → W p l e ({ frames := 10, cells := 7, slots := 40, locals := 230 } : Room) s m ([.ref (a 0), .int p1, .int p2, .int p3, .int p4, .ref ac] : List Value).toArray below meth c H locs 7 40 (MQ below (QW D (TY cI cV cJ cD) (W_Q cI cV vf a ad ac res.1) A (some (.int res.2))) (([.ref (a 0), .int p1, .int p2, .int p3, .int p4, .ref ac] : List Value).toArray) s 7 40 A) (F0 m 404 ls [.int s0, .int s1, .int s2]) := by
    intro aw x v13 s0 s1 s2 H locs ls hf hP hD hS hl
    dsimp only [fL_streams_404] at hf
    refine lv_iadd hx hb dL_streams_404 ?_
    refine lv_icmp_ne (tgt := 434) hx hb dL_streams_405 (by decide) (fun c104 => ?_) (fun c104 => ?_)
    · replace hf := if_f c104 hf
      exact L434 aw x v13 H locs ls hf hP hD hS (lv_sub hl [0, 1, 2] rfl)
    · replace hf := if_t c104 hf
      refine lv_aload_n hx hb dL_streams_408 rfl (lv_at hl 0 rfl) ?_
      obtain ⟨u105, hc106, hf⟩ := bind_t hf
      refine k_VP (ws' := W_Q4 cI cV vf a ad ac aw x) (As := []) (rest := []) (n := 0) ⟨hx, hb, hml, hown, hts⟩ (met_X7_rows l 0 vf (foA a (ad 0)) (hvf _ (by decide : 0 < 16)) (foc 0 (q4S x))  u105 hc106) w669 w670 w671 w1 w672 ⟨rfl, by decide +kernel, by decide +kernel, by decide +kernel⟩ ⟨Nat.le_of_ble_eq_true rfl, Nat.le_of_ble_eq_true rfl⟩ hK hE hP hD hS hA (cut_TFi x (by decide : 0 < 16)) 0 6 rfl rfl rfl rfl hl.1 rfl (Nat.le_of_ble_eq_true rfl) dL_streams_409 ⟨Nat.le_of_ble_eq_true rfl, Nat.le_of_ble_eq_true rfl⟩ (fun H locs hP hD hS => ?_)
      try dsimp only at hf
      refine W.eq (g2 := F0 m 412 ls [.int u105]) rfl ?_
      refine lv_aload hx hb dL_streams_412 (lv_at hl 1 rfl) ?_
      refine lv_iconst (v := 1) hx hb dL_streams_414 (by decide) ?_
      obtain ⟨hi107, hf⟩ := chk_t hf
      refine va_iald hx hb hK hP 1 0 rfl rfl (inb_in hi107) dL_streams_415 ?_
      refine lv_iload hx hb dL_streams_416 (lv_at hl 2 rfl) ?_
      refine lv_if_eq (tgt := 425) hx hb dL_streams_418 (by decide) (fun c108 => ?_) (fun c108 => ?_)
      · replace hf := if_t c108 hf
        refine lv_iconst (v := 0) hx hb dL_streams_425 (by decide) ?_
        exact L426 aw x v13 0 (q4C x (1 : Int32).toNatClampNeg) u105 H locs ls hf hP hD hS (lv_sub hl [0, 1, 2] rfl)
      · replace hf := if_f c108 hf
        refine lv_iconst (v := 1) hx hb dL_streams_421 (by decide) ?_
        refine lv_goto (tgt := 426) hx hb dL_streams_422 (by decide) ?_
        exact L426 aw x v13 1 (q4C x (1 : Int32).toNatClampNeg) u105 H locs ls hf hP hD hS (lv_sub hl [0, 1, 2] rfl)
  have L366 : ∀ (aw : Nat) (x : Q4St) (v1 : Int32) (v9 : Int32) (v12 : Int32) (v13 : Int32) (s0 : Int32) (H : Heap) (locs : List Loc) (ls : Array Slot), fL_streams_366 x v1 v9 v12 v13 s0  = some res → va_P D vwCl (W_Q4 cI cV vf a ad ac aw x) H → va_D A (W_Q4 cI cV vf a ad ac aw x) → va_S A s.heap H locs → lv_has ls 15 [(0, .ref (a 0)), (1, .int v1), (5, .ref ac), (9, .int v9), (12, .int v12), (13, .int v13)] → W p l e ({ frames := 10, cells := 7, slots := 40, locals := 230 } : Room) s m ([.ref (a 0), .int p1, .int p2, .int p3, .int p4, .ref ac] : List Value).toArray below meth c H locs 7 40 (MQ below (QW D (TY cI cV cJ cD) (W_Q cI cV vf a ad ac res.1) A (some (.int res.2))) (([.ref (a 0), .int p1, .int p2, .int p3, .int p4, .ref ac] : List Value).toArray) s 7 40 A) (F0 m 366 ls [.int s0]) := by
    intro aw x v1 v9 v12 v13 s0 H locs ls hf hP hD hS hl
    dsimp only [fL_streams_366] at hf
    refine lv_istore (lv' := [(14, .int s0), (0, .ref (a 0)), (1, .int v1), (5, .ref ac), (9, .int v9), (12, .int v12), (13, .int v13)]) hx hb dL_streams_366 hl (by decide) rfl (fun ls hl => ?_)
    refine lv_iload hx hb dL_streams_368 (lv_at hl 0 rfl) ?_
    refine lv_if_eq (tgt := 434) hx hb dL_streams_370 (by decide) (fun c109 => ?_) (fun c109 => ?_)
    · replace hf := if_t c109 hf
      exact L434 aw x v13 H locs ls hf hP hD hS (lv_sub hl [1, 3, 6] rfl)
    · replace hf := if_f c109 hf
      refine lv_iload hx hb dL_streams_373 (lv_at hl 5 rfl) ?_
      refine lv_iload hx hb dL_streams_375 (lv_at hl 4 rfl) ?_
      refine lv_iload hx hb dL_streams_377 (lv_at hl 6 rfl) ?_
      refine lv_if_ne (tgt := 386) hx hb dL_streams_379 (by decide) (fun c110 => ?_) (fun c110 => ?_)
      · replace hf := if_f c110 hf
        refine lv_iload_n hx hb dL_streams_386 rfl (lv_at hl 2 rfl) ?_
        refine lv_if_ne (tgt := 394) hx hb dL_streams_387 (by decide) (fun c111 => ?_) (fun c111 => ?_)
        · replace hf := if_f c111 hf
          refine lv_iload_n hx hb dL_streams_394 rfl (lv_at hl 2 rfl) ?_
          refine lv_iconst (v := 1) hx hb dL_streams_395 (by decide) ?_
          refine lv_icmp_ne (tgt := 403) hx hb dL_streams_396 (by decide) (fun c112 => ?_) (fun c112 => ?_)
          · replace hf := if_f c112 hf
            refine lv_iconst (v := 0) hx hb dL_streams_403 (by decide) ?_
            exact L404 aw x v13 0 v9 v12 H locs ls hf hP hD hS (lv_sub hl [1, 3, 6] rfl)
          · replace hf := if_t c112 hf
            refine lv_iconst (v := (-1)) hx hb dL_streams_399 (by decide) ?_
            refine lv_goto (tgt := 404) hx hb dL_streams_400 (by decide) ?_
            exact L404 aw x v13 (-1) v9 v12 H locs ls hf hP hD hS (lv_sub hl [1, 3, 6] rfl)
        · replace hf := if_t c111 hf
          refine lv_iconst (v := 1) hx hb dL_streams_390 (by decide) ?_
          refine lv_goto (tgt := 404) hx hb dL_streams_391 (by decide) ?_
          exact L404 aw x v13 1 v9 v12 H locs ls hf hP hD hS (lv_sub hl [1, 3, 6] rfl)
      · replace hf := if_t c110 hf
        refine lv_iconst (v := 0) hx hb dL_streams_382 (by decide) ?_
        refine lv_goto (tgt := 404) hx hb dL_streams_383 (by decide) ?_
        exact L404 aw x v13 0 v9 v12 H locs ls hf hP hD hS (lv_sub hl [1, 3, 6] rfl)
  have L350 : ∀ (aw : Nat) (x : Q4St) (v1 : Int32) (v9 : Int32) (v12 : Int32) (v13 : Int32) (H : Heap) (locs : List Loc) (ls : Array Slot), fL_streams_350 x v1 v9 v12 v13  = some res → va_P D vwCl (W_Q4 cI cV vf a ad ac aw x) H → va_D A (W_Q4 cI cV vf a ad ac aw x) → va_S A s.heap H locs → lv_has ls 15 [(0, .ref (a 0)), (1, .int v1), (5, .ref ac), (9, .int v9), (12, .int v12), (13, .int v13)] → W p l e ({ frames := 10, cells := 7, slots := 40, locals := 230 } : Room) s m ([.ref (a 0), .int p1, .int p2, .int p3, .int p4, .ref ac] : List Value).toArray below meth c H locs 7 40 (MQ below (QW D (TY cI cV cJ cD) (W_Q cI cV vf a ad ac res.1) A (some (.int res.2))) (([.ref (a 0), .int p1, .int p2, .int p3, .int p4, .ref ac] : List Value).toArray) s 7 40 A) (F0 m 350 ls []) := by
    intro aw x v1 v9 v12 v13 H locs ls hf hP hD hS hl
    dsimp only [fL_streams_350] at hf
    refine lv_iconst (v := 0) hx hb dL_streams_350 (by decide) ?_
    refine lv_goto (tgt := 366) hx hb dL_streams_351 (by decide) ?_
    exact L366 aw x v1 v9 v12 v13 0 H locs ls hf hP hD hS (lv_sub hl [0, 1, 2, 3, 4, 5] rfl)
  have L300 : ∀ (aw : Nat) (x : Q4St) (v1 : Int32) (v9 : Int32) (v12 : Int32) (v13 : Int32) (H : Heap) (locs : List Loc) (ls : Array Slot), fL_streams_300 x v1 v9 v12 v13  = some res → va_P D vwCl (W_Q4 cI cV vf a ad ac aw x) H → va_D A (W_Q4 cI cV vf a ad ac aw x) → va_S A s.heap H locs → lv_has ls 15 [(0, .ref (a 0)), (1, .int v1), (5, .ref ac), (9, .int v9), (12, .int v12), (13, .int v13)] → W p l e ({ frames := 10, cells := 7, slots := 40, locals := 230 } : Room) s m ([.ref (a 0), .int p1, .int p2, .int p3, .int p4, .ref ac] : List Value).toArray below meth c H locs 7 40 (MQ below (QW D (TY cI cV cJ cD) (W_Q cI cV vf a ad ac res.1) A (some (.int res.2))) (([.ref (a 0), .int p1, .int p2, .int p3, .int p4, .ref ac] : List Value).toArray) s 7 40 A) (F0 m 300 ls []) := by
    intro aw x v1 v9 v12 v13 H locs ls hf hP hD hS hl
    dsimp only [fL_streams_300] at hf
    refine lv_iconst (v := 1) hx hb dL_streams_300 (by decide) ?_
    refine lv_goto (tgt := 366) hx hb dL_streams_301 (by decide) ?_
    exact L366 aw x v1 v9 v12 v13 1 H locs ls hf hP hD hS (lv_sub hl [0, 1, 2, 3, 4, 5] rfl)
  have L280 : ∀ (aw : Nat) (x : Q4St) (v1 : Int32) (v9 : Int32) (v12 : Int32) (v13 : Int32) (H : Heap) (locs : List Loc) (ls : Array Slot), fL_streams_280 x v1 v9 v12 v13  = some res → va_P D vwCl (W_Q4 cI cV vf a ad ac aw x) H → va_D A (W_Q4 cI cV vf a ad ac aw x) → va_S A s.heap H locs → lv_has ls 15 [(0, .ref (a 0)), (1, .int v1), (5, .ref ac), (9, .int v9), (12, .int v12), (13, .int v13)] → W p l e ({ frames := 10, cells := 7, slots := 40, locals := 230 } : Room) s m ([.ref (a 0), .int p1, .int p2, .int p3, .int p4, .ref ac] : List Value).toArray below meth c H locs 7 40 (MQ below (QW D (TY cI cV cJ cD) (W_Q cI cV vf a ad ac res.1) A (some (.int res.2))) (([.ref (a 0), .int p1, .int p2, .int p3, .int p4, .ref ac] : List Value).toArray) s 7 40 A) (F0 m 280 ls []) := by
    intro aw x v1 v9 v12 v13 H locs ls hf hP hD hS hl
    dsimp only [fL_streams_280] at hf
    refine lv_iconst (v := 0) hx hb dL_streams_280 (by decide) ?_
    refine lv_goto (tgt := 366) hx hb dL_streams_281 (by decide) ?_
    exact L366 aw x v1 v9 v12 v13 0 H locs ls hf hP hD hS (lv_sub hl [0, 1, 2, 3, 4, 5] rfl)
  have L276 : ∀ (aw : Nat) (x : Q4St) (v1 : Int32) (v9 : Int32) (v12 : Int32) (v13 : Int32) (H : Heap) (locs : List Loc) (ls : Array Slot), fL_streams_276 x v1 v9 v12 v13  = some res → va_P D vwCl (W_Q4 cI cV vf a ad ac aw x) H → va_D A (W_Q4 cI cV vf a ad ac aw x) → va_S A s.heap H locs → lv_has ls 15 [(0, .ref (a 0)), (1, .int v1), (5, .ref ac), (9, .int v9), (12, .int v12), (13, .int v13)] → W p l e ({ frames := 10, cells := 7, slots := 40, locals := 230 } : Room) s m ([.ref (a 0), .int p1, .int p2, .int p3, .int p4, .ref ac] : List Value).toArray below meth c H locs 7 40 (MQ below (QW D (TY cI cV cJ cD) (W_Q cI cV vf a ad ac res.1) A (some (.int res.2))) (([.ref (a 0), .int p1, .int p2, .int p3, .int p4, .ref ac] : List Value).toArray) s 7 40 A) (F0 m 276 ls []) := by
    intro aw x v1 v9 v12 v13 H locs ls hf hP hD hS hl
    dsimp only [fL_streams_276] at hf
    refine lv_iconst (v := 1) hx hb dL_streams_276 (by decide) ?_
    refine lv_goto (tgt := 366) hx hb dL_streams_277 (by decide) ?_
    exact L366 aw x v1 v9 v12 v13 1 H locs ls hf hP hD hS (lv_sub hl [0, 1, 2, 3, 4, 5] rfl)
  have L225 : ∀ (aw : Nat) (x : Q4St) (v1 : Int32) (v2 : Int32) (v6 : Int32) (v7 : Int32) (v9 : Int32) (v10 : Int32) (v11 : Int32) (v12 : Int32) (s0 : Int32) (H : Heap) (locs : List Loc) (ls : Array Slot), fL_streams_225 x v1 v2 v6 v7 v9 v10 v11 v12 s0  = some res → va_P D vwCl (W_Q4 cI cV vf a ad ac aw x) H → va_D A (W_Q4 cI cV vf a ad ac aw x) → va_S A s.heap H locs → lv_has ls 15 [(0, .ref (a 0)), (1, .int v1), (2, .int v2), (5, .ref ac), (6, .int v6), (7, .int v7), (8, .ref aw), (9, .int v9), (10, .int v10), (11, .int v11), (12, .int v12)] → W p l e ({ frames := 10, cells := 7, slots := 40, locals := 230 } : Room) s m ([.ref (a 0), .int p1, .int p2, .int p3, .int p4, .ref ac] : List Value).toArray below meth c H locs 7 40 (MQ below (QW D (TY cI cV cJ cD) (W_Q cI cV vf a ad ac res.1) A (some (.int res.2))) (([.ref (a 0), .int p1, .int p2, .int p3, .int p4, .ref ac] : List Value).toArray) s 7 40 A) (F0 m 225 ls [.int s0]) := by
    intro aw x v1 v2 v6 v7 v9 v10 v11 v12 s0 H locs ls hf hP hD hS hl
    dsimp only [fL_streams_225] at hf
    refine lv_istore (lv' := [(13, .int s0), (0, .ref (a 0)), (1, .int v1), (2, .int v2), (5, .ref ac), (6, .int v6), (7, .int v7), (8, .ref aw), (9, .int v9), (10, .int v10), (11, .int v11), (12, .int v12)]) hx hb dL_streams_225 hl (by decide) rfl (fun ls hl => ?_)
    refine lv_iload hx hb dL_streams_227 (lv_at hl 9 rfl) ?_
    refine lv_if_eq (tgt := 354) hx hb dL_streams_229 (by decide) (fun c113 => ?_) (fun c113 => ?_)
    · replace hf := if_t c113 hf
      refine lv_iload hx hb dL_streams_354 (lv_at hl 10 rfl) ?_
      refine lv_bipush (v := (-108)) hx hb dL_streams_356 (by decide) ?_
      refine lv_icmp_ne (tgt := 365) hx hb dL_streams_358 (by decide) (fun c114 => ?_) (fun c114 => ?_)
      · replace hf := if_f c114 hf
        refine lv_iconst (v := 0) hx hb dL_streams_365 (by decide) ?_
        exact L366 aw x v1 v9 v12 s0 0 H locs ls hf hP hD hS (lv_sub hl [1, 2, 4, 8, 11, 0] rfl)
      · replace hf := if_t c114 hf
        refine lv_iconst (v := 1) hx hb dL_streams_361 (by decide) ?_
        refine lv_goto (tgt := 366) hx hb dL_streams_362 (by decide) ?_
        exact L366 aw x v1 v9 v12 s0 1 H locs ls hf hP hD hS (lv_sub hl [1, 2, 4, 8, 11, 0] rfl)
    · replace hf := if_f c113 hf
      refine lv_iload_n hx hb dL_streams_232 rfl (lv_at hl 2 rfl) ?_
      refine lv_if_ne (tgt := 284) hx hb dL_streams_233 (by decide) (fun c115 => ?_) (fun c115 => ?_)
      · replace hf := if_f c115 hf
        refine lv_iload_n hx hb dL_streams_284 rfl (lv_at hl 2 rfl) ?_
        refine lv_iconst (v := 1) hx hb dL_streams_285 (by decide) ?_
        refine lv_icmp_ne (tgt := 308) hx hb dL_streams_286 (by decide) (fun c116 => ?_) (fun c116 => ?_)
        · replace hf := if_f c116 hf
          refine lv_iload hx hb dL_streams_308 (lv_at hl 10 rfl) ?_
          refine lv_if_lt (tgt := 350) hx hb dL_streams_310 (by decide) (fun c117 => ?_) (fun c117 => ?_)
          · replace hf := if_t c117 hf
            exact L350 aw x v1 v9 v12 s0 H locs ls hf hP hD hS (lv_sub hl [1, 2, 4, 8, 11, 0] rfl)
          · replace hf := if_f c117 hf
            refine lv_iload hx hb dL_streams_313 (lv_at hl 10 rfl) ?_
            refine lv_iload hx hb dL_streams_315 (lv_at hl 8 rfl) ?_
            refine lv_aload hx hb dL_streams_317 (lv_at hl 7 rfl) ?_
            refine lv_iload hx hb dL_streams_319 (lv_at hl 6 rfl) ?_
            obtain ⟨hi118, hf⟩ := chk_t hf
            refine va_iald hx hb hK hP 0 0 rfl rfl (inb_in hi118) dL_streams_321 ?_
            refine lv_isub hx hb dL_streams_322 ?_
            refine lv_icmp_gt (tgt := 350) hx hb dL_streams_323 (by decide) (fun c119 => ?_) (fun c119 => ?_)
            · replace hf := if_t c119 hf
              exact L350 aw x v1 v9 v12 s0 H locs ls hf hP hD hS (lv_sub hl [1, 2, 4, 8, 11, 0] rfl)
            · replace hf := if_f c119 hf
              refine lv_aload_n hx hb dL_streams_326 rfl (lv_at hl 1 rfl) ?_
              refine lv_iload_n hx hb dL_streams_327 rfl (lv_at hl 3 rfl) ?_
              refine lv_iload hx hb dL_streams_328 (lv_at hl 5 rfl) ?_
              refine lv_iload hx hb dL_streams_330 (lv_at hl 6 rfl) ?_
              obtain ⟨hk122, hf⟩ := chk_t hf
              replace hk122 := of_decide_eq_true hk122
              obtain ⟨u120, hc121, hf⟩ := bind_t hf
              rcases u120 with r123 | k124
              rotate_left
              · exact (thr_n hf).elim
              replace hf := thr_v hf rfl
              refine k_VP (ws' := W_Q4 cI cV vf a ad ac aw x) (As := [.int v2, .int v6, .int v7]) (rest := []) (n := 3) ⟨hx, hb, hml, hown, hts⟩ (met0_X7_waiting l ((v2 : Int32).toNatClampNeg) vf (foA a (ad ((v2 : Int32).toNatClampNeg))) (hvf _ hk122) (foc ((v2 : Int32).toNatClampNeg) (q4S x)) v2 v6 v7 r123 hc121) w685 w686 w687 w1 w688 ⟨rfl, by decide +kernel, by decide +kernel, by decide +kernel⟩ ⟨Nat.le_of_ble_eq_true rfl, Nat.le_of_ble_eq_true rfl⟩ hK hE hP hD hS hA (cut_TFi x hk122) 0 6 rfl rfl rfl rfl hl.1 rfl (Nat.le_of_ble_eq_true rfl) dL_streams_332 ⟨Nat.le_of_ble_eq_true rfl, Nat.le_of_ble_eq_true rfl⟩ (fun H locs hP hD hS => ?_)
              try dsimp only at hf
              refine W.eq (g2 := F0 m 335 ls [.int r123]) rfl ?_
              refine lv_aload hx hb dL_streams_335 (lv_at hl 7 rfl) ?_
              refine lv_iload hx hb dL_streams_337 (lv_at hl 6 rfl) ?_
              obtain ⟨hi125, hf⟩ := chk_t hf
              refine va_iald hx hb hK hP 0 0 rfl rfl (inb_in hi125) dL_streams_339 ?_
              refine lv_iload hx hb dL_streams_340 (lv_at hl 10 rfl) ?_
              refine lv_iadd hx hb dL_streams_342 ?_
              refine lv_icmp_ne (tgt := 350) hx hb dL_streams_343 (by decide) (fun c126 => ?_) (fun c126 => ?_)
              · replace hf := if_f c126 hf
                exact L350 aw x v1 v9 v12 s0 H locs ls hf hP hD hS (lv_sub hl [1, 2, 4, 8, 11, 0] rfl)
              · replace hf := if_t c126 hf
                refine lv_iconst (v := 1) hx hb dL_streams_346 (by decide) ?_
                refine lv_goto (tgt := 366) hx hb dL_streams_347 (by decide) ?_
                exact L366 aw x v1 v9 v12 s0 1 H locs ls hf hP hD hS (lv_sub hl [1, 2, 4, 8, 11, 0] rfl)
        · replace hf := if_t c116 hf
          refine lv_iload hx hb dL_streams_289 (lv_at hl 10 rfl) ?_
          refine lv_if_eq (tgt := 300) hx hb dL_streams_291 (by decide) (fun c127 => ?_) (fun c127 => ?_)
          · replace hf := if_t c127 hf
            exact L300 aw x v1 v9 v12 s0 H locs ls hf hP hD hS (lv_sub hl [1, 2, 4, 8, 11, 0] rfl)
          · replace hf := if_f c127 hf
            refine lv_iload hx hb dL_streams_294 (lv_at hl 10 rfl) ?_
            refine lv_iconst (v := 1) hx hb dL_streams_296 (by decide) ?_
            refine lv_icmp_ne (tgt := 304) hx hb dL_streams_297 (by decide) (fun c128 => ?_) (fun c128 => ?_)
            · replace hf := if_f c128 hf
              refine lv_iconst (v := 0) hx hb dL_streams_304 (by decide) ?_
              refine lv_goto (tgt := 366) hx hb dL_streams_305 (by decide) ?_
              exact L366 aw x v1 v9 v12 s0 0 H locs ls hf hP hD hS (lv_sub hl [1, 2, 4, 8, 11, 0] rfl)
            · replace hf := if_t c128 hf
              exact L300 aw x v1 v9 v12 s0 H locs ls hf hP hD hS (lv_sub hl [1, 2, 4, 8, 11, 0] rfl)
      · replace hf := if_t c115 hf
        refine lv_iload hx hb dL_streams_236 (lv_at hl 10 rfl) ?_
        refine lv_iconst (v := (-1)) hx hb dL_streams_238 (by decide) ?_
        refine lv_icmp_eq (tgt := 276) hx hb dL_streams_239 (by decide) (fun c129 => ?_) (fun c129 => ?_)
        · replace hf := if_t c129 hf
          exact L276 aw x v1 v9 v12 s0 H locs ls hf hP hD hS (lv_sub hl [1, 2, 4, 8, 11, 0] rfl)
        · replace hf := if_f c129 hf
          refine lv_iload hx hb dL_streams_242 (lv_at hl 10 rfl) ?_
          refine lv_if_le (tgt := 280) hx hb dL_streams_244 (by decide) (fun c130 => ?_) (fun c130 => ?_)
          · replace hf := if_t c130 hf
            exact L280 aw x v1 v9 v12 s0 H locs ls hf hP hD hS (lv_sub hl [1, 2, 4, 8, 11, 0] rfl)
          · replace hf := if_f c130 hf
            refine lv_iload hx hb dL_streams_247 (lv_at hl 10 rfl) ?_
            refine lv_aload_n hx hb dL_streams_249 rfl (lv_at hl 1 rfl) ?_
            refine lv_iload_n hx hb dL_streams_250 rfl (lv_at hl 3 rfl) ?_
            obtain ⟨hk133, hf⟩ := chk_t hf
            replace hk133 := of_decide_eq_true hk133
            obtain ⟨u131, hc132, hf⟩ := bind_t hf
            rcases u131 with r134 | k135
            rotate_left
            · exact (thr_n hf).elim
            replace hf := thr_v hf rfl
            refine k_VP (ws' := W_Q4 cI cV vf a ad ac aw x) (As := [.int v2]) (rest := [.int v11]) (n := 1) ⟨hx, hb, hml, hown, hts⟩ (met0_X7_size l ((v2 : Int32).toNatClampNeg) vf (foA a (ad ((v2 : Int32).toNatClampNeg))) (hvf _ hk133) (foc ((v2 : Int32).toNatClampNeg) (q4S x)) v2 r134 hc132) w298 w299 w300 w1 w301 ⟨rfl, by decide +kernel, by decide +kernel, by decide +kernel⟩ ⟨Nat.le_of_ble_eq_true rfl, Nat.le_of_ble_eq_true rfl⟩ hK hE hP hD hS hA (cut_TFi x hk133) 0 6 rfl rfl rfl rfl hl.1 rfl (Nat.le_of_ble_eq_true rfl) dL_streams_251 ⟨Nat.le_of_ble_eq_true rfl, Nat.le_of_ble_eq_true rfl⟩ (fun H locs hP hD hS => ?_)
            try dsimp only at hf
            refine W.eq (g2 := F0 m 254 ls [.int r134, .int v11]) rfl ?_
            refine lv_icmp_gt (tgt := 280) hx hb dL_streams_254 (by decide) (fun c136 => ?_) (fun c136 => ?_)
            · replace hf := if_t c136 hf
              exact L280 aw x v1 v9 v12 s0 H locs ls hf hP hD hS (lv_sub hl [1, 2, 4, 8, 11, 0] rfl)
            · replace hf := if_f c136 hf
              refine lv_aload_n hx hb dL_streams_257 rfl (lv_at hl 1 rfl) ?_
              refine lv_iload_n hx hb dL_streams_258 rfl (lv_at hl 3 rfl) ?_
              refine lv_iload hx hb dL_streams_259 (lv_at hl 5 rfl) ?_
              refine lv_iload hx hb dL_streams_261 (lv_at hl 6 rfl) ?_
              obtain ⟨hk139, hf⟩ := chk_t hf
              replace hk139 := of_decide_eq_true hk139
              obtain ⟨u137, hc138, hf⟩ := bind_t hf
              rcases u137 with r140 | k141
              rotate_left
              · exact (thr_n hf).elim
              replace hf := thr_v hf rfl
              refine k_VP (ws' := W_Q4 cI cV vf a ad ac aw x) (As := [.int v2, .int v6, .int v7]) (rest := []) (n := 3) ⟨hx, hb, hml, hown, hts⟩ (met0_X7_waiting l ((v2 : Int32).toNatClampNeg) vf (foA a (ad ((v2 : Int32).toNatClampNeg))) (hvf _ hk139) (foc ((v2 : Int32).toNatClampNeg) (q4S x)) v2 v6 v7 r140 hc138) w685 w686 w687 w1 w688 ⟨rfl, by decide +kernel, by decide +kernel, by decide +kernel⟩ ⟨Nat.le_of_ble_eq_true rfl, Nat.le_of_ble_eq_true rfl⟩ hK hE hP hD hS hA (cut_TFi x hk139) 0 6 rfl rfl rfl rfl hl.1 rfl (Nat.le_of_ble_eq_true rfl) dL_streams_263 ⟨Nat.le_of_ble_eq_true rfl, Nat.le_of_ble_eq_true rfl⟩ (fun H locs hP hD hS => ?_)
              try dsimp only at hf
              refine W.eq (g2 := F0 m 266 ls [.int r140]) rfl ?_
              refine lv_aload hx hb dL_streams_266 (lv_at hl 7 rfl) ?_
              refine lv_iload hx hb dL_streams_268 (lv_at hl 6 rfl) ?_
              obtain ⟨hi142, hf⟩ := chk_t hf
              refine va_iald hx hb hK hP 0 0 rfl rfl (inb_in hi142) dL_streams_270 ?_
              refine lv_iconst (v := 1) hx hb dL_streams_271 (by decide) ?_
              refine lv_iadd hx hb dL_streams_272 ?_
              refine lv_icmp_ne (tgt := 280) hx hb dL_streams_273 (by decide) (fun c143 => ?_) (fun c143 => ?_)
              · replace hf := if_f c143 hf
                exact L280 aw x v1 v9 v12 s0 H locs ls hf hP hD hS (lv_sub hl [1, 2, 4, 8, 11, 0] rfl)
              · replace hf := if_t c143 hf
                exact L276 aw x v1 v9 v12 s0 H locs ls hf hP hD hS (lv_sub hl [1, 2, 4, 8, 11, 0] rfl)
  have L224 : ∀ (aw : Nat) (x : Q4St) (v1 : Int32) (v2 : Int32) (v6 : Int32) (v7 : Int32) (v9 : Int32) (v10 : Int32) (v11 : Int32) (v12 : Int32) (H : Heap) (locs : List Loc) (ls : Array Slot), fL_streams_224 x v1 v2 v6 v7 v9 v10 v11 v12  = some res → va_P D vwCl (W_Q4 cI cV vf a ad ac aw x) H → va_D A (W_Q4 cI cV vf a ad ac aw x) → va_S A s.heap H locs → lv_has ls 15 [(0, .ref (a 0)), (1, .int v1), (2, .int v2), (5, .ref ac), (6, .int v6), (7, .int v7), (8, .ref aw), (9, .int v9), (10, .int v10), (11, .int v11), (12, .int v12)] → W p l e ({ frames := 10, cells := 7, slots := 40, locals := 230 } : Room) s m ([.ref (a 0), .int p1, .int p2, .int p3, .int p4, .ref ac] : List Value).toArray below meth c H locs 7 40 (MQ below (QW D (TY cI cV cJ cD) (W_Q cI cV vf a ad ac res.1) A (some (.int res.2))) (([.ref (a 0), .int p1, .int p2, .int p3, .int p4, .ref ac] : List Value).toArray) s 7 40 A) (F0 m 224 ls []) := by
    intro aw x v1 v2 v6 v7 v9 v10 v11 v12 H locs ls hf hP hD hS hl
    dsimp only [fL_streams_224] at hf
    refine lv_iconst (v := 0) hx hb dL_streams_224 (by decide) ?_
    exact L225 aw x v1 v2 v6 v7 v9 v10 v11 v12 0 H locs ls hf hP hD hS (lv_sub hl [0, 1, 2, 3, 4, 5, 6, 7, 8, 9, 10] rfl)
  have L220 : ∀ (aw : Nat) (x : Q4St) (v1 : Int32) (v2 : Int32) (v6 : Int32) (v7 : Int32) (v9 : Int32) (v10 : Int32) (v11 : Int32) (v12 : Int32) (H : Heap) (locs : List Loc) (ls : Array Slot), fL_streams_220 x v1 v2 v6 v7 v9 v10 v11 v12  = some res → va_P D vwCl (W_Q4 cI cV vf a ad ac aw x) H → va_D A (W_Q4 cI cV vf a ad ac aw x) → va_S A s.heap H locs → lv_has ls 15 [(0, .ref (a 0)), (1, .int v1), (2, .int v2), (5, .ref ac), (6, .int v6), (7, .int v7), (8, .ref aw), (9, .int v9), (10, .int v10), (11, .int v11), (12, .int v12)] → W p l e ({ frames := 10, cells := 7, slots := 40, locals := 230 } : Room) s m ([.ref (a 0), .int p1, .int p2, .int p3, .int p4, .ref ac] : List Value).toArray below meth c H locs 7 40 (MQ below (QW D (TY cI cV cJ cD) (W_Q cI cV vf a ad ac res.1) A (some (.int res.2))) (([.ref (a 0), .int p1, .int p2, .int p3, .int p4, .ref ac] : List Value).toArray) s 7 40 A) (F0 m 220 ls []) := by
    intro aw x v1 v2 v6 v7 v9 v10 v11 v12 H locs ls hf hP hD hS hl
    dsimp only [fL_streams_220] at hf
    refine lv_iconst (v := 1) hx hb dL_streams_220 (by decide) ?_
    refine lv_goto (tgt := 225) hx hb dL_streams_221 (by decide) ?_
    exact L225 aw x v1 v2 v6 v7 v9 v10 v11 v12 1 H locs ls hf hP hD hS (lv_sub hl [0, 1, 2, 3, 4, 5, 6, 7, 8, 9, 10] rfl)
  have S172 : ∀ (aw : Nat) (x : Q4St) (v1 : Int32) (v2 : Int32) (v6 : Int32) (v7 : Int32) (v9 : Int32) (v10 : Int32) (v11 : Int32) (rec172 : Int32 × Int32 → Option (QSt × Int32)) (hrec172 : ∀ (v12 : Int32), ∀ (v13 : Int32), ∀ (H : Heap) (locs : List Loc) (ls : Array Slot), rec172 (v12, v13) = some res → va_P D vwCl (W_Q4 cI cV vf a ad ac aw x) H → va_D A (W_Q4 cI cV vf a ad ac aw x) → va_S A s.heap H locs → lv_has ls 15 [(0, .ref (a 0)), (1, .int v1), (2, .int v2), (5, .ref ac), (6, .int v6), (7, .int v7), (8, .ref aw), (9, .int v9), (10, .int v10), (11, .int v11), (12, .int v12), (13, .int v13)] → W p l e ({ frames := 10, cells := 7, slots := 40, locals := 230 } : Room) s m ([.ref (a 0), .int p1, .int p2, .int p3, .int p4, .ref ac] : List Value).toArray below meth c H locs 7 40 (MQ below (QW D (TY cI cV cJ cD) (W_Q cI cV vf a ad ac res.1) A (some (.int res.2))) (([.ref (a 0), .int p1, .int p2, .int p3, .int p4, .ref ac] : List Value).toArray) s 7 40 A) (F0 m 172 ls [])) (v12 : Int32) (v13 : Int32) (H : Heap) (locs : List Loc) (ls : Array Slot), fL_streams_172 x v1 v2 v6 v7 v9 v10 v11  rec172 (v12, v13) = some res → va_P D vwCl (W_Q4 cI cV vf a ad ac aw x) H → va_D A (W_Q4 cI cV vf a ad ac aw x) → va_S A s.heap H locs → lv_has ls 15 [(0, .ref (a 0)), (1, .int v1), (2, .int v2), (5, .ref ac), (6, .int v6), (7, .int v7), (8, .ref aw), (9, .int v9), (10, .int v10), (11, .int v11), (12, .int v12), (13, .int v13)] → W p l e ({ frames := 10, cells := 7, slots := 40, locals := 230 } : Room) s m ([.ref (a 0), .int p1, .int p2, .int p3, .int p4, .ref ac] : List Value).toArray below meth c H locs 7 40 (MQ below (QW D (TY cI cV cJ cD) (W_Q cI cV vf a ad ac res.1) A (some (.int res.2))) (([.ref (a 0), .int p1, .int p2, .int p3, .int p4, .ref ac] : List Value).toArray) s 7 40 A) (F0 m 172 ls []) := by
    intro aw x v1 v2 v6 v7 v9 v10 v11 rec172 hrec172 v12 v13 H locs ls hf hP hD hS hl
    dsimp only [fL_streams_172] at hf
    refine lv_iload hx hb dL_streams_172 (lv_at hl 11 rfl) ?_
    refine lv_iconst (v := 4) hx hb dL_streams_174 (by decide) ?_
    refine lv_icmp_ge (tgt := 198) hx hb dL_streams_175 (by decide) (fun c144 => ?_) (fun c144 => ?_)
    · replace hf := if_t c144 hf
      refine lv_iload hx hb dL_streams_198 (lv_at hl 8 rfl) ?_
      refine lv_if_eq (tgt := 224) hx hb dL_streams_200 (by decide) (fun c145 => ?_) (fun c145 => ?_)
      · replace hf := if_t c145 hf
        exact L224 aw x v1 v2 v6 v7 v9 v10 v11 v12 H locs ls hf hP hD hS (lv_sub hl [0, 1, 2, 3, 4, 5, 6, 7, 8, 9, 10] rfl)
      · replace hf := if_f c145 hf
        refine lv_iload_n hx hb dL_streams_203 rfl (lv_at hl 1 rfl) ?_
        refine lv_if_ne (tgt := 215) hx hb dL_streams_204 (by decide) (fun c146 => ?_) (fun c146 => ?_)
        · replace hf := if_f c146 hf
          refine lv_iload hx hb dL_streams_215 (lv_at hl 9 rfl) ?_
          refine lv_if_le (tgt := 224) hx hb dL_streams_217 (by decide) (fun c147 => ?_) (fun c147 => ?_)
          · replace hf := if_t c147 hf
            exact L224 aw x v1 v2 v6 v7 v9 v10 v11 v12 H locs ls hf hP hD hS (lv_sub hl [0, 1, 2, 3, 4, 5, 6, 7, 8, 9, 10] rfl)
          · replace hf := if_f c147 hf
            exact L220 aw x v1 v2 v6 v7 v9 v10 v11 v12 H locs ls hf hP hD hS (lv_sub hl [0, 1, 2, 3, 4, 5, 6, 7, 8, 9, 10] rfl)
        · replace hf := if_t c146 hf
          refine lv_iload hx hb dL_streams_207 (lv_at hl 9 rfl) ?_
          refine lv_if_le (tgt := 224) hx hb dL_streams_209 (by decide) (fun c148 => ?_) (fun c148 => ?_)
          · replace hf := if_t c148 hf
            exact L224 aw x v1 v2 v6 v7 v9 v10 v11 v12 H locs ls hf hP hD hS (lv_sub hl [0, 1, 2, 3, 4, 5, 6, 7, 8, 9, 10] rfl)
          · replace hf := if_f c148 hf
            refine lv_goto (tgt := 220) hx hb dL_streams_212 (by decide) ?_
            exact L220 aw x v1 v2 v6 v7 v9 v10 v11 v12 H locs ls hf hP hD hS (lv_sub hl [0, 1, 2, 3, 4, 5, 6, 7, 8, 9, 10] rfl)
    · replace hf := if_f c144 hf
      refine lv_iload hx hb dL_streams_178 (lv_at hl 10 rfl) ?_
      refine lv_aload_n hx hb dL_streams_180 rfl (lv_at hl 0 rfl) ?_
      refine lv_iload_n hx hb dL_streams_181 rfl (lv_at hl 2 rfl) ?_
      refine lv_iload hx hb dL_streams_182 (lv_at hl 4 rfl) ?_
      refine lv_iload hx hb dL_streams_184 (lv_at hl 11 rfl) ?_
      obtain ⟨hk151, hf⟩ := chk_t hf
      replace hk151 := of_decide_eq_true hk151
      obtain ⟨u149, hc150, hf⟩ := bind_t hf
      rcases u149 with r152 | k153
      rotate_left
      · exact (thr_n hf).elim
      replace hf := thr_v hf rfl
      refine k_VP (ws' := W_Q4 cI cV vf a ad ac aw x) (As := [.int v2, .int v6, .int v13]) (rest := [.int v12]) (n := 3) ⟨hx, hb, hml, hown, hts⟩ (met0_X7_waiting l ((v2 : Int32).toNatClampNeg) vf (foA a (ad ((v2 : Int32).toNatClampNeg))) (hvf _ hk151) (foc ((v2 : Int32).toNatClampNeg) (q4S x)) v2 v6 v13 r152 hc150) w685 w686 w687 w1 w688 ⟨rfl, by decide +kernel, by decide +kernel, by decide +kernel⟩ ⟨Nat.le_of_ble_eq_true rfl, Nat.le_of_ble_eq_true rfl⟩ hK hE hP hD hS hA (cut_TFi x hk151) 0 6 rfl rfl rfl rfl hl.1 rfl (Nat.le_of_ble_eq_true rfl) dL_streams_186 ⟨Nat.le_of_ble_eq_true rfl, Nat.le_of_ble_eq_true rfl⟩ (fun H locs hP hD hS => ?_)
      try dsimp only at hf
      refine W.eq (g2 := F0 m 189 ls [.int r152, .int v12]) rfl ?_
      refine lv_iadd hx hb dL_streams_189 ?_
      refine lv_topi (fun y154 hy154 => ?_)
      replace hf := keep_e hf y154 hy154
      refine lv_istore (lv' := [(12, .int y154), (0, .ref (a 0)), (1, .int v1), (2, .int v2), (5, .ref ac), (6, .int v6), (7, .int v7), (8, .ref aw), (9, .int v9), (10, .int v10), (11, .int v11), (13, .int v13)]) hx hb dL_streams_190 hl (by decide) rfl (fun ls hl => ?_)
      obtain ⟨y155, hy155⟩ : ∃ z : Int32, z = (v13 + 1) := ⟨_, rfl⟩
      replace hf := keep_e hf y155 hy155
      refine lv_iinc (v := y155) (lv' := [(13, .int y155), (12, .int y154), (0, .ref (a 0)), (1, .int v1), (2, .int v2), (5, .ref ac), (6, .int v6), (7, .int v7), (8, .ref aw), (9, .int v9), (10, .int v10), (11, .int v11)]) hx hb dL_streams_192 hl (k := 11) rfl (by rw [hy155]; rfl) (by decide) rfl (fun ls hl => ?_)
      refine lv_goto (tgt := 172) hx hb dL_streams_195 (by decide) ?_
      exact hrec172 y154 y155 H locs ls hf hP hD hS (lv_sub hl [2, 3, 4, 5, 6, 7, 8, 9, 10, 11, 1, 0] rfl)
  have L172 : ∀ (aw : Nat) (x : Q4St) (v1 : Int32) (v2 : Int32) (v6 : Int32) (v7 : Int32) (v9 : Int32) (v10 : Int32) (v11 : Int32) (fu : Nat) (v12 : Int32) (v13 : Int32) (H : Heap) (locs : List Loc) (ls : Array Slot), iterK fu (fL_streams_172 x v1 v2 v6 v7 v9 v10 v11 ) (v12, v13) = some res → va_P D vwCl (W_Q4 cI cV vf a ad ac aw x) H → va_D A (W_Q4 cI cV vf a ad ac aw x) → va_S A s.heap H locs → lv_has ls 15 [(0, .ref (a 0)), (1, .int v1), (2, .int v2), (5, .ref ac), (6, .int v6), (7, .int v7), (8, .ref aw), (9, .int v9), (10, .int v10), (11, .int v11), (12, .int v12), (13, .int v13)] → W p l e ({ frames := 10, cells := 7, slots := 40, locals := 230 } : Room) s m ([.ref (a 0), .int p1, .int p2, .int p3, .int p4, .ref ac] : List Value).toArray below meth c H locs 7 40 (MQ below (QW D (TY cI cV cJ cD) (W_Q cI cV vf a ad ac res.1) A (some (.int res.2))) (([.ref (a 0), .int p1, .int p2, .int p3, .int p4, .ref ac] : List Value).toArray) s 7 40 A) (F0 m 172 ls []) := by
    intro aw x v1 v2 v6 v7 v9 v10 v11 fu
    induction fu with
    | zero =>
      intro v12 v13 H locs ls hf
      cases hf
    | succ fu ih =>
      intro v12 v13 H locs ls hf hP hD hS hl
      exact S172 aw x v1 v2 v6 v7 v9 v10 v11 (iterK fu (fL_streams_172 x v1 v2 v6 v7 v9 v10 v11 )) ih v12 v13 H locs ls hf hP hD hS hl
  have L161 : ∀ (aw : Nat) (x : Q4St) (v1 : Int32) (v2 : Int32) (v6 : Int32) (v7 : Int32) (v9 : Int32) (v10 : Int32) (s0 : Int32) (s1 : Int32) (s2 : Int32) (s3 : Int32) (s4 : Int32) (H : Heap) (locs : List Loc) (ls : Array Slot), fL_streams_161 x v1 v2 v6 v7 v9 v10 s0 s1 s2 s3 s4  = some res → va_P D vwCl (W_Q4 cI cV vf a ad ac aw x) H → va_D A (W_Q4 cI cV vf a ad ac aw x) → va_S A s.heap H locs → lv_has ls 15 [(0, .ref (a 0)), (1, .int v1), (2, .int v2), (5, .ref ac), (6, .int v6), (7, .int v7), (8, .ref aw), (9, .int v9), (10, .int v10)] → W p l e ({ frames := 10, cells := 7, slots := 40, locals := 230 } : Room) s m ([.ref (a 0), .int p1, .int p2, .int p3, .int p4, .ref ac] : List Value).toArray below meth c H locs 1 4 (MQ below (QW D (TY cI cV cJ cD) (W_Q cI cV vf a ad ac res.1) A (some (.int res.2))) (([.ref (a 0), .int p1, .int p2, .int p3, .int p4, .ref ac] : List Value).toArray) s 7 40 A) (F0 m 161 ls [.int s0, .int s1, .int s2, .int s3, .int s4, .ref (a 0)]) := by
    intro aw x v1 v2 v6 v7 v9 v10 s0 s1 s2 s3 s4 H locs ls hf hP hD hS hl
    dsimp only [fL_streams_161] at hf
    obtain ⟨hk158, hf⟩ := chk_t hf
    replace hk158 := of_decide_eq_true hk158
    obtain ⟨u156, hc157, hf⟩ := bind_t hf
    refine k_SWQ (ws' := W_Q4 cI cV vf a ad ac aw (q4S_s x (unf ((s3 : Int32).toNatClampNeg) (q4S x) u156.1))) (As := [.ref (a 0), .int s4, .int s3, .int s2, .int s1, .int s0]) (rest := []) (n := 6) ⟨hx, hb, hml, hown, hts⟩ (met_L_asks l hlt ((s3 : Int32).toNatClampNeg) vf (foA a (ad ((s3 : Int32).toNatClampNeg))) (hvf _ hk158) (foc ((s3 : Int32).toNatClampNeg) (q4S x)) s4 s3 s2 s1 s0 u156 hc157) w360 w361 w0 w362 ⟨by decide +kernel, by decide +kernel, by decide +kernel⟩ ⟨Nat.le_of_ble_eq_true rfl, Nat.le_of_ble_eq_true rfl⟩ hK hE hP hD hS hA (cut_TF x hk158 u156.1) rfl hl.1 rfl (Nat.le_of_ble_eq_true rfl) dL_streams_161 ⟨Nat.le_of_ble_eq_true rfl, Nat.le_of_ble_eq_true rfl⟩ (fun H locs hP hD hS => ?_)
    try dsimp only at hf
    refine W.eq (g2 := F0 m 164 ls [.int u156.2]) rfl ?_
    obtain ⟨x159, hx159⟩ : ∃ z, z = (q4S_s x (unf ((s3 : Int32).toNatClampNeg) (q4S x) u156.1)) := ⟨_, rfl⟩
    replace hf := keep_e hf x159 hx159
    have hP : va_P D vwCl (W_Q4 cI cV vf a ad ac aw x159) H := by rw [hx159]; exact hP
    have hD : va_D A (W_Q4 cI cV vf a ad ac aw x159) := by rw [hx159]; exact hD
    refine lv_topi (fun y160 hy160 => ?_)
    replace hf := keep_e hf y160 hy160
    refine lv_istore (lv' := [(11, .int y160), (0, .ref (a 0)), (1, .int v1), (2, .int v2), (5, .ref ac), (6, .int v6), (7, .int v7), (8, .ref aw), (9, .int v9), (10, .int v10)]) hx hb dL_streams_164 hl (by decide) rfl (fun ls hl => ?_)
    refine lv_iconst (v := 0) hx hb dL_streams_166 (by decide) ?_
    refine lv_istore (lv' := [(12, .int 0), (11, .int y160), (0, .ref (a 0)), (1, .int v1), (2, .int v2), (5, .ref ac), (6, .int v6), (7, .int v7), (8, .ref aw), (9, .int v9), (10, .int v10)]) hx hb dL_streams_167 hl (by decide) rfl (fun ls hl => ?_)
    refine lv_iconst (v := 0) hx hb dL_streams_169 (by decide) ?_
    refine lv_istore (lv' := [(13, .int 0), (12, .int 0), (11, .int y160), (0, .ref (a 0)), (1, .int v1), (2, .int v2), (5, .ref ac), (6, .int v6), (7, .int v7), (8, .ref aw), (9, .int v9), (10, .int v10)]) hx hb dL_streams_170 hl (by decide) rfl (fun ls hl => ?_)
    exact L172 aw x159 v1 v2 v6 v7 v9 v10 y160 FU  0 0 H locs ls hf hP hD hS (lv_sub hl [3, 4, 5, 6, 7, 8, 9, 10, 11, 2, 1, 0] rfl)
  have L83 : ∀ (aw : Nat) (x : Q4St) (v1 : Int32) (v2 : Int32) (v4 : Int32) (v6 : Int32) (v7 : Int32) (v9 : Int32) (s0 : Int32) (H : Heap) (locs : List Loc) (ls : Array Slot), fL_streams_83 x v1 v2 v4 v6 v7 v9 s0  = some res → va_P D vwCl (W_Q4 cI cV vf a ad ac aw x) H → va_D A (W_Q4 cI cV vf a ad ac aw x) → va_S A s.heap H locs → lv_has ls 15 [(0, .ref (a 0)), (1, .int v1), (2, .int v2), (4, .int v4), (5, .ref ac), (6, .int v6), (7, .int v7), (8, .ref aw), (9, .int v9)] → W p l e ({ frames := 10, cells := 7, slots := 40, locals := 230 } : Room) s m ([.ref (a 0), .int p1, .int p2, .int p3, .int p4, .ref ac] : List Value).toArray below meth c H locs 1 4 (MQ below (QW D (TY cI cV cJ cD) (W_Q cI cV vf a ad ac res.1) A (some (.int res.2))) (([.ref (a 0), .int p1, .int p2, .int p3, .int p4, .ref ac] : List Value).toArray) s 7 40 A) (F0 m 83 ls [.int s0]) := by
    intro aw x v1 v2 v4 v6 v7 v9 s0 H locs ls hf hP hD hS hl
    dsimp only [fL_streams_83] at hf
    refine lv_istore (lv' := [(10, .int s0), (0, .ref (a 0)), (1, .int v1), (2, .int v2), (4, .int v4), (5, .ref ac), (6, .int v6), (7, .int v7), (8, .ref aw), (9, .int v9)]) hx hb dL_streams_83 hl (by decide) rfl (fun ls hl => ?_)
    refine lv_iload_n hx hb dL_streams_85 rfl (lv_at hl 2 rfl) ?_
    refine lv_if_ne (tgt := 104) hx hb dL_streams_86 (by decide) (fun c161 => ?_) (fun c161 => ?_)
    · replace hf := if_f c161 hf
      refine lv_iload_n hx hb dL_streams_104 rfl (lv_at hl 2 rfl) ?_
      refine lv_iconst (v := 1) hx hb dL_streams_105 (by decide) ?_
      refine lv_icmp_ne (tgt := 129) hx hb dL_streams_106 (by decide) (fun c162 => ?_) (fun c162 => ?_)
      · replace hf := if_f c162 hf
        refine lv_aload_n hx hb dL_streams_129 rfl (lv_at hl 1 rfl) ?_
        refine lv_bipush (v := 8) hx hb dL_streams_130 (by decide) ?_
        refine lv_iload_n hx hb dL_streams_132 rfl (lv_at hl 3 rfl) ?_
        refine lv_iload hx hb dL_streams_133 (lv_at hl 6 rfl) ?_
        refine lv_iload hx hb dL_streams_135 (lv_at hl 7 rfl) ?_
        refine lv_iload hx hb dL_streams_137 (lv_at hl 4 rfl) ?_
        refine lv_iconst (v := 3) hx hb dL_streams_139 (by decide) ?_
        refine lv_irem hx hb dL_streams_140 (by decide) ?_
        refine lv_if_ne (tgt := 155) hx hb dL_streams_141 (by decide) (fun c163 => ?_) (fun c163 => ?_)
        · replace hf := if_f c163 hf
          refine lv_iload hx hb dL_streams_155 (lv_at hl 4 rfl) ?_
          refine lv_iconst (v := 3) hx hb dL_streams_157 (by decide) ?_
          refine lv_idiv hx hb dL_streams_158 (by decide) ?_
          refine lv_iconst (v := 5) hx hb dL_streams_159 (by decide) ?_
          refine lv_irem hx hb dL_streams_160 (by decide) ?_
          exact L161 aw x v1 v2 v6 v7 v9 s0 ((v4 / 3) - (v4 / 3) / 5 * 5) v7 v6 v2 8 H locs ls hf hP hD hS (lv_sub hl [1, 2, 3, 5, 6, 7, 8, 9, 0] rfl)
        · replace hf := if_t c163 hf
          refine lv_iload hx hb dL_streams_144 (lv_at hl 4 rfl) ?_
          refine lv_iconst (v := 3) hx hb dL_streams_146 (by decide) ?_
          refine lv_idiv hx hb dL_streams_147 (by decide) ?_
          refine lv_sipush (v := 1001) hx hb dL_streams_148 (by decide) ?_
          refine lv_irem hx hb dL_streams_151 (by decide) ?_
          refine lv_goto (tgt := 161) hx hb dL_streams_152 (by decide) ?_
          exact L161 aw x v1 v2 v6 v7 v9 s0 ((v4 / 3) - (v4 / 3) / 1001 * 1001) v7 v6 v2 8 H locs ls hf hP hD hS (lv_sub hl [1, 2, 3, 5, 6, 7, 8, 9, 0] rfl)
      · replace hf := if_t c162 hf
        refine lv_aload_n hx hb dL_streams_109 rfl (lv_at hl 1 rfl) ?_
        refine lv_bipush (v := 7) hx hb dL_streams_110 (by decide) ?_
        refine lv_iload_n hx hb dL_streams_112 rfl (lv_at hl 3 rfl) ?_
        refine lv_iload hx hb dL_streams_113 (lv_at hl 6 rfl) ?_
        refine lv_iload hx hb dL_streams_115 (lv_at hl 4 rfl) ?_
        refine lv_bipush (v := 42) hx hb dL_streams_117 (by decide) ?_
        refine lv_irem hx hb dL_streams_119 (by decide) ?_
        refine lv_iconst (v := 1) hx hb dL_streams_120 (by decide) ?_
        refine lv_isub hx hb dL_streams_121 ?_
        refine lv_iconst (v := 0) hx hb dL_streams_122 (by decide) ?_
        obtain ⟨hk166, hf⟩ := chk_t hf
        replace hk166 := of_decide_eq_true hk166
        obtain ⟨u164, hc165, hf⟩ := bind_t hf
        refine k_SWQ (ws' := W_Q4 cI cV vf a ad ac aw (q4S_s x (unf ((v2 : Int32).toNatClampNeg) (q4S x) u164.1))) (As := [.ref (a 0), .int 7, .int v2, .int v6, .int ((v4 - v4 / 42 * 42) - 1), .int 0]) (rest := []) (n := 6) ⟨hx, hb, hml, hown, hts⟩ (met_L_asks l hlt ((v2 : Int32).toNatClampNeg) vf (foA a (ad ((v2 : Int32).toNatClampNeg))) (hvf _ hk166) (foc ((v2 : Int32).toNatClampNeg) (q4S x)) 7 v2 v6 ((v4 - v4 / 42 * 42) - 1) 0 u164 hc165) w360 w361 w0 w362 ⟨by decide +kernel, by decide +kernel, by decide +kernel⟩ ⟨Nat.le_of_ble_eq_true rfl, Nat.le_of_ble_eq_true rfl⟩ hK hE hP hD hS hA (cut_TF x hk166 u164.1) rfl hl.1 rfl (Nat.le_of_ble_eq_true rfl) dL_streams_123 ⟨Nat.le_of_ble_eq_true rfl, Nat.le_of_ble_eq_true rfl⟩ (fun H locs hP hD hS => ?_)
        try dsimp only at hf
        refine W.eq (g2 := F0 m 126 ls [.int u164.2]) rfl ?_
        obtain ⟨x167, hx167⟩ : ∃ z, z = (q4S_s x (unf ((v2 : Int32).toNatClampNeg) (q4S x) u164.1)) := ⟨_, rfl⟩
        replace hf := keep_e hf x167 hx167
        have hP : va_P D vwCl (W_Q4 cI cV vf a ad ac aw x167) H := by rw [hx167]; exact hP
        have hD : va_D A (W_Q4 cI cV vf a ad ac aw x167) := by rw [hx167]; exact hD
        refine lv_goto (tgt := 164) hx hb dL_streams_126 (by decide) ?_
        refine lv_topi (fun y168 hy168 => ?_)
        replace hf := keep_e hf y168 hy168
        refine lv_istore (lv' := [(11, .int y168), (10, .int s0), (0, .ref (a 0)), (1, .int v1), (2, .int v2), (4, .int v4), (5, .ref ac), (6, .int v6), (7, .int v7), (8, .ref aw), (9, .int v9)]) hx hb dL_streams_164 hl (by decide) rfl (fun ls hl => ?_)
        refine lv_iconst (v := 0) hx hb dL_streams_166 (by decide) ?_
        refine lv_istore (lv' := [(12, .int 0), (11, .int y168), (10, .int s0), (0, .ref (a 0)), (1, .int v1), (2, .int v2), (4, .int v4), (5, .ref ac), (6, .int v6), (7, .int v7), (8, .ref aw), (9, .int v9)]) hx hb dL_streams_167 hl (by decide) rfl (fun ls hl => ?_)
        refine lv_iconst (v := 0) hx hb dL_streams_169 (by decide) ?_
        refine lv_istore (lv' := [(13, .int 0), (12, .int 0), (11, .int y168), (10, .int s0), (0, .ref (a 0)), (1, .int v1), (2, .int v2), (4, .int v4), (5, .ref ac), (6, .int v6), (7, .int v7), (8, .ref aw), (9, .int v9)]) hx hb dL_streams_170 hl (by decide) rfl (fun ls hl => ?_)
        exact L172 aw x167 v1 v2 v6 v7 v9 s0 y168 FU  0 0 H locs ls hf hP hD hS (lv_sub hl [4, 5, 6, 8, 9, 10, 11, 12, 3, 2, 1, 0] rfl)
    · replace hf := if_t c161 hf
      refine lv_aload_n hx hb dL_streams_89 rfl (lv_at hl 1 rfl) ?_
      refine lv_bipush (v := 6) hx hb dL_streams_90 (by decide) ?_
      refine lv_iload_n hx hb dL_streams_92 rfl (lv_at hl 3 rfl) ?_
      refine lv_iload hx hb dL_streams_93 (lv_at hl 6 rfl) ?_
      refine lv_iload hx hb dL_streams_95 (lv_at hl 7 rfl) ?_
      refine lv_iconst (v := 0) hx hb dL_streams_97 (by decide) ?_
      obtain ⟨hk171, hf⟩ := chk_t hf
      replace hk171 := of_decide_eq_true hk171
      obtain ⟨u169, hc170, hf⟩ := bind_t hf
      refine k_SWQ (ws' := W_Q4 cI cV vf a ad ac aw (q4S_s x (unf ((v2 : Int32).toNatClampNeg) (q4S x) u169.1))) (As := [.ref (a 0), .int 6, .int v2, .int v6, .int v7, .int 0]) (rest := []) (n := 6) ⟨hx, hb, hml, hown, hts⟩ (met_L_asks l hlt ((v2 : Int32).toNatClampNeg) vf (foA a (ad ((v2 : Int32).toNatClampNeg))) (hvf _ hk171) (foc ((v2 : Int32).toNatClampNeg) (q4S x)) 6 v2 v6 v7 0 u169 hc170) w360 w361 w0 w362 ⟨by decide +kernel, by decide +kernel, by decide +kernel⟩ ⟨Nat.le_of_ble_eq_true rfl, Nat.le_of_ble_eq_true rfl⟩ hK hE hP hD hS hA (cut_TF x hk171 u169.1) rfl hl.1 rfl (Nat.le_of_ble_eq_true rfl) dL_streams_98 ⟨Nat.le_of_ble_eq_true rfl, Nat.le_of_ble_eq_true rfl⟩ (fun H locs hP hD hS => ?_)
      try dsimp only at hf
      refine W.eq (g2 := F0 m 101 ls [.int u169.2]) rfl ?_
      obtain ⟨x172, hx172⟩ : ∃ z, z = (q4S_s x (unf ((v2 : Int32).toNatClampNeg) (q4S x) u169.1)) := ⟨_, rfl⟩
      replace hf := keep_e hf x172 hx172
      have hP : va_P D vwCl (W_Q4 cI cV vf a ad ac aw x172) H := by rw [hx172]; exact hP
      have hD : va_D A (W_Q4 cI cV vf a ad ac aw x172) := by rw [hx172]; exact hD
      refine lv_goto (tgt := 164) hx hb dL_streams_101 (by decide) ?_
      refine lv_topi (fun y173 hy173 => ?_)
      replace hf := keep_e hf y173 hy173
      refine lv_istore (lv' := [(11, .int y173), (10, .int s0), (0, .ref (a 0)), (1, .int v1), (2, .int v2), (4, .int v4), (5, .ref ac), (6, .int v6), (7, .int v7), (8, .ref aw), (9, .int v9)]) hx hb dL_streams_164 hl (by decide) rfl (fun ls hl => ?_)
      refine lv_iconst (v := 0) hx hb dL_streams_166 (by decide) ?_
      refine lv_istore (lv' := [(12, .int 0), (11, .int y173), (10, .int s0), (0, .ref (a 0)), (1, .int v1), (2, .int v2), (4, .int v4), (5, .ref ac), (6, .int v6), (7, .int v7), (8, .ref aw), (9, .int v9)]) hx hb dL_streams_167 hl (by decide) rfl (fun ls hl => ?_)
      refine lv_iconst (v := 0) hx hb dL_streams_169 (by decide) ?_
      refine lv_istore (lv' := [(13, .int 0), (12, .int 0), (11, .int y173), (10, .int s0), (0, .ref (a 0)), (1, .int v1), (2, .int v2), (4, .int v4), (5, .ref ac), (6, .int v6), (7, .int v7), (8, .ref aw), (9, .int v9)]) hx hb dL_streams_170 hl (by decide) rfl (fun ls hl => ?_)
      exact L172 aw x172 v1 v2 v6 v7 v9 s0 y173 FU  0 0 H locs ls hf hP hD hS (lv_sub hl [4, 5, 6, 8, 9, 10, 11, 12, 3, 2, 1, 0] rfl)
  have L82 : ∀ (aw : Nat) (x : Q4St) (v1 : Int32) (v2 : Int32) (v4 : Int32) (v6 : Int32) (v7 : Int32) (v9 : Int32) (H : Heap) (locs : List Loc) (ls : Array Slot), fL_streams_82 x v1 v2 v4 v6 v7 v9  = some res → va_P D vwCl (W_Q4 cI cV vf a ad ac aw x) H → va_D A (W_Q4 cI cV vf a ad ac aw x) → va_S A s.heap H locs → lv_has ls 15 [(0, .ref (a 0)), (1, .int v1), (2, .int v2), (4, .int v4), (5, .ref ac), (6, .int v6), (7, .int v7), (8, .ref aw), (9, .int v9)] → W p l e ({ frames := 10, cells := 7, slots := 40, locals := 230 } : Room) s m ([.ref (a 0), .int p1, .int p2, .int p3, .int p4, .ref ac] : List Value).toArray below meth c H locs 1 4 (MQ below (QW D (TY cI cV cJ cD) (W_Q cI cV vf a ad ac res.1) A (some (.int res.2))) (([.ref (a 0), .int p1, .int p2, .int p3, .int p4, .ref ac] : List Value).toArray) s 7 40 A) (F0 m 82 ls []) := by
    intro aw x v1 v2 v4 v6 v7 v9 H locs ls hf hP hD hS hl
    dsimp only [fL_streams_82] at hf
    refine lv_iconst (v := 0) hx hb dL_streams_82 (by decide) ?_
    exact L83 aw x v1 v2 v4 v6 v7 v9 0 H locs ls hf hP hD hS (lv_sub hl [0, 1, 2, 3, 4, 5, 6, 7, 8] rfl)
  have S23 : ∀ (aw : Nat) (v1 : Int32) (v2 : Int32) (v4 : Int32) (v6 : Int32) (v7 : Int32) (rec23 : Q4St × Int32 × Int32 → Option (QSt × Int32)) (hrec23 : ∀ (x : Q4St), ∀ (v9 : Int32), ∀ (v10 : Int32), ∀ (H : Heap) (locs : List Loc) (ls : Array Slot), rec23 (x, v9, v10) = some res → va_P D vwCl (W_Q4 cI cV vf a ad ac aw x) H → va_D A (W_Q4 cI cV vf a ad ac aw x) → va_S A s.heap H locs → lv_has ls 15 [(0, .ref (a 0)), (1, .int v1), (2, .int v2), (4, .int v4), (5, .ref ac), (6, .int v6), (7, .int v7), (8, .ref aw), (9, .int v9), (10, .int v10)] → W p l e ({ frames := 10, cells := 7, slots := 40, locals := 230 } : Room) s m ([.ref (a 0), .int p1, .int p2, .int p3, .int p4, .ref ac] : List Value).toArray below meth c H locs 1 4 (MQ below (QW D (TY cI cV cJ cD) (W_Q cI cV vf a ad ac res.1) A (some (.int res.2))) (([.ref (a 0), .int p1, .int p2, .int p3, .int p4, .ref ac] : List Value).toArray) s 7 40 A) (F0 m 23 ls [])) (x : Q4St) (v9 : Int32) (v10 : Int32) (H : Heap) (locs : List Loc) (ls : Array Slot), fL_streams_23 v1 v2 v4 v6 v7  rec23 (x, v9, v10) = some res → va_P D vwCl (W_Q4 cI cV vf a ad ac aw x) H → va_D A (W_Q4 cI cV vf a ad ac aw x) → va_S A s.heap H locs → lv_has ls 15 [(0, .ref (a 0)), (1, .int v1), (2, .int v2), (4, .int v4), (5, .ref ac), (6, .int v6), (7, .int v7), (8, .ref aw), (9, .int v9), (10, .int v10)] → W p l e ({ frames := 10, cells := 7, slots := 40, locals := 230 } : Room) s m ([.ref (a 0), .int p1, .int p2, .int p3, .int p4, .ref ac] : List Value).toArray below meth c H locs 1 4 (MQ below (QW D (TY cI cV cJ cD) (W_Q cI cV vf a ad ac res.1) A (some (.int res.2))) (([.ref (a 0), .int p1, .int p2, .int p3, .int p4, .ref ac] : List Value).toArray) s 7 40 A) (F0 m 23 ls []) := by
    intro aw v1 v2 v4 v6 v7 rec23 hrec23 x v9 v10 H locs ls hf hP hD hS hl
    dsimp only [fL_streams_23] at hf
    refine lv_iload hx hb dL_streams_23 (lv_at hl 9 rfl) ?_
    refine lv_iconst (v := 4) hx hb dL_streams_25 (by decide) ?_
    refine lv_icmp_ge (tgt := 59) hx hb dL_streams_26 (by decide) (fun c174 => ?_) (fun c174 => ?_)
    · replace hf := if_t c174 hf
      refine lv_aload_n hx hb dL_streams_59 rfl (lv_at hl 0 rfl) ?_
      refine lv_iload_n hx hb dL_streams_60 rfl (lv_at hl 2 rfl) ?_
      obtain ⟨hk177, hf⟩ := chk_t hf
      replace hk177 := of_decide_eq_true hk177
      obtain ⟨u175, hc176, hf⟩ := bind_t hf
      rcases u175 with r178 | k179
      rotate_left
      · exact (thr_n hf).elim
      replace hf := thr_v hf rfl
      refine k_VP (ws' := W_Q4 cI cV vf a ad ac aw x) (As := [.int v2]) (rest := []) (n := 1) ⟨hx, hb, hml, hown, hts⟩ (met0_X7_typeOf l ((v2 : Int32).toNatClampNeg) vf (foA a (ad ((v2 : Int32).toNatClampNeg))) (hvf _ hk177) (foc ((v2 : Int32).toNatClampNeg) (q4S x)) v2 r178 hc176) w205 w206 w207 w1 w208 ⟨rfl, by decide +kernel, by decide +kernel, by decide +kernel⟩ ⟨Nat.le_of_ble_eq_true rfl, Nat.le_of_ble_eq_true rfl⟩ hK hE hP hD hS hA (cut_TFi x hk177) 0 6 rfl rfl rfl rfl hl.1 rfl (Nat.le_of_ble_eq_true rfl) dL_streams_61 ⟨Nat.le_of_ble_eq_true rfl, Nat.le_of_ble_eq_true rfl⟩ (fun H locs hP hD hS => ?_)
      try dsimp only at hf
      refine W.eq (g2 := F0 m 64 ls [.int r178]) rfl ?_
      refine lv_iconst (v := 4) hx hb dL_streams_64 (by decide) ?_
      refine lv_icmp_ne (tgt := 82) hx hb dL_streams_65 (by decide) (fun c180 => ?_) (fun c180 => ?_)
      · replace hf := if_f c180 hf
        exact L82 aw x v1 v2 v4 v6 v7 v9 H locs ls hf hP hD hS (lv_sub hl [0, 1, 2, 3, 4, 5, 6, 7, 8] rfl)
      · replace hf := if_t c180 hf
        refine lv_aload hx hb dL_streams_68 (lv_at hl 4 rfl) ?_
        refine lv_iconst (v := 1) hx hb dL_streams_70 (by decide) ?_
        obtain ⟨hi181, hf⟩ := chk_t hf
        refine va_iald hx hb hK hP 1 0 rfl rfl (inb_in hi181) dL_streams_71 ?_
        refine lv_sipush (v := 300) hx hb dL_streams_72 (by decide) ?_
        refine lv_icmp_ge (tgt := 82) hx hb dL_streams_75 (by decide) (fun c182 => ?_) (fun c182 => ?_)
        · replace hf := if_t c182 hf
          exact L82 aw x v1 v2 v4 v6 v7 v9 H locs ls hf hP hD hS (lv_sub hl [0, 1, 2, 3, 4, 5, 6, 7, 8] rfl)
        · replace hf := if_f c182 hf
          refine lv_iconst (v := 1) hx hb dL_streams_78 (by decide) ?_
          refine lv_goto (tgt := 83) hx hb dL_streams_79 (by decide) ?_
          exact L83 aw x v1 v2 v4 v6 v7 v9 1 H locs ls hf hP hD hS (lv_sub hl [0, 1, 2, 3, 4, 5, 6, 7, 8] rfl)
    · replace hf := if_f c174 hf
      refine lv_aload hx hb dL_streams_29 (lv_at hl 7 rfl) ?_
      refine lv_iload hx hb dL_streams_31 (lv_at hl 9 rfl) ?_
      refine lv_aload_n hx hb dL_streams_33 rfl (lv_at hl 0 rfl) ?_
      refine lv_iload_n hx hb dL_streams_34 rfl (lv_at hl 2 rfl) ?_
      refine lv_iload hx hb dL_streams_35 (lv_at hl 5 rfl) ?_
      refine lv_iload hx hb dL_streams_37 (lv_at hl 9 rfl) ?_
      obtain ⟨hk185, hf⟩ := chk_t hf
      replace hk185 := of_decide_eq_true hk185
      obtain ⟨u183, hc184, hf⟩ := bind_t hf
      rcases u183 with r186 | k187
      rotate_left
      · exact (thr_n hf).elim
      replace hf := thr_v hf rfl
      refine k_VP (ws' := W_Q4 cI cV vf a ad ac aw x) (As := [.int v2, .int v6, .int v10]) (rest := [.int v10, .ref aw]) (n := 3) ⟨hx, hb, hml, hown, hts⟩ (met0_X7_waiting l ((v2 : Int32).toNatClampNeg) vf (foA a (ad ((v2 : Int32).toNatClampNeg))) (hvf _ hk185) (foc ((v2 : Int32).toNatClampNeg) (q4S x)) v2 v6 v10 r186 hc184) w685 w686 w687 w1 w688 ⟨rfl, by decide +kernel, by decide +kernel, by decide +kernel⟩ ⟨Nat.le_of_ble_eq_true rfl, Nat.le_of_ble_eq_true rfl⟩ hK hE hP hD hS hA (cut_TFi x hk185) 0 6 rfl rfl rfl rfl hl.1 rfl (Nat.le_of_ble_eq_true rfl) dL_streams_39 ⟨Nat.le_of_ble_eq_true rfl, Nat.le_of_ble_eq_true rfl⟩ (fun H locs hP hD hS => ?_)
      try dsimp only at hf
      refine W.eq (g2 := F0 m 42 ls [.int r186, .int v10, .ref aw]) rfl ?_
      obtain ⟨hi188, hf⟩ := chk_t hf
      refine va_iast hx hb hK hP hD hS 0 0 rfl rfl (inb_in hi188) dL_streams_42 (fun H locs hP hD hS => ?_)
      obtain ⟨x189, hx189⟩ : ∃ z, z = (q4W_s x (upd (q4W x) (v10 : Int32).toNatClampNeg r186)) := ⟨_, rfl⟩
      replace hf := keep_e hf x189 hx189
      have hP : va_P D vwCl (W_Q4 cI cV vf a ad ac aw x189) H := by rw [hx189]; exact hP
      have hD : va_D A (W_Q4 cI cV vf a ad ac aw x189) := by rw [hx189]; exact hD
      refine lv_iload hx hb dL_streams_43 (lv_at hl 8 rfl) ?_
      refine lv_aload hx hb dL_streams_45 (lv_at hl 7 rfl) ?_
      refine lv_iload hx hb dL_streams_47 (lv_at hl 9 rfl) ?_
      obtain ⟨hi190, hf⟩ := chk_t hf
      refine va_iald hx hb hK hP 0 0 rfl rfl (inb_in hi190) dL_streams_49 ?_
      refine lv_iadd hx hb dL_streams_50 ?_
      refine lv_topi (fun y191 hy191 => ?_)
      replace hf := keep_e hf y191 hy191
      refine lv_istore (lv' := [(9, .int y191), (0, .ref (a 0)), (1, .int v1), (2, .int v2), (4, .int v4), (5, .ref ac), (6, .int v6), (7, .int v7), (8, .ref aw), (10, .int v10)]) hx hb dL_streams_51 hl (by decide) rfl (fun ls hl => ?_)
      obtain ⟨y192, hy192⟩ : ∃ z : Int32, z = (v10 + 1) := ⟨_, rfl⟩
      replace hf := keep_e hf y192 hy192
      refine lv_iinc (v := y192) (lv' := [(10, .int y192), (9, .int y191), (0, .ref (a 0)), (1, .int v1), (2, .int v2), (4, .int v4), (5, .ref ac), (6, .int v6), (7, .int v7), (8, .ref aw)]) hx hb dL_streams_53 hl (k := 9) rfl (by rw [hy192]; rfl) (by decide) rfl (fun ls hl => ?_)
      refine lv_goto (tgt := 23) hx hb dL_streams_56 (by decide) ?_
      exact hrec23 x189 y191 y192 H locs ls hf hP hD hS (lv_sub hl [2, 3, 4, 5, 6, 7, 8, 9, 1, 0] rfl)
  have L23 : ∀ (aw : Nat) (v1 : Int32) (v2 : Int32) (v4 : Int32) (v6 : Int32) (v7 : Int32) (fu : Nat) (x : Q4St) (v9 : Int32) (v10 : Int32) (H : Heap) (locs : List Loc) (ls : Array Slot), iterK fu (fL_streams_23 v1 v2 v4 v6 v7 ) (x, v9, v10) = some res → va_P D vwCl (W_Q4 cI cV vf a ad ac aw x) H → va_D A (W_Q4 cI cV vf a ad ac aw x) → va_S A s.heap H locs → lv_has ls 15 [(0, .ref (a 0)), (1, .int v1), (2, .int v2), (4, .int v4), (5, .ref ac), (6, .int v6), (7, .int v7), (8, .ref aw), (9, .int v9), (10, .int v10)] → W p l e ({ frames := 10, cells := 7, slots := 40, locals := 230 } : Room) s m ([.ref (a 0), .int p1, .int p2, .int p3, .int p4, .ref ac] : List Value).toArray below meth c H locs 1 4 (MQ below (QW D (TY cI cV cJ cD) (W_Q cI cV vf a ad ac res.1) A (some (.int res.2))) (([.ref (a 0), .int p1, .int p2, .int p3, .int p4, .ref ac] : List Value).toArray) s 7 40 A) (F0 m 23 ls []) := by
    intro aw v1 v2 v4 v6 v7 fu
    induction fu with
    | zero =>
      intro x v9 v10 H locs ls hf
      cases hf
    | succ fu ih =>
      intro x v9 v10 H locs ls hf hP hD hS hl
      exact S23 aw v1 v2 v4 v6 v7 (iterK fu (fL_streams_23 v1 v2 v4 v6 v7 )) ih x v9 v10 H locs ls hf hP hD hS hl
  have M0 : ∀ (H : Heap) (locs : List Loc) (ls : Array Slot), fL_streams x p1 p2 p3 p4 = some res → va_P D vwCl (W_Q cI cV vf a ad ac x) H → va_D A (W_Q cI cV vf a ad ac x) → va_S A s.heap H locs → lv_has ls 15 [(0, .ref (a 0)), (1, .int p1), (2, .int p2), (3, .int p3), (4, .int p4), (5, .ref ac)] → W p l e ({ frames := 10, cells := 7, slots := 40, locals := 230 } : Room) s m ([.ref (a 0), .int p1, .int p2, .int p3, .int p4, .ref ac] : List Value).toArray below meth c H locs 0 0 (MQ below (QW D (TY cI cV cJ cD) (W_Q cI cV vf a ad ac res.1) A (some (.int res.2))) (([.ref (a 0), .int p1, .int p2, .int p3, .int p4, .ref ac] : List Value).toArray) s 7 40 A) (F0 m 0 ls []) := by
    intro H locs ls hf hP hD hS hl
    dsimp only [fL_streams] at hf
    obtain ⟨x0, hx0⟩ : ∃ z, z = q4I x := ⟨_, rfl⟩
    replace hf := keep_e hf x0 hx0
    have hP : va_P D vwCl (W_Q cI cV vf a ad ac (q4Q x0)) H := by rw [hx0]; exact hP
    have hD : va_D A (W_Q cI cV vf a ad ac (q4Q x0)) := by rw [hx0]; exact hD
    refine lv_iload_n hx hb dL_streams_0 rfl (lv_at hl 3 rfl) ?_
    refine lv_iconst (v := 3) hx hb dL_streams_1 (by decide) ?_
    refine lv_irem hx hb dL_streams_2 (by decide) ?_
    refine lv_topi (fun y193 hy193 => ?_)
    replace hf := keep_e hf y193 hy193
    refine lv_istore (lv' := [(6, .int y193), (0, .ref (a 0)), (1, .int p1), (2, .int p2), (3, .int p3), (4, .int p4), (5, .ref ac)]) hx hb dL_streams_3 hl (by decide) rfl (fun ls hl => ?_)
    refine lv_iload_n hx hb dL_streams_5 rfl (lv_at hl 4 rfl) ?_
    refine lv_iconst (v := 3) hx hb dL_streams_6 (by decide) ?_
    refine lv_idiv hx hb dL_streams_7 (by decide) ?_
    refine lv_iconst (v := 4) hx hb dL_streams_8 (by decide) ?_
    refine lv_irem hx hb dL_streams_9 (by decide) ?_
    refine lv_topi (fun y194 hy194 => ?_)
    replace hf := keep_e hf y194 hy194
    refine lv_istore (lv' := [(7, .int y194), (6, .int y193), (0, .ref (a 0)), (1, .int p1), (2, .int p2), (3, .int p3), (4, .int p4), (5, .ref ac)]) hx hb dL_streams_10 hl (by decide) rfl (fun ls hl => ?_)
    refine lv_iconst (v := 4) hx hb dL_streams_12 (by decide) ?_
    refine k_newI hx hb (hg _ w45) hK 0 rfl hP hD hS hA (N' := 4) (by decide) (by decide) (by decide) (Nat.le_of_ble_eq_true rfl) (Nat.le_of_ble_eq_true rfl) dL_streams_13 (fun aw H hP hD hS => ?_)
    replace hP : va_P D vwCl (W_Q4 cI cV vf a ad ac aw x0) H := by rw [hx0]; rw [hx0] at hP; exact hP.perm (q_last _ _)
    replace hD : va_D A (W_Q4 cI cV vf a ad ac aw x0) := by rw [hx0]; rw [hx0] at hD; exact hD.perm (q_last _ _)
    refine lv_astore (lv' := [(8, .ref aw), (7, .int y194), (6, .int y193), (0, .ref (a 0)), (1, .int p1), (2, .int p2), (3, .int p3), (4, .int p4), (5, .ref ac)]) hx hb dL_streams_15 hl (by decide) rfl (fun ls hl => ?_)
    refine lv_iconst (v := 0) hx hb dL_streams_17 (by decide) ?_
    refine lv_istore (lv' := [(9, .int 0), (8, .ref aw), (7, .int y194), (6, .int y193), (0, .ref (a 0)), (1, .int p1), (2, .int p2), (3, .int p3), (4, .int p4), (5, .ref ac)]) hx hb dL_streams_18 hl (by decide) rfl (fun ls hl => ?_)
    refine lv_iconst (v := 0) hx hb dL_streams_20 (by decide) ?_
    refine lv_istore (lv' := [(10, .int 0), (9, .int 0), (8, .ref aw), (7, .int y194), (6, .int y193), (0, .ref (a 0)), (1, .int p1), (2, .int p2), (3, .int p3), (4, .int p4), (5, .ref ac)]) hx hb dL_streams_21 hl (by decide) rfl (fun ls hl => ?_)
    exact L23 aw p1 p2 p4 y193 y194 FU  x0 0 0 H locs ls hf hP hD hS (lv_sub hl [5, 6, 7, 9, 10, 4, 3, 2, 1, 0] rfl)
  exact M0 s.heap [] ls hf hP hD hS hl

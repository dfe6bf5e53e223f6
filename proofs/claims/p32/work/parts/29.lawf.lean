/-! CompactformsLaw.points(LCompactforms;II)F -/
def fL_points (k : Nat) (x : FSt) (p1 : Int32) (p2 : Int32) : Option (UInt32) := (fX7_points k x p1 p2).bind (fun u1 => thr u1 (fun k4 => none) (fun r3 => some r3))
set_option maxHeartbeats 4000000 in
set_option maxRecDepth 100000 in
theorem met_L_points {D : va_G} {cI cV cJ cD : ClassId} (l : Launch) (hlt : l.stackTraces = false) (k : Nat) (vf : Nat → Option Nat) (a : Nat → Nat) (hvf : vf k = some (a 6)) (x : FSt) (p1 : Int32) (p2 : Int32) (res : UInt32) (hf : fL_points k x p1 p2 = some res) : MXW l yL_points cL_points 4 (some .float) [(0, 6, 7, 68)] { frames := 9, cells := 0, slots := 0, locals := 165 } D (TY cI cV cJ cD) (W_F cI cV vf a x) (W_F cI cV vf a x) [.ref (a 0), .int p1, .int p2] (.inl (some (.float res))) := by
  intro sz
  refine vx_ofWH (cc := cL_points) (maxL := 4) (ret := (some .float)) (hh := [(0, 6, 7, 68)]) (by decide +kernel) rfl ?_
  intro p e s m args below meth c s₁ B hml hv
  obtain ⟨rfl, hsz, hP, hK, hD0, hE⟩ := hv
  have hx := B.exec
  have hb := B.bytes
  have hr := B.returns
  have hts := atoms_spec (ws := .codeWith yL_points cL_points 4 (some .float) [(0, 6, 7, 68)] :: GW) B.pre
  have hg : ∀ w ∈ GW, w.before (([.ref (a 0), .int p1, .int p2] : List Value).toArray) s = true := fun w h => hts w (List.mem_cons_of_mem _ h)
  have hown : s.vm.findClass RL = some m.cls := findClass_of_methodNamed B.named
  have hlocks := B.notSynchronized
  have htab : c.exceptionTable.toList = [⟨0, 6, 7, 68⟩] := vx_table (x := yL_points) B (hts _ List.mem_cons_self)
  subst hsz
  have hD := hD0.self (sz := s.heap.size)
  generalize hAe : va_A (W_F cI cV vf a x) s.heap.size = A at hD hE ⊢
  have hA : ∀ q : Nat, s.heap.size ≤ q → A q := fun q h => by rw [← hAe]; exact Or.inr h
  have hS : va_S A s.heap s.heap [] := va_S.rf
  have hl := lv_entry ([.ref (a 0), .int p1, .int p2]) (n := 4) (Nat.le_of_ble_eq_true rfl)
  rw [lg_entry_eq]
  generalize (lg_sl ([.ref (a 0), .int p1, .int p2]) ++ List.replicate (4 - (lg_sl ([.ref (a 0), .int p1, .int p2])).length) Slot.unset).toArray = ls at hl ⊢
  have hl : lv_has ls 4 [(0, .ref (a 0)), (1, .int p1), (2, .int p2)] := hl
  have M0 : ∀ (H : Heap) (locs : List Loc) (ls : Array Slot), fL_points k x p1 p2 = some res → va_P D vwCl (W_F cI cV vf a x) H → va_D A (W_F cI cV vf a x) → va_S A s.heap H locs → lv_has ls 4 [(0, .ref (a 0)), (1, .int p1), (2, .int p2)] → W p l e ({ frames := 9, cells := 0, slots := 0, locals := 165 } : Room) s m ([.ref (a 0), .int p1, .int p2] : List Value).toArray below meth c H locs 0 0 (vx_MQ below (QR D (TY cI cV cJ cD) (W_F cI cV vf a x) A (.inl (some (.float res)))) (XR D (TY cI cV cJ cD) (W_F cI cV vf a x) A (.inl (some (.float res)))) (([.ref (a 0), .int p1, .int p2] : List Value).toArray) s 0 0 A) (F0 m 0 ls []) := by
    intro H locs ls hf hP hD hS hl
    dsimp only [fL_points] at hf
    refine lv_aload_n hx hb dL_points_0 rfl (lv_at hl 0 rfl) ?_
    refine lv_iload_n hx hb dL_points_1 rfl (lv_at hl 1 rfl) ?_
    refine lv_iload_n hx hb dL_points_2 rfl (lv_at hl 2 rfl) ?_
    obtain ⟨u1, hc2, hf⟩ := bind_t hf
    rcases u1 with r3 | k4
    rotate_left
    · exact (thr_n hf).elim
    replace hf := thr_v hf rfl
    refine k_V (As := [.int p1, .int p2]) (rest := []) (n := 2) ⟨hx, hb, hml, hown, hts⟩ (met0_X7_points l k vf a hvf x p1 p2 r3 hc2) w747 w748 w749 w1 w750 ⟨rfl, by decide +kernel, by decide +kernel, by decide +kernel⟩ ⟨Nat.le_of_ble_eq_true rfl, Nat.le_of_ble_eq_true rfl⟩ hK hE hP hD hS hA (isC := [0, 1, 2, 3, 4, 5, 6, 7, 8, 9, 10, 11, 12, 13, 14, 15, 16, 17, 18, 19, 20, 21, 22, 23]) (isR := []) (isB := [0, 1, 2, 3, 4, 5, 6, 7, 8, 9, 10, 11, 12, 13, 14, 15, 16, 17, 18, 19, 20, 21, 22, 23]) (ws' := W_F cI cV vf a x) ⟨([] : List Nat).filterMap (fun i : Nat => (W_F cI cV vf a x : va_W)[i]?), rfl, rfl, rfl, rfl, by decide, rfl, rfl⟩ 0 6 rfl rfl rfl rfl hl.1 rfl (Nat.le_of_ble_eq_true rfl) dL_points_3 ⟨Nat.le_of_ble_eq_true rfl, Nat.le_of_ble_eq_true rfl⟩ (fun H locs hP hD hS => ?_)
    try dsimp only at hf
    refine W.eq (g2 := F0 m 6 ls [.float r3]) rfl ?_
    obtain rfl := Option.some.inj hf
    refine vx_ret ?_
    exact W.fret (v := r3) hx hb hr (fun t ht hW => ⟨_, rfl, ⟨rfl, by rw [ht]; exact hP, va_K.moved hW.alike hK, hD, hS.F ht⟩⟩) hS.2.2 dL_points_6 hlocks
  exact M0 s.heap [] ls hf hP hD hS hl
/-! CompactformsLaw.isKey(LCompactforms;I)Z -/
def fL_isKey_348 (k : Nat) (x : FSt) (v1 : Int32) (v2 : Int32) (v3 : Int32) : Option (FSt × Int32) := (if v2 = 2 then (fX7_formOf k x v1).bind (fun u2 => thr u2 (fun k5 => none) (fun r4 => (if r4 = 2 then some (x, 1) else (if 9 ≤ v3 then some (x, 0) else some (x, 1))))) else some (x, 1))
def fL_isKey_305 (k : Nat) (x : FSt) (v1 : Int32) (v2 : Int32) (v3 : Int32) (v4 : Int32) : Option (FSt × Int32) := (fX7_left k x v1).bind (fun u8 => thr u8 (fun k11 => none) (fun r10 => (if v4 = 0 then some (x, 0) else (if v2 = 0 then (if r10 = 0 then fL_isKey_348 k x v1 v2 v3 else some (x, 0)) else (if r10 = (-1) then fL_isKey_348 k x v1 v2 v3 else (if r10 ≤ 0 then some (x, 0) else (if 1000 < r10 then some (x, 0) else fL_isKey_348 k x v1 v2 v3)))))))
def fL_isKey_229 (rec108 : Int32 × Int32 → Option (FSt × Int32)) (k : Nat) (x : FSt) (v1 : Int32) (v2 : Int32) (v3 : Int32) (v4 : Int32) (v5 : Int32) (v6 : Int32) (v7 : Int32) : Option (FSt × Int32) := (if v5 ≤ 0 then keep (v5 + 1) (fun y19 => rec108 (v4, y19)) else (if v4 = 0 then keep (v5 + 1) (fun y21 => rec108 (v4, y21)) else (if v2 = 3 then (fX7_at k x v1 (v5 - 1)).bind (fun u24 => thr u24 (fun k27 => none) (fun r26 => (fL_points k x v1 r26).bind (fun u28 => (fL_points k x v1 v6).bind (fun u30 => (if (Op.cmpValue (FP.fcmp u28 u30) .g) < 0 then keep (v5 + 1) (fun y33 => rec108 (1, y33)) else (if (Op.cmpValue (FP.fcmp u28 u30) .l) = 0 then (if v7 = v5 then keep (v5 + 1) (fun y38 => rec108 (1, y38)) else keep (v5 + 1) (fun y37 => rec108 (0, y37))) else keep (v5 + 1) (fun y35 => rec108 (0, y35)))))))) else keep (v5 + 1) (fun y23 => rec108 (v4, y23)))))
def fL_isKey_227 (rec108 : Int32 × Int32 → Option (FSt × Int32)) (k : Nat) (x : FSt) (v1 : Int32) (v2 : Int32) (v3 : Int32) (v5 : Int32) (v6 : Int32) (v7 : Int32) (s0 : Int32) : Option (FSt × Int32) := fL_isKey_229 rec108 k x v1 v2 v3 s0 v5 v6 v7
def fL_isKey_191 (rec108 : Int32 × Int32 → Option (FSt × Int32)) (k : Nat) (x : FSt) (v1 : Int32) (v2 : Int32) (v3 : Int32) (v5 : Int32) (v6 : Int32) (v7 : Int32) (s0 : Int32) : Option (FSt × Int32) := (if v5 ≤ 0 then fL_isKey_229 rec108 k x v1 v2 v3 s0 v5 v6 v7 else (if s0 = 0 then fL_isKey_229 rec108 k x v1 v2 v3 s0 v5 v6 v7 else (if v2 = 2 then (fX7_at k x v1 (v5 - 1)).bind (fun u42 => thr u42 (fun k45 => none) (fun r44 => (if v6 ≤ r44 then fL_isKey_227 rec108 k x v1 v2 v3 v5 v6 v7 0 else fL_isKey_227 rec108 k x v1 v2 v3 v5 v6 v7 1))) else fL_isKey_229 rec108 k x v1 v2 v3 s0 v5 v6 v7)))
def fL_isKey_190 (rec108 : Int32 × Int32 → Option (FSt × Int32)) (k : Nat) (x : FSt) (v1 : Int32) (v2 : Int32) (v3 : Int32) (v5 : Int32) (v6 : Int32) (v7 : Int32) : Option (FSt × Int32) := fL_isKey_191 rec108 k x v1 v2 v3 v5 v6 v7 0
def fL_isKey_108 (k : Nat) (x : FSt) (v1 : Int32) (v2 : Int32) (v3 : Int32) (rec108 : Int32 × Int32 → Option (FSt × Int32)) (s : Int32 × Int32) : Option (FSt × Int32) := match s with | (v4, v5) => (if v3 ≤ v5 then fL_isKey_305 k x v1 v2 v3 v4 else (if v4 = 0 then fL_isKey_305 k x v1 v2 v3 v4 else (fX7_at k x v1 v5).bind (fun u49 => thr u49 (fun k52 => none) (fun r51 => (fX7_indexOf k x v1 r51).bind (fun u53 => thr u53 (fun k56 => none) (fun r55 => (if r51 < 0 then fL_isKey_190 rec108 k x v1 v2 v3 v5 r51 r55 else (if 10000 ≤ r51 then fL_isKey_190 rec108 k x v1 v2 v3 v5 r51 r55 else (fX7_atByPlain k x v1 v5).bind (fun u59 => thr u59 (fun k62 => none) (fun r61 => (if r61 = r51 then (if r55 < 0 then fL_isKey_190 rec108 k x v1 v2 v3 v5 r51 r55 else (if v5 < r55 then fL_isKey_190 rec108 k x v1 v2 v3 v5 r51 r55 else (fX7_at k x v1 r55).bind (fun u66 => thr u66 (fun k69 => none) (fun r68 => (if r68 = r51 then fL_isKey_191 rec108 k x v1 v2 v3 v5 r51 r55 1 else fL_isKey_190 rec108 k x v1 v2 v3 v5 r51 r55))))) else fL_isKey_190 rec108 k x v1 v2 v3 v5 r51 r55)))))))))))
def fL_isKey_62 (k : Nat) (x : FSt) (v1 : Int32) (v2 : Int32) (v3 : Int32) : Option (FSt × Int32) := (if 40 < v3 then iterK FU (fL_isKey_108 k x v1 v2 v3) (0, 0) else (fL_asks k x 11 v1 v3 0 0).bind (fun u72 => keep u72.1 (fun x74 => (if u72.2 = (-107) then (fL_asks k x74 11 v1 (-1) 0 0).bind (fun u76 => keep u76.1 (fun x78 => (if u76.2 = (-107) then iterK FU (fL_isKey_108 k x78 v1 v2 v3) (1, 0) else iterK FU (fL_isKey_108 k x78 v1 v2 v3) (0, 0)))) else iterK FU (fL_isKey_108 k x74 v1 v2 v3) (0, 0)))))
def fL_isKey_54 (k : Nat) (x : FSt) (v1 : Int32) (v2 : Int32) (v3 : Int32) : Option (FSt × Int32) := (if v2 = 0 then (if v3 = 0 then fL_isKey_62 k x v1 v2 v3 else iterK FU (fL_isKey_108 k x v1 v2 v3) (0, 0)) else iterK FU (fL_isKey_108 k x v1 v2 v3) (0, 0))
def fL_isKey_43 (k : Nat) (x : FSt) (v1 : Int32) (v2 : Int32) (v3 : Int32) (s0 : Int32) (s1 : Int32) : Option (FSt × Int32) := (if s1 = s0 then (if v2 ≤ 0 then fL_isKey_54 k x v1 v2 v3 else (if 0 < v3 then fL_isKey_62 k x v1 v2 v3 else fL_isKey_54 k x v1 v2 v3)) else iterK FU (fL_isKey_108 k x v1 v2 v3) (0, 0))
def fL_isKey_30 (k : Nat) (x : FSt) (v1 : Int32) (v2 : Int32) (v3 : Int32) (s0 : Int32) : Option (FSt × Int32) := (fX7_formOf k x v1).bind (fun u85 => thr u85 (fun k88 => none) (fun r87 => (if r87 = 0 then fL_isKey_43 k x v1 v2 v3 1 s0 else fL_isKey_43 k x v1 v2 v3 0 s0)))
def fL_isKey (k : Nat) (x : FSt) (p1 : Int32) : Option (FSt × Int32) := (fX7_typeOf k x p1).bind (fun u90 => thr u90 (fun k93 => none) (fun r92 => (fX7_size k x p1).bind (fun u94 => thr u94 (fun k97 => none) (fun r96 => (if r92 < 0 then iterK FU (fL_isKey_108 k x p1 r92 r96) (0, 0) else (if 4 < r92 then iterK FU (fL_isKey_108 k x p1 r92 r96) (0, 0) else (if r92 = 0 then fL_isKey_30 k x p1 r92 r96 1 else fL_isKey_30 k x p1 r92 r96 0)))))))
set_option maxHeartbeats 4000000 in
set_option maxRecDepth 100000 in
theorem met_L_isKey {D : va_G} {cI cV cJ cD : ClassId} (l : Launch) (hlt : l.stackTraces = false) (k : Nat) (vf : Nat → Option Nat) (a : Nat → Nat) (hvf : vf k = some (a 6)) (x : FSt) (p1 : Int32) (res : FSt × Int32) (hf : fL_isKey k x p1 = some res) : MM l yL_isKey cL_isKey 10 (some .boolean) { frames := 10, cells := 12, slots := 72, locals := 230 } D (TY cI cV cJ cD) (W_F cI cV vf a x) (W_F cI cV vf a res.1) [.ref (a 0), .int p1] (some (.int res.2)) := by
  intro sz
  refine Met.ofW (cc := cL_isKey) (maxL := 10) (ret := (some .boolean)) (by decide +kernel) rfl ?_
  intro p e s m args below meth c s₁ B hml hv
  obtain ⟨rfl, hsz, hP, hK, hD0, hE⟩ := hv
  have hx := B.exec
  have hb := B.bytes
  have hr := B.returns
  have hts := atoms_spec (ws := .code yL_isKey cL_isKey 10 (some .boolean) :: GW) B.pre
  have hg : ∀ w ∈ GW, w.before (([.ref (a 0), .int p1] : List Value).toArray) s = true := fun w h => hts w (List.mem_cons_of_mem _ h)
  have hown : s.vm.findClass RL = some m.cls := findClass_of_methodNamed B.named
  have hlocks := B.notSynchronized
  subst hsz
  have hD := hD0.self (sz := s.heap.size)
  generalize hAe : va_A (W_F cI cV vf a x) s.heap.size = A at hD hE ⊢
  have hA : ∀ q : Nat, s.heap.size ≤ q → A q := fun q h => by rw [← hAe]; exact Or.inr h
  have hS : va_S A s.heap s.heap [] := va_S.rf
  have hl := lv_entry ([.ref (a 0), .int p1]) (n := 10) (Nat.le_of_ble_eq_true rfl)
  rw [lg_entry_eq]
  generalize (lg_sl ([.ref (a 0), .int p1]) ++ List.replicate (10 - (lg_sl ([.ref (a 0), .int p1])).length) Slot.unset).toArray = ls at hl ⊢
  have hl : lv_has ls 10 [(0, .ref (a 0)), (1, .int p1)] := hl
  have L348 : ∀ (x : FSt) (v1 : Int32) (v2 : Int32) (v3 : Int32) (H : Heap) (locs : List Loc) (ls : Array Slot), fL_isKey_348 k x v1 v2 v3  = some res → va_P D vwCl (W_F cI cV vf a x) H → va_D A (W_F cI cV vf a x) → va_S A s.heap H locs → lv_has ls 10 [(0, .ref (a 0)), (1, .int v1), (2, .int v2), (3, .int v3)] → W p l e ({ frames := 10, cells := 12, slots := 72, locals := 230 } : Room) s m ([.ref (a 0), .int p1] : List Value).toArray below meth c H locs 12 72 (MQ below (QW D (TY cI cV cJ cD) (W_F cI cV vf a res.1) A (some (.int res.2))) (([.ref (a 0), .int p1] : List Value).toArray) s 12 72 A) (F0 m 348 ls []) := by
    intro x v1 v2 v3 H locs ls hf hP hD hS hl
    dsimp only [fL_isKey_348] at hf
    refine lv_iload_n hx hb dL_isKey_348 rfl (lv_at hl 2 rfl) ?_
    refine lv_iconst (v := 2) hx hb dL_isKey_349 (by decide) ?_
    refine lv_icmp_ne (tgt := 368) hx hb dL_isKey_350 (by decide) (fun c1 => ?_) (fun c1 => ?_)
    · replace hf := if_f c1 hf
      refine lv_iconst (v := 1) hx hb dL_isKey_368 (by decide) ?_
      refine lv_goto (tgt := 373) hx hb dL_isKey_369 (by decide) ?_
      obtain rfl := Option.some.inj hf
      exact W.zret (v := 1) hx hb hr (by decide +kernel) (fun t ht hW => ⟨rfl, by rw [ht]; exact hP, va_K.moved hW.alike hK, hD, hS.F ht⟩) hS.2.2 dL_isKey_373 hlocks
    · replace hf := if_t c1 hf
      refine lv_aload_n hx hb dL_isKey_353 rfl (lv_at hl 0 rfl) ?_
      refine lv_iload_n hx hb dL_isKey_354 rfl (lv_at hl 1 rfl) ?_
      obtain ⟨u2, hc3, hf⟩ := bind_t hf
      rcases u2 with r4 | k5
      rotate_left
      · exact (thr_n hf).elim
      replace hf := thr_v hf rfl
      refine k_V (As := [.int v1]) (rest := []) (n := 1) ⟨hx, hb, hml, hown, hts⟩ (met0_X7_formOf l k vf a hvf x v1 r4 hc3) w782 w783 w784 w1 w785 ⟨rfl, by decide +kernel, by decide +kernel, by decide +kernel⟩ ⟨Nat.le_of_ble_eq_true rfl, Nat.le_of_ble_eq_true rfl⟩ hK hE hP hD hS hA (isC := [0, 1, 2, 3, 4, 5, 6, 7, 8, 9, 10, 11, 12, 13, 14, 15, 16, 17, 18, 19, 20, 21, 22, 23]) (isR := []) (isB := [0, 1, 2, 3, 4, 5, 6, 7, 8, 9, 10, 11, 12, 13, 14, 15, 16, 17, 18, 19, 20, 21, 22, 23]) (ws' := W_F cI cV vf a x) ⟨([] : List Nat).filterMap (fun i : Nat => (W_F cI cV vf a x : va_W)[i]?), rfl, rfl, rfl, rfl, by decide, rfl, rfl⟩ 0 6 rfl rfl rfl rfl hl.1 rfl (Nat.le_of_ble_eq_true rfl) dL_isKey_355 ⟨Nat.le_of_ble_eq_true rfl, Nat.le_of_ble_eq_true rfl⟩ (fun H locs hP hD hS => ?_)
      try dsimp only at hf
      refine W.eq (g2 := F0 m 358 ls [.int r4]) rfl ?_
      refine lv_iconst (v := 2) hx hb dL_isKey_358 (by decide) ?_
      refine lv_icmp_eq (tgt := 368) hx hb dL_isKey_359 (by decide) (fun c6 => ?_) (fun c6 => ?_)
      · replace hf := if_t c6 hf
        refine lv_iconst (v := 1) hx hb dL_isKey_368 (by decide) ?_
        refine lv_goto (tgt := 373) hx hb dL_isKey_369 (by decide) ?_
        obtain rfl := Option.some.inj hf
        exact W.zret (v := 1) hx hb hr (by decide +kernel) (fun t ht hW => ⟨rfl, by rw [ht]; exact hP, va_K.moved hW.alike hK, hD, hS.F ht⟩) hS.2.2 dL_isKey_373 hlocks
      · replace hf := if_f c6 hf
        refine lv_iload_n hx hb dL_isKey_362 rfl (lv_at hl 3 rfl) ?_
        refine lv_bipush (v := 9) hx hb dL_isKey_363 (by decide) ?_
        refine lv_icmp_ge (tgt := 372) hx hb dL_isKey_365 (by decide) (fun c7 => ?_) (fun c7 => ?_)
        · replace hf := if_t c7 hf
          refine lv_iconst (v := 0) hx hb dL_isKey_372 (by decide) ?_
          obtain rfl := Option.some.inj hf
          exact W.zret (v := 0) hx hb hr (by decide +kernel) (fun t ht hW => ⟨rfl, by rw [ht]; exact hP, va_K.moved hW.alike hK, hD, hS.F ht⟩) hS.2.2 dL_isKey_373 hlocks
        · replace hf := if_f c7 hf
          refine lv_iconst (v := 1) hx hb dL_isKey_368 (by decide) ?_
          refine lv_goto (tgt := 373) hx hb dL_isKey_369 (by decide) ?_
          obtain rfl := Option.some.inj hf
          exact W.zret (v := 1) hx hb hr (by decide +kernel) (fun t ht hW => ⟨rfl, by rw [ht]; exact hP, va_K.moved hW.alike hK, hD, hS.F ht⟩) hS.2.2 dL_isKey_373 hlocks
  have L305 : ∀ (x : FSt) (v1 : Int32) (v2 : Int32) (v3 : Int32) (v4 : Int32) (H : Heap) (locs : List Loc) (ls : Array Slot), fL_isKey_305 k x v1 v2 v3 v4  = some res → va_P D vwCl (W_F cI cV vf a x) H → va_D A (W_F cI cV vf a x) → va_S A s.heap H locs → lv_has ls 10 [(0, .ref (a 0)), (1, .int v1), (2, .int v2), (3, .int v3), (4, .int v4)] → W p l e ({ frames := 10, cells := 12, slots := 72, locals := 230 } : Room) s m ([.ref (a 0), .int p1] : List Value).toArray below meth c H locs 12 72 (MQ below (QW D (TY cI cV cJ cD) (W_F cI cV vf a res.1) A (some (.int res.2))) (([.ref (a 0), .int p1] : List Value).toArray) s 12 72 A) (F0 m 305 ls []) := by
    intro x v1 v2 v3 v4 H locs ls hf hP hD hS hl
    dsimp only [fL_isKey_305] at hf
    refine lv_aload_n hx hb dL_isKey_305 rfl (lv_at hl 0 rfl) ?_
    refine lv_iload_n hx hb dL_isKey_306 rfl (lv_at hl 1 rfl) ?_
    obtain ⟨u8, hc9, hf⟩ := bind_t hf
    rcases u8 with r10 | k11
    rotate_left
    · exact (thr_n hf).elim
    replace hf := thr_v hf rfl
    refine k_V (As := [.int v1]) (rest := []) (n := 1) ⟨hx, hb, hml, hown, hts⟩ (met0_X7_left l k vf a hvf x v1 r10 hc9) w693 w694 w695 w1 w696 ⟨rfl, by decide +kernel, by decide +kernel, by decide +kernel⟩ ⟨Nat.le_of_ble_eq_true rfl, Nat.le_of_ble_eq_true rfl⟩ hK hE hP hD hS hA (isC := [0, 1, 2, 3, 4, 5, 6, 7, 8, 9, 10, 11, 12, 13, 14, 15, 16, 17, 18, 19, 20, 21, 22, 23]) (isR := []) (isB := [0, 1, 2, 3, 4, 5, 6, 7, 8, 9, 10, 11, 12, 13, 14, 15, 16, 17, 18, 19, 20, 21, 22, 23]) (ws' := W_F cI cV vf a x) ⟨([] : List Nat).filterMap (fun i : Nat => (W_F cI cV vf a x : va_W)[i]?), rfl, rfl, rfl, rfl, by decide, rfl, rfl⟩ 0 6 rfl rfl rfl rfl hl.1 rfl (Nat.le_of_ble_eq_true rfl) dL_isKey_307 ⟨Nat.le_of_ble_eq_true rfl, Nat.le_of_ble_eq_true rfl⟩ (fun H locs hP hD hS => ?_)
    try dsimp only at hf
    refine W.eq (g2 := F0 m 310 ls [.int r10]) rfl ?_
    refine lv_istore (lv' := [(5, .int r10), (0, .ref (a 0)), (1, .int v1), (2, .int v2), (3, .int v3), (4, .int v4)]) hx hb dL_isKey_310 hl (by decide) rfl (fun ls hl => ?_)
    refine lv_iload hx hb dL_isKey_312 (lv_at hl 5 rfl) ?_
    refine lv_if_eq (tgt := 372) hx hb dL_isKey_314 (by decide) (fun c12 => ?_) (fun c12 => ?_)
    · replace hf := if_t c12 hf
      refine lv_iconst (v := 0) hx hb dL_isKey_372 (by decide) ?_
      obtain rfl := Option.some.inj hf
      exact W.zret (v := 0) hx hb hr (by decide +kernel) (fun t ht hW => ⟨rfl, by rw [ht]; exact hP, va_K.moved hW.alike hK, hD, hS.F ht⟩) hS.2.2 dL_isKey_373 hlocks
    · replace hf := if_f c12 hf
      refine lv_iload_n hx hb dL_isKey_317 rfl (lv_at hl 3 rfl) ?_
      refine lv_if_ne (tgt := 329) hx hb dL_isKey_318 (by decide) (fun c13 => ?_) (fun c13 => ?_)
      · replace hf := if_f c13 hf
        refine lv_iload hx hb dL_isKey_329 (lv_at hl 0 rfl) ?_
        refine lv_iconst (v := (-1)) hx hb dL_isKey_331 (by decide) ?_
        refine lv_icmp_eq (tgt := 348) hx hb dL_isKey_332 (by decide) (fun c14 => ?_) (fun c14 => ?_)
        · replace hf := if_t c14 hf
          exact L348 x v1 v2 v3 H locs ls hf hP hD hS (lv_sub hl [1, 2, 3, 4] rfl)
        · replace hf := if_f c14 hf
          refine lv_iload hx hb dL_isKey_335 (lv_at hl 0 rfl) ?_
          refine lv_if_le (tgt := 372) hx hb dL_isKey_337 (by decide) (fun c15 => ?_) (fun c15 => ?_)
          · replace hf := if_t c15 hf
            refine lv_iconst (v := 0) hx hb dL_isKey_372 (by decide) ?_
            obtain rfl := Option.some.inj hf
            exact W.zret (v := 0) hx hb hr (by decide +kernel) (fun t ht hW => ⟨rfl, by rw [ht]; exact hP, va_K.moved hW.alike hK, hD, hS.F ht⟩) hS.2.2 dL_isKey_373 hlocks
          · replace hf := if_f c15 hf
            refine lv_iload hx hb dL_isKey_340 (lv_at hl 0 rfl) ?_
            refine lv_sipush (v := 1000) hx hb dL_isKey_342 (by decide) ?_
            refine lv_icmp_gt (tgt := 372) hx hb dL_isKey_345 (by decide) (fun c16 => ?_) (fun c16 => ?_)
            · replace hf := if_t c16 hf
              refine lv_iconst (v := 0) hx hb dL_isKey_372 (by decide) ?_
              obtain rfl := Option.some.inj hf
              exact W.zret (v := 0) hx hb hr (by decide +kernel) (fun t ht hW => ⟨rfl, by rw [ht]; exact hP, va_K.moved hW.alike hK, hD, hS.F ht⟩) hS.2.2 dL_isKey_373 hlocks
            · replace hf := if_f c16 hf
              exact L348 x v1 v2 v3 H locs ls hf hP hD hS (lv_sub hl [1, 2, 3, 4] rfl)
      · replace hf := if_t c13 hf
        refine lv_iload hx hb dL_isKey_321 (lv_at hl 0 rfl) ?_
        refine lv_if_ne (tgt := 372) hx hb dL_isKey_323 (by decide) (fun c17 => ?_) (fun c17 => ?_)
        · replace hf := if_f c17 hf
          refine lv_iconst (v := 0) hx hb dL_isKey_372 (by decide) ?_
          obtain rfl := Option.some.inj hf
          exact W.zret (v := 0) hx hb hr (by decide +kernel) (fun t ht hW => ⟨rfl, by rw [ht]; exact hP, va_K.moved hW.alike hK, hD, hS.F ht⟩) hS.2.2 dL_isKey_373 hlocks
        · replace hf := if_t c17 hf
          refine lv_goto (tgt := 348) hx hb dL_isKey_326 (by decide) ?_
          exact L348 x v1 v2 v3 H locs ls hf hP hD hS (lv_sub hl [1, 2, 3, 4] rfl)
  have L229 : ∀ (x : FSt) (v1 : Int32) (v2 : Int32) (v3 : Int32) (v4 : Int32) (v5 : Int32) (v6 : Int32) (v7 : Int32) (rec108 : Int32 × Int32 → Option (FSt × Int32)) (hrec108 : ∀ (v4 : Int32), ∀ (v5 : Int32), ∀ (H : Heap) (locs : List Loc) (ls : Array Slot), rec108 (v4, v5) = some res → va_P D vwCl (W_F cI cV vf a x) H → va_D A (W_F cI cV vf a x) → va_S A s.heap H locs → lv_has ls 10 [(0, .ref (a 0)), (1, .int v1), (2, .int v2), (3, .int v3), (4, .int v4), (5, .int v5)] → W p l e ({ frames := 10, cells := 12, slots := 72, locals := 230 } : Room) s m ([.ref (a 0), .int p1] : List Value).toArray below meth c H locs 12 72 (MQ below (QW D (TY cI cV cJ cD) (W_F cI cV vf a res.1) A (some (.int res.2))) (([.ref (a 0), .int p1] : List Value).toArray) s 12 72 A) (F0 m 108 ls [])) (H : Heap) (locs : List Loc) (ls : Array Slot), fL_isKey_229 rec108 k x v1 v2 v3 v4 v5 v6 v7  = some res → va_P D vwCl (W_F cI cV vf a x) H → va_D A (W_F cI cV vf a x) → va_S A s.heap H locs → lv_has ls 10 [(0, .ref (a 0)), (1, .int v1), (2, .int v2), (3, .int v3), (4, .int v4), (5, .int v5), (6, .int v6), (7, .int v7)] → W p l e ({ frames := 10, cells := 12, slots := 72, locals := 230 } : Room) s m ([.ref (a 0), .int p1] : List Value).toArray below meth c H locs 12 72 (MQ below (QW D (TY cI cV cJ cD) (W_F cI cV vf a res.1) A (some (.int res.2))) (([.ref (a 0), .int p1] : List Value).toArray) s 12 72 A) (F0 m 229 ls []) := by
    intro x v1 v2 v3 v4 v5 v6 v7 rec108 hrec108 H locs ls hf hP hD hS hl
    dsimp only [fL_isKey_229] at hf
    refine lv_iload hx hb dL_isKey_229 (lv_at hl 5 rfl) ?_
    refine lv_if_le (tgt := 299) hx hb dL_isKey_231 (by decide) (fun c18 => ?_) (fun c18 => ?_)
    · replace hf := if_t c18 hf
      obtain ⟨y19, hy19⟩ : ∃ z : Int32, z = (v5 + 1) := ⟨_, rfl⟩
      replace hf := keep_e hf y19 hy19
      refine lv_iinc (v := y19) (lv' := [(5, .int y19), (0, .ref (a 0)), (1, .int v1), (2, .int v2), (3, .int v3), (4, .int v4), (6, .int v6), (7, .int v7)]) hx hb dL_isKey_299 hl (k := 5) rfl (by rw [hy19]; rfl) (by decide) rfl (fun ls hl => ?_)
      refine lv_goto (tgt := 108) hx hb dL_isKey_302 (by decide) ?_
      exact hrec108 v4 y19 H locs ls hf hP hD hS (lv_sub hl [1, 2, 3, 4, 5, 0] rfl)
    · replace hf := if_f c18 hf
      refine lv_iload hx hb dL_isKey_234 (lv_at hl 4 rfl) ?_
      refine lv_if_eq (tgt := 299) hx hb dL_isKey_236 (by decide) (fun c20 => ?_) (fun c20 => ?_)
      · replace hf := if_t c20 hf
        obtain ⟨y21, hy21⟩ : ∃ z : Int32, z = (v5 + 1) := ⟨_, rfl⟩
        replace hf := keep_e hf y21 hy21
        refine lv_iinc (v := y21) (lv' := [(5, .int y21), (0, .ref (a 0)), (1, .int v1), (2, .int v2), (3, .int v3), (4, .int v4), (6, .int v6), (7, .int v7)]) hx hb dL_isKey_299 hl (k := 5) rfl (by rw [hy21]; rfl) (by decide) rfl (fun ls hl => ?_)
        refine lv_goto (tgt := 108) hx hb dL_isKey_302 (by decide) ?_
        exact hrec108 v4 y21 H locs ls hf hP hD hS (lv_sub hl [1, 2, 3, 4, 5, 0] rfl)
      · replace hf := if_f c20 hf
        refine lv_iload_n hx hb dL_isKey_239 rfl (lv_at hl 2 rfl) ?_
        refine lv_iconst (v := 3) hx hb dL_isKey_240 (by decide) ?_
        refine lv_icmp_ne (tgt := 299) hx hb dL_isKey_241 (by decide) (fun c22 => ?_) (fun c22 => ?_)
        · replace hf := if_f c22 hf
          obtain ⟨y23, hy23⟩ : ∃ z : Int32, z = (v5 + 1) := ⟨_, rfl⟩
          replace hf := keep_e hf y23 hy23
          refine lv_iinc (v := y23) (lv' := [(5, .int y23), (0, .ref (a 0)), (1, .int v1), (2, .int v2), (3, .int v3), (4, .int v4), (6, .int v6), (7, .int v7)]) hx hb dL_isKey_299 hl (k := 5) rfl (by rw [hy23]; rfl) (by decide) rfl (fun ls hl => ?_)
          refine lv_goto (tgt := 108) hx hb dL_isKey_302 (by decide) ?_
          exact hrec108 v4 y23 H locs ls hf hP hD hS (lv_sub hl [1, 2, 3, 4, 5, 0] rfl)
        · replace hf := if_t c22 hf
          refine lv_aload_n hx hb dL_isKey_244 rfl (lv_at hl 0 rfl) ?_
          refine lv_iload_n hx hb dL_isKey_245 rfl (lv_at hl 1 rfl) ?_
          refine lv_aload_n hx hb dL_isKey_246 rfl (lv_at hl 0 rfl) ?_
          refine lv_iload_n hx hb dL_isKey_247 rfl (lv_at hl 1 rfl) ?_
          refine lv_iload hx hb dL_isKey_248 (lv_at hl 5 rfl) ?_
          refine lv_iconst (v := 1) hx hb dL_isKey_250 (by decide) ?_
          refine lv_isub hx hb dL_isKey_251 ?_
          obtain ⟨u24, hc25, hf⟩ := bind_t hf
          rcases u24 with r26 | k27
          rotate_left
          · exact (thr_n hf).elim
          replace hf := thr_v hf rfl
          refine k_V (As := [.int v1, .int (v5 - 1)]) (rest := [.int v1, .ref (a 0)]) (n := 2) ⟨hx, hb, hml, hown, hts⟩ (met0_X7_at l k vf a hvf x v1 (v5 - 1) r26 hc25) w625 w626 w627 w1 w628 ⟨rfl, by decide +kernel, by decide +kernel, by decide +kernel⟩ ⟨Nat.le_of_ble_eq_true rfl, Nat.le_of_ble_eq_true rfl⟩ hK hE hP hD hS hA (isC := [0, 1, 2, 3, 4, 5, 6, 7, 8, 9, 10, 11, 12, 13, 14, 15, 16, 17, 18, 19, 20, 21, 22, 23]) (isR := []) (isB := [0, 1, 2, 3, 4, 5, 6, 7, 8, 9, 10, 11, 12, 13, 14, 15, 16, 17, 18, 19, 20, 21, 22, 23]) (ws' := W_F cI cV vf a x) ⟨([] : List Nat).filterMap (fun i : Nat => (W_F cI cV vf a x : va_W)[i]?), rfl, rfl, rfl, rfl, by decide, rfl, rfl⟩ 0 6 rfl rfl rfl rfl hl.1 rfl (Nat.le_of_ble_eq_true rfl) dL_isKey_252 ⟨Nat.le_of_ble_eq_true rfl, Nat.le_of_ble_eq_true rfl⟩ (fun H locs hP hD hS => ?_)
          try dsimp only at hf
          refine W.eq (g2 := F0 m 255 ls [.int r26, .int v1, .ref (a 0)]) rfl ?_
          obtain ⟨u28, hc29, hf⟩ := bind_t hf
          refine k_SWQ (ws' := W_F cI cV vf a x) (As := [.ref (a 0), .int v1, .int r26]) (rest := []) (n := 3) ⟨hx, hb, hml, hown, hts⟩ (met_L_points l hlt k vf a hvf x v1 r26 u28 hc29) w744 w745 w0 w746 ⟨by decide +kernel, by decide +kernel, by decide +kernel⟩ ⟨Nat.le_of_ble_eq_true rfl, Nat.le_of_ble_eq_true rfl⟩ hK hE hP hD hS hA (CutP_self _ _) rfl hl.1 rfl (Nat.le_of_ble_eq_true rfl) dL_isKey_255 ⟨Nat.le_of_ble_eq_true rfl, Nat.le_of_ble_eq_true rfl⟩ (fun H locs hP hD hS => ?_)
          try dsimp only at hf
          refine W.eq (g2 := F0 m 258 ls [.float u28]) rfl ?_
          refine lv_fstore (lv' := [(8, .float u28), (0, .ref (a 0)), (1, .int v1), (2, .int v2), (3, .int v3), (4, .int v4), (5, .int v5), (6, .int v6), (7, .int v7)]) hx hb dL_isKey_258 hl (by decide) rfl (fun ls hl => ?_)
          refine lv_aload_n hx hb dL_isKey_260 rfl (lv_at hl 1 rfl) ?_
          refine lv_iload_n hx hb dL_isKey_261 rfl (lv_at hl 2 rfl) ?_
          refine lv_iload hx hb dL_isKey_262 (lv_at hl 7 rfl) ?_
          obtain ⟨u30, hc31, hf⟩ := bind_t hf
          refine k_SWQ (ws' := W_F cI cV vf a x) (As := [.ref (a 0), .int v1, .int v6]) (rest := []) (n := 3) ⟨hx, hb, hml, hown, hts⟩ (met_L_points l hlt k vf a hvf x v1 v6 u30 hc31) w744 w745 w0 w746 ⟨by decide +kernel, by decide +kernel, by decide +kernel⟩ ⟨Nat.le_of_ble_eq_true rfl, Nat.le_of_ble_eq_true rfl⟩ hK hE hP hD hS hA (CutP_self _ _) rfl hl.1 rfl (Nat.le_of_ble_eq_true rfl) dL_isKey_264 ⟨Nat.le_of_ble_eq_true rfl, Nat.le_of_ble_eq_true rfl⟩ (fun H locs hP hD hS => ?_)
          try dsimp only at hf
          refine W.eq (g2 := F0 m 267 ls [.float u30]) rfl ?_
          refine lv_fstore (lv' := [(9, .float u30), (8, .float u28), (0, .ref (a 0)), (1, .int v1), (2, .int v2), (3, .int v3), (4, .int v4), (5, .int v5), (6, .int v6), (7, .int v7)]) hx hb dL_isKey_267 hl (by decide) rfl (fun ls hl => ?_)
          refine lv_fload hx hb dL_isKey_269 (lv_at hl 1 rfl) ?_
          refine lv_fload hx hb dL_isKey_271 (lv_at hl 0 rfl) ?_
          refine lv_fcmp hx hb dL_isKey_273 ?_
          refine lv_if_lt (tgt := 292) hx hb dL_isKey_274 (by decide) (fun c32 => ?_) (fun c32 => ?_)
          · replace hf := if_t c32 hf
            refine lv_iconst (v := 1) hx hb dL_isKey_292 (by decide) ?_
            refine lv_goto (tgt := 297) hx hb dL_isKey_293 (by decide) ?_
            refine lv_istore (lv' := [(4, .int 1), (9, .float u30), (8, .float u28), (0, .ref (a 0)), (1, .int v1), (2, .int v2), (3, .int v3), (5, .int v5), (6, .int v6), (7, .int v7)]) hx hb dL_isKey_297 hl (by decide) rfl (fun ls hl => ?_)
            obtain ⟨y33, hy33⟩ : ∃ z : Int32, z = (v5 + 1) := ⟨_, rfl⟩
            replace hf := keep_e hf y33 hy33
            refine lv_iinc (v := y33) (lv' := [(5, .int y33), (4, .int 1), (9, .float u30), (8, .float u28), (0, .ref (a 0)), (1, .int v1), (2, .int v2), (3, .int v3), (6, .int v6), (7, .int v7)]) hx hb dL_isKey_299 hl (k := 7) rfl (by rw [hy33]; rfl) (by decide) rfl (fun ls hl => ?_)
            refine lv_goto (tgt := 108) hx hb dL_isKey_302 (by decide) ?_
            exact hrec108 1 y33 H locs ls hf hP hD hS (lv_sub hl [4, 5, 6, 7, 1, 0] rfl)
          · replace hf := if_f c32 hf
            refine lv_fload hx hb dL_isKey_277 (lv_at hl 1 rfl) ?_
            refine lv_fload hx hb dL_isKey_279 (lv_at hl 0 rfl) ?_
            refine lv_fcmp hx hb dL_isKey_281 ?_
            refine lv_if_ne (tgt := 296) hx hb dL_isKey_282 (by decide) (fun c34 => ?_) (fun c34 => ?_)
            · replace hf := if_f c34 hf
              refine lv_iconst (v := 0) hx hb dL_isKey_296 (by decide) ?_
              refine lv_istore (lv' := [(4, .int 0), (9, .float u30), (8, .float u28), (0, .ref (a 0)), (1, .int v1), (2, .int v2), (3, .int v3), (5, .int v5), (6, .int v6), (7, .int v7)]) hx hb dL_isKey_297 hl (by decide) rfl (fun ls hl => ?_)
              obtain ⟨y35, hy35⟩ : ∃ z : Int32, z = (v5 + 1) := ⟨_, rfl⟩
              replace hf := keep_e hf y35 hy35
              refine lv_iinc (v := y35) (lv' := [(5, .int y35), (4, .int 0), (9, .float u30), (8, .float u28), (0, .ref (a 0)), (1, .int v1), (2, .int v2), (3, .int v3), (6, .int v6), (7, .int v7)]) hx hb dL_isKey_299 hl (k := 7) rfl (by rw [hy35]; rfl) (by decide) rfl (fun ls hl => ?_)
              refine lv_goto (tgt := 108) hx hb dL_isKey_302 (by decide) ?_
              exact hrec108 0 y35 H locs ls hf hP hD hS (lv_sub hl [4, 5, 6, 7, 1, 0] rfl)
            · replace hf := if_t c34 hf
              refine lv_iload hx hb dL_isKey_285 (lv_at hl 9 rfl) ?_
              refine lv_iload hx hb dL_isKey_287 (lv_at hl 7 rfl) ?_
              refine lv_icmp_ne (tgt := 296) hx hb dL_isKey_289 (by decide) (fun c36 => ?_) (fun c36 => ?_)
              · replace hf := if_f c36 hf
                refine lv_iconst (v := 0) hx hb dL_isKey_296 (by decide) ?_
                refine lv_istore (lv' := [(4, .int 0), (9, .float u30), (8, .float u28), (0, .ref (a 0)), (1, .int v1), (2, .int v2), (3, .int v3), (5, .int v5), (6, .int v6), (7, .int v7)]) hx hb dL_isKey_297 hl (by decide) rfl (fun ls hl => ?_)
                obtain ⟨y37, hy37⟩ : ∃ z : Int32, z = (v5 + 1) := ⟨_, rfl⟩
                replace hf := keep_e hf y37 hy37
                refine lv_iinc (v := y37) (lv' := [(5, .int y37), (4, .int 0), (9, .float u30), (8, .float u28), (0, .ref (a 0)), (1, .int v1), (2, .int v2), (3, .int v3), (6, .int v6), (7, .int v7)]) hx hb dL_isKey_299 hl (k := 7) rfl (by rw [hy37]; rfl) (by decide) rfl (fun ls hl => ?_)
                refine lv_goto (tgt := 108) hx hb dL_isKey_302 (by decide) ?_
                exact hrec108 0 y37 H locs ls hf hP hD hS (lv_sub hl [4, 5, 6, 7, 1, 0] rfl)
              · replace hf := if_t c36 hf
                refine lv_iconst (v := 1) hx hb dL_isKey_292 (by decide) ?_
                refine lv_goto (tgt := 297) hx hb dL_isKey_293 (by decide) ?_
                refine lv_istore (lv' := [(4, .int 1), (9, .float u30), (8, .float u28), (0, .ref (a 0)), (1, .int v1), (2, .int v2), (3, .int v3), (5, .int v5), (6, .int v6), (7, .int v7)]) hx hb dL_isKey_297 hl (by decide) rfl (fun ls hl => ?_)
                obtain ⟨y38, hy38⟩ : ∃ z : Int32, z = (v5 + 1) := ⟨_, rfl⟩
                replace hf := keep_e hf y38 hy38
                refine lv_iinc (v := y38) (lv' := [(5, .int y38), (4, .int 1), (9, .float u30), (8, .float u28), (0, .ref (a 0)), (1, .int v1), (2, .int v2), (3, .int v3), (6, .int v6), (7, .int v7)]) hx hb dL_isKey_299 hl (k := 7) rfl (by rw [hy38]; rfl) (by decide) rfl (fun ls hl => ?_)
                refine lv_goto (tgt := 108) hx hb dL_isKey_302 (by decide) ?_
                exact hrec108 1 y38 H locs ls hf hP hD hS (lv_sub hl [4, 5, 6, 7, 1, 0] rfl)
  have L227 : ∀ (x : FSt) (v1 : Int32) (v2 : Int32) (v3 : Int32) (v5 : Int32) (v6 : Int32) (v7 : Int32) (s0 : Int32) (rec108 : Int32 × Int32 → Option (FSt × Int32)) (hrec108 : ∀ (v4 : Int32), ∀ (v5 : Int32), ∀ (H : Heap) (locs : List Loc) (ls : Array Slot), rec108 (v4, v5) = some res → va_P D vwCl (W_F cI cV vf a x) H → va_D A (W_F cI cV vf a x) → va_S A s.heap H locs → lv_has ls 10 [(0, .ref (a 0)), (1, .int v1), (2, .int v2), (3, .int v3), (4, .int v4), (5, .int v5)] → W p l e ({ frames := 10, cells := 12, slots := 72, locals := 230 } : Room) s m ([.ref (a 0), .int p1] : List Value).toArray below meth c H locs 12 72 (MQ below (QW D (TY cI cV cJ cD) (W_F cI cV vf a res.1) A (some (.int res.2))) (([.ref (a 0), .int p1] : List Value).toArray) s 12 72 A) (F0 m 108 ls [])) (H : Heap) (locs : List Loc) (ls : Array Slot), fL_isKey_227 rec108 k x v1 v2 v3 v5 v6 v7 s0  = some res → va_P D vwCl (W_F cI cV vf a x) H → va_D A (W_F cI cV vf a x) → va_S A s.heap H locs → lv_has ls 10 [(0, .ref (a 0)), (1, .int v1), (2, .int v2), (3, .int v3), (5, .int v5), (6, .int v6), (7, .int v7)] → W p l e ({ frames := 10, cells := 12, slots := 72, locals := 230 } : Room) s m ([.ref (a 0), .int p1] : List Value).toArray below meth c H locs 12 72 (MQ below (QW D (TY cI cV cJ cD) (W_F cI cV vf a res.1) A (some (.int res.2))) (([.ref (a 0), .int p1] : List Value).toArray) s 12 72 A) (F0 m 227 ls [.int s0]) := by
    intro x v1 v2 v3 v5 v6 v7 s0 rec108 hrec108 H locs ls hf hP hD hS hl
    dsimp only [fL_isKey_227] at hf
    refine lv_istore (lv' := [(4, .int s0), (0, .ref (a 0)), (1, .int v1), (2, .int v2), (3, .int v3), (5, .int v5), (6, .int v6), (7, .int v7)]) hx hb dL_isKey_227 hl (by decide) rfl (fun ls hl => ?_)
    exact L229 x v1 v2 v3 s0 v5 v6 v7 rec108 hrec108 H locs ls hf hP hD hS (lv_sub hl [1, 2, 3, 4, 0, 5, 6, 7] rfl)
  have L191 : ∀ (x : FSt) (v1 : Int32) (v2 : Int32) (v3 : Int32) (v5 : Int32) (v6 : Int32) (v7 : Int32) (s0 : Int32) (rec108 : Int32 × Int32 → Option (FSt × Int32)) (hrec108 : ∀ (v4 : Int32), ∀ (v5 : Int32), ∀ (H : Heap) (locs : List Loc) (ls : Array Slot), rec108 (v4, v5) = some res → va_P D vwCl (W_F cI cV vf a x) H → va_D A (W_F cI cV vf a x) → va_S A s.heap H locs → lv_has ls 10 [(0, .ref (a 0)), (1, .int v1), (2, .int v2), (3, .int v3), (4, .int v4), (5, .int v5)] → W p l e ({ frames := 10, cells := 12, slots := 72, locals := 230 } : Room) s m ([.ref (a 0), .int p1] : List Value).toArray below meth c H locs 12 72 (MQ below (QW D (TY cI cV cJ cD) (W_F cI cV vf a res.1) A (some (.int res.2))) (([.ref (a 0), .int p1] : List Value).toArray) s 12 72 A) (F0 m 108 ls [])) (H : Heap) (locs : List Loc) (ls : Array Slot), fL_isKey_191 rec108 k x v1 v2 v3 v5 v6 v7 s0  = some res → va_P D vwCl (W_F cI cV vf a x) H → va_D A (W_F cI cV vf a x) → va_S A s.heap H locs → lv_has ls 10 [(0, .ref (a 0)), (1, .int v1), (2, .int v2), (3, .int v3), (5, .int v5), (6, .int v6), (7, .int v7)] → W p l e ({ frames := 10, cells := 12, slots := 72, locals := 230 } : Room) s m ([.ref (a 0), .int p1] : List Value).toArray below meth c H locs 12 72 (MQ below (QW D (TY cI cV cJ cD) (W_F cI cV vf a res.1) A (some (.int res.2))) (([.ref (a 0), .int p1] : List Value).toArray) s 12 72 A) (F0 m 191 ls [.int s0]) := by
    intro x v1 v2 v3 v5 v6 v7 s0 rec108 hrec108 H locs ls hf hP hD hS hl
    dsimp only [fL_isKey_191] at hf
    refine lv_istore (lv' := [(4, .int s0), (0, .ref (a 0)), (1, .int v1), (2, .int v2), (3, .int v3), (5, .int v5), (6, .int v6), (7, .int v7)]) hx hb dL_isKey_191 hl (by decide) rfl (fun ls hl => ?_)
    refine lv_iload hx hb dL_isKey_193 (lv_at hl 5 rfl) ?_
    refine lv_if_le (tgt := 229) hx hb dL_isKey_195 (by decide) (fun c39 => ?_) (fun c39 => ?_)
    · replace hf := if_t c39 hf
      exact L229 x v1 v2 v3 s0 v5 v6 v7 rec108 hrec108 H locs ls hf hP hD hS (lv_sub hl [1, 2, 3, 4, 0, 5, 6, 7] rfl)
    · replace hf := if_f c39 hf
      refine lv_iload hx hb dL_isKey_198 (lv_at hl 0 rfl) ?_
      refine lv_if_eq (tgt := 229) hx hb dL_isKey_200 (by decide) (fun c40 => ?_) (fun c40 => ?_)
      · replace hf := if_t c40 hf
        exact L229 x v1 v2 v3 s0 v5 v6 v7 rec108 hrec108 H locs ls hf hP hD hS (lv_sub hl [1, 2, 3, 4, 0, 5, 6, 7] rfl)
      · replace hf := if_f c40 hf
        refine lv_iload_n hx hb dL_isKey_203 rfl (lv_at hl 3 rfl) ?_
        refine lv_iconst (v := 2) hx hb dL_isKey_204 (by decide) ?_
        refine lv_icmp_ne (tgt := 229) hx hb dL_isKey_205 (by decide) (fun c41 => ?_) (fun c41 => ?_)
        · replace hf := if_f c41 hf
          exact L229 x v1 v2 v3 s0 v5 v6 v7 rec108 hrec108 H locs ls hf hP hD hS (lv_sub hl [1, 2, 3, 4, 0, 5, 6, 7] rfl)
        · replace hf := if_t c41 hf
          refine lv_aload_n hx hb dL_isKey_208 rfl (lv_at hl 1 rfl) ?_
          refine lv_iload_n hx hb dL_isKey_209 rfl (lv_at hl 2 rfl) ?_
          refine lv_iload hx hb dL_isKey_210 (lv_at hl 5 rfl) ?_
          refine lv_iconst (v := 1) hx hb dL_isKey_212 (by decide) ?_
          refine lv_isub hx hb dL_isKey_213 ?_
          obtain ⟨u42, hc43, hf⟩ := bind_t hf
          rcases u42 with r44 | k45
          rotate_left
          · exact (thr_n hf).elim
          replace hf := thr_v hf rfl
          refine k_V (As := [.int v1, .int (v5 - 1)]) (rest := []) (n := 2) ⟨hx, hb, hml, hown, hts⟩ (met0_X7_at l k vf a hvf x v1 (v5 - 1) r44 hc43) w625 w626 w627 w1 w628 ⟨rfl, by decide +kernel, by decide +kernel, by decide +kernel⟩ ⟨Nat.le_of_ble_eq_true rfl, Nat.le_of_ble_eq_true rfl⟩ hK hE hP hD hS hA (isC := [0, 1, 2, 3, 4, 5, 6, 7, 8, 9, 10, 11, 12, 13, 14, 15, 16, 17, 18, 19, 20, 21, 22, 23]) (isR := []) (isB := [0, 1, 2, 3, 4, 5, 6, 7, 8, 9, 10, 11, 12, 13, 14, 15, 16, 17, 18, 19, 20, 21, 22, 23]) (ws' := W_F cI cV vf a x) ⟨([] : List Nat).filterMap (fun i : Nat => (W_F cI cV vf a x : va_W)[i]?), rfl, rfl, rfl, rfl, by decide, rfl, rfl⟩ 0 6 rfl rfl rfl rfl hl.1 rfl (Nat.le_of_ble_eq_true rfl) dL_isKey_214 ⟨Nat.le_of_ble_eq_true rfl, Nat.le_of_ble_eq_true rfl⟩ (fun H locs hP hD hS => ?_)
          try dsimp only at hf
          refine W.eq (g2 := F0 m 217 ls [.int r44]) rfl ?_
          refine lv_iload hx hb dL_isKey_217 (lv_at hl 6 rfl) ?_
          refine lv_icmp_ge (tgt := 226) hx hb dL_isKey_219 (by decide) (fun c46 => ?_) (fun c46 => ?_)
          · replace hf := if_t c46 hf
            refine lv_iconst (v := 0) hx hb dL_isKey_226 (by decide) ?_
            exact L227 x v1 v2 v3 v5 v6 v7 0 rec108 hrec108 H locs ls hf hP hD hS (lv_sub hl [1, 2, 3, 4, 5, 6, 7] rfl)
          · replace hf := if_f c46 hf
            refine lv_iconst (v := 1) hx hb dL_isKey_222 (by decide) ?_
            refine lv_goto (tgt := 227) hx hb dL_isKey_223 (by decide) ?_
            exact L227 x v1 v2 v3 v5 v6 v7 1 rec108 hrec108 H locs ls hf hP hD hS (lv_sub hl [1, 2, 3, 4, 5, 6, 7] rfl)
  have L190 : ∀ (x : FSt) (v1 : Int32) (v2 : Int32) (v3 : Int32) (v5 : Int32) (v6 : Int32) (v7 : Int32) (rec108 : Int32 × Int32 → Option (FSt × Int32)) (hrec108 : ∀ (v4 : Int32), ∀ (v5 : Int32), ∀ (H : Heap) (locs : List Loc) (ls : Array Slot), rec108 (v4, v5) = some res → va_P D vwCl (W_F cI cV vf a x) H → va_D A (W_F cI cV vf a x) → va_S A s.heap H locs → lv_has ls 10 [(0, .ref (a 0)), (1, .int v1), (2, .int v2), (3, .int v3), (4, .int v4), (5, .int v5)] → W p l e ({ frames := 10, cells := 12, slots := 72, locals := 230 } : Room) s m ([.ref (a 0), .int p1] : List Value).toArray below meth c H locs 12 72 (MQ below (QW D (TY cI cV cJ cD) (W_F cI cV vf a res.1) A (some (.int res.2))) (([.ref (a 0), .int p1] : List Value).toArray) s 12 72 A) (F0 m 108 ls [])) (H : Heap) (locs : List Loc) (ls : Array Slot), fL_isKey_190 rec108 k x v1 v2 v3 v5 v6 v7  = some res → va_P D vwCl (W_F cI cV vf a x) H → va_D A (W_F cI cV vf a x) → va_S A s.heap H locs → lv_has ls 10 [(0, .ref (a 0)), (1, .int v1), (2, .int v2), (3, .int v3), (5, .int v5), (6, .int v6), (7, .int v7)] → W p l e ({ frames := 10, cells := 12, slots := 72, locals := 230 } : Room) s m ([.ref (a 0), .int p1] : List Value).toArray below meth c H locs 12 72 (MQ below (QW D (TY cI cV cJ cD) (W_F cI cV vf a res.1) A (some (.int res.2))) (([.ref (a 0), .int p1] : List Value).toArray) s 12 72 A) (F0 m 190 ls []) := by
    intro x v1 v2 v3 v5 v6 v7 rec108 hrec108 H locs ls hf hP hD hS hl
    dsimp only [fL_isKey_190] at hf
    refine lv_iconst (v := 0) hx hb dL_isKey_190 (by decide) ?_
    exact L191 x v1 v2 v3 v5 v6 v7 0 rec108 hrec108 H locs ls hf hP hD hS (lv_sub hl [0, 1, 2, 3, 4, 5, 6] rfl)
  have S108 : ∀ (x : FSt) (v1 : Int32) (v2 : Int32) (v3 : Int32) (rec108 : Int32 × Int32 → Option (FSt × Int32)) (hrec108 : ∀ (v4 : Int32), ∀ (v5 : Int32), ∀ (H : Heap) (locs : List Loc) (ls : Array Slot), rec108 (v4, v5) = some res → va_P D vwCl (W_F cI cV vf a x) H → va_D A (W_F cI cV vf a x) → va_S A s.heap H locs → lv_has ls 10 [(0, .ref (a 0)), (1, .int v1), (2, .int v2), (3, .int v3), (4, .int v4), (5, .int v5)] → W p l e ({ frames := 10, cells := 12, slots := 72, locals := 230 } : Room) s m ([.ref (a 0), .int p1] : List Value).toArray below meth c H locs 12 72 (MQ below (QW D (TY cI cV cJ cD) (W_F cI cV vf a res.1) A (some (.int res.2))) (([.ref (a 0), .int p1] : List Value).toArray) s 12 72 A) (F0 m 108 ls [])) (v4 : Int32) (v5 : Int32) (H : Heap) (locs : List Loc) (ls : Array Slot), fL_isKey_108 k x v1 v2 v3  rec108 (v4, v5) = some res → va_P D vwCl (W_F cI cV vf a x) H → va_D A (W_F cI cV vf a x) → va_S A s.heap H locs → lv_has ls 10 [(0, .ref (a 0)), (1, .int v1), (2, .int v2), (3, .int v3), (4, .int v4), (5, .int v5)] → W p l e ({ frames := 10, cells := 12, slots := 72, locals := 230 } : Room) s m ([.ref (a 0), .int p1] : List Value).toArray below meth c H locs 12 72 (MQ below (QW D (TY cI cV cJ cD) (W_F cI cV vf a res.1) A (some (.int res.2))) (([.ref (a 0), .int p1] : List Value).toArray) s 12 72 A) (F0 m 108 ls []) := by
    intro x v1 v2 v3 rec108 hrec108 v4 v5 H locs ls hf hP hD hS hl
    dsimp only [fL_isKey_108] at hf
    refine lv_iload hx hb dL_isKey_108 (lv_at hl 5 rfl) ?_
    refine lv_iload_n hx hb dL_isKey_110 rfl (lv_at hl 3 rfl) ?_
    refine lv_icmp_ge (tgt := 305) hx hb dL_isKey_111 (by decide) (fun c47 => ?_) (fun c47 => ?_)
    · replace hf := if_t c47 hf
      exact L305 x v1 v2 v3 v4 H locs ls hf hP hD hS (lv_sub hl [0, 1, 2, 3, 4] rfl)
    · replace hf := if_f c47 hf
      refine lv_iload hx hb dL_isKey_114 (lv_at hl 4 rfl) ?_
      refine lv_if_eq (tgt := 305) hx hb dL_isKey_116 (by decide) (fun c48 => ?_) (fun c48 => ?_)
      · replace hf := if_t c48 hf
        exact L305 x v1 v2 v3 v4 H locs ls hf hP hD hS (lv_sub hl [0, 1, 2, 3, 4] rfl)
      · replace hf := if_f c48 hf
        refine lv_aload_n hx hb dL_isKey_119 rfl (lv_at hl 0 rfl) ?_
        refine lv_iload_n hx hb dL_isKey_120 rfl (lv_at hl 1 rfl) ?_
        refine lv_iload hx hb dL_isKey_121 (lv_at hl 5 rfl) ?_
        obtain ⟨u49, hc50, hf⟩ := bind_t hf
        rcases u49 with r51 | k52
        rotate_left
        · exact (thr_n hf).elim
        replace hf := thr_v hf rfl
        refine k_V (As := [.int v1, .int v5]) (rest := []) (n := 2) ⟨hx, hb, hml, hown, hts⟩ (met0_X7_at l k vf a hvf x v1 v5 r51 hc50) w625 w626 w627 w1 w628 ⟨rfl, by decide +kernel, by decide +kernel, by decide +kernel⟩ ⟨Nat.le_of_ble_eq_true rfl, Nat.le_of_ble_eq_true rfl⟩ hK hE hP hD hS hA (isC := [0, 1, 2, 3, 4, 5, 6, 7, 8, 9, 10, 11, 12, 13, 14, 15, 16, 17, 18, 19, 20, 21, 22, 23]) (isR := []) (isB := [0, 1, 2, 3, 4, 5, 6, 7, 8, 9, 10, 11, 12, 13, 14, 15, 16, 17, 18, 19, 20, 21, 22, 23]) (ws' := W_F cI cV vf a x) ⟨([] : List Nat).filterMap (fun i : Nat => (W_F cI cV vf a x : va_W)[i]?), rfl, rfl, rfl, rfl, by decide, rfl, rfl⟩ 0 6 rfl rfl rfl rfl hl.1 rfl (Nat.le_of_ble_eq_true rfl) dL_isKey_123 ⟨Nat.le_of_ble_eq_true rfl, Nat.le_of_ble_eq_true rfl⟩ (fun H locs hP hD hS => ?_)
        try dsimp only at hf
        refine W.eq (g2 := F0 m 126 ls [.int r51]) rfl ?_
        refine lv_istore (lv' := [(6, .int r51), (0, .ref (a 0)), (1, .int v1), (2, .int v2), (3, .int v3), (4, .int v4), (5, .int v5)]) hx hb dL_isKey_126 hl (by decide) rfl (fun ls hl => ?_)
        refine lv_aload_n hx hb dL_isKey_128 rfl (lv_at hl 1 rfl) ?_
        refine lv_iload_n hx hb dL_isKey_129 rfl (lv_at hl 2 rfl) ?_
        refine lv_iload hx hb dL_isKey_130 (lv_at hl 0 rfl) ?_
        obtain ⟨u53, hc54, hf⟩ := bind_t hf
        rcases u53 with r55 | k56
        rotate_left
        · exact (thr_n hf).elim
        replace hf := thr_v hf rfl
        refine k_V (As := [.int v1, .int r51]) (rest := []) (n := 2) ⟨hx, hb, hml, hown, hts⟩ (met0_X7_indexOf l k vf a hvf x v1 r51 r55 hc54) w310 w311 w312 w1 w313 ⟨rfl, by decide +kernel, by decide +kernel, by decide +kernel⟩ ⟨Nat.le_of_ble_eq_true rfl, Nat.le_of_ble_eq_true rfl⟩ hK hE hP hD hS hA (isC := [0, 1, 2, 3, 4, 5, 6, 7, 8, 9, 10, 11, 12, 13, 14, 15, 16, 17, 18, 19, 20, 21, 22, 23]) (isR := []) (isB := [0, 1, 2, 3, 4, 5, 6, 7, 8, 9, 10, 11, 12, 13, 14, 15, 16, 17, 18, 19, 20, 21, 22, 23]) (ws' := W_F cI cV vf a x) ⟨([] : List Nat).filterMap (fun i : Nat => (W_F cI cV vf a x : va_W)[i]?), rfl, rfl, rfl, rfl, by decide, rfl, rfl⟩ 0 6 rfl rfl rfl rfl hl.1 rfl (Nat.le_of_ble_eq_true rfl) dL_isKey_132 ⟨Nat.le_of_ble_eq_true rfl, Nat.le_of_ble_eq_true rfl⟩ (fun H locs hP hD hS => ?_)
        try dsimp only at hf
        refine W.eq (g2 := F0 m 135 ls [.int r55]) rfl ?_
        refine lv_istore (lv' := [(7, .int r55), (6, .int r51), (0, .ref (a 0)), (1, .int v1), (2, .int v2), (3, .int v3), (4, .int v4), (5, .int v5)]) hx hb dL_isKey_135 hl (by decide) rfl (fun ls hl => ?_)
        refine lv_iload hx hb dL_isKey_137 (lv_at hl 1 rfl) ?_
        refine lv_if_lt (tgt := 190) hx hb dL_isKey_139 (by decide) (fun c57 => ?_) (fun c57 => ?_)
        · replace hf := if_t c57 hf
          exact L190 x v1 v2 v3 v5 r51 r55 rec108 hrec108 H locs ls hf hP hD hS (lv_sub hl [2, 3, 4, 5, 7, 1, 0] rfl)
        · replace hf := if_f c57 hf
          refine lv_iload hx hb dL_isKey_142 (lv_at hl 1 rfl) ?_
          refine lv_sipush (v := 10000) hx hb dL_isKey_144 (by decide) ?_
          refine lv_icmp_ge (tgt := 190) hx hb dL_isKey_147 (by decide) (fun c58 => ?_) (fun c58 => ?_)
          · replace hf := if_t c58 hf
            exact L190 x v1 v2 v3 v5 r51 r55 rec108 hrec108 H locs ls hf hP hD hS (lv_sub hl [2, 3, 4, 5, 7, 1, 0] rfl)
          · replace hf := if_f c58 hf
            refine lv_aload_n hx hb dL_isKey_150 rfl (lv_at hl 2 rfl) ?_
            refine lv_iload_n hx hb dL_isKey_151 rfl (lv_at hl 3 rfl) ?_
            refine lv_iload hx hb dL_isKey_152 (lv_at hl 7 rfl) ?_
            obtain ⟨u59, hc60, hf⟩ := bind_t hf
            rcases u59 with r61 | k62
            rotate_left
            · exact (thr_n hf).elim
            replace hf := thr_v hf rfl
            refine k_V (As := [.int v1, .int v5]) (rest := []) (n := 2) ⟨hx, hb, hml, hown, hts⟩ (met0_X7_atByPlain l k vf a hvf x v1 v5 r61 hc60) w786 w787 w788 w1 w789 ⟨rfl, by decide +kernel, by decide +kernel, by decide +kernel⟩ ⟨Nat.le_of_ble_eq_true rfl, Nat.le_of_ble_eq_true rfl⟩ hK hE hP hD hS hA (isC := [0, 1, 2, 3, 4, 5, 6, 7, 8, 9, 10, 11, 12, 13, 14, 15, 16, 17, 18, 19, 20, 21, 22, 23]) (isR := []) (isB := [0, 1, 2, 3, 4, 5, 6, 7, 8, 9, 10, 11, 12, 13, 14, 15, 16, 17, 18, 19, 20, 21, 22, 23]) (ws' := W_F cI cV vf a x) ⟨([] : List Nat).filterMap (fun i : Nat => (W_F cI cV vf a x : va_W)[i]?), rfl, rfl, rfl, rfl, by decide, rfl, rfl⟩ 0 6 rfl rfl rfl rfl hl.1 rfl (Nat.le_of_ble_eq_true rfl) dL_isKey_154 ⟨Nat.le_of_ble_eq_true rfl, Nat.le_of_ble_eq_true rfl⟩ (fun H locs hP hD hS => ?_)
            try dsimp only at hf
            refine W.eq (g2 := F0 m 157 ls [.int r61]) rfl ?_
            refine lv_iload hx hb dL_isKey_157 (lv_at hl 1 rfl) ?_
            refine lv_icmp_ne (tgt := 190) hx hb dL_isKey_159 (by decide) (fun c63 => ?_) (fun c63 => ?_)
            · replace hf := if_f c63 hf
              exact L190 x v1 v2 v3 v5 r51 r55 rec108 hrec108 H locs ls hf hP hD hS (lv_sub hl [2, 3, 4, 5, 7, 1, 0] rfl)
            · replace hf := if_t c63 hf
              refine lv_iload hx hb dL_isKey_162 (lv_at hl 0 rfl) ?_
              refine lv_if_lt (tgt := 190) hx hb dL_isKey_164 (by decide) (fun c64 => ?_) (fun c64 => ?_)
              · replace hf := if_t c64 hf
                exact L190 x v1 v2 v3 v5 r51 r55 rec108 hrec108 H locs ls hf hP hD hS (lv_sub hl [2, 3, 4, 5, 7, 1, 0] rfl)
              · replace hf := if_f c64 hf
                refine lv_iload hx hb dL_isKey_167 (lv_at hl 0 rfl) ?_
                refine lv_iload hx hb dL_isKey_169 (lv_at hl 7 rfl) ?_
                refine lv_icmp_gt (tgt := 190) hx hb dL_isKey_171 (by decide) (fun c65 => ?_) (fun c65 => ?_)
                · replace hf := if_t c65 hf
                  exact L190 x v1 v2 v3 v5 r51 r55 rec108 hrec108 H locs ls hf hP hD hS (lv_sub hl [2, 3, 4, 5, 7, 1, 0] rfl)
                · replace hf := if_f c65 hf
                  refine lv_aload_n hx hb dL_isKey_174 rfl (lv_at hl 2 rfl) ?_
                  refine lv_iload_n hx hb dL_isKey_175 rfl (lv_at hl 3 rfl) ?_
                  refine lv_iload hx hb dL_isKey_176 (lv_at hl 0 rfl) ?_
                  obtain ⟨u66, hc67, hf⟩ := bind_t hf
                  rcases u66 with r68 | k69
                  rotate_left
                  · exact (thr_n hf).elim
                  replace hf := thr_v hf rfl
                  refine k_V (As := [.int v1, .int r55]) (rest := []) (n := 2) ⟨hx, hb, hml, hown, hts⟩ (met0_X7_at l k vf a hvf x v1 r55 r68 hc67) w625 w626 w627 w1 w628 ⟨rfl, by decide +kernel, by decide +kernel, by decide +kernel⟩ ⟨Nat.le_of_ble_eq_true rfl, Nat.le_of_ble_eq_true rfl⟩ hK hE hP hD hS hA (isC := [0, 1, 2, 3, 4, 5, 6, 7, 8, 9, 10, 11, 12, 13, 14, 15, 16, 17, 18, 19, 20, 21, 22, 23]) (isR := []) (isB := [0, 1, 2, 3, 4, 5, 6, 7, 8, 9, 10, 11, 12, 13, 14, 15, 16, 17, 18, 19, 20, 21, 22, 23]) (ws' := W_F cI cV vf a x) ⟨([] : List Nat).filterMap (fun i : Nat => (W_F cI cV vf a x : va_W)[i]?), rfl, rfl, rfl, rfl, by decide, rfl, rfl⟩ 0 6 rfl rfl rfl rfl hl.1 rfl (Nat.le_of_ble_eq_true rfl) dL_isKey_178 ⟨Nat.le_of_ble_eq_true rfl, Nat.le_of_ble_eq_true rfl⟩ (fun H locs hP hD hS => ?_)
                  try dsimp only at hf
                  refine W.eq (g2 := F0 m 181 ls [.int r68]) rfl ?_
                  refine lv_iload hx hb dL_isKey_181 (lv_at hl 1 rfl) ?_
                  refine lv_icmp_ne (tgt := 190) hx hb dL_isKey_183 (by decide) (fun c70 => ?_) (fun c70 => ?_)
                  · replace hf := if_f c70 hf
                    exact L190 x v1 v2 v3 v5 r51 r55 rec108 hrec108 H locs ls hf hP hD hS (lv_sub hl [2, 3, 4, 5, 7, 1, 0] rfl)
                  · replace hf := if_t c70 hf
                    refine lv_iconst (v := 1) hx hb dL_isKey_186 (by decide) ?_
                    refine lv_goto (tgt := 191) hx hb dL_isKey_187 (by decide) ?_
                    exact L191 x v1 v2 v3 v5 r51 r55 1 rec108 hrec108 H locs ls hf hP hD hS (lv_sub hl [2, 3, 4, 5, 7, 1, 0] rfl)
  have L108 : ∀ (x : FSt) (v1 : Int32) (v2 : Int32) (v3 : Int32) (fu : Nat) (v4 : Int32) (v5 : Int32) (H : Heap) (locs : List Loc) (ls : Array Slot), iterK fu (fL_isKey_108 k x v1 v2 v3 ) (v4, v5) = some res → va_P D vwCl (W_F cI cV vf a x) H → va_D A (W_F cI cV vf a x) → va_S A s.heap H locs → lv_has ls 10 [(0, .ref (a 0)), (1, .int v1), (2, .int v2), (3, .int v3), (4, .int v4), (5, .int v5)] → W p l e ({ frames := 10, cells := 12, slots := 72, locals := 230 } : Room) s m ([.ref (a 0), .int p1] : List Value).toArray below meth c H locs 12 72 (MQ below (QW D (TY cI cV cJ cD) (W_F cI cV vf a res.1) A (some (.int res.2))) (([.ref (a 0), .int p1] : List Value).toArray) s 12 72 A) (F0 m 108 ls []) := by
    intro x v1 v2 v3 fu
    induction fu with
    | zero =>
      intro v4 v5 H locs ls hf
      cases hf
    | succ fu ih =>
      intro v4 v5 H locs ls hf hP hD hS hl
      exact S108 x v1 v2 v3 (iterK fu (fL_isKey_108 k x v1 v2 v3 )) ih v4 v5 H locs ls hf hP hD hS hl
  have L62 : ∀ (x : FSt) (v1 : Int32) (v2 : Int32) (v3 : Int32) (H : Heap) (locs : List Loc) (ls : Array Slot), fL_isKey_62 k x v1 v2 v3  = some res → va_P D vwCl (W_F cI cV vf a x) H → va_D A (W_F cI cV vf a x) → va_S A s.heap H locs → lv_has ls 10 [(0, .ref (a 0)), (1, .int v1), (2, .int v2), (3, .int v3)] → W p l e ({ frames := 10, cells := 12, slots := 72, locals := 230 } : Room) s m ([.ref (a 0), .int p1] : List Value).toArray below meth c H locs 0 0 (MQ below (QW D (TY cI cV cJ cD) (W_F cI cV vf a res.1) A (some (.int res.2))) (([.ref (a 0), .int p1] : List Value).toArray) s 12 72 A) (F0 m 62 ls []) := by
    intro x v1 v2 v3 H locs ls hf hP hD hS hl
    dsimp only [fL_isKey_62] at hf
    refine lv_iload_n hx hb dL_isKey_62 rfl (lv_at hl 3 rfl) ?_
    refine lv_bipush (v := 40) hx hb dL_isKey_63 (by decide) ?_
    refine lv_icmp_gt (tgt := 102) hx hb dL_isKey_65 (by decide) (fun c71 => ?_) (fun c71 => ?_)
    · replace hf := if_t c71 hf
      refine lv_iconst (v := 0) hx hb dL_isKey_102 (by decide) ?_
      refine lv_istore (lv' := [(4, .int 0), (0, .ref (a 0)), (1, .int v1), (2, .int v2), (3, .int v3)]) hx hb dL_isKey_103 hl (by decide) rfl (fun ls hl => ?_)
      refine lv_iconst (v := 0) hx hb dL_isKey_105 (by decide) ?_
      refine lv_istore (lv' := [(5, .int 0), (4, .int 0), (0, .ref (a 0)), (1, .int v1), (2, .int v2), (3, .int v3)]) hx hb dL_isKey_106 hl (by decide) rfl (fun ls hl => ?_)
      refine W.widen (k := 12) (n := 72) (Nat.le_of_ble_eq_true rfl) (Nat.le_of_ble_eq_true rfl) ?_
      exact L108 x v1 v2 v3 FU 0 0 H locs ls hf hP hD hS (lv_sub hl [2, 3, 4, 5, 1, 0] rfl)
    · replace hf := if_f c71 hf
      refine lv_aload_n hx hb dL_isKey_68 rfl (lv_at hl 0 rfl) ?_
      refine lv_bipush (v := 11) hx hb dL_isKey_69 (by decide) ?_
      refine lv_iload_n hx hb dL_isKey_71 rfl (lv_at hl 1 rfl) ?_
      refine lv_iload_n hx hb dL_isKey_72 rfl (lv_at hl 3 rfl) ?_
      refine lv_iconst (v := 0) hx hb dL_isKey_73 (by decide) ?_
      refine lv_iconst (v := 0) hx hb dL_isKey_74 (by decide) ?_
      obtain ⟨u72, hc73, hf⟩ := bind_t hf
      refine k_SWQ (ws' := W_F cI cV vf a u72.1) (As := [.ref (a 0), .int 11, .int v1, .int v3, .int 0, .int 0]) (rest := []) (n := 6) ⟨hx, hb, hml, hown, hts⟩ (met_L_asks l hlt k vf a hvf x 11 v1 v3 0 0 u72 hc73) w360 w361 w0 w362 ⟨by decide +kernel, by decide +kernel, by decide +kernel⟩ ⟨Nat.le_of_ble_eq_true rfl, Nat.le_of_ble_eq_true rfl⟩ hK hE hP hD hS hA (CutP_self _ _) rfl hl.1 rfl (Nat.le_of_ble_eq_true rfl) dL_isKey_75 ⟨Nat.le_of_ble_eq_true rfl, Nat.le_of_ble_eq_true rfl⟩ (fun H locs hP hD hS => ?_)
      try dsimp only at hf
      refine W.eq (g2 := F0 m 78 ls [.int u72.2]) rfl ?_
      obtain ⟨x74, hx74⟩ : ∃ z, z = u72.1 := ⟨_, rfl⟩
      replace hf := keep_e hf x74 hx74
      have hP : va_P D vwCl (W_F cI cV vf a x74) H := by rw [hx74]; exact hP
      have hD : va_D A (W_F cI cV vf a x74) := by rw [hx74]; exact hD
      refine lv_bipush (v := (-107)) hx hb dL_isKey_78 (by decide) ?_
      refine lv_icmp_ne (tgt := 102) hx hb dL_isKey_80 (by decide) (fun c75 => ?_) (fun c75 => ?_)
      · replace hf := if_f c75 hf
        refine lv_iconst (v := 0) hx hb dL_isKey_102 (by decide) ?_
        refine lv_istore (lv' := [(4, .int 0), (0, .ref (a 0)), (1, .int v1), (2, .int v2), (3, .int v3)]) hx hb dL_isKey_103 hl (by decide) rfl (fun ls hl => ?_)
        refine lv_iconst (v := 0) hx hb dL_isKey_105 (by decide) ?_
        refine lv_istore (lv' := [(5, .int 0), (4, .int 0), (0, .ref (a 0)), (1, .int v1), (2, .int v2), (3, .int v3)]) hx hb dL_isKey_106 hl (by decide) rfl (fun ls hl => ?_)
        refine W.widen (k := 12) (n := 72) (Nat.le_of_ble_eq_true rfl) (Nat.le_of_ble_eq_true rfl) ?_
        exact L108 x74 v1 v2 v3 FU 0 0 H locs ls hf hP hD hS (lv_sub hl [2, 3, 4, 5, 1, 0] rfl)
      · replace hf := if_t c75 hf
        refine lv_aload_n hx hb dL_isKey_83 rfl (lv_at hl 0 rfl) ?_
        refine lv_bipush (v := 11) hx hb dL_isKey_84 (by decide) ?_
        refine lv_iload_n hx hb dL_isKey_86 rfl (lv_at hl 1 rfl) ?_
        refine lv_iconst (v := (-1)) hx hb dL_isKey_87 (by decide) ?_
        refine lv_iconst (v := 0) hx hb dL_isKey_88 (by decide) ?_
        refine lv_iconst (v := 0) hx hb dL_isKey_89 (by decide) ?_
        obtain ⟨u76, hc77, hf⟩ := bind_t hf
        refine k_SWQ (ws' := W_F cI cV vf a u76.1) (As := [.ref (a 0), .int 11, .int v1, .int (-1), .int 0, .int 0]) (rest := []) (n := 6) ⟨hx, hb, hml, hown, hts⟩ (met_L_asks l hlt k vf a hvf x74 11 v1 (-1) 0 0 u76 hc77) w360 w361 w0 w362 ⟨by decide +kernel, by decide +kernel, by decide +kernel⟩ ⟨Nat.le_of_ble_eq_true rfl, Nat.le_of_ble_eq_true rfl⟩ hK hE hP hD hS hA (CutP_self _ _) rfl hl.1 rfl (Nat.le_of_ble_eq_true rfl) dL_isKey_90 ⟨Nat.le_of_ble_eq_true rfl, Nat.le_of_ble_eq_true rfl⟩ (fun H locs hP hD hS => ?_)
        try dsimp only at hf
        refine W.eq (g2 := F0 m 93 ls [.int u76.2]) rfl ?_
        obtain ⟨x78, hx78⟩ : ∃ z, z = u76.1 := ⟨_, rfl⟩
        replace hf := keep_e hf x78 hx78
        have hP : va_P D vwCl (W_F cI cV vf a x78) H := by rw [hx78]; exact hP
        have hD : va_D A (W_F cI cV vf a x78) := by rw [hx78]; exact hD
        refine lv_bipush (v := (-107)) hx hb dL_isKey_93 (by decide) ?_
        refine lv_icmp_ne (tgt := 102) hx hb dL_isKey_95 (by decide) (fun c79 => ?_) (fun c79 => ?_)
        · replace hf := if_f c79 hf
          refine lv_iconst (v := 0) hx hb dL_isKey_102 (by decide) ?_
          refine lv_istore (lv' := [(4, .int 0), (0, .ref (a 0)), (1, .int v1), (2, .int v2), (3, .int v3)]) hx hb dL_isKey_103 hl (by decide) rfl (fun ls hl => ?_)
          refine lv_iconst (v := 0) hx hb dL_isKey_105 (by decide) ?_
          refine lv_istore (lv' := [(5, .int 0), (4, .int 0), (0, .ref (a 0)), (1, .int v1), (2, .int v2), (3, .int v3)]) hx hb dL_isKey_106 hl (by decide) rfl (fun ls hl => ?_)
          exact L108 x78 v1 v2 v3 FU 0 0 H locs ls hf hP hD hS (lv_sub hl [2, 3, 4, 5, 1, 0] rfl)
        · replace hf := if_t c79 hf
          refine lv_iconst (v := 1) hx hb dL_isKey_98 (by decide) ?_
          refine lv_goto (tgt := 103) hx hb dL_isKey_99 (by decide) ?_
          refine lv_istore (lv' := [(4, .int 1), (0, .ref (a 0)), (1, .int v1), (2, .int v2), (3, .int v3)]) hx hb dL_isKey_103 hl (by decide) rfl (fun ls hl => ?_)
          refine lv_iconst (v := 0) hx hb dL_isKey_105 (by decide) ?_
          refine lv_istore (lv' := [(5, .int 0), (4, .int 1), (0, .ref (a 0)), (1, .int v1), (2, .int v2), (3, .int v3)]) hx hb dL_isKey_106 hl (by decide) rfl (fun ls hl => ?_)
          exact L108 x78 v1 v2 v3 FU 1 0 H locs ls hf hP hD hS (lv_sub hl [2, 3, 4, 5, 1, 0] rfl)
  have L54 : ∀ (x : FSt) (v1 : Int32) (v2 : Int32) (v3 : Int32) (H : Heap) (locs : List Loc) (ls : Array Slot), fL_isKey_54 k x v1 v2 v3  = some res → va_P D vwCl (W_F cI cV vf a x) H → va_D A (W_F cI cV vf a x) → va_S A s.heap H locs → lv_has ls 10 [(0, .ref (a 0)), (1, .int v1), (2, .int v2), (3, .int v3)] → W p l e ({ frames := 10, cells := 12, slots := 72, locals := 230 } : Room) s m ([.ref (a 0), .int p1] : List Value).toArray below meth c H locs 0 0 (MQ below (QW D (TY cI cV cJ cD) (W_F cI cV vf a res.1) A (some (.int res.2))) (([.ref (a 0), .int p1] : List Value).toArray) s 12 72 A) (F0 m 54 ls []) := by
    intro x v1 v2 v3 H locs ls hf hP hD hS hl
    dsimp only [fL_isKey_54] at hf
    refine lv_iload_n hx hb dL_isKey_54 rfl (lv_at hl 2 rfl) ?_
    refine lv_if_ne (tgt := 102) hx hb dL_isKey_55 (by decide) (fun c80 => ?_) (fun c80 => ?_)
    · replace hf := if_f c80 hf
      refine lv_iconst (v := 0) hx hb dL_isKey_102 (by decide) ?_
      refine lv_istore (lv' := [(4, .int 0), (0, .ref (a 0)), (1, .int v1), (2, .int v2), (3, .int v3)]) hx hb dL_isKey_103 hl (by decide) rfl (fun ls hl => ?_)
      refine lv_iconst (v := 0) hx hb dL_isKey_105 (by decide) ?_
      refine lv_istore (lv' := [(5, .int 0), (4, .int 0), (0, .ref (a 0)), (1, .int v1), (2, .int v2), (3, .int v3)]) hx hb dL_isKey_106 hl (by decide) rfl (fun ls hl => ?_)
      refine W.widen (k := 12) (n := 72) (Nat.le_of_ble_eq_true rfl) (Nat.le_of_ble_eq_true rfl) ?_
      exact L108 x v1 v2 v3 FU 0 0 H locs ls hf hP hD hS (lv_sub hl [2, 3, 4, 5, 1, 0] rfl)
    · replace hf := if_t c80 hf
      refine lv_iload_n hx hb dL_isKey_58 rfl (lv_at hl 3 rfl) ?_
      refine lv_if_ne (tgt := 102) hx hb dL_isKey_59 (by decide) (fun c81 => ?_) (fun c81 => ?_)
      · replace hf := if_f c81 hf
        refine lv_iconst (v := 0) hx hb dL_isKey_102 (by decide) ?_
        refine lv_istore (lv' := [(4, .int 0), (0, .ref (a 0)), (1, .int v1), (2, .int v2), (3, .int v3)]) hx hb dL_isKey_103 hl (by decide) rfl (fun ls hl => ?_)
        refine lv_iconst (v := 0) hx hb dL_isKey_105 (by decide) ?_
        refine lv_istore (lv' := [(5, .int 0), (4, .int 0), (0, .ref (a 0)), (1, .int v1), (2, .int v2), (3, .int v3)]) hx hb dL_isKey_106 hl (by decide) rfl (fun ls hl => ?_)
        refine W.widen (k := 12) (n := 72) (Nat.le_of_ble_eq_true rfl) (Nat.le_of_ble_eq_true rfl) ?_
        exact L108 x v1 v2 v3 FU 0 0 H locs ls hf hP hD hS (lv_sub hl [2, 3, 4, 5, 1, 0] rfl)
      · replace hf := if_t c81 hf
        exact L62 x v1 v2 v3 H locs ls hf hP hD hS (lv_sub hl [0, 1, 2, 3] rfl)
  have L43 : ∀ (x : FSt) (v1 : Int32) (v2 : Int32) (v3 : Int32) (s0 : Int32) (s1 : Int32) (H : Heap) (locs : List Loc) (ls : Array Slot), fL_isKey_43 k x v1 v2 v3 s0 s1  = some res → va_P D vwCl (W_F cI cV vf a x) H → va_D A (W_F cI cV vf a x) → va_S A s.heap H locs → lv_has ls 10 [(0, .ref (a 0)), (1, .int v1), (2, .int v2), (3, .int v3)] → W p l e ({ frames := 10, cells := 12, slots := 72, locals := 230 } : Room) s m ([.ref (a 0), .int p1] : List Value).toArray below meth c H locs 0 0 (MQ below (QW D (TY cI cV cJ cD) (W_F cI cV vf a res.1) A (some (.int res.2))) (([.ref (a 0), .int p1] : List Value).toArray) s 12 72 A) (F0 m 43 ls [.int s0, .int s1]) := by
    intro x v1 v2 v3 s0 s1 H locs ls hf hP hD hS hl
    dsimp only [fL_isKey_43] at hf
    refine lv_icmp_ne (tgt := 102) hx hb dL_isKey_43 (by decide) (fun c82 => ?_) (fun c82 => ?_)
    · replace hf := if_f c82 hf
      refine lv_iconst (v := 0) hx hb dL_isKey_102 (by decide) ?_
      refine lv_istore (lv' := [(4, .int 0), (0, .ref (a 0)), (1, .int v1), (2, .int v2), (3, .int v3)]) hx hb dL_isKey_103 hl (by decide) rfl (fun ls hl => ?_)
      refine lv_iconst (v := 0) hx hb dL_isKey_105 (by decide) ?_
      refine lv_istore (lv' := [(5, .int 0), (4, .int 0), (0, .ref (a 0)), (1, .int v1), (2, .int v2), (3, .int v3)]) hx hb dL_isKey_106 hl (by decide) rfl (fun ls hl => ?_)
      refine W.widen (k := 12) (n := 72) (Nat.le_of_ble_eq_true rfl) (Nat.le_of_ble_eq_true rfl) ?_
      exact L108 x v1 v2 v3 FU 0 0 H locs ls hf hP hD hS (lv_sub hl [2, 3, 4, 5, 1, 0] rfl)
    · replace hf := if_t c82 hf
      refine lv_iload_n hx hb dL_isKey_46 rfl (lv_at hl 2 rfl) ?_
      refine lv_if_le (tgt := 54) hx hb dL_isKey_47 (by decide) (fun c83 => ?_) (fun c83 => ?_)
      · replace hf := if_t c83 hf
        exact L54 x v1 v2 v3 H locs ls hf hP hD hS (lv_sub hl [0, 1, 2, 3] rfl)
      · replace hf := if_f c83 hf
        refine lv_iload_n hx hb dL_isKey_50 rfl (lv_at hl 3 rfl) ?_
        refine lv_if_gt (tgt := 62) hx hb dL_isKey_51 (by decide) (fun c84 => ?_) (fun c84 => ?_)
        · replace hf := if_t c84 hf
          exact L62 x v1 v2 v3 H locs ls hf hP hD hS (lv_sub hl [0, 1, 2, 3] rfl)
        · replace hf := if_f c84 hf
          exact L54 x v1 v2 v3 H locs ls hf hP hD hS (lv_sub hl [0, 1, 2, 3] rfl)
  have L30 : ∀ (x : FSt) (v1 : Int32) (v2 : Int32) (v3 : Int32) (s0 : Int32) (H : Heap) (locs : List Loc) (ls : Array Slot), fL_isKey_30 k x v1 v2 v3 s0  = some res → va_P D vwCl (W_F cI cV vf a x) H → va_D A (W_F cI cV vf a x) → va_S A s.heap H locs → lv_has ls 10 [(0, .ref (a 0)), (1, .int v1), (2, .int v2), (3, .int v3)] → W p l e ({ frames := 10, cells := 12, slots := 72, locals := 230 } : Room) s m ([.ref (a 0), .int p1] : List Value).toArray below meth c H locs 0 0 (MQ below (QW D (TY cI cV cJ cD) (W_F cI cV vf a res.1) A (some (.int res.2))) (([.ref (a 0), .int p1] : List Value).toArray) s 12 72 A) (F0 m 30 ls [.int s0]) := by
    intro x v1 v2 v3 s0 H locs ls hf hP hD hS hl
    dsimp only [fL_isKey_30] at hf
    refine lv_aload_n hx hb dL_isKey_30 rfl (lv_at hl 0 rfl) ?_
    refine lv_iload_n hx hb dL_isKey_31 rfl (lv_at hl 1 rfl) ?_
    obtain ⟨u85, hc86, hf⟩ := bind_t hf
    rcases u85 with r87 | k88
    rotate_left
    · exact (thr_n hf).elim
    replace hf := thr_v hf rfl
    refine k_V (As := [.int v1]) (rest := [.int s0]) (n := 1) ⟨hx, hb, hml, hown, hts⟩ (met0_X7_formOf l k vf a hvf x v1 r87 hc86) w782 w783 w784 w1 w785 ⟨rfl, by decide +kernel, by decide +kernel, by decide +kernel⟩ ⟨Nat.le_of_ble_eq_true rfl, Nat.le_of_ble_eq_true rfl⟩ hK hE hP hD hS hA (isC := [0, 1, 2, 3, 4, 5, 6, 7, 8, 9, 10, 11, 12, 13, 14, 15, 16, 17, 18, 19, 20, 21, 22, 23]) (isR := []) (isB := [0, 1, 2, 3, 4, 5, 6, 7, 8, 9, 10, 11, 12, 13, 14, 15, 16, 17, 18, 19, 20, 21, 22, 23]) (ws' := W_F cI cV vf a x) ⟨([] : List Nat).filterMap (fun i : Nat => (W_F cI cV vf a x : va_W)[i]?), rfl, rfl, rfl, rfl, by decide, rfl, rfl⟩ 0 6 rfl rfl rfl rfl hl.1 rfl (Nat.le_of_ble_eq_true rfl) dL_isKey_32 ⟨Nat.le_of_ble_eq_true rfl, Nat.le_of_ble_eq_true rfl⟩ (fun H locs hP hD hS => ?_)
    try dsimp only at hf
    refine W.eq (g2 := F0 m 35 ls [.int r87, .int s0]) rfl ?_
    refine lv_if_ne (tgt := 42) hx hb dL_isKey_35 (by decide) (fun c89 => ?_) (fun c89 => ?_)
    · replace hf := if_f c89 hf
      refine lv_iconst (v := 0) hx hb dL_isKey_42 (by decide) ?_
      exact L43 x v1 v2 v3 0 s0 H locs ls hf hP hD hS (lv_sub hl [0, 1, 2, 3] rfl)
    · replace hf := if_t c89 hf
      refine lv_iconst (v := 1) hx hb dL_isKey_38 (by decide) ?_
      refine lv_goto (tgt := 43) hx hb dL_isKey_39 (by decide) ?_
      exact L43 x v1 v2 v3 1 s0 H locs ls hf hP hD hS (lv_sub hl [0, 1, 2, 3] rfl)
  have M0 : ∀ (H : Heap) (locs : List Loc) (ls : Array Slot), fL_isKey k x p1 = some res → va_P D vwCl (W_F cI cV vf a x) H → va_D A (W_F cI cV vf a x) → va_S A s.heap H locs → lv_has ls 10 [(0, .ref (a 0)), (1, .int p1)] → W p l e ({ frames := 10, cells := 12, slots := 72, locals := 230 } : Room) s m ([.ref (a 0), .int p1] : List Value).toArray below meth c H locs 0 0 (MQ below (QW D (TY cI cV cJ cD) (W_F cI cV vf a res.1) A (some (.int res.2))) (([.ref (a 0), .int p1] : List Value).toArray) s 12 72 A) (F0 m 0 ls []) := by
    intro H locs ls hf hP hD hS hl
    dsimp only [fL_isKey] at hf
    refine lv_aload_n hx hb dL_isKey_0 rfl (lv_at hl 0 rfl) ?_
    refine lv_iload_n hx hb dL_isKey_1 rfl (lv_at hl 1 rfl) ?_
    obtain ⟨u90, hc91, hf⟩ := bind_t hf
    rcases u90 with r92 | k93
    rotate_left
    · exact (thr_n hf).elim
    replace hf := thr_v hf rfl
    refine k_V (As := [.int p1]) (rest := []) (n := 1) ⟨hx, hb, hml, hown, hts⟩ (met0_X7_typeOf l k vf a hvf x p1 r92 hc91) w205 w206 w207 w1 w208 ⟨rfl, by decide +kernel, by decide +kernel, by decide +kernel⟩ ⟨Nat.le_of_ble_eq_true rfl, Nat.le_of_ble_eq_true rfl⟩ hK hE hP hD hS hA (isC := [0, 1, 2, 3, 4, 5, 6, 7, 8, 9, 10, 11, 12, 13, 14, 15, 16, 17, 18, 19, 20, 21, 22, 23]) (isR := []) (isB := [0, 1, 2, 3, 4, 5, 6, 7, 8, 9, 10, 11, 12, 13, 14, 15, 16, 17, 18, 19, 20, 21, 22, 23]) (ws' := W_F cI cV vf a x) ⟨([] : List Nat).filterMap (fun i : Nat => (W_F cI cV vf a x : va_W)[i]?), rfl, rfl, rfl, rfl, by decide, rfl, rfl⟩ 0 6 rfl rfl rfl rfl hl.1 rfl (Nat.le_of_ble_eq_true rfl) dL_isKey_2 ⟨Nat.le_of_ble_eq_true rfl, Nat.le_of_ble_eq_true rfl⟩ (fun H locs hP hD hS => ?_)
    try dsimp only at hf
    refine W.eq (g2 := F0 m 5 ls [.int r92]) rfl ?_
    refine lv_istore_n (lv' := [(2, .int r92), (0, .ref (a 0)), (1, .int p1)]) hx hb dL_isKey_5 rfl hl (by decide) rfl (fun ls hl => ?_)
    refine lv_aload_n hx hb dL_isKey_6 rfl (lv_at hl 1 rfl) ?_
    refine lv_iload_n hx hb dL_isKey_7 rfl (lv_at hl 2 rfl) ?_
    obtain ⟨u94, hc95, hf⟩ := bind_t hf
    rcases u94 with r96 | k97
    rotate_left
    · exact (thr_n hf).elim
    replace hf := thr_v hf rfl
    refine k_V (As := [.int p1]) (rest := []) (n := 1) ⟨hx, hb, hml, hown, hts⟩ (met0_X7_size l k vf a hvf x p1 r96 hc95) w298 w299 w300 w1 w301 ⟨rfl, by decide +kernel, by decide +kernel, by decide +kernel⟩ ⟨Nat.le_of_ble_eq_true rfl, Nat.le_of_ble_eq_true rfl⟩ hK hE hP hD hS hA (isC := [0, 1, 2, 3, 4, 5, 6, 7, 8, 9, 10, 11, 12, 13, 14, 15, 16, 17, 18, 19, 20, 21, 22, 23]) (isR := []) (isB := [0, 1, 2, 3, 4, 5, 6, 7, 8, 9, 10, 11, 12, 13, 14, 15, 16, 17, 18, 19, 20, 21, 22, 23]) (ws' := W_F cI cV vf a x) ⟨([] : List Nat).filterMap (fun i : Nat => (W_F cI cV vf a x : va_W)[i]?), rfl, rfl, rfl, rfl, by decide, rfl, rfl⟩ 0 6 rfl rfl rfl rfl hl.1 rfl (Nat.le_of_ble_eq_true rfl) dL_isKey_8 ⟨Nat.le_of_ble_eq_true rfl, Nat.le_of_ble_eq_true rfl⟩ (fun H locs hP hD hS => ?_)
    try dsimp only at hf
    refine W.eq (g2 := F0 m 11 ls [.int r96]) rfl ?_
    refine lv_istore_n (lv' := [(3, .int r96), (2, .int r92), (0, .ref (a 0)), (1, .int p1)]) hx hb dL_isKey_11 rfl hl (by decide) rfl (fun ls hl => ?_)
    refine lv_iload_n hx hb dL_isKey_12 rfl (lv_at hl 1 rfl) ?_
    refine lv_if_lt (tgt := 102) hx hb dL_isKey_13 (by decide) (fun c98 => ?_) (fun c98 => ?_)
    · replace hf := if_t c98 hf
      refine lv_iconst (v := 0) hx hb dL_isKey_102 (by decide) ?_
      refine lv_istore (lv' := [(4, .int 0), (3, .int r96), (2, .int r92), (0, .ref (a 0)), (1, .int p1)]) hx hb dL_isKey_103 hl (by decide) rfl (fun ls hl => ?_)
      refine lv_iconst (v := 0) hx hb dL_isKey_105 (by decide) ?_
      refine lv_istore (lv' := [(5, .int 0), (4, .int 0), (3, .int r96), (2, .int r92), (0, .ref (a 0)), (1, .int p1)]) hx hb dL_isKey_106 hl (by decide) rfl (fun ls hl => ?_)
      refine W.widen (k := 12) (n := 72) (Nat.le_of_ble_eq_true rfl) (Nat.le_of_ble_eq_true rfl) ?_
      exact L108 x p1 r92 r96 FU 0 0 H locs ls hf hP hD hS (lv_sub hl [4, 5, 3, 2, 1, 0] rfl)
    · replace hf := if_f c98 hf
      refine lv_iload_n hx hb dL_isKey_16 rfl (lv_at hl 1 rfl) ?_
      refine lv_iconst (v := 4) hx hb dL_isKey_17 (by decide) ?_
      refine lv_icmp_gt (tgt := 102) hx hb dL_isKey_18 (by decide) (fun c99 => ?_) (fun c99 => ?_)
      · replace hf := if_t c99 hf
        refine lv_iconst (v := 0) hx hb dL_isKey_102 (by decide) ?_
        refine lv_istore (lv' := [(4, .int 0), (3, .int r96), (2, .int r92), (0, .ref (a 0)), (1, .int p1)]) hx hb dL_isKey_103 hl (by decide) rfl (fun ls hl => ?_)
        refine lv_iconst (v := 0) hx hb dL_isKey_105 (by decide) ?_
        refine lv_istore (lv' := [(5, .int 0), (4, .int 0), (3, .int r96), (2, .int r92), (0, .ref (a 0)), (1, .int p1)]) hx hb dL_isKey_106 hl (by decide) rfl (fun ls hl => ?_)
        refine W.widen (k := 12) (n := 72) (Nat.le_of_ble_eq_true rfl) (Nat.le_of_ble_eq_true rfl) ?_
        exact L108 x p1 r92 r96 FU 0 0 H locs ls hf hP hD hS (lv_sub hl [4, 5, 3, 2, 1, 0] rfl)
      · replace hf := if_f c99 hf
        refine lv_iload_n hx hb dL_isKey_21 rfl (lv_at hl 1 rfl) ?_
        refine lv_if_ne (tgt := 29) hx hb dL_isKey_22 (by decide) (fun c100 => ?_) (fun c100 => ?_)
        · replace hf := if_f c100 hf
          refine lv_iconst (v := 0) hx hb dL_isKey_29 (by decide) ?_
          exact L30 x p1 r92 r96 0 H locs ls hf hP hD hS (lv_sub hl [2, 3, 1, 0] rfl)
        · replace hf := if_t c100 hf
          refine lv_iconst (v := 1) hx hb dL_isKey_25 (by decide) ?_
          refine lv_goto (tgt := 30) hx hb dL_isKey_26 (by decide) ?_
          exact L30 x p1 r92 r96 1 H locs ls hf hP hD hS (lv_sub hl [2, 3, 1, 0] rfl)
  exact M0 s.heap [] ls hf hP hD hS hl
/-! CompactformsLaw.isScanned(LCompactforms;I)Z -/
def fL_isScanned_201 (k : Nat) (x : FSt) (v1 : Int32) (v2 : Int32) (v3 : Int64) (v5 : Int32) (v6 : Int32) (v7 : Int32) : Option (FSt × Int32) := (if v7 = 0 then some (x, 0) else (if v5 = 0 then (if (lcmpv v3 ((1 <<< ((v2 : Int32).toInt64 &&& 63)) - 1)) = 0 then (fX7_scanned k x v1 1023 (-1)).bind (fun u4 => thr u4 (fun k7 => none) (fun r6 => (if r6 = (-1) then (fX7_formOf k x v1).bind (fun u9 => thr u9 (fun k12 => none) (fun r11 => (if r11 = 1 then (if v6 = 1 then some (x, 1) else some (x, 0)) else (if v6 < 16 then some (x, 0) else some (x, 1))))) else some (x, 0)))) else some (x, 0)) else some (x, 0)))
def fL_isScanned_186 (rec62 : Int64 × Int32 × Int32 × Int32 → Option (FSt × Int32)) (k : Nat) (x : FSt) (v1 : Int32) (v2 : Int32) (v3 : Int64) (v5 : Int32) (v6 : Int32) (v7 : Int32) : Option (FSt × Int32) := (fX7_next k x v1 v5).bind (fun u16 => thr u16 (fun k19 => none) (fun r18 => keep (v6 + 1) (fun y20 => rec62 (v3, r18, y20, v7))))
def fL_isScanned_163 (rec62 : Int64 × Int32 × Int32 × Int32 → Option (FSt × Int32)) (rec100 : Int64 × Int32 × Int32 × Int32 × Int32 → Option (FSt × Int32)) (k : Nat) (x : FSt) (v1 : Int32) (v2 : Int32) (v5 : Int32) (v6 : Int32) (v7 : Int32) (v9 : Int32) (v10 : Int32) (s0 : Int64) (s1 : Int64) : Option (FSt × Int32) := keep (s1 ||| s0) (fun y21 => (fX7_scanned k x v1 v5 v10).bind (fun u22 => thr u22 (fun k25 => none) (fun r24 => keep (v10 + 1) (fun y26 => rec100 (y21, v7, v9, r24, y26)))))
def fL_isScanned_147 (rec62 : Int64 × Int32 × Int32 × Int32 → Option (FSt × Int32)) (rec100 : Int64 × Int32 × Int32 × Int32 × Int32 → Option (FSt × Int32)) (k : Nat) (x : FSt) (v1 : Int32) (v2 : Int32) (v3 : Int64) (v5 : Int32) (v6 : Int32) (v9 : Int32) (v10 : Int32) (v11 : Int32) (s0 : Int32) : Option (FSt × Int32) := (if 0 ≤ v11 then fL_isScanned_163 rec62 rec100 k x v1 v2 v5 v6 s0 v9 v10 (1 <<< ((v11 : Int32).toInt64 &&& 63)) v3 else fL_isScanned_163 rec62 rec100 k x v1 v2 v5 v6 s0 v9 v10 0 v3)
def fL_isScanned_146 (rec62 : Int64 × Int32 × Int32 × Int32 → Option (FSt × Int32)) (rec100 : Int64 × Int32 × Int32 × Int32 × Int32 → Option (FSt × Int32)) (k : Nat) (x : FSt) (v1 : Int32) (v2 : Int32) (v3 : Int64) (v5 : Int32) (v6 : Int32) (v9 : Int32) (v10 : Int32) (v11 : Int32) : Option (FSt × Int32) := fL_isScanned_147 rec62 rec100 k x v1 v2 v3 v5 v6 v9 v10 v11 0
def fL_isScanned_100 (rec62 : Int64 × Int32 × Int32 × Int32 → Option (FSt × Int32)) (k : Nat) (x : FSt) (v1 : Int32) (v2 : Int32) (v5 : Int32) (v6 : Int32) (rec100 : Int64 × Int32 × Int32 × Int32 × Int32 → Option (FSt × Int32)) (s : Int64 × Int32 × Int32 × Int32 × Int32) : Option (FSt × Int32) := match s with | (v3, v7, v8, v9, v10) => (if v9 < 0 then fL_isScanned_186 rec62 k x v1 v2 v3 v5 v6 v7 else (if v7 = 0 then fL_isScanned_186 rec62 k x v1 v2 v3 v5 v6 v7 else (fX7_indexOf k x v1 v9).bind (fun u30 => thr u30 (fun k33 => none) (fun r32 => (if v9 ≤ v8 then fL_isScanned_146 rec62 rec100 k x v1 v2 v3 v5 v6 v9 v10 r32 else (if r32 < 0 then fL_isScanned_146 rec62 rec100 k x v1 v2 v3 v5 v6 v9 v10 r32 else (if (lcmpv ((v3 >>> ((r32 : Int32).toInt64 &&& 63)) &&& 1) 0) = 0 then fL_isScanned_147 rec62 rec100 k x v1 v2 v3 v5 v6 v9 v10 r32 1 else fL_isScanned_146 rec62 rec100 k x v1 v2 v3 v5 v6 v9 v10 r32)))))))
def fL_isScanned_77 (rec62 : Int64 × Int32 × Int32 × Int32 → Option (FSt × Int32)) (k : Nat) (x : FSt) (v1 : Int32) (v2 : Int32) (v3 : Int64) (v5 : Int32) (v6 : Int32) (v7 : Int32) : Option (FSt × Int32) := (if 65 ≤ v6 then fL_isScanned_201 k x v1 v2 v3 v5 v6 v7 else (fX7_scanned k x v1 v5 0).bind (fun u38 => thr u38 (fun k41 => none) (fun r40 => iterK FU (fL_isScanned_100 rec62 k x v1 v2 v5 v6) (v3, v7, (-1), r40, 1))))
def fL_isScanned_62 (k : Nat) (x : FSt) (v1 : Int32) (v2 : Int32) (rec62 : Int64 × Int32 × Int32 × Int32 → Option (FSt × Int32)) (s : Int64 × Int32 × Int32 × Int32) : Option (FSt × Int32) := match s with | (v3, v5, v6, v7) => (if v7 = 0 then fL_isScanned_201 k x v1 v2 v3 v5 v6 v7 else (if 0 < v5 then fL_isScanned_77 rec62 k x v1 v2 v3 v5 v6 v7 else (if v6 = 0 then fL_isScanned_77 rec62 k x v1 v2 v3 v5 v6 v7 else fL_isScanned_201 k x v1 v2 v3 v5 v6 v7)))
def fL_isScanned (k : Nat) (x : FSt) (p1 : Int32) : Option (FSt × Int32) := (fX7_size k x p1).bind (fun u45 => thr u45 (fun k48 => none) (fun r47 => (fX7_typeOf k x p1).bind (fun u49 => thr u49 (fun k52 => none) (fun r51 => (if r51 = 2 then iterK FU (fL_isScanned_62 k x p1 r47) (0, 0, 0, 1) else (fL_asks k x 13 p1 0 0 0).bind (fun u54 => keep u54.1 (fun x56 => (if u54.2 = (-108) then (fL_asks k x56 14 p1 0 0 0).bind (fun u58 => keep u58.1 (fun x60 => (if u58.2 = (-108) then some (x60, 1) else some (x60, 0)))) else some (x56, 0)))))))))
set_option maxHeartbeats 4000000 in
set_option maxRecDepth 100000 in
theorem met_L_isScanned {D : va_G} {cI cV cJ cD : ClassId} (l : Launch) (hlt : l.stackTraces = false) (k : Nat) (vf : Nat → Option Nat) (a : Nat → Nat) (hvf : vf k = some (a 6)) (x : FSt) (p1 : Int32) (res : FSt × Int32) (hf : fL_isScanned k x p1 = some res) : MM l yL_isScanned cL_isScanned 12 (some .boolean) { frames := 10, cells := 12, slots := 72, locals := 230 } D (TY cI cV cJ cD) (W_F cI cV vf a x) (W_F cI cV vf a res.1) [.ref (a 0), .int p1] (some (.int res.2)) := by
  intro sz
  refine Met.ofW (cc := cL_isScanned) (maxL := 12) (ret := (some .boolean)) (by decide +kernel) rfl ?_
  intro p e s m args below meth c s₁ B hml hv
  obtain ⟨rfl, hsz, hP, hK, hD0, hE⟩ := hv
  have hx := B.exec
  have hb := B.bytes
  have hr := B.returns
  have hts := atoms_spec (ws := .code yL_isScanned cL_isScanned 12 (some .boolean) :: GW) B.pre
  have hg : ∀ w ∈ GW, w.before (([.ref (a 0), .int p1] : List Value).toArray) s = true := fun w h => hts w (List.mem_cons_of_mem _ h)
  have hown : s.vm.findClass RL = some m.cls := findClass_of_methodNamed B.named
  have hlocks := B.notSynchronized
  subst hsz
  have hD := hD0.self (sz := s.heap.size)
  generalize hAe : va_A (W_F cI cV vf a x) s.heap.size = A at hD hE ⊢
  have hA : ∀ q : Nat, s.heap.size ≤ q → A q := fun q h => by rw [← hAe]; exact Or.inr h
  have hS : va_S A s.heap s.heap [] := va_S.rf
  have hl := lv_entry ([.ref (a 0), .int p1]) (n := 12) (Nat.le_of_ble_eq_true rfl)
  rw [lg_entry_eq]
  generalize (lg_sl ([.ref (a 0), .int p1]) ++ List.replicate (12 - (lg_sl ([.ref (a 0), .int p1])).length) Slot.unset).toArray = ls at hl ⊢
  have hl : lv_has ls 12 [(0, .ref (a 0)), (1, .int p1)] := hl
  have L201 : ∀ (x : FSt) (v1 : Int32) (v2 : Int32) (v3 : Int64) (v5 : Int32) (v6 : Int32) (v7 : Int32) (H : Heap) (locs : List Loc) (ls : Array Slot), fL_isScanned_201 k x v1 v2 v3 v5 v6 v7  = some res → va_P D vwCl (W_F cI cV vf a x) H → va_D A (W_F cI cV vf a x) → va_S A s.heap H locs → lv_has ls 12 [(0, .ref (a 0)), (1, .int v1), (2, .int v2), (3, .long v3), (5, .int v5), (6, .int v6), (7, .int v7)] → W p l e ({ frames := 10, cells := 12, slots := 72, locals := 230 } : Room) s m ([.ref (a 0), .int p1] : List Value).toArray below meth c H locs 0 0 (MQ below (QW D (TY cI cV cJ cD) (W_F cI cV vf a res.1) A (some (.int res.2))) (([.ref (a 0), .int p1] : List Value).toArray) s 12 72 A) (F0 m 201 ls []) := by
    intro x v1 v2 v3 v5 v6 v7 H locs ls hf hP hD hS hl
    dsimp only [fL_isScanned_201] at hf
    refine lv_iload hx hb dL_isScanned_201 (lv_at hl 6 rfl) ?_
    refine lv_if_eq (tgt := 263) hx hb dL_isScanned_203 (by decide) (fun c1 => ?_) (fun c1 => ?_)
    · replace hf := if_t c1 hf
      refine lv_iconst (v := 0) hx hb dL_isScanned_263 (by decide) ?_
      obtain rfl := Option.some.inj hf
      refine W.widen (k := 12) (n := 72) (Nat.le_of_ble_eq_true rfl) (Nat.le_of_ble_eq_true rfl) ?_
      exact W.zret (v := 0) hx hb hr (by decide +kernel) (fun t ht hW => ⟨rfl, by rw [ht]; exact hP, va_K.moved hW.alike hK, hD, hS.F ht⟩) hS.2.2 dL_isScanned_264 hlocks
    · replace hf := if_f c1 hf
      refine lv_iload hx hb dL_isScanned_206 (lv_at hl 4 rfl) ?_
      refine lv_if_ne (tgt := 263) hx hb dL_isScanned_208 (by decide) (fun c2 => ?_) (fun c2 => ?_)
      · replace hf := if_f c2 hf
        refine lv_iconst (v := 0) hx hb dL_isScanned_263 (by decide) ?_
        obtain rfl := Option.some.inj hf
        refine W.widen (k := 12) (n := 72) (Nat.le_of_ble_eq_true rfl) (Nat.le_of_ble_eq_true rfl) ?_
        exact W.zret (v := 0) hx hb hr (by decide +kernel) (fun t ht hW => ⟨rfl, by rw [ht]; exact hP, va_K.moved hW.alike hK, hD, hS.F ht⟩) hS.2.2 dL_isScanned_264 hlocks
      · replace hf := if_t c2 hf
        refine lv_lload_n hx hb dL_isScanned_211 rfl (lv_at hl 3 rfl) ?_
        refine lv_lconst (v := 1) hx hb dL_isScanned_212 (by decide) ?_
        refine lv_iload_n hx hb dL_isScanned_213 rfl (lv_at hl 2 rfl) ?_
        refine lv_lshl (v := (1 <<< ((v2 : Int32).toInt64 &&& 63))) hx hb dL_isScanned_214 rfl ?_
        refine lv_lconst (v := 1) hx hb dL_isScanned_215 (by decide) ?_
        refine lv_lsub hx hb dL_isScanned_216 ?_
        refine k_lcmp hx hb dL_isScanned_217 ?_
        refine lv_if_ne (tgt := 263) hx hb dL_isScanned_218 (by decide) (fun c3 => ?_) (fun c3 => ?_)
        · replace hf := if_f c3 hf
          refine lv_iconst (v := 0) hx hb dL_isScanned_263 (by decide) ?_
          obtain rfl := Option.some.inj hf
          refine W.widen (k := 12) (n := 72) (Nat.le_of_ble_eq_true rfl) (Nat.le_of_ble_eq_true rfl) ?_
          exact W.zret (v := 0) hx hb hr (by decide +kernel) (fun t ht hW => ⟨rfl, by rw [ht]; exact hP, va_K.moved hW.alike hK, hD, hS.F ht⟩) hS.2.2 dL_isScanned_264 hlocks
        · replace hf := if_t c3 hf
          refine lv_aload_n hx hb dL_isScanned_221 rfl (lv_at hl 0 rfl) ?_
          refine lv_iload_n hx hb dL_isScanned_222 rfl (lv_at hl 1 rfl) ?_
          refine lv_sipush (v := 1023) hx hb dL_isScanned_223 (by decide) ?_
          refine lv_iconst (v := (-1)) hx hb dL_isScanned_226 (by decide) ?_
          obtain ⟨u4, hc5, hf⟩ := bind_t hf
          rcases u4 with r6 | k7
          rotate_left
          · exact (thr_n hf).elim
          replace hf := thr_v hf rfl
          refine k_V (As := [.int v1, .int 1023, .int (-1)]) (rest := []) (n := 3) ⟨hx, hb, hml, hown, hts⟩ (met0_X7_scanned l k vf a hvf x v1 1023 (-1) r6 hc5) w661 w662 w663 w1 w664 ⟨rfl, by decide +kernel, by decide +kernel, by decide +kernel⟩ ⟨Nat.le_of_ble_eq_true rfl, Nat.le_of_ble_eq_true rfl⟩ hK hE hP hD hS hA (isC := [0, 1, 2, 3, 4, 5, 6, 7, 8, 9, 10, 11, 12, 13, 14, 15, 16, 17, 18, 19, 20, 21, 22, 23]) (isR := []) (isB := [0, 1, 2, 3, 4, 5, 6, 7, 8, 9, 10, 11, 12, 13, 14, 15, 16, 17, 18, 19, 20, 21, 22, 23]) (ws' := W_F cI cV vf a x) ⟨([] : List Nat).filterMap (fun i : Nat => (W_F cI cV vf a x : va_W)[i]?), rfl, rfl, rfl, rfl, by decide, rfl, rfl⟩ 0 6 rfl rfl rfl rfl hl.1 rfl (Nat.le_of_ble_eq_true rfl) dL_isScanned_227 ⟨Nat.le_of_ble_eq_true rfl, Nat.le_of_ble_eq_true rfl⟩ (fun H locs hP hD hS => ?_)
          try dsimp only at hf
          refine W.eq (g2 := F0 m 230 ls [.int r6]) rfl ?_
          refine lv_iconst (v := (-1)) hx hb dL_isScanned_230 (by decide) ?_
          refine lv_icmp_ne (tgt := 263) hx hb dL_isScanned_231 (by decide) (fun c8 => ?_) (fun c8 => ?_)
          · replace hf := if_f c8 hf
            refine lv_iconst (v := 0) hx hb dL_isScanned_263 (by decide) ?_
            obtain rfl := Option.some.inj hf
            refine W.widen (k := 12) (n := 72) (Nat.le_of_ble_eq_true rfl) (Nat.le_of_ble_eq_true rfl) ?_
            exact W.zret (v := 0) hx hb hr (by decide +kernel) (fun t ht hW => ⟨rfl, by rw [ht]; exact hP, va_K.moved hW.alike hK, hD, hS.F ht⟩) hS.2.2 dL_isScanned_264 hlocks
          · replace hf := if_t c8 hf
            refine lv_aload_n hx hb dL_isScanned_234 rfl (lv_at hl 0 rfl) ?_
            refine lv_iload_n hx hb dL_isScanned_235 rfl (lv_at hl 1 rfl) ?_
            obtain ⟨u9, hc10, hf⟩ := bind_t hf
            rcases u9 with r11 | k12
            rotate_left
            · exact (thr_n hf).elim
            replace hf := thr_v hf rfl
            refine k_V (As := [.int v1]) (rest := []) (n := 1) ⟨hx, hb, hml, hown, hts⟩ (met0_X7_formOf l k vf a hvf x v1 r11 hc10) w782 w783 w784 w1 w785 ⟨rfl, by decide +kernel, by decide +kernel, by decide +kernel⟩ ⟨Nat.le_of_ble_eq_true rfl, Nat.le_of_ble_eq_true rfl⟩ hK hE hP hD hS hA (isC := [0, 1, 2, 3, 4, 5, 6, 7, 8, 9, 10, 11, 12, 13, 14, 15, 16, 17, 18, 19, 20, 21, 22, 23]) (isR := []) (isB := [0, 1, 2, 3, 4, 5, 6, 7, 8, 9, 10, 11, 12, 13, 14, 15, 16, 17, 18, 19, 20, 21, 22, 23]) (ws' := W_F cI cV vf a x) ⟨([] : List Nat).filterMap (fun i : Nat => (W_F cI cV vf a x : va_W)[i]?), rfl, rfl, rfl, rfl, by decide, rfl, rfl⟩ 0 6 rfl rfl rfl rfl hl.1 rfl (Nat.le_of_ble_eq_true rfl) dL_isScanned_236 ⟨Nat.le_of_ble_eq_true rfl, Nat.le_of_ble_eq_true rfl⟩ (fun H locs hP hD hS => ?_)
            try dsimp only at hf
            refine W.eq (g2 := F0 m 239 ls [.int r11]) rfl ?_
            refine lv_iconst (v := 1) hx hb dL_isScanned_239 (by decide) ?_
            refine lv_icmp_ne (tgt := 252) hx hb dL_isScanned_240 (by decide) (fun c13 => ?_) (fun c13 => ?_)
            · replace hf := if_f c13 hf
              refine lv_iload hx hb dL_isScanned_252 (lv_at hl 5 rfl) ?_
              refine lv_bipush (v := 16) hx hb dL_isScanned_254 (by decide) ?_
              refine lv_icmp_lt (tgt := 263) hx hb dL_isScanned_256 (by decide) (fun c14 => ?_) (fun c14 => ?_)
              · replace hf := if_t c14 hf
                refine lv_iconst (v := 0) hx hb dL_isScanned_263 (by decide) ?_
                obtain rfl := Option.some.inj hf
                refine W.widen (k := 12) (n := 72) (Nat.le_of_ble_eq_true rfl) (Nat.le_of_ble_eq_true rfl) ?_
                exact W.zret (v := 0) hx hb hr (by decide +kernel) (fun t ht hW => ⟨rfl, by rw [ht]; exact hP, va_K.moved hW.alike hK, hD, hS.F ht⟩) hS.2.2 dL_isScanned_264 hlocks
              · replace hf := if_f c14 hf
                refine lv_iconst (v := 1) hx hb dL_isScanned_259 (by decide) ?_
                refine lv_goto (tgt := 264) hx hb dL_isScanned_260 (by decide) ?_
                obtain rfl := Option.some.inj hf
                refine W.widen (k := 12) (n := 72) (Nat.le_of_ble_eq_true rfl) (Nat.le_of_ble_eq_true rfl) ?_
                exact W.zret (v := 1) hx hb hr (by decide +kernel) (fun t ht hW => ⟨rfl, by rw [ht]; exact hP, va_K.moved hW.alike hK, hD, hS.F ht⟩) hS.2.2 dL_isScanned_264 hlocks
            · replace hf := if_t c13 hf
              refine lv_iload hx hb dL_isScanned_243 (lv_at hl 5 rfl) ?_
              refine lv_iconst (v := 1) hx hb dL_isScanned_245 (by decide) ?_
              refine lv_icmp_ne (tgt := 263) hx hb dL_isScanned_246 (by decide) (fun c15 => ?_) (fun c15 => ?_)
              · replace hf := if_f c15 hf
                refine lv_iconst (v := 0) hx hb dL_isScanned_263 (by decide) ?_
                obtain rfl := Option.some.inj hf
                refine W.widen (k := 12) (n := 72) (Nat.le_of_ble_eq_true rfl) (Nat.le_of_ble_eq_true rfl) ?_
                exact W.zret (v := 0) hx hb hr (by decide +kernel) (fun t ht hW => ⟨rfl, by rw [ht]; exact hP, va_K.moved hW.alike hK, hD, hS.F ht⟩) hS.2.2 dL_isScanned_264 hlocks
              · replace hf := if_t c15 hf
                refine lv_goto (tgt := 259) hx hb dL_isScanned_249 (by decide) ?_
                refine lv_iconst (v := 1) hx hb dL_isScanned_259 (by decide) ?_
                refine lv_goto (tgt := 264) hx hb dL_isScanned_260 (by decide) ?_
                obtain rfl := Option.some.inj hf
                refine W.widen (k := 12) (n := 72) (Nat.le_of_ble_eq_true rfl) (Nat.le_of_ble_eq_true rfl) ?_
                exact W.zret (v := 1) hx hb hr (by decide +kernel) (fun t ht hW => ⟨rfl, by rw [ht]; exact hP, va_K.moved hW.alike hK, hD, hS.F ht⟩) hS.2.2 dL_isScanned_264 hlocks
  have L186 : ∀ (x : FSt) (v1 : Int32) (v2 : Int32) (v3 : Int64) (v5 : Int32) (v6 : Int32) (v7 : Int32) (rec62 : Int64 × Int32 × Int32 × Int32 → Option (FSt × Int32)) (hrec62 : ∀ (v3 : Int64), ∀ (v5 : Int32), ∀ (v6 : Int32), ∀ (v7 : Int32), ∀ (H : Heap) (locs : List Loc) (ls : Array Slot), rec62 (v3, v5, v6, v7) = some res → va_P D vwCl (W_F cI cV vf a x) H → va_D A (W_F cI cV vf a x) → va_S A s.heap H locs → lv_has ls 12 [(0, .ref (a 0)), (1, .int v1), (2, .int v2), (3, .long v3), (5, .int v5), (6, .int v6), (7, .int v7)] → W p l e ({ frames := 10, cells := 12, slots := 72, locals := 230 } : Room) s m ([.ref (a 0), .int p1] : List Value).toArray below meth c H locs 0 0 (MQ below (QW D (TY cI cV cJ cD) (W_F cI cV vf a res.1) A (some (.int res.2))) (([.ref (a 0), .int p1] : List Value).toArray) s 12 72 A) (F0 m 62 ls [])) (H : Heap) (locs : List Loc) (ls : Array Slot), fL_isScanned_186 rec62 k x v1 v2 v3 v5 v6 v7  = some res → va_P D vwCl (W_F cI cV vf a x) H → va_D A (W_F cI cV vf a x) → va_S A s.heap H locs → lv_has ls 12 [(0, .ref (a 0)), (1, .int v1), (2, .int v2), (3, .long v3), (5, .int v5), (6, .int v6), (7, .int v7)] → W p l e ({ frames := 10, cells := 12, slots := 72, locals := 230 } : Room) s m ([.ref (a 0), .int p1] : List Value).toArray below meth c H locs 0 0 (MQ below (QW D (TY cI cV cJ cD) (W_F cI cV vf a res.1) A (some (.int res.2))) (([.ref (a 0), .int p1] : List Value).toArray) s 12 72 A) (F0 m 186 ls []) := by
    intro x v1 v2 v3 v5 v6 v7 rec62 hrec62 H locs ls hf hP hD hS hl
    dsimp only [fL_isScanned_186] at hf
    refine lv_aload_n hx hb dL_isScanned_186 rfl (lv_at hl 0 rfl) ?_
    refine lv_iload_n hx hb dL_isScanned_187 rfl (lv_at hl 1 rfl) ?_
    refine lv_iload hx hb dL_isScanned_188 (lv_at hl 4 rfl) ?_
    obtain ⟨u16, hc17, hf⟩ := bind_t hf
    rcases u16 with r18 | k19
    rotate_left
    · exact (thr_n hf).elim
    replace hf := thr_v hf rfl
    refine k_V (As := [.int v1, .int v5]) (rest := []) (n := 2) ⟨hx, hb, hml, hown, hts⟩ (met0_X7_next l k vf a hvf x v1 v5 r18 hc17) w645 w646 w647 w1 w648 ⟨rfl, by decide +kernel, by decide +kernel, by decide +kernel⟩ ⟨Nat.le_of_ble_eq_true rfl, Nat.le_of_ble_eq_true rfl⟩ hK hE hP hD hS hA (isC := [0, 1, 2, 3, 4, 5, 6, 7, 8, 9, 10, 11, 12, 13, 14, 15, 16, 17, 18, 19, 20, 21, 22, 23]) (isR := []) (isB := [0, 1, 2, 3, 4, 5, 6, 7, 8, 9, 10, 11, 12, 13, 14, 15, 16, 17, 18, 19, 20, 21, 22, 23]) (ws' := W_F cI cV vf a x) ⟨([] : List Nat).filterMap (fun i : Nat => (W_F cI cV vf a x : va_W)[i]?), rfl, rfl, rfl, rfl, by decide, rfl, rfl⟩ 0 6 rfl rfl rfl rfl hl.1 rfl (Nat.le_of_ble_eq_true rfl) dL_isScanned_190 ⟨Nat.le_of_ble_eq_true rfl, Nat.le_of_ble_eq_true rfl⟩ (fun H locs hP hD hS => ?_)
    try dsimp only at hf
    refine W.eq (g2 := F0 m 193 ls [.int r18]) rfl ?_
    refine lv_istore (lv' := [(5, .int r18), (0, .ref (a 0)), (1, .int v1), (2, .int v2), (3, .long v3), (6, .int v6), (7, .int v7)]) hx hb dL_isScanned_193 hl (by decide) rfl (fun ls hl => ?_)
    obtain ⟨y20, hy20⟩ : ∃ z : Int32, z = (v6 + 1) := ⟨_, rfl⟩
    replace hf := keep_e hf y20 hy20
    refine lv_iinc (v := y20) (lv' := [(6, .int y20), (5, .int r18), (0, .ref (a 0)), (1, .int v1), (2, .int v2), (3, .long v3), (7, .int v7)]) hx hb dL_isScanned_195 hl (k := 5) rfl (by rw [hy20]; rfl) (by decide) rfl (fun ls hl => ?_)
    refine lv_goto (tgt := 62) hx hb dL_isScanned_198 (by decide) ?_
    exact hrec62 v3 r18 y20 v7 H locs ls hf hP hD hS (lv_sub hl [2, 3, 4, 5, 1, 0, 6] rfl)
  have L163 : ∀ (x : FSt) (v1 : Int32) (v2 : Int32) (v5 : Int32) (v6 : Int32) (v7 : Int32) (v9 : Int32) (v10 : Int32) (s0 : Int64) (s1 : Int64) (rec62 : Int64 × Int32 × Int32 × Int32 → Option (FSt × Int32)) (hrec62 : ∀ (v3 : Int64), ∀ (v5 : Int32), ∀ (v6 : Int32), ∀ (v7 : Int32), ∀ (H : Heap) (locs : List Loc) (ls : Array Slot), rec62 (v3, v5, v6, v7) = some res → va_P D vwCl (W_F cI cV vf a x) H → va_D A (W_F cI cV vf a x) → va_S A s.heap H locs → lv_has ls 12 [(0, .ref (a 0)), (1, .int v1), (2, .int v2), (3, .long v3), (5, .int v5), (6, .int v6), (7, .int v7)] → W p l e ({ frames := 10, cells := 12, slots := 72, locals := 230 } : Room) s m ([.ref (a 0), .int p1] : List Value).toArray below meth c H locs 0 0 (MQ below (QW D (TY cI cV cJ cD) (W_F cI cV vf a res.1) A (some (.int res.2))) (([.ref (a 0), .int p1] : List Value).toArray) s 12 72 A) (F0 m 62 ls [])) (rec100 : Int64 × Int32 × Int32 × Int32 × Int32 → Option (FSt × Int32)) (hrec100 : ∀ (v3 : Int64), ∀ (v7 : Int32), ∀ (v8 : Int32), ∀ (v9 : Int32), ∀ (v10 : Int32), ∀ (H : Heap) (locs : List Loc) (ls : Array Slot), rec100 (v3, v7, v8, v9, v10) = some res → va_P D vwCl (W_F cI cV vf a x) H → va_D A (W_F cI cV vf a x) → va_S A s.heap H locs → lv_has ls 12 [(0, .ref (a 0)), (1, .int v1), (2, .int v2), (3, .long v3), (5, .int v5), (6, .int v6), (7, .int v7), (8, .int v8), (9, .int v9), (10, .int v10)] → W p l e ({ frames := 10, cells := 12, slots := 72, locals := 230 } : Room) s m ([.ref (a 0), .int p1] : List Value).toArray below meth c H locs 0 0 (MQ below (QW D (TY cI cV cJ cD) (W_F cI cV vf a res.1) A (some (.int res.2))) (([.ref (a 0), .int p1] : List Value).toArray) s 12 72 A) (F0 m 100 ls [])) (H : Heap) (locs : List Loc) (ls : Array Slot), fL_isScanned_163 rec62 rec100 k x v1 v2 v5 v6 v7 v9 v10 s0 s1  = some res → va_P D vwCl (W_F cI cV vf a x) H → va_D A (W_F cI cV vf a x) → va_S A s.heap H locs → lv_has ls 12 [(0, .ref (a 0)), (1, .int v1), (2, .int v2), (5, .int v5), (6, .int v6), (7, .int v7), (9, .int v9), (10, .int v10)] → W p l e ({ frames := 10, cells := 12, slots := 72, locals := 230 } : Room) s m ([.ref (a 0), .int p1] : List Value).toArray below meth c H locs 0 0 (MQ below (QW D (TY cI cV cJ cD) (W_F cI cV vf a res.1) A (some (.int res.2))) (([.ref (a 0), .int p1] : List Value).toArray) s 12 72 A) (F0 m 163 ls [.long s0, .long s1]) := by
    intro x v1 v2 v5 v6 v7 v9 v10 s0 s1 rec62 hrec62 rec100 hrec100 H locs ls hf hP hD hS hl
    dsimp only [fL_isScanned_163] at hf
    refine lv_lor hx hb dL_isScanned_163 ?_
    refine lv_topl (fun y21 hy21 => ?_)
    replace hf := keep_e hf y21 hy21
    refine lv_lstore_n (lv' := [(3, .long y21), (0, .ref (a 0)), (1, .int v1), (2, .int v2), (5, .int v5), (6, .int v6), (7, .int v7), (9, .int v9), (10, .int v10)]) hx hb dL_isScanned_164 rfl hl (by decide) rfl (fun ls hl => ?_)
    refine lv_iload hx hb dL_isScanned_165 (lv_at hl 7 rfl) ?_
    refine lv_istore (lv' := [(8, .int v9), (3, .long y21), (0, .ref (a 0)), (1, .int v1), (2, .int v2), (5, .int v5), (6, .int v6), (7, .int v7), (9, .int v9), (10, .int v10)]) hx hb dL_isScanned_167 hl (by decide) rfl (fun ls hl => ?_)
    refine lv_aload_n hx hb dL_isScanned_169 rfl (lv_at hl 2 rfl) ?_
    refine lv_iload_n hx hb dL_isScanned_170 rfl (lv_at hl 3 rfl) ?_
    refine lv_iload hx hb dL_isScanned_171 (lv_at hl 5 rfl) ?_
    refine lv_iload hx hb dL_isScanned_173 (lv_at hl 9 rfl) ?_
    obtain ⟨u22, hc23, hf⟩ := bind_t hf
    rcases u22 with r24 | k25
    rotate_left
    · exact (thr_n hf).elim
    replace hf := thr_v hf rfl
    refine k_V (As := [.int v1, .int v5, .int v10]) (rest := []) (n := 3) ⟨hx, hb, hml, hown, hts⟩ (met0_X7_scanned l k vf a hvf x v1 v5 v10 r24 hc23) w661 w662 w663 w1 w664 ⟨rfl, by decide +kernel, by decide +kernel, by decide +kernel⟩ ⟨Nat.le_of_ble_eq_true rfl, Nat.le_of_ble_eq_true rfl⟩ hK hE hP hD hS hA (isC := [0, 1, 2, 3, 4, 5, 6, 7, 8, 9, 10, 11, 12, 13, 14, 15, 16, 17, 18, 19, 20, 21, 22, 23]) (isR := []) (isB := [0, 1, 2, 3, 4, 5, 6, 7, 8, 9, 10, 11, 12, 13, 14, 15, 16, 17, 18, 19, 20, 21, 22, 23]) (ws' := W_F cI cV vf a x) ⟨([] : List Nat).filterMap (fun i : Nat => (W_F cI cV vf a x : va_W)[i]?), rfl, rfl, rfl, rfl, by decide, rfl, rfl⟩ 0 6 rfl rfl rfl rfl hl.1 rfl (Nat.le_of_ble_eq_true rfl) dL_isScanned_175 ⟨Nat.le_of_ble_eq_true rfl, Nat.le_of_ble_eq_true rfl⟩ (fun H locs hP hD hS => ?_)
    try dsimp only at hf
    refine W.eq (g2 := F0 m 178 ls [.int r24]) rfl ?_
    refine lv_istore (lv' := [(9, .int r24), (8, .int v9), (3, .long y21), (0, .ref (a 0)), (1, .int v1), (2, .int v2), (5, .int v5), (6, .int v6), (7, .int v7), (10, .int v10)]) hx hb dL_isScanned_178 hl (by decide) rfl (fun ls hl => ?_)
    obtain ⟨y26, hy26⟩ : ∃ z : Int32, z = (v10 + 1) := ⟨_, rfl⟩
    replace hf := keep_e hf y26 hy26
    refine lv_iinc (v := y26) (lv' := [(10, .int y26), (9, .int r24), (8, .int v9), (3, .long y21), (0, .ref (a 0)), (1, .int v1), (2, .int v2), (5, .int v5), (6, .int v6), (7, .int v7)]) hx hb dL_isScanned_180 hl (k := 9) rfl (by rw [hy26]; rfl) (by decide) rfl (fun ls hl => ?_)
    refine lv_goto (tgt := 100) hx hb dL_isScanned_183 (by decide) ?_
    exact hrec100 y21 v7 v9 r24 y26 H locs ls hf hP hD hS (lv_sub hl [4, 5, 6, 3, 7, 8, 9, 2, 1, 0] rfl)
  have L147 : ∀ (x : FSt) (v1 : Int32) (v2 : Int32) (v3 : Int64) (v5 : Int32) (v6 : Int32) (v9 : Int32) (v10 : Int32) (v11 : Int32) (s0 : Int32) (rec62 : Int64 × Int32 × Int32 × Int32 → Option (FSt × Int32)) (hrec62 : ∀ (v3 : Int64), ∀ (v5 : Int32), ∀ (v6 : Int32), ∀ (v7 : Int32), ∀ (H : Heap) (locs : List Loc) (ls : Array Slot), rec62 (v3, v5, v6, v7) = some res → va_P D vwCl (W_F cI cV vf a x) H → va_D A (W_F cI cV vf a x) → va_S A s.heap H locs → lv_has ls 12 [(0, .ref (a 0)), (1, .int v1), (2, .int v2), (3, .long v3), (5, .int v5), (6, .int v6), (7, .int v7)] → W p l e ({ frames := 10, cells := 12, slots := 72, locals := 230 } : Room) s m ([.ref (a 0), .int p1] : List Value).toArray below meth c H locs 0 0 (MQ below (QW D (TY cI cV cJ cD) (W_F cI cV vf a res.1) A (some (.int res.2))) (([.ref (a 0), .int p1] : List Value).toArray) s 12 72 A) (F0 m 62 ls [])) (rec100 : Int64 × Int32 × Int32 × Int32 × Int32 → Option (FSt × Int32)) (hrec100 : ∀ (v3 : Int64), ∀ (v7 : Int32), ∀ (v8 : Int32), ∀ (v9 : Int32), ∀ (v10 : Int32), ∀ (H : Heap) (locs : List Loc) (ls : Array Slot), rec100 (v3, v7, v8, v9, v10) = some res → va_P D vwCl (W_F cI cV vf a x) H → va_D A (W_F cI cV vf a x) → va_S A s.heap H locs → lv_has ls 12 [(0, .ref (a 0)), (1, .int v1), (2, .int v2), (3, .long v3), (5, .int v5), (6, .int v6), (7, .int v7), (8, .int v8), (9, .int v9), (10, .int v10)] → W p l e ({ frames := 10, cells := 12, slots := 72, locals := 230 } : Room) s m ([.ref (a 0), .int p1] : List Value).toArray below meth c H locs 0 0 (MQ below (QW D (TY cI cV cJ cD) (W_F cI cV vf a res.1) A (some (.int res.2))) (([.ref (a 0), .int p1] : List Value).toArray) s 12 72 A) (F0 m 100 ls [])) (H : Heap) (locs : List Loc) (ls : Array Slot), fL_isScanned_147 rec62 rec100 k x v1 v2 v3 v5 v6 v9 v10 v11 s0  = some res → va_P D vwCl (W_F cI cV vf a x) H → va_D A (W_F cI cV vf a x) → va_S A s.heap H locs → lv_has ls 12 [(0, .ref (a 0)), (1, .int v1), (2, .int v2), (3, .long v3), (5, .int v5), (6, .int v6), (9, .int v9), (10, .int v10), (11, .int v11)] → W p l e ({ frames := 10, cells := 12, slots := 72, locals := 230 } : Room) s m ([.ref (a 0), .int p1] : List Value).toArray below meth c H locs 0 0 (MQ below (QW D (TY cI cV cJ cD) (W_F cI cV vf a res.1) A (some (.int res.2))) (([.ref (a 0), .int p1] : List Value).toArray) s 12 72 A) (F0 m 147 ls [.int s0]) := by
    intro x v1 v2 v3 v5 v6 v9 v10 v11 s0 rec62 hrec62 rec100 hrec100 H locs ls hf hP hD hS hl
    dsimp only [fL_isScanned_147] at hf
    refine lv_istore (lv' := [(7, .int s0), (0, .ref (a 0)), (1, .int v1), (2, .int v2), (3, .long v3), (5, .int v5), (6, .int v6), (9, .int v9), (10, .int v10), (11, .int v11)]) hx hb dL_isScanned_147 hl (by decide) rfl (fun ls hl => ?_)
    refine lv_lload_n hx hb dL_isScanned_149 rfl (lv_at hl 4 rfl) ?_
    refine lv_iload hx hb dL_isScanned_150 (lv_at hl 9 rfl) ?_
    refine lv_if_ge (tgt := 159) hx hb dL_isScanned_152 (by decide) (fun c27 => ?_) (fun c27 => ?_)
    · replace hf := if_t c27 hf
      refine lv_lconst (v := 1) hx hb dL_isScanned_159 (by decide) ?_
      refine lv_iload hx hb dL_isScanned_160 (lv_at hl 9 rfl) ?_
      refine lv_lshl (v := (1 <<< ((v11 : Int32).toInt64 &&& 63))) hx hb dL_isScanned_162 rfl ?_
      exact L163 x v1 v2 v5 v6 s0 v9 v10 (1 <<< ((v11 : Int32).toInt64 &&& 63)) v3 rec62 hrec62 rec100 hrec100 H locs ls hf hP hD hS (lv_sub hl [1, 2, 3, 5, 6, 0, 7, 8] rfl)
    · replace hf := if_f c27 hf
      refine lv_lconst (v := 0) hx hb dL_isScanned_155 (by decide) ?_
      refine lv_goto (tgt := 163) hx hb dL_isScanned_156 (by decide) ?_
      exact L163 x v1 v2 v5 v6 s0 v9 v10 0 v3 rec62 hrec62 rec100 hrec100 H locs ls hf hP hD hS (lv_sub hl [1, 2, 3, 5, 6, 0, 7, 8] rfl)
  have L146 : ∀ (x : FSt) (v1 : Int32) (v2 : Int32) (v3 : Int64) (v5 : Int32) (v6 : Int32) (v9 : Int32) (v10 : Int32) (v11 : Int32) (rec62 : Int64 × Int32 × Int32 × Int32 → Option (FSt × Int32)) (hrec62 : ∀ (v3 : Int64), ∀ (v5 : Int32), ∀ (v6 : Int32), ∀ (v7 : Int32), ∀ (H : Heap) (locs : List Loc) (ls : Array Slot), rec62 (v3, v5, v6, v7) = some res → va_P D vwCl (W_F cI cV vf a x) H → va_D A (W_F cI cV vf a x) → va_S A s.heap H locs → lv_has ls 12 [(0, .ref (a 0)), (1, .int v1), (2, .int v2), (3, .long v3), (5, .int v5), (6, .int v6), (7, .int v7)] → W p l e ({ frames := 10, cells := 12, slots := 72, locals := 230 } : Room) s m ([.ref (a 0), .int p1] : List Value).toArray below meth c H locs 0 0 (MQ below (QW D (TY cI cV cJ cD) (W_F cI cV vf a res.1) A (some (.int res.2))) (([.ref (a 0), .int p1] : List Value).toArray) s 12 72 A) (F0 m 62 ls [])) (rec100 : Int64 × Int32 × Int32 × Int32 × Int32 → Option (FSt × Int32)) (hrec100 : ∀ (v3 : Int64), ∀ (v7 : Int32), ∀ (v8 : Int32), ∀ (v9 : Int32), ∀ (v10 : Int32), ∀ (H : Heap) (locs : List Loc) (ls : Array Slot), rec100 (v3, v7, v8, v9, v10) = some res → va_P D vwCl (W_F cI cV vf a x) H → va_D A (W_F cI cV vf a x) → va_S A s.heap H locs → lv_has ls 12 [(0, .ref (a 0)), (1, .int v1), (2, .int v2), (3, .long v3), (5, .int v5), (6, .int v6), (7, .int v7), (8, .int v8), (9, .int v9), (10, .int v10)] → W p l e ({ frames := 10, cells := 12, slots := 72, locals := 230 } : Room) s m ([.ref (a 0), .int p1] : List Value).toArray below meth c H locs 0 0 (MQ below (QW D (TY cI cV cJ cD) (W_F cI cV vf a res.1) A (some (.int res.2))) (([.ref (a 0), .int p1] : List Value).toArray) s 12 72 A) (F0 m 100 ls [])) (H : Heap) (locs : List Loc) (ls : Array Slot), fL_isScanned_146 rec62 rec100 k x v1 v2 v3 v5 v6 v9 v10 v11  = some res → va_P D vwCl (W_F cI cV vf a x) H → va_D A (W_F cI cV vf a x) → va_S A s.heap H locs → lv_has ls 12 [(0, .ref (a 0)), (1, .int v1), (2, .int v2), (3, .long v3), (5, .int v5), (6, .int v6), (9, .int v9), (10, .int v10), (11, .int v11)] → W p l e ({ frames := 10, cells := 12, slots := 72, locals := 230 } : Room) s m ([.ref (a 0), .int p1] : List Value).toArray below meth c H locs 0 0 (MQ below (QW D (TY cI cV cJ cD) (W_F cI cV vf a res.1) A (some (.int res.2))) (([.ref (a 0), .int p1] : List Value).toArray) s 12 72 A) (F0 m 146 ls []) := by
    intro x v1 v2 v3 v5 v6 v9 v10 v11 rec62 hrec62 rec100 hrec100 H locs ls hf hP hD hS hl
    dsimp only [fL_isScanned_146] at hf
    refine lv_iconst (v := 0) hx hb dL_isScanned_146 (by decide) ?_
    exact L147 x v1 v2 v3 v5 v6 v9 v10 v11 0 rec62 hrec62 rec100 hrec100 H locs ls hf hP hD hS (lv_sub hl [0, 1, 2, 3, 4, 5, 6, 7, 8] rfl)
  have S100 : ∀ (x : FSt) (v1 : Int32) (v2 : Int32) (v5 : Int32) (v6 : Int32) (rec62 : Int64 × Int32 × Int32 × Int32 → Option (FSt × Int32)) (hrec62 : ∀ (v3 : Int64), ∀ (v5 : Int32), ∀ (v6 : Int32), ∀ (v7 : Int32), ∀ (H : Heap) (locs : List Loc) (ls : Array Slot), rec62 (v3, v5, v6, v7) = some res → va_P D vwCl (W_F cI cV vf a x) H → va_D A (W_F cI cV vf a x) → va_S A s.heap H locs → lv_has ls 12 [(0, .ref (a 0)), (1, .int v1), (2, .int v2), (3, .long v3), (5, .int v5), (6, .int v6), (7, .int v7)] → W p l e ({ frames := 10, cells := 12, slots := 72, locals := 230 } : Room) s m ([.ref (a 0), .int p1] : List Value).toArray below meth c H locs 0 0 (MQ below (QW D (TY cI cV cJ cD) (W_F cI cV vf a res.1) A (some (.int res.2))) (([.ref (a 0), .int p1] : List Value).toArray) s 12 72 A) (F0 m 62 ls [])) (rec100 : Int64 × Int32 × Int32 × Int32 × Int32 → Option (FSt × Int32)) (hrec100 : ∀ (v3 : Int64), ∀ (v7 : Int32), ∀ (v8 : Int32), ∀ (v9 : Int32), ∀ (v10 : Int32), ∀ (H : Heap) (locs : List Loc) (ls : Array Slot), rec100 (v3, v7, v8, v9, v10) = some res → va_P D vwCl (W_F cI cV vf a x) H → va_D A (W_F cI cV vf a x) → va_S A s.heap H locs → lv_has ls 12 [(0, .ref (a 0)), (1, .int v1), (2, .int v2), (3, .long v3), (5, .int v5), (6, .int v6), (7, .int v7), (8, .int v8), (9, .int v9), (10, .int v10)] → W p l e ({ frames := 10, cells := 12, slots := 72, locals := 230 } : Room) s m ([.ref (a 0), .int p1] : List Value).toArray below meth c H locs 0 0 (MQ below (QW D (TY cI cV cJ cD) (W_F cI cV vf a res.1) A (some (.int res.2))) (([.ref (a 0), .int p1] : List Value).toArray) s 12 72 A) (F0 m 100 ls [])) (v3 : Int64) (v7 : Int32) (v8 : Int32) (v9 : Int32) (v10 : Int32) (H : Heap) (locs : List Loc) (ls : Array Slot), fL_isScanned_100 rec62 k x v1 v2 v5 v6  rec100 (v3, v7, v8, v9, v10) = some res → va_P D vwCl (W_F cI cV vf a x) H → va_D A (W_F cI cV vf a x) → va_S A s.heap H locs → lv_has ls 12 [(0, .ref (a 0)), (1, .int v1), (2, .int v2), (3, .long v3), (5, .int v5), (6, .int v6), (7, .int v7), (8, .int v8), (9, .int v9), (10, .int v10)] → W p l e ({ frames := 10, cells := 12, slots := 72, locals := 230 } : Room) s m ([.ref (a 0), .int p1] : List Value).toArray below meth c H locs 0 0 (MQ below (QW D (TY cI cV cJ cD) (W_F cI cV vf a res.1) A (some (.int res.2))) (([.ref (a 0), .int p1] : List Value).toArray) s 12 72 A) (F0 m 100 ls []) := by
    intro x v1 v2 v5 v6 rec62 hrec62 rec100 hrec100 v3 v7 v8 v9 v10 H locs ls hf hP hD hS hl
    dsimp only [fL_isScanned_100] at hf
    refine lv_iload hx hb dL_isScanned_100 (lv_at hl 8 rfl) ?_
    refine lv_if_lt (tgt := 186) hx hb dL_isScanned_102 (by decide) (fun c28 => ?_) (fun c28 => ?_)
    · replace hf := if_t c28 hf
      exact L186 x v1 v2 v3 v5 v6 v7 rec62 hrec62 H locs ls hf hP hD hS (lv_sub hl [0, 1, 2, 3, 4, 5, 6] rfl)
    · replace hf := if_f c28 hf
      refine lv_iload hx hb dL_isScanned_105 (lv_at hl 6 rfl) ?_
      refine lv_if_eq (tgt := 186) hx hb dL_isScanned_107 (by decide) (fun c29 => ?_) (fun c29 => ?_)
      · replace hf := if_t c29 hf
        exact L186 x v1 v2 v3 v5 v6 v7 rec62 hrec62 H locs ls hf hP hD hS (lv_sub hl [0, 1, 2, 3, 4, 5, 6] rfl)
      · replace hf := if_f c29 hf
        refine lv_aload_n hx hb dL_isScanned_110 rfl (lv_at hl 0 rfl) ?_
        refine lv_iload_n hx hb dL_isScanned_111 rfl (lv_at hl 1 rfl) ?_
        refine lv_iload hx hb dL_isScanned_112 (lv_at hl 8 rfl) ?_
        obtain ⟨u30, hc31, hf⟩ := bind_t hf
        rcases u30 with r32 | k33
        rotate_left
        · exact (thr_n hf).elim
        replace hf := thr_v hf rfl
        refine k_V (As := [.int v1, .int v9]) (rest := []) (n := 2) ⟨hx, hb, hml, hown, hts⟩ (met0_X7_indexOf l k vf a hvf x v1 v9 r32 hc31) w310 w311 w312 w1 w313 ⟨rfl, by decide +kernel, by decide +kernel, by decide +kernel⟩ ⟨Nat.le_of_ble_eq_true rfl, Nat.le_of_ble_eq_true rfl⟩ hK hE hP hD hS hA (isC := [0, 1, 2, 3, 4, 5, 6, 7, 8, 9, 10, 11, 12, 13, 14, 15, 16, 17, 18, 19, 20, 21, 22, 23]) (isR := []) (isB := [0, 1, 2, 3, 4, 5, 6, 7, 8, 9, 10, 11, 12, 13, 14, 15, 16, 17, 18, 19, 20, 21, 22, 23]) (ws' := W_F cI cV vf a x) ⟨([] : List Nat).filterMap (fun i : Nat => (W_F cI cV vf a x : va_W)[i]?), rfl, rfl, rfl, rfl, by decide, rfl, rfl⟩ 0 6 rfl rfl rfl rfl hl.1 rfl (Nat.le_of_ble_eq_true rfl) dL_isScanned_114 ⟨Nat.le_of_ble_eq_true rfl, Nat.le_of_ble_eq_true rfl⟩ (fun H locs hP hD hS => ?_)
        try dsimp only at hf
        refine W.eq (g2 := F0 m 117 ls [.int r32]) rfl ?_
        refine lv_istore (lv' := [(11, .int r32), (0, .ref (a 0)), (1, .int v1), (2, .int v2), (3, .long v3), (5, .int v5), (6, .int v6), (7, .int v7), (8, .int v8), (9, .int v9), (10, .int v10)]) hx hb dL_isScanned_117 hl (by decide) rfl (fun ls hl => ?_)
        refine lv_iload hx hb dL_isScanned_119 (lv_at hl 9 rfl) ?_
        refine lv_iload hx hb dL_isScanned_121 (lv_at hl 8 rfl) ?_
        refine lv_icmp_le (tgt := 146) hx hb dL_isScanned_123 (by decide) (fun c34 => ?_) (fun c34 => ?_)
        · replace hf := if_t c34 hf
          exact L146 x v1 v2 v3 v5 v6 v9 v10 r32 rec62 hrec62 rec100 hrec100 H locs ls hf hP hD hS (lv_sub hl [1, 2, 3, 4, 5, 6, 9, 10, 0] rfl)
        · replace hf := if_f c34 hf
          refine lv_iload hx hb dL_isScanned_126 (lv_at hl 0 rfl) ?_
          refine lv_if_lt (tgt := 146) hx hb dL_isScanned_128 (by decide) (fun c35 => ?_) (fun c35 => ?_)
          · replace hf := if_t c35 hf
            exact L146 x v1 v2 v3 v5 v6 v9 v10 r32 rec62 hrec62 rec100 hrec100 H locs ls hf hP hD hS (lv_sub hl [1, 2, 3, 4, 5, 6, 9, 10, 0] rfl)
          · replace hf := if_f c35 hf
            refine lv_lload_n hx hb dL_isScanned_131 rfl (lv_at hl 4 rfl) ?_
            refine lv_iload hx hb dL_isScanned_132 (lv_at hl 0 rfl) ?_
            refine lv_lshr (v := (v3 >>> ((r32 : Int32).toInt64 &&& 63))) hx hb dL_isScanned_134 rfl ?_
            refine lv_lconst (v := 1) hx hb dL_isScanned_135 (by decide) ?_
            refine lv_land hx hb dL_isScanned_136 ?_
            refine lv_lconst (v := 0) hx hb dL_isScanned_137 (by decide) ?_
            refine k_lcmp hx hb dL_isScanned_138 ?_
            refine lv_if_ne (tgt := 146) hx hb dL_isScanned_139 (by decide) (fun c36 => ?_) (fun c36 => ?_)
            · replace hf := if_f c36 hf
              exact L146 x v1 v2 v3 v5 v6 v9 v10 r32 rec62 hrec62 rec100 hrec100 H locs ls hf hP hD hS (lv_sub hl [1, 2, 3, 4, 5, 6, 9, 10, 0] rfl)
            · replace hf := if_t c36 hf
              refine lv_iconst (v := 1) hx hb dL_isScanned_142 (by decide) ?_
              refine lv_goto (tgt := 147) hx hb dL_isScanned_143 (by decide) ?_
              exact L147 x v1 v2 v3 v5 v6 v9 v10 r32 1 rec62 hrec62 rec100 hrec100 H locs ls hf hP hD hS (lv_sub hl [1, 2, 3, 4, 5, 6, 9, 10, 0] rfl)
  have L100 : ∀ (x : FSt) (v1 : Int32) (v2 : Int32) (v5 : Int32) (v6 : Int32) (rec62 : Int64 × Int32 × Int32 × Int32 → Option (FSt × Int32)) (hrec62 : ∀ (v3 : Int64), ∀ (v5 : Int32), ∀ (v6 : Int32), ∀ (v7 : Int32), ∀ (H : Heap) (locs : List Loc) (ls : Array Slot), rec62 (v3, v5, v6, v7) = some res → va_P D vwCl (W_F cI cV vf a x) H → va_D A (W_F cI cV vf a x) → va_S A s.heap H locs → lv_has ls 12 [(0, .ref (a 0)), (1, .int v1), (2, .int v2), (3, .long v3), (5, .int v5), (6, .int v6), (7, .int v7)] → W p l e ({ frames := 10, cells := 12, slots := 72, locals := 230 } : Room) s m ([.ref (a 0), .int p1] : List Value).toArray below meth c H locs 0 0 (MQ below (QW D (TY cI cV cJ cD) (W_F cI cV vf a res.1) A (some (.int res.2))) (([.ref (a 0), .int p1] : List Value).toArray) s 12 72 A) (F0 m 62 ls [])) (fu : Nat) (v3 : Int64) (v7 : Int32) (v8 : Int32) (v9 : Int32) (v10 : Int32) (H : Heap) (locs : List Loc) (ls : Array Slot), iterK fu (fL_isScanned_100 rec62 k x v1 v2 v5 v6 ) (v3, v7, v8, v9, v10) = some res → va_P D vwCl (W_F cI cV vf a x) H → va_D A (W_F cI cV vf a x) → va_S A s.heap H locs → lv_has ls 12 [(0, .ref (a 0)), (1, .int v1), (2, .int v2), (3, .long v3), (5, .int v5), (6, .int v6), (7, .int v7), (8, .int v8), (9, .int v9), (10, .int v10)] → W p l e ({ frames := 10, cells := 12, slots := 72, locals := 230 } : Room) s m ([.ref (a 0), .int p1] : List Value).toArray below meth c H locs 0 0 (MQ below (QW D (TY cI cV cJ cD) (W_F cI cV vf a res.1) A (some (.int res.2))) (([.ref (a 0), .int p1] : List Value).toArray) s 12 72 A) (F0 m 100 ls []) := by
    intro x v1 v2 v5 v6 rec62 hrec62 fu
    induction fu with
    | zero =>
      intro v3 v7 v8 v9 v10 H locs ls hf
      cases hf
    | succ fu ih =>
      intro v3 v7 v8 v9 v10 H locs ls hf hP hD hS hl
      exact S100 x v1 v2 v5 v6 rec62 hrec62 (iterK fu (fL_isScanned_100 rec62 k x v1 v2 v5 v6 )) ih v3 v7 v8 v9 v10 H locs ls hf hP hD hS hl
  have L77 : ∀ (x : FSt) (v1 : Int32) (v2 : Int32) (v3 : Int64) (v5 : Int32) (v6 : Int32) (v7 : Int32) (rec62 : Int64 × Int32 × Int32 × Int32 → Option (FSt × Int32)) (hrec62 : ∀ (v3 : Int64), ∀ (v5 : Int32), ∀ (v6 : Int32), ∀ (v7 : Int32), ∀ (H : Heap) (locs : List Loc) (ls : Array Slot), rec62 (v3, v5, v6, v7) = some res → va_P D vwCl (W_F cI cV vf a x) H → va_D A (W_F cI cV vf a x) → va_S A s.heap H locs → lv_has ls 12 [(0, .ref (a 0)), (1, .int v1), (2, .int v2), (3, .long v3), (5, .int v5), (6, .int v6), (7, .int v7)] → W p l e ({ frames := 10, cells := 12, slots := 72, locals := 230 } : Room) s m ([.ref (a 0), .int p1] : List Value).toArray below meth c H locs 0 0 (MQ below (QW D (TY cI cV cJ cD) (W_F cI cV vf a res.1) A (some (.int res.2))) (([.ref (a 0), .int p1] : List Value).toArray) s 12 72 A) (F0 m 62 ls [])) (H : Heap) (locs : List Loc) (ls : Array Slot), fL_isScanned_77 rec62 k x v1 v2 v3 v5 v6 v7  = some res → va_P D vwCl (W_F cI cV vf a x) H → va_D A (W_F cI cV vf a x) → va_S A s.heap H locs → lv_has ls 12 [(0, .ref (a 0)), (1, .int v1), (2, .int v2), (3, .long v3), (5, .int v5), (6, .int v6), (7, .int v7)] → W p l e ({ frames := 10, cells := 12, slots := 72, locals := 230 } : Room) s m ([.ref (a 0), .int p1] : List Value).toArray below meth c H locs 0 0 (MQ below (QW D (TY cI cV cJ cD) (W_F cI cV vf a res.1) A (some (.int res.2))) (([.ref (a 0), .int p1] : List Value).toArray) s 12 72 A) (F0 m 77 ls []) := by
    intro x v1 v2 v3 v5 v6 v7 rec62 hrec62 H locs ls hf hP hD hS hl
    dsimp only [fL_isScanned_77] at hf
    refine lv_iload hx hb dL_isScanned_77 (lv_at hl 5 rfl) ?_
    refine lv_bipush (v := 65) hx hb dL_isScanned_79 (by decide) ?_
    refine lv_icmp_ge (tgt := 201) hx hb dL_isScanned_81 (by decide) (fun c37 => ?_) (fun c37 => ?_)
    · replace hf := if_t c37 hf
      exact L201 x v1 v2 v3 v5 v6 v7 H locs ls hf hP hD hS (lv_sub hl [0, 1, 2, 3, 4, 5, 6] rfl)
    · replace hf := if_f c37 hf
      refine lv_iconst (v := (-1)) hx hb dL_isScanned_84 (by decide) ?_
      refine lv_istore (lv' := [(8, .int (-1)), (0, .ref (a 0)), (1, .int v1), (2, .int v2), (3, .long v3), (5, .int v5), (6, .int v6), (7, .int v7)]) hx hb dL_isScanned_85 hl (by decide) rfl (fun ls hl => ?_)
      refine lv_aload_n hx hb dL_isScanned_87 rfl (lv_at hl 1 rfl) ?_
      refine lv_iload_n hx hb dL_isScanned_88 rfl (lv_at hl 2 rfl) ?_
      refine lv_iload hx hb dL_isScanned_89 (lv_at hl 5 rfl) ?_
      refine lv_iconst (v := 0) hx hb dL_isScanned_91 (by decide) ?_
      obtain ⟨u38, hc39, hf⟩ := bind_t hf
      rcases u38 with r40 | k41
      rotate_left
      · exact (thr_n hf).elim
      replace hf := thr_v hf rfl
      refine k_V (As := [.int v1, .int v5, .int 0]) (rest := []) (n := 3) ⟨hx, hb, hml, hown, hts⟩ (met0_X7_scanned l k vf a hvf x v1 v5 0 r40 hc39) w661 w662 w663 w1 w664 ⟨rfl, by decide +kernel, by decide +kernel, by decide +kernel⟩ ⟨Nat.le_of_ble_eq_true rfl, Nat.le_of_ble_eq_true rfl⟩ hK hE hP hD hS hA (isC := [0, 1, 2, 3, 4, 5, 6, 7, 8, 9, 10, 11, 12, 13, 14, 15, 16, 17, 18, 19, 20, 21, 22, 23]) (isR := []) (isB := [0, 1, 2, 3, 4, 5, 6, 7, 8, 9, 10, 11, 12, 13, 14, 15, 16, 17, 18, 19, 20, 21, 22, 23]) (ws' := W_F cI cV vf a x) ⟨([] : List Nat).filterMap (fun i : Nat => (W_F cI cV vf a x : va_W)[i]?), rfl, rfl, rfl, rfl, by decide, rfl, rfl⟩ 0 6 rfl rfl rfl rfl hl.1 rfl (Nat.le_of_ble_eq_true rfl) dL_isScanned_92 ⟨Nat.le_of_ble_eq_true rfl, Nat.le_of_ble_eq_true rfl⟩ (fun H locs hP hD hS => ?_)
      try dsimp only at hf
      refine W.eq (g2 := F0 m 95 ls [.int r40]) rfl ?_
      refine lv_istore (lv' := [(9, .int r40), (8, .int (-1)), (0, .ref (a 0)), (1, .int v1), (2, .int v2), (3, .long v3), (5, .int v5), (6, .int v6), (7, .int v7)]) hx hb dL_isScanned_95 hl (by decide) rfl (fun ls hl => ?_)
      refine lv_iconst (v := 1) hx hb dL_isScanned_97 (by decide) ?_
      refine lv_istore (lv' := [(10, .int 1), (9, .int r40), (8, .int (-1)), (0, .ref (a 0)), (1, .int v1), (2, .int v2), (3, .long v3), (5, .int v5), (6, .int v6), (7, .int v7)]) hx hb dL_isScanned_98 hl (by decide) rfl (fun ls hl => ?_)
      exact L100 x v1 v2 v5 v6 rec62 hrec62 FU v3 v7 (-1) r40 1 H locs ls hf hP hD hS (lv_sub hl [3, 4, 5, 6, 7, 8, 9, 2, 1, 0] rfl)
  have S62 : ∀ (x : FSt) (v1 : Int32) (v2 : Int32) (rec62 : Int64 × Int32 × Int32 × Int32 → Option (FSt × Int32)) (hrec62 : ∀ (v3 : Int64), ∀ (v5 : Int32), ∀ (v6 : Int32), ∀ (v7 : Int32), ∀ (H : Heap) (locs : List Loc) (ls : Array Slot), rec62 (v3, v5, v6, v7) = some res → va_P D vwCl (W_F cI cV vf a x) H → va_D A (W_F cI cV vf a x) → va_S A s.heap H locs → lv_has ls 12 [(0, .ref (a 0)), (1, .int v1), (2, .int v2), (3, .long v3), (5, .int v5), (6, .int v6), (7, .int v7)] → W p l e ({ frames := 10, cells := 12, slots := 72, locals := 230 } : Room) s m ([.ref (a 0), .int p1] : List Value).toArray below meth c H locs 0 0 (MQ below (QW D (TY cI cV cJ cD) (W_F cI cV vf a res.1) A (some (.int res.2))) (([.ref (a 0), .int p1] : List Value).toArray) s 12 72 A) (F0 m 62 ls [])) (v3 : Int64) (v5 : Int32) (v6 : Int32) (v7 : Int32) (H : Heap) (locs : List Loc) (ls : Array Slot), fL_isScanned_62 k x v1 v2  rec62 (v3, v5, v6, v7) = some res → va_P D vwCl (W_F cI cV vf a x) H → va_D A (W_F cI cV vf a x) → va_S A s.heap H locs → lv_has ls 12 [(0, .ref (a 0)), (1, .int v1), (2, .int v2), (3, .long v3), (5, .int v5), (6, .int v6), (7, .int v7)] → W p l e ({ frames := 10, cells := 12, slots := 72, locals := 230 } : Room) s m ([.ref (a 0), .int p1] : List Value).toArray below meth c H locs 0 0 (MQ below (QW D (TY cI cV cJ cD) (W_F cI cV vf a res.1) A (some (.int res.2))) (([.ref (a 0), .int p1] : List Value).toArray) s 12 72 A) (F0 m 62 ls []) := by
    intro x v1 v2 rec62 hrec62 v3 v5 v6 v7 H locs ls hf hP hD hS hl
    dsimp only [fL_isScanned_62] at hf
    refine lv_iload hx hb dL_isScanned_62 (lv_at hl 6 rfl) ?_
    refine lv_if_eq (tgt := 201) hx hb dL_isScanned_64 (by decide) (fun c42 => ?_) (fun c42 => ?_)
    · replace hf := if_t c42 hf
      exact L201 x v1 v2 v3 v5 v6 v7 H locs ls hf hP hD hS (lv_sub hl [0, 1, 2, 3, 4, 5, 6] rfl)
    · replace hf := if_f c42 hf
      refine lv_iload hx hb dL_isScanned_67 (lv_at hl 4 rfl) ?_
      refine lv_if_gt (tgt := 77) hx hb dL_isScanned_69 (by decide) (fun c43 => ?_) (fun c43 => ?_)
      · replace hf := if_t c43 hf
        exact L77 x v1 v2 v3 v5 v6 v7 rec62 hrec62 H locs ls hf hP hD hS (lv_sub hl [0, 1, 2, 3, 4, 5, 6] rfl)
      · replace hf := if_f c43 hf
        refine lv_iload hx hb dL_isScanned_72 (lv_at hl 5 rfl) ?_
        refine lv_if_ne (tgt := 201) hx hb dL_isScanned_74 (by decide) (fun c44 => ?_) (fun c44 => ?_)
        · replace hf := if_f c44 hf
          exact L201 x v1 v2 v3 v5 v6 v7 H locs ls hf hP hD hS (lv_sub hl [0, 1, 2, 3, 4, 5, 6] rfl)
        · replace hf := if_t c44 hf
          exact L77 x v1 v2 v3 v5 v6 v7 rec62 hrec62 H locs ls hf hP hD hS (lv_sub hl [0, 1, 2, 3, 4, 5, 6] rfl)
  have L62 : ∀ (x : FSt) (v1 : Int32) (v2 : Int32) (fu : Nat) (v3 : Int64) (v5 : Int32) (v6 : Int32) (v7 : Int32) (H : Heap) (locs : List Loc) (ls : Array Slot), iterK fu (fL_isScanned_62 k x v1 v2 ) (v3, v5, v6, v7) = some res → va_P D vwCl (W_F cI cV vf a x) H → va_D A (W_F cI cV vf a x) → va_S A s.heap H locs → lv_has ls 12 [(0, .ref (a 0)), (1, .int v1), (2, .int v2), (3, .long v3), (5, .int v5), (6, .int v6), (7, .int v7)] → W p l e ({ frames := 10, cells := 12, slots := 72, locals := 230 } : Room) s m ([.ref (a 0), .int p1] : List Value).toArray below meth c H locs 0 0 (MQ below (QW D (TY cI cV cJ cD) (W_F cI cV vf a res.1) A (some (.int res.2))) (([.ref (a 0), .int p1] : List Value).toArray) s 12 72 A) (F0 m 62 ls []) := by
    intro x v1 v2 fu
    induction fu with
    | zero =>
      intro v3 v5 v6 v7 H locs ls hf
      cases hf
    | succ fu ih =>
      intro v3 v5 v6 v7 H locs ls hf hP hD hS hl
      exact S62 x v1 v2 (iterK fu (fL_isScanned_62 k x v1 v2 )) ih v3 v5 v6 v7 H locs ls hf hP hD hS hl
  have M0 : ∀ (H : Heap) (locs : List Loc) (ls : Array Slot), fL_isScanned k x p1 = some res → va_P D vwCl (W_F cI cV vf a x) H → va_D A (W_F cI cV vf a x) → va_S A s.heap H locs → lv_has ls 12 [(0, .ref (a 0)), (1, .int p1)] → W p l e ({ frames := 10, cells := 12, slots := 72, locals := 230 } : Room) s m ([.ref (a 0), .int p1] : List Value).toArray below meth c H locs 0 0 (MQ below (QW D (TY cI cV cJ cD) (W_F cI cV vf a res.1) A (some (.int res.2))) (([.ref (a 0), .int p1] : List Value).toArray) s 12 72 A) (F0 m 0 ls []) := by
    intro H locs ls hf hP hD hS hl
    dsimp only [fL_isScanned] at hf
    refine lv_aload_n hx hb dL_isScanned_0 rfl (lv_at hl 0 rfl) ?_
    refine lv_iload_n hx hb dL_isScanned_1 rfl (lv_at hl 1 rfl) ?_
    obtain ⟨u45, hc46, hf⟩ := bind_t hf
    rcases u45 with r47 | k48
    rotate_left
    · exact (thr_n hf).elim
    replace hf := thr_v hf rfl
    refine k_V (As := [.int p1]) (rest := []) (n := 1) ⟨hx, hb, hml, hown, hts⟩ (met0_X7_size l k vf a hvf x p1 r47 hc46) w298 w299 w300 w1 w301 ⟨rfl, by decide +kernel, by decide +kernel, by decide +kernel⟩ ⟨Nat.le_of_ble_eq_true rfl, Nat.le_of_ble_eq_true rfl⟩ hK hE hP hD hS hA (isC := [0, 1, 2, 3, 4, 5, 6, 7, 8, 9, 10, 11, 12, 13, 14, 15, 16, 17, 18, 19, 20, 21, 22, 23]) (isR := []) (isB := [0, 1, 2, 3, 4, 5, 6, 7, 8, 9, 10, 11, 12, 13, 14, 15, 16, 17, 18, 19, 20, 21, 22, 23]) (ws' := W_F cI cV vf a x) ⟨([] : List Nat).filterMap (fun i : Nat => (W_F cI cV vf a x : va_W)[i]?), rfl, rfl, rfl, rfl, by decide, rfl, rfl⟩ 0 6 rfl rfl rfl rfl hl.1 rfl (Nat.le_of_ble_eq_true rfl) dL_isScanned_2 ⟨Nat.le_of_ble_eq_true rfl, Nat.le_of_ble_eq_true rfl⟩ (fun H locs hP hD hS => ?_)
    try dsimp only at hf
    refine W.eq (g2 := F0 m 5 ls [.int r47]) rfl ?_
    refine lv_istore_n (lv' := [(2, .int r47), (0, .ref (a 0)), (1, .int p1)]) hx hb dL_isScanned_5 rfl hl (by decide) rfl (fun ls hl => ?_)
    refine lv_aload_n hx hb dL_isScanned_6 rfl (lv_at hl 1 rfl) ?_
    refine lv_iload_n hx hb dL_isScanned_7 rfl (lv_at hl 2 rfl) ?_
    obtain ⟨u49, hc50, hf⟩ := bind_t hf
    rcases u49 with r51 | k52
    rotate_left
    · exact (thr_n hf).elim
    replace hf := thr_v hf rfl
    refine k_V (As := [.int p1]) (rest := []) (n := 1) ⟨hx, hb, hml, hown, hts⟩ (met0_X7_typeOf l k vf a hvf x p1 r51 hc50) w205 w206 w207 w1 w208 ⟨rfl, by decide +kernel, by decide +kernel, by decide +kernel⟩ ⟨Nat.le_of_ble_eq_true rfl, Nat.le_of_ble_eq_true rfl⟩ hK hE hP hD hS hA (isC := [0, 1, 2, 3, 4, 5, 6, 7, 8, 9, 10, 11, 12, 13, 14, 15, 16, 17, 18, 19, 20, 21, 22, 23]) (isR := []) (isB := [0, 1, 2, 3, 4, 5, 6, 7, 8, 9, 10, 11, 12, 13, 14, 15, 16, 17, 18, 19, 20, 21, 22, 23]) (ws' := W_F cI cV vf a x) ⟨([] : List Nat).filterMap (fun i : Nat => (W_F cI cV vf a x : va_W)[i]?), rfl, rfl, rfl, rfl, by decide, rfl, rfl⟩ 0 6 rfl rfl rfl rfl hl.1 rfl (Nat.le_of_ble_eq_true rfl) dL_isScanned_8 ⟨Nat.le_of_ble_eq_true rfl, Nat.le_of_ble_eq_true rfl⟩ (fun H locs hP hD hS => ?_)
    try dsimp only at hf
    refine W.eq (g2 := F0 m 11 ls [.int r51]) rfl ?_
    refine lv_iconst (v := 2) hx hb dL_isScanned_11 (by decide) ?_
    refine lv_icmp_eq (tgt := 51) hx hb dL_isScanned_12 (by decide) (fun c53 => ?_) (fun c53 => ?_)
    · replace hf := if_t c53 hf
      refine lv_lconst (v := 0) hx hb dL_isScanned_51 (by decide) ?_
      refine lv_lstore_n (lv' := [(3, .long 0), (2, .int r47), (0, .ref (a 0)), (1, .int p1)]) hx hb dL_isScanned_52 rfl hl (by decide) rfl (fun ls hl => ?_)
      refine lv_iconst (v := 0) hx hb dL_isScanned_53 (by decide) ?_
      refine lv_istore (lv' := [(5, .int 0), (3, .long 0), (2, .int r47), (0, .ref (a 0)), (1, .int p1)]) hx hb dL_isScanned_54 hl (by decide) rfl (fun ls hl => ?_)
      refine lv_iconst (v := 0) hx hb dL_isScanned_56 (by decide) ?_
      refine lv_istore (lv' := [(6, .int 0), (5, .int 0), (3, .long 0), (2, .int r47), (0, .ref (a 0)), (1, .int p1)]) hx hb dL_isScanned_57 hl (by decide) rfl (fun ls hl => ?_)
      refine lv_iconst (v := 1) hx hb dL_isScanned_59 (by decide) ?_
      refine lv_istore (lv' := [(7, .int 1), (6, .int 0), (5, .int 0), (3, .long 0), (2, .int r47), (0, .ref (a 0)), (1, .int p1)]) hx hb dL_isScanned_60 hl (by decide) rfl (fun ls hl => ?_)
      exact L62 x p1 r47 FU 0 0 0 1 H locs ls hf hP hD hS (lv_sub hl [5, 6, 4, 3, 2, 1, 0] rfl)
    · replace hf := if_f c53 hf
      refine lv_aload_n hx hb dL_isScanned_15 rfl (lv_at hl 1 rfl) ?_
      refine lv_bipush (v := 13) hx hb dL_isScanned_16 (by decide) ?_
      refine lv_iload_n hx hb dL_isScanned_18 rfl (lv_at hl 2 rfl) ?_
      refine lv_iconst (v := 0) hx hb dL_isScanned_19 (by decide) ?_
      refine lv_iconst (v := 0) hx hb dL_isScanned_20 (by decide) ?_
      refine lv_iconst (v := 0) hx hb dL_isScanned_21 (by decide) ?_
      obtain ⟨u54, hc55, hf⟩ := bind_t hf
      refine k_SWQ (ws' := W_F cI cV vf a u54.1) (As := [.ref (a 0), .int 13, .int p1, .int 0, .int 0, .int 0]) (rest := []) (n := 6) ⟨hx, hb, hml, hown, hts⟩ (met_L_asks l hlt k vf a hvf x 13 p1 0 0 0 u54 hc55) w360 w361 w0 w362 ⟨by decide +kernel, by decide +kernel, by decide +kernel⟩ ⟨Nat.le_of_ble_eq_true rfl, Nat.le_of_ble_eq_true rfl⟩ hK hE hP hD hS hA (CutP_self _ _) rfl hl.1 rfl (Nat.le_of_ble_eq_true rfl) dL_isScanned_22 ⟨Nat.le_of_ble_eq_true rfl, Nat.le_of_ble_eq_true rfl⟩ (fun H locs hP hD hS => ?_)
      try dsimp only at hf
      refine W.eq (g2 := F0 m 25 ls [.int u54.2]) rfl ?_
      obtain ⟨x56, hx56⟩ : ∃ z, z = u54.1 := ⟨_, rfl⟩
      replace hf := keep_e hf x56 hx56
      have hP : va_P D vwCl (W_F cI cV vf a x56) H := by rw [hx56]; exact hP
      have hD : va_D A (W_F cI cV vf a x56) := by rw [hx56]; exact hD
      refine lv_bipush (v := (-108)) hx hb dL_isScanned_25 (by decide) ?_
      refine lv_icmp_ne (tgt := 49) hx hb dL_isScanned_27 (by decide) (fun c57 => ?_) (fun c57 => ?_)
      · replace hf := if_f c57 hf
        refine lv_iconst (v := 0) hx hb dL_isScanned_49 (by decide) ?_
        obtain rfl := Option.some.inj hf
        refine W.widen (k := 12) (n := 72) (Nat.le_of_ble_eq_true rfl) (Nat.le_of_ble_eq_true rfl) ?_
        exact W.zret (v := 0) hx hb hr (by decide +kernel) (fun t ht hW => ⟨rfl, by rw [ht]; exact hP, va_K.moved hW.alike hK, hD, hS.F ht⟩) hS.2.2 dL_isScanned_50 hlocks
      · replace hf := if_t c57 hf
        refine lv_aload_n hx hb dL_isScanned_30 rfl (lv_at hl 1 rfl) ?_
        refine lv_bipush (v := 14) hx hb dL_isScanned_31 (by decide) ?_
        refine lv_iload_n hx hb dL_isScanned_33 rfl (lv_at hl 2 rfl) ?_
        refine lv_iconst (v := 0) hx hb dL_isScanned_34 (by decide) ?_
        refine lv_iconst (v := 0) hx hb dL_isScanned_35 (by decide) ?_
        refine lv_iconst (v := 0) hx hb dL_isScanned_36 (by decide) ?_
        obtain ⟨u58, hc59, hf⟩ := bind_t hf
        refine k_SWQ (ws' := W_F cI cV vf a u58.1) (As := [.ref (a 0), .int 14, .int p1, .int 0, .int 0, .int 0]) (rest := []) (n := 6) ⟨hx, hb, hml, hown, hts⟩ (met_L_asks l hlt k vf a hvf x56 14 p1 0 0 0 u58 hc59) w360 w361 w0 w362 ⟨by decide +kernel, by decide +kernel, by decide +kernel⟩ ⟨Nat.le_of_ble_eq_true rfl, Nat.le_of_ble_eq_true rfl⟩ hK hE hP hD hS hA (CutP_self _ _) rfl hl.1 rfl (Nat.le_of_ble_eq_true rfl) dL_isScanned_37 ⟨Nat.le_of_ble_eq_true rfl, Nat.le_of_ble_eq_true rfl⟩ (fun H locs hP hD hS => ?_)
        try dsimp only at hf
        refine W.eq (g2 := F0 m 40 ls [.int u58.2]) rfl ?_
        obtain ⟨x60, hx60⟩ : ∃ z, z = u58.1 := ⟨_, rfl⟩
        replace hf := keep_e hf x60 hx60
        have hP : va_P D vwCl (W_F cI cV vf a x60) H := by rw [hx60]; exact hP
        have hD : va_D A (W_F cI cV vf a x60) := by rw [hx60]; exact hD
        refine lv_bipush (v := (-108)) hx hb dL_isScanned_40 (by decide) ?_
        refine lv_icmp_ne (tgt := 49) hx hb dL_isScanned_42 (by decide) (fun c61 => ?_) (fun c61 => ?_)
        · replace hf := if_f c61 hf
          refine lv_iconst (v := 0) hx hb dL_isScanned_49 (by decide) ?_
          obtain rfl := Option.some.inj hf
          exact W.zret (v := 0) hx hb hr (by decide +kernel) (fun t ht hW => ⟨rfl, by rw [ht]; exact hP, va_K.moved hW.alike hK, hD, hS.F ht⟩) hS.2.2 dL_isScanned_50 hlocks
        · replace hf := if_t c61 hf
          refine lv_iconst (v := 1) hx hb dL_isScanned_45 (by decide) ?_
          refine lv_goto (tgt := 50) hx hb dL_isScanned_46 (by decide) ?_
          obtain rfl := Option.some.inj hf
          exact W.zret (v := 1) hx hb hr (by decide +kernel) (fun t ht hW => ⟨rfl, by rw [ht]; exact hP, va_K.moved hW.alike hK, hD, hS.F ht⟩) hS.2.2 dL_isScanned_50 hlocks
  exact M0 s.heap [] ls hf hP hD hS hl
/-! CompactformsLaw.sum(LCompactforms;I)J -/
def fL_sum_95 (k : Nat) (x : FSt) (v1 : Int32) (v2 : Int32) (rec95 : Int64 × Int32 → Option (Int64)) (s : Int64 × Int32) : Option (Int64) := match s with | (v3, v5) => (if 12 ≤ v5 then some v3 else (if v2 = 4 then (fX7_waiting k x v1 (v5 / 4) (v5 - v5 / 4 * 4)).bind (fun u3 => thr u3 (fun k6 => none) (fun r5 => keep ((31 * v3) + (r5).toInt64) (fun y7 => keep (v5 + 1) (fun y8 => rec95 (y7, y8))))) else some v3))
def fL_sum_34 (k : Nat) (x : FSt) (v1 : Int32) (v2 : Int32) (rec34 : Int64 × Int32 → Option (Int64)) (s : Int64 × Int32) : Option (Int64) := match s with | (v3, v5) => (fX7_size k x v1).bind (fun u9 => thr u9 (fun k12 => none) (fun r11 => (if r11 ≤ v5 then iterK FU (fL_sum_95 k x v1 v2) (v3, 0) else (fX7_at k x v1 v5).bind (fun u14 => thr u14 (fun k17 => none) (fun r16 => keep ((1000003 * v3) + (r16).toInt64) (fun y18 => (if v2 = 3 then (fL_points k x v1 r16).bind (fun u22 => chk (n32 (FP.fmul 1090519040 u22)) (keep (y18 + (FP.f2l (FP.fmul 1090519040 u22))) (fun y25 => keep (v5 + 1) (fun y26 => rec34 (y25, y26))))) else keep (y18 + 0) (fun y20 => keep (v5 + 1) (fun y21 => rec34 (y20, y21))))))))))
def fL_sum (k : Nat) (x : FSt) (p1 : Int32) : Option (Int64) := (fX7_typeOf k x p1).bind (fun u27 => thr u27 (fun k30 => none) (fun r29 => (fX7_size k x p1).bind (fun u31 => thr u31 (fun k34 => none) (fun r33 => (fX7_left k x p1).bind (fun u35 => thr u35 (fun k38 => none) (fun r37 => keep ((31 * ((31 * (r29).toInt64) + (r33).toInt64)) + (r37).toInt64) (fun y39 => iterK FU (fL_sum_34 k x p1 r29) (y39, 0))))))))
set_option maxHeartbeats 4000000 in
set_option maxRecDepth 100000 in
theorem met_L_sum {D : va_G} {cI cV cJ cD : ClassId} (l : Launch) (hlt : l.stackTraces = false) (k : Nat) (vf : Nat → Option Nat) (a : Nat → Nat) (hvf : vf k = some (a 6)) (x : FSt) (p1 : Int32) (res : Int64) (hf : fL_sum k x p1 = some res) : MM l yL_sum cL_sum 7 (some .long) { frames := 10, cells := 0, slots := 0, locals := 188 } D (TY cI cV cJ cD) (W_F cI cV vf a x) (W_F cI cV vf a x) [.ref (a 0), .int p1] (some (.long res)) := by
  intro sz
  refine Met.ofW (cc := cL_sum) (maxL := 7) (ret := (some .long)) (by decide +kernel) rfl ?_
  intro p e s m args below meth c s₁ B hml hv
  obtain ⟨rfl, hsz, hP, hK, hD0, hE⟩ := hv
  have hx := B.exec
  have hb := B.bytes
  have hr := B.returns
  have hts := atoms_spec (ws := .code yL_sum cL_sum 7 (some .long) :: GW) B.pre
  have hg : ∀ w ∈ GW, w.before (([.ref (a 0), .int p1] : List Value).toArray) s = true := fun w h => hts w (List.mem_cons_of_mem _ h)
  have hown : s.vm.findClass RL = some m.cls := findClass_of_methodNamed B.named
  have hlocks := B.notSynchronized
  subst hsz
  have hD := hD0.self (sz := s.heap.size)
  generalize hAe : va_A (W_F cI cV vf a x) s.heap.size = A at hD hE ⊢
  have hA : ∀ q : Nat, s.heap.size ≤ q → A q := fun q h => by rw [← hAe]; exact Or.inr h
  have hS : va_S A s.heap s.heap [] := va_S.rf
  have hl := lv_entry ([.ref (a 0), .int p1]) (n := 7) (Nat.le_of_ble_eq_true rfl)
  rw [lg_entry_eq]
  generalize (lg_sl ([.ref (a 0), .int p1]) ++ List.replicate (7 - (lg_sl ([.ref (a 0), .int p1])).length) Slot.unset).toArray = ls at hl ⊢
  have hl : lv_has ls 7 [(0, .ref (a 0)), (1, .int p1)] := hl
  have S95 : ∀ (x : FSt) (v1 : Int32) (v2 : Int32) (rec95 : Int64 × Int32 → Option (Int64)) (hrec95 : ∀ (v3 : Int64), ∀ (v5 : Int32), ∀ (H : Heap) (locs : List Loc) (ls : Array Slot), rec95 (v3, v5) = some res → va_P D vwCl (W_F cI cV vf a x) H → va_D A (W_F cI cV vf a x) → va_S A s.heap H locs → lv_has ls 7 [(0, .ref (a 0)), (1, .int v1), (2, .int v2), (3, .long v3), (5, .int v5)] → W p l e ({ frames := 10, cells := 0, slots := 0, locals := 188 } : Room) s m ([.ref (a 0), .int p1] : List Value).toArray below meth c H locs 0 0 (MQ below (QW D (TY cI cV cJ cD) (W_F cI cV vf a x) A (some (.long res))) (([.ref (a 0), .int p1] : List Value).toArray) s 0 0 A) (F0 m 95 ls [])) (v3 : Int64) (v5 : Int32) (H : Heap) (locs : List Loc) (ls : Array Slot), fL_sum_95 k x v1 v2  rec95 (v3, v5) = some res → va_P D vwCl (W_F cI cV vf a x) H → va_D A (W_F cI cV vf a x) → va_S A s.heap H locs → lv_has ls 7 [(0, .ref (a 0)), (1, .int v1), (2, .int v2), (3, .long v3), (5, .int v5)] → W p l e ({ frames := 10, cells := 0, slots := 0, locals := 188 } : Room) s m ([.ref (a 0), .int p1] : List Value).toArray below meth c H locs 0 0 (MQ below (QW D (TY cI cV cJ cD) (W_F cI cV vf a x) A (some (.long res))) (([.ref (a 0), .int p1] : List Value).toArray) s 0 0 A) (F0 m 95 ls []) := by
    intro x v1 v2 rec95 hrec95 v3 v5 H locs ls hf hP hD hS hl
    dsimp only [fL_sum_95] at hf
    refine lv_iload hx hb dL_sum_95 (lv_at hl 4 rfl) ?_
    refine lv_bipush (v := 12) hx hb dL_sum_97 (by decide) ?_
    refine lv_icmp_ge (tgt := 134) hx hb dL_sum_99 (by decide) (fun c1 => ?_) (fun c1 => ?_)
    · replace hf := if_t c1 hf
      refine lv_lload_n hx hb dL_sum_134 rfl (lv_at hl 3 rfl) ?_
      obtain rfl := Option.some.inj hf
      exact W.lret (v := v3) hx hb hr (fun t ht hW => ⟨rfl, by rw [ht]; exact hP, va_K.moved hW.alike hK, hD, hS.F ht⟩) hS.2.2 dL_sum_135 hlocks
    · replace hf := if_f c1 hf
      refine lv_iload_n hx hb dL_sum_102 rfl (lv_at hl 2 rfl) ?_
      refine lv_iconst (v := 4) hx hb dL_sum_103 (by decide) ?_
      refine lv_icmp_ne (tgt := 134) hx hb dL_sum_104 (by decide) (fun c2 => ?_) (fun c2 => ?_)
      · replace hf := if_f c2 hf
        refine lv_lload_n hx hb dL_sum_134 rfl (lv_at hl 3 rfl) ?_
        obtain rfl := Option.some.inj hf
        exact W.lret (v := v3) hx hb hr (fun t ht hW => ⟨rfl, by rw [ht]; exact hP, va_K.moved hW.alike hK, hD, hS.F ht⟩) hS.2.2 dL_sum_135 hlocks
      · replace hf := if_t c2 hf
        refine lv_ldc2 (own := RL) (v := 31) hx hb hown (hg _ w741) dL_sum_107 ?_
        refine lv_lload_n hx hb dL_sum_110 rfl (lv_at hl 3 rfl) ?_
        refine lv_lmul hx hb dL_sum_111 ?_
        refine lv_aload_n hx hb dL_sum_112 rfl (lv_at hl 0 rfl) ?_
        refine lv_iload_n hx hb dL_sum_113 rfl (lv_at hl 1 rfl) ?_
        refine lv_iload hx hb dL_sum_114 (lv_at hl 4 rfl) ?_
        refine lv_iconst (v := 4) hx hb dL_sum_116 (by decide) ?_
        refine lv_idiv hx hb dL_sum_117 (by decide) ?_
        refine lv_iload hx hb dL_sum_118 (lv_at hl 4 rfl) ?_
        refine lv_iconst (v := 4) hx hb dL_sum_120 (by decide) ?_
        refine lv_irem hx hb dL_sum_121 (by decide) ?_
        obtain ⟨u3, hc4, hf⟩ := bind_t hf
        rcases u3 with r5 | k6
        rotate_left
        · exact (thr_n hf).elim
        replace hf := thr_v hf rfl
        refine k_V (As := [.int v1, .int (v5 / 4), .int (v5 - v5 / 4 * 4)]) (rest := [.long (31 * v3)]) (n := 3) ⟨hx, hb, hml, hown, hts⟩ (met0_X7_waiting l k vf a hvf x v1 (v5 / 4) (v5 - v5 / 4 * 4) r5 hc4) w685 w686 w687 w1 w688 ⟨rfl, by decide +kernel, by decide +kernel, by decide +kernel⟩ ⟨Nat.le_of_ble_eq_true rfl, Nat.le_of_ble_eq_true rfl⟩ hK hE hP hD hS hA (isC := [0, 1, 2, 3, 4, 5, 6, 7, 8, 9, 10, 11, 12, 13, 14, 15, 16, 17, 18, 19, 20, 21, 22, 23]) (isR := []) (isB := [0, 1, 2, 3, 4, 5, 6, 7, 8, 9, 10, 11, 12, 13, 14, 15, 16, 17, 18, 19, 20, 21, 22, 23]) (ws' := W_F cI cV vf a x) ⟨([] : List Nat).filterMap (fun i : Nat => (W_F cI cV vf a x : va_W)[i]?), rfl, rfl, rfl, rfl, by decide, rfl, rfl⟩ 0 6 rfl rfl rfl rfl hl.1 rfl (Nat.le_of_ble_eq_true rfl) dL_sum_122 ⟨Nat.le_of_ble_eq_true rfl, Nat.le_of_ble_eq_true rfl⟩ (fun H locs hP hD hS => ?_)
        try dsimp only at hf
        refine W.eq (g2 := F0 m 125 ls [.int r5, .long (31 * v3)]) rfl ?_
        refine lv_i2l (v := (r5).toInt64) hx hb dL_sum_125 rfl ?_
        refine lv_ladd hx hb dL_sum_126 ?_
        refine lv_topl (fun y7 hy7 => ?_)
        replace hf := keep_e hf y7 hy7
        refine lv_lstore_n (lv' := [(3, .long y7), (0, .ref (a 0)), (1, .int v1), (2, .int v2), (5, .int v5)]) hx hb dL_sum_127 rfl hl (by decide) rfl (fun ls hl => ?_)
        obtain ⟨y8, hy8⟩ : ∃ z : Int32, z = (v5 + 1) := ⟨_, rfl⟩
        replace hf := keep_e hf y8 hy8
        refine lv_iinc (v := y8) (lv' := [(5, .int y8), (3, .long y7), (0, .ref (a 0)), (1, .int v1), (2, .int v2)]) hx hb dL_sum_128 hl (k := 4) rfl (by rw [hy8]; rfl) (by decide) rfl (fun ls hl => ?_)
        refine lv_goto (tgt := 95) hx hb dL_sum_131 (by decide) ?_
        exact hrec95 y7 y8 H locs ls hf hP hD hS (lv_sub hl [2, 3, 4, 1, 0] rfl)
  have L95 : ∀ (x : FSt) (v1 : Int32) (v2 : Int32) (fu : Nat) (v3 : Int64) (v5 : Int32) (H : Heap) (locs : List Loc) (ls : Array Slot), iterK fu (fL_sum_95 k x v1 v2 ) (v3, v5) = some res → va_P D vwCl (W_F cI cV vf a x) H → va_D A (W_F cI cV vf a x) → va_S A s.heap H locs → lv_has ls 7 [(0, .ref (a 0)), (1, .int v1), (2, .int v2), (3, .long v3), (5, .int v5)] → W p l e ({ frames := 10, cells := 0, slots := 0, locals := 188 } : Room) s m ([.ref (a 0), .int p1] : List Value).toArray below meth c H locs 0 0 (MQ below (QW D (TY cI cV cJ cD) (W_F cI cV vf a x) A (some (.long res))) (([.ref (a 0), .int p1] : List Value).toArray) s 0 0 A) (F0 m 95 ls []) := by
    intro x v1 v2 fu
    induction fu with
    | zero =>
      intro v3 v5 H locs ls hf
      cases hf
    | succ fu ih =>
      intro v3 v5 H locs ls hf hP hD hS hl
      exact S95 x v1 v2 (iterK fu (fL_sum_95 k x v1 v2 )) ih v3 v5 H locs ls hf hP hD hS hl
  have S34 : ∀ (x : FSt) (v1 : Int32) (v2 : Int32) (rec34 : Int64 × Int32 → Option (Int64)) (hrec34 : ∀ (v3 : Int64), ∀ (v5 : Int32), ∀ (H : Heap) (locs : List Loc) (ls : Array Slot), rec34 (v3, v5) = some res → va_P D vwCl (W_F cI cV vf a x) H → va_D A (W_F cI cV vf a x) → va_S A s.heap H locs → lv_has ls 7 [(0, .ref (a 0)), (1, .int v1), (2, .int v2), (3, .long v3), (5, .int v5)] → W p l e ({ frames := 10, cells := 0, slots := 0, locals := 188 } : Room) s m ([.ref (a 0), .int p1] : List Value).toArray below meth c H locs 0 0 (MQ below (QW D (TY cI cV cJ cD) (W_F cI cV vf a x) A (some (.long res))) (([.ref (a 0), .int p1] : List Value).toArray) s 0 0 A) (F0 m 34 ls [])) (v3 : Int64) (v5 : Int32) (H : Heap) (locs : List Loc) (ls : Array Slot), fL_sum_34 k x v1 v2  rec34 (v3, v5) = some res → va_P D vwCl (W_F cI cV vf a x) H → va_D A (W_F cI cV vf a x) → va_S A s.heap H locs → lv_has ls 7 [(0, .ref (a 0)), (1, .int v1), (2, .int v2), (3, .long v3), (5, .int v5)] → W p l e ({ frames := 10, cells := 0, slots := 0, locals := 188 } : Room) s m ([.ref (a 0), .int p1] : List Value).toArray below meth c H locs 0 0 (MQ below (QW D (TY cI cV cJ cD) (W_F cI cV vf a x) A (some (.long res))) (([.ref (a 0), .int p1] : List Value).toArray) s 0 0 A) (F0 m 34 ls []) := by
    intro x v1 v2 rec34 hrec34 v3 v5 H locs ls hf hP hD hS hl
    dsimp only [fL_sum_34] at hf
    refine lv_iload hx hb dL_sum_34 (lv_at hl 4 rfl) ?_
    refine lv_aload_n hx hb dL_sum_36 rfl (lv_at hl 0 rfl) ?_
    refine lv_iload_n hx hb dL_sum_37 rfl (lv_at hl 1 rfl) ?_
    obtain ⟨u9, hc10, hf⟩ := bind_t hf
    rcases u9 with r11 | k12
    rotate_left
    · exact (thr_n hf).elim
    replace hf := thr_v hf rfl
    refine k_V (As := [.int v1]) (rest := [.int v5]) (n := 1) ⟨hx, hb, hml, hown, hts⟩ (met0_X7_size l k vf a hvf x v1 r11 hc10) w298 w299 w300 w1 w301 ⟨rfl, by decide +kernel, by decide +kernel, by decide +kernel⟩ ⟨Nat.le_of_ble_eq_true rfl, Nat.le_of_ble_eq_true rfl⟩ hK hE hP hD hS hA (isC := [0, 1, 2, 3, 4, 5, 6, 7, 8, 9, 10, 11, 12, 13, 14, 15, 16, 17, 18, 19, 20, 21, 22, 23]) (isR := []) (isB := [0, 1, 2, 3, 4, 5, 6, 7, 8, 9, 10, 11, 12, 13, 14, 15, 16, 17, 18, 19, 20, 21, 22, 23]) (ws' := W_F cI cV vf a x) ⟨([] : List Nat).filterMap (fun i : Nat => (W_F cI cV vf a x : va_W)[i]?), rfl, rfl, rfl, rfl, by decide, rfl, rfl⟩ 0 6 rfl rfl rfl rfl hl.1 rfl (Nat.le_of_ble_eq_true rfl) dL_sum_38 ⟨Nat.le_of_ble_eq_true rfl, Nat.le_of_ble_eq_true rfl⟩ (fun H locs hP hD hS => ?_)
    try dsimp only at hf
    refine W.eq (g2 := F0 m 41 ls [.int r11, .int v5]) rfl ?_
    refine lv_icmp_ge (tgt := 92) hx hb dL_sum_41 (by decide) (fun c13 => ?_) (fun c13 => ?_)
    · replace hf := if_t c13 hf
      refine lv_iconst (v := 0) hx hb dL_sum_92 (by decide) ?_
      refine lv_istore (lv' := [(5, .int 0), (0, .ref (a 0)), (1, .int v1), (2, .int v2), (3, .long v3)]) hx hb dL_sum_93 hl (by decide) rfl (fun ls hl => ?_)
      exact L95 x v1 v2 FU v3 0 H locs ls hf hP hD hS (lv_sub hl [1, 2, 3, 4, 0] rfl)
    · replace hf := if_f c13 hf
      refine lv_aload_n hx hb dL_sum_44 rfl (lv_at hl 0 rfl) ?_
      refine lv_iload_n hx hb dL_sum_45 rfl (lv_at hl 1 rfl) ?_
      refine lv_iload hx hb dL_sum_46 (lv_at hl 4 rfl) ?_
      obtain ⟨u14, hc15, hf⟩ := bind_t hf
      rcases u14 with r16 | k17
      rotate_left
      · exact (thr_n hf).elim
      replace hf := thr_v hf rfl
      refine k_V (As := [.int v1, .int v5]) (rest := []) (n := 2) ⟨hx, hb, hml, hown, hts⟩ (met0_X7_at l k vf a hvf x v1 v5 r16 hc15) w625 w626 w627 w1 w628 ⟨rfl, by decide +kernel, by decide +kernel, by decide +kernel⟩ ⟨Nat.le_of_ble_eq_true rfl, Nat.le_of_ble_eq_true rfl⟩ hK hE hP hD hS hA (isC := [0, 1, 2, 3, 4, 5, 6, 7, 8, 9, 10, 11, 12, 13, 14, 15, 16, 17, 18, 19, 20, 21, 22, 23]) (isR := []) (isB := [0, 1, 2, 3, 4, 5, 6, 7, 8, 9, 10, 11, 12, 13, 14, 15, 16, 17, 18, 19, 20, 21, 22, 23]) (ws' := W_F cI cV vf a x) ⟨([] : List Nat).filterMap (fun i : Nat => (W_F cI cV vf a x : va_W)[i]?), rfl, rfl, rfl, rfl, by decide, rfl, rfl⟩ 0 6 rfl rfl rfl rfl hl.1 rfl (Nat.le_of_ble_eq_true rfl) dL_sum_48 ⟨Nat.le_of_ble_eq_true rfl, Nat.le_of_ble_eq_true rfl⟩ (fun H locs hP hD hS => ?_)
      try dsimp only at hf
      refine W.eq (g2 := F0 m 51 ls [.int r16]) rfl ?_
      refine lv_istore (lv' := [(6, .int r16), (0, .ref (a 0)), (1, .int v1), (2, .int v2), (3, .long v3), (5, .int v5)]) hx hb dL_sum_51 hl (by decide) rfl (fun ls hl => ?_)
      refine lv_ldc2 (own := RL) (v := 1000003) hx hb hown (hg _ w742) dL_sum_53 ?_
      refine lv_lload_n hx hb dL_sum_56 rfl (lv_at hl 4 rfl) ?_
      refine lv_lmul hx hb dL_sum_57 ?_
      refine lv_iload hx hb dL_sum_58 (lv_at hl 0 rfl) ?_
      refine lv_i2l (v := (r16).toInt64) hx hb dL_sum_60 rfl ?_
      refine lv_ladd hx hb dL_sum_61 ?_
      refine lv_topl (fun y18 hy18 => ?_)
      replace hf := keep_e hf y18 hy18
      refine lv_lstore_n (lv' := [(3, .long y18), (6, .int r16), (0, .ref (a 0)), (1, .int v1), (2, .int v2), (5, .int v5)]) hx hb dL_sum_62 rfl hl (by decide) rfl (fun ls hl => ?_)
      refine lv_lload_n hx hb dL_sum_63 rfl (lv_at hl 0 rfl) ?_
      refine lv_iload_n hx hb dL_sum_64 rfl (lv_at hl 4 rfl) ?_
      refine lv_iconst (v := 3) hx hb dL_sum_65 (by decide) ?_
      refine lv_icmp_ne (tgt := 83) hx hb dL_sum_66 (by decide) (fun c19 => ?_) (fun c19 => ?_)
      · replace hf := if_f c19 hf
        refine lv_lconst (v := 0) hx hb dL_sum_83 (by decide) ?_
        refine lv_ladd hx hb dL_sum_84 ?_
        refine lv_topl (fun y20 hy20 => ?_)
        replace hf := keep_e hf y20 hy20
        refine lv_lstore_n (lv' := [(3, .long y20), (6, .int r16), (0, .ref (a 0)), (1, .int v1), (2, .int v2), (5, .int v5)]) hx hb dL_sum_85 rfl hl (by decide) rfl (fun ls hl => ?_)
        obtain ⟨y21, hy21⟩ : ∃ z : Int32, z = (v5 + 1) := ⟨_, rfl⟩
        replace hf := keep_e hf y21 hy21
        refine lv_iinc (v := y21) (lv' := [(5, .int y21), (3, .long y20), (6, .int r16), (0, .ref (a 0)), (1, .int v1), (2, .int v2)]) hx hb dL_sum_86 hl (k := 5) rfl (by rw [hy21]; rfl) (by decide) rfl (fun ls hl => ?_)
        refine lv_goto (tgt := 34) hx hb dL_sum_89 (by decide) ?_
        exact hrec34 y20 y21 H locs ls hf hP hD hS (lv_sub hl [3, 4, 5, 1, 0] rfl)
      · replace hf := if_t c19 hf
        refine lv_ldcf (own := RL) (v := 1090519040) hx hb hown (hg _ w743) dL_sum_69 ?_
        refine lv_aload_n hx hb dL_sum_71 rfl (lv_at hl 2 rfl) ?_
        refine lv_iload_n hx hb dL_sum_72 rfl (lv_at hl 3 rfl) ?_
        refine lv_iload hx hb dL_sum_73 (lv_at hl 1 rfl) ?_
        obtain ⟨u22, hc23, hf⟩ := bind_t hf
        refine k_SWQ (ws' := W_F cI cV vf a x) (As := [.ref (a 0), .int v1, .int r16]) (rest := [.float 1090519040, .long y18]) (n := 3) ⟨hx, hb, hml, hown, hts⟩ (met_L_points l hlt k vf a hvf x v1 r16 u22 hc23) w744 w745 w0 w746 ⟨by decide +kernel, by decide +kernel, by decide +kernel⟩ ⟨Nat.le_of_ble_eq_true rfl, Nat.le_of_ble_eq_true rfl⟩ hK hE hP hD hS hA (CutP_self _ _) rfl hl.1 rfl (Nat.le_of_ble_eq_true rfl) dL_sum_75 ⟨Nat.le_of_ble_eq_true rfl, Nat.le_of_ble_eq_true rfl⟩ (fun H locs hP hD hS => ?_)
        try dsimp only at hf
        refine W.eq (g2 := F0 m 78 ls [.float u22, .float 1090519040, .long y18]) rfl ?_
        obtain ⟨hz24, hf⟩ := chk_t hf
        refine lv_fmul hx hb dL_sum_78 (n32_t hz24) ?_
        refine lv_f2l hx hb dL_sum_79 ?_
        refine lv_goto (tgt := 84) hx hb dL_sum_80 (by decide) ?_
        refine lv_ladd hx hb dL_sum_84 ?_
        refine lv_topl (fun y25 hy25 => ?_)
        replace hf := keep_e hf y25 hy25
        refine lv_lstore_n (lv' := [(3, .long y25), (6, .int r16), (0, .ref (a 0)), (1, .int v1), (2, .int v2), (5, .int v5)]) hx hb dL_sum_85 rfl hl (by decide) rfl (fun ls hl => ?_)
        obtain ⟨y26, hy26⟩ : ∃ z : Int32, z = (v5 + 1) := ⟨_, rfl⟩
        replace hf := keep_e hf y26 hy26
        refine lv_iinc (v := y26) (lv' := [(5, .int y26), (3, .long y25), (6, .int r16), (0, .ref (a 0)), (1, .int v1), (2, .int v2)]) hx hb dL_sum_86 hl (k := 5) rfl (by rw [hy26]; rfl) (by decide) rfl (fun ls hl => ?_)
        refine lv_goto (tgt := 34) hx hb dL_sum_89 (by decide) ?_
        exact hrec34 y25 y26 H locs ls hf hP hD hS (lv_sub hl [3, 4, 5, 1, 0] rfl)
  have L34 : ∀ (x : FSt) (v1 : Int32) (v2 : Int32) (fu : Nat) (v3 : Int64) (v5 : Int32) (H : Heap) (locs : List Loc) (ls : Array Slot), iterK fu (fL_sum_34 k x v1 v2 ) (v3, v5) = some res → va_P D vwCl (W_F cI cV vf a x) H → va_D A (W_F cI cV vf a x) → va_S A s.heap H locs → lv_has ls 7 [(0, .ref (a 0)), (1, .int v1), (2, .int v2), (3, .long v3), (5, .int v5)] → W p l e ({ frames := 10, cells := 0, slots := 0, locals := 188 } : Room) s m ([.ref (a 0), .int p1] : List Value).toArray below meth c H locs 0 0 (MQ below (QW D (TY cI cV cJ cD) (W_F cI cV vf a x) A (some (.long res))) (([.ref (a 0), .int p1] : List Value).toArray) s 0 0 A) (F0 m 34 ls []) := by
    intro x v1 v2 fu
    induction fu with
    | zero =>
      intro v3 v5 H locs ls hf
      cases hf
    | succ fu ih =>
      intro v3 v5 H locs ls hf hP hD hS hl
      exact S34 x v1 v2 (iterK fu (fL_sum_34 k x v1 v2 )) ih v3 v5 H locs ls hf hP hD hS hl
  have M0 : ∀ (H : Heap) (locs : List Loc) (ls : Array Slot), fL_sum k x p1 = some res → va_P D vwCl (W_F cI cV vf a x) H → va_D A (W_F cI cV vf a x) → va_S A s.heap H locs → lv_has ls 7 [(0, .ref (a 0)), (1, .int p1)] → W p l e ({ frames := 10, cells := 0, slots := 0, locals := 188 } : Room) s m ([.ref (a 0), .int p1] : List Value).toArray below meth c H locs 0 0 (MQ below (QW D (TY cI cV cJ cD) (W_F cI cV vf a x) A (some (.long res))) (([.ref (a 0), .int p1] : List Value).toArray) s 0 0 A) (F0 m 0 ls []) := by
    intro H locs ls hf hP hD hS hl
    dsimp only [fL_sum] at hf
    refine lv_aload_n hx hb dL_sum_0 rfl (lv_at hl 0 rfl) ?_
    refine lv_iload_n hx hb dL_sum_1 rfl (lv_at hl 1 rfl) ?_
    obtain ⟨u27, hc28, hf⟩ := bind_t hf
    rcases u27 with r29 | k30
    rotate_left
    · exact (thr_n hf).elim
    replace hf := thr_v hf rfl
    refine k_V (As := [.int p1]) (rest := []) (n := 1) ⟨hx, hb, hml, hown, hts⟩ (met0_X7_typeOf l k vf a hvf x p1 r29 hc28) w205 w206 w207 w1 w208 ⟨rfl, by decide +kernel, by decide +kernel, by decide +kernel⟩ ⟨Nat.le_of_ble_eq_true rfl, Nat.le_of_ble_eq_true rfl⟩ hK hE hP hD hS hA (isC := [0, 1, 2, 3, 4, 5, 6, 7, 8, 9, 10, 11, 12, 13, 14, 15, 16, 17, 18, 19, 20, 21, 22, 23]) (isR := []) (isB := [0, 1, 2, 3, 4, 5, 6, 7, 8, 9, 10, 11, 12, 13, 14, 15, 16, 17, 18, 19, 20, 21, 22, 23]) (ws' := W_F cI cV vf a x) ⟨([] : List Nat).filterMap (fun i : Nat => (W_F cI cV vf a x : va_W)[i]?), rfl, rfl, rfl, rfl, by decide, rfl, rfl⟩ 0 6 rfl rfl rfl rfl hl.1 rfl (Nat.le_of_ble_eq_true rfl) dL_sum_2 ⟨Nat.le_of_ble_eq_true rfl, Nat.le_of_ble_eq_true rfl⟩ (fun H locs hP hD hS => ?_)
    try dsimp only at hf
    refine W.eq (g2 := F0 m 5 ls [.int r29]) rfl ?_
    refine lv_istore_n (lv' := [(2, .int r29), (0, .ref (a 0)), (1, .int p1)]) hx hb dL_sum_5 rfl hl (by decide) rfl (fun ls hl => ?_)
    refine lv_ldc2 (own := RL) (v := 31) hx hb hown (hg _ w741) dL_sum_6 ?_
    refine lv_ldc2 (own := RL) (v := 31) hx hb hown (hg _ w741) dL_sum_9 ?_
    refine lv_iload_n hx hb dL_sum_12 rfl (lv_at hl 0 rfl) ?_
    refine lv_i2l (v := (r29).toInt64) hx hb dL_sum_13 rfl ?_
    refine lv_lmul hx hb dL_sum_14 ?_
    refine lv_aload_n hx hb dL_sum_15 rfl (lv_at hl 1 rfl) ?_
    refine lv_iload_n hx hb dL_sum_16 rfl (lv_at hl 2 rfl) ?_
    obtain ⟨u31, hc32, hf⟩ := bind_t hf
    rcases u31 with r33 | k34
    rotate_left
    · exact (thr_n hf).elim
    replace hf := thr_v hf rfl
    refine k_V (As := [.int p1]) (rest := [.long (31 * (r29).toInt64), .long 31]) (n := 1) ⟨hx, hb, hml, hown, hts⟩ (met0_X7_size l k vf a hvf x p1 r33 hc32) w298 w299 w300 w1 w301 ⟨rfl, by decide +kernel, by decide +kernel, by decide +kernel⟩ ⟨Nat.le_of_ble_eq_true rfl, Nat.le_of_ble_eq_true rfl⟩ hK hE hP hD hS hA (isC := [0, 1, 2, 3, 4, 5, 6, 7, 8, 9, 10, 11, 12, 13, 14, 15, 16, 17, 18, 19, 20, 21, 22, 23]) (isR := []) (isB := [0, 1, 2, 3, 4, 5, 6, 7, 8, 9, 10, 11, 12, 13, 14, 15, 16, 17, 18, 19, 20, 21, 22, 23]) (ws' := W_F cI cV vf a x) ⟨([] : List Nat).filterMap (fun i : Nat => (W_F cI cV vf a x : va_W)[i]?), rfl, rfl, rfl, rfl, by decide, rfl, rfl⟩ 0 6 rfl rfl rfl rfl hl.1 rfl (Nat.le_of_ble_eq_true rfl) dL_sum_17 ⟨Nat.le_of_ble_eq_true rfl, Nat.le_of_ble_eq_true rfl⟩ (fun H locs hP hD hS => ?_)
    try dsimp only at hf
    refine W.eq (g2 := F0 m 20 ls [.int r33, .long (31 * (r29).toInt64), .long 31]) rfl ?_
    refine lv_i2l (v := (r33).toInt64) hx hb dL_sum_20 rfl ?_
    refine lv_ladd hx hb dL_sum_21 ?_
    refine lv_lmul hx hb dL_sum_22 ?_
    refine lv_aload_n hx hb dL_sum_23 rfl (lv_at hl 1 rfl) ?_
    refine lv_iload_n hx hb dL_sum_24 rfl (lv_at hl 2 rfl) ?_
    obtain ⟨u35, hc36, hf⟩ := bind_t hf
    rcases u35 with r37 | k38
    rotate_left
    · exact (thr_n hf).elim
    replace hf := thr_v hf rfl
    refine k_V (As := [.int p1]) (rest := [.long (31 * ((31 * (r29).toInt64) + (r33).toInt64))]) (n := 1) ⟨hx, hb, hml, hown, hts⟩ (met0_X7_left l k vf a hvf x p1 r37 hc36) w693 w694 w695 w1 w696 ⟨rfl, by decide +kernel, by decide +kernel, by decide +kernel⟩ ⟨Nat.le_of_ble_eq_true rfl, Nat.le_of_ble_eq_true rfl⟩ hK hE hP hD hS hA (isC := [0, 1, 2, 3, 4, 5, 6, 7, 8, 9, 10, 11, 12, 13, 14, 15, 16, 17, 18, 19, 20, 21, 22, 23]) (isR := []) (isB := [0, 1, 2, 3, 4, 5, 6, 7, 8, 9, 10, 11, 12, 13, 14, 15, 16, 17, 18, 19, 20, 21, 22, 23]) (ws' := W_F cI cV vf a x) ⟨([] : List Nat).filterMap (fun i : Nat => (W_F cI cV vf a x : va_W)[i]?), rfl, rfl, rfl, rfl, by decide, rfl, rfl⟩ 0 6 rfl rfl rfl rfl hl.1 rfl (Nat.le_of_ble_eq_true rfl) dL_sum_25 ⟨Nat.le_of_ble_eq_true rfl, Nat.le_of_ble_eq_true rfl⟩ (fun H locs hP hD hS => ?_)
    try dsimp only at hf
    refine W.eq (g2 := F0 m 28 ls [.int r37, .long (31 * ((31 * (r29).toInt64) + (r33).toInt64))]) rfl ?_
    refine lv_i2l (v := (r37).toInt64) hx hb dL_sum_28 rfl ?_
    refine lv_ladd hx hb dL_sum_29 ?_
    refine lv_topl (fun y39 hy39 => ?_)
    replace hf := keep_e hf y39 hy39
    refine lv_lstore_n (lv' := [(3, .long y39), (2, .int r29), (0, .ref (a 0)), (1, .int p1)]) hx hb dL_sum_30 rfl hl (by decide) rfl (fun ls hl => ?_)
    refine lv_iconst (v := 0) hx hb dL_sum_31 (by decide) ?_
    refine lv_istore (lv' := [(5, .int 0), (3, .long y39), (2, .int r29), (0, .ref (a 0)), (1, .int p1)]) hx hb dL_sum_32 hl (by decide) rfl (fun ls hl => ?_)
    exact L34 x p1 r29 FU y39 0 H locs ls hf hP hD hS (lv_sub hl [3, 4, 2, 1, 0] rfl)
  exact M0 s.heap [] ls hf hP hD hS hl

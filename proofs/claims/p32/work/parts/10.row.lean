/-! java/lang/Integer.compare(II)I -/
def fJ6_compare_7cf53 (p0 : Int32) (p1 : Int32) : Option (Int32) := (if p1 ≤ p0 then (if p0 = p1 then some 0 else some 1) else some (-1))
set_option maxHeartbeats 4000000 in
set_option maxRecDepth 100000 in
theorem met_J6_compare_7cf53 {D : va_G} {cI cV cJ cD : ClassId} (l : Launch) (p0 : Int32) (p1 : Int32) (res : Int32) (hf : fJ6_compare_7cf53 p0 p1 = some res) : MM l yJ6_compare_7cf53 cJ6_compare_7cf53 2 (some .int) { frames := 0, cells := 0, slots := 0, locals := 0 } D (TY cI cV cJ cD) ([]) ([]) [.int p0, .int p1] (some (.int res)) := by
  intro sz
  refine Met.ofW (cc := cJ6_compare_7cf53) (maxL := 2) (ret := (some .int)) (by decide +kernel) rfl ?_
  intro p e s m args below meth c s₁ B hml hv
  obtain ⟨rfl, hsz, hP, hK, hD0, hE⟩ := hv
  have hx := B.exec
  have hb := B.bytes
  have hr := B.returns
  have hts := atoms_spec (ws := .code yJ6_compare_7cf53 cJ6_compare_7cf53 2 (some .int) :: GW) B.pre
  have hg : ∀ w ∈ GW, w.before (([.int p0, .int p1] : List Value).toArray) s = true := fun w h => hts w (List.mem_cons_of_mem _ h)
  have hown : s.vm.findClass RJ6 = some m.cls := findClass_of_methodNamed B.named
  have hlocks := B.notSynchronized
  subst hsz
  have hD := hD0.self (sz := s.heap.size)
  generalize hAe : va_A ([]) s.heap.size = A at hD hE ⊢
  have hA : ∀ q : Nat, s.heap.size ≤ q → A q := fun q h => by rw [← hAe]; exact Or.inr h
  have hS : va_S A s.heap s.heap [] := va_S.rf
  have hl := lv_entry ([.int p0, .int p1]) (n := 2) (Nat.le_of_ble_eq_true rfl)
  rw [lg_entry_eq]
  generalize (lg_sl ([.int p0, .int p1]) ++ List.replicate (2 - (lg_sl ([.int p0, .int p1])).length) Slot.unset).toArray = ls at hl ⊢
  have hl : lv_has ls 2 [(0, .int p0), (1, .int p1)] := hl
  have M0 : ∀ (H : Heap) (locs : List Loc) (ls : Array Slot), fJ6_compare_7cf53 p0 p1 = some res → va_P D vwCl ([]) H → va_D A ([]) → va_S A s.heap H locs → lv_has ls 2 [(0, .int p0), (1, .int p1)] → W p l e ({ frames := 0, cells := 0, slots := 0, locals := 0 } : Room) s m ([.int p0, .int p1] : List Value).toArray below meth c H locs 0 0 (MQ below (QW D (TY cI cV cJ cD) ([]) A (some (.int res))) (([.int p0, .int p1] : List Value).toArray) s 0 0 A) (F0 m 0 ls []) := by
    intro H locs ls hf hP hD hS hl
    dsimp only [fJ6_compare_7cf53] at hf
    refine lv_iload_n hx hb dJ6_compare_7cf53_0 rfl (lv_at hl 0 rfl) ?_
    refine lv_iload_n hx hb dJ6_compare_7cf53_1 rfl (lv_at hl 1 rfl) ?_
    refine lv_icmp_ge (tgt := 9) hx hb dJ6_compare_7cf53_2 (by decide) (fun c1 => ?_) (fun c1 => ?_)
    · replace hf := if_t c1 hf
      refine lv_iload_n hx hb dJ6_compare_7cf53_9 rfl (lv_at hl 0 rfl) ?_
      refine lv_iload_n hx hb dJ6_compare_7cf53_10 rfl (lv_at hl 1 rfl) ?_
      refine lv_icmp_ne (tgt := 18) hx hb dJ6_compare_7cf53_11 (by decide) (fun c2 => ?_) (fun c2 => ?_)
      · replace hf := if_f c2 hf
        refine lv_iconst (v := 1) hx hb dJ6_compare_7cf53_18 (by decide) ?_
        obtain rfl := Option.some.inj hf
        exact W.iret (v := 1) hx hb hr (fun t ht hW => ⟨rfl, by rw [ht]; exact hP, va_K.moved hW.alike hK, hD, hS.F ht⟩) hS.2.2 dJ6_compare_7cf53_19 hlocks
      · replace hf := if_t c2 hf
        refine lv_iconst (v := 0) hx hb dJ6_compare_7cf53_14 (by decide) ?_
        refine lv_goto (tgt := 19) hx hb dJ6_compare_7cf53_15 (by decide) ?_
        obtain rfl := Option.some.inj hf
        exact W.iret (v := 0) hx hb hr (fun t ht hW => ⟨rfl, by rw [ht]; exact hP, va_K.moved hW.alike hK, hD, hS.F ht⟩) hS.2.2 dJ6_compare_7cf53_19 hlocks
    · replace hf := if_f c1 hf
      refine lv_iconst (v := (-1)) hx hb dJ6_compare_7cf53_5 (by decide) ?_
      refine lv_goto (tgt := 19) hx hb dJ6_compare_7cf53_6 (by decide) ?_
      obtain rfl := Option.some.inj hf
      exact W.iret (v := (-1)) hx hb hr (fun t ht hW => ⟨rfl, by rw [ht]; exact hP, va_K.moved hW.alike hK, hD, hS.F ht⟩) hS.2.2 dJ6_compare_7cf53_19 hlocks
  exact M0 s.heap [] ls hf hP hD hS hl
/-! java/util/Arrays.fill([II)V -/
def fJ7_fill_53178_5 (n : Nat) (v1 : Int32) (v3 : Int32) (rec5 : IA × Int32 → Option (IA)) (s : IA × Int32) : Option (IA) := match s with | (x, v2) => (if v3 ≤ v2 then some x else chk (inb v2 n) (keep (upd x (v2).toNatClampNeg v1) (fun x3 => keep (v2 + 1) (fun y4 => rec5 (x3, y4)))))
def fJ7_fill_53178 (n : Nat) (x : IA) (p1 : Int32) : Option (IA) := keep (nI n) (fun y5 => iterK FU (fJ7_fill_53178_5 n p1 y5) (x, 0))
set_option maxHeartbeats 4000000 in
set_option maxRecDepth 100000 in
theorem met_J7_fill_53178 {D : va_G} {cI cV cJ cD : ClassId} (l : Launch) (n : Nat) (a : Nat → Nat) (x : IA) (p1 : Int32) (res : IA) (hf : fJ7_fill_53178 n x p1 = some res) : MM l yJ7_fill_53178 cJ7_fill_53178 4 none { frames := 0, cells := 0, slots := 0, locals := 0 } D (TY cI cV cJ cD) (W_Arr cI n a x) (W_Arr cI n a res) [.ref (a 0), .int p1] none := by
  intro sz
  refine Met.ofW (cc := cJ7_fill_53178) (maxL := 4) (ret := none) (by decide +kernel) rfl ?_
  intro p e s m args below meth c s₁ B hml hv
  obtain ⟨rfl, hsz, hP, hK, hD0, hE⟩ := hv
  have hx := B.exec
  have hb := B.bytes
  have hr := B.returns
  have hts := atoms_spec (ws := .code yJ7_fill_53178 cJ7_fill_53178 4 none :: GW) B.pre
  have hg : ∀ w ∈ GW, w.before (([.ref (a 0), .int p1] : List Value).toArray) s = true := fun w h => hts w (List.mem_cons_of_mem _ h)
  have hown : s.vm.findClass RJ7 = some m.cls := findClass_of_methodNamed B.named
  have hlocks := B.notSynchronized
  subst hsz
  have hD := hD0.self (sz := s.heap.size)
  generalize hAe : va_A (W_Arr cI n a x) s.heap.size = A at hD hE ⊢
  have hA : ∀ q : Nat, s.heap.size ≤ q → A q := fun q h => by rw [← hAe]; exact Or.inr h
  have hS : va_S A s.heap s.heap [] := va_S.rf
  have hl := lv_entry ([.ref (a 0), .int p1]) (n := 4) (Nat.le_of_ble_eq_true rfl)
  rw [lg_entry_eq]
  generalize (lg_sl ([.ref (a 0), .int p1]) ++ List.replicate (4 - (lg_sl ([.ref (a 0), .int p1])).length) Slot.unset).toArray = ls at hl ⊢
  have hl : lv_has ls 4 [(0, .ref (a 0)), (1, .int p1)] := hl
  have S5 : ∀ (v1 : Int32) (v3 : Int32) (rec5 : IA × Int32 → Option (IA)) (hrec5 : ∀ (x : IA), ∀ (v2 : Int32), ∀ (H : Heap) (locs : List Loc) (ls : Array Slot), rec5 (x, v2) = some res → va_P D vwCl (W_Arr cI n a x) H → va_D A (W_Arr cI n a x) → va_S A s.heap H locs → lv_has ls 4 [(0, .ref (a 0)), (1, .int v1), (2, .int v2), (3, .int v3)] → W p l e ({ frames := 0, cells := 0, slots := 0, locals := 0 } : Room) s m ([.ref (a 0), .int p1] : List Value).toArray below meth c H locs 0 0 (MQ below (QW D (TY cI cV cJ cD) (W_Arr cI n a res) A none) (([.ref (a 0), .int p1] : List Value).toArray) s 0 0 A) (F0 m 5 ls [])) (x : IA) (v2 : Int32) (H : Heap) (locs : List Loc) (ls : Array Slot), fJ7_fill_53178_5 n v1 v3  rec5 (x, v2) = some res → va_P D vwCl (W_Arr cI n a x) H → va_D A (W_Arr cI n a x) → va_S A s.heap H locs → lv_has ls 4 [(0, .ref (a 0)), (1, .int v1), (2, .int v2), (3, .int v3)] → W p l e ({ frames := 0, cells := 0, slots := 0, locals := 0 } : Room) s m ([.ref (a 0), .int p1] : List Value).toArray below meth c H locs 0 0 (MQ below (QW D (TY cI cV cJ cD) (W_Arr cI n a res) A none) (([.ref (a 0), .int p1] : List Value).toArray) s 0 0 A) (F0 m 5 ls []) := by
    intro v1 v3 rec5 hrec5 x v2 H locs ls hf hP hD hS hl
    dsimp only [fJ7_fill_53178_5] at hf
    refine lv_iload_n hx hb dJ7_fill_53178_5 rfl (lv_at hl 2 rfl) ?_
    refine lv_iload_n hx hb dJ7_fill_53178_6 rfl (lv_at hl 3 rfl) ?_
    refine lv_icmp_ge (tgt := 20) hx hb dJ7_fill_53178_7 (by decide) (fun c1 => ?_) (fun c1 => ?_)
    · replace hf := if_t c1 hf
      obtain rfl := Option.some.inj hf
      exact W.vret hx hb hr (fun t ht hW => ⟨rfl, by rw [ht]; exact hP, va_K.moved hW.alike hK, hD, hS.F ht⟩) hS.2.2 dJ7_fill_53178_20 hlocks
    · replace hf := if_f c1 hf
      refine lv_aload_n hx hb dJ7_fill_53178_10 rfl (lv_at hl 0 rfl) ?_
      refine lv_iload_n hx hb dJ7_fill_53178_11 rfl (lv_at hl 2 rfl) ?_
      refine lv_iload_n hx hb dJ7_fill_53178_12 rfl (lv_at hl 1 rfl) ?_
      obtain ⟨hi2, hf⟩ := chk_t hf
      refine va_iast hx hb hK hP hD hS 0 0 rfl rfl (inb_in hi2) dJ7_fill_53178_13 (fun H locs hP hD hS => ?_)
      obtain ⟨x3, hx3⟩ : ∃ z, z = (upd x (v2).toNatClampNeg v1) := ⟨_, rfl⟩
      replace hf := keep_e hf x3 hx3
      have hP : va_P D vwCl (W_Arr cI n a x3) H := by rw [hx3]; exact hP
      have hD : va_D A (W_Arr cI n a x3) := by rw [hx3]; exact hD
      obtain ⟨y4, hy4⟩ : ∃ z : Int32, z = (v2 + 1) := ⟨_, rfl⟩
      replace hf := keep_e hf y4 hy4
      refine lv_iinc (v := y4) (lv' := [(2, .int y4), (0, .ref (a 0)), (1, .int v1), (3, .int v3)]) hx hb dJ7_fill_53178_14 hl (k := 2) rfl (by rw [hy4]; rfl) (by decide) rfl (fun ls hl => ?_)
      refine lv_goto (tgt := 5) hx hb dJ7_fill_53178_17 (by decide) ?_
      exact hrec5 x3 y4 H locs ls hf hP hD hS (lv_sub hl [1, 2, 0, 3] rfl)
  have L5 : ∀ (v1 : Int32) (v3 : Int32) (fu : Nat) (x : IA) (v2 : Int32) (H : Heap) (locs : List Loc) (ls : Array Slot), iterK fu (fJ7_fill_53178_5 n v1 v3 ) (x, v2) = some res → va_P D vwCl (W_Arr cI n a x) H → va_D A (W_Arr cI n a x) → va_S A s.heap H locs → lv_has ls 4 [(0, .ref (a 0)), (1, .int v1), (2, .int v2), (3, .int v3)] → W p l e ({ frames := 0, cells := 0, slots := 0, locals := 0 } : Room) s m ([.ref (a 0), .int p1] : List Value).toArray below meth c H locs 0 0 (MQ below (QW D (TY cI cV cJ cD) (W_Arr cI n a res) A none) (([.ref (a 0), .int p1] : List Value).toArray) s 0 0 A) (F0 m 5 ls []) := by
    intro v1 v3 fu
    induction fu with
    | zero =>
      intro x v2 H locs ls hf
      cases hf
    | succ fu ih =>
      intro x v2 H locs ls hf hP hD hS hl
      exact S5 v1 v3 (iterK fu (fJ7_fill_53178_5 n v1 v3 )) ih x v2 H locs ls hf hP hD hS hl
  have M0 : ∀ (H : Heap) (locs : List Loc) (ls : Array Slot), fJ7_fill_53178 n x p1 = some res → va_P D vwCl (W_Arr cI n a x) H → va_D A (W_Arr cI n a x) → va_S A s.heap H locs → lv_has ls 4 [(0, .ref (a 0)), (1, .int p1)] → W p l e ({ frames := 0, cells := 0, slots := 0, locals := 0 } : Room) s m ([.ref (a 0), .int p1] : List Value).toArray below meth c H locs 0 0 (MQ below (QW D (TY cI cV cJ cD) (W_Arr cI n a res) A none) (([.ref (a 0), .int p1] : List Value).toArray) s 0 0 A) (F0 m 0 ls []) := by
    intro H locs ls hf hP hD hS hl
    dsimp only [fJ7_fill_53178] at hf
    refine lv_iconst (v := 0) hx hb dJ7_fill_53178_0 (by decide) ?_
    refine lv_istore_n (lv' := [(2, .int 0), (0, .ref (a 0)), (1, .int p1)]) hx hb dJ7_fill_53178_1 rfl hl (by decide) rfl (fun ls hl => ?_)
    refine lv_aload_n hx hb dJ7_fill_53178_2 rfl (lv_at hl 1 rfl) ?_
    refine va_alen hx hb hK hP 0 0 rfl rfl rfl dJ7_fill_53178_3 ?_
    refine lv_topi (fun y5 hy5 => ?_)
    replace hf := keep_e hf y5 hy5
    refine lv_istore_n (lv' := [(3, .int y5), (2, .int 0), (0, .ref (a 0)), (1, .int p1)]) hx hb dJ7_fill_53178_4 rfl hl (by decide) rfl (fun ls hl => ?_)
    exact L5 p1 y5 FU x 0 H locs ls hf hP hD hS (lv_sub hl [2, 3, 1, 0] rfl)
  exact M0 s.heap [] ls hf hP hD hS hl
/-! Compactforms$Row.orderOf(I)I -/
def fX4_orderOf (p0 : Int32) : Option (Int32) := (if 0 ≤ p0 then some p0 else some (p0 ^^^ 2147483647))
set_option maxHeartbeats 4000000 in
set_option maxRecDepth 100000 in
theorem met_X4_orderOf {D : va_G} {cI cV cJ cD : ClassId} (l : Launch) (p0 : Int32) (res : Int32) (hf : fX4_orderOf p0 = some res) : MM l yX4_orderOf cX4_orderOf 1 (some .int) { frames := 0, cells := 0, slots := 0, locals := 0 } D (TY cI cV cJ cD) ([]) ([]) [.int p0] (some (.int res)) := by
  intro sz
  refine Met.ofW (cc := cX4_orderOf) (maxL := 1) (ret := (some .int)) (by decide +kernel) rfl ?_
  intro p e s m args below meth c s₁ B hml hv
  obtain ⟨rfl, hsz, hP, hK, hD0, hE⟩ := hv
  have hx := B.exec
  have hb := B.bytes
  have hr := B.returns
  have hts := atoms_spec (ws := .code yX4_orderOf cX4_orderOf 1 (some .int) :: GW) B.pre
  have hg : ∀ w ∈ GW, w.before (([.int p0] : List Value).toArray) s = true := fun w h => hts w (List.mem_cons_of_mem _ h)
  have hown : s.vm.findClass RX4 = some m.cls := findClass_of_methodNamed B.named
  have hlocks := B.notSynchronized
  subst hsz
  have hD := hD0.self (sz := s.heap.size)
  generalize hAe : va_A ([]) s.heap.size = A at hD hE ⊢
  have hA : ∀ q : Nat, s.heap.size ≤ q → A q := fun q h => by rw [← hAe]; exact Or.inr h
  have hS : va_S A s.heap s.heap [] := va_S.rf
  have hl := lv_entry ([.int p0]) (n := 1) (Nat.le_of_ble_eq_true rfl)
  rw [lg_entry_eq]
  generalize (lg_sl ([.int p0]) ++ List.replicate (1 - (lg_sl ([.int p0])).length) Slot.unset).toArray = ls at hl ⊢
  have hl : lv_has ls 1 [(0, .int p0)] := hl
  have M0 : ∀ (H : Heap) (locs : List Loc) (ls : Array Slot), fX4_orderOf p0 = some res → va_P D vwCl ([]) H → va_D A ([]) → va_S A s.heap H locs → lv_has ls 1 [(0, .int p0)] → W p l e ({ frames := 0, cells := 0, slots := 0, locals := 0 } : Room) s m ([.int p0] : List Value).toArray below meth c H locs 0 0 (MQ below (QW D (TY cI cV cJ cD) ([]) A (some (.int res))) (([.int p0] : List Value).toArray) s 0 0 A) (F0 m 0 ls []) := by
    intro H locs ls hf hP hD hS hl
    dsimp only [fX4_orderOf] at hf
    refine lv_iload_n hx hb dX4_orderOf_0 rfl (lv_at hl 0 rfl) ?_
    refine lv_if_ge (tgt := 11) hx hb dX4_orderOf_1 (by decide) (fun c1 => ?_) (fun c1 => ?_)
    · replace hf := if_t c1 hf
      refine lv_iload_n hx hb dX4_orderOf_11 rfl (lv_at hl 0 rfl) ?_
      obtain rfl := Option.some.inj hf
      exact W.iret (v := p0) hx hb hr (fun t ht hW => ⟨rfl, by rw [ht]; exact hP, va_K.moved hW.alike hK, hD, hS.F ht⟩) hS.2.2 dX4_orderOf_12 hlocks
    · replace hf := if_f c1 hf
      refine lv_iload_n hx hb dX4_orderOf_4 rfl (lv_at hl 0 rfl) ?_
      refine lv_ldc (own := RX4) (v := 2147483647) hx hb hown (hg _ w532) dX4_orderOf_5 ?_
      refine lv_ixor hx hb dX4_orderOf_7 ?_
      refine lv_goto (tgt := 12) hx hb dX4_orderOf_8 (by decide) ?_
      obtain rfl := Option.some.inj hf
      exact W.iret (v := (p0 ^^^ 2147483647)) hx hb hr (fun t ht hW => ⟨rfl, by rw [ht]; exact hP, va_K.moved hW.alike hK, hD, hS.F ht⟩) hS.2.2 dX4_orderOf_12 hlocks
  exact M0 s.heap [] ls hf hP hD hS hl
/-! Compactforms$Row.countAhead(II)I -/
def fX4_countAhead_8 (n : Nat) (x : RSt) (v1 : Int32) (v3 : Int32) (rec8 : Int32 → Option (Int32)) (v4 : Int32) : Option (Int32) := (if (rwN x) ≤ v4 then some (rwN x) else chk (inb v4 n) ((fX4_orderOf ((rwP x) (v4).toNatClampNeg)).bind (fun u3 => (fJ6_compare_7cf53 u3 v3).bind (fun u5 => (if 0 < u5 then some v4 else (if u5 = 0 then chk (inb v4 n) ((if ((rwE x) (v4).toNatClampNeg) < v1 then keep (v4 + 1) (fun y12 => rec8 y12) else some v4)) else keep (v4 + 1) (fun y9 => rec8 y9)))))))
def fX4_countAhead (n : Nat) (x : RSt) (p1 : Int32) (p2 : Int32) : Option (Int32) := (fX4_orderOf p2).bind (fun u13 => iterK FU (fX4_countAhead_8 n x p1 u13) 0)
set_option maxHeartbeats 4000000 in
set_option maxRecDepth 100000 in
theorem met_X4_countAhead {D : va_G} {cI cV cJ cD : ClassId} (l : Launch) (n : Nat) (a : Nat → Nat) (x : RSt) (p1 : Int32) (p2 : Int32) (res : Int32) (hf : fX4_countAhead n x p1 p2 = some res) : MM l yX4_countAhead cX4_countAhead 6 (some .int) { frames := 1, cells := 0, slots := 0, locals := 21 } D (TY cI cV cJ cD) (W_Row cI n a x) (W_Row cI n a x) [.ref (a 0), .int p1, .int p2] (some (.int res)) := by
  intro sz
  refine Met.ofW (cc := cX4_countAhead) (maxL := 6) (ret := (some .int)) (by decide +kernel) rfl ?_
  intro p e s m args below meth c s₁ B hml hv
  obtain ⟨rfl, hsz, hP, hK, hD0, hE⟩ := hv
  have hx := B.exec
  have hb := B.bytes
  have hr := B.returns
  have hts := atoms_spec (ws := .code yX4_countAhead cX4_countAhead 6 (some .int) :: GW) B.pre
  have hg : ∀ w ∈ GW, w.before (([.ref (a 0), .int p1, .int p2] : List Value).toArray) s = true := fun w h => hts w (List.mem_cons_of_mem _ h)
  have hown : s.vm.findClass RX4 = some m.cls := findClass_of_methodNamed B.named
  have hlocks := B.notSynchronized
  subst hsz
  have hD := hD0.self (sz := s.heap.size)
  generalize hAe : va_A (W_Row cI n a x) s.heap.size = A at hD hE ⊢
  have hA : ∀ q : Nat, s.heap.size ≤ q → A q := fun q h => by rw [← hAe]; exact Or.inr h
  have hS : va_S A s.heap s.heap [] := va_S.rf
  have hl := lv_entry ([.ref (a 0), .int p1, .int p2]) (n := 6) (Nat.le_of_ble_eq_true rfl)
  rw [lg_entry_eq]
  generalize (lg_sl ([.ref (a 0), .int p1, .int p2]) ++ List.replicate (6 - (lg_sl ([.ref (a 0), .int p1, .int p2])).length) Slot.unset).toArray = ls at hl ⊢
  have hl : lv_has ls 6 [(0, .ref (a 0)), (1, .int p1), (2, .int p2)] := hl
  have S8 : ∀ (x : RSt) (v1 : Int32) (v3 : Int32) (rec8 : Int32 → Option (Int32)) (hrec8 : ∀ (v4 : Int32), ∀ (H : Heap) (locs : List Loc) (ls : Array Slot), rec8 v4 = some res → va_P D vwCl (W_Row cI n a x) H → va_D A (W_Row cI n a x) → va_S A s.heap H locs → lv_has ls 6 [(0, .ref (a 0)), (1, .int v1), (3, .int v3), (4, .int v4)] → W p l e ({ frames := 1, cells := 0, slots := 0, locals := 21 } : Room) s m ([.ref (a 0), .int p1, .int p2] : List Value).toArray below meth c H locs 0 0 (MQ below (QW D (TY cI cV cJ cD) (W_Row cI n a x) A (some (.int res))) (([.ref (a 0), .int p1, .int p2] : List Value).toArray) s 0 0 A) (F0 m 8 ls [])) (v4 : Int32) (H : Heap) (locs : List Loc) (ls : Array Slot), fX4_countAhead_8 n x v1 v3  rec8 v4 = some res → va_P D vwCl (W_Row cI n a x) H → va_D A (W_Row cI n a x) → va_S A s.heap H locs → lv_has ls 6 [(0, .ref (a 0)), (1, .int v1), (3, .int v3), (4, .int v4)] → W p l e ({ frames := 1, cells := 0, slots := 0, locals := 21 } : Room) s m ([.ref (a 0), .int p1, .int p2] : List Value).toArray below meth c H locs 0 0 (MQ below (QW D (TY cI cV cJ cD) (W_Row cI n a x) A (some (.int res))) (([.ref (a 0), .int p1, .int p2] : List Value).toArray) s 0 0 A) (F0 m 8 ls []) := by
    intro x v1 v3 rec8 hrec8 v4 H locs ls hf hP hD hS hl
    dsimp only [fX4_countAhead_8] at hf
    refine lv_iload hx hb dX4_countAhead_8 (lv_at hl 3 rfl) ?_
    refine lv_aload_n hx hb dX4_countAhead_10 rfl (lv_at hl 0 rfl) ?_
    refine va_get (D := D) (ci := 3) (v := .int (rwN x)) (C := RX4) (T := TX4) (N := 3) hx hb hg in_X4 hown hK hP 0 rfl rfl 2 (by decide) (hg _ w62) (fun _ h9 => h9) rfl dX4_countAhead_11 ?_
    refine lv_icmp_ge (tgt := 63) hx hb dX4_countAhead_14 (by decide) (fun c1 => ?_) (fun c1 => ?_)
    · replace hf := if_t c1 hf
      refine lv_aload_n hx hb dX4_countAhead_63 rfl (lv_at hl 0 rfl) ?_
      refine va_get (D := D) (ci := 3) (v := .int (rwN x)) (C := RX4) (T := TX4) (N := 3) hx hb hg in_X4 hown hK hP 0 rfl rfl 2 (by decide) (hg _ w62) (fun _ h9 => h9) rfl dX4_countAhead_64 ?_
      obtain rfl := Option.some.inj hf
      exact W.iret (v := (rwN x)) hx hb hr (fun t ht hW => ⟨rfl, by rw [ht]; exact hP, va_K.moved hW.alike hK, hD, hS.F ht⟩) hS.2.2 dX4_countAhead_67 hlocks
    · replace hf := if_f c1 hf
      refine lv_aload_n hx hb dX4_countAhead_17 rfl (lv_at hl 0 rfl) ?_
      refine va_get (D := D) (ci := 3) (v := .ref (a 2)) (C := RX4) (T := TX4) (N := 3) hx hb hg in_X4 hown hK hP 0 rfl rfl 1 (by decide) (hg _ w61) (fun _ h9 => h9) rfl dX4_countAhead_18 ?_
      refine lv_iload hx hb dX4_countAhead_21 (lv_at hl 3 rfl) ?_
      obtain ⟨hi2, hf⟩ := chk_t hf
      refine va_iald hx hb hK hP 2 0 rfl rfl (inb_in hi2) dX4_countAhead_23 ?_
      obtain ⟨u3, hc4, hf⟩ := bind_t hf
      refine k_S (As := [.int ((rwP x) (v4).toNatClampNeg)]) (rest := []) (n := 1) ⟨hx, hb, hml, hown, hts⟩ (met_X4_orderOf l ((rwP x) (v4).toNatClampNeg) u3 hc4) w529 w530 w5 w531 ⟨by decide +kernel, by decide +kernel, by decide +kernel⟩ ⟨Nat.le_of_ble_eq_true rfl, Nat.le_of_ble_eq_true rfl⟩ hK hE hP hD hS hA (isC := []) (isR := [0, 1, 2]) (isB := [0, 1, 2]) (ws' := W_Row cI n a x) ⟨([0, 1, 2] : List Nat).filterMap (fun i : Nat => (W_Row cI n a x : va_W)[i]?), rfl, rfl, rfl, rfl, by decide, rfl, rfl⟩ rfl hl.1 rfl (Nat.le_of_ble_eq_true rfl) dX4_countAhead_24 ⟨Nat.le_of_ble_eq_true rfl, Nat.le_of_ble_eq_true rfl⟩ (fun H locs hP hD hS => ?_)
      try dsimp only at hf
      refine W.eq (g2 := F0 m 27 ls [.int u3]) rfl ?_
      refine lv_iload_n hx hb dX4_countAhead_27 rfl (lv_at hl 2 rfl) ?_
      obtain ⟨u5, hc6, hf⟩ := bind_t hf
      refine k_S (As := [.int u3, .int v3]) (rest := []) (n := 2) ⟨hx, hb, hml, hown, hts⟩ (met_J6_compare_7cf53 l u3 v3 u5 hc6) w533 w534 w17 w535 ⟨by decide +kernel, by decide +kernel, by decide +kernel⟩ ⟨Nat.le_of_ble_eq_true rfl, Nat.le_of_ble_eq_true rfl⟩ hK hE hP hD hS hA (isC := []) (isR := [0, 1, 2]) (isB := [0, 1, 2]) (ws' := W_Row cI n a x) ⟨([0, 1, 2] : List Nat).filterMap (fun i : Nat => (W_Row cI n a x : va_W)[i]?), rfl, rfl, rfl, rfl, by decide, rfl, rfl⟩ rfl hl.1 rfl (Nat.le_of_ble_eq_true rfl) dX4_countAhead_28 ⟨Nat.le_of_ble_eq_true rfl, Nat.le_of_ble_eq_true rfl⟩ (fun H locs hP hD hS => ?_)
      try dsimp only at hf
      refine W.eq (g2 := F0 m 31 ls [.int u5]) rfl ?_
      refine lv_istore (lv' := [(5, .int u5), (0, .ref (a 0)), (1, .int v1), (3, .int v3), (4, .int v4)]) hx hb dX4_countAhead_31 hl (by decide) rfl (fun ls hl => ?_)
      refine lv_iload hx hb dX4_countAhead_33 (lv_at hl 0 rfl) ?_
      refine lv_if_gt (tgt := 54) hx hb dX4_countAhead_35 (by decide) (fun c7 => ?_) (fun c7 => ?_)
      · replace hf := if_t c7 hf
        refine lv_iload hx hb dX4_countAhead_54 (lv_at hl 4 rfl) ?_
        obtain rfl := Option.some.inj hf
        exact W.iret (v := v4) hx hb hr (fun t ht hW => ⟨rfl, by rw [ht]; exact hP, va_K.moved hW.alike hK, hD, hS.F ht⟩) hS.2.2 dX4_countAhead_56 hlocks
      · replace hf := if_f c7 hf
        refine lv_iload hx hb dX4_countAhead_38 (lv_at hl 0 rfl) ?_
        refine lv_if_ne (tgt := 57) hx hb dX4_countAhead_40 (by decide) (fun c8 => ?_) (fun c8 => ?_)
        · replace hf := if_f c8 hf
          obtain ⟨y9, hy9⟩ : ∃ z : Int32, z = (v4 + 1) := ⟨_, rfl⟩
          replace hf := keep_e hf y9 hy9
          refine lv_iinc (v := y9) (lv' := [(4, .int y9), (5, .int u5), (0, .ref (a 0)), (1, .int v1), (3, .int v3)]) hx hb dX4_countAhead_57 hl (k := 4) rfl (by rw [hy9]; rfl) (by decide) rfl (fun ls hl => ?_)
          refine lv_goto (tgt := 8) hx hb dX4_countAhead_60 (by decide) ?_
          exact hrec8 y9 H locs ls hf hP hD hS (lv_sub hl [2, 3, 4, 0] rfl)
        · replace hf := if_t c8 hf
          refine lv_aload_n hx hb dX4_countAhead_43 rfl (lv_at hl 1 rfl) ?_
          refine va_get (D := D) (ci := 3) (v := .ref (a 1)) (C := RX4) (T := TX4) (N := 3) hx hb hg in_X4 hown hK hP 0 rfl rfl 0 (by decide) (hg _ w60) (fun _ h9 => h9) rfl dX4_countAhead_44 ?_
          refine lv_iload hx hb dX4_countAhead_47 (lv_at hl 4 rfl) ?_
          obtain ⟨hi10, hf⟩ := chk_t hf
          refine va_iald hx hb hK hP 1 0 rfl rfl (inb_in hi10) dX4_countAhead_49 ?_
          refine lv_iload_n hx hb dX4_countAhead_50 rfl (lv_at hl 2 rfl) ?_
          refine lv_icmp_lt (tgt := 57) hx hb dX4_countAhead_51 (by decide) (fun c11 => ?_) (fun c11 => ?_)
          · replace hf := if_t c11 hf
            obtain ⟨y12, hy12⟩ : ∃ z : Int32, z = (v4 + 1) := ⟨_, rfl⟩
            replace hf := keep_e hf y12 hy12
            refine lv_iinc (v := y12) (lv' := [(4, .int y12), (5, .int u5), (0, .ref (a 0)), (1, .int v1), (3, .int v3)]) hx hb dX4_countAhead_57 hl (k := 4) rfl (by rw [hy12]; rfl) (by decide) rfl (fun ls hl => ?_)
            refine lv_goto (tgt := 8) hx hb dX4_countAhead_60 (by decide) ?_
            exact hrec8 y12 H locs ls hf hP hD hS (lv_sub hl [2, 3, 4, 0] rfl)
          · replace hf := if_f c11 hf
            refine lv_iload hx hb dX4_countAhead_54 (lv_at hl 4 rfl) ?_
            obtain rfl := Option.some.inj hf
            exact W.iret (v := v4) hx hb hr (fun t ht hW => ⟨rfl, by rw [ht]; exact hP, va_K.moved hW.alike hK, hD, hS.F ht⟩) hS.2.2 dX4_countAhead_56 hlocks
  have L8 : ∀ (x : RSt) (v1 : Int32) (v3 : Int32) (fu : Nat) (v4 : Int32) (H : Heap) (locs : List Loc) (ls : Array Slot), iterK fu (fX4_countAhead_8 n x v1 v3 ) v4 = some res → va_P D vwCl (W_Row cI n a x) H → va_D A (W_Row cI n a x) → va_S A s.heap H locs → lv_has ls 6 [(0, .ref (a 0)), (1, .int v1), (3, .int v3), (4, .int v4)] → W p l e ({ frames := 1, cells := 0, slots := 0, locals := 21 } : Room) s m ([.ref (a 0), .int p1, .int p2] : List Value).toArray below meth c H locs 0 0 (MQ below (QW D (TY cI cV cJ cD) (W_Row cI n a x) A (some (.int res))) (([.ref (a 0), .int p1, .int p2] : List Value).toArray) s 0 0 A) (F0 m 8 ls []) := by
    intro x v1 v3 fu
    induction fu with
    | zero =>
      intro v4 H locs ls hf
      cases hf
    | succ fu ih =>
      intro v4 H locs ls hf hP hD hS hl
      exact S8 x v1 v3 (iterK fu (fX4_countAhead_8 n x v1 v3 )) ih v4 H locs ls hf hP hD hS hl
  have M0 : ∀ (H : Heap) (locs : List Loc) (ls : Array Slot), fX4_countAhead n x p1 p2 = some res → va_P D vwCl (W_Row cI n a x) H → va_D A (W_Row cI n a x) → va_S A s.heap H locs → lv_has ls 6 [(0, .ref (a 0)), (1, .int p1), (2, .int p2)] → W p l e ({ frames := 1, cells := 0, slots := 0, locals := 21 } : Room) s m ([.ref (a 0), .int p1, .int p2] : List Value).toArray below meth c H locs 0 0 (MQ below (QW D (TY cI cV cJ cD) (W_Row cI n a x) A (some (.int res))) (([.ref (a 0), .int p1, .int p2] : List Value).toArray) s 0 0 A) (F0 m 0 ls []) := by
    intro H locs ls hf hP hD hS hl
    dsimp only [fX4_countAhead] at hf
    refine lv_iload_n hx hb dX4_countAhead_0 rfl (lv_at hl 2 rfl) ?_
    obtain ⟨u13, hc14, hf⟩ := bind_t hf
    refine k_S (As := [.int p2]) (rest := []) (n := 1) ⟨hx, hb, hml, hown, hts⟩ (met_X4_orderOf l p2 u13 hc14) w529 w530 w5 w531 ⟨by decide +kernel, by decide +kernel, by decide +kernel⟩ ⟨Nat.le_of_ble_eq_true rfl, Nat.le_of_ble_eq_true rfl⟩ hK hE hP hD hS hA (isC := []) (isR := [0, 1, 2]) (isB := [0, 1, 2]) (ws' := W_Row cI n a x) ⟨([0, 1, 2] : List Nat).filterMap (fun i : Nat => (W_Row cI n a x : va_W)[i]?), rfl, rfl, rfl, rfl, by decide, rfl, rfl⟩ rfl hl.1 rfl (Nat.le_of_ble_eq_true rfl) dX4_countAhead_1 ⟨Nat.le_of_ble_eq_true rfl, Nat.le_of_ble_eq_true rfl⟩ (fun H locs hP hD hS => ?_)
    try dsimp only at hf
    refine W.eq (g2 := F0 m 4 ls [.int u13]) rfl ?_
    refine lv_istore_n (lv' := [(3, .int u13), (0, .ref (a 0)), (1, .int p1), (2, .int p2)]) hx hb dX4_countAhead_4 rfl hl (by decide) rfl (fun ls hl => ?_)
    refine lv_iconst (v := 0) hx hb dX4_countAhead_5 (by decide) ?_
    refine lv_istore (lv' := [(4, .int 0), (3, .int u13), (0, .ref (a 0)), (1, .int p1), (2, .int p2)]) hx hb dX4_countAhead_6 hl (by decide) rfl (fun ls hl => ?_)
    exact L8 x p1 u13 FU 0 H locs ls hf hP hD hS (lv_sub hl [2, 3, 1, 0] rfl)
  exact M0 s.heap [] ls hf hP hD hS hl
/-! Compactforms$Row.makeEmpty()V -/
def fX4_makeEmpty (n : Nat) (x : RSt) : Option (RSt) := keep (rwN_s x 0) (fun x1 => some x1)
set_option maxHeartbeats 4000000 in
set_option maxRecDepth 100000 in
theorem met_X4_makeEmpty {D : va_G} {cI cV cJ cD : ClassId} (l : Launch) (n : Nat) (a : Nat → Nat) (x : RSt) (res : RSt) (hf : fX4_makeEmpty n x = some res) : MM l yX4_makeEmpty cX4_makeEmpty 1 none { frames := 0, cells := 0, slots := 0, locals := 0 } D (TY cI cV cJ cD) (W_Row cI n a x) (W_Row cI n a res) [.ref (a 0)] none := by
  intro sz
  refine Met.ofW (cc := cX4_makeEmpty) (maxL := 1) (ret := none) (by decide +kernel) rfl ?_
  intro p e s m args below meth c s₁ B hml hv
  obtain ⟨rfl, hsz, hP, hK, hD0, hE⟩ := hv
  have hx := B.exec
  have hb := B.bytes
  have hr := B.returns
  have hts := atoms_spec (ws := .code yX4_makeEmpty cX4_makeEmpty 1 none :: GW) B.pre
  have hg : ∀ w ∈ GW, w.before (([.ref (a 0)] : List Value).toArray) s = true := fun w h => hts w (List.mem_cons_of_mem _ h)
  have hown : s.vm.findClass RX4 = some m.cls := findClass_of_methodNamed B.named
  have hlocks := B.notSynchronized
  subst hsz
  have hD := hD0.self (sz := s.heap.size)
  generalize hAe : va_A (W_Row cI n a x) s.heap.size = A at hD hE ⊢
  have hA : ∀ q : Nat, s.heap.size ≤ q → A q := fun q h => by rw [← hAe]; exact Or.inr h
  have hS : va_S A s.heap s.heap [] := va_S.rf
  have hl := lv_entry ([.ref (a 0)]) (n := 1) (Nat.le_of_ble_eq_true rfl)
  rw [lg_entry_eq]
  generalize (lg_sl ([.ref (a 0)]) ++ List.replicate (1 - (lg_sl ([.ref (a 0)])).length) Slot.unset).toArray = ls at hl ⊢
  have hl : lv_has ls 1 [(0, .ref (a 0))] := hl
  have M0 : ∀ (H : Heap) (locs : List Loc) (ls : Array Slot), fX4_makeEmpty n x = some res → va_P D vwCl (W_Row cI n a x) H → va_D A (W_Row cI n a x) → va_S A s.heap H locs → lv_has ls 1 [(0, .ref (a 0))] → W p l e ({ frames := 0, cells := 0, slots := 0, locals := 0 } : Room) s m ([.ref (a 0)] : List Value).toArray below meth c H locs 0 0 (MQ below (QW D (TY cI cV cJ cD) (W_Row cI n a res) A none) (([.ref (a 0)] : List Value).toArray) s 0 0 A) (F0 m 0 ls []) := by
    intro H locs ls hf hP hD hS hl
    dsimp only [fX4_makeEmpty] at hf
    refine lv_aload_n hx hb dX4_makeEmpty_0 rfl (lv_at hl 0 rfl) ?_
    refine lv_iconst (v := 0) hx hb dX4_makeEmpty_1 (by decide) ?_
    refine va_put (D := D) (ci := 3) (v := .int 0) (ty := .int) (C := RX4) (T := TX4) (N := 3) hx hb hg in_X4 tyX4 tyX4_ok nmX4 hown hK hP hD hS 0 rfl rfl 2 (by decide) (hg _ w62) (fun _ h9 => h9) rfl (by decide +kernel) rfl rfl (Nat.le_of_ble_eq_true rfl) dX4_makeEmpty_2 (fun H locs hP hD hS => ?_)
    obtain ⟨x1, hx1⟩ : ∃ z, z = (rwN_s x 0) := ⟨_, rfl⟩
    replace hf := keep_e hf x1 hx1
    have hP : va_P D vwCl (W_Row cI n a x1) H := by rw [hx1]; exact hP
    have hD : va_D A (W_Row cI n a x1) := by rw [hx1]; exact hD
    obtain rfl := Option.some.inj hf
    exact W.vret hx hb hr (fun t ht hW => ⟨rfl, by rw [ht]; exact hP, va_K.moved hW.alike hK, hD, hS.F ht⟩) hS.2.2 dX4_makeEmpty_5 hlocks
  exact M0 s.heap [] ls hf hP hD hS hl
/-! Compactforms$Row.valueAt(I)I -/
def fX4_valueAt (n : Nat) (x : RSt) (p1 : Int32) : Option (Int32) := (if p1 < 0 then some (-1) else (if (rwN x) ≤ p1 then some (-1) else chk (inb p1 n) (some ((rwE x) (p1).toNatClampNeg))))
set_option maxHeartbeats 4000000 in
set_option maxRecDepth 100000 in
theorem met_X4_valueAt {D : va_G} {cI cV cJ cD : ClassId} (l : Launch) (n : Nat) (a : Nat → Nat) (x : RSt) (p1 : Int32) (res : Int32) (hf : fX4_valueAt n x p1 = some res) : MM l yX4_valueAt cX4_valueAt 2 (some .int) { frames := 0, cells := 0, slots := 0, locals := 0 } D (TY cI cV cJ cD) (W_Row cI n a x) (W_Row cI n a x) [.ref (a 0), .int p1] (some (.int res)) := by
  intro sz
  refine Met.ofW (cc := cX4_valueAt) (maxL := 2) (ret := (some .int)) (by decide +kernel) rfl ?_
  intro p e s m args below meth c s₁ B hml hv
  obtain ⟨rfl, hsz, hP, hK, hD0, hE⟩ := hv
  have hx := B.exec
  have hb := B.bytes
  have hr := B.returns
  have hts := atoms_spec (ws := .code yX4_valueAt cX4_valueAt 2 (some .int) :: GW) B.pre
  have hg : ∀ w ∈ GW, w.before (([.ref (a 0), .int p1] : List Value).toArray) s = true := fun w h => hts w (List.mem_cons_of_mem _ h)
  have hown : s.vm.findClass RX4 = some m.cls := findClass_of_methodNamed B.named
  have hlocks := B.notSynchronized
  subst hsz
  have hD := hD0.self (sz := s.heap.size)
  generalize hAe : va_A (W_Row cI n a x) s.heap.size = A at hD hE ⊢
  have hA : ∀ q : Nat, s.heap.size ≤ q → A q := fun q h => by rw [← hAe]; exact Or.inr h
  have hS : va_S A s.heap s.heap [] := va_S.rf
  have hl := lv_entry ([.ref (a 0), .int p1]) (n := 2) (Nat.le_of_ble_eq_true rfl)
  rw [lg_entry_eq]
  generalize (lg_sl ([.ref (a 0), .int p1]) ++ List.replicate (2 - (lg_sl ([.ref (a 0), .int p1])).length) Slot.unset).toArray = ls at hl ⊢
  have hl : lv_has ls 2 [(0, .ref (a 0)), (1, .int p1)] := hl
  have M0 : ∀ (H : Heap) (locs : List Loc) (ls : Array Slot), fX4_valueAt n x p1 = some res → va_P D vwCl (W_Row cI n a x) H → va_D A (W_Row cI n a x) → va_S A s.heap H locs → lv_has ls 2 [(0, .ref (a 0)), (1, .int p1)] → W p l e ({ frames := 0, cells := 0, slots := 0, locals := 0 } : Room) s m ([.ref (a 0), .int p1] : List Value).toArray below meth c H locs 0 0 (MQ below (QW D (TY cI cV cJ cD) (W_Row cI n a x) A (some (.int res))) (([.ref (a 0), .int p1] : List Value).toArray) s 0 0 A) (F0 m 0 ls []) := by
    intro H locs ls hf hP hD hS hl
    dsimp only [fX4_valueAt] at hf
    refine lv_iload_n hx hb dX4_valueAt_0 rfl (lv_at hl 1 rfl) ?_
    refine lv_if_lt (tgt := 21) hx hb dX4_valueAt_1 (by decide) (fun c1 => ?_) (fun c1 => ?_)
    · replace hf := if_t c1 hf
      refine lv_iconst (v := (-1)) hx hb dX4_valueAt_21 (by decide) ?_
      obtain rfl := Option.some.inj hf
      exact W.iret (v := (-1)) hx hb hr (fun t ht hW => ⟨rfl, by rw [ht]; exact hP, va_K.moved hW.alike hK, hD, hS.F ht⟩) hS.2.2 dX4_valueAt_22 hlocks
    · replace hf := if_f c1 hf
      refine lv_iload_n hx hb dX4_valueAt_4 rfl (lv_at hl 1 rfl) ?_
      refine lv_aload_n hx hb dX4_valueAt_5 rfl (lv_at hl 0 rfl) ?_
      refine va_get (D := D) (ci := 3) (v := .int (rwN x)) (C := RX4) (T := TX4) (N := 3) hx hb hg in_X4 hown hK hP 0 rfl rfl 2 (by decide) (hg _ w62) (fun _ h9 => h9) rfl dX4_valueAt_6 ?_
      refine lv_icmp_ge (tgt := 21) hx hb dX4_valueAt_9 (by decide) (fun c2 => ?_) (fun c2 => ?_)
      · replace hf := if_t c2 hf
        refine lv_iconst (v := (-1)) hx hb dX4_valueAt_21 (by decide) ?_
        obtain rfl := Option.some.inj hf
        exact W.iret (v := (-1)) hx hb hr (fun t ht hW => ⟨rfl, by rw [ht]; exact hP, va_K.moved hW.alike hK, hD, hS.F ht⟩) hS.2.2 dX4_valueAt_22 hlocks
      · replace hf := if_f c2 hf
        refine lv_aload_n hx hb dX4_valueAt_12 rfl (lv_at hl 0 rfl) ?_
        refine va_get (D := D) (ci := 3) (v := .ref (a 1)) (C := RX4) (T := TX4) (N := 3) hx hb hg in_X4 hown hK hP 0 rfl rfl 0 (by decide) (hg _ w60) (fun _ h9 => h9) rfl dX4_valueAt_13 ?_
        refine lv_iload_n hx hb dX4_valueAt_16 rfl (lv_at hl 1 rfl) ?_
        obtain ⟨hi3, hf⟩ := chk_t hf
        refine va_iald hx hb hK hP 1 0 rfl rfl (inb_in hi3) dX4_valueAt_17 ?_
        refine lv_goto (tgt := 22) hx hb dX4_valueAt_18 (by decide) ?_
        obtain rfl := Option.some.inj hf
        exact W.iret (v := ((rwE x) (p1).toNatClampNeg)) hx hb hr (fun t ht hW => ⟨rfl, by rw [ht]; exact hP, va_K.moved hW.alike hK, hD, hS.F ht⟩) hS.2.2 dX4_valueAt_22 hlocks
  exact M0 s.heap [] ls hf hP hD hS hl
/-! Compactforms$Row.bitsAt(I)I -/
def fX4_bitsAt (n : Nat) (x : RSt) (p1 : Int32) : Option (Int32) := (if p1 < 0 then some 0 else (if (rwN x) ≤ p1 then some 0 else chk (inb p1 n) (some ((rwP x) (p1).toNatClampNeg))))
set_option maxHeartbeats 4000000 in
set_option maxRecDepth 100000 in
theorem met_X4_bitsAt {D : va_G} {cI cV cJ cD : ClassId} (l : Launch) (n : Nat) (a : Nat → Nat) (x : RSt) (p1 : Int32) (res : Int32) (hf : fX4_bitsAt n x p1 = some res) : MM l yX4_bitsAt cX4_bitsAt 2 (some .int) { frames := 0, cells := 0, slots := 0, locals := 0 } D (TY cI cV cJ cD) (W_Row cI n a x) (W_Row cI n a x) [.ref (a 0), .int p1] (some (.int res)) := by
  intro sz
  refine Met.ofW (cc := cX4_bitsAt) (maxL := 2) (ret := (some .int)) (by decide +kernel) rfl ?_
  intro p e s m args below meth c s₁ B hml hv
  obtain ⟨rfl, hsz, hP, hK, hD0, hE⟩ := hv
  have hx := B.exec
  have hb := B.bytes
  have hr := B.returns
  have hts := atoms_spec (ws := .code yX4_bitsAt cX4_bitsAt 2 (some .int) :: GW) B.pre
  have hg : ∀ w ∈ GW, w.before (([.ref (a 0), .int p1] : List Value).toArray) s = true := fun w h => hts w (List.mem_cons_of_mem _ h)
  have hown : s.vm.findClass RX4 = some m.cls := findClass_of_methodNamed B.named
  have hlocks := B.notSynchronized
  subst hsz
  have hD := hD0.self (sz := s.heap.size)
  generalize hAe : va_A (W_Row cI n a x) s.heap.size = A at hD hE ⊢
  have hA : ∀ q : Nat, s.heap.size ≤ q → A q := fun q h => by rw [← hAe]; exact Or.inr h
  have hS : va_S A s.heap s.heap [] := va_S.rf
  have hl := lv_entry ([.ref (a 0), .int p1]) (n := 2) (Nat.le_of_ble_eq_true rfl)
  rw [lg_entry_eq]
  generalize (lg_sl ([.ref (a 0), .int p1]) ++ List.replicate (2 - (lg_sl ([.ref (a 0), .int p1])).length) Slot.unset).toArray = ls at hl ⊢
  have hl : lv_has ls 2 [(0, .ref (a 0)), (1, .int p1)] := hl
  have M0 : ∀ (H : Heap) (locs : List Loc) (ls : Array Slot), fX4_bitsAt n x p1 = some res → va_P D vwCl (W_Row cI n a x) H → va_D A (W_Row cI n a x) → va_S A s.heap H locs → lv_has ls 2 [(0, .ref (a 0)), (1, .int p1)] → W p l e ({ frames := 0, cells := 0, slots := 0, locals := 0 } : Room) s m ([.ref (a 0), .int p1] : List Value).toArray below meth c H locs 0 0 (MQ below (QW D (TY cI cV cJ cD) (W_Row cI n a x) A (some (.int res))) (([.ref (a 0), .int p1] : List Value).toArray) s 0 0 A) (F0 m 0 ls []) := by
    intro H locs ls hf hP hD hS hl
    dsimp only [fX4_bitsAt] at hf
    refine lv_iload_n hx hb dX4_bitsAt_0 rfl (lv_at hl 1 rfl) ?_
    refine lv_if_lt (tgt := 21) hx hb dX4_bitsAt_1 (by decide) (fun c1 => ?_) (fun c1 => ?_)
    · replace hf := if_t c1 hf
      refine lv_iconst (v := 0) hx hb dX4_bitsAt_21 (by decide) ?_
      obtain rfl := Option.some.inj hf
      exact W.iret (v := 0) hx hb hr (fun t ht hW => ⟨rfl, by rw [ht]; exact hP, va_K.moved hW.alike hK, hD, hS.F ht⟩) hS.2.2 dX4_bitsAt_22 hlocks
    · replace hf := if_f c1 hf
      refine lv_iload_n hx hb dX4_bitsAt_4 rfl (lv_at hl 1 rfl) ?_
      refine lv_aload_n hx hb dX4_bitsAt_5 rfl (lv_at hl 0 rfl) ?_
      refine va_get (D := D) (ci := 3) (v := .int (rwN x)) (C := RX4) (T := TX4) (N := 3) hx hb hg in_X4 hown hK hP 0 rfl rfl 2 (by decide) (hg _ w62) (fun _ h9 => h9) rfl dX4_bitsAt_6 ?_
      refine lv_icmp_ge (tgt := 21) hx hb dX4_bitsAt_9 (by decide) (fun c2 => ?_) (fun c2 => ?_)
      · replace hf := if_t c2 hf
        refine lv_iconst (v := 0) hx hb dX4_bitsAt_21 (by decide) ?_
        obtain rfl := Option.some.inj hf
        exact W.iret (v := 0) hx hb hr (fun t ht hW => ⟨rfl, by rw [ht]; exact hP, va_K.moved hW.alike hK, hD, hS.F ht⟩) hS.2.2 dX4_bitsAt_22 hlocks
      · replace hf := if_f c2 hf
        refine lv_aload_n hx hb dX4_bitsAt_12 rfl (lv_at hl 0 rfl) ?_
        refine va_get (D := D) (ci := 3) (v := .ref (a 2)) (C := RX4) (T := TX4) (N := 3) hx hb hg in_X4 hown hK hP 0 rfl rfl 1 (by decide) (hg _ w61) (fun _ h9 => h9) rfl dX4_bitsAt_13 ?_
        refine lv_iload_n hx hb dX4_bitsAt_16 rfl (lv_at hl 1 rfl) ?_
        obtain ⟨hi3, hf⟩ := chk_t hf
        refine va_iald hx hb hK hP 2 0 rfl rfl (inb_in hi3) dX4_bitsAt_17 ?_
        refine lv_goto (tgt := 22) hx hb dX4_bitsAt_18 (by decide) ?_
        obtain rfl := Option.some.inj hf
        exact W.iret (v := ((rwP x) (p1).toNatClampNeg)) hx hb hr (fun t ht hW => ⟨rfl, by rw [ht]; exact hP, va_K.moved hW.alike hK, hD, hS.F ht⟩) hS.2.2 dX4_bitsAt_22 hlocks
  exact M0 s.heap [] ls hf hP hD hS hl
/-! Compactforms$Row.placeOf(I)I -/
def fX4_placeOf_2 (n : Nat) (x : RSt) (v1 : Int32) (rec2 : Int32 → Option (Int32)) (v2 : Int32) : Option (Int32) := (if (rwN x) ≤ v2 then some (-1) else chk (inb v2 n) ((if ((rwE x) (v2).toNatClampNeg) = v1 then some v2 else keep (v2 + 1) (fun y4 => rec2 y4))))
def fX4_placeOf (n : Nat) (x : RSt) (p1 : Int32) : Option (Int32) := iterK FU (fX4_placeOf_2 n x p1) 0
set_option maxHeartbeats 4000000 in
set_option maxRecDepth 100000 in
theorem met_X4_placeOf {D : va_G} {cI cV cJ cD : ClassId} (l : Launch) (n : Nat) (a : Nat → Nat) (x : RSt) (p1 : Int32) (res : Int32) (hf : fX4_placeOf n x p1 = some res) : MM l yX4_placeOf cX4_placeOf 3 (some .int) { frames := 0, cells := 0, slots := 0, locals := 0 } D (TY cI cV cJ cD) (W_Row cI n a x) (W_Row cI n a x) [.ref (a 0), .int p1] (some (.int res)) := by
  intro sz
  refine Met.ofW (cc := cX4_placeOf) (maxL := 3) (ret := (some .int)) (by decide +kernel) rfl ?_
  intro p e s m args below meth c s₁ B hml hv
  obtain ⟨rfl, hsz, hP, hK, hD0, hE⟩ := hv
  have hx := B.exec
  have hb := B.bytes
  have hr := B.returns
  have hts := atoms_spec (ws := .code yX4_placeOf cX4_placeOf 3 (some .int) :: GW) B.pre
  have hg : ∀ w ∈ GW, w.before (([.ref (a 0), .int p1] : List Value).toArray) s = true := fun w h => hts w (List.mem_cons_of_mem _ h)
  have hown : s.vm.findClass RX4 = some m.cls := findClass_of_methodNamed B.named
  have hlocks := B.notSynchronized
  subst hsz
  have hD := hD0.self (sz := s.heap.size)
  generalize hAe : va_A (W_Row cI n a x) s.heap.size = A at hD hE ⊢
  have hA : ∀ q : Nat, s.heap.size ≤ q → A q := fun q h => by rw [← hAe]; exact Or.inr h
  have hS : va_S A s.heap s.heap [] := va_S.rf
  have hl := lv_entry ([.ref (a 0), .int p1]) (n := 3) (Nat.le_of_ble_eq_true rfl)
  rw [lg_entry_eq]
  generalize (lg_sl ([.ref (a 0), .int p1]) ++ List.replicate (3 - (lg_sl ([.ref (a 0), .int p1])).length) Slot.unset).toArray = ls at hl ⊢
  have hl : lv_has ls 3 [(0, .ref (a 0)), (1, .int p1)] := hl
  have S2 : ∀ (x : RSt) (v1 : Int32) (rec2 : Int32 → Option (Int32)) (hrec2 : ∀ (v2 : Int32), ∀ (H : Heap) (locs : List Loc) (ls : Array Slot), rec2 v2 = some res → va_P D vwCl (W_Row cI n a x) H → va_D A (W_Row cI n a x) → va_S A s.heap H locs → lv_has ls 3 [(0, .ref (a 0)), (1, .int v1), (2, .int v2)] → W p l e ({ frames := 0, cells := 0, slots := 0, locals := 0 } : Room) s m ([.ref (a 0), .int p1] : List Value).toArray below meth c H locs 0 0 (MQ below (QW D (TY cI cV cJ cD) (W_Row cI n a x) A (some (.int res))) (([.ref (a 0), .int p1] : List Value).toArray) s 0 0 A) (F0 m 2 ls [])) (v2 : Int32) (H : Heap) (locs : List Loc) (ls : Array Slot), fX4_placeOf_2 n x v1  rec2 v2 = some res → va_P D vwCl (W_Row cI n a x) H → va_D A (W_Row cI n a x) → va_S A s.heap H locs → lv_has ls 3 [(0, .ref (a 0)), (1, .int v1), (2, .int v2)] → W p l e ({ frames := 0, cells := 0, slots := 0, locals := 0 } : Room) s m ([.ref (a 0), .int p1] : List Value).toArray below meth c H locs 0 0 (MQ below (QW D (TY cI cV cJ cD) (W_Row cI n a x) A (some (.int res))) (([.ref (a 0), .int p1] : List Value).toArray) s 0 0 A) (F0 m 2 ls []) := by
    intro x v1 rec2 hrec2 v2 H locs ls hf hP hD hS hl
    dsimp only [fX4_placeOf_2] at hf
    refine lv_iload_n hx hb dX4_placeOf_2 rfl (lv_at hl 2 rfl) ?_
    refine lv_aload_n hx hb dX4_placeOf_3 rfl (lv_at hl 0 rfl) ?_
    refine va_get (D := D) (ci := 3) (v := .int (rwN x)) (C := RX4) (T := TX4) (N := 3) hx hb hg in_X4 hown hK hP 0 rfl rfl 2 (by decide) (hg _ w62) (fun _ h9 => h9) rfl dX4_placeOf_4 ?_
    refine lv_icmp_ge (tgt := 28) hx hb dX4_placeOf_7 (by decide) (fun c1 => ?_) (fun c1 => ?_)
    · replace hf := if_t c1 hf
      refine lv_iconst (v := (-1)) hx hb dX4_placeOf_28 (by decide) ?_
      obtain rfl := Option.some.inj hf
      exact W.iret (v := (-1)) hx hb hr (fun t ht hW => ⟨rfl, by rw [ht]; exact hP, va_K.moved hW.alike hK, hD, hS.F ht⟩) hS.2.2 dX4_placeOf_29 hlocks
    · replace hf := if_f c1 hf
      refine lv_aload_n hx hb dX4_placeOf_10 rfl (lv_at hl 0 rfl) ?_
      refine va_get (D := D) (ci := 3) (v := .ref (a 1)) (C := RX4) (T := TX4) (N := 3) hx hb hg in_X4 hown hK hP 0 rfl rfl 0 (by decide) (hg _ w60) (fun _ h9 => h9) rfl dX4_placeOf_11 ?_
      refine lv_iload_n hx hb dX4_placeOf_14 rfl (lv_at hl 2 rfl) ?_
      obtain ⟨hi2, hf⟩ := chk_t hf
      refine va_iald hx hb hK hP 1 0 rfl rfl (inb_in hi2) dX4_placeOf_15 ?_
      refine lv_iload_n hx hb dX4_placeOf_16 rfl (lv_at hl 1 rfl) ?_
      refine lv_icmp_ne (tgt := 22) hx hb dX4_placeOf_17 (by decide) (fun c3 => ?_) (fun c3 => ?_)
      · replace hf := if_f c3 hf
        obtain ⟨y4, hy4⟩ : ∃ z : Int32, z = (v2 + 1) := ⟨_, rfl⟩
        replace hf := keep_e hf y4 hy4
        refine lv_iinc (v := y4) (lv' := [(2, .int y4), (0, .ref (a 0)), (1, .int v1)]) hx hb dX4_placeOf_22 hl (k := 2) rfl (by rw [hy4]; rfl) (by decide) rfl (fun ls hl => ?_)
        refine lv_goto (tgt := 2) hx hb dX4_placeOf_25 (by decide) ?_
        exact hrec2 y4 H locs ls hf hP hD hS (lv_sub hl [1, 2, 0] rfl)
      · replace hf := if_t c3 hf
        refine lv_iload_n hx hb dX4_placeOf_20 rfl (lv_at hl 2 rfl) ?_
        obtain rfl := Option.some.inj hf
        exact W.iret (v := v2) hx hb hr (fun t ht hW => ⟨rfl, by rw [ht]; exact hP, va_K.moved hW.alike hK, hD, hS.F ht⟩) hS.2.2 dX4_placeOf_21 hlocks
  have L2 : ∀ (x : RSt) (v1 : Int32) (fu : Nat) (v2 : Int32) (H : Heap) (locs : List Loc) (ls : Array Slot), iterK fu (fX4_placeOf_2 n x v1 ) v2 = some res → va_P D vwCl (W_Row cI n a x) H → va_D A (W_Row cI n a x) → va_S A s.heap H locs → lv_has ls 3 [(0, .ref (a 0)), (1, .int v1), (2, .int v2)] → W p l e ({ frames := 0, cells := 0, slots := 0, locals := 0 } : Room) s m ([.ref (a 0), .int p1] : List Value).toArray below meth c H locs 0 0 (MQ below (QW D (TY cI cV cJ cD) (W_Row cI n a x) A (some (.int res))) (([.ref (a 0), .int p1] : List Value).toArray) s 0 0 A) (F0 m 2 ls []) := by
    intro x v1 fu
    induction fu with
    | zero =>
      intro v2 H locs ls hf
      cases hf
    | succ fu ih =>
      intro v2 H locs ls hf hP hD hS hl
      exact S2 x v1 (iterK fu (fX4_placeOf_2 n x v1 )) ih v2 H locs ls hf hP hD hS hl
  have M0 : ∀ (H : Heap) (locs : List Loc) (ls : Array Slot), fX4_placeOf n x p1 = some res → va_P D vwCl (W_Row cI n a x) H → va_D A (W_Row cI n a x) → va_S A s.heap H locs → lv_has ls 3 [(0, .ref (a 0)), (1, .int p1)] → W p l e ({ frames := 0, cells := 0, slots := 0, locals := 0 } : Room) s m ([.ref (a 0), .int p1] : List Value).toArray below meth c H locs 0 0 (MQ below (QW D (TY cI cV cJ cD) (W_Row cI n a x) A (some (.int res))) (([.ref (a 0), .int p1] : List Value).toArray) s 0 0 A) (F0 m 0 ls []) := by
    intro H locs ls hf hP hD hS hl
    dsimp only [fX4_placeOf] at hf
    refine lv_iconst (v := 0) hx hb dX4_placeOf_0 (by decide) ?_
    refine lv_istore_n (lv' := [(2, .int 0), (0, .ref (a 0)), (1, .int p1)]) hx hb dX4_placeOf_1 rfl hl (by decide) rfl (fun ls hl => ?_)
    exact L2 x p1 FU 0 H locs ls hf hP hD hS (lv_sub hl [1, 2, 0] rfl)
  exact M0 s.heap [] ls hf hP hD hS hl
/-! Compactforms$Row.putIn(III)V -/
def fX4_putIn (n : Nat) (x : RSt) (p1 : Int32) (p2 : Int32) (p3 : Int32) : Option (RSt) := (if p1 < 0 then some x else (if (rwN x) < p1 then some x else (if (rwN x) < (nI n) then chk (cpyok p1 (p1 + 1) ((rwN x) - p1) n n) (keep (rwE_s x (va_cpy (rwE x) (rwE x) (p1).toNatClampNeg ((p1 + 1)).toNatClampNeg (((rwN x) - p1)).toNatClampNeg)) (fun x5 => chk (cpyok p1 (p1 + 1) ((rwN x5) - p1) n n) (keep (rwP_s x5 (va_cpy (rwP x5) (rwP x5) (p1).toNatClampNeg ((p1 + 1)).toNatClampNeg (((rwN x5) - p1)).toNatClampNeg)) (fun x7 => chk (inb p1 n) (keep (rwE_s x7 (upd (rwE x7) (p1).toNatClampNeg p2)) (fun x9 => chk (inb p1 n) (keep (rwP_s x9 (upd (rwP x9) (p1).toNatClampNeg p3)) (fun x11 => keep (rwN_s x11 ((rwN x11) + 1)) (fun x12 => some x12))))))))) else some x)))
set_option maxHeartbeats 4000000 in
set_option maxRecDepth 100000 in
theorem met_X4_putIn {D : va_G} {cI cV cJ cD : ClassId} (l : Launch) (n : Nat) (a : Nat → Nat) (x : RSt) (p1 : Int32) (p2 : Int32) (p3 : Int32) (res : RSt) (hf : fX4_putIn n x p1 p2 p3 = some res) : MM l yX4_putIn cX4_putIn 4 none { frames := 1, cells := 0, slots := 0, locals := 60 } D (TY cI cV cJ cD) (W_Row cI n a x) (W_Row cI n a res) [.ref (a 0), .int p1, .int p2, .int p3] none := by
  intro sz
  refine Met.ofW (cc := cX4_putIn) (maxL := 4) (ret := none) (by decide +kernel) rfl ?_
  intro p e s m args below meth c s₁ B hml hv
  obtain ⟨rfl, hsz, hP, hK, hD0, hE⟩ := hv
  have hx := B.exec
  have hb := B.bytes
  have hr := B.returns
  have hts := atoms_spec (ws := .code yX4_putIn cX4_putIn 4 none :: GW) B.pre
  have hg : ∀ w ∈ GW, w.before (([.ref (a 0), .int p1, .int p2, .int p3] : List Value).toArray) s = true := fun w h => hts w (List.mem_cons_of_mem _ h)
  have hown : s.vm.findClass RX4 = some m.cls := findClass_of_methodNamed B.named
  have hlocks := B.notSynchronized
  subst hsz
  have hD := hD0.self (sz := s.heap.size)
  generalize hAe : va_A (W_Row cI n a x) s.heap.size = A at hD hE ⊢
  have hA : ∀ q : Nat, s.heap.size ≤ q → A q := fun q h => by rw [← hAe]; exact Or.inr h
  have hS : va_S A s.heap s.heap [] := va_S.rf
  have hl := lv_entry ([.ref (a 0), .int p1, .int p2, .int p3]) (n := 4) (Nat.le_of_ble_eq_true rfl)
  rw [lg_entry_eq]
  generalize (lg_sl ([.ref (a 0), .int p1, .int p2, .int p3]) ++ List.replicate (4 - (lg_sl ([.ref (a 0), .int p1, .int p2, .int p3])).length) Slot.unset).toArray = ls at hl ⊢
  have hl : lv_has ls 4 [(0, .ref (a 0)), (1, .int p1), (2, .int p2), (3, .int p3)] := hl
  have M0 : ∀ (H : Heap) (locs : List Loc) (ls : Array Slot), fX4_putIn n x p1 p2 p3 = some res → va_P D vwCl (W_Row cI n a x) H → va_D A (W_Row cI n a x) → va_S A s.heap H locs → lv_has ls 4 [(0, .ref (a 0)), (1, .int p1), (2, .int p2), (3, .int p3)] → W p l e ({ frames := 1, cells := 0, slots := 0, locals := 60 } : Room) s m ([.ref (a 0), .int p1, .int p2, .int p3] : List Value).toArray below meth c H locs 0 0 (MQ below (QW D (TY cI cV cJ cD) (W_Row cI n a res) A none) (([.ref (a 0), .int p1, .int p2, .int p3] : List Value).toArray) s 0 0 A) (F0 m 0 ls []) := by
    intro H locs ls hf hP hD hS hl
    dsimp only [fX4_putIn] at hf
    refine lv_iload_n hx hb dX4_putIn_0 rfl (lv_at hl 1 rfl) ?_
    refine lv_if_lt (tgt := 24) hx hb dX4_putIn_1 (by decide) (fun c1 => ?_) (fun c1 => ?_)
    · replace hf := if_t c1 hf
      obtain rfl := Option.some.inj hf
      exact W.vret hx hb hr (fun t ht hW => ⟨rfl, by rw [ht]; exact hP, va_K.moved hW.alike hK, hD, hS.F ht⟩) hS.2.2 dX4_putIn_24 hlocks
    · replace hf := if_f c1 hf
      refine lv_iload_n hx hb dX4_putIn_4 rfl (lv_at hl 1 rfl) ?_
      refine lv_aload_n hx hb dX4_putIn_5 rfl (lv_at hl 0 rfl) ?_
      refine va_get (D := D) (ci := 3) (v := .int (rwN x)) (C := RX4) (T := TX4) (N := 3) hx hb hg in_X4 hown hK hP 0 rfl rfl 2 (by decide) (hg _ w62) (fun _ h9 => h9) rfl dX4_putIn_6 ?_
      refine lv_icmp_gt (tgt := 24) hx hb dX4_putIn_9 (by decide) (fun c2 => ?_) (fun c2 => ?_)
      · replace hf := if_t c2 hf
        obtain rfl := Option.some.inj hf
        exact W.vret hx hb hr (fun t ht hW => ⟨rfl, by rw [ht]; exact hP, va_K.moved hW.alike hK, hD, hS.F ht⟩) hS.2.2 dX4_putIn_24 hlocks
      · replace hf := if_f c2 hf
        refine lv_aload_n hx hb dX4_putIn_12 rfl (lv_at hl 0 rfl) ?_
        refine va_get (D := D) (ci := 3) (v := .int (rwN x)) (C := RX4) (T := TX4) (N := 3) hx hb hg in_X4 hown hK hP 0 rfl rfl 2 (by decide) (hg _ w62) (fun _ h9 => h9) rfl dX4_putIn_13 ?_
        refine lv_aload_n hx hb dX4_putIn_16 rfl (lv_at hl 0 rfl) ?_
        refine va_get (D := D) (ci := 3) (v := .ref (a 1)) (C := RX4) (T := TX4) (N := 3) hx hb hg in_X4 hown hK hP 0 rfl rfl 0 (by decide) (hg _ w60) (fun _ h9 => h9) rfl dX4_putIn_17 ?_
        refine va_alen hx hb hK hP 1 0 rfl rfl rfl dX4_putIn_20 ?_
        refine lv_icmp_lt (tgt := 25) hx hb dX4_putIn_21 (by decide) (fun c3 => ?_) (fun c3 => ?_)
        · replace hf := if_t c3 hf
          refine lv_aload_n hx hb dX4_putIn_25 rfl (lv_at hl 0 rfl) ?_
          refine va_get (D := D) (ci := 3) (v := .ref (a 1)) (C := RX4) (T := TX4) (N := 3) hx hb hg in_X4 hown hK hP 0 rfl rfl 0 (by decide) (hg _ w60) (fun _ h9 => h9) rfl dX4_putIn_26 ?_
          refine lv_iload_n hx hb dX4_putIn_29 rfl (lv_at hl 1 rfl) ?_
          refine lv_aload_n hx hb dX4_putIn_30 rfl (lv_at hl 0 rfl) ?_
          refine va_get (D := D) (ci := 3) (v := .ref (a 1)) (C := RX4) (T := TX4) (N := 3) hx hb hg in_X4 hown hK hP 0 rfl rfl 0 (by decide) (hg _ w60) (fun _ h9 => h9) rfl dX4_putIn_31 ?_
          refine lv_iload_n hx hb dX4_putIn_34 rfl (lv_at hl 1 rfl) ?_
          refine lv_iconst (v := 1) hx hb dX4_putIn_35 (by decide) ?_
          refine lv_iadd hx hb dX4_putIn_36 ?_
          refine lv_aload_n hx hb dX4_putIn_37 rfl (lv_at hl 0 rfl) ?_
          refine va_get (D := D) (ci := 3) (v := .int (rwN x)) (C := RX4) (T := TX4) (N := 3) hx hb hg in_X4 hown hK hP 0 rfl rfl 2 (by decide) (hg _ w62) (fun _ h9 => h9) rfl dX4_putIn_38 ?_
          refine lv_iload_n hx hb dX4_putIn_41 rfl (lv_at hl 1 rfl) ?_
          refine lv_isub hx hb dX4_putIn_42 ?_
          obtain ⟨hi4, hf⟩ := chk_t hf
          refine va_copyi hx hb (by rw [hml]; exact hl.1.symm) hown (hg _ w474) (hg _ w476) (hg _ w475) (hg _ w16) hK hP hD hS 1 1 0 0 rfl rfl rfl rfl rfl (cpyok_1 hi4) (cpyok_2 hi4) (cpyok_3 hi4) (cpyok_4 hi4) (cpyok_5 hi4) (fun _ _ => rfl) (Nat.le_of_ble_eq_true rfl) (Nat.le_of_ble_eq_true rfl) dX4_putIn_43 (fun H locs hP hD hS => ?_)
          obtain ⟨x5, hx5⟩ : ∃ z, z = (rwE_s x (va_cpy (rwE x) (rwE x) (p1).toNatClampNeg ((p1 + 1)).toNatClampNeg (((rwN x) - p1)).toNatClampNeg)) := ⟨_, rfl⟩
          replace hf := keep_e hf x5 hx5
          have hP : va_P D vwCl (W_Row cI n a x5) H := by rw [hx5]; exact hP
          have hD : va_D A (W_Row cI n a x5) := by rw [hx5]; exact hD
          refine lv_aload_n hx hb dX4_putIn_46 rfl (lv_at hl 0 rfl) ?_
          refine va_get (D := D) (ci := 3) (v := .ref (a 2)) (C := RX4) (T := TX4) (N := 3) hx hb hg in_X4 hown hK hP 0 rfl rfl 1 (by decide) (hg _ w61) (fun _ h9 => h9) rfl dX4_putIn_47 ?_
          refine lv_iload_n hx hb dX4_putIn_50 rfl (lv_at hl 1 rfl) ?_
          refine lv_aload_n hx hb dX4_putIn_51 rfl (lv_at hl 0 rfl) ?_
          refine va_get (D := D) (ci := 3) (v := .ref (a 2)) (C := RX4) (T := TX4) (N := 3) hx hb hg in_X4 hown hK hP 0 rfl rfl 1 (by decide) (hg _ w61) (fun _ h9 => h9) rfl dX4_putIn_52 ?_
          refine lv_iload_n hx hb dX4_putIn_55 rfl (lv_at hl 1 rfl) ?_
          refine lv_iconst (v := 1) hx hb dX4_putIn_56 (by decide) ?_
          refine lv_iadd hx hb dX4_putIn_57 ?_
          refine lv_aload_n hx hb dX4_putIn_58 rfl (lv_at hl 0 rfl) ?_
          refine va_get (D := D) (ci := 3) (v := .int (rwN x5)) (C := RX4) (T := TX4) (N := 3) hx hb hg in_X4 hown hK hP 0 rfl rfl 2 (by decide) (hg _ w62) (fun _ h9 => h9) rfl dX4_putIn_59 ?_
          refine lv_iload_n hx hb dX4_putIn_62 rfl (lv_at hl 1 rfl) ?_
          refine lv_isub hx hb dX4_putIn_63 ?_
          obtain ⟨hi6, hf⟩ := chk_t hf
          refine va_copyi hx hb (by rw [hml]; exact hl.1.symm) hown (hg _ w474) (hg _ w476) (hg _ w475) (hg _ w16) hK hP hD hS 2 2 0 0 rfl rfl rfl rfl rfl (cpyok_1 hi6) (cpyok_2 hi6) (cpyok_3 hi6) (cpyok_4 hi6) (cpyok_5 hi6) (fun _ _ => rfl) (Nat.le_of_ble_eq_true rfl) (Nat.le_of_ble_eq_true rfl) dX4_putIn_64 (fun H locs hP hD hS => ?_)
          obtain ⟨x7, hx7⟩ : ∃ z, z = (rwP_s x5 (va_cpy (rwP x5) (rwP x5) (p1).toNatClampNeg ((p1 + 1)).toNatClampNeg (((rwN x5) - p1)).toNatClampNeg)) := ⟨_, rfl⟩
          replace hf := keep_e hf x7 hx7
          have hP : va_P D vwCl (W_Row cI n a x7) H := by rw [hx7]; exact hP
          have hD : va_D A (W_Row cI n a x7) := by rw [hx7]; exact hD
          refine lv_aload_n hx hb dX4_putIn_67 rfl (lv_at hl 0 rfl) ?_
          refine va_get (D := D) (ci := 3) (v := .ref (a 1)) (C := RX4) (T := TX4) (N := 3) hx hb hg in_X4 hown hK hP 0 rfl rfl 0 (by decide) (hg _ w60) (fun _ h9 => h9) rfl dX4_putIn_68 ?_
          refine lv_iload_n hx hb dX4_putIn_71 rfl (lv_at hl 1 rfl) ?_
          refine lv_iload_n hx hb dX4_putIn_72 rfl (lv_at hl 2 rfl) ?_
          obtain ⟨hi8, hf⟩ := chk_t hf
          refine va_iast hx hb hK hP hD hS 1 0 rfl rfl (inb_in hi8) dX4_putIn_73 (fun H locs hP hD hS => ?_)
          obtain ⟨x9, hx9⟩ : ∃ z, z = (rwE_s x7 (upd (rwE x7) (p1).toNatClampNeg p2)) := ⟨_, rfl⟩
          replace hf := keep_e hf x9 hx9
          have hP : va_P D vwCl (W_Row cI n a x9) H := by rw [hx9]; exact hP
          have hD : va_D A (W_Row cI n a x9) := by rw [hx9]; exact hD
          refine lv_aload_n hx hb dX4_putIn_74 rfl (lv_at hl 0 rfl) ?_
          refine va_get (D := D) (ci := 3) (v := .ref (a 2)) (C := RX4) (T := TX4) (N := 3) hx hb hg in_X4 hown hK hP 0 rfl rfl 1 (by decide) (hg _ w61) (fun _ h9 => h9) rfl dX4_putIn_75 ?_
          refine lv_iload_n hx hb dX4_putIn_78 rfl (lv_at hl 1 rfl) ?_
          refine lv_iload_n hx hb dX4_putIn_79 rfl (lv_at hl 3 rfl) ?_
          obtain ⟨hi10, hf⟩ := chk_t hf
          refine va_iast hx hb hK hP hD hS 2 0 rfl rfl (inb_in hi10) dX4_putIn_80 (fun H locs hP hD hS => ?_)
          obtain ⟨x11, hx11⟩ : ∃ z, z = (rwP_s x9 (upd (rwP x9) (p1).toNatClampNeg p3)) := ⟨_, rfl⟩
          replace hf := keep_e hf x11 hx11
          have hP : va_P D vwCl (W_Row cI n a x11) H := by rw [hx11]; exact hP
          have hD : va_D A (W_Row cI n a x11) := by rw [hx11]; exact hD
          refine lv_aload_n hx hb dX4_putIn_81 rfl (lv_at hl 0 rfl) ?_
          refine lv_dup hx hb dX4_putIn_82 rfl ?_
          refine va_get (D := D) (ci := 3) (v := .int (rwN x11)) (C := RX4) (T := TX4) (N := 3) hx hb hg in_X4 hown hK hP 0 rfl rfl 2 (by decide) (hg _ w62) (fun _ h9 => h9) rfl dX4_putIn_83 ?_
          refine lv_iconst (v := 1) hx hb dX4_putIn_86 (by decide) ?_
          refine lv_iadd hx hb dX4_putIn_87 ?_
          refine va_put (D := D) (ci := 3) (v := .int ((rwN x11) + 1)) (ty := .int) (C := RX4) (T := TX4) (N := 3) hx hb hg in_X4 tyX4 tyX4_ok nmX4 hown hK hP hD hS 0 rfl rfl 2 (by decide) (hg _ w62) (fun _ h9 => h9) rfl (by decide +kernel) rfl rfl (Nat.le_of_ble_eq_true rfl) dX4_putIn_88 (fun H locs hP hD hS => ?_)
          obtain ⟨x12, hx12⟩ : ∃ z, z = (rwN_s x11 ((rwN x11) + 1)) := ⟨_, rfl⟩
          replace hf := keep_e hf x12 hx12
          have hP : va_P D vwCl (W_Row cI n a x12) H := by rw [hx12]; exact hP
          have hD : va_D A (W_Row cI n a x12) := by rw [hx12]; exact hD
          obtain rfl := Option.some.inj hf
          exact W.vret hx hb hr (fun t ht hW => ⟨rfl, by rw [ht]; exact hP, va_K.moved hW.alike hK, hD, hS.F ht⟩) hS.2.2 dX4_putIn_91 hlocks
        · replace hf := if_f c3 hf
          obtain rfl := Option.some.inj hf
          exact W.vret hx hb hr (fun t ht hW => ⟨rfl, by rw [ht]; exact hP, va_K.moved hW.alike hK, hD, hS.F ht⟩) hS.2.2 dX4_putIn_24 hlocks
  exact M0 s.heap [] ls hf hP hD hS hl
/-! Compactforms$Row.dropOut(II)V -/
def fX4_dropOut (n : Nat) (x : RSt) (p1 : Int32) (p2 : Int32) : Option (RSt) := (if p1 < 0 then some x else (if p1 < (rwN x) then keep (rwN_s x ((rwN x) - 1)) (fun x3 => chk (cpyok (p1 + 1) p1 ((rwN x3) - p1) n n) (keep (rwE_s x3 (va_cpy (rwE x3) (rwE x3) ((p1 + 1)).toNatClampNeg (p1).toNatClampNeg (((rwN x3) - p1)).toNatClampNeg)) (fun x5 => chk (cpyok (p1 + 1) p1 ((rwN x5) - p1) n n) (keep (rwP_s x5 (va_cpy (rwP x5) (rwP x5) ((p1 + 1)).toNatClampNeg (p1).toNatClampNeg (((rwN x5) - p1)).toNatClampNeg)) (fun x7 => some x7))))) else some x))
set_option maxHeartbeats 4000000 in
set_option maxRecDepth 100000 in
theorem met_X4_dropOut {D : va_G} {cI cV cJ cD : ClassId} (l : Launch) (n : Nat) (a : Nat → Nat) (x : RSt) (p1 : Int32) (p2 : Int32) (res : RSt) (hf : fX4_dropOut n x p1 p2 = some res) : MM l yX4_dropOut cX4_dropOut 3 none { frames := 1, cells := 0, slots := 0, locals := 60 } D (TY cI cV cJ cD) (W_Row cI n a x) (W_Row cI n a res) [.ref (a 0), .int p1, .int p2] none := by
  intro sz
  refine Met.ofW (cc := cX4_dropOut) (maxL := 3) (ret := none) (by decide +kernel) rfl ?_
  intro p e s m args below meth c s₁ B hml hv
  obtain ⟨rfl, hsz, hP, hK, hD0, hE⟩ := hv
  have hx := B.exec
  have hb := B.bytes
  have hr := B.returns
  have hts := atoms_spec (ws := .code yX4_dropOut cX4_dropOut 3 none :: GW) B.pre
  have hg : ∀ w ∈ GW, w.before (([.ref (a 0), .int p1, .int p2] : List Value).toArray) s = true := fun w h => hts w (List.mem_cons_of_mem _ h)
  have hown : s.vm.findClass RX4 = some m.cls := findClass_of_methodNamed B.named
  have hlocks := B.notSynchronized
  subst hsz
  have hD := hD0.self (sz := s.heap.size)
  generalize hAe : va_A (W_Row cI n a x) s.heap.size = A at hD hE ⊢
  have hA : ∀ q : Nat, s.heap.size ≤ q → A q := fun q h => by rw [← hAe]; exact Or.inr h
  have hS : va_S A s.heap s.heap [] := va_S.rf
  have hl := lv_entry ([.ref (a 0), .int p1, .int p2]) (n := 3) (Nat.le_of_ble_eq_true rfl)
  rw [lg_entry_eq]
  generalize (lg_sl ([.ref (a 0), .int p1, .int p2]) ++ List.replicate (3 - (lg_sl ([.ref (a 0), .int p1, .int p2])).length) Slot.unset).toArray = ls at hl ⊢
  have hl : lv_has ls 3 [(0, .ref (a 0)), (1, .int p1), (2, .int p2)] := hl
  have M0 : ∀ (H : Heap) (locs : List Loc) (ls : Array Slot), fX4_dropOut n x p1 p2 = some res → va_P D vwCl (W_Row cI n a x) H → va_D A (W_Row cI n a x) → va_S A s.heap H locs → lv_has ls 3 [(0, .ref (a 0)), (1, .int p1), (2, .int p2)] → W p l e ({ frames := 1, cells := 0, slots := 0, locals := 60 } : Room) s m ([.ref (a 0), .int p1, .int p2] : List Value).toArray below meth c H locs 0 0 (MQ below (QW D (TY cI cV cJ cD) (W_Row cI n a res) A none) (([.ref (a 0), .int p1, .int p2] : List Value).toArray) s 0 0 A) (F0 m 0 ls []) := by
    intro H locs ls hf hP hD hS hl
    dsimp only [fX4_dropOut] at hf
    refine lv_iload_n hx hb dX4_dropOut_0 rfl (lv_at hl 1 rfl) ?_
    refine lv_if_lt (tgt := 12) hx hb dX4_dropOut_1 (by decide) (fun c1 => ?_) (fun c1 => ?_)
    · replace hf := if_t c1 hf
      obtain rfl := Option.some.inj hf
      exact W.vret hx hb hr (fun t ht hW => ⟨rfl, by rw [ht]; exact hP, va_K.moved hW.alike hK, hD, hS.F ht⟩) hS.2.2 dX4_dropOut_12 hlocks
    · replace hf := if_f c1 hf
      refine lv_iload_n hx hb dX4_dropOut_4 rfl (lv_at hl 1 rfl) ?_
      refine lv_aload_n hx hb dX4_dropOut_5 rfl (lv_at hl 0 rfl) ?_
      refine va_get (D := D) (ci := 3) (v := .int (rwN x)) (C := RX4) (T := TX4) (N := 3) hx hb hg in_X4 hown hK hP 0 rfl rfl 2 (by decide) (hg _ w62) (fun _ h9 => h9) rfl dX4_dropOut_6 ?_
      refine lv_icmp_lt (tgt := 13) hx hb dX4_dropOut_9 (by decide) (fun c2 => ?_) (fun c2 => ?_)
      · replace hf := if_t c2 hf
        refine lv_aload_n hx hb dX4_dropOut_13 rfl (lv_at hl 0 rfl) ?_
        refine lv_dup hx hb dX4_dropOut_14 rfl ?_
        refine va_get (D := D) (ci := 3) (v := .int (rwN x)) (C := RX4) (T := TX4) (N := 3) hx hb hg in_X4 hown hK hP 0 rfl rfl 2 (by decide) (hg _ w62) (fun _ h9 => h9) rfl dX4_dropOut_15 ?_
        refine lv_iconst (v := 1) hx hb dX4_dropOut_18 (by decide) ?_
        refine lv_isub hx hb dX4_dropOut_19 ?_
        refine va_put (D := D) (ci := 3) (v := .int ((rwN x) - 1)) (ty := .int) (C := RX4) (T := TX4) (N := 3) hx hb hg in_X4 tyX4 tyX4_ok nmX4 hown hK hP hD hS 0 rfl rfl 2 (by decide) (hg _ w62) (fun _ h9 => h9) rfl (by decide +kernel) rfl rfl (Nat.le_of_ble_eq_true rfl) dX4_dropOut_20 (fun H locs hP hD hS => ?_)
        obtain ⟨x3, hx3⟩ : ∃ z, z = (rwN_s x ((rwN x) - 1)) := ⟨_, rfl⟩
        replace hf := keep_e hf x3 hx3
        have hP : va_P D vwCl (W_Row cI n a x3) H := by rw [hx3]; exact hP
        have hD : va_D A (W_Row cI n a x3) := by rw [hx3]; exact hD
        refine lv_aload_n hx hb dX4_dropOut_23 rfl (lv_at hl 0 rfl) ?_
        refine va_get (D := D) (ci := 3) (v := .ref (a 1)) (C := RX4) (T := TX4) (N := 3) hx hb hg in_X4 hown hK hP 0 rfl rfl 0 (by decide) (hg _ w60) (fun _ h9 => h9) rfl dX4_dropOut_24 ?_
        refine lv_iload_n hx hb dX4_dropOut_27 rfl (lv_at hl 1 rfl) ?_
        refine lv_iconst (v := 1) hx hb dX4_dropOut_28 (by decide) ?_
        refine lv_iadd hx hb dX4_dropOut_29 ?_
        refine lv_aload_n hx hb dX4_dropOut_30 rfl (lv_at hl 0 rfl) ?_
        refine va_get (D := D) (ci := 3) (v := .ref (a 1)) (C := RX4) (T := TX4) (N := 3) hx hb hg in_X4 hown hK hP 0 rfl rfl 0 (by decide) (hg _ w60) (fun _ h9 => h9) rfl dX4_dropOut_31 ?_
        refine lv_iload_n hx hb dX4_dropOut_34 rfl (lv_at hl 1 rfl) ?_
        refine lv_aload_n hx hb dX4_dropOut_35 rfl (lv_at hl 0 rfl) ?_
        refine va_get (D := D) (ci := 3) (v := .int (rwN x3)) (C := RX4) (T := TX4) (N := 3) hx hb hg in_X4 hown hK hP 0 rfl rfl 2 (by decide) (hg _ w62) (fun _ h9 => h9) rfl dX4_dropOut_36 ?_
        refine lv_iload_n hx hb dX4_dropOut_39 rfl (lv_at hl 1 rfl) ?_
        refine lv_isub hx hb dX4_dropOut_40 ?_
        obtain ⟨hi4, hf⟩ := chk_t hf
        refine va_copyi hx hb (by rw [hml]; exact hl.1.symm) hown (hg _ w474) (hg _ w476) (hg _ w475) (hg _ w16) hK hP hD hS 1 1 0 0 rfl rfl rfl rfl rfl (cpyok_1 hi4) (cpyok_2 hi4) (cpyok_3 hi4) (cpyok_4 hi4) (cpyok_5 hi4) (fun _ _ => rfl) (Nat.le_of_ble_eq_true rfl) (Nat.le_of_ble_eq_true rfl) dX4_dropOut_41 (fun H locs hP hD hS => ?_)
        obtain ⟨x5, hx5⟩ : ∃ z, z = (rwE_s x3 (va_cpy (rwE x3) (rwE x3) ((p1 + 1)).toNatClampNeg (p1).toNatClampNeg (((rwN x3) - p1)).toNatClampNeg)) := ⟨_, rfl⟩
        replace hf := keep_e hf x5 hx5
        have hP : va_P D vwCl (W_Row cI n a x5) H := by rw [hx5]; exact hP
        have hD : va_D A (W_Row cI n a x5) := by rw [hx5]; exact hD
        refine lv_aload_n hx hb dX4_dropOut_44 rfl (lv_at hl 0 rfl) ?_
        refine va_get (D := D) (ci := 3) (v := .ref (a 2)) (C := RX4) (T := TX4) (N := 3) hx hb hg in_X4 hown hK hP 0 rfl rfl 1 (by decide) (hg _ w61) (fun _ h9 => h9) rfl dX4_dropOut_45 ?_
        refine lv_iload_n hx hb dX4_dropOut_48 rfl (lv_at hl 1 rfl) ?_
        refine lv_iconst (v := 1) hx hb dX4_dropOut_49 (by decide) ?_
        refine lv_iadd hx hb dX4_dropOut_50 ?_
        refine lv_aload_n hx hb dX4_dropOut_51 rfl (lv_at hl 0 rfl) ?_
        refine va_get (D := D) (ci := 3) (v := .ref (a 2)) (C := RX4) (T := TX4) (N := 3) hx hb hg in_X4 hown hK hP 0 rfl rfl 1 (by decide) (hg _ w61) (fun _ h9 => h9) rfl dX4_dropOut_52 ?_
        refine lv_iload_n hx hb dX4_dropOut_55 rfl (lv_at hl 1 rfl) ?_
        refine lv_aload_n hx hb dX4_dropOut_56 rfl (lv_at hl 0 rfl) ?_
        refine va_get (D := D) (ci := 3) (v := .int (rwN x5)) (C := RX4) (T := TX4) (N := 3) hx hb hg in_X4 hown hK hP 0 rfl rfl 2 (by decide) (hg _ w62) (fun _ h9 => h9) rfl dX4_dropOut_57 ?_
        refine lv_iload_n hx hb dX4_dropOut_60 rfl (lv_at hl 1 rfl) ?_
        refine lv_isub hx hb dX4_dropOut_61 ?_
        obtain ⟨hi6, hf⟩ := chk_t hf
        refine va_copyi hx hb (by rw [hml]; exact hl.1.symm) hown (hg _ w474) (hg _ w476) (hg _ w475) (hg _ w16) hK hP hD hS 2 2 0 0 rfl rfl rfl rfl rfl (cpyok_1 hi6) (cpyok_2 hi6) (cpyok_3 hi6) (cpyok_4 hi6) (cpyok_5 hi6) (fun _ _ => rfl) (Nat.le_of_ble_eq_true rfl) (Nat.le_of_ble_eq_true rfl) dX4_dropOut_62 (fun H locs hP hD hS => ?_)
        obtain ⟨x7, hx7⟩ : ∃ z, z = (rwP_s x5 (va_cpy (rwP x5) (rwP x5) ((p1 + 1)).toNatClampNeg (p1).toNatClampNeg (((rwN x5) - p1)).toNatClampNeg)) := ⟨_, rfl⟩
        replace hf := keep_e hf x7 hx7
        have hP : va_P D vwCl (W_Row cI n a x7) H := by rw [hx7]; exact hP
        have hD : va_D A (W_Row cI n a x7) := by rw [hx7]; exact hD
        obtain rfl := Option.some.inj hf
        exact W.vret hx hb hr (fun t ht hW => ⟨rfl, by rw [ht]; exact hP, va_K.moved hW.alike hK, hD, hS.F ht⟩) hS.2.2 dX4_dropOut_65 hlocks
      · replace hf := if_f c2 hf
        obtain rfl := Option.some.inj hf
        exact W.vret hx hb hr (fun t ht hW => ⟨rfl, by rw [ht]; exact hP, va_K.moved hW.alike hK, hD, hS.F ht⟩) hS.2.2 dX4_dropOut_12 hlocks
  exact M0 s.heap [] ls hf hP hD hS hl

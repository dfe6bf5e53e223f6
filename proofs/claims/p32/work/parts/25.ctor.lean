/-! constructors: their worlds come with new addresses -/
def MN (l : Launch) (y : MethodName) (b : ByteArray) (ml : Nat) (rm : Room) (D : va_G) (tys : List (ClassId × FieldType)) (W0 : va_W) (Wf : (Nat → Nat) → va_W) (h0 : Nat) (av : List Value) : Prop :=
  ∀ sz, Met l y (.code y b ml none :: GW) rm (va_Pc av (PW D tys W0 sz)) (fun a st oc t => ∃ a' : Nat → Nat, a' 0 = h0 ∧ QW D tys (Wf a') (va_A W0 sz) none a st oc t) rm.cells rm.slots (va_A W0 sz)
def row0 : RSt := (fun _ => 0, fun _ => 0, 0)
def chain0 : CSt := (fun _ => 0, fun _ => 0, fun _ => 0, -1, -1)
def table0 : TSt := (fun _ => 0, fun _ => 0, fun _ => 0, 16, 0)
def groups0 : GSt := (fun _ => 0, fun _ => 0)
def log0 : LSt := (fun _ => 0, 0)
def val0 : VSt := (0, 0, -1, 0, 1, row0, chain0, table0, row0, groups0)
section KN
variable {p : Program} {l : Launch} {e : Env} {R : Room} {s : State} {m : MethodId} {args : Array Value} {below : List Frame} {meth : Method} {c : Code} {H : Heap} {locs : List Loc} {cells slots : Nat} {Q : State → Prop}
variable {pc : Nat} {ls : Array Slot} {rest st0 : List Value} {a : Array Value} {A0 : Nat → Prop} {D : va_G} {tys : List (ClassId × FieldType)} {ws wc wr : va_W} {Wf : (Nat → Nat) → va_W} {mc ms : Nat} {h0 : Nat}
theorem k_callN (hr : va_Run p l e R s m args below meth c H locs cells slots mc ms (F0 m pc ls st0) rest (fun st oc t => ∃ a' : Nat → Nat, a' 0 = h0 ∧ QW D tys (Wf a') (va_A wc H.size) none a st oc t) (va_A wc H.size))
    (hP : va_P D vwCl ws H) (hD : va_D A0 ws) (hS : va_S A0 s.heap H locs) (hA : ∀ q, s.heap.size ≤ q → A0 q) {isC isR : List Nat} (hC : isC.map (fun i => ws[i]?) = wc.map some) (hR : isR.map (fun i => ws[i]?) = wr.map some) (hn : va_nd isR = true) (hdis : ∀ i ∈ isR, i ∉ isC)
    (kk : ∀ (a' : Nat → Nat) (H1 : Heap) (locs1 : List Loc), a' 0 = h0 → va_P D vwCl (wr ++ Wf a') H1 → va_D A0 (wr ++ Wf a') → va_S A0 s.heap H1 locs1 → W p l e R s m args below meth c H1 locs1 (cells + mc) (slots + ms) Q (F0 m (pc + 3) ls rest)) :
    W p l e R s m args below meth c H locs cells slots Q (F0 m pc ls st0) := by
  intro T hT X
  obtain ⟨v, st₀, t, T', L, h9, X', hL, e1, e2, ⟨a', ha, hv, hP1, -, hD1, hz, hk⟩, st⟩ := hr T hT X
  cases hv
  rw [h9] at hz hk
  have hF := va_free (wc := wc) hD hS hA isC hC
  obtain ⟨hPj, hDj⟩ := va_join hP hD isC isR hC hR hn hdis hk hF hP1 hD1
  have hS1 : va_S A0 s.heap T'.heap (locs ++ L) := ⟨Nat.le_trans hS.1 (by rw [e1]; exact hz), fun q h1 h2 => by rw [e1, hk q (Nat.lt_of_lt_of_le h1 hS.1) (fun z => h2 (hF q z))]; exact hS.2.1 q h1 h2, fun q hq => by
      rcases List.mem_append.mp hq with h | h
      · exact hS.2.2 q h
      · exact hF _ (hL q h)⟩
  obtain ⟨t2, a1, b1⟩ := kk a' T'.heap (locs ++ L) ha (by rw [e1]; exact hPj) hDj hS1 T' rfl X'
  exact ⟨t2, st t2 a1, b1⟩
variable {y : MethodName} {b cc : ByteArray} {ml nL n index : Nat} {rm : Room} {own host : String} {As : List Value} {c0 : Cond}
theorem n_pre (hK : va_K D vwCl tys s) (hE : EV A0 s) (hP : va_P D vwCl ws H) (hD : va_D A0 ws) (hS : va_S A0 s.heap H locs) (hA : ∀ q, s.heap.size ≤ q → A0 q) {isC : List Nat} (hC : isC.map (fun i => ws[i]?) = wc.map some) (hnC : va_nd isC = true) (av : List Value) :
    ∀ U : State, U.heap = H → s.WarmedH U.vm → va_Pc av (PW D tys wc H.size) av.toArray U :=
  pw_pre hK hE hS (hP.sub isC (Cut.pick hC)) (hD.sub isC hnC hC) (va_free (wc := wc) hD hS hA isC hC)
/-- a constructor of another class -/
theorem k_I (S : CallFix p m c cc nL s args (c0 :: GW) own) (hM : MN l y b ml rm D tys wc Wf h0 (.ref h0 :: As)) (h1 : Cond.methodLink own index y ∈ GW) (h2 : Cond.instanceMethod y ∈ GW) (h4 : Cond.initialized y.cls ∈ GW) (h5 : Cond.code y b ml none ∈ GW)
    (hy : y.name = "<init>") (hd : y.cls ≠ "java/lang/invoke/MethodHandle" ∧ y.cls ≠ "java/lang/invoke/VarHandle" ∧ (parseMethodDescriptor y.desc).map (fun d => d.parameters.length) = some n) (hRm : rm.frames + 1 ≤ R.frames ∧ 8 + (ml + 11) + rm.locals ≤ R.locals)
    (hK : va_K D vwCl tys s) (hE : EV A0 s) (hP : va_P D vwCl ws H) (hD : va_D A0 ws) (hS : va_S A0 s.heap H locs) (hA : ∀ q, s.heap.size ≤ q → A0 q) {isC isR : List Nat} (hC : isC.map (fun i => ws[i]?) = wc.map some) (hR : isR.map (fun i => ws[i]?) = wr.map some) (hn9 : va_nd isR = true) (hnC : va_nd isC = true) (hdis : ∀ i ∈ isR, i ∉ isC)
    (hn : As.length = n) (hls : ls.size = nL) (hst : st0 = As.reverse ++ .ref h0 :: rest) (hroom : (rest.map fun v => v.category).sum ≤ 8)
    (hdg : decode cc pc = .ok (.invokespecial index, 3)) (hf : cells + rm.cells ≤ R.cells ∧ slots + rm.slots ≤ R.slots)
    (kk : ∀ (a' : Nat → Nat) (H1 : Heap) (locs1 : List Loc), a' 0 = h0 → va_P D vwCl (wr ++ Wf a') H1 → va_D A0 (wr ++ Wf a') → va_S A0 s.heap H1 locs1 → W p l e R s m args below meth c H1 locs1 (cells + rm.cells) (slots + rm.slots) Q (F0 m (pc + 3) ls rest)) :
    W p l e R s m args below meth c H locs cells slots Q (F0 m pc ls st0) :=
  k_callN (a := (Value.ref h0 :: As).toArray) (va_runI S (hM H.size) (cwI n S.2.2.2.2 (gd_code h5) rfl rfl rfl (S.2.2.2.2 _ (List.mem_cons_of_mem _ h4)) (S.2.2.2.2 _ (List.mem_cons_of_mem _ h1)) (S.2.2.2.2 _ (List.mem_cons_of_mem _ h2)) hy hd hRm) ⟨pw_blind, n_pre hK hE hP hD hS hA hC hnC _⟩ rfl hn hls hst (by simpa using hroom) hdg hf) hP hD hS hA hC hR hn9 hdis kk
/-- .. a private one of a nest mate -/
theorem k_IN (S : CallFix p m c cc nL s args (c0 :: GW) own) (hM : MN l y b ml rm D tys wc Wf h0 (.ref h0 :: As)) (h1 : va_Nw (.methodLinkNest own index y host) s) (h2 : Cond.instanceMethod y ∈ GW) (h4 : Cond.initialized y.cls ∈ GW) (h5 : Cond.code y b ml none ∈ GW)
    (hy : y.name = "<init>") (hd : y.cls ≠ "java/lang/invoke/MethodHandle" ∧ y.cls ≠ "java/lang/invoke/VarHandle" ∧ (parseMethodDescriptor y.desc).map (fun d => d.parameters.length) = some n) (hRm : rm.frames + 1 ≤ R.frames ∧ 8 + (ml + 11) + rm.locals ≤ R.locals)
    (hK : va_K D vwCl tys s) (hE : EV A0 s) (hP : va_P D vwCl ws H) (hD : va_D A0 ws) (hS : va_S A0 s.heap H locs) (hA : ∀ q, s.heap.size ≤ q → A0 q) {isC isR : List Nat} (hC : isC.map (fun i => ws[i]?) = wc.map some) (hR : isR.map (fun i => ws[i]?) = wr.map some) (hn9 : va_nd isR = true) (hnC : va_nd isC = true) (hdis : ∀ i ∈ isR, i ∉ isC)
    (hn : As.length = n) (hls : ls.size = nL) (hst : st0 = As.reverse ++ .ref h0 :: rest) (hroom : (rest.map fun v => v.category).sum ≤ 8)
    (hdg : decode cc pc = .ok (.invokespecial index, 3)) (hf : cells + rm.cells ≤ R.cells ∧ slots + rm.slots ≤ R.slots)
    (kk : ∀ (a' : Nat → Nat) (H1 : Heap) (locs1 : List Loc), a' 0 = h0 → va_P D vwCl (wr ++ Wf a') H1 → va_D A0 (wr ++ Wf a') → va_S A0 s.heap H1 locs1 → W p l e R s m args below meth c H1 locs1 (cells + rm.cells) (slots + rm.slots) Q (F0 m (pc + 3) ls rest)) :
    W p l e R s m args below meth c H locs cells slots Q (F0 m pc ls st0) :=
  k_callN (a := (Value.ref h0 :: As).toArray) (va_runIN S (hM H.size) ⟨va_cnB n S.2.2.2.2 (gd_code h5) rfl rfl rfl h1 (S.2.2.2.2 _ (List.mem_cons_of_mem _ h4)) hd hRm, hy, S.2.2.2.2 _ (List.mem_cons_of_mem _ h2)⟩ ⟨pw_blind, n_pre hK hE hP hD hS hA hC hnC _⟩ rfl hn hls hst (by simpa using hroom) hdg hf) hP hD hS hA hC hR hn9 hdis kk
/-- new int[n] -/
theorem k_newI {cc : ByteArray} (hexec : p.tables.exec = Jvm.exec) (hb : c.code = cc) (harr : (Cond.arrayClass .int).before args s = true) {cI : ClassId} (hK : va_K D vwCl tys s) (t0 : Nat) (ht : tys[t0]? = some (cI, .int)) (hP : va_P D vwCl ws H) (hD : va_D A0 ws) {H0 : Heap} (hS : va_S A0 H0 H locs) (hA : ∀ q, H0.size ≤ q → A0 q)
    {n : Int32} {N' : Nat} (hn : ¬ n < 0) (hN : n.toNatClampNeg = N') (hbytes : N' * componentBytes .int ≤ 536870912) (hcells : cells + 1 ≤ R.cells) (hslots : slots + N' ≤ R.slots) (hdg : decode cc pc = .ok (.newarray .int, 2))
    (kk : ∀ (q : Nat) (H1 : Heap), va_P D vwCl (ws ++ [(q, .inl (cI, N', .inl (fun _ => 0)))]) H1 → va_D A0 (ws ++ [(q, .inl (cI, N', .inl (fun _ => 0)))]) → va_S A0 H0 H1 locs → W p l e R s m args below meth c H1 locs (cells + 1) (slots + N') Q (F0 m (pc + 2) ls (.ref q :: rest))) :
    W p l e R s m args below meth c H locs cells slots Q (F0 m pc ls (.int n :: rest)) := by
  refine va_newa (atype := .int) hexec hb harr rfl hK hP hD hS hA (a0 := (N', .inl (fun _ => 0))) (fun cA => rfl) hn hN hbytes hcells hslots hdg (fun q cA H1 hK2 hP2 hD2 hS2 => ?_)
  have e1 : s.vm.findClass ("[" ++ FieldType.int.toString) = some cA := (hK2.2 tys.length (cA, .int) (by rw [List.getElem?_append_right (Nat.le_refl _), Nat.sub_self]; rfl)).2
  have e2 : s.vm.findClass ("[" ++ FieldType.int.toString) = some cI := (hK.2 t0 _ ht).2
  cases Option.some.inj (e1.symm.trans e2)
  exact kk q H1 hP2 hD2 hS2
end KN
set_option maxHeartbeats 4000000 in
set_option maxRecDepth 100000 in
theorem ctor_X1_init {D : va_G} {cI cV cJ cD : ClassId} (l : Launch) (h0 : Nat) : MN l yX1_init cX1_init 1 { frames := 1, cells := 0, slots := 0, locals := 30 } D (TY cI cV cJ cD) ([] : va_W) (fun _ => []) h0 [.ref h0] := by
  intro sz
  refine Met.ofW (cc := cX1_init) (maxL := 1) (ret := none) (by decide +kernel) rfl ?_
  intro p e s m args below meth c s₁ B hml hv
  obtain ⟨rfl, hsz, hP, hK, hD0, hE⟩ := hv
  have hx := B.exec
  have hb := B.bytes
  have hr := B.returns
  have hts := atoms_spec (ws := .code yX1_init cX1_init 1 none :: GW) B.pre
  have hg : ∀ w ∈ GW, w.before (([.ref h0] : List Value).toArray) s = true := fun w h => hts w (List.mem_cons_of_mem _ h)
  have hown : s.vm.findClass RX1 = some m.cls := findClass_of_methodNamed B.named
  have hlocks := B.notSynchronized
  have hin : meth.name = "<init>" := (name_of_methodNamed B.named B.method).1
  subst hsz
  have hD := hD0.self (sz := s.heap.size)
  generalize hAe : va_A ([] : va_W) s.heap.size = A at hD hE ⊢
  have hA : ∀ q : Nat, s.heap.size ≤ q → A q := fun q h => by rw [← hAe]; exact Or.inr h
  have hS : va_S A s.heap s.heap [] := va_S.rf
  have hl := lv_entry ([.ref h0]) (n := 1) (Nat.le_of_ble_eq_true rfl)
  rw [lg_entry_eq]
  generalize (lg_sl ([.ref h0]) ++ List.replicate (1 - (lg_sl ([.ref h0])).length) Slot.unset).toArray = ls at hl ⊢
  have hl : lv_has ls 1 [(0, .ref h0)] := hl
  have M0 : ∀ (H : Heap) (locs : List Loc) (ls : Array Slot), va_P D vwCl ([] : va_W) H → va_D A ([] : va_W) → va_S A s.heap H locs → lv_has ls 1 [(0, .ref h0)] → W p l e ({ frames := 1, cells := 0, slots := 0, locals := 30 } : Room) s m ([.ref h0] : List Value).toArray below meth c H locs 0 0 (MQ below (fun a st oc t => ∃ a' : Nat → Nat, a' 0 = h0 ∧ QW D (TY cI cV cJ cD) ((fun _ => []) a') A none a st oc t) ([.ref h0] : List Value).toArray s 0 0 A) (F0 m 0 ls []) := by
    intro H locs ls hP hD hS hl
    refine lv_aload_n hx hb dX1_init_0 rfl (lv_at hl 0 rfl) ?_
    refine W.objInit hx hb hown (hg _ w59) (hg _ w27) (hg _ w28) rfl (by rw [hml]; exact hl.1) rfl dX1_init_1 (Nat.le_of_ble_eq_true rfl) (Nat.le_of_ble_eq_true rfl) ?_
    refine W.eq (g2 := F0 m 4 ls []) rfl ?_
    exact W.vret hx hb hr (fun t ht hW => ⟨fun _ => h0, rfl, rfl, by rw [ht]; exact hP, va_K.moved hW.alike hK, hD, hS.F ht⟩) hS.2.2 dX1_init_4 hlocks
  exact M0 s.heap [] ls hP hD hS hl
set_option maxHeartbeats 4000000 in
set_option maxRecDepth 100000 in
theorem ctor_X4_init_16 {D : va_G} {cI cV cJ cD : ClassId} (l : Launch) (h0 : Nat) : MN l yX4_init cX4_init 3 { frames := 2, cells := 2, slots := 32, locals := 50 } D (TY cI cV cJ cD) [(h0, .inr (3, [.null, .null, .int 0]))] (fun a => W_Row cI 16 a row0) h0 [.ref h0, .int 16] := by
  intro sz
  refine Met.ofW (cc := cX4_init) (maxL := 3) (ret := none) (by decide +kernel) rfl ?_
  intro p e s m args below meth c s₁ B hml hv
  obtain ⟨rfl, hsz, hP, hK, hD0, hE⟩ := hv
  have hx := B.exec
  have hb := B.bytes
  have hr := B.returns
  have hts := atoms_spec (ws := .code yX4_init cX4_init 3 none :: GW) B.pre
  have hg : ∀ w ∈ GW, w.before (([.ref h0, .int 16] : List Value).toArray) s = true := fun w h => hts w (List.mem_cons_of_mem _ h)
  have hown : s.vm.findClass RX4 = some m.cls := findClass_of_methodNamed B.named
  have hlocks := B.notSynchronized
  have hin : meth.name = "<init>" := (name_of_methodNamed B.named B.method).1
  subst hsz
  have hD := hD0.self (sz := s.heap.size)
  generalize hAe : va_A [(h0, .inr (3, [.null, .null, .int 0]))] s.heap.size = A at hD hE ⊢
  have hA : ∀ q : Nat, s.heap.size ≤ q → A q := fun q h => by rw [← hAe]; exact Or.inr h
  have hS : va_S A s.heap s.heap [] := va_S.rf
  have hl := lv_entry ([.ref h0, .int 16]) (n := 3) (Nat.le_of_ble_eq_true rfl)
  rw [lg_entry_eq]
  generalize (lg_sl ([.ref h0, .int 16]) ++ List.replicate (3 - (lg_sl ([.ref h0, .int 16])).length) Slot.unset).toArray = ls at hl ⊢
  have hl : lv_has ls 3 [(0, .ref h0), (1, .int 16)] := hl
  have M0 : ∀ (H : Heap) (locs : List Loc) (ls : Array Slot), va_P D vwCl [(h0, .inr (3, [.null, .null, .int 0]))] H → va_D A [(h0, .inr (3, [.null, .null, .int 0]))] → va_S A s.heap H locs → lv_has ls 3 [(0, .ref h0), (1, .int 16)] → W p l e ({ frames := 2, cells := 2, slots := 32, locals := 50 } : Room) s m ([.ref h0, .int 16] : List Value).toArray below meth c H locs 0 0 (MQ below (fun a st oc t => ∃ a' : Nat → Nat, a' 0 = h0 ∧ QW D (TY cI cV cJ cD) ((fun a => W_Row cI 16 a row0) a') A none a st oc t) ([.ref h0, .int 16] : List Value).toArray s 2 32 A) (F0 m 0 ls []) := by
    intro H locs ls hP hD hS hl
    refine lv_aload_n hx hb dX4_init_0 rfl (lv_at hl 0 rfl) ?_
    refine k_IN (As := []) (rest := []) (n := 0) ⟨hx, hb, hml, hown, hts⟩ (ctor_X1_init l (h0)) (hE.1.2.1 _ (List.mem_of_getElem? (i := 2) rfl)) w57 w4 w58 rfl ⟨by decide +kernel, by decide +kernel, by decide +kernel⟩ ⟨Nat.le_of_ble_eq_true rfl, Nat.le_of_ble_eq_true rfl⟩ hK hE hP hD hS hA (isC := ([] : List Nat)) (isR := [0]) (wr := [(h0, .inr (3, [.null, .null, .int 0]))]) rfl rfl (by decide) (by decide) (by decide) rfl hl.1 rfl (Nat.le_of_ble_eq_true rfl) dX4_init_1 ⟨Nat.le_of_ble_eq_true rfl, Nat.le_of_ble_eq_true rfl⟩ (fun b1 H locs hb1 hP hD hS => ?_)
    replace hP : va_P D vwCl ([(h0, .inr (3, [.null, .null, .int 0]))] : va_W) H := by simpa using hP
    replace hD : va_D A ([(h0, .inr (3, [.null, .null, .int 0]))] : va_W) := by simpa using hD
    refine W.eq (g2 := F0 m 4 ls []) rfl ?_
    refine lv_aload_n hx hb dX4_init_4 rfl (lv_at hl 0 rfl) ?_
    refine lv_iconst (v := 0) hx hb dX4_init_5 (by decide) ?_
    refine va_put (D := D) (ci := 3) (v := .int 0) (ty := .int) (C := RX4) (T := TX4) (N := 3) hx hb hg in_X4 tyX4 tyX4_ok nmX4 hown hK hP hD hS 0 rfl rfl 2 (by decide) (hg _ w62) (fun _ h9 => h9) rfl (by decide +kernel) rfl rfl (Nat.le_of_ble_eq_true rfl) dX4_init_6 (fun H locs hP hD hS => ?_)
    replace hP : va_P D vwCl ([(h0, .inr (3, [.null, .null, .int 0]))] : va_W) H := hP
    replace hD : va_D A ([(h0, .inr (3, [.null, .null, .int 0]))] : va_W) := hD
    refine lv_iload_n hx hb dX4_init_9 rfl (lv_at hl 1 rfl) ?_
    refine lv_if_ge (tgt := 17) hx hb dX4_init_10 (by decide) (fun c9 => ?_) (fun c9 => absurd (by decide) c9)
    refine lv_iload_n hx hb dX4_init_17 rfl (lv_at hl 1 rfl) ?_
    refine lv_istore_n (lv' := [(2, .int 16), (0, .ref (h0)), (1, .int 16)]) hx hb dX4_init_18 rfl hl (by decide) rfl (fun ls hl => ?_)
    refine lv_aload_n hx hb dX4_init_19 rfl (lv_at hl 1 rfl) ?_
    refine lv_iload_n hx hb dX4_init_20 rfl (lv_at hl 0 rfl) ?_
    refine k_newI hx hb (hg _ w45) hK 0 rfl hP hD hS hA (N' := 16) (by decide) (by decide) (by decide) (Nat.le_of_ble_eq_true rfl) (Nat.le_of_ble_eq_true rfl) dX4_init_21 (fun q2 H hP hD hS => ?_)
    replace hP : va_P D vwCl ([(h0, .inr (3, [.null, .null, .int 0])), (q2, .inl (cI, 16, .inl (fun _ => 0)))] : va_W) H := hP
    replace hD : va_D A ([(h0, .inr (3, [.null, .null, .int 0])), (q2, .inl (cI, 16, .inl (fun _ => 0)))] : va_W) := hD
    refine va_putF (D := D) (ci := 3) (v := .ref (q2)) (ty := (.array .int)) (C := RX4) (T := TX4) (N := 3) hx hb hg in_X4 tyX4 tyX4_ok nmX4 hown hK hP hD hS 0 rfl rfl 0 (by decide) (hg _ w60) (fun _ h9 => h9) rfl hin rfl (by decide +kernel) rfl rfl (Nat.le_of_ble_eq_true rfl) dX4_init_23 (fun H locs hP hD hS => ?_)
    replace hP : va_P D vwCl ([(h0, .inr (3, [.ref (q2), .null, .int 0])), (q2, .inl (cI, 16, .inl (fun _ => 0)))] : va_W) H := hP
    replace hD : va_D A ([(h0, .inr (3, [.ref (q2), .null, .int 0])), (q2, .inl (cI, 16, .inl (fun _ => 0)))] : va_W) := hD
    refine lv_aload_n hx hb dX4_init_26 rfl (lv_at hl 1 rfl) ?_
    refine lv_iload_n hx hb dX4_init_27 rfl (lv_at hl 0 rfl) ?_
    refine k_newI hx hb (hg _ w45) hK 0 rfl hP hD hS hA (N' := 16) (by decide) (by decide) (by decide) (Nat.le_of_ble_eq_true rfl) (Nat.le_of_ble_eq_true rfl) dX4_init_28 (fun q3 H hP hD hS => ?_)
    replace hP : va_P D vwCl ([(h0, .inr (3, [.ref (q2), .null, .int 0])), (q2, .inl (cI, 16, .inl (fun _ => 0))), (q3, .inl (cI, 16, .inl (fun _ => 0)))] : va_W) H := hP
    replace hD : va_D A ([(h0, .inr (3, [.ref (q2), .null, .int 0])), (q2, .inl (cI, 16, .inl (fun _ => 0))), (q3, .inl (cI, 16, .inl (fun _ => 0)))] : va_W) := hD
    refine va_putF (D := D) (ci := 3) (v := .ref (q3)) (ty := (.array .int)) (C := RX4) (T := TX4) (N := 3) hx hb hg in_X4 tyX4 tyX4_ok nmX4 hown hK hP hD hS 0 rfl rfl 1 (by decide) (hg _ w61) (fun _ h9 => h9) rfl hin rfl (by decide +kernel) rfl rfl (Nat.le_of_ble_eq_true rfl) dX4_init_30 (fun H locs hP hD hS => ?_)
    replace hP : va_P D vwCl ([(h0, .inr (3, [.ref (q2), .ref (q3), .int 0])), (q2, .inl (cI, 16, .inl (fun _ => 0))), (q3, .inl (cI, 16, .inl (fun _ => 0)))] : va_W) H := hP
    replace hD : va_D A ([(h0, .inr (3, [.ref (q2), .ref (q3), .int 0])), (q2, .inl (cI, 16, .inl (fun _ => 0))), (q3, .inl (cI, 16, .inl (fun _ => 0)))] : va_W) := hD
    exact W.vret hx hb hr (fun t ht hW => ⟨(fun j => match j with | 0 => h0 | 1 => q2 | _ => q3), rfl, rfl, by rw [ht]; exact hP.sub [0, 1, 2] rfl, va_K.moved hW.alike hK, hD.sub [0, 1, 2] (by decide) rfl, hS.F ht⟩) hS.2.2 dX4_init_33 hlocks
  exact M0 s.heap [] ls hP hD hS hl
set_option maxHeartbeats 4000000 in
set_option maxRecDepth 100000 in
theorem ctor_X4_init_40 {D : va_G} {cI cV cJ cD : ClassId} (l : Launch) (h0 : Nat) : MN l yX4_init cX4_init 3 { frames := 2, cells := 2, slots := 80, locals := 50 } D (TY cI cV cJ cD) [(h0, .inr (3, [.null, .null, .int 0]))] (fun a => W_Row cI 40 a row0) h0 [.ref h0, .int 40] := by
  intro sz
  refine Met.ofW (cc := cX4_init) (maxL := 3) (ret := none) (by decide +kernel) rfl ?_
  intro p e s m args below meth c s₁ B hml hv
  obtain ⟨rfl, hsz, hP, hK, hD0, hE⟩ := hv
  have hx := B.exec
  have hb := B.bytes
  have hr := B.returns
  have hts := atoms_spec (ws := .code yX4_init cX4_init 3 none :: GW) B.pre
  have hg : ∀ w ∈ GW, w.before (([.ref h0, .int 40] : List Value).toArray) s = true := fun w h => hts w (List.mem_cons_of_mem _ h)
  have hown : s.vm.findClass RX4 = some m.cls := findClass_of_methodNamed B.named
  have hlocks := B.notSynchronized
  have hin : meth.name = "<init>" := (name_of_methodNamed B.named B.method).1
  subst hsz
  have hD := hD0.self (sz := s.heap.size)
  generalize hAe : va_A [(h0, .inr (3, [.null, .null, .int 0]))] s.heap.size = A at hD hE ⊢
  have hA : ∀ q : Nat, s.heap.size ≤ q → A q := fun q h => by rw [← hAe]; exact Or.inr h
  have hS : va_S A s.heap s.heap [] := va_S.rf
  have hl := lv_entry ([.ref h0, .int 40]) (n := 3) (Nat.le_of_ble_eq_true rfl)
  rw [lg_entry_eq]
  generalize (lg_sl ([.ref h0, .int 40]) ++ List.replicate (3 - (lg_sl ([.ref h0, .int 40])).length) Slot.unset).toArray = ls at hl ⊢
  have hl : lv_has ls 3 [(0, .ref h0), (1, .int 40)] := hl
  have M0 : ∀ (H : Heap) (locs : List Loc) (ls : Array Slot), va_P D vwCl [(h0, .inr (3, [.null, .null, .int 0]))] H → va_D A [(h0, .inr (3, [.null, .null, .int 0]))] → va_S A s.heap H locs → lv_has ls 3 [(0, .ref h0), (1, .int 40)] → W p l e ({ frames := 2, cells := 2, slots := 80, locals := 50 } : Room) s m ([.ref h0, .int 40] : List Value).toArray below meth c H locs 0 0 (MQ below (fun a st oc t => ∃ a' : Nat → Nat, a' 0 = h0 ∧ QW D (TY cI cV cJ cD) ((fun a => W_Row cI 40 a row0) a') A none a st oc t) ([.ref h0, .int 40] : List Value).toArray s 2 80 A) (F0 m 0 ls []) := by
    intro H locs ls hP hD hS hl
    refine lv_aload_n hx hb dX4_init_0 rfl (lv_at hl 0 rfl) ?_
    refine k_IN (As := []) (rest := []) (n := 0) ⟨hx, hb, hml, hown, hts⟩ (ctor_X1_init l (h0)) (hE.1.2.1 _ (List.mem_of_getElem? (i := 2) rfl)) w57 w4 w58 rfl ⟨by decide +kernel, by decide +kernel, by decide +kernel⟩ ⟨Nat.le_of_ble_eq_true rfl, Nat.le_of_ble_eq_true rfl⟩ hK hE hP hD hS hA (isC := ([] : List Nat)) (isR := [0]) (wr := [(h0, .inr (3, [.null, .null, .int 0]))]) rfl rfl (by decide) (by decide) (by decide) rfl hl.1 rfl (Nat.le_of_ble_eq_true rfl) dX4_init_1 ⟨Nat.le_of_ble_eq_true rfl, Nat.le_of_ble_eq_true rfl⟩ (fun b1 H locs hb1 hP hD hS => ?_)
    replace hP : va_P D vwCl ([(h0, .inr (3, [.null, .null, .int 0]))] : va_W) H := by simpa using hP
    replace hD : va_D A ([(h0, .inr (3, [.null, .null, .int 0]))] : va_W) := by simpa using hD
    refine W.eq (g2 := F0 m 4 ls []) rfl ?_
    refine lv_aload_n hx hb dX4_init_4 rfl (lv_at hl 0 rfl) ?_
    refine lv_iconst (v := 0) hx hb dX4_init_5 (by decide) ?_
    refine va_put (D := D) (ci := 3) (v := .int 0) (ty := .int) (C := RX4) (T := TX4) (N := 3) hx hb hg in_X4 tyX4 tyX4_ok nmX4 hown hK hP hD hS 0 rfl rfl 2 (by decide) (hg _ w62) (fun _ h9 => h9) rfl (by decide +kernel) rfl rfl (Nat.le_of_ble_eq_true rfl) dX4_init_6 (fun H locs hP hD hS => ?_)
    replace hP : va_P D vwCl ([(h0, .inr (3, [.null, .null, .int 0]))] : va_W) H := hP
    replace hD : va_D A ([(h0, .inr (3, [.null, .null, .int 0]))] : va_W) := hD
    refine lv_iload_n hx hb dX4_init_9 rfl (lv_at hl 1 rfl) ?_
    refine lv_if_ge (tgt := 17) hx hb dX4_init_10 (by decide) (fun c9 => ?_) (fun c9 => absurd (by decide) c9)
    refine lv_iload_n hx hb dX4_init_17 rfl (lv_at hl 1 rfl) ?_
    refine lv_istore_n (lv' := [(2, .int 40), (0, .ref (h0)), (1, .int 40)]) hx hb dX4_init_18 rfl hl (by decide) rfl (fun ls hl => ?_)
    refine lv_aload_n hx hb dX4_init_19 rfl (lv_at hl 1 rfl) ?_
    refine lv_iload_n hx hb dX4_init_20 rfl (lv_at hl 0 rfl) ?_
    refine k_newI hx hb (hg _ w45) hK 0 rfl hP hD hS hA (N' := 40) (by decide) (by decide) (by decide) (Nat.le_of_ble_eq_true rfl) (Nat.le_of_ble_eq_true rfl) dX4_init_21 (fun q2 H hP hD hS => ?_)
    replace hP : va_P D vwCl ([(h0, .inr (3, [.null, .null, .int 0])), (q2, .inl (cI, 40, .inl (fun _ => 0)))] : va_W) H := hP
    replace hD : va_D A ([(h0, .inr (3, [.null, .null, .int 0])), (q2, .inl (cI, 40, .inl (fun _ => 0)))] : va_W) := hD
    refine va_putF (D := D) (ci := 3) (v := .ref (q2)) (ty := (.array .int)) (C := RX4) (T := TX4) (N := 3) hx hb hg in_X4 tyX4 tyX4_ok nmX4 hown hK hP hD hS 0 rfl rfl 0 (by decide) (hg _ w60) (fun _ h9 => h9) rfl hin rfl (by decide +kernel) rfl rfl (Nat.le_of_ble_eq_true rfl) dX4_init_23 (fun H locs hP hD hS => ?_)
    replace hP : va_P D vwCl ([(h0, .inr (3, [.ref (q2), .null, .int 0])), (q2, .inl (cI, 40, .inl (fun _ => 0)))] : va_W) H := hP
    replace hD : va_D A ([(h0, .inr (3, [.ref (q2), .null, .int 0])), (q2, .inl (cI, 40, .inl (fun _ => 0)))] : va_W) := hD
    refine lv_aload_n hx hb dX4_init_26 rfl (lv_at hl 1 rfl) ?_
    refine lv_iload_n hx hb dX4_init_27 rfl (lv_at hl 0 rfl) ?_
    refine k_newI hx hb (hg _ w45) hK 0 rfl hP hD hS hA (N' := 40) (by decide) (by decide) (by decide) (Nat.le_of_ble_eq_true rfl) (Nat.le_of_ble_eq_true rfl) dX4_init_28 (fun q3 H hP hD hS => ?_)
    replace hP : va_P D vwCl ([(h0, .inr (3, [.ref (q2), .null, .int 0])), (q2, .inl (cI, 40, .inl (fun _ => 0))), (q3, .inl (cI, 40, .inl (fun _ => 0)))] : va_W) H := hP
    replace hD : va_D A ([(h0, .inr (3, [.ref (q2), .null, .int 0])), (q2, .inl (cI, 40, .inl (fun _ => 0))), (q3, .inl (cI, 40, .inl (fun _ => 0)))] : va_W) := hD
    refine va_putF (D := D) (ci := 3) (v := .ref (q3)) (ty := (.array .int)) (C := RX4) (T := TX4) (N := 3) hx hb hg in_X4 tyX4 tyX4_ok nmX4 hown hK hP hD hS 0 rfl rfl 1 (by decide) (hg _ w61) (fun _ h9 => h9) rfl hin rfl (by decide +kernel) rfl rfl (Nat.le_of_ble_eq_true rfl) dX4_init_30 (fun H locs hP hD hS => ?_)
    replace hP : va_P D vwCl ([(h0, .inr (3, [.ref (q2), .ref (q3), .int 0])), (q2, .inl (cI, 40, .inl (fun _ => 0))), (q3, .inl (cI, 40, .inl (fun _ => 0)))] : va_W) H := hP
    replace hD : va_D A ([(h0, .inr (3, [.ref (q2), .ref (q3), .int 0])), (q2, .inl (cI, 40, .inl (fun _ => 0))), (q3, .inl (cI, 40, .inl (fun _ => 0)))] : va_W) := hD
    exact W.vret hx hb hr (fun t ht hW => ⟨(fun j => match j with | 0 => h0 | 1 => q2 | _ => q3), rfl, rfl, by rw [ht]; exact hP.sub [0, 1, 2] rfl, va_K.moved hW.alike hK, hD.sub [0, 1, 2] (by decide) rfl, hS.F ht⟩) hS.2.2 dX4_init_33 hlocks
  exact M0 s.heap [] ls hP hD hS hl
set_option maxHeartbeats 4000000 in
set_option maxRecDepth 100000 in
theorem ctor_X0_init {D : va_G} {cI cV cJ cD : ClassId} (l : Launch) (h0 : Nat) : MN l yX0_init cX0_init 1 { frames := 2, cells := 3, slots := 120, locals := 50 } D (TY cI cV cJ cD) [(h0, .inr (0, [.null, .null, .null, .int 0, .int 0]))] (fun a => W_Chain cI a chain0) h0 [.ref h0] := by
  intro sz
  refine Met.ofW (cc := cX0_init) (maxL := 1) (ret := none) (by decide +kernel) rfl ?_
  intro p e s m args below meth c s₁ B hml hv
  obtain ⟨rfl, hsz, hP, hK, hD0, hE⟩ := hv
  have hx := B.exec
  have hb := B.bytes
  have hr := B.returns
  have hts := atoms_spec (ws := .code yX0_init cX0_init 1 none :: GW) B.pre
  have hg : ∀ w ∈ GW, w.before (([.ref h0] : List Value).toArray) s = true := fun w h => hts w (List.mem_cons_of_mem _ h)
  have hown : s.vm.findClass RX0 = some m.cls := findClass_of_methodNamed B.named
  have hlocks := B.notSynchronized
  have hin : meth.name = "<init>" := (name_of_methodNamed B.named B.method).1
  subst hsz
  have hD := hD0.self (sz := s.heap.size)
  generalize hAe : va_A [(h0, .inr (0, [.null, .null, .null, .int 0, .int 0]))] s.heap.size = A at hD hE ⊢
  have hA : ∀ q : Nat, s.heap.size ≤ q → A q := fun q h => by rw [← hAe]; exact Or.inr h
  have hS : va_S A s.heap s.heap [] := va_S.rf
  have hl := lv_entry ([.ref h0]) (n := 1) (Nat.le_of_ble_eq_true rfl)
  rw [lg_entry_eq]
  generalize (lg_sl ([.ref h0]) ++ List.replicate (1 - (lg_sl ([.ref h0])).length) Slot.unset).toArray = ls at hl ⊢
  have hl : lv_has ls 1 [(0, .ref h0)] := hl
  have M0 : ∀ (H : Heap) (locs : List Loc) (ls : Array Slot), va_P D vwCl [(h0, .inr (0, [.null, .null, .null, .int 0, .int 0]))] H → va_D A [(h0, .inr (0, [.null, .null, .null, .int 0, .int 0]))] → va_S A s.heap H locs → lv_has ls 1 [(0, .ref h0)] → W p l e ({ frames := 2, cells := 3, slots := 120, locals := 50 } : Room) s m ([.ref h0] : List Value).toArray below meth c H locs 0 0 (MQ below (fun a st oc t => ∃ a' : Nat → Nat, a' 0 = h0 ∧ QW D (TY cI cV cJ cD) ((fun a => W_Chain cI a chain0) a') A none a st oc t) ([.ref h0] : List Value).toArray s 3 120 A) (F0 m 0 ls []) := by
    intro H locs ls hP hD hS hl
    refine lv_aload_n hx hb dX0_init_0 rfl (lv_at hl 0 rfl) ?_
    refine k_IN (As := []) (rest := []) (n := 0) ⟨hx, hb, hml, hown, hts⟩ (ctor_X1_init l (h0)) (hE.1.2.1 _ (List.mem_of_getElem? (i := 4) rfl)) w57 w4 w58 rfl ⟨by decide +kernel, by decide +kernel, by decide +kernel⟩ ⟨Nat.le_of_ble_eq_true rfl, Nat.le_of_ble_eq_true rfl⟩ hK hE hP hD hS hA (isC := ([] : List Nat)) (isR := [0]) (wr := [(h0, .inr (0, [.null, .null, .null, .int 0, .int 0]))]) rfl rfl (by decide) (by decide) (by decide) rfl hl.1 rfl (Nat.le_of_ble_eq_true rfl) dX0_init_1 ⟨Nat.le_of_ble_eq_true rfl, Nat.le_of_ble_eq_true rfl⟩ (fun b1 H locs hb1 hP hD hS => ?_)
    replace hP : va_P D vwCl ([(h0, .inr (0, [.null, .null, .null, .int 0, .int 0]))] : va_W) H := by simpa using hP
    replace hD : va_D A ([(h0, .inr (0, [.null, .null, .null, .int 0, .int 0]))] : va_W) := by simpa using hD
    refine W.eq (g2 := F0 m 4 ls []) rfl ?_
    refine lv_aload_n hx hb dX0_init_4 rfl (lv_at hl 0 rfl) ?_
    refine lv_bipush (v := 40) hx hb dX0_init_5 (by decide) ?_
    refine k_newI hx hb (hg _ w45) hK 0 rfl hP hD hS hA (N' := 40) (by decide) (by decide) (by decide) (Nat.le_of_ble_eq_true rfl) (Nat.le_of_ble_eq_true rfl) dX0_init_7 (fun q2 H hP hD hS => ?_)
    replace hP : va_P D vwCl ([(h0, .inr (0, [.null, .null, .null, .int 0, .int 0])), (q2, .inl (cI, 40, .inl (fun _ => 0)))] : va_W) H := hP
    replace hD : va_D A ([(h0, .inr (0, [.null, .null, .null, .int 0, .int 0])), (q2, .inl (cI, 40, .inl (fun _ => 0)))] : va_W) := hD
    refine va_putF (D := D) (ci := 0) (v := .ref (q2)) (ty := (.array .int)) (C := RX0) (T := TX0) (N := 5) hx hb hg in_X0 tyX0 tyX0_ok nmX0 hown hK hP hD hS 0 rfl rfl 0 (by decide) (hg _ w77) (fun _ h9 => h9) rfl hin rfl (by decide +kernel) rfl rfl (Nat.le_of_ble_eq_true rfl) dX0_init_9 (fun H locs hP hD hS => ?_)
    replace hP : va_P D vwCl ([(h0, .inr (0, [.ref (q2), .null, .null, .int 0, .int 0])), (q2, .inl (cI, 40, .inl (fun _ => 0)))] : va_W) H := hP
    replace hD : va_D A ([(h0, .inr (0, [.ref (q2), .null, .null, .int 0, .int 0])), (q2, .inl (cI, 40, .inl (fun _ => 0)))] : va_W) := hD
    refine lv_aload_n hx hb dX0_init_12 rfl (lv_at hl 0 rfl) ?_
    refine lv_bipush (v := 40) hx hb dX0_init_13 (by decide) ?_
    refine k_newI hx hb (hg _ w45) hK 0 rfl hP hD hS hA (N' := 40) (by decide) (by decide) (by decide) (Nat.le_of_ble_eq_true rfl) (Nat.le_of_ble_eq_true rfl) dX0_init_15 (fun q3 H hP hD hS => ?_)
    replace hP : va_P D vwCl ([(h0, .inr (0, [.ref (q2), .null, .null, .int 0, .int 0])), (q2, .inl (cI, 40, .inl (fun _ => 0))), (q3, .inl (cI, 40, .inl (fun _ => 0)))] : va_W) H := hP
    replace hD : va_D A ([(h0, .inr (0, [.ref (q2), .null, .null, .int 0, .int 0])), (q2, .inl (cI, 40, .inl (fun _ => 0))), (q3, .inl (cI, 40, .inl (fun _ => 0)))] : va_W) := hD
    refine va_putF (D := D) (ci := 0) (v := .ref (q3)) (ty := (.array .int)) (C := RX0) (T := TX0) (N := 5) hx hb hg in_X0 tyX0 tyX0_ok nmX0 hown hK hP hD hS 0 rfl rfl 1 (by decide) (hg _ w78) (fun _ h9 => h9) rfl hin rfl (by decide +kernel) rfl rfl (Nat.le_of_ble_eq_true rfl) dX0_init_17 (fun H locs hP hD hS => ?_)
    replace hP : va_P D vwCl ([(h0, .inr (0, [.ref (q2), .ref (q3), .null, .int 0, .int 0])), (q2, .inl (cI, 40, .inl (fun _ => 0))), (q3, .inl (cI, 40, .inl (fun _ => 0)))] : va_W) H := hP
    replace hD : va_D A ([(h0, .inr (0, [.ref (q2), .ref (q3), .null, .int 0, .int 0])), (q2, .inl (cI, 40, .inl (fun _ => 0))), (q3, .inl (cI, 40, .inl (fun _ => 0)))] : va_W) := hD
    refine lv_aload_n hx hb dX0_init_20 rfl (lv_at hl 0 rfl) ?_
    refine lv_bipush (v := 40) hx hb dX0_init_21 (by decide) ?_
    refine k_newI hx hb (hg _ w45) hK 0 rfl hP hD hS hA (N' := 40) (by decide) (by decide) (by decide) (Nat.le_of_ble_eq_true rfl) (Nat.le_of_ble_eq_true rfl) dX0_init_23 (fun q4 H hP hD hS => ?_)
    replace hP : va_P D vwCl ([(h0, .inr (0, [.ref (q2), .ref (q3), .null, .int 0, .int 0])), (q2, .inl (cI, 40, .inl (fun _ => 0))), (q3, .inl (cI, 40, .inl (fun _ => 0))), (q4, .inl (cI, 40, .inl (fun _ => 0)))] : va_W) H := hP
    replace hD : va_D A ([(h0, .inr (0, [.ref (q2), .ref (q3), .null, .int 0, .int 0])), (q2, .inl (cI, 40, .inl (fun _ => 0))), (q3, .inl (cI, 40, .inl (fun _ => 0))), (q4, .inl (cI, 40, .inl (fun _ => 0)))] : va_W) := hD
    refine va_putF (D := D) (ci := 0) (v := .ref (q4)) (ty := (.array .int)) (C := RX0) (T := TX0) (N := 5) hx hb hg in_X0 tyX0 tyX0_ok nmX0 hown hK hP hD hS 0 rfl rfl 2 (by decide) (hg _ w79) (fun _ h9 => h9) rfl hin rfl (by decide +kernel) rfl rfl (Nat.le_of_ble_eq_true rfl) dX0_init_25 (fun H locs hP hD hS => ?_)
    replace hP : va_P D vwCl ([(h0, .inr (0, [.ref (q2), .ref (q3), .ref (q4), .int 0, .int 0])), (q2, .inl (cI, 40, .inl (fun _ => 0))), (q3, .inl (cI, 40, .inl (fun _ => 0))), (q4, .inl (cI, 40, .inl (fun _ => 0)))] : va_W) H := hP
    replace hD : va_D A ([(h0, .inr (0, [.ref (q2), .ref (q3), .ref (q4), .int 0, .int 0])), (q2, .inl (cI, 40, .inl (fun _ => 0))), (q3, .inl (cI, 40, .inl (fun _ => 0))), (q4, .inl (cI, 40, .inl (fun _ => 0)))] : va_W) := hD
    refine lv_aload_n hx hb dX0_init_28 rfl (lv_at hl 0 rfl) ?_
    refine lv_iconst (v := (-1)) hx hb dX0_init_29 (by decide) ?_
    refine va_put (D := D) (ci := 0) (v := .int (-1)) (ty := .int) (C := RX0) (T := TX0) (N := 5) hx hb hg in_X0 tyX0 tyX0_ok nmX0 hown hK hP hD hS 0 rfl rfl 3 (by decide) (hg _ w80) (fun _ h9 => h9) rfl (by decide +kernel) rfl rfl (Nat.le_of_ble_eq_true rfl) dX0_init_30 (fun H locs hP hD hS => ?_)
    replace hP : va_P D vwCl ([(h0, .inr (0, [.ref (q2), .ref (q3), .ref (q4), .int (-1), .int 0])), (q2, .inl (cI, 40, .inl (fun _ => 0))), (q3, .inl (cI, 40, .inl (fun _ => 0))), (q4, .inl (cI, 40, .inl (fun _ => 0)))] : va_W) H := hP
    replace hD : va_D A ([(h0, .inr (0, [.ref (q2), .ref (q3), .ref (q4), .int (-1), .int 0])), (q2, .inl (cI, 40, .inl (fun _ => 0))), (q3, .inl (cI, 40, .inl (fun _ => 0))), (q4, .inl (cI, 40, .inl (fun _ => 0)))] : va_W) := hD
    refine lv_aload_n hx hb dX0_init_33 rfl (lv_at hl 0 rfl) ?_
    refine lv_iconst (v := (-1)) hx hb dX0_init_34 (by decide) ?_
    refine va_put (D := D) (ci := 0) (v := .int (-1)) (ty := .int) (C := RX0) (T := TX0) (N := 5) hx hb hg in_X0 tyX0 tyX0_ok nmX0 hown hK hP hD hS 0 rfl rfl 4 (by decide) (hg _ w81) (fun _ h9 => h9) rfl (by decide +kernel) rfl rfl (Nat.le_of_ble_eq_true rfl) dX0_init_35 (fun H locs hP hD hS => ?_)
    replace hP : va_P D vwCl ([(h0, .inr (0, [.ref (q2), .ref (q3), .ref (q4), .int (-1), .int (-1)])), (q2, .inl (cI, 40, .inl (fun _ => 0))), (q3, .inl (cI, 40, .inl (fun _ => 0))), (q4, .inl (cI, 40, .inl (fun _ => 0)))] : va_W) H := hP
    replace hD : va_D A ([(h0, .inr (0, [.ref (q2), .ref (q3), .ref (q4), .int (-1), .int (-1)])), (q2, .inl (cI, 40, .inl (fun _ => 0))), (q3, .inl (cI, 40, .inl (fun _ => 0))), (q4, .inl (cI, 40, .inl (fun _ => 0)))] : va_W) := hD
    exact W.vret hx hb hr (fun t ht hW => ⟨(fun j => match j with | 0 => h0 | 1 => q2 | 2 => q3 | _ => q4), rfl, rfl, by rw [ht]; exact hP.sub [0, 1, 2, 3] rfl, va_K.moved hW.alike hK, hD.sub [0, 1, 2, 3] (by decide) rfl, hS.F ht⟩) hS.2.2 dX0_init_38 hlocks
  exact M0 s.heap [] ls hP hD hS hl
set_option maxHeartbeats 4000000 in
set_option maxRecDepth 100000 in
theorem ctor_X5_init {D : va_G} {cI cV cJ cD : ClassId} (l : Launch) (h0 : Nat) : MN l yX5_init cX5_init 1 { frames := 2, cells := 3, slots := 144, locals := 50 } D (TY cI cV cJ cD) [(h0, .inr (4, [.null, .null, .null, .int 0, .int 0]))] (fun a => W_Table cI a table0) h0 [.ref h0] := by
  intro sz
  refine Met.ofW (cc := cX5_init) (maxL := 1) (ret := none) (by decide +kernel) rfl ?_
  intro p e s m args below meth c s₁ B hml hv
  obtain ⟨rfl, hsz, hP, hK, hD0, hE⟩ := hv
  have hx := B.exec
  have hb := B.bytes
  have hr := B.returns
  have hts := atoms_spec (ws := .code yX5_init cX5_init 1 none :: GW) B.pre
  have hg : ∀ w ∈ GW, w.before (([.ref h0] : List Value).toArray) s = true := fun w h => hts w (List.mem_cons_of_mem _ h)
  have hown : s.vm.findClass RX5 = some m.cls := findClass_of_methodNamed B.named
  have hlocks := B.notSynchronized
  have hin : meth.name = "<init>" := (name_of_methodNamed B.named B.method).1
  subst hsz
  have hD := hD0.self (sz := s.heap.size)
  generalize hAe : va_A [(h0, .inr (4, [.null, .null, .null, .int 0, .int 0]))] s.heap.size = A at hD hE ⊢
  have hA : ∀ q : Nat, s.heap.size ≤ q → A q := fun q h => by rw [← hAe]; exact Or.inr h
  have hS : va_S A s.heap s.heap [] := va_S.rf
  have hl := lv_entry ([.ref h0]) (n := 1) (Nat.le_of_ble_eq_true rfl)
  rw [lg_entry_eq]
  generalize (lg_sl ([.ref h0]) ++ List.replicate (1 - (lg_sl ([.ref h0])).length) Slot.unset).toArray = ls at hl ⊢
  have hl : lv_has ls 1 [(0, .ref h0)] := hl
  have M0 : ∀ (H : Heap) (locs : List Loc) (ls : Array Slot), va_P D vwCl [(h0, .inr (4, [.null, .null, .null, .int 0, .int 0]))] H → va_D A [(h0, .inr (4, [.null, .null, .null, .int 0, .int 0]))] → va_S A s.heap H locs → lv_has ls 1 [(0, .ref h0)] → W p l e ({ frames := 2, cells := 3, slots := 144, locals := 50 } : Room) s m ([.ref h0] : List Value).toArray below meth c H locs 0 0 (MQ below (fun a st oc t => ∃ a' : Nat → Nat, a' 0 = h0 ∧ QW D (TY cI cV cJ cD) ((fun a => W_Table cI a table0) a') A none a st oc t) ([.ref h0] : List Value).toArray s 3 144 A) (F0 m 0 ls []) := by
    intro H locs ls hP hD hS hl
    refine lv_aload_n hx hb dX5_init_0 rfl (lv_at hl 0 rfl) ?_
    refine k_IN (As := []) (rest := []) (n := 0) ⟨hx, hb, hml, hown, hts⟩ (ctor_X1_init l (h0)) (hE.1.2.1 _ (List.mem_of_getElem? (i := 6) rfl)) w57 w4 w58 rfl ⟨by decide +kernel, by decide +kernel, by decide +kernel⟩ ⟨Nat.le_of_ble_eq_true rfl, Nat.le_of_ble_eq_true rfl⟩ hK hE hP hD hS hA (isC := ([] : List Nat)) (isR := [0]) (wr := [(h0, .inr (4, [.null, .null, .null, .int 0, .int 0]))]) rfl rfl (by decide) (by decide) (by decide) rfl hl.1 rfl (Nat.le_of_ble_eq_true rfl) dX5_init_1 ⟨Nat.le_of_ble_eq_true rfl, Nat.le_of_ble_eq_true rfl⟩ (fun b1 H locs hb1 hP hD hS => ?_)
    replace hP : va_P D vwCl ([(h0, .inr (4, [.null, .null, .null, .int 0, .int 0]))] : va_W) H := by simpa using hP
    replace hD : va_D A ([(h0, .inr (4, [.null, .null, .null, .int 0, .int 0]))] : va_W) := by simpa using hD
    refine W.eq (g2 := F0 m 4 ls []) rfl ?_
    refine lv_aload_n hx hb dX5_init_4 rfl (lv_at hl 0 rfl) ?_
    refine lv_bipush (v := 64) hx hb dX5_init_5 (by decide) ?_
    refine k_newI hx hb (hg _ w45) hK 0 rfl hP hD hS hA (N' := 64) (by decide) (by decide) (by decide) (Nat.le_of_ble_eq_true rfl) (Nat.le_of_ble_eq_true rfl) dX5_init_7 (fun q2 H hP hD hS => ?_)
    replace hP : va_P D vwCl ([(h0, .inr (4, [.null, .null, .null, .int 0, .int 0])), (q2, .inl (cI, 64, .inl (fun _ => 0)))] : va_W) H := hP
    replace hD : va_D A ([(h0, .inr (4, [.null, .null, .null, .int 0, .int 0])), (q2, .inl (cI, 64, .inl (fun _ => 0)))] : va_W) := hD
    refine va_putF (D := D) (ci := 4) (v := .ref (q2)) (ty := (.array .int)) (C := RX5) (T := TX5) (N := 5) hx hb hg in_X5 tyX5 tyX5_ok nmX5 hown hK hP hD hS 0 rfl rfl 0 (by decide) (hg _ w99) (fun _ h9 => h9) rfl hin rfl (by decide +kernel) rfl rfl (Nat.le_of_ble_eq_true rfl) dX5_init_9 (fun H locs hP hD hS => ?_)
    replace hP : va_P D vwCl ([(h0, .inr (4, [.ref (q2), .null, .null, .int 0, .int 0])), (q2, .inl (cI, 64, .inl (fun _ => 0)))] : va_W) H := hP
    replace hD : va_D A ([(h0, .inr (4, [.ref (q2), .null, .null, .int 0, .int 0])), (q2, .inl (cI, 64, .inl (fun _ => 0)))] : va_W) := hD
    refine lv_aload_n hx hb dX5_init_12 rfl (lv_at hl 0 rfl) ?_
    refine lv_bipush (v := 40) hx hb dX5_init_13 (by decide) ?_
    refine k_newI hx hb (hg _ w45) hK 0 rfl hP hD hS hA (N' := 40) (by decide) (by decide) (by decide) (Nat.le_of_ble_eq_true rfl) (Nat.le_of_ble_eq_true rfl) dX5_init_15 (fun q3 H hP hD hS => ?_)
    replace hP : va_P D vwCl ([(h0, .inr (4, [.ref (q2), .null, .null, .int 0, .int 0])), (q2, .inl (cI, 64, .inl (fun _ => 0))), (q3, .inl (cI, 40, .inl (fun _ => 0)))] : va_W) H := hP
    replace hD : va_D A ([(h0, .inr (4, [.ref (q2), .null, .null, .int 0, .int 0])), (q2, .inl (cI, 64, .inl (fun _ => 0))), (q3, .inl (cI, 40, .inl (fun _ => 0)))] : va_W) := hD
    refine va_putF (D := D) (ci := 4) (v := .ref (q3)) (ty := (.array .int)) (C := RX5) (T := TX5) (N := 5) hx hb hg in_X5 tyX5 tyX5_ok nmX5 hown hK hP hD hS 0 rfl rfl 1 (by decide) (hg _ w100) (fun _ h9 => h9) rfl hin rfl (by decide +kernel) rfl rfl (Nat.le_of_ble_eq_true rfl) dX5_init_17 (fun H locs hP hD hS => ?_)
    replace hP : va_P D vwCl ([(h0, .inr (4, [.ref (q2), .ref (q3), .null, .int 0, .int 0])), (q2, .inl (cI, 64, .inl (fun _ => 0))), (q3, .inl (cI, 40, .inl (fun _ => 0)))] : va_W) H := hP
    replace hD : va_D A ([(h0, .inr (4, [.ref (q2), .ref (q3), .null, .int 0, .int 0])), (q2, .inl (cI, 64, .inl (fun _ => 0))), (q3, .inl (cI, 40, .inl (fun _ => 0)))] : va_W) := hD
    refine lv_aload_n hx hb dX5_init_20 rfl (lv_at hl 0 rfl) ?_
    refine lv_bipush (v := 40) hx hb dX5_init_21 (by decide) ?_
    refine k_newI hx hb (hg _ w45) hK 0 rfl hP hD hS hA (N' := 40) (by decide) (by decide) (by decide) (Nat.le_of_ble_eq_true rfl) (Nat.le_of_ble_eq_true rfl) dX5_init_23 (fun q4 H hP hD hS => ?_)
    replace hP : va_P D vwCl ([(h0, .inr (4, [.ref (q2), .ref (q3), .null, .int 0, .int 0])), (q2, .inl (cI, 64, .inl (fun _ => 0))), (q3, .inl (cI, 40, .inl (fun _ => 0))), (q4, .inl (cI, 40, .inl (fun _ => 0)))] : va_W) H := hP
    replace hD : va_D A ([(h0, .inr (4, [.ref (q2), .ref (q3), .null, .int 0, .int 0])), (q2, .inl (cI, 64, .inl (fun _ => 0))), (q3, .inl (cI, 40, .inl (fun _ => 0))), (q4, .inl (cI, 40, .inl (fun _ => 0)))] : va_W) := hD
    refine va_putF (D := D) (ci := 4) (v := .ref (q4)) (ty := (.array .int)) (C := RX5) (T := TX5) (N := 5) hx hb hg in_X5 tyX5 tyX5_ok nmX5 hown hK hP hD hS 0 rfl rfl 2 (by decide) (hg _ w101) (fun _ h9 => h9) rfl hin rfl (by decide +kernel) rfl rfl (Nat.le_of_ble_eq_true rfl) dX5_init_25 (fun H locs hP hD hS => ?_)
    replace hP : va_P D vwCl ([(h0, .inr (4, [.ref (q2), .ref (q3), .ref (q4), .int 0, .int 0])), (q2, .inl (cI, 64, .inl (fun _ => 0))), (q3, .inl (cI, 40, .inl (fun _ => 0))), (q4, .inl (cI, 40, .inl (fun _ => 0)))] : va_W) H := hP
    replace hD : va_D A ([(h0, .inr (4, [.ref (q2), .ref (q3), .ref (q4), .int 0, .int 0])), (q2, .inl (cI, 64, .inl (fun _ => 0))), (q3, .inl (cI, 40, .inl (fun _ => 0))), (q4, .inl (cI, 40, .inl (fun _ => 0)))] : va_W) := hD
    refine lv_aload_n hx hb dX5_init_28 rfl (lv_at hl 0 rfl) ?_
    refine lv_bipush (v := 16) hx hb dX5_init_29 (by decide) ?_
    refine va_put (D := D) (ci := 4) (v := .int 16) (ty := .int) (C := RX5) (T := TX5) (N := 5) hx hb hg in_X5 tyX5 tyX5_ok nmX5 hown hK hP hD hS 0 rfl rfl 3 (by decide) (hg _ w102) (fun _ h9 => h9) rfl (by decide +kernel) rfl rfl (Nat.le_of_ble_eq_true rfl) dX5_init_31 (fun H locs hP hD hS => ?_)
    replace hP : va_P D vwCl ([(h0, .inr (4, [.ref (q2), .ref (q3), .ref (q4), .int 16, .int 0])), (q2, .inl (cI, 64, .inl (fun _ => 0))), (q3, .inl (cI, 40, .inl (fun _ => 0))), (q4, .inl (cI, 40, .inl (fun _ => 0)))] : va_W) H := hP
    replace hD : va_D A ([(h0, .inr (4, [.ref (q2), .ref (q3), .ref (q4), .int 16, .int 0])), (q2, .inl (cI, 64, .inl (fun _ => 0))), (q3, .inl (cI, 40, .inl (fun _ => 0))), (q4, .inl (cI, 40, .inl (fun _ => 0)))] : va_W) := hD
    refine lv_aload_n hx hb dX5_init_34 rfl (lv_at hl 0 rfl) ?_
    refine lv_iconst (v := 0) hx hb dX5_init_35 (by decide) ?_
    refine va_put (D := D) (ci := 4) (v := .int 0) (ty := .int) (C := RX5) (T := TX5) (N := 5) hx hb hg in_X5 tyX5 tyX5_ok nmX5 hown hK hP hD hS 0 rfl rfl 4 (by decide) (hg _ w103) (fun _ h9 => h9) rfl (by decide +kernel) rfl rfl (Nat.le_of_ble_eq_true rfl) dX5_init_36 (fun H locs hP hD hS => ?_)
    replace hP : va_P D vwCl ([(h0, .inr (4, [.ref (q2), .ref (q3), .ref (q4), .int 16, .int 0])), (q2, .inl (cI, 64, .inl (fun _ => 0))), (q3, .inl (cI, 40, .inl (fun _ => 0))), (q4, .inl (cI, 40, .inl (fun _ => 0)))] : va_W) H := hP
    replace hD : va_D A ([(h0, .inr (4, [.ref (q2), .ref (q3), .ref (q4), .int 16, .int 0])), (q2, .inl (cI, 64, .inl (fun _ => 0))), (q3, .inl (cI, 40, .inl (fun _ => 0))), (q4, .inl (cI, 40, .inl (fun _ => 0)))] : va_W) := hD
    exact W.vret hx hb hr (fun t ht hW => ⟨(fun j => match j with | 0 => h0 | 1 => q2 | 2 => q3 | _ => q4), rfl, rfl, by rw [ht]; exact hP.sub [0, 1, 2, 3] rfl, va_K.moved hW.alike hK, hD.sub [0, 1, 2, 3] (by decide) rfl, hS.F ht⟩) hS.2.2 dX5_init_39 hlocks
  exact M0 s.heap [] ls hP hD hS hl
set_option maxHeartbeats 4000000 in
set_option maxRecDepth 100000 in
theorem ctor_X2_init {D : va_G} {cI cV cJ cD : ClassId} (l : Launch) (h0 : Nat) : MN l yX2_init cX2_init 1 { frames := 1, cells := 2, slots := 123, locals := 30 } D (TY cI cV cJ cD) [(h0, .inr (1, [.null, .null]))] (fun a => W_Groups cI a groups0) h0 [.ref h0] := by
  intro sz
  refine Met.ofW (cc := cX2_init) (maxL := 1) (ret := none) (by decide +kernel) rfl ?_
  intro p e s m args below meth c s₁ B hml hv
  obtain ⟨rfl, hsz, hP, hK, hD0, hE⟩ := hv
  have hx := B.exec
  have hb := B.bytes
  have hr := B.returns
  have hts := atoms_spec (ws := .code yX2_init cX2_init 1 none :: GW) B.pre
  have hg : ∀ w ∈ GW, w.before (([.ref h0] : List Value).toArray) s = true := fun w h => hts w (List.mem_cons_of_mem _ h)
  have hown : s.vm.findClass RX2 = some m.cls := findClass_of_methodNamed B.named
  have hlocks := B.notSynchronized
  have hin : meth.name = "<init>" := (name_of_methodNamed B.named B.method).1
  subst hsz
  have hD := hD0.self (sz := s.heap.size)
  generalize hAe : va_A [(h0, .inr (1, [.null, .null]))] s.heap.size = A at hD hE ⊢
  have hA : ∀ q : Nat, s.heap.size ≤ q → A q := fun q h => by rw [← hAe]; exact Or.inr h
  have hS : va_S A s.heap s.heap [] := va_S.rf
  have hl := lv_entry ([.ref h0]) (n := 1) (Nat.le_of_ble_eq_true rfl)
  rw [lg_entry_eq]
  generalize (lg_sl ([.ref h0]) ++ List.replicate (1 - (lg_sl ([.ref h0])).length) Slot.unset).toArray = ls at hl ⊢
  have hl : lv_has ls 1 [(0, .ref h0)] := hl
  have M0 : ∀ (H : Heap) (locs : List Loc) (ls : Array Slot), va_P D vwCl [(h0, .inr (1, [.null, .null]))] H → va_D A [(h0, .inr (1, [.null, .null]))] → va_S A s.heap H locs → lv_has ls 1 [(0, .ref h0)] → W p l e ({ frames := 1, cells := 2, slots := 123, locals := 30 } : Room) s m ([.ref h0] : List Value).toArray below meth c H locs 0 0 (MQ below (fun a st oc t => ∃ a' : Nat → Nat, a' 0 = h0 ∧ QW D (TY cI cV cJ cD) ((fun a => W_Groups cI a groups0) a') A none a st oc t) ([.ref h0] : List Value).toArray s 2 123 A) (F0 m 0 ls []) := by
    intro H locs ls hP hD hS hl
    refine lv_aload_n hx hb dX2_init_0 rfl (lv_at hl 0 rfl) ?_
    refine W.objInit hx hb hown (hg _ w120) (hg _ w27) (hg _ w28) rfl (by rw [hml]; exact hl.1) rfl dX2_init_1 (Nat.le_of_ble_eq_true rfl) (Nat.le_of_ble_eq_true rfl) ?_
    refine W.eq (g2 := F0 m 4 ls []) rfl ?_
    refine lv_aload_n hx hb dX2_init_4 rfl (lv_at hl 0 rfl) ?_
    refine lv_iconst (v := 3) hx hb dX2_init_5 (by decide) ?_
    refine k_newI hx hb (hg _ w45) hK 0 rfl hP hD hS hA (N' := 3) (by decide) (by decide) (by decide) (Nat.le_of_ble_eq_true rfl) (Nat.le_of_ble_eq_true rfl) dX2_init_6 (fun q1 H hP hD hS => ?_)
    replace hP : va_P D vwCl ([(h0, .inr (1, [.null, .null])), (q1, .inl (cI, 3, .inl (fun _ => 0)))] : va_W) H := hP
    replace hD : va_D A ([(h0, .inr (1, [.null, .null])), (q1, .inl (cI, 3, .inl (fun _ => 0)))] : va_W) := hD
    refine va_putF (D := D) (ci := 1) (v := .ref (q1)) (ty := (.array .int)) (C := RX2) (T := TX2) (N := 2) hx hb hg in_X2 tyX2 tyX2_ok nmX2 hown hK hP hD hS 0 rfl rfl 0 (by decide) (hg _ w121) (fun _ h9 => h9) rfl hin rfl (by decide +kernel) rfl rfl (Nat.le_of_ble_eq_true rfl) dX2_init_8 (fun H locs hP hD hS => ?_)
    replace hP : va_P D vwCl ([(h0, .inr (1, [.ref (q1), .null])), (q1, .inl (cI, 3, .inl (fun _ => 0)))] : va_W) H := hP
    replace hD : va_D A ([(h0, .inr (1, [.ref (q1), .null])), (q1, .inl (cI, 3, .inl (fun _ => 0)))] : va_W) := hD
    refine lv_aload_n hx hb dX2_init_11 rfl (lv_at hl 0 rfl) ?_
    refine lv_bipush (v := 120) hx hb dX2_init_12 (by decide) ?_
    refine k_newI hx hb (hg _ w45) hK 0 rfl hP hD hS hA (N' := 120) (by decide) (by decide) (by decide) (Nat.le_of_ble_eq_true rfl) (Nat.le_of_ble_eq_true rfl) dX2_init_14 (fun q2 H hP hD hS => ?_)
    replace hP : va_P D vwCl ([(h0, .inr (1, [.ref (q1), .null])), (q1, .inl (cI, 3, .inl (fun _ => 0))), (q2, .inl (cI, 120, .inl (fun _ => 0)))] : va_W) H := hP
    replace hD : va_D A ([(h0, .inr (1, [.ref (q1), .null])), (q1, .inl (cI, 3, .inl (fun _ => 0))), (q2, .inl (cI, 120, .inl (fun _ => 0)))] : va_W) := hD
    refine va_putF (D := D) (ci := 1) (v := .ref (q2)) (ty := (.array .int)) (C := RX2) (T := TX2) (N := 2) hx hb hg in_X2 tyX2 tyX2_ok nmX2 hown hK hP hD hS 0 rfl rfl 1 (by decide) (hg _ w122) (fun _ h9 => h9) rfl hin rfl (by decide +kernel) rfl rfl (Nat.le_of_ble_eq_true rfl) dX2_init_16 (fun H locs hP hD hS => ?_)
    replace hP : va_P D vwCl ([(h0, .inr (1, [.ref (q1), .ref (q2)])), (q1, .inl (cI, 3, .inl (fun _ => 0))), (q2, .inl (cI, 120, .inl (fun _ => 0)))] : va_W) H := hP
    replace hD : va_D A ([(h0, .inr (1, [.ref (q1), .ref (q2)])), (q1, .inl (cI, 3, .inl (fun _ => 0))), (q2, .inl (cI, 120, .inl (fun _ => 0)))] : va_W) := hD
    exact W.vret hx hb hr (fun t ht hW => ⟨(fun j => match j with | 0 => h0 | 1 => q1 | _ => q2), rfl, rfl, by rw [ht]; exact hP.sub [0, 1, 2] rfl, va_K.moved hW.alike hK, hD.sub [0, 1, 2] (by decide) rfl, hS.F ht⟩) hS.2.2 dX2_init_19 hlocks
  exact M0 s.heap [] ls hP hD hS hl
set_option maxHeartbeats 4000000 in
set_option maxRecDepth 100000 in
theorem ctor_X3_init {D : va_G} {cI cV cJ cD : ClassId} (l : Launch) (h0 : Nat) : MN l yX3_init cX3_init 1 { frames := 1, cells := 1, slots := 2100, locals := 30 } D (TY cI cV cJ cD) [(h0, .inr (2, [.null, .int 0]))] (fun a => W_Log cI a log0) h0 [.ref h0] := by
  intro sz
  refine Met.ofW (cc := cX3_init) (maxL := 1) (ret := none) (by decide +kernel) rfl ?_
  intro p e s m args below meth c s₁ B hml hv
  obtain ⟨rfl, hsz, hP, hK, hD0, hE⟩ := hv
  have hx := B.exec
  have hb := B.bytes
  have hr := B.returns
  have hts := atoms_spec (ws := .code yX3_init cX3_init 1 none :: GW) B.pre
  have hg : ∀ w ∈ GW, w.before (([.ref h0] : List Value).toArray) s = true := fun w h => hts w (List.mem_cons_of_mem _ h)
  have hown : s.vm.findClass RX3 = some m.cls := findClass_of_methodNamed B.named
  have hlocks := B.notSynchronized
  have hin : meth.name = "<init>" := (name_of_methodNamed B.named B.method).1
  subst hsz
  have hD := hD0.self (sz := s.heap.size)
  generalize hAe : va_A [(h0, .inr (2, [.null, .int 0]))] s.heap.size = A at hD hE ⊢
  have hA : ∀ q : Nat, s.heap.size ≤ q → A q := fun q h => by rw [← hAe]; exact Or.inr h
  have hS : va_S A s.heap s.heap [] := va_S.rf
  have hl := lv_entry ([.ref h0]) (n := 1) (Nat.le_of_ble_eq_true rfl)
  rw [lg_entry_eq]
  generalize (lg_sl ([.ref h0]) ++ List.replicate (1 - (lg_sl ([.ref h0])).length) Slot.unset).toArray = ls at hl ⊢
  have hl : lv_has ls 1 [(0, .ref h0)] := hl
  have M0 : ∀ (H : Heap) (locs : List Loc) (ls : Array Slot), va_P D vwCl [(h0, .inr (2, [.null, .int 0]))] H → va_D A [(h0, .inr (2, [.null, .int 0]))] → va_S A s.heap H locs → lv_has ls 1 [(0, .ref h0)] → W p l e ({ frames := 1, cells := 1, slots := 2100, locals := 30 } : Room) s m ([.ref h0] : List Value).toArray below meth c H locs 0 0 (MQ below (fun a st oc t => ∃ a' : Nat → Nat, a' 0 = h0 ∧ QW D (TY cI cV cJ cD) ((fun a => W_Log cI a log0) a') A none a st oc t) ([.ref h0] : List Value).toArray s 1 2100 A) (F0 m 0 ls []) := by
    intro H locs ls hP hD hS hl
    refine lv_aload_n hx hb dX3_init_0 rfl (lv_at hl 0 rfl) ?_
    refine W.objInit hx hb hown (hg _ w36) (hg _ w27) (hg _ w28) rfl (by rw [hml]; exact hl.1) rfl dX3_init_1 (Nat.le_of_ble_eq_true rfl) (Nat.le_of_ble_eq_true rfl) ?_
    refine W.eq (g2 := F0 m 4 ls []) rfl ?_
    refine lv_aload_n hx hb dX3_init_4 rfl (lv_at hl 0 rfl) ?_
    refine lv_sipush (v := 2100) hx hb dX3_init_5 (by decide) ?_
    refine k_newI hx hb (hg _ w45) hK 0 rfl hP hD hS hA (N' := 2100) (by decide) (by decide) (by decide) (Nat.le_of_ble_eq_true rfl) (Nat.le_of_ble_eq_true rfl) dX3_init_8 (fun q1 H hP hD hS => ?_)
    replace hP : va_P D vwCl ([(h0, .inr (2, [.null, .int 0])), (q1, .inl (cI, 2100, .inl (fun _ => 0)))] : va_W) H := hP
    replace hD : va_D A ([(h0, .inr (2, [.null, .int 0])), (q1, .inl (cI, 2100, .inl (fun _ => 0)))] : va_W) := hD
    refine va_putF (D := D) (ci := 2) (v := .ref (q1)) (ty := (.array .int)) (C := RX3) (T := TX3) (N := 2) hx hb hg in_X3 tyX3 tyX3_ok nmX3 hown hK hP hD hS 0 rfl rfl 0 (by decide) (hg _ w37) (fun _ h9 => h9) rfl hin rfl (by decide +kernel) rfl rfl (Nat.le_of_ble_eq_true rfl) dX3_init_10 (fun H locs hP hD hS => ?_)
    replace hP : va_P D vwCl ([(h0, .inr (2, [.ref (q1), .int 0])), (q1, .inl (cI, 2100, .inl (fun _ => 0)))] : va_W) H := hP
    replace hD : va_D A ([(h0, .inr (2, [.ref (q1), .int 0])), (q1, .inl (cI, 2100, .inl (fun _ => 0)))] : va_W) := hD
    refine lv_aload_n hx hb dX3_init_13 rfl (lv_at hl 0 rfl) ?_
    refine lv_iconst (v := 0) hx hb dX3_init_14 (by decide) ?_
    refine va_put (D := D) (ci := 2) (v := .int 0) (ty := .int) (C := RX3) (T := TX3) (N := 2) hx hb hg in_X3 tyX3 tyX3_ok nmX3 hown hK hP hD hS 0 rfl rfl 1 (by decide) (hg _ w38) (fun _ h9 => h9) rfl (by decide +kernel) rfl rfl (Nat.le_of_ble_eq_true rfl) dX3_init_15 (fun H locs hP hD hS => ?_)
    replace hP : va_P D vwCl ([(h0, .inr (2, [.ref (q1), .int 0])), (q1, .inl (cI, 2100, .inl (fun _ => 0)))] : va_W) H := hP
    replace hD : va_D A ([(h0, .inr (2, [.ref (q1), .int 0])), (q1, .inl (cI, 2100, .inl (fun _ => 0)))] : va_W) := hD
    exact W.vret hx hb hr (fun t ht hW => ⟨(fun j => match j with | 0 => h0 | _ => q1), rfl, rfl, by rw [ht]; exact hP.sub [0, 1] rfl, va_K.moved hW.alike hK, hD.sub [0, 1] (by decide) rfl, hS.F ht⟩) hS.2.2 dX3_init_18 hlocks
  exact M0 s.heap [] ls hP hD hS hl
set_option maxHeartbeats 4000000 in
set_option maxRecDepth 100000 in
theorem ctor_X6_init {D : va_G} {cI cV cJ cD : ClassId} (l : Launch) (h0 : Nat) : MN l yX6_init cX6_init 1 { frames := 3, cells := 17, slots := 517, locals := 72 } D (TY cI cV cJ cD) [(h0, .inr (5, [.int 0, .int 0, .int 0, .int 0, .null, .null, .null, .null, .null, .null]))] (fun a => W_Value cI a val0) h0 [.ref h0] := by
  intro sz
  refine Met.ofW (cc := cX6_init) (maxL := 1) (ret := none) (by decide +kernel) rfl ?_
  intro p e s m args below meth c s₁ B hml hv
  obtain ⟨rfl, hsz, hP, hK, hD0, hE⟩ := hv
  have hx := B.exec
  have hb := B.bytes
  have hr := B.returns
  have hts := atoms_spec (ws := .code yX6_init cX6_init 1 none :: GW) B.pre
  have hg : ∀ w ∈ GW, w.before (([.ref h0] : List Value).toArray) s = true := fun w h => hts w (List.mem_cons_of_mem _ h)
  have hown : s.vm.findClass RX6 = some m.cls := findClass_of_methodNamed B.named
  have hlocks := B.notSynchronized
  have hin : meth.name = "<init>" := (name_of_methodNamed B.named B.method).1
  subst hsz
  have hD := hD0.self (sz := s.heap.size)
  generalize hAe : va_A [(h0, .inr (5, [.int 0, .int 0, .int 0, .int 0, .null, .null, .null, .null, .null, .null]))] s.heap.size = A at hD hE ⊢
  have hA : ∀ q : Nat, s.heap.size ≤ q → A q := fun q h => by rw [← hAe]; exact Or.inr h
  have hS : va_S A s.heap s.heap [] := va_S.rf
  have hl := lv_entry ([.ref h0]) (n := 1) (Nat.le_of_ble_eq_true rfl)
  rw [lg_entry_eq]
  generalize (lg_sl ([.ref h0]) ++ List.replicate (1 - (lg_sl ([.ref h0])).length) Slot.unset).toArray = ls at hl ⊢
  have hl : lv_has ls 1 [(0, .ref h0)] := hl
  have M0 : ∀ (H : Heap) (locs : List Loc) (ls : Array Slot), va_P D vwCl [(h0, .inr (5, [.int 0, .int 0, .int 0, .int 0, .null, .null, .null, .null, .null, .null]))] H → va_D A [(h0, .inr (5, [.int 0, .int 0, .int 0, .int 0, .null, .null, .null, .null, .null, .null]))] → va_S A s.heap H locs → lv_has ls 1 [(0, .ref h0)] → W p l e ({ frames := 3, cells := 17, slots := 517, locals := 72 } : Room) s m ([.ref h0] : List Value).toArray below meth c H locs 0 0 (MQ below (fun a st oc t => ∃ a' : Nat → Nat, a' 0 = h0 ∧ QW D (TY cI cV cJ cD) ((fun a => W_Value cI a val0) a') A none a st oc t) ([.ref h0] : List Value).toArray s 17 517 A) (F0 m 0 ls []) := by
    intro H locs ls hP hD hS hl
    refine lv_aload_n hx hb dX6_init_0 rfl (lv_at hl 0 rfl) ?_
    refine W.objInit hx hb hown (hg _ w50) (hg _ w27) (hg _ w28) rfl (by rw [hml]; exact hl.1) rfl dX6_init_1 (Nat.le_of_ble_eq_true rfl) (Nat.le_of_ble_eq_true rfl) ?_
    refine W.eq (g2 := F0 m 4 ls []) rfl ?_
    refine lv_aload_n hx hb dX6_init_4 rfl (lv_at hl 0 rfl) ?_
    refine lv_iconst (v := 0) hx hb dX6_init_5 (by decide) ?_
    refine va_put (D := D) (ci := 5) (v := .int 0) (ty := .boolean) (C := RX6) (T := TX6) (N := 10) hx hb hg in_X6 tyX6 tyX6_ok nmX6 hown hK hP hD hS 0 rfl rfl 0 (by decide) (hg _ w128) (fun _ h9 => h9) rfl (by decide +kernel) (by decide +kernel) (by decide +kernel) (Nat.le_of_ble_eq_true rfl) dX6_init_6 (fun H locs hP hD hS => ?_)
    replace hP : va_P D vwCl ([(h0, .inr (5, [.int 0, .int 0, .int 0, .int 0, .null, .null, .null, .null, .null, .null]))] : va_W) H := hP
    replace hD : va_D A ([(h0, .inr (5, [.int 0, .int 0, .int 0, .int 0, .null, .null, .null, .null, .null, .null]))] : va_W) := hD
    refine lv_aload_n hx hb dX6_init_9 rfl (lv_at hl 0 rfl) ?_
    refine lv_iconst (v := 0) hx hb dX6_init_10 (by decide) ?_
    refine va_put (D := D) (ci := 5) (v := .int 0) (ty := .int) (C := RX6) (T := TX6) (N := 10) hx hb hg in_X6 tyX6 tyX6_ok nmX6 hown hK hP hD hS 0 rfl rfl 1 (by decide) (hg _ w130) (fun _ h9 => h9) rfl (by decide +kernel) rfl rfl (Nat.le_of_ble_eq_true rfl) dX6_init_11 (fun H locs hP hD hS => ?_)
    replace hP : va_P D vwCl ([(h0, .inr (5, [.int 0, .int 0, .int 0, .int 0, .null, .null, .null, .null, .null, .null]))] : va_W) H := hP
    replace hD : va_D A ([(h0, .inr (5, [.int 0, .int 0, .int 0, .int 0, .null, .null, .null, .null, .null, .null]))] : va_W) := hD
    refine lv_aload_n hx hb dX6_init_14 rfl (lv_at hl 0 rfl) ?_
    refine lv_iconst (v := (-1)) hx hb dX6_init_15 (by decide) ?_
    refine va_put (D := D) (ci := 5) (v := .int (-1)) (ty := .int) (C := RX6) (T := TX6) (N := 10) hx hb hg in_X6 tyX6 tyX6_ok nmX6 hown hK hP hD hS 0 rfl rfl 2 (by decide) (hg _ w132) (fun _ h9 => h9) rfl (by decide +kernel) rfl rfl (Nat.le_of_ble_eq_true rfl) dX6_init_16 (fun H locs hP hD hS => ?_)
    replace hP : va_P D vwCl ([(h0, .inr (5, [.int 0, .int 0, .int (-1), .int 0, .null, .null, .null, .null, .null, .null]))] : va_W) H := hP
    replace hD : va_D A ([(h0, .inr (5, [.int 0, .int 0, .int (-1), .int 0, .null, .null, .null, .null, .null, .null]))] : va_W) := hD
    refine lv_aload_n hx hb dX6_init_19 rfl (lv_at hl 0 rfl) ?_
    refine lv_iconst (v := 0) hx hb dX6_init_20 (by decide) ?_
    refine va_put (D := D) (ci := 5) (v := .int 0) (ty := .int) (C := RX6) (T := TX6) (N := 10) hx hb hg in_X6 tyX6 tyX6_ok nmX6 hown hK hP hD hS 0 rfl rfl 3 (by decide) (hg _ w134) (fun _ h9 => h9) rfl (by decide +kernel) rfl rfl (Nat.le_of_ble_eq_true rfl) dX6_init_21 (fun H locs hP hD hS => ?_)
    replace hP : va_P D vwCl ([(h0, .inr (5, [.int 0, .int 0, .int (-1), .int 0, .null, .null, .null, .null, .null, .null]))] : va_W) H := hP
    replace hD : va_D A ([(h0, .inr (5, [.int 0, .int 0, .int (-1), .int 0, .null, .null, .null, .null, .null, .null]))] : va_W) := hD
    refine lv_aload_n hx hb dX6_init_24 rfl (lv_at hl 0 rfl) ?_
    refine va_new (ci := 3) (fs := [.null, .null, .int 0]) (C := RX4) (T := TX4) (N := 3) hx hb hg in_X4 tyX4 tyX4_ok hown (hg _ w51) (hg _ w52) (hg _ w5) hK hP hD hS hA rfl (by intro j hj; match j, hj with | 0, _ => rfl | 1, _ => rfl | 2, _ => rfl | (j + 3), hj => exact absurd hj (by omega)) (Nat.le_of_ble_eq_true rfl) (Nat.le_of_ble_eq_true rfl) dX6_init_25 (fun q1 H hP hD hS => ?_)
    replace hP : va_P D vwCl ([(h0, .inr (5, [.int 0, .int 0, .int (-1), .int 0, .null, .null, .null, .null, .null, .null])), (q1, .inr (3, [.null, .null, .int 0]))] : va_W) H := hP
    replace hD : va_D A ([(h0, .inr (5, [.int 0, .int 0, .int (-1), .int 0, .null, .null, .null, .null, .null, .null])), (q1, .inr (3, [.null, .null, .int 0]))] : va_W) := hD
    refine lv_dup hx hb dX6_init_28 rfl ?_
    refine lv_bipush (v := 16) hx hb dX6_init_29 (by decide) ?_
    refine k_I (As := [.int 16]) (rest := [.ref (q1), .ref (h0)]) (n := 1) ⟨hx, hb, hml, hown, hts⟩ (ctor_X4_init_16 l (q1)) w53 w54 w5 w55 rfl ⟨by decide +kernel, by decide +kernel, by decide +kernel⟩ ⟨Nat.le_of_ble_eq_true rfl, Nat.le_of_ble_eq_true rfl⟩ hK hE hP hD hS hA (isC := [1]) (isR := [0]) (wr := [(h0, .inr (5, [.int 0, .int 0, .int (-1), .int 0, .null, .null, .null, .null, .null, .null]))]) rfl rfl (by decide) (by decide) (by decide) rfl hl.1 rfl (Nat.le_of_ble_eq_true rfl) dX6_init_31 ⟨Nat.le_of_ble_eq_true rfl, Nat.le_of_ble_eq_true rfl⟩ (fun b2 H locs hb2 hP hD hS => ?_)
    try rw [← hb2]
    replace hP : va_P D vwCl ([(h0, .inr (5, [.int 0, .int 0, .int (-1), .int 0, .null, .null, .null, .null, .null, .null])), (b2 0, .inr (3, [.ref (b2 1), .ref (b2 2), .int (rwN row0)])), (b2 1, .inl (cI, 16, .inl (rwE row0))), (b2 2, .inl (cI, 16, .inl (rwP row0)))] : va_W) H := hP
    replace hD : va_D A ([(h0, .inr (5, [.int 0, .int 0, .int (-1), .int 0, .null, .null, .null, .null, .null, .null])), (b2 0, .inr (3, [.ref (b2 1), .ref (b2 2), .int (rwN row0)])), (b2 1, .inl (cI, 16, .inl (rwE row0))), (b2 2, .inl (cI, 16, .inl (rwP row0)))] : va_W) := hD
    refine W.eq (g2 := F0 m 34 ls [.ref (b2 0), .ref (h0)]) rfl ?_
    refine va_putF (D := D) (ci := 5) (v := .ref (b2 0)) (ty := (.object "Compactforms$Row")) (C := RX6) (T := TX6) (N := 10) hx hb hg in_X6 tyX6 tyX6_ok nmX6 hown hK hP hD hS 0 rfl rfl 4 (by decide) (hg _ w136) (fun _ h9 => h9) rfl hin rfl (by decide +kernel) rfl rfl (Nat.le_of_ble_eq_true rfl) dX6_init_34 (fun H locs hP hD hS => ?_)
    replace hP : va_P D vwCl ([(h0, .inr (5, [.int 0, .int 0, .int (-1), .int 0, .ref (b2 0), .null, .null, .null, .null, .null])), (b2 0, .inr (3, [.ref (b2 1), .ref (b2 2), .int (rwN row0)])), (b2 1, .inl (cI, 16, .inl (rwE row0))), (b2 2, .inl (cI, 16, .inl (rwP row0)))] : va_W) H := hP
    replace hD : va_D A ([(h0, .inr (5, [.int 0, .int 0, .int (-1), .int 0, .ref (b2 0), .null, .null, .null, .null, .null])), (b2 0, .inr (3, [.ref (b2 1), .ref (b2 2), .int (rwN row0)])), (b2 1, .inl (cI, 16, .inl (rwE row0))), (b2 2, .inl (cI, 16, .inl (rwP row0)))] : va_W) := hD
    refine lv_aload_n hx hb dX6_init_37 rfl (lv_at hl 0 rfl) ?_
    refine va_new (ci := 0) (fs := [.null, .null, .null, .int 0, .int 0]) (C := RX0) (T := TX0) (N := 5) hx hb hg in_X0 tyX0 tyX0_ok hown (hg _ w71) (hg _ w72) (hg _ w6) hK hP hD hS hA rfl (by intro j hj; match j, hj with | 0, _ => rfl | 1, _ => rfl | 2, _ => rfl | 3, _ => rfl | 4, _ => rfl | (j + 5), hj => exact absurd hj (by omega)) (Nat.le_of_ble_eq_true rfl) (Nat.le_of_ble_eq_true rfl) dX6_init_38 (fun q3 H hP hD hS => ?_)
    replace hP : va_P D vwCl ([(h0, .inr (5, [.int 0, .int 0, .int (-1), .int 0, .ref (b2 0), .null, .null, .null, .null, .null])), (b2 0, .inr (3, [.ref (b2 1), .ref (b2 2), .int (rwN row0)])), (b2 1, .inl (cI, 16, .inl (rwE row0))), (b2 2, .inl (cI, 16, .inl (rwP row0))), (q3, .inr (0, [.null, .null, .null, .int 0, .int 0]))] : va_W) H := hP
    replace hD : va_D A ([(h0, .inr (5, [.int 0, .int 0, .int (-1), .int 0, .ref (b2 0), .null, .null, .null, .null, .null])), (b2 0, .inr (3, [.ref (b2 1), .ref (b2 2), .int (rwN row0)])), (b2 1, .inl (cI, 16, .inl (rwE row0))), (b2 2, .inl (cI, 16, .inl (rwP row0))), (q3, .inr (0, [.null, .null, .null, .int 0, .int 0]))] : va_W) := hD
    refine lv_dup hx hb dX6_init_41 rfl ?_
    refine k_IN (As := []) (rest := [.ref (q3), .ref (h0)]) (n := 0) ⟨hx, hb, hml, hown, hts⟩ (ctor_X0_init l (q3)) (hE.1.2.1 _ (List.mem_of_getElem? (i := 3) rfl)) w74 w6 w75 rfl ⟨by decide +kernel, by decide +kernel, by decide +kernel⟩ ⟨Nat.le_of_ble_eq_true rfl, Nat.le_of_ble_eq_true rfl⟩ hK hE hP hD hS hA (isC := [4]) (isR := [0, 1, 2, 3]) (wr := [(h0, .inr (5, [.int 0, .int 0, .int (-1), .int 0, .ref (b2 0), .null, .null, .null, .null, .null])), (b2 0, .inr (3, [.ref (b2 1), .ref (b2 2), .int (rwN row0)])), (b2 1, .inl (cI, 16, .inl (rwE row0))), (b2 2, .inl (cI, 16, .inl (rwP row0)))]) rfl rfl (by decide) (by decide) (by decide) rfl hl.1 rfl (Nat.le_of_ble_eq_true rfl) dX6_init_42 ⟨Nat.le_of_ble_eq_true rfl, Nat.le_of_ble_eq_true rfl⟩ (fun b4 H locs hb4 hP hD hS => ?_)
    try rw [← hb4]
    replace hP : va_P D vwCl ([(h0, .inr (5, [.int 0, .int 0, .int (-1), .int 0, .ref (b2 0), .null, .null, .null, .null, .null])), (b2 0, .inr (3, [.ref (b2 1), .ref (b2 2), .int (rwN row0)])), (b2 1, .inl (cI, 16, .inl (rwE row0))), (b2 2, .inl (cI, 16, .inl (rwP row0))), (b4 0, .inr (0, [.ref (b4 1), .ref (b4 2), .ref (b4 3), .int (chH chain0), .int (chS chain0)])), (b4 1, .inl (cI, 40, .inl (chE chain0))), (b4 2, .inl (cI, 40, .inl (chP chain0))), (b4 3, .inl (cI, 40, .inl (chX chain0)))] : va_W) H := hP
    replace hD : va_D A ([(h0, .inr (5, [.int 0, .int 0, .int (-1), .int 0, .ref (b2 0), .null, .null, .null, .null, .null])), (b2 0, .inr (3, [.ref (b2 1), .ref (b2 2), .int (rwN row0)])), (b2 1, .inl (cI, 16, .inl (rwE row0))), (b2 2, .inl (cI, 16, .inl (rwP row0))), (b4 0, .inr (0, [.ref (b4 1), .ref (b4 2), .ref (b4 3), .int (chH chain0), .int (chS chain0)])), (b4 1, .inl (cI, 40, .inl (chE chain0))), (b4 2, .inl (cI, 40, .inl (chP chain0))), (b4 3, .inl (cI, 40, .inl (chX chain0)))] : va_W) := hD
    refine W.eq (g2 := F0 m 45 ls [.ref (b4 0), .ref (h0)]) rfl ?_
    refine va_putF (D := D) (ci := 5) (v := .ref (b4 0)) (ty := (.object "Compactforms$Chain")) (C := RX6) (T := TX6) (N := 10) hx hb hg in_X6 tyX6 tyX6_ok nmX6 hown hK hP hD hS 0 rfl rfl 5 (by decide) (hg _ w137) (fun _ h9 => h9) rfl hin rfl (by decide +kernel) rfl rfl (Nat.le_of_ble_eq_true rfl) dX6_init_45 (fun H locs hP hD hS => ?_)
    replace hP : va_P D vwCl ([(h0, .inr (5, [.int 0, .int 0, .int (-1), .int 0, .ref (b2 0), .ref (b4 0), .null, .null, .null, .null])), (b2 0, .inr (3, [.ref (b2 1), .ref (b2 2), .int (rwN row0)])), (b2 1, .inl (cI, 16, .inl (rwE row0))), (b2 2, .inl (cI, 16, .inl (rwP row0))), (b4 0, .inr (0, [.ref (b4 1), .ref (b4 2), .ref (b4 3), .int (chH chain0), .int (chS chain0)])), (b4 1, .inl (cI, 40, .inl (chE chain0))), (b4 2, .inl (cI, 40, .inl (chP chain0))), (b4 3, .inl (cI, 40, .inl (chX chain0)))] : va_W) H := hP
    replace hD : va_D A ([(h0, .inr (5, [.int 0, .int 0, .int (-1), .int 0, .ref (b2 0), .ref (b4 0), .null, .null, .null, .null])), (b2 0, .inr (3, [.ref (b2 1), .ref (b2 2), .int (rwN row0)])), (b2 1, .inl (cI, 16, .inl (rwE row0))), (b2 2, .inl (cI, 16, .inl (rwP row0))), (b4 0, .inr (0, [.ref (b4 1), .ref (b4 2), .ref (b4 3), .int (chH chain0), .int (chS chain0)])), (b4 1, .inl (cI, 40, .inl (chE chain0))), (b4 2, .inl (cI, 40, .inl (chP chain0))), (b4 3, .inl (cI, 40, .inl (chX chain0)))] : va_W) := hD
    refine lv_aload_n hx hb dX6_init_48 rfl (lv_at hl 0 rfl) ?_
    refine va_new (ci := 4) (fs := [.null, .null, .null, .int 0, .int 0]) (C := RX5) (T := TX5) (N := 5) hx hb hg in_X5 tyX5 tyX5_ok hown (hg _ w93) (hg _ w94) (hg _ w7) hK hP hD hS hA rfl (by intro j hj; match j, hj with | 0, _ => rfl | 1, _ => rfl | 2, _ => rfl | 3, _ => rfl | 4, _ => rfl | (j + 5), hj => exact absurd hj (by omega)) (Nat.le_of_ble_eq_true rfl) (Nat.le_of_ble_eq_true rfl) dX6_init_49 (fun q5 H hP hD hS => ?_)
    replace hP : va_P D vwCl ([(h0, .inr (5, [.int 0, .int 0, .int (-1), .int 0, .ref (b2 0), .ref (b4 0), .null, .null, .null, .null])), (b2 0, .inr (3, [.ref (b2 1), .ref (b2 2), .int (rwN row0)])), (b2 1, .inl (cI, 16, .inl (rwE row0))), (b2 2, .inl (cI, 16, .inl (rwP row0))), (b4 0, .inr (0, [.ref (b4 1), .ref (b4 2), .ref (b4 3), .int (chH chain0), .int (chS chain0)])), (b4 1, .inl (cI, 40, .inl (chE chain0))), (b4 2, .inl (cI, 40, .inl (chP chain0))), (b4 3, .inl (cI, 40, .inl (chX chain0))), (q5, .inr (4, [.null, .null, .null, .int 0, .int 0]))] : va_W) H := hP
    replace hD : va_D A ([(h0, .inr (5, [.int 0, .int 0, .int (-1), .int 0, .ref (b2 0), .ref (b4 0), .null, .null, .null, .null])), (b2 0, .inr (3, [.ref (b2 1), .ref (b2 2), .int (rwN row0)])), (b2 1, .inl (cI, 16, .inl (rwE row0))), (b2 2, .inl (cI, 16, .inl (rwP row0))), (b4 0, .inr (0, [.ref (b4 1), .ref (b4 2), .ref (b4 3), .int (chH chain0), .int (chS chain0)])), (b4 1, .inl (cI, 40, .inl (chE chain0))), (b4 2, .inl (cI, 40, .inl (chP chain0))), (b4 3, .inl (cI, 40, .inl (chX chain0))), (q5, .inr (4, [.null, .null, .null, .int 0, .int 0]))] : va_W) := hD
    refine lv_dup hx hb dX6_init_52 rfl ?_
    refine k_IN (As := []) (rest := [.ref (q5), .ref (h0)]) (n := 0) ⟨hx, hb, hml, hown, hts⟩ (ctor_X5_init l (q5)) (hE.1.2.1 _ (List.mem_of_getElem? (i := 5) rfl)) w96 w7 w97 rfl ⟨by decide +kernel, by decide +kernel, by decide +kernel⟩ ⟨Nat.le_of_ble_eq_true rfl, Nat.le_of_ble_eq_true rfl⟩ hK hE hP hD hS hA (isC := [8]) (isR := [0, 1, 2, 3, 4, 5, 6, 7]) (wr := [(h0, .inr (5, [.int 0, .int 0, .int (-1), .int 0, .ref (b2 0), .ref (b4 0), .null, .null, .null, .null])), (b2 0, .inr (3, [.ref (b2 1), .ref (b2 2), .int (rwN row0)])), (b2 1, .inl (cI, 16, .inl (rwE row0))), (b2 2, .inl (cI, 16, .inl (rwP row0))), (b4 0, .inr (0, [.ref (b4 1), .ref (b4 2), .ref (b4 3), .int (chH chain0), .int (chS chain0)])), (b4 1, .inl (cI, 40, .inl (chE chain0))), (b4 2, .inl (cI, 40, .inl (chP chain0))), (b4 3, .inl (cI, 40, .inl (chX chain0)))]) rfl rfl (by decide) (by decide) (by decide) rfl hl.1 rfl (Nat.le_of_ble_eq_true rfl) dX6_init_53 ⟨Nat.le_of_ble_eq_true rfl, Nat.le_of_ble_eq_true rfl⟩ (fun b6 H locs hb6 hP hD hS => ?_)
    try rw [← hb6]
    replace hP : va_P D vwCl ([(h0, .inr (5, [.int 0, .int 0, .int (-1), .int 0, .ref (b2 0), .ref (b4 0), .null, .null, .null, .null])), (b2 0, .inr (3, [.ref (b2 1), .ref (b2 2), .int (rwN row0)])), (b2 1, .inl (cI, 16, .inl (rwE row0))), (b2 2, .inl (cI, 16, .inl (rwP row0))), (b4 0, .inr (0, [.ref (b4 1), .ref (b4 2), .ref (b4 3), .int (chH chain0), .int (chS chain0)])), (b4 1, .inl (cI, 40, .inl (chE chain0))), (b4 2, .inl (cI, 40, .inl (chP chain0))), (b4 3, .inl (cI, 40, .inl (chX chain0))), (b6 0, .inr (4, [.ref (b6 1), .ref (b6 2), .ref (b6 3), .int (tbB table0), .int (tbC table0)])), (b6 1, .inl (cI, 64, .inl (tbH table0))), (b6 2, .inl (cI, 40, .inl (tbM table0))), (b6 3, .inl (cI, 40, .inl (tbX table0)))] : va_W) H := hP
    replace hD : va_D A ([(h0, .inr (5, [.int 0, .int 0, .int (-1), .int 0, .ref (b2 0), .ref (b4 0), .null, .null, .null, .null])), (b2 0, .inr (3, [.ref (b2 1), .ref (b2 2), .int (rwN row0)])), (b2 1, .inl (cI, 16, .inl (rwE row0))), (b2 2, .inl (cI, 16, .inl (rwP row0))), (b4 0, .inr (0, [.ref (b4 1), .ref (b4 2), .ref (b4 3), .int (chH chain0), .int (chS chain0)])), (b4 1, .inl (cI, 40, .inl (chE chain0))), (b4 2, .inl (cI, 40, .inl (chP chain0))), (b4 3, .inl (cI, 40, .inl (chX chain0))), (b6 0, .inr (4, [.ref (b6 1), .ref (b6 2), .ref (b6 3), .int (tbB table0), .int (tbC table0)])), (b6 1, .inl (cI, 64, .inl (tbH table0))), (b6 2, .inl (cI, 40, .inl (tbM table0))), (b6 3, .inl (cI, 40, .inl (tbX table0)))] : va_W) := hD
    refine W.eq (g2 := F0 m 56 ls [.ref (b6 0), .ref (h0)]) rfl ?_
    refine va_putF (D := D) (ci := 5) (v := .ref (b6 0)) (ty := (.object "Compactforms$Table")) (C := RX6) (T := TX6) (N := 10) hx hb hg in_X6 tyX6 tyX6_ok nmX6 hown hK hP hD hS 0 rfl rfl 6 (by decide) (hg _ w138) (fun _ h9 => h9) rfl hin rfl (by decide +kernel) rfl rfl (Nat.le_of_ble_eq_true rfl) dX6_init_56 (fun H locs hP hD hS => ?_)
    replace hP : va_P D vwCl ([(h0, .inr (5, [.int 0, .int 0, .int (-1), .int 0, .ref (b2 0), .ref (b4 0), .ref (b6 0), .null, .null, .null])), (b2 0, .inr (3, [.ref (b2 1), .ref (b2 2), .int (rwN row0)])), (b2 1, .inl (cI, 16, .inl (rwE row0))), (b2 2, .inl (cI, 16, .inl (rwP row0))), (b4 0, .inr (0, [.ref (b4 1), .ref (b4 2), .ref (b4 3), .int (chH chain0), .int (chS chain0)])), (b4 1, .inl (cI, 40, .inl (chE chain0))), (b4 2, .inl (cI, 40, .inl (chP chain0))), (b4 3, .inl (cI, 40, .inl (chX chain0))), (b6 0, .inr (4, [.ref (b6 1), .ref (b6 2), .ref (b6 3), .int (tbB table0), .int (tbC table0)])), (b6 1, .inl (cI, 64, .inl (tbH table0))), (b6 2, .inl (cI, 40, .inl (tbM table0))), (b6 3, .inl (cI, 40, .inl (tbX table0)))] : va_W) H := hP
    replace hD : va_D A ([(h0, .inr (5, [.int 0, .int 0, .int (-1), .int 0, .ref (b2 0), .ref (b4 0), .ref (b6 0), .null, .null, .null])), (b2 0, .inr (3, [.ref (b2 1), .ref (b2 2), .int (rwN row0)])), (b2 1, .inl (cI, 16, .inl (rwE row0))), (b2 2, .inl (cI, 16, .inl (rwP row0))), (b4 0, .inr (0, [.ref (b4 1), .ref (b4 2), .ref (b4 3), .int (chH chain0), .int (chS chain0)])), (b4 1, .inl (cI, 40, .inl (chE chain0))), (b4 2, .inl (cI, 40, .inl (chP chain0))), (b4 3, .inl (cI, 40, .inl (chX chain0))), (b6 0, .inr (4, [.ref (b6 1), .ref (b6 2), .ref (b6 3), .int (tbB table0), .int (tbC table0)])), (b6 1, .inl (cI, 64, .inl (tbH table0))), (b6 2, .inl (cI, 40, .inl (tbM table0))), (b6 3, .inl (cI, 40, .inl (tbX table0)))] : va_W) := hD
    refine lv_aload_n hx hb dX6_init_59 rfl (lv_at hl 0 rfl) ?_
    refine va_new (ci := 3) (fs := [.null, .null, .int 0]) (C := RX4) (T := TX4) (N := 3) hx hb hg in_X4 tyX4 tyX4_ok hown (hg _ w51) (hg _ w52) (hg _ w5) hK hP hD hS hA rfl (by intro j hj; match j, hj with | 0, _ => rfl | 1, _ => rfl | 2, _ => rfl | (j + 3), hj => exact absurd hj (by omega)) (Nat.le_of_ble_eq_true rfl) (Nat.le_of_ble_eq_true rfl) dX6_init_60 (fun q7 H hP hD hS => ?_)
    replace hP : va_P D vwCl ([(h0, .inr (5, [.int 0, .int 0, .int (-1), .int 0, .ref (b2 0), .ref (b4 0), .ref (b6 0), .null, .null, .null])), (b2 0, .inr (3, [.ref (b2 1), .ref (b2 2), .int (rwN row0)])), (b2 1, .inl (cI, 16, .inl (rwE row0))), (b2 2, .inl (cI, 16, .inl (rwP row0))), (b4 0, .inr (0, [.ref (b4 1), .ref (b4 2), .ref (b4 3), .int (chH chain0), .int (chS chain0)])), (b4 1, .inl (cI, 40, .inl (chE chain0))), (b4 2, .inl (cI, 40, .inl (chP chain0))), (b4 3, .inl (cI, 40, .inl (chX chain0))), (b6 0, .inr (4, [.ref (b6 1), .ref (b6 2), .ref (b6 3), .int (tbB table0), .int (tbC table0)])), (b6 1, .inl (cI, 64, .inl (tbH table0))), (b6 2, .inl (cI, 40, .inl (tbM table0))), (b6 3, .inl (cI, 40, .inl (tbX table0))), (q7, .inr (3, [.null, .null, .int 0]))] : va_W) H := hP
    replace hD : va_D A ([(h0, .inr (5, [.int 0, .int 0, .int (-1), .int 0, .ref (b2 0), .ref (b4 0), .ref (b6 0), .null, .null, .null])), (b2 0, .inr (3, [.ref (b2 1), .ref (b2 2), .int (rwN row0)])), (b2 1, .inl (cI, 16, .inl (rwE row0))), (b2 2, .inl (cI, 16, .inl (rwP row0))), (b4 0, .inr (0, [.ref (b4 1), .ref (b4 2), .ref (b4 3), .int (chH chain0), .int (chS chain0)])), (b4 1, .inl (cI, 40, .inl (chE chain0))), (b4 2, .inl (cI, 40, .inl (chP chain0))), (b4 3, .inl (cI, 40, .inl (chX chain0))), (b6 0, .inr (4, [.ref (b6 1), .ref (b6 2), .ref (b6 3), .int (tbB table0), .int (tbC table0)])), (b6 1, .inl (cI, 64, .inl (tbH table0))), (b6 2, .inl (cI, 40, .inl (tbM table0))), (b6 3, .inl (cI, 40, .inl (tbX table0))), (q7, .inr (3, [.null, .null, .int 0]))] : va_W) := hD
    refine lv_dup hx hb dX6_init_63 rfl ?_
    refine lv_bipush (v := 40) hx hb dX6_init_64 (by decide) ?_
    refine k_I (As := [.int 40]) (rest := [.ref (q7), .ref (h0)]) (n := 1) ⟨hx, hb, hml, hown, hts⟩ (ctor_X4_init_40 l (q7)) w53 w54 w5 w55 rfl ⟨by decide +kernel, by decide +kernel, by decide +kernel⟩ ⟨Nat.le_of_ble_eq_true rfl, Nat.le_of_ble_eq_true rfl⟩ hK hE hP hD hS hA (isC := [12]) (isR := [0, 1, 2, 3, 4, 5, 6, 7, 8, 9, 10, 11]) (wr := [(h0, .inr (5, [.int 0, .int 0, .int (-1), .int 0, .ref (b2 0), .ref (b4 0), .ref (b6 0), .null, .null, .null])), (b2 0, .inr (3, [.ref (b2 1), .ref (b2 2), .int (rwN row0)])), (b2 1, .inl (cI, 16, .inl (rwE row0))), (b2 2, .inl (cI, 16, .inl (rwP row0))), (b4 0, .inr (0, [.ref (b4 1), .ref (b4 2), .ref (b4 3), .int (chH chain0), .int (chS chain0)])), (b4 1, .inl (cI, 40, .inl (chE chain0))), (b4 2, .inl (cI, 40, .inl (chP chain0))), (b4 3, .inl (cI, 40, .inl (chX chain0))), (b6 0, .inr (4, [.ref (b6 1), .ref (b6 2), .ref (b6 3), .int (tbB table0), .int (tbC table0)])), (b6 1, .inl (cI, 64, .inl (tbH table0))), (b6 2, .inl (cI, 40, .inl (tbM table0))), (b6 3, .inl (cI, 40, .inl (tbX table0)))]) rfl rfl (by decide) (by decide) (by decide) rfl hl.1 rfl (Nat.le_of_ble_eq_true rfl) dX6_init_66 ⟨Nat.le_of_ble_eq_true rfl, Nat.le_of_ble_eq_true rfl⟩ (fun b8 H locs hb8 hP hD hS => ?_)
    try rw [← hb8]
    replace hP : va_P D vwCl ([(h0, .inr (5, [.int 0, .int 0, .int (-1), .int 0, .ref (b2 0), .ref (b4 0), .ref (b6 0), .null, .null, .null])), (b2 0, .inr (3, [.ref (b2 1), .ref (b2 2), .int (rwN row0)])), (b2 1, .inl (cI, 16, .inl (rwE row0))), (b2 2, .inl (cI, 16, .inl (rwP row0))), (b4 0, .inr (0, [.ref (b4 1), .ref (b4 2), .ref (b4 3), .int (chH chain0), .int (chS chain0)])), (b4 1, .inl (cI, 40, .inl (chE chain0))), (b4 2, .inl (cI, 40, .inl (chP chain0))), (b4 3, .inl (cI, 40, .inl (chX chain0))), (b6 0, .inr (4, [.ref (b6 1), .ref (b6 2), .ref (b6 3), .int (tbB table0), .int (tbC table0)])), (b6 1, .inl (cI, 64, .inl (tbH table0))), (b6 2, .inl (cI, 40, .inl (tbM table0))), (b6 3, .inl (cI, 40, .inl (tbX table0))), (b8 0, .inr (3, [.ref (b8 1), .ref (b8 2), .int (rwN row0)])), (b8 1, .inl (cI, 40, .inl (rwE row0))), (b8 2, .inl (cI, 40, .inl (rwP row0)))] : va_W) H := hP
    replace hD : va_D A ([(h0, .inr (5, [.int 0, .int 0, .int (-1), .int 0, .ref (b2 0), .ref (b4 0), .ref (b6 0), .null, .null, .null])), (b2 0, .inr (3, [.ref (b2 1), .ref (b2 2), .int (rwN row0)])), (b2 1, .inl (cI, 16, .inl (rwE row0))), (b2 2, .inl (cI, 16, .inl (rwP row0))), (b4 0, .inr (0, [.ref (b4 1), .ref (b4 2), .ref (b4 3), .int (chH chain0), .int (chS chain0)])), (b4 1, .inl (cI, 40, .inl (chE chain0))), (b4 2, .inl (cI, 40, .inl (chP chain0))), (b4 3, .inl (cI, 40, .inl (chX chain0))), (b6 0, .inr (4, [.ref (b6 1), .ref (b6 2), .ref (b6 3), .int (tbB table0), .int (tbC table0)])), (b6 1, .inl (cI, 64, .inl (tbH table0))), (b6 2, .inl (cI, 40, .inl (tbM table0))), (b6 3, .inl (cI, 40, .inl (tbX table0))), (b8 0, .inr (3, [.ref (b8 1), .ref (b8 2), .int (rwN row0)])), (b8 1, .inl (cI, 40, .inl (rwE row0))), (b8 2, .inl (cI, 40, .inl (rwP row0)))] : va_W) := hD
    refine W.eq (g2 := F0 m 69 ls [.ref (b8 0), .ref (h0)]) rfl ?_
    refine va_putF (D := D) (ci := 5) (v := .ref (b8 0)) (ty := (.object "Compactforms$Row")) (C := RX6) (T := TX6) (N := 10) hx hb hg in_X6 tyX6 tyX6_ok nmX6 hown hK hP hD hS 0 rfl rfl 7 (by decide) (hg _ w140) (fun _ h9 => h9) rfl hin rfl (by decide +kernel) rfl rfl (Nat.le_of_ble_eq_true rfl) dX6_init_69 (fun H locs hP hD hS => ?_)
    replace hP : va_P D vwCl ([(h0, .inr (5, [.int 0, .int 0, .int (-1), .int 0, .ref (b2 0), .ref (b4 0), .ref (b6 0), .ref (b8 0), .null, .null])), (b2 0, .inr (3, [.ref (b2 1), .ref (b2 2), .int (rwN row0)])), (b2 1, .inl (cI, 16, .inl (rwE row0))), (b2 2, .inl (cI, 16, .inl (rwP row0))), (b4 0, .inr (0, [.ref (b4 1), .ref (b4 2), .ref (b4 3), .int (chH chain0), .int (chS chain0)])), (b4 1, .inl (cI, 40, .inl (chE chain0))), (b4 2, .inl (cI, 40, .inl (chP chain0))), (b4 3, .inl (cI, 40, .inl (chX chain0))), (b6 0, .inr (4, [.ref (b6 1), .ref (b6 2), .ref (b6 3), .int (tbB table0), .int (tbC table0)])), (b6 1, .inl (cI, 64, .inl (tbH table0))), (b6 2, .inl (cI, 40, .inl (tbM table0))), (b6 3, .inl (cI, 40, .inl (tbX table0))), (b8 0, .inr (3, [.ref (b8 1), .ref (b8 2), .int (rwN row0)])), (b8 1, .inl (cI, 40, .inl (rwE row0))), (b8 2, .inl (cI, 40, .inl (rwP row0)))] : va_W) H := hP
    replace hD : va_D A ([(h0, .inr (5, [.int 0, .int 0, .int (-1), .int 0, .ref (b2 0), .ref (b4 0), .ref (b6 0), .ref (b8 0), .null, .null])), (b2 0, .inr (3, [.ref (b2 1), .ref (b2 2), .int (rwN row0)])), (b2 1, .inl (cI, 16, .inl (rwE row0))), (b2 2, .inl (cI, 16, .inl (rwP row0))), (b4 0, .inr (0, [.ref (b4 1), .ref (b4 2), .ref (b4 3), .int (chH chain0), .int (chS chain0)])), (b4 1, .inl (cI, 40, .inl (chE chain0))), (b4 2, .inl (cI, 40, .inl (chP chain0))), (b4 3, .inl (cI, 40, .inl (chX chain0))), (b6 0, .inr (4, [.ref (b6 1), .ref (b6 2), .ref (b6 3), .int (tbB table0), .int (tbC table0)])), (b6 1, .inl (cI, 64, .inl (tbH table0))), (b6 2, .inl (cI, 40, .inl (tbM table0))), (b6 3, .inl (cI, 40, .inl (tbX table0))), (b8 0, .inr (3, [.ref (b8 1), .ref (b8 2), .int (rwN row0)])), (b8 1, .inl (cI, 40, .inl (rwE row0))), (b8 2, .inl (cI, 40, .inl (rwP row0)))] : va_W) := hD
    refine lv_aload_n hx hb dX6_init_72 rfl (lv_at hl 0 rfl) ?_
    refine va_new (ci := 1) (fs := [.null, .null]) (C := RX2) (T := TX2) (N := 2) hx hb hg in_X2 tyX2 tyX2_ok hown (hg _ w115) (hg _ w116) (hg _ w8) hK hP hD hS hA rfl (by intro j hj; match j, hj with | 0, _ => rfl | 1, _ => rfl | (j + 2), hj => exact absurd hj (by omega)) (Nat.le_of_ble_eq_true rfl) (Nat.le_of_ble_eq_true rfl) dX6_init_73 (fun q9 H hP hD hS => ?_)
    replace hP : va_P D vwCl ([(h0, .inr (5, [.int 0, .int 0, .int (-1), .int 0, .ref (b2 0), .ref (b4 0), .ref (b6 0), .ref (b8 0), .null, .null])), (b2 0, .inr (3, [.ref (b2 1), .ref (b2 2), .int (rwN row0)])), (b2 1, .inl (cI, 16, .inl (rwE row0))), (b2 2, .inl (cI, 16, .inl (rwP row0))), (b4 0, .inr (0, [.ref (b4 1), .ref (b4 2), .ref (b4 3), .int (chH chain0), .int (chS chain0)])), (b4 1, .inl (cI, 40, .inl (chE chain0))), (b4 2, .inl (cI, 40, .inl (chP chain0))), (b4 3, .inl (cI, 40, .inl (chX chain0))), (b6 0, .inr (4, [.ref (b6 1), .ref (b6 2), .ref (b6 3), .int (tbB table0), .int (tbC table0)])), (b6 1, .inl (cI, 64, .inl (tbH table0))), (b6 2, .inl (cI, 40, .inl (tbM table0))), (b6 3, .inl (cI, 40, .inl (tbX table0))), (b8 0, .inr (3, [.ref (b8 1), .ref (b8 2), .int (rwN row0)])), (b8 1, .inl (cI, 40, .inl (rwE row0))), (b8 2, .inl (cI, 40, .inl (rwP row0))), (q9, .inr (1, [.null, .null]))] : va_W) H := hP
    replace hD : va_D A ([(h0, .inr (5, [.int 0, .int 0, .int (-1), .int 0, .ref (b2 0), .ref (b4 0), .ref (b6 0), .ref (b8 0), .null, .null])), (b2 0, .inr (3, [.ref (b2 1), .ref (b2 2), .int (rwN row0)])), (b2 1, .inl (cI, 16, .inl (rwE row0))), (b2 2, .inl (cI, 16, .inl (rwP row0))), (b4 0, .inr (0, [.ref (b4 1), .ref (b4 2), .ref (b4 3), .int (chH chain0), .int (chS chain0)])), (b4 1, .inl (cI, 40, .inl (chE chain0))), (b4 2, .inl (cI, 40, .inl (chP chain0))), (b4 3, .inl (cI, 40, .inl (chX chain0))), (b6 0, .inr (4, [.ref (b6 1), .ref (b6 2), .ref (b6 3), .int (tbB table0), .int (tbC table0)])), (b6 1, .inl (cI, 64, .inl (tbH table0))), (b6 2, .inl (cI, 40, .inl (tbM table0))), (b6 3, .inl (cI, 40, .inl (tbX table0))), (b8 0, .inr (3, [.ref (b8 1), .ref (b8 2), .int (rwN row0)])), (b8 1, .inl (cI, 40, .inl (rwE row0))), (b8 2, .inl (cI, 40, .inl (rwP row0))), (q9, .inr (1, [.null, .null]))] : va_W) := hD
    refine lv_dup hx hb dX6_init_76 rfl ?_
    refine k_IN (As := []) (rest := [.ref (q9), .ref (h0)]) (n := 0) ⟨hx, hb, hml, hown, hts⟩ (ctor_X2_init l (q9)) (hE.1.2.1 _ (List.mem_of_getElem? (i := 7) rfl)) w118 w8 w119 rfl ⟨by decide +kernel, by decide +kernel, by decide +kernel⟩ ⟨Nat.le_of_ble_eq_true rfl, Nat.le_of_ble_eq_true rfl⟩ hK hE hP hD hS hA (isC := [15]) (isR := [0, 1, 2, 3, 4, 5, 6, 7, 8, 9, 10, 11, 12, 13, 14]) (wr := [(h0, .inr (5, [.int 0, .int 0, .int (-1), .int 0, .ref (b2 0), .ref (b4 0), .ref (b6 0), .ref (b8 0), .null, .null])), (b2 0, .inr (3, [.ref (b2 1), .ref (b2 2), .int (rwN row0)])), (b2 1, .inl (cI, 16, .inl (rwE row0))), (b2 2, .inl (cI, 16, .inl (rwP row0))), (b4 0, .inr (0, [.ref (b4 1), .ref (b4 2), .ref (b4 3), .int (chH chain0), .int (chS chain0)])), (b4 1, .inl (cI, 40, .inl (chE chain0))), (b4 2, .inl (cI, 40, .inl (chP chain0))), (b4 3, .inl (cI, 40, .inl (chX chain0))), (b6 0, .inr (4, [.ref (b6 1), .ref (b6 2), .ref (b6 3), .int (tbB table0), .int (tbC table0)])), (b6 1, .inl (cI, 64, .inl (tbH table0))), (b6 2, .inl (cI, 40, .inl (tbM table0))), (b6 3, .inl (cI, 40, .inl (tbX table0))), (b8 0, .inr (3, [.ref (b8 1), .ref (b8 2), .int (rwN row0)])), (b8 1, .inl (cI, 40, .inl (rwE row0))), (b8 2, .inl (cI, 40, .inl (rwP row0)))]) rfl rfl (by decide) (by decide) (by decide) rfl hl.1 rfl (Nat.le_of_ble_eq_true rfl) dX6_init_77 ⟨Nat.le_of_ble_eq_true rfl, Nat.le_of_ble_eq_true rfl⟩ (fun b10 H locs hb10 hP hD hS => ?_)
    try rw [← hb10]
    replace hP : va_P D vwCl ([(h0, .inr (5, [.int 0, .int 0, .int (-1), .int 0, .ref (b2 0), .ref (b4 0), .ref (b6 0), .ref (b8 0), .null, .null])), (b2 0, .inr (3, [.ref (b2 1), .ref (b2 2), .int (rwN row0)])), (b2 1, .inl (cI, 16, .inl (rwE row0))), (b2 2, .inl (cI, 16, .inl (rwP row0))), (b4 0, .inr (0, [.ref (b4 1), .ref (b4 2), .ref (b4 3), .int (chH chain0), .int (chS chain0)])), (b4 1, .inl (cI, 40, .inl (chE chain0))), (b4 2, .inl (cI, 40, .inl (chP chain0))), (b4 3, .inl (cI, 40, .inl (chX chain0))), (b6 0, .inr (4, [.ref (b6 1), .ref (b6 2), .ref (b6 3), .int (tbB table0), .int (tbC table0)])), (b6 1, .inl (cI, 64, .inl (tbH table0))), (b6 2, .inl (cI, 40, .inl (tbM table0))), (b6 3, .inl (cI, 40, .inl (tbX table0))), (b8 0, .inr (3, [.ref (b8 1), .ref (b8 2), .int (rwN row0)])), (b8 1, .inl (cI, 40, .inl (rwE row0))), (b8 2, .inl (cI, 40, .inl (rwP row0))), (b10 0, .inr (1, [.ref (b10 1), .ref (b10 2)])), (b10 1, .inl (cI, 3, .inl (gsP groups0))), (b10 2, .inl (cI, 120, .inl (gsW groups0)))] : va_W) H := hP
    replace hD : va_D A ([(h0, .inr (5, [.int 0, .int 0, .int (-1), .int 0, .ref (b2 0), .ref (b4 0), .ref (b6 0), .ref (b8 0), .null, .null])), (b2 0, .inr (3, [.ref (b2 1), .ref (b2 2), .int (rwN row0)])), (b2 1, .inl (cI, 16, .inl (rwE row0))), (b2 2, .inl (cI, 16, .inl (rwP row0))), (b4 0, .inr (0, [.ref (b4 1), .ref (b4 2), .ref (b4 3), .int (chH chain0), .int (chS chain0)])), (b4 1, .inl (cI, 40, .inl (chE chain0))), (b4 2, .inl (cI, 40, .inl (chP chain0))), (b4 3, .inl (cI, 40, .inl (chX chain0))), (b6 0, .inr (4, [.ref (b6 1), .ref (b6 2), .ref (b6 3), .int (tbB table0), .int (tbC table0)])), (b6 1, .inl (cI, 64, .inl (tbH table0))), (b6 2, .inl (cI, 40, .inl (tbM table0))), (b6 3, .inl (cI, 40, .inl (tbX table0))), (b8 0, .inr (3, [.ref (b8 1), .ref (b8 2), .int (rwN row0)])), (b8 1, .inl (cI, 40, .inl (rwE row0))), (b8 2, .inl (cI, 40, .inl (rwP row0))), (b10 0, .inr (1, [.ref (b10 1), .ref (b10 2)])), (b10 1, .inl (cI, 3, .inl (gsP groups0))), (b10 2, .inl (cI, 120, .inl (gsW groups0)))] : va_W) := hD
    refine W.eq (g2 := F0 m 80 ls [.ref (b10 0), .ref (h0)]) rfl ?_
    refine va_putF (D := D) (ci := 5) (v := .ref (b10 0)) (ty := (.object "Compactforms$Groups")) (C := RX6) (T := TX6) (N := 10) hx hb hg in_X6 tyX6 tyX6_ok nmX6 hown hK hP hD hS 0 rfl rfl 8 (by decide) (hg _ w142) (fun _ h9 => h9) rfl hin rfl (by decide +kernel) rfl rfl (Nat.le_of_ble_eq_true rfl) dX6_init_80 (fun H locs hP hD hS => ?_)
    replace hP : va_P D vwCl ([(h0, .inr (5, [.int 0, .int 0, .int (-1), .int 0, .ref (b2 0), .ref (b4 0), .ref (b6 0), .ref (b8 0), .ref (b10 0), .null])), (b2 0, .inr (3, [.ref (b2 1), .ref (b2 2), .int (rwN row0)])), (b2 1, .inl (cI, 16, .inl (rwE row0))), (b2 2, .inl (cI, 16, .inl (rwP row0))), (b4 0, .inr (0, [.ref (b4 1), .ref (b4 2), .ref (b4 3), .int (chH chain0), .int (chS chain0)])), (b4 1, .inl (cI, 40, .inl (chE chain0))), (b4 2, .inl (cI, 40, .inl (chP chain0))), (b4 3, .inl (cI, 40, .inl (chX chain0))), (b6 0, .inr (4, [.ref (b6 1), .ref (b6 2), .ref (b6 3), .int (tbB table0), .int (tbC table0)])), (b6 1, .inl (cI, 64, .inl (tbH table0))), (b6 2, .inl (cI, 40, .inl (tbM table0))), (b6 3, .inl (cI, 40, .inl (tbX table0))), (b8 0, .inr (3, [.ref (b8 1), .ref (b8 2), .int (rwN row0)])), (b8 1, .inl (cI, 40, .inl (rwE row0))), (b8 2, .inl (cI, 40, .inl (rwP row0))), (b10 0, .inr (1, [.ref (b10 1), .ref (b10 2)])), (b10 1, .inl (cI, 3, .inl (gsP groups0))), (b10 2, .inl (cI, 120, .inl (gsW groups0)))] : va_W) H := hP
    replace hD : va_D A ([(h0, .inr (5, [.int 0, .int 0, .int (-1), .int 0, .ref (b2 0), .ref (b4 0), .ref (b6 0), .ref (b8 0), .ref (b10 0), .null])), (b2 0, .inr (3, [.ref (b2 1), .ref (b2 2), .int (rwN row0)])), (b2 1, .inl (cI, 16, .inl (rwE row0))), (b2 2, .inl (cI, 16, .inl (rwP row0))), (b4 0, .inr (0, [.ref (b4 1), .ref (b4 2), .ref (b4 3), .int (chH chain0), .int (chS chain0)])), (b4 1, .inl (cI, 40, .inl (chE chain0))), (b4 2, .inl (cI, 40, .inl (chP chain0))), (b4 3, .inl (cI, 40, .inl (chX chain0))), (b6 0, .inr (4, [.ref (b6 1), .ref (b6 2), .ref (b6 3), .int (tbB table0), .int (tbC table0)])), (b6 1, .inl (cI, 64, .inl (tbH table0))), (b6 2, .inl (cI, 40, .inl (tbM table0))), (b6 3, .inl (cI, 40, .inl (tbX table0))), (b8 0, .inr (3, [.ref (b8 1), .ref (b8 2), .int (rwN row0)])), (b8 1, .inl (cI, 40, .inl (rwE row0))), (b8 2, .inl (cI, 40, .inl (rwP row0))), (b10 0, .inr (1, [.ref (b10 1), .ref (b10 2)])), (b10 1, .inl (cI, 3, .inl (gsP groups0))), (b10 2, .inl (cI, 120, .inl (gsW groups0)))] : va_W) := hD
    refine lv_aload_n hx hb dX6_init_83 rfl (lv_at hl 0 rfl) ?_
    refine lv_aload_n hx hb dX6_init_84 rfl (lv_at hl 0 rfl) ?_
    refine va_get (D := D) (ci := 5) (v := .ref (b2 0)) (C := RX6) (T := TX6) (N := 10) hx hb hg in_X6 hown hK hP 0 rfl rfl 4 (by decide) (hg _ w136) (fun _ h9 => h9) rfl dX6_init_85 ?_
    refine va_put (D := D) (ci := 5) (v := .ref (b2 0)) (ty := (.object "Compactforms$Form")) (C := RX6) (T := TX6) (N := 10) hx hb hg in_X6 tyX6 tyX6_ok nmX6 hown hK hP hD hS 0 rfl rfl 9 (by decide) (hg _ w144) (fun _ h9 => h9) rfl (by decide +kernel) rfl rfl (Nat.le_of_ble_eq_true rfl) dX6_init_88 (fun H locs hP hD hS => ?_)
    replace hP : va_P D vwCl ([(h0, .inr (5, [.int 0, .int 0, .int (-1), .int 0, .ref (b2 0), .ref (b4 0), .ref (b6 0), .ref (b8 0), .ref (b10 0), .ref (b2 0)])), (b2 0, .inr (3, [.ref (b2 1), .ref (b2 2), .int (rwN row0)])), (b2 1, .inl (cI, 16, .inl (rwE row0))), (b2 2, .inl (cI, 16, .inl (rwP row0))), (b4 0, .inr (0, [.ref (b4 1), .ref (b4 2), .ref (b4 3), .int (chH chain0), .int (chS chain0)])), (b4 1, .inl (cI, 40, .inl (chE chain0))), (b4 2, .inl (cI, 40, .inl (chP chain0))), (b4 3, .inl (cI, 40, .inl (chX chain0))), (b6 0, .inr (4, [.ref (b6 1), .ref (b6 2), .ref (b6 3), .int (tbB table0), .int (tbC table0)])), (b6 1, .inl (cI, 64, .inl (tbH table0))), (b6 2, .inl (cI, 40, .inl (tbM table0))), (b6 3, .inl (cI, 40, .inl (tbX table0))), (b8 0, .inr (3, [.ref (b8 1), .ref (b8 2), .int (rwN row0)])), (b8 1, .inl (cI, 40, .inl (rwE row0))), (b8 2, .inl (cI, 40, .inl (rwP row0))), (b10 0, .inr (1, [.ref (b10 1), .ref (b10 2)])), (b10 1, .inl (cI, 3, .inl (gsP groups0))), (b10 2, .inl (cI, 120, .inl (gsW groups0)))] : va_W) H := hP
    replace hD : va_D A ([(h0, .inr (5, [.int 0, .int 0, .int (-1), .int 0, .ref (b2 0), .ref (b4 0), .ref (b6 0), .ref (b8 0), .ref (b10 0), .ref (b2 0)])), (b2 0, .inr (3, [.ref (b2 1), .ref (b2 2), .int (rwN row0)])), (b2 1, .inl (cI, 16, .inl (rwE row0))), (b2 2, .inl (cI, 16, .inl (rwP row0))), (b4 0, .inr (0, [.ref (b4 1), .ref (b4 2), .ref (b4 3), .int (chH chain0), .int (chS chain0)])), (b4 1, .inl (cI, 40, .inl (chE chain0))), (b4 2, .inl (cI, 40, .inl (chP chain0))), (b4 3, .inl (cI, 40, .inl (chX chain0))), (b6 0, .inr (4, [.ref (b6 1), .ref (b6 2), .ref (b6 3), .int (tbB table0), .int (tbC table0)])), (b6 1, .inl (cI, 64, .inl (tbH table0))), (b6 2, .inl (cI, 40, .inl (tbM table0))), (b6 3, .inl (cI, 40, .inl (tbX table0))), (b8 0, .inr (3, [.ref (b8 1), .ref (b8 2), .int (rwN row0)])), (b8 1, .inl (cI, 40, .inl (rwE row0))), (b8 2, .inl (cI, 40, .inl (rwP row0))), (b10 0, .inr (1, [.ref (b10 1), .ref (b10 2)])), (b10 1, .inl (cI, 3, .inl (gsP groups0))), (b10 2, .inl (cI, 120, .inl (gsW groups0)))] : va_W) := hD
    exact W.vret hx hb hr (fun t ht hW => ⟨(fun j => match j with | 0 => h0 | 1 => b2 0 | 2 => b2 1 | 3 => b2 2 | 4 => b4 0 | 5 => b4 1 | 6 => b4 2 | 7 => b4 3 | 8 => b6 0 | 9 => b6 1 | 10 => b6 2 | 11 => b6 3 | 12 => b8 0 | 13 => b8 1 | 14 => b8 2 | 15 => b10 0 | 16 => b10 1 | _ => b10 2), rfl, rfl, by rw [ht]; exact hP.sub [0, 1, 2, 3, 4, 5, 6, 7, 8, 9, 10, 11, 12, 13, 14, 15, 16, 17] rfl, va_K.moved hW.alike hK, hD.sub [0, 1, 2, 3, 4, 5, 6, 7, 8, 9, 10, 11, 12, 13, 14, 15, 16, 17] (by decide) rfl, hS.F ht⟩) hS.2.2 dX6_init_91 hlocks
  exact M0 s.heap [] ls hP hD hS hl

/-! throwing calls out of a world in any order; the world of the server with the law's row of answers; the law's whole world -/
section CQ
variable {p : Program} {l : Launch} {e : Env} {R : Room} {s : State} {m : MethodId} {args : Array Value} {below : List Frame} {meth : Method} {c : Code} {H : Heap} {locs : List Loc} {cells slots : Nat} {Q : State → Prop}
variable {pc : Nat} {ls : Array Slot} {rest st0 : List Value} {a : Array Value} {A0 A : Nat → Prop} {D : va_G} {tys : List (ClassId × FieldType)} {ws wc w1 ws' : va_W} {rv : Option Value} {rs : Option Value ⊕ String} {mc ms : Nat}
variable {y : MethodName} {b cc : ByteArray} {ml nL n index : Nat} {ret : Option FieldType} {rm : Room} {own C : String} {h0 : Addr} {As : List Value} {c0 : Cond}
theorem k_VXP (S : CallFix p m c cc nL s args (c0 :: GW) own) (hM : MX l y b ml ret rm D tys wc w1 (.ref h0 :: As) rs) (h1 : Cond.methodLink own index y ∈ GW) (h2 : Cond.instanceMethod y ∈ GW) (h3 : Cond.selects C y y ∈ GW) (h4 : Cond.initialized C ∈ GW) (h5 : Cond.code y b ml ret ∈ GW)
    (hd : y.cls = C ∧ y.cls ≠ "java/lang/invoke/MethodHandle" ∧ y.cls ≠ "java/lang/invoke/VarHandle" ∧ (parseMethodDescriptor y.desc).map (fun d => d.parameters.length) = some n) (hRm : rm.frames + 1 ≤ R.frames ∧ 8 + (ml + 11) + rm.locals ≤ R.locals)
    (hK : va_K D vwCl tys s) (hE : EV A0 s) (hP : va_P D vwCl ws H) (hD : va_D A0 ws) (hS : va_S A0 s.heap H locs) (hA : ∀ q, s.heap.size ≤ q → A0 q) (hc : CutP ws wc w1 ws')
    (q0 ci : Nat) {vc : vw_C} {fs : List Value} (hci : vwCl[ci]? = some vc) (hvc : vc.1 = C) (hq0 : wc[q0]? = some (h0, .inr (ci, fs))) (hn : As.length = n) (hls : ls.size = nL) (hst : st0 = As.reverse ++ .ref h0 :: rest) (hroom : (rest.map fun v => v.category).sum ≤ 8)
    (hdg : decode cc pc = .ok (.invokevirtual index, 3)) (hf : cells + rm.cells ≤ R.cells ∧ slots + rm.slots ≤ R.slots)
    (kx : ∀ (E : String) (ce : Cell) (q9 : Addr) (H1 : Heap) (locs1 : List Loc), rs = .inr E → va_P D vwCl ws' H1 → va_D A0 ws' → va_S A0 s.heap H1 locs1 → H1[q9]? = some ce → ce.vm = .none → s.vm.findClass E = some ce.cls → vx_W p l e R s m args below meth c H1 locs1 (cells + rm.cells) (slots + rm.slots) Q (F0 m pc ls rest) q9)
    (kk : ∀ (rv : Option Value) (H1 : Heap) (locs1 : List Loc), rs = .inl rv → va_P D vwCl ws' H1 → va_D A0 ws' → va_S A0 s.heap H1 locs1 → W p l e R s m args below meth c H1 locs1 (cells + rm.cells) (slots + rm.slots) Q (F0 m (pc + 3) ls (rv.toList ++ rest))) :
    W p l e R s m args below meth c H locs cells slots Q (F0 m pc ls st0) := by
  obtain ⟨wr, p1, p2⟩ := hc
  have hq9 : (wc ++ wr)[q0]? = some (h0, .inr (ci, fs)) := by
    rw [List.getElem?_append_left (List.getElem?_eq_some_iff.mp hq0).1]; exact hq0
  exact k_VX S hM h1 h2 h3 h4 h5 hd hRm hK hE (hP.perm p1) (hD.perm p1) hS hA (Cut.app wc wr w1) q0 ci hci hvc hq9 hn hls hst hroom hdg hf (fun E ce q9 H1 locs1 g0 g1 g2 g3 => kx E ce q9 H1 locs1 g0 (g1.perm p2) (g2.perm p2) g3) (fun rv H1 locs1 g0 g1 g2 g3 => kk rv H1 locs1 g0 (g1.perm p2) (g2.perm p2) g3)
theorem gd_SW {c0 : Cond} {own : String} {idx ml : Nat} {y : MethodName} {b : ByteArray} {ret : Option FieldType} {hh : List (Nat × Nat × Nat × Nat)} (h1 : Cond.methodLink own idx y ∈ GW) (h2 : Cond.static y ∈ GW) (h4 : Cond.initialized y.cls ∈ GW) (h5 : Cond.codeWith y b ml ret hh ∈ GW) :
    GoodIn (c0 :: GW) (va_wsS own idx y (.codeWith y b ml ret hh :: GW)) := by
  refine gd_app ?_ (gd_code h5)
  intro w hw
  simp only [List.mem_cons, List.not_mem_nil, or_false] at hw
  rcases hw with e | e | e <;> rw [e] <;> assumption
/-- invokestatic of a method with handlers that throws nothing -/
theorem k_SWP {hh : List (Nat × Nat × Nat × Nat)} {v9 : Int32} (S : CallFix p m c cc nL s args (c0 :: GW) own) (hM : MXW l y b ml ret hh rm D tys wc w1 As (.inl (some (.int v9)))) (h1 : Cond.methodLink own index y ∈ GW) (h2 : Cond.static y ∈ GW) (h4 : Cond.initialized y.cls ∈ GW) (h5 : Cond.codeWith y b ml ret hh ∈ GW)
    (hd : y.cls ≠ "java/lang/invoke/MethodHandle" ∧ y.cls ≠ "java/lang/invoke/VarHandle" ∧ (parseMethodDescriptor y.desc).map (fun d => d.parameters.length) = some n) (hRm : rm.frames + 1 ≤ R.frames ∧ 8 + (ml + 11) + rm.locals ≤ R.locals)
    (hK : va_K D vwCl tys s) (hE : EV A0 s) (hP : va_P D vwCl ws H) (hD : va_D A0 ws) (hS : va_S A0 s.heap H locs) (hA : ∀ q, s.heap.size ≤ q → A0 q) (hc : CutP ws wc w1 ws')
    (hn : As.length = n) (hls : ls.size = nL) (hst : st0 = As.reverse ++ rest) (hroom : (rest.map fun v => v.category).sum ≤ 8)
    (hdg : decode cc pc = .ok (.invokestatic index, 3)) (hf : cells + rm.cells ≤ R.cells ∧ slots + rm.slots ≤ R.slots)
    (kk : ∀ (H1 : Heap) (locs1 : List Loc), va_P D vwCl ws' H1 → va_D A0 ws' → va_S A0 s.heap H1 locs1 → W p l e R s m args below meth c H1 locs1 (cells + rm.cells) (slots + rm.slots) Q (F0 m (pc + 3) ls (.int v9 :: rest))) :
    W p l e R s m args below meth c H locs cells slots Q (F0 m pc ls st0) := by
  obtain ⟨wr, p1, p2⟩ := hc
  refine k_callX (a := As.toArray) (vx_runSX S (hM H.size) (vx_cwSW n S.2.2.2.2 (gd_SW h1 h2 h4 h5) rfl rfl rfl hd hRm) ⟨pw_blind, k_pre hK hE (hP.perm p1) (hD.perm p1) hS hA (Cut.app wc wr w1) _⟩ rfl hn hls hst (by simpa using hroom) hdg hf) (hP.perm p1) (hD.perm p1) hS hA (Cut.app wc wr w1) (fun E ce q9 H1 locs1 g0 => nomatch g0) (fun rv H1 locs1 g0 g1 g2 g3 => ?_)
  cases Sum.inl.inj g0
  exact kk H1 locs1 (g1.perm p2) (g2.perm p2) g3
end CQ
abbrev ZSt : Type := SSt × OL
def zS (x : ZSt) : SSt := x.1
def zO (x : ZSt) : OL := x.2
def zS_s (x : ZSt) (v : SSt) : ZSt := (v, x.2)
def zO_s (x : ZSt) (v : OL) : ZSt := (x.1, v)
def W_SO (cI cV cJ : ClassId) (vf : Nat → Option Nat) (a : Nat → Nat) (ad : Nat → Nat → Nat) (ao : Nat) (x : ZSt) : va_W := (ao, .inl (cJ, 1, .inr (.inl (zO x)))) :: W_S cI cV vf a ad (zS x)
theorem cut_SO {cI cV cJ : ClassId} {vf : Nat → Option Nat} {a : Nat → Nat} {ad : Nat → Nat → Nat} {ao : Nat} (x : ZSt) (u : SSt) : CutP (W_SO cI cV cJ vf a ad ao x) (W_S cI cV vf a ad (zS x)) (W_S cI cV vf a ad u) (W_SO cI cV cJ vf a ad ao (zS_s x u)) :=
  ⟨([(ao, .inl (cJ, 1, .inr (.inl (zO x))))] : va_W), List.perm_append_comm (l₁ := ([(ao, .inl (cJ, 1, .inr (.inl (zO x))))] : va_W)) (l₂ := W_S cI cV vf a ad (zS x)), List.Perm.refl _⟩
/-! CompactformsLaw.sample(LCompactforms;I[J)I -/
def fL_sample (x : ZSt) (p1 : Int32) : Option (ZSt × Int32) := (fX7_sample (zS x) p1).bind (fun u1 => keep (zS_s x u1.1) (fun x6 => thr u1.2 (fun k3 => if k3 = 1 then some (x6, 1) else none) (fun r4 => chk (inb 0 1) (keep (zO_s x6 (vp_updL (zO x6) (0 : Int32).toNatClampNeg (r4).toInt64)) (fun x8 => some (x8, 0))))))
set_option maxHeartbeats 4000000 in
set_option maxRecDepth 100000 in
theorem met_L_sample {D : va_G} {cI cV cJ cD : ClassId} (l : Launch) (hlt : l.stackTraces = false) (vf : Nat → Option Nat) (ad : Nat → Nat → Nat) (ao : Nat) (a : Nat → Nat) (hvf : ∀ k, k < 16 → vf k = some (ad k 0)) (x : ZSt) (p1 : Int32) (res : ZSt × Int32) (hf : fL_sample x p1 = some res) : MXW l yL_sample cL_sample 4 (some .int) [(0, 9, 12, 15)] { frames := 8, cells := 1, slots := 6, locals := 149 } D (TY cI cV cJ cD) (W_SO cI cV cJ vf a ad ao x) (W_SO cI cV cJ vf a ad ao res.1) [.ref (a 0), .int p1, .ref (ao)] (.inl (some (.int res.2))) := by
  intro sz
  refine vx_ofWH (cc := cL_sample) (maxL := 4) (ret := (some .int)) (hh := [(0, 9, 12, 15)]) (by decide +kernel) rfl ?_
  intro p e s m args below meth c s₁ B hml hv
  obtain ⟨rfl, hsz, hP, hK, hD0, hE⟩ := hv
  have hx := B.exec
  have hb := B.bytes
  have hr := B.returns
  have hts := atoms_spec (ws := .codeWith yL_sample cL_sample 4 (some .int) [(0, 9, 12, 15)] :: GW) B.pre
  have hg : ∀ w ∈ GW, w.before (([.ref (a 0), .int p1, .ref (ao)] : List Value).toArray) s = true := fun w h => hts w (List.mem_cons_of_mem _ h)
  have hown : s.vm.findClass RL = some m.cls := findClass_of_methodNamed B.named
  have hlocks := B.notSynchronized
  have htab : c.exceptionTable.toList = [⟨0, 9, 12, 15⟩] := vx_table (x := yL_sample) B (hts _ List.mem_cons_self)
  subst hsz
  have hD := hD0.self (sz := s.heap.size)
  generalize hAe : va_A (W_SO cI cV cJ vf a ad ao x) s.heap.size = A at hD hE ⊢
  have hA : ∀ q : Nat, s.heap.size ≤ q → A q := fun q h => by rw [← hAe]; exact Or.inr h
  have hS : va_S A s.heap s.heap [] := va_S.rf
  have hl := lv_entry ([.ref (a 0), .int p1, .ref (ao)]) (n := 4) (Nat.le_of_ble_eq_true rfl)
  rw [lg_entry_eq]
  generalize (lg_sl ([.ref (a 0), .int p1, .ref (ao)]) ++ List.replicate (4 - (lg_sl ([.ref (a 0), .int p1, .ref (ao)])).length) Slot.unset).toArray = ls at hl ⊢
  have hl : lv_has ls 4 [(0, .ref (a 0)), (1, .int p1), (2, .ref (ao))] := hl
  have M0 : ∀ (H : Heap) (locs : List Loc) (ls : Array Slot), fL_sample x p1 = some res → va_P D vwCl (W_SO cI cV cJ vf a ad ao x) H → va_D A (W_SO cI cV cJ vf a ad ao x) → va_S A s.heap H locs → lv_has ls 4 [(0, .ref (a 0)), (1, .int p1), (2, .ref (ao))] → W p l e ({ frames := 8, cells := 1, slots := 6, locals := 149 } : Room) s m ([.ref (a 0), .int p1, .ref (ao)] : List Value).toArray below meth c H locs 0 0 (vx_MQ below (QR D (TY cI cV cJ cD) (W_SO cI cV cJ vf a ad ao res.1) A (.inl (some (.int res.2)))) (XR D (TY cI cV cJ cD) (W_SO cI cV cJ vf a ad ao res.1) A (.inl (some (.int res.2)))) (([.ref (a 0), .int p1, .ref (ao)] : List Value).toArray) s 1 6 A) (F0 m 0 ls []) := by
    intro H locs ls hf hP hD hS hl
    dsimp only [fL_sample] at hf
    refine lv_aload_n hx hb dL_sample_0 rfl (lv_at hl 2 rfl) ?_
    refine lv_iconst (v := 0) hx hb dL_sample_1 (by decide) ?_
    refine lv_aload_n hx hb dL_sample_2 rfl (lv_at hl 0 rfl) ?_
    refine lv_iload_n hx hb dL_sample_3 rfl (lv_at hl 1 rfl) ?_
    obtain ⟨u1, hc2, hf⟩ := bind_t hf
    try dsimp only at hf
    obtain ⟨x6, hx6⟩ : ∃ z, z = (zS_s x u1.1) := ⟨_, rfl⟩
    replace hf := keep_e hf x6 hx6
    refine k_VXP (As := [.int p1]) (rest := [.int 0, .ref (ao)]) (n := 1) ⟨hx, hb, hml, hown, hts⟩ (met_X7_sample l hlt vf ad a hvf (zS x) p1 u1 hc2) w704 w705 w706 w1 w707 ⟨rfl, by decide +kernel, by decide +kernel, by decide +kernel⟩ ⟨Nat.le_of_ble_eq_true rfl, Nat.le_of_ble_eq_true rfl⟩ hK hE hP hD hS hA (ws' := W_SO cI cV cJ vf a ad ao (zS_s x u1.1)) (cut_SO x u1.1) 0 6 rfl rfl rfl rfl hl.1 rfl (Nat.le_of_ble_eq_true rfl) dL_sample_4 ⟨Nat.le_of_ble_eq_true rfl, Nat.le_of_ble_eq_true rfl⟩ (fun E ce q9 H locs h5 hP hD hS hce hcv hcl => ?_) (fun rv9 H locs h5 hP hD hS => ?_)
    · obtain ⟨k3, hq9, hE9⟩ := rsI_x h5
      replace hf := thr_x hf hq9
      by_cases hk9 : k3 = 1
      · subst hk9
        replace hf := if_t rfl hf
        have hP : va_P D vwCl (W_SO cI cV cJ vf a ad ao x6) H := by rw [hx6]; exact hP
        have hD : va_D A (W_SO cI cV cJ vf a ad ao x6) := by rw [hx6]; exact hD
        have hE9 : E = "java/lang/IllegalArgumentException" := hE9
        subst hE9
        refine vx_catch (own := RL) (name := "java/lang/IllegalArgumentException") hown [] ⟨0, 9, 12, 15⟩ [] htab (fun _ h => absurd h List.not_mem_nil) (by decide) (by decide) (hg _ w443) (va_Nw.use rfl (hE.1.2.2.2.2.1 _ (List.mem_of_getElem? (i := 1) rfl))) hce hcv hcl ?_
        refine W.eq (g2 := F0 m 12 ls [.ref q9]) rfl ?_
        refine lv_astore_n (lv' := [(3, .ref q9), (0, .ref (a 0)), (1, .int p1), (2, .ref (ao))]) hx hb dL_sample_12 rfl hl (by decide) rfl (fun ls hl => ?_)
        refine lv_iconst (v := 1) hx hb dL_sample_13 (by decide) ?_
        obtain rfl := Option.some.inj hf
        refine vx_ret ?_
        exact W.iret (v := 1) hx hb hr (fun t ht hW => ⟨_, rfl, ⟨rfl, by rw [ht]; exact hP, va_K.moved hW.alike hK, hD, hS.F ht⟩⟩) hS.2.2 dL_sample_14 hlocks
      replace hf := if_f hk9 hf
      cases hf
    obtain ⟨r4, hq9, rfl⟩ := rsI_v h5
    replace hf := thr_v hf hq9
    have hP : va_P D vwCl (W_SO cI cV cJ vf a ad ao x6) H := by rw [hx6]; exact hP
    have hD : va_D A (W_SO cI cV cJ vf a ad ao x6) := by rw [hx6]; exact hD
    refine W.eq (g2 := F0 m 7 ls [.int r4, .int 0, .ref (ao)]) rfl ?_
    refine lv_i2l (v := (r4).toInt64) hx hb dL_sample_7 rfl ?_
    obtain ⟨hi7, hf⟩ := chk_t hf
    refine va_last hx hb hK hP hD hS 0 2 rfl rfl (inb_in hi7) dL_sample_8 (fun H locs hP hD hS => ?_)
    obtain ⟨x8, hx8⟩ : ∃ z, z = (zO_s x6 (vp_updL (zO x6) (0 : Int32).toNatClampNeg (r4).toInt64)) := ⟨_, rfl⟩
    replace hf := keep_e hf x8 hx8
    have hP : va_P D vwCl (W_SO cI cV cJ vf a ad ao x8) H := by rw [hx8]; exact hP
    have hD : va_D A (W_SO cI cV cJ vf a ad ao x8) := by rw [hx8]; exact hD
    refine lv_goto (tgt := 15) hx hb dL_sample_9 (by decide) ?_
    refine lv_iconst (v := 0) hx hb dL_sample_15 (by decide) ?_
    obtain rfl := Option.some.inj hf
    refine vx_ret ?_
    exact W.iret (v := 0) hx hb hr (fun t ht hW => ⟨_, rfl, ⟨rfl, by rw [ht]; exact hP, va_K.moved hW.alike hK, hD, hS.F ht⟩⟩) hS.2.2 dL_sample_16 hlocks
  exact M0 s.heap [] ls hf hP hD hS hl

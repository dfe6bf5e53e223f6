/-! methods that read the script; draw and server -/
def PX (D : va_G) (tys : List (ClassId × FieldType)) (b L : Nat) (xs : Nat → Int32) (sz : Nat) (U : State) : Prop := PW D tys [] sz U ∧ va_X b L xs U U.heap ∧ b < sz
def MR (l : Launch) (y : MethodName) (bb : ByteArray) (ml : Nat) (ret : Option FieldType) (rm : Room) (D : va_G) (tys : List (ClassId × FieldType)) (b L : Nat) (xs : Nat → Int32) (av : List Value) (rv : Option Value) : Prop :=
  ∀ sz, Met l y (.code y bb ml ret :: GW) rm (va_Pc av (PX D tys b L xs sz)) (QW D tys [] (va_A [] sz) rv) rm.cells rm.slots (va_A [] sz)
theorem px_blind {D : va_G} {tys : List (ClassId × FieldType)} {b L : Nat} {xs : Nat → Int32} {av : List Value} {sz : Nat} : FrameBlind (va_Pc av (PX D tys b L xs sz)) := by
  intro a U g mk h
  obtain ⟨h0, h1, h2, h3⟩ := h
  have k := pw_blind (W := []) (av := av) a U g mk ⟨h0, h1⟩
  exact ⟨k.1, k.2, va_X.moved (u := U) (U := U.calling g mk a) (Vm.Alike.refl U.vm) h2, h3⟩
theorem va_Anil {sz q : Nat} (h : q < sz) : ¬ va_A [] sz q := by
  rintro (⟨k, e, h1⟩ | h1)
  · simp at h1
  · omega
section CSR
variable {p : Program} {l : Launch} {e : Env} {R : Room} {s : State} {m : MethodId} {args : Array Value} {below : List Frame} {meth : Method} {c : Code} {H : Heap} {locs : List Loc} {cells slots : Nat} {Q : State → Prop}
variable {pc : Nat} {ls : Array Slot} {rest st0 : List Value} {A0 : Nat → Prop} {D : va_G} {tys : List (ClassId × FieldType)} {ws : va_W} {rv : Option Value}
variable {y : MethodName} {bb cc : ByteArray} {ml nL n index b L : Nat} {xs : Nat → Int32} {ret : Option FieldType} {rm : Room} {own : String} {As : List Value} {c0 : Cond}
theorem k_SR (S : CallFix p m c cc nL s args (c0 :: GW) own) (hM : MR l y bb ml ret rm D tys b L xs As rv) (h1 : Cond.methodLink own index y ∈ GW) (h2 : Cond.static y ∈ GW) (h4 : Cond.initialized y.cls ∈ GW) (h5 : Cond.code y bb ml ret ∈ GW)
    (hd : y.cls ≠ "java/lang/invoke/MethodHandle" ∧ y.cls ≠ "java/lang/invoke/VarHandle" ∧ (parseMethodDescriptor y.desc).map (fun d => d.parameters.length) = some n) (hRm : rm.frames + 1 ≤ R.frames ∧ 8 + (ml + 11) + rm.locals ≤ R.locals)
    (hK : va_K D vwCl tys s) (hE : EV A0 s) (hP : va_P D vwCl ws H) (hD : va_D A0 ws) (hS : va_S A0 s.heap H locs) (hA : ∀ q, s.heap.size ≤ q → A0 q) (hX : va_X b L xs s s.heap) (hbl : b < s.heap.size) (hbA : ¬ A0 b)
    (hn : As.length = n) (hls : ls.size = nL) (hst : st0 = As.reverse ++ rest) (hroom : (rest.map fun v => v.category).sum ≤ 8)
    (hdg : decode cc pc = .ok (.invokestatic index, 3)) (hf : cells + rm.cells ≤ R.cells ∧ slots + rm.slots ≤ R.slots)
    (kk : ∀ (H1 : Heap) (locs1 : List Loc), va_P D vwCl ws H1 → va_D A0 ws → va_S A0 s.heap H1 locs1 → W p l e R s m args below meth c H1 locs1 (cells + rm.cells) (slots + rm.slots) Q (F0 m (pc + 3) ls (rv.toList ++ rest))) :
    W p l e R s m args below meth c H locs cells slots Q (F0 m pc ls st0) := by
  refine k_call (rv := rv) (a := As.toArray) (wc := []) (w1 := []) (va_runS S (hM H.size) (va_cwS n S.2.2.2.2 (gd_S2 h1 h2 h4 h5) rfl rfl rfl hd hRm) ⟨px_blind, fun U hU hW => ?_⟩ rfl hn hls hst (by simpa using hroom) hdg hf) hP hD hS hA (Cut.nil ws) kk
  obtain ⟨e1, e2⟩ := k_pre hK hE hP hD hS hA (Cut.nil ws) As U hU hW
  refine ⟨e1, e2, ?_, Nat.lt_of_lt_of_le hbl hS.1⟩
  rw [hU]
  exact va_X.moved hW.alike (hX.kept (hS.2.1 b hbl hbA))
end CSR
def fL_draw (L : Nat) (xs : Nat → Int32) (p1 p2 : Int32) : Option Int32 := (if (Int32.ofNat L) ≤ p1 then keep ((1003874759 * (p1 + 443)) + 667002355) (fun y2 => chk (decide (¬ p2 = 0)) (some (((y2 &&& 2147483647) - (y2 &&& 2147483647) / p2 * p2)))) else chk (inb p1 L) (keep (xs (p1).toNatClampNeg) (fun y5 => chk (decide (¬ p2 = 0)) (some (((y5 &&& 2147483647) - (y5 &&& 2147483647) / p2 * p2))))))
set_option maxHeartbeats 4000000 in
set_option maxRecDepth 100000 in
theorem met_L_draw {D : va_G} {cI cV cJ cD : ClassId} (l : Launch) (b L : Nat) (xs : Nat → Int32) (p1 p2 : Int32) (res : Int32) (hf : fL_draw L xs p1 p2 = some res) : MR l yL_draw cL_draw 4 (some .int) { frames := 0, cells := 0, slots := 0, locals := 0 } D (TY cI cV cJ cD) b L xs [.ref b, .int p1, .int p2] (some (.int res)) := by
  intro sz
  refine Met.ofW (cc := cL_draw) (maxL := 4) (ret := (some .int)) (by decide +kernel) rfl ?_
  intro p e s m args below meth c s₁ B hml hv
  obtain ⟨rfl, ⟨hsz, hP, hK, hD0, hE⟩, hX, hbl⟩ := hv
  have hx := B.exec
  have hb := B.bytes
  have hr := B.returns
  have hts := atoms_spec (ws := .code yL_draw cL_draw 4 (some .int) :: GW) B.pre
  have hg : ∀ w ∈ GW, w.before (([.ref b, .int p1, .int p2] : List Value).toArray) s = true := fun w h => hts w (List.mem_cons_of_mem _ h)
  have hown : s.vm.findClass RL = some m.cls := findClass_of_methodNamed B.named
  have hlocks := B.notSynchronized
  subst hsz
  have hbA := va_Anil hbl
  have hD := hD0.self (sz := s.heap.size)
  generalize hAe : va_A ([] : va_W) s.heap.size = A at hD hE hbA ⊢
  have hA : ∀ q : Nat, s.heap.size ≤ q → A q := fun q h => by rw [← hAe]; exact Or.inr h
  have hS : va_S A s.heap s.heap [] := va_S.rf
  have hl := lv_entry ([.ref b, .int p1, .int p2]) (n := 4) (Nat.le_of_ble_eq_true rfl)
  rw [lg_entry_eq]
  generalize (lg_sl ([.ref b, .int p1, .int p2]) ++ List.replicate (4 - (lg_sl ([.ref b, .int p1, .int p2])).length) Slot.unset).toArray = ls at hl ⊢
  have hl : lv_has ls 4 [(0, .ref b), (1, .int p1), (2, .int p2)] := hl
  have M0 : ∀ (H : Heap) (locs : List Loc) (ls : Array Slot), fL_draw L xs p1 p2 = some res → va_P D vwCl ([] : va_W) H → va_D A ([] : va_W) → va_S A s.heap H locs → lv_has ls 4 [(0, .ref b), (1, .int p1), (2, .int p2)] → W p l e ({ frames := 0, cells := 0, slots := 0, locals := 0 } : Room) s m ([.ref b, .int p1, .int p2] : List Value).toArray below meth c H locs 0 0 (MQ below (QW D (TY cI cV cJ cD) [] A (some (.int res))) (([.ref b, .int p1, .int p2] : List Value).toArray) s 0 0 A) (F0 m 0 ls []) := by
    intro H locs ls hf hP hD hS hl
    dsimp only [fL_draw] at hf
    refine lv_iload_n hx hb dL_draw_0 rfl (lv_at hl 1 rfl) ?_
    refine lv_aload_n hx hb dL_draw_1 rfl (lv_at hl 0 rfl) ?_
    refine va_slen hx hb hX hbl hbA hS dL_draw_2 ?_
    refine lv_icmp_ge (tgt := 12) hx hb dL_draw_3 (by decide) (fun c1 => ?_) (fun c1 => ?_)
    · replace hf := if_t c1 hf
      refine lv_ldc (own := RL) (v := 1003874759) hx hb hown (hg _ w196) dL_draw_12 ?_
      refine lv_iload_n hx hb dL_draw_14 rfl (lv_at hl 1 rfl) ?_
      refine lv_sipush (v := 443) hx hb dL_draw_15 (by decide) ?_
      refine lv_iadd hx hb dL_draw_18 ?_
      refine lv_imul hx hb dL_draw_19 ?_
      refine lv_ldc (own := RL) (v := 667002355) hx hb hown (hg _ w197) dL_draw_20 ?_
      refine lv_iadd hx hb dL_draw_22 ?_
      refine lv_topi (fun y2 hy2 => ?_)
      replace hf := keep_e hf y2 hy2
      refine lv_istore_n (lv' := [(3, .int y2), (0, .ref b), (1, .int p1), (2, .int p2)]) hx hb dL_draw_23 rfl hl (by decide) rfl (fun ls hl => ?_)
      refine lv_iload_n hx hb dL_draw_24 rfl (lv_at hl 0 rfl) ?_
      refine lv_ldc (own := RL) (v := 2147483647) hx hb hown (hg _ w198) dL_draw_25 ?_
      refine lv_iand hx hb dL_draw_27 ?_
      refine lv_iload_n hx hb dL_draw_28 rfl (lv_at hl 3 rfl) ?_
      obtain ⟨hz3, hf⟩ := chk_t hf
      refine lv_irem hx hb dL_draw_29 (of_decide_eq_true hz3) ?_
      obtain rfl := Option.some.inj hf
      exact W.iret (v := ((y2 &&& 2147483647) - (y2 &&& 2147483647) / p2 * p2)) hx hb hr (fun t ht hW => ⟨rfl, fun k q h => by simp at h, va_K.moved hW.alike hK, ⟨fun i j p q h => by simp at h, fun k q h => by simp at h⟩, hS.F ht⟩) hS.2.2 dL_draw_30 hlocks
    · replace hf := if_f c1 hf
      refine lv_aload_n hx hb dL_draw_6 rfl (lv_at hl 0 rfl) ?_
      refine lv_iload_n hx hb dL_draw_7 rfl (lv_at hl 1 rfl) ?_
      obtain ⟨hi4, hf⟩ := chk_t hf
      refine va_sld hx hb hX hbl hbA hS (inb_in hi4) dL_draw_8 ?_
      refine lv_topi (fun y5 hy5 => ?_)
      replace hf := keep_e hf y5 hy5
      refine lv_goto (tgt := 23) hx hb dL_draw_9 (by decide) ?_
      refine lv_istore_n (lv' := [(3, .int y5), (0, .ref b), (1, .int p1), (2, .int p2)]) hx hb dL_draw_23 rfl hl (by decide) rfl (fun ls hl => ?_)
      refine lv_iload_n hx hb dL_draw_24 rfl (lv_at hl 0 rfl) ?_
      refine lv_ldc (own := RL) (v := 2147483647) hx hb hown (hg _ w198) dL_draw_25 ?_
      refine lv_iand hx hb dL_draw_27 ?_
      refine lv_iload_n hx hb dL_draw_28 rfl (lv_at hl 3 rfl) ?_
      obtain ⟨hz6, hf⟩ := chk_t hf
      refine lv_irem hx hb dL_draw_29 (of_decide_eq_true hz6) ?_
      obtain rfl := Option.some.inj hf
      exact W.iret (v := ((y5 &&& 2147483647) - (y5 &&& 2147483647) / p2 * p2)) hx hb hr (fun t ht hW => ⟨rfl, fun k q h => by simp at h, va_K.moved hW.alike hK, ⟨fun i j p q h => by simp at h, fun k q h => by simp at h⟩, hS.F ht⟩) hS.2.2 dL_draw_30 hlocks
  exact M0 s.heap [] ls hf hP hD hS hl
def fL_server_141 (L : Nat) (xs : Nat → Int32) (p1 : Int32) (rec : QSt × Int32 → Option Int32) (x : QSt) (v4 : Int32) (s0 : Int32) : Option Int32 := chk (decide (((s0 : Int32).toNatClampNeg) < 16)) ((fL_isScanned ((s0 : Int32).toNatClampNeg) (foc ((s0 : Int32).toNatClampNeg) (qS x)) s0).bind (fun u1 => keep (qS_s x (unf ((s0 : Int32).toNatClampNeg) (qS x) u1.1)) (fun x4 => (if u1.2 = 0 then some 0 else keep (v4 + 1) (fun y6 => rec (x4, y6))))))
def fL_server_107 (L : Nat) (xs : Nat → Int32) (p1 : Int32) (rec : QSt × Int32 → Option Int32) (x : QSt) (v4 : Int32) (v5 : Int32) (s0 : Int32) : Option Int32 := chk (decide (((s0 : Int32).toNatClampNeg) < 16)) ((fL_isKey ((s0 : Int32).toNatClampNeg) (foc ((s0 : Int32).toNatClampNeg) (qS x)) s0).bind (fun u7 => keep (qS_s x (unf ((s0 : Int32).toNatClampNeg) (qS x) u7.1)) (fun x10 => (if u7.2 = 0 then some 0 else (if (v4 - v4 / 5 * 5) = 4 then (if (v4 - v4 / 2 * 2) = 0 then fL_server_141 L xs p1 rec x10 v4 1 else fL_server_141 L xs p1 rec x10 v4 ((v5 / 7) - (v5 / 7) / 16 * 16)) else keep (v4 + 1) (fun y13 => rec (x10, y13)))))))
def fL_server_15 (L : Nat) (xs : Nat → Int32) (p1 : Int32) (rec : QSt × Int32 → Option Int32) (s9 : QSt × Int32) : Option Int32 := match s9 with | (x, v4) => (if 84 ≤ v4 then (fL_restarts x ).bind (fun u16 => keep u16.1 (fun x18 => chk (isB u16.2) (some (u16.2)))) else (fL_draw L xs ((p1 + (3 * v4)) + 1) 1073741824).bind (fun u20 => (fL_draw L xs ((p1 + (3 * v4)) + 2) 1073741824).bind (fun u22 => (fL_draw L xs (p1 + (3 * v4)) 23).bind (fun u24 => (fL_step x u24 u20 u22).bind (fun u26 => keep (gqS u26.1, gqC u26.1) (fun x28 => (if u26.2 = 0 then some 0 else (if 12 ≤ ((u22 / 5) - (u22 / 5) / 16 * 16) then fL_server_107 L xs p1 rec x28 v4 u20 ((u22 / 5) - (u22 / 5) / 16 * 16) else fL_server_107 L xs p1 rec x28 v4 u20 ((u22 / 5) - (u22 / 5) / 4 * 4)))))))))
def fL_server (L : Nat) (xs : Nat → Int32) (p1 : Int32) : Option Int32 := iterK 85 (fL_server_15 L xs p1) ((server0, fun _ => 0), 0)
set_option maxHeartbeats 40000000 in
set_option maxRecDepth 100000 in
theorem server_loop {D : va_G} {cI cV cJ cD : ClassId} {p : Program} (l : Launch) (hlt : l.stackTraces = false) {e : Env} {s : State} {m : MethodId} {below : List Frame} {meth : Method} {c : Code} {b L : Nat} {xs : Nat → Int32} {p1 : Int32} {A : Nat → Prop} {c0 : Cond} (hx : p.tables.exec = Jvm.exec) (hb : c.code = cL_server) (hr : meth.sig.returnType = (some .boolean)) (hlocks : meth.locks = false) (hml : c.maxLocals = 7) (hown : s.vm.findClass RL = some m.cls) (hts : ∀ w ∈ c0 :: GW, w.before (([.ref b, .int p1] : List Value).toArray) s = true) (hK : va_K D vwCl (TY cI cV cJ cD) s) (hE : EV A s) (hA : ∀ q : Nat, s.heap.size ≤ q → A q) (hX : va_X b L xs s s.heap) (hbl : b < s.heap.size) (hbA : ¬ A b) {vf : Nat → Option Nat} {ad : Nat → Nat → Nat} (hvf : ∀ k, k < 16 → vf k = some (ad k 0)) (res : Int32) (hf : fL_server L xs p1 = some res) (h0 ac : Nat) (a : Nat → Nat) (ha : a 0 = h0) (H : Heap) (locs : List Loc) (ls : Array Slot) (hP : va_P D vwCl (W_Q cI cV vf a ad ac (server0, fun _ => 0)) H) (hD : va_D A (W_Q cI cV vf a ad ac (server0, fun _ => 0))) (hS : va_S A s.heap H locs) (hl : lv_has ls 7 [(0, .ref b), (1, .int p1), (2, .ref h0), (3, .ref ac), (4, .int 0)]) : W p l e ({ frames := 13, cells := 20997, slots := 137737, locals := 314 } : Room) s m ([.ref b, .int p1] : List Value).toArray below meth c H locs 295 12665 (MQ below (QW D (TY cI cV cJ cD) [] A (some (.int res))) (([.ref b, .int p1] : List Value).toArray) s 20997 137737 A) (F0 m 15 ls []) := by
  have hg : ∀ w ∈ GW, w.before (([.ref b, .int p1] : List Value).toArray) s = true := fun w h => hts w (List.mem_cons_of_mem _ h)
  have L141 : ∀ (rec : QSt × Int32 → Option Int32) (cb sb : Nat), cb + 241 ≤ 20997 → sb + 1456 ≤ 137737 → (∀ (a : Nat → Nat) (_ : a 0 = h0) (x : QSt) (v4 : Int32) (H : Heap) (locs : List Loc) (ls : Array Slot), rec (x, v4) = some res → va_P D vwCl (W_Q cI cV vf a ad ac x) H → va_D A (W_Q cI cV vf a ad ac x) → va_S A s.heap H locs → lv_has ls 7 [(0, .ref b), (1, .int p1), (2, .ref h0), (3, .ref ac), (4, .int v4)] → W p l e ({ frames := 13, cells := 20997, slots := 137737, locals := 314 } : Room) s m ([.ref b, .int p1] : List Value).toArray below meth c H locs (cb + 241) (sb + 1456) (MQ below (QW D (TY cI cV cJ cD) [] A (some (.int res))) (([.ref b, .int p1] : List Value).toArray) s 20997 137737 A) (F0 m 15 ls [])) → ∀ (a : Nat → Nat) (ha : a 0 = h0) (x : QSt) (v4 : Int32) (s0 : Int32) (H : Heap) (locs : List Loc) (ls : Array Slot), fL_server_141 L xs p1 rec x v4 s0  = some res → va_P D vwCl (W_Q cI cV vf a ad ac x) H → va_D A (W_Q cI cV vf a ad ac x) → va_S A s.heap H locs → lv_has ls 7 [(0, .ref b), (1, .int p1), (2, .ref h0), (3, .ref ac), (4, .int v4)] → W p l e ({ frames := 13, cells := 20997, slots := 137737, locals := 314 } : Room) s m ([.ref b, .int p1] : List Value).toArray below meth c H locs (cb + 229) (sb + 1384) (MQ below (QW D (TY cI cV cJ cD) [] A (some (.int res))) (([.ref b, .int p1] : List Value).toArray) s 20997 137737 A) (F0 m 141 ls [.int s0, .ref h0]) := by
    intro rec cb sb hcb hsb hrec a ha x v4 s0 H locs ls hf hP hD hS hl
    dsimp only [fL_server_141] at hf
    refine W.eq (g2 := F0 m 141 ls [.int s0, .ref (a 0)]) (by rw [show a 0 = h0 from ha]) ?_
    obtain ⟨hk3, hf⟩ := chk_t hf
    replace hk3 := of_decide_eq_true hk3
    obtain ⟨u1, hc2, hf⟩ := bind_t hf
    refine k_SP (ws' := W_Q cI cV vf a ad ac (qS_s x (unf ((s0 : Int32).toNatClampNeg) (qS x) u1.1))) (As := [.ref (a 0), .int s0]) (rest := []) (n := 2) ⟨hx, hb, hml, hown, hts⟩ (met_L_isScanned l hlt ((s0 : Int32).toNatClampNeg) vf (foA a (ad ((s0 : Int32).toNatClampNeg))) (hvf _ hk3) (foc ((s0 : Int32).toNatClampNeg) (qS x)) s0 u1 hc2) w790 w791 w0 w792 ⟨by decide +kernel, by decide +kernel, by decide +kernel⟩ ⟨Nat.le_of_ble_eq_true rfl, Nat.le_of_ble_eq_true rfl⟩ hK hE hP hD hS hA (cut_QF x hk3 u1.1) rfl hl.1 rfl (Nat.le_of_ble_eq_true rfl) dL_server_141 ⟨show cb + 229 + 12 ≤ 20997 by omega, show sb + 1384 + 72 ≤ 137737 by omega⟩ (fun H locs hP hD hS => ?_)
    try dsimp only at hf
    refine W.widen (k := cb + 241) (n := sb + 1456) (show cb + 229 + 12 ≤ cb + 241 by omega) (show sb + 1384 + 72 ≤ sb + 1456 by omega) ?_
    refine W.eq (g2 := F0 m 144 ls [.int u1.2]) rfl ?_
    obtain ⟨x4, hx4⟩ : ∃ z, z = (qS_s x (unf ((s0 : Int32).toNatClampNeg) (qS x) u1.1)) := ⟨_, rfl⟩
    replace hf := keep_e hf x4 hx4
    have hP : va_P D vwCl (W_Q cI cV vf a ad ac x4) H := by rw [hx4]; exact hP
    have hD : va_D A (W_Q cI cV vf a ad ac x4) := by rw [hx4]; exact hD
    refine lv_if_ne (tgt := 149) hx hb dL_server_144 (by decide) (fun c5 => ?_) (fun c5 => ?_)
    · replace hf := if_f c5 hf
      obtain ⟨y6, hy6⟩ : ∃ z : Int32, z = (v4 + 1) := ⟨_, rfl⟩
      replace hf := keep_e hf y6 hy6
      refine lv_iinc (v := y6) (lv' := [(4, .int y6), (0, .ref b), (1, .int p1), (2, .ref h0), (3, .ref ac)]) hx hb dL_server_149 hl (k := 4) rfl (by rw [hy6]; rfl) (by decide) rfl (fun ls hl => ?_)
      refine lv_goto (tgt := 15) hx hb dL_server_152 (by decide) ?_
      refine W.widen (k := cb + 241) (n := sb + 1456) (show cb + 241 ≤ cb + 241 by omega) (show sb + 1456 ≤ sb + 1456 by omega) ?_
      exact hrec a ha x4 y6 H locs ls hf hP hD hS (lv_sub hl [1, 2, 3, 4, 0] rfl)
    · replace hf := if_t c5 hf
      refine lv_iconst (v := 0) hx hb dL_server_147 (by decide) ?_
      obtain rfl := Option.some.inj hf
      refine W.widen (k := 20997) (n := 137737) (show cb + 241 ≤ 20997 by omega) (show sb + 1456 ≤ 137737 by omega) ?_
      exact W.zret (v := 0) hx hb hr (by decide +kernel) (fun t ht hW => ⟨rfl, fun k q h => by simp at h, va_K.moved hW.alike hK, ⟨fun i j p q h => by simp at h, fun k q h => by simp at h⟩, hS.F ht⟩) hS.2.2 dL_server_148 hlocks
  have L107 : ∀ (rec : QSt × Int32 → Option Int32) (cb sb : Nat), cb + 241 ≤ 20997 → sb + 1456 ≤ 137737 → (∀ (a : Nat → Nat) (_ : a 0 = h0) (x : QSt) (v4 : Int32) (H : Heap) (locs : List Loc) (ls : Array Slot), rec (x, v4) = some res → va_P D vwCl (W_Q cI cV vf a ad ac x) H → va_D A (W_Q cI cV vf a ad ac x) → va_S A s.heap H locs → lv_has ls 7 [(0, .ref b), (1, .int p1), (2, .ref h0), (3, .ref ac), (4, .int v4)] → W p l e ({ frames := 13, cells := 20997, slots := 137737, locals := 314 } : Room) s m ([.ref b, .int p1] : List Value).toArray below meth c H locs (cb + 241) (sb + 1456) (MQ below (QW D (TY cI cV cJ cD) [] A (some (.int res))) (([.ref b, .int p1] : List Value).toArray) s 20997 137737 A) (F0 m 15 ls [])) → ∀ (a : Nat → Nat) (ha : a 0 = h0) (x : QSt) (v4 : Int32) (v5 : Int32) (s0 : Int32) (H : Heap) (locs : List Loc) (ls : Array Slot), fL_server_107 L xs p1 rec x v4 v5 s0  = some res → va_P D vwCl (W_Q cI cV vf a ad ac x) H → va_D A (W_Q cI cV vf a ad ac x) → va_S A s.heap H locs → lv_has ls 7 [(0, .ref b), (1, .int p1), (2, .ref h0), (3, .ref ac), (4, .int v4), (5, .int v5)] → W p l e ({ frames := 13, cells := 20997, slots := 137737, locals := 314 } : Room) s m ([.ref b, .int p1] : List Value).toArray below meth c H locs (cb + 217) (sb + 1312) (MQ below (QW D (TY cI cV cJ cD) [] A (some (.int res))) (([.ref b, .int p1] : List Value).toArray) s 20997 137737 A) (F0 m 107 ls [.int s0, .ref h0]) := by
    intro rec cb sb hcb hsb hrec a ha x v4 v5 s0 H locs ls hf hP hD hS hl
    dsimp only [fL_server_107] at hf
    refine W.eq (g2 := F0 m 107 ls [.int s0, .ref (a 0)]) (by rw [show a 0 = h0 from ha]) ?_
    obtain ⟨hk9, hf⟩ := chk_t hf
    replace hk9 := of_decide_eq_true hk9
    obtain ⟨u7, hc8, hf⟩ := bind_t hf
    refine k_SP (ws' := W_Q cI cV vf a ad ac (qS_s x (unf ((s0 : Int32).toNatClampNeg) (qS x) u7.1))) (As := [.ref (a 0), .int s0]) (rest := []) (n := 2) ⟨hx, hb, hml, hown, hts⟩ (met_L_isKey l hlt ((s0 : Int32).toNatClampNeg) vf (foA a (ad ((s0 : Int32).toNatClampNeg))) (hvf _ hk9) (foc ((s0 : Int32).toNatClampNeg) (qS x)) s0 u7 hc8) w779 w780 w0 w781 ⟨by decide +kernel, by decide +kernel, by decide +kernel⟩ ⟨Nat.le_of_ble_eq_true rfl, Nat.le_of_ble_eq_true rfl⟩ hK hE hP hD hS hA (cut_QF x hk9 u7.1) rfl hl.1 rfl (Nat.le_of_ble_eq_true rfl) dL_server_107 ⟨show cb + 217 + 12 ≤ 20997 by omega, show sb + 1312 + 72 ≤ 137737 by omega⟩ (fun H locs hP hD hS => ?_)
    try dsimp only at hf
    refine W.widen (k := cb + 229) (n := sb + 1384) (show cb + 217 + 12 ≤ cb + 229 by omega) (show sb + 1312 + 72 ≤ sb + 1384 by omega) ?_
    refine W.eq (g2 := F0 m 110 ls [.int u7.2]) rfl ?_
    obtain ⟨x10, hx10⟩ : ∃ z, z = (qS_s x (unf ((s0 : Int32).toNatClampNeg) (qS x) u7.1)) := ⟨_, rfl⟩
    replace hf := keep_e hf x10 hx10
    have hP : va_P D vwCl (W_Q cI cV vf a ad ac x10) H := by rw [hx10]; exact hP
    have hD : va_D A (W_Q cI cV vf a ad ac x10) := by rw [hx10]; exact hD
    refine lv_if_eq (tgt := 147) hx hb dL_server_110 (by decide) (fun c11 => ?_) (fun c11 => ?_)
    · replace hf := if_t c11 hf
      refine lv_iconst (v := 0) hx hb dL_server_147 (by decide) ?_
      obtain rfl := Option.some.inj hf
      refine W.widen (k := 20997) (n := 137737) (show cb + 229 ≤ 20997 by omega) (show sb + 1384 ≤ 137737 by omega) ?_
      exact W.zret (v := 0) hx hb hr (by decide +kernel) (fun t ht hW => ⟨rfl, fun k q h => by simp at h, va_K.moved hW.alike hK, ⟨fun i j p q h => by simp at h, fun k q h => by simp at h⟩, hS.F ht⟩) hS.2.2 dL_server_148 hlocks
    · replace hf := if_f c11 hf
      refine lv_iload hx hb dL_server_113 (lv_at hl 4 rfl) ?_
      refine lv_iconst (v := 5) hx hb dL_server_115 (by decide) ?_
      refine lv_irem hx hb dL_server_116 (by decide) ?_
      refine lv_iconst (v := 4) hx hb dL_server_117 (by decide) ?_
      refine lv_icmp_ne (tgt := 149) hx hb dL_server_118 (by decide) (fun c12 => ?_) (fun c12 => ?_)
      · replace hf := if_f c12 hf
        obtain ⟨y13, hy13⟩ : ∃ z : Int32, z = (v4 + 1) := ⟨_, rfl⟩
        replace hf := keep_e hf y13 hy13
        refine lv_iinc (v := y13) (lv' := [(4, .int y13), (0, .ref b), (1, .int p1), (2, .ref h0), (3, .ref ac), (5, .int v5)]) hx hb dL_server_149 hl (k := 4) rfl (by rw [hy13]; rfl) (by decide) rfl (fun ls hl => ?_)
        refine lv_goto (tgt := 15) hx hb dL_server_152 (by decide) ?_
        refine W.widen (k := cb + 241) (n := sb + 1456) (show cb + 229 ≤ cb + 241 by omega) (show sb + 1384 ≤ sb + 1456 by omega) ?_
        exact hrec a ha x10 y13 H locs ls hf hP hD hS (lv_sub hl [1, 2, 3, 4, 0] rfl)
      · replace hf := if_t c12 hf
        refine lv_aload_n hx hb dL_server_121 rfl (lv_at hl 2 rfl) ?_
        refine lv_iload hx hb dL_server_122 (lv_at hl 4 rfl) ?_
        refine lv_iconst (v := 2) hx hb dL_server_124 (by decide) ?_
        refine lv_irem hx hb dL_server_125 (by decide) ?_
        refine lv_if_ne (tgt := 133) hx hb dL_server_126 (by decide) (fun c14 => ?_) (fun c14 => ?_)
        · replace hf := if_f c14 hf
          refine lv_iload hx hb dL_server_133 (lv_at hl 5 rfl) ?_
          refine lv_bipush (v := 7) hx hb dL_server_135 (by decide) ?_
          refine lv_idiv hx hb dL_server_137 (by decide) ?_
          refine lv_bipush (v := 16) hx hb dL_server_138 (by decide) ?_
          refine lv_irem hx hb dL_server_140 (by decide) ?_
          exact L141 rec cb sb hcb hsb hrec a ha x10 v4 ((v5 / 7) - (v5 / 7) / 16 * 16) H locs ls hf hP hD hS (lv_sub hl [0, 1, 2, 3, 4] rfl)
        · replace hf := if_t c14 hf
          refine lv_iconst (v := 1) hx hb dL_server_129 (by decide) ?_
          refine lv_goto (tgt := 141) hx hb dL_server_130 (by decide) ?_
          exact L141 rec cb sb hcb hsb hrec a ha x10 v4 1 H locs ls hf hP hD hS (lv_sub hl [0, 1, 2, 3, 4] rfl)
  have L15 : ∀ (rec : QSt × Int32 → Option Int32) (cb sb : Nat), cb + 241 ≤ 20997 → sb + 1456 ≤ 137737 → (∀ (a : Nat → Nat) (_ : a 0 = h0) (x : QSt) (v4 : Int32) (H : Heap) (locs : List Loc) (ls : Array Slot), rec (x, v4) = some res → va_P D vwCl (W_Q cI cV vf a ad ac x) H → va_D A (W_Q cI cV vf a ad ac x) → va_S A s.heap H locs → lv_has ls 7 [(0, .ref b), (1, .int p1), (2, .ref h0), (3, .ref ac), (4, .int v4)] → W p l e ({ frames := 13, cells := 20997, slots := 137737, locals := 314 } : Room) s m ([.ref b, .int p1] : List Value).toArray below meth c H locs (cb + 241) (sb + 1456) (MQ below (QW D (TY cI cV cJ cD) [] A (some (.int res))) (([.ref b, .int p1] : List Value).toArray) s 20997 137737 A) (F0 m 15 ls [])) → ∀ (a : Nat → Nat) (ha : a 0 = h0) (x : QSt) (v4 : Int32) (H : Heap) (locs : List Loc) (ls : Array Slot), fL_server_15 L xs p1 rec (x, v4) = some res → va_P D vwCl (W_Q cI cV vf a ad ac x) H → va_D A (W_Q cI cV vf a ad ac x) → va_S A s.heap H locs → lv_has ls 7 [(0, .ref b), (1, .int p1), (2, .ref h0), (3, .ref ac), (4, .int v4)] → W p l e ({ frames := 13, cells := 20997, slots := 137737, locals := 314 } : Room) s m ([.ref b, .int p1] : List Value).toArray below meth c H locs (cb + 0) (sb + 0) (MQ below (QW D (TY cI cV cJ cD) [] A (some (.int res))) (([.ref b, .int p1] : List Value).toArray) s 20997 137737 A) (F0 m 15 ls []) := by
    intro rec cb sb hcb hsb hrec a ha x v4 H locs ls hf hP hD hS hl
    dsimp only [fL_server_15] at hf
    refine lv_iload hx hb dL_server_15 (lv_at hl 4 rfl) ?_
    refine lv_bipush (v := 84) hx hb dL_server_17 (by decide) ?_
    refine lv_icmp_ge (tgt := 155) hx hb dL_server_19 (by decide) (fun c15 => ?_) (fun c15 => ?_)
    · replace hf := if_t c15 hf
      refine lv_aload_n hx hb dL_server_155 rfl (lv_at hl 2 rfl) ?_
      refine lv_aload_n hx hb dL_server_156 rfl (lv_at hl 3 rfl) ?_
      refine W.eq (g2 := F0 m 157 ls [.ref ac, .ref (a 0)]) (by rw [show a 0 = h0 from ha]) ?_
      obtain ⟨u16, hc17, hf⟩ := bind_t hf
      refine k_SP (ws' := W_Q cI cV vf a ad ac u16.1) (As := [.ref (a 0), .ref ac]) (rest := []) (n := 2) ⟨hx, hb, hml, hown, hts⟩ (met_L_restarts l hlt vf ad a ac hvf x  u16 hc17) w735 w736 w0 w737 ⟨by decide +kernel, by decide +kernel, by decide +kernel⟩ ⟨Nat.le_of_ble_eq_true rfl, Nat.le_of_ble_eq_true rfl⟩ hK hE hP hD hS hA (CutP_self _ _) rfl hl.1 rfl (Nat.le_of_ble_eq_true rfl) dL_server_157 ⟨show cb + 0 + 217 ≤ 20997 by omega, show sb + 0 + 1312 ≤ 137737 by omega⟩ (fun H locs hP hD hS => ?_)
      try dsimp only at hf
      refine W.widen (k := cb + 217) (n := sb + 1312) (show cb + 0 + 217 ≤ cb + 217 by omega) (show sb + 0 + 1312 ≤ sb + 1312 by omega) ?_
      refine W.eq (g2 := F0 m 160 ls [.int u16.2]) rfl ?_
      obtain ⟨x18, hx18⟩ : ∃ z, z = u16.1 := ⟨_, rfl⟩
      replace hf := keep_e hf x18 hx18
      have hP : va_P D vwCl (W_Q cI cV vf a ad ac x18) H := by rw [hx18]; exact hP
      have hD : va_D A (W_Q cI cV vf a ad ac x18) := by rw [hx18]; exact hD
      obtain ⟨hz19, hf⟩ := chk_t hf
      obtain rfl := Option.some.inj hf
      refine W.widen (k := 20997) (n := 137737) (show cb + 217 ≤ 20997 by omega) (show sb + 1312 ≤ 137737 by omega) ?_
      exact W.zret (v := u16.2) hx hb hr (isB_narrow hz19) (fun t ht hW => ⟨rfl, fun k q h => by simp at h, va_K.moved hW.alike hK, ⟨fun i j p q h => by simp at h, fun k q h => by simp at h⟩, hS.F ht⟩) hS.2.2 dL_server_160 hlocks
    · replace hf := if_f c15 hf
      refine lv_aload_n hx hb dL_server_22 rfl (lv_at hl 0 rfl) ?_
      refine lv_iload_n hx hb dL_server_23 rfl (lv_at hl 1 rfl) ?_
      refine lv_iconst (v := 3) hx hb dL_server_24 (by decide) ?_
      refine lv_iload hx hb dL_server_25 (lv_at hl 4 rfl) ?_
      refine lv_imul hx hb dL_server_27 ?_
      refine lv_iadd hx hb dL_server_28 ?_
      refine lv_iconst (v := 1) hx hb dL_server_29 (by decide) ?_
      refine lv_iadd hx hb dL_server_30 ?_
      refine lv_ldc (own := RL) (v := 1073741824) hx hb hown (hg _ w192) dL_server_31 ?_
      obtain ⟨u20, hc21, hf⟩ := bind_t hf
      refine k_SR (As := [.ref b, .int ((p1 + (3 * v4)) + 1), .int 1073741824]) (rest := []) (n := 3) ⟨hx, hb, hml, hown, hts⟩ (met_L_draw l b L xs ((p1 + (3 * v4)) + 1) 1073741824 u20 hc21) w193 w194 w0 w195 ⟨by decide +kernel, by decide +kernel, by decide +kernel⟩ ⟨Nat.le_of_ble_eq_true rfl, Nat.le_of_ble_eq_true rfl⟩ hK hE hP hD hS hA hX hbl hbA rfl hl.1 rfl (Nat.le_of_ble_eq_true rfl) dL_server_33 ⟨show cb + 0 + 0 ≤ 20997 by omega, show sb + 0 + 0 ≤ 137737 by omega⟩ (fun H locs hP hD hS => ?_)
      refine W.eq (g2 := F0 m 36 ls [.int u20]) rfl ?_
      refine lv_istore (lv' := [(5, .int u20), (0, .ref b), (1, .int p1), (2, .ref h0), (3, .ref ac), (4, .int v4)]) hx hb dL_server_36 hl (by decide) rfl (fun ls hl => ?_)
      refine lv_aload_n hx hb dL_server_38 rfl (lv_at hl 1 rfl) ?_
      refine lv_iload_n hx hb dL_server_39 rfl (lv_at hl 2 rfl) ?_
      refine lv_iconst (v := 3) hx hb dL_server_40 (by decide) ?_
      refine lv_iload hx hb dL_server_41 (lv_at hl 5 rfl) ?_
      refine lv_imul hx hb dL_server_43 ?_
      refine lv_iadd hx hb dL_server_44 ?_
      refine lv_iconst (v := 2) hx hb dL_server_45 (by decide) ?_
      refine lv_iadd hx hb dL_server_46 ?_
      refine lv_ldc (own := RL) (v := 1073741824) hx hb hown (hg _ w192) dL_server_47 ?_
      obtain ⟨u22, hc23, hf⟩ := bind_t hf
      refine k_SR (As := [.ref b, .int ((p1 + (3 * v4)) + 2), .int 1073741824]) (rest := []) (n := 3) ⟨hx, hb, hml, hown, hts⟩ (met_L_draw l b L xs ((p1 + (3 * v4)) + 2) 1073741824 u22 hc23) w193 w194 w0 w195 ⟨by decide +kernel, by decide +kernel, by decide +kernel⟩ ⟨Nat.le_of_ble_eq_true rfl, Nat.le_of_ble_eq_true rfl⟩ hK hE hP hD hS hA hX hbl hbA rfl hl.1 rfl (Nat.le_of_ble_eq_true rfl) dL_server_49 ⟨show cb + 0 + 0 ≤ 20997 by omega, show sb + 0 + 0 ≤ 137737 by omega⟩ (fun H locs hP hD hS => ?_)
      refine W.eq (g2 := F0 m 52 ls [.int u22]) rfl ?_
      refine lv_istore (lv' := [(6, .int u22), (5, .int u20), (0, .ref b), (1, .int p1), (2, .ref h0), (3, .ref ac), (4, .int v4)]) hx hb dL_server_52 hl (by decide) rfl (fun ls hl => ?_)
      refine lv_aload_n hx hb dL_server_54 rfl (lv_at hl 4 rfl) ?_
      refine lv_aload_n hx hb dL_server_55 rfl (lv_at hl 2 rfl) ?_
      refine lv_iload_n hx hb dL_server_56 rfl (lv_at hl 3 rfl) ?_
      refine lv_iconst (v := 3) hx hb dL_server_57 (by decide) ?_
      refine lv_iload hx hb dL_server_58 (lv_at hl 6 rfl) ?_
      refine lv_imul hx hb dL_server_60 ?_
      refine lv_iadd hx hb dL_server_61 ?_
      refine lv_bipush (v := 23) hx hb dL_server_62 (by decide) ?_
      obtain ⟨u24, hc25, hf⟩ := bind_t hf
      refine k_SR (As := [.ref b, .int (p1 + (3 * v4)), .int 23]) (rest := [.ref h0]) (n := 3) ⟨hx, hb, hml, hown, hts⟩ (met_L_draw l b L xs (p1 + (3 * v4)) 23 u24 hc25) w193 w194 w0 w195 ⟨by decide +kernel, by decide +kernel, by decide +kernel⟩ ⟨Nat.le_of_ble_eq_true rfl, Nat.le_of_ble_eq_true rfl⟩ hK hE hP hD hS hA hX hbl hbA rfl hl.1 rfl (Nat.le_of_ble_eq_true rfl) dL_server_64 ⟨show cb + 0 + 0 ≤ 20997 by omega, show sb + 0 + 0 ≤ 137737 by omega⟩ (fun H locs hP hD hS => ?_)
      refine W.eq (g2 := F0 m 67 ls [.int u24, .ref h0]) rfl ?_
      refine lv_iload hx hb dL_server_67 (lv_at hl 1 rfl) ?_
      refine lv_iload hx hb dL_server_69 (lv_at hl 0 rfl) ?_
      refine lv_aload_n hx hb dL_server_71 rfl (lv_at hl 5 rfl) ?_
      refine W.eq (g2 := F0 m 72 ls [.ref ac, .int u22, .int u20, .int u24, .ref (a 0)]) (by rw [show a 0 = h0 from ha]) ?_
      obtain ⟨u26, hc27, hf⟩ := bind_t hf
      refine k_SP (ws' := W_G cI cV vf a ad ac u26.1) (As := [.ref (a 0), .int u24, .int u20, .int u22, .ref ac]) (rest := []) (n := 5) ⟨hx, hb, hml, hown, hts⟩ (met_L_step l hlt vf ad a ac hvf x u24 u20 u22 u26 hc27) w199 w200 w0 w201 ⟨by decide +kernel, by decide +kernel, by decide +kernel⟩ ⟨Nat.le_of_ble_eq_true rfl, Nat.le_of_ble_eq_true rfl⟩ hK hE hP hD hS hA (CutP_self _ _) rfl hl.1 rfl (Nat.le_of_ble_eq_true rfl) dL_server_72 ⟨show cb + 0 + 217 ≤ 20997 by omega, show sb + 0 + 1312 ≤ 137737 by omega⟩ (fun H locs hP hD hS => ?_)
      try dsimp only at hf
      refine W.widen (k := cb + 217) (n := sb + 1312) (show cb + 0 + 217 ≤ cb + 217 by omega) (show sb + 0 + 1312 ≤ sb + 1312 by omega) ?_
      refine W.eq (g2 := F0 m 75 ls [.int u26.2]) rfl ?_
      obtain ⟨x28, hx28⟩ : ∃ z, z = (gqS u26.1, gqC u26.1) := ⟨_, rfl⟩
      replace hf := keep_e hf x28 hx28
      have hP : va_P D vwCl (W_Q cI cV vf (swp (gqB u26.1) a) ad ac x28) H := by rw [hx28]; exact hP
      have hD : va_D A (W_Q cI cV vf (swp (gqB u26.1) a) ad ac x28) := by rw [hx28]; exact hD
      refine lv_if_eq (tgt := 147) hx hb dL_server_75 (by decide) (fun c29 => ?_) (fun c29 => ?_)
      · replace hf := if_t c29 hf
        refine lv_iconst (v := 0) hx hb dL_server_147 (by decide) ?_
        obtain rfl := Option.some.inj hf
        refine W.widen (k := 20997) (n := 137737) (show cb + 217 ≤ 20997 by omega) (show sb + 1312 ≤ 137737 by omega) ?_
        exact W.zret (v := 0) hx hb hr (by decide +kernel) (fun t ht hW => ⟨rfl, fun k q h => by simp at h, va_K.moved hW.alike hK, ⟨fun i j p q h => by simp at h, fun k q h => by simp at h⟩, hS.F ht⟩) hS.2.2 dL_server_148 hlocks
      · replace hf := if_f c29 hf
        refine lv_aload_n hx hb dL_server_78 rfl (lv_at hl 4 rfl) ?_
        refine lv_iload hx hb dL_server_79 (lv_at hl 0 rfl) ?_
        refine lv_iconst (v := 5) hx hb dL_server_81 (by decide) ?_
        refine lv_idiv hx hb dL_server_82 (by decide) ?_
        refine lv_bipush (v := 16) hx hb dL_server_83 (by decide) ?_
        refine lv_irem hx hb dL_server_85 (by decide) ?_
        refine lv_bipush (v := 12) hx hb dL_server_86 (by decide) ?_
        refine lv_icmp_ge (tgt := 100) hx hb dL_server_88 (by decide) (fun c30 => ?_) (fun c30 => ?_)
        · replace hf := if_t c30 hf
          refine lv_iload hx hb dL_server_100 (lv_at hl 0 rfl) ?_
          refine lv_iconst (v := 5) hx hb dL_server_102 (by decide) ?_
          refine lv_idiv hx hb dL_server_103 (by decide) ?_
          refine lv_bipush (v := 16) hx hb dL_server_104 (by decide) ?_
          refine lv_irem hx hb dL_server_106 (by decide) ?_
          exact L107 rec cb sb hcb hsb hrec (swp (gqB u26.1) a) (swp_0.trans ha) x28 v4 u20 ((u22 / 5) - (u22 / 5) / 16 * 16) H locs ls hf hP hD hS (lv_sub hl [2, 3, 4, 5, 6, 1] rfl)
        · replace hf := if_f c30 hf
          refine lv_iload hx hb dL_server_91 (lv_at hl 0 rfl) ?_
          refine lv_iconst (v := 5) hx hb dL_server_93 (by decide) ?_
          refine lv_idiv hx hb dL_server_94 (by decide) ?_
          refine lv_iconst (v := 4) hx hb dL_server_95 (by decide) ?_
          refine lv_irem hx hb dL_server_96 (by decide) ?_
          refine lv_goto (tgt := 107) hx hb dL_server_97 (by decide) ?_
          exact L107 rec cb sb hcb hsb hrec (swp (gqB u26.1) a) (swp_0.trans ha) x28 v4 u20 ((u22 / 5) - (u22 / 5) / 4 * 4) H locs ls hf hP hD hS (lv_sub hl [2, 3, 4, 5, 6, 1] rfl)
  have LL : ∀ (fu cb sb : Nat), cb + 241 * fu + 217 ≤ 20997 → sb + 1456 * fu + 1312 ≤ 137737 → ∀ (a : Nat → Nat) (ha : a 0 = h0) (x : QSt) (v4 : Int32) (H : Heap) (locs : List Loc) (ls : Array Slot), iterK fu (fL_server_15 L xs p1) (x, v4) = some res → va_P D vwCl (W_Q cI cV vf a ad ac x) H → va_D A (W_Q cI cV vf a ad ac x) → va_S A s.heap H locs → lv_has ls 7 [(0, .ref b), (1, .int p1), (2, .ref h0), (3, .ref ac), (4, .int v4)] → W p l e ({ frames := 13, cells := 20997, slots := 137737, locals := 314 } : Room) s m ([.ref b, .int p1] : List Value).toArray below meth c H locs cb sb (MQ below (QW D (TY cI cV cJ cD) [] A (some (.int res))) (([.ref b, .int p1] : List Value).toArray) s 20997 137737 A) (F0 m 15 ls []) := by
    intro fu
    induction fu with
    | zero =>
      intro cb sb _ _ a ha x v4 H locs ls hf
      cases hf
    | succ fu ih =>
      intro cb sb hcb hsb a ha x v4 H locs ls hf hP hD hS hl
      exact L15 (iterK fu (fL_server_15 L xs p1)) cb sb (by omega) (by omega) (ih (cb + 241) (sb + 1456) (by omega) (by omega)) a ha x v4 H locs ls hf hP hD hS hl
  exact LL 85 295 12665 (by omega) (by omega) a ha (server0, fun _ => 0) 0 H locs ls hf hP hD hS hl
set_option maxHeartbeats 4000000 in
set_option maxRecDepth 100000 in
theorem met_L_server {D : va_G} {cI cV cJ cD : ClassId} (l : Launch) (hlt : l.stackTraces = false) (b L : Nat) (xs : Nat → Int32) (p1 : Int32) (res : Int32) (hf : fL_server L xs p1 = some res) : MR l yL_server cL_server 7 (some .boolean) { frames := 13, cells := 20997, slots := 137737, locals := 314 } D (TY cI cV cJ cD) b L xs [.ref b, .int p1] (some (.int res)) := by
  intro sz
  refine Met.ofW (cc := cL_server) (maxL := 7) (ret := (some .boolean)) (by decide +kernel) rfl ?_
  intro p e s m args below meth c s₁ B hml hv
  obtain ⟨rfl, ⟨hsz, hP, hK, hD0, hE⟩, hX, hbl⟩ := hv
  have hx := B.exec
  have hb := B.bytes
  have hr := B.returns
  have hts := atoms_spec (ws := .code yL_server cL_server 7 (some .boolean) :: GW) B.pre
  have hg : ∀ w ∈ GW, w.before (([.ref b, .int p1] : List Value).toArray) s = true := fun w h => hts w (List.mem_cons_of_mem _ h)
  have hown : s.vm.findClass RL = some m.cls := findClass_of_methodNamed B.named
  have hlocks := B.notSynchronized
  subst hsz
  have hbA := va_Anil hbl
  have hD := hD0.self (sz := s.heap.size)
  generalize hAe : va_A ([] : va_W) s.heap.size = A at hD hE hbA ⊢
  have hA : ∀ q : Nat, s.heap.size ≤ q → A q := fun q h => by rw [← hAe]; exact Or.inr h
  have hS : va_S A s.heap s.heap [] := va_S.rf
  have hl := lv_entry ([.ref b, .int p1]) (n := 7) (Nat.le_of_ble_eq_true rfl)
  rw [lg_entry_eq]
  generalize (lg_sl ([.ref b, .int p1]) ++ List.replicate (7 - (lg_sl ([.ref b, .int p1])).length) Slot.unset).toArray = ls at hl ⊢
  have hP : va_P D vwCl ([] : va_W) s.heap := hP
  have hl : lv_has ls 7 [(0, .ref b), (1, .int p1)] := hl
  refine va_new (ci := 6) (fs := [.null, .null, .null, .int 0, .int 0, .int 0, .int 0, .int 0]) (C := RX7) (T := TX7) (N := 8) hx hb hg in_X7 tyX7 tyX7_ok hown (hg _ w21) (hg _ w22) (hg _ w1) hK hP hD hS hA rfl (by intro j hj; match j, hj with | 0, _ => rfl | 1, _ => rfl | 2, _ => rfl | 3, _ => rfl | 4, _ => rfl | 5, _ => rfl | 6, _ => rfl | 7, _ => rfl | (j + 8), hj => exact absurd hj (by omega)) (Nat.le_of_ble_eq_true rfl) (Nat.le_of_ble_eq_true rfl) dL_server_0 (fun q1 H hP hD hS => ?_)
  replace hP : va_P D vwCl ([(q1, .inr (6, [.null, .null, .null, .int 0, .int 0, .int 0, .int 0, .int 0]))] : va_W) H := hP
  replace hD : va_D A ([(q1, .inr (6, [.null, .null, .null, .int 0, .int 0, .int 0, .int 0, .int 0]))] : va_W) := hD
  refine lv_dup hx hb dL_server_3 rfl ?_
  refine k_IG (As := []) (rest := [.ref q1]) (n := 0) ⟨hx, hb, hml, hown, hts⟩ (ctor_X7_init l q1) w23 w24 w1 w25 rfl ⟨by decide +kernel, by decide +kernel, by decide +kernel⟩ ⟨(Nat.le_of_ble_eq_true rfl), (Nat.le_of_ble_eq_true rfl)⟩ hK hE hP hD hS hA (isC := [0]) (isR := []) (wr := []) rfl rfl (by decide) (by decide) (by decide) rfl hl.1 rfl (Nat.le_of_ble_eq_true rfl) dL_server_4 ⟨(Nat.le_of_ble_eq_true rfl), (Nat.le_of_ble_eq_true rfl)⟩ (fun ix H1 locs1 hix hP1 hD1 hS1 => ?_)
  obtain ⟨a, ad, vf⟩ := ix
  obtain ⟨ha, hvf⟩ := hix
  dsimp only at ha hvf
  have hP : va_P D vwCl (W_S cI cV vf a ad server0) H1 := hP1
  have hD : va_D A (W_S cI cV vf a ad server0) := hD1
  have hS := hS1
  refine W.eq (g2 := F0 m 7 ls [.ref q1]) rfl ?_
  refine lv_astore_n (lv' := [(2, .ref q1), (0, .ref b), (1, .int p1)]) hx hb dL_server_7 rfl hl (by decide) rfl (fun ls hl => ?_)
  refine lv_iconst (v := 5) hx hb dL_server_8 (by decide) ?_
  refine k_newI hx hb (hg _ w45) hK 0 rfl hP hD hS hA (N' := 5) (by decide) (by decide) (by decide) (Nat.le_of_ble_eq_true rfl) (Nat.le_of_ble_eq_true rfl) dL_server_9 (fun ac H hP hD hS => ?_)
  replace hP : va_P D vwCl (W_Q cI cV vf a ad ac (server0, fun _ => 0)) H := hP.perm (q_last _ _)
  replace hD : va_D A (W_Q cI cV vf a ad ac (server0, fun _ => 0)) := hD.perm (q_last _ _)
  refine lv_astore_n (lv' := [(3, .ref ac), (2, .ref q1), (0, .ref b), (1, .int p1)]) hx hb dL_server_11 rfl hl (by decide) rfl (fun ls hl => ?_)
  refine lv_iconst (v := 0) hx hb dL_server_12 (by decide) ?_
  refine lv_istore (lv' := [(4, .int 0), (3, .ref ac), (2, .ref q1), (0, .ref b), (1, .int p1)]) hx hb dL_server_13 hl (by decide) rfl (fun ls hl => ?_)
  refine W.widen (k := 295) (n := 12665) (Nat.le_of_ble_eq_true rfl) (Nat.le_of_ble_eq_true rfl) ?_
  exact server_loop l hlt hx hb hr hlocks hml hown hts hK hE hA hX hbl hbA hvf res hf q1 ac a ha H _ ls hP hD hS (lv_sub hl [3, 4, 2, 1, 0] rfl)

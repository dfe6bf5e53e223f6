abbrev IX : Type := (Nat → Nat) × (Nat → Nat → Nat) × (Nat → Option Nat)
def server0 : SSt := (0, -1, 0, 15, 0, log0, log0, fun _ => val0)
def MG {ι : Type} (l : Launch) (y : MethodName) (b : ByteArray) (ml : Nat) (rm : Room) (D : va_G) (tys : List (ClassId × FieldType)) (W0 : va_W) (Pr : ι → Prop) (Wf : ι → va_W) (av : List Value) : Prop :=
  ∀ sz, Met l y (.code y b ml none :: GW) rm (va_Pc av (PW D tys W0 sz)) (fun a st oc t => ∃ i : ι, Pr i ∧ QW D tys (Wf i) (va_A W0 sz) none a st oc t) rm.cells rm.slots (va_A W0 sz)
section KG
variable {p : Program} {l : Launch} {e : Env} {R : Room} {s : State} {m : MethodId} {args : Array Value} {below : List Frame} {meth : Method} {c : Code} {H : Heap} {locs : List Loc} {cells slots : Nat} {Q : State → Prop}
variable {pc : Nat} {ls : Array Slot} {rest st0 : List Value} {a : Array Value} {A0 : Nat → Prop} {D : va_G} {tys : List (ClassId × FieldType)} {ws wc wr : va_W} {ι : Type} {Pr : ι → Prop} {Wf : ι → va_W} {mc ms : Nat} {h0 : Nat}
theorem k_callG (hr : va_Run p l e R s m args below meth c H locs cells slots mc ms (F0 m pc ls st0) rest (fun st oc t => ∃ a' : ι, Pr a' ∧ QW D tys (Wf a') (va_A wc H.size) none a st oc t) (va_A wc H.size))
    (hP : va_P D vwCl ws H) (hD : va_D A0 ws) (hS : va_S A0 s.heap H locs) (hA : ∀ q, s.heap.size ≤ q → A0 q) {isC isR : List Nat} (hC : isC.map (fun i => ws[i]?) = wc.map some) (hR : isR.map (fun i => ws[i]?) = wr.map some) (hn : va_nd isR = true) (hdis : ∀ i ∈ isR, i ∉ isC)
    (kk : ∀ (a' : ι) (H1 : Heap) (locs1 : List Loc), Pr a' → va_P D vwCl (wr ++ Wf a') H1 → va_D A0 (wr ++ Wf a') → va_S A0 s.heap H1 locs1 → W p l e R s m args below meth c H1 locs1 (cells + mc) (slots + ms) Q (F0 m (pc + 3) ls rest)) :
    W p l e R s m args below meth c H locs cells slots Q (F0 m pc ls st0) := by
  intro T hT X
  obtain ⟨v, st₀, t, T', L, h9, X', hL, e1, e2, ⟨a', ha, hv, hP1, -, hD1, hz, hk⟩, st⟩ := hr T hT X
  cases hv
  rw [h9] at hz hk
  have hF := va_free (wc := wc) hD hS hA isC hC
  obtain ⟨hPj, hDj⟩ := va_join hP hD isC isR hC hR hn hdis hk hF hP1 hD1
  have hS1 : va_S A0 s.heap T'.heap (locs ++ L) := ⟨Nat.le_trans hS.1 (by rw [e1]; exact hz), fun q h1 h2 => by rw [e1, hk q (Nat.lt_of_lt_of_le h1 hS.1) (fun z => h2 (hF q z))]; exact hS.2.1 q h1 h2, fun q hq => by
      rcases List.mem_append.mp hq with h | h
      · exact hS.2.2 q h
      · exact hF _ (hL q h)⟩
  obtain ⟨t2, a1, b1⟩ := kk a' T'.heap (locs ++ L) ha (by rw [e1]; exact hPj) hDj hS1 T' rfl X'
  exact ⟨t2, st t2 a1, b1⟩
variable {y : MethodName} {b cc : ByteArray} {ml nL n index : Nat} {rm : Room} {own host : String} {As : List Value} {c0 : Cond}
/-- a constructor of another class -/
theorem k_IG (S : CallFix p m c cc nL s args (c0 :: GW) own) (hM : MG l y b ml rm D tys wc Pr Wf (.ref h0 :: As)) (h1 : Cond.methodLink own index y ∈ GW) (h2 : Cond.instanceMethod y ∈ GW) (h4 : Cond.initialized y.cls ∈ GW) (h5 : Cond.code y b ml none ∈ GW)
    (hy : y.name = "<init>") (hd : y.cls ≠ "java/lang/invoke/MethodHandle" ∧ y.cls ≠ "java/lang/invoke/VarHandle" ∧ (parseMethodDescriptor y.desc).map (fun d => d.parameters.length) = some n) (hRm : rm.frames + 1 ≤ R.frames ∧ 8 + (ml + 11) + rm.locals ≤ R.locals)
    (hK : va_K D vwCl tys s) (hE : EV A0 s) (hP : va_P D vwCl ws H) (hD : va_D A0 ws) (hS : va_S A0 s.heap H locs) (hA : ∀ q, s.heap.size ≤ q → A0 q) {isC isR : List Nat} (hC : isC.map (fun i => ws[i]?) = wc.map some) (hR : isR.map (fun i => ws[i]?) = wr.map some) (hn9 : va_nd isR = true) (hnC : va_nd isC = true) (hdis : ∀ i ∈ isR, i ∉ isC)
    (hn : As.length = n) (hls : ls.size = nL) (hst : st0 = As.reverse ++ .ref h0 :: rest) (hroom : (rest.map fun v => v.category).sum ≤ 8)
    (hdg : decode cc pc = .ok (.invokespecial index, 3)) (hf : cells + rm.cells ≤ R.cells ∧ slots + rm.slots ≤ R.slots)
    (kk : ∀ (a' : ι) (H1 : Heap) (locs1 : List Loc), Pr a' → va_P D vwCl (wr ++ Wf a') H1 → va_D A0 (wr ++ Wf a') → va_S A0 s.heap H1 locs1 → W p l e R s m args below meth c H1 locs1 (cells + rm.cells) (slots + rm.slots) Q (F0 m (pc + 3) ls rest)) :
    W p l e R s m args below meth c H locs cells slots Q (F0 m pc ls st0) :=
  k_callG (a := (Value.ref h0 :: As).toArray) (va_runI S (hM H.size) (cwI n S.2.2.2.2 (gd_code h5) rfl rfl rfl (S.2.2.2.2 _ (List.mem_cons_of_mem _ h4)) (S.2.2.2.2 _ (List.mem_cons_of_mem _ h1)) (S.2.2.2.2 _ (List.mem_cons_of_mem _ h2)) hy hd hRm) ⟨pw_blind, n_pre hK hE hP hD hS hA hC hnC _⟩ rfl hn hls hst (by simpa using hroom) hdg hf) hP hD hS hA hC hR hn9 hdis kk
/-- new C[n] -/
theorem k_newQ {cc : ByteArray} (hexec : p.tables.exec = Jvm.exec) (hb : c.code = cc) {own C : String} {index : Nat} (hown : s.vm.findClass own = some m.cls) (hclink : (Cond.classLink own index C).before args s = true) (hover : va_AO C s) {cV : ClassId} (hK : va_K D vwCl tys s) (t0 : Nat) (ht : tys[t0]? = some (cV, .object C)) (hP : va_P D vwCl ws H) (hD : va_D A0 ws) {H0 : Heap} (hS : va_S A0 H0 H locs) (hA : ∀ q, H0.size ≤ q → A0 q)
    {n : Int32} {N' : Nat} (hn : ¬ n < 0) (hN : n.toNatClampNeg = N') (hbytes : N' * 4 ≤ 536870912) (hcells : cells + 1 ≤ R.cells) (hslots : slots + N' ≤ R.slots) (hdg : decode cc pc = .ok (.anewarray index, 3))
    (kk : ∀ (q : Nat) (H1 : Heap), va_P D vwCl (ws ++ [(q, .inl (cV, N', .inr (.inr (.inr (.inr (fun _ => none))))))]) H1 → va_D A0 (ws ++ [(q, .inl (cV, N', .inr (.inr (.inr (.inr (fun _ => none))))))]) → va_S A0 H0 H1 locs → W p l e R s m args below meth c H1 locs (cells + 1) (slots + N') Q (F0 m (pc + 3) ls (.ref q :: rest))) :
    W p l e R s m args below meth c H locs cells slots Q (F0 m pc ls (.int n :: rest)) := by
  refine va_newq hexec hb hown hclink hover hK hP hD hS hA hn hN hbytes hcells hslots hdg (fun q cA H1 hK2 hP2 hD2 hS2 => ?_)
  obtain ⟨kA, comp, -, -, -, e1⟩ := (hK2.2 tys.length (cA, .object C) (by rw [List.getElem?_append_right (Nat.le_refl _), Nat.sub_self]; rfl)).2
  obtain ⟨kB, comp2, -, -, -, e2⟩ := (hK.2 t0 _ ht).2
  cases Option.some.inj (e1.symm.trans e2)
  exact kk q H1 hP2 hD2 hS2
end KG
theorem fam_app (cI : ClassId) (ad : Nat → Nat → Nat) (f : Nat → VSt) (l1 l2 : List Nat) : fam cI ad f (l1 ++ l2) = fam cI ad f l1 ++ fam cI ad f l2 := List.flatMap_append
theorem fam_if (cI : ClassId) (ad : Nat → Nat → Nat) (b : Nat → Nat) (f : Nat → VSt) (l : List Nat) (i : Nat) (h : i ∉ l) : fam cI (fun k => if k = i then b else ad k) f l = fam cI ad f l := by
  induction l with
  | nil => rfl
  | cons j l ih =>
    simp only [List.mem_cons, not_or] at h
    show W_Value cI (if j = i then b else ad j) (f j) ++ fam cI (fun k => if k = i then b else ad k) f l = W_Value cI (ad j) (f j) ++ fam cI ad f l
    rw [if_neg (Ne.symm h.1), ih h.2]
theorem fam_one (cI : ClassId) (ad : Nat → Nat → Nat) (b : Nat → Nat) (f : Nat → VSt) (i : Nat) : fam cI (fun k => if k = i then b else ad k) f [i] = W_Value cI b (f i) := by
  show W_Value cI (if i = i then b else ad i) (f i) ++ [] = _
  rw [if_pos rfl, List.append_nil]
set_option maxHeartbeats 4000000 in
set_option maxRecDepth 100000 in
theorem ctor_X7_init {D : va_G} {cI cV cJ cD : ClassId} (l : Launch) (h0 : Nat) : MG l yX7_init cX7_init 2 { frames := 4, cells := 293, slots := 12652, locals := 92 } D (TY cI cV cJ cD) [(h0, .inr (6, [.null, .null, .null, .int 0, .int 0, .int 0, .int 0, .int 0]))] (fun i : IX => i.1 0 = h0 ∧ ∀ k, k < 16 → i.2.2 k = some (i.2.1 k 0)) (fun i : IX => W_S cI cV i.2.2 i.1 i.2.1 server0) [.ref h0] := by
  intro sz
  refine Met.ofW (cc := cX7_init) (maxL := 2) (ret := none) (by decide +kernel) rfl ?_
  intro p e s m args below meth c s₁ B hml hv
  obtain ⟨rfl, hsz, hP, hK, hD0, hE⟩ := hv
  have hx := B.exec
  have hb := B.bytes
  have hr := B.returns
  have hts := atoms_spec (ws := .code yX7_init cX7_init 2 none :: GW) B.pre
  have hg : ∀ w ∈ GW, w.before (([.ref h0] : List Value).toArray) s = true := fun w h => hts w (List.mem_cons_of_mem _ h)
  have hown : s.vm.findClass RX7 = some m.cls := findClass_of_methodNamed B.named
  have hlocks := B.notSynchronized
  have hin : meth.name = "<init>" := (name_of_methodNamed B.named B.method).1
  subst hsz
  have hD := hD0.self (sz := s.heap.size)
  generalize hAe : va_A [(h0, .inr (6, [.null, .null, .null, .int 0, .int 0, .int 0, .int 0, .int 0]))] s.heap.size = A at hD hE ⊢
  have hA : ∀ q : Nat, s.heap.size ≤ q → A q := fun q h => by rw [← hAe]; exact Or.inr h
  have hS : va_S A s.heap s.heap [] := va_S.rf
  have hl := lv_entry ([.ref h0]) (n := 2) (Nat.le_of_ble_eq_true rfl)
  rw [lg_entry_eq]
  generalize (lg_sl ([.ref h0]) ++ List.replicate (2 - (lg_sl ([.ref h0])).length) Slot.unset).toArray = ls at hl ⊢
  have hl : lv_has ls 2 [(0, .ref h0)] := hl
  have L63 : ∀ (a6 : Nat → Nat), a6 0 = h0 → ∀ (n i : Nat), i + n = 16 → ∀ (vf : Nat → Option Nat) (ad : Nat → Nat → Nat) (H : Heap) (locs : List Loc) (ls : Array Slot), (∀ k, k < i → vf k = some (ad k 0)) → va_P D vwCl (fix6 cI cV vf a6 0 (-1) 0 15 0 log0 log0 ++ fam cI ad (fun _ => val0) (List.range i)) H → va_D A (fix6 cI cV vf a6 0 (-1) 0 15 0 log0 log0 ++ fam cI ad (fun _ => val0) (List.range i)) → va_S A s.heap H locs → lv_has ls 2 [(1, .int (nI i)), (0, .ref h0)] → W p l e ({ frames := 4, cells := 293, slots := 12652, locals := 92 } : Room) s m ([.ref h0] : List Value).toArray below meth c H locs (5 + 18 * i) (4220 + 527 * i) (MQ below (fun a st oc t => ∃ i : IX, (i.1 0 = h0 ∧ ∀ k, k < 16 → i.2.2 k = some (i.2.1 k 0)) ∧ QW D (TY cI cV cJ cD) (W_S cI cV i.2.2 i.1 i.2.1 server0) A none a st oc t) (([.ref h0] : List Value).toArray) s 293 12652 A) (F0 m 63 ls []) := by
    intro a6 ha6 n
    subst ha6
    induction n with
    | zero =>
      intro i hi vf ad H locs ls hvf hP hD hS hl
      have hi : i = 16 := by omega
      subst hi
      refine lv_iload_n hx hb dX7_init_63 rfl (lv_at hl 0 rfl) ?_
      refine lv_bipush (v := 16) hx hb dX7_init_64 (by decide) ?_
      refine lv_icmp_ge (tgt := 88) hx hb dX7_init_66 (by decide) (fun c9 => ?_) (fun c9 => absurd (by decide) c9)
      exact W.vret hx hb hr (fun t ht hW => ⟨(a6, ad, vf), ⟨rfl, hvf⟩, rfl, by rw [ht]; exact hP, va_K.moved hW.alike hK, hD, hS.F ht⟩) hS.2.2 dX7_init_88 hlocks
    | succ n ih =>
      intro i hi vf ad H locs ls hvf hP hD hS hl
      have hlt : i < 16 := by omega
      refine lv_iload_n hx hb dX7_init_63 rfl (lv_at hl 0 rfl) ?_
      refine lv_bipush (v := 16) hx hb dX7_init_64 (by decide) ?_
      refine lv_icmp_ge (tgt := 88) hx hb dX7_init_66 (by decide) (fun c9 => absurd c9 (nI_ge (a := i) (b := 16) hlt (by decide))) (fun c9 => ?_)
      refine lv_aload_n hx hb dX7_init_69 rfl (lv_at hl 1 rfl) ?_
      refine va_get (D := D) (ci := 6) (v := .ref (a6 1)) (C := RX7) (T := TX7) (N := 8) hx hb hg in_X7 hown hK hP 0 rfl rfl 0 (by decide) (hg _ w167) (fun _ h9 => h9) rfl dX7_init_70 ?_
      refine lv_iload_n hx hb dX7_init_73 rfl (lv_at hl 0 rfl) ?_
      refine va_new (ci := 5) (fs := [.int 0, .int 0, .int 0, .int 0, .null, .null, .null, .null, .null, .null]) (C := RX6) (T := TX6) (N := 10) hx hb hg in_X6 tyX6 tyX6_ok hown (hg _ w29) (hg _ w46) (hg _ w3) hK hP hD hS hA rfl (by intro j hj; match j, hj with | 0, _ => rfl | 1, _ => rfl | 2, _ => rfl | 3, _ => rfl | 4, _ => rfl | 5, _ => rfl | 6, _ => rfl | 7, _ => rfl | 8, _ => rfl | 9, _ => rfl | (j + 10), hj => exact absurd hj (by omega)) (show _ ≤ 293 by omega) (show _ ≤ 12652 by omega) dX7_init_74 (fun q H hP hD hS => ?_)
      refine lv_dup hx hb dX7_init_77 rfl ?_
      generalize hws : fix6 cI cV vf a6 0 (-1) 0 15 0 log0 log0 ++ fam cI ad (fun _ => val0) (List.range i) = ws at hP hD
      have hP := hP.perm (List.perm_append_comm (l₁ := ws))
      have hD := hD.perm (List.perm_append_comm (l₁ := ws))
      refine k_IN (As := []) (rest := [.ref q, .int (nI i), .ref (a6 1)]) (n := 0) ⟨hx, hb, hml, hown, hts⟩ (ctor_X6_init l q) (hE.1.2.1 _ (List.mem_of_getElem? (i := 1) rfl)) w48 w3 w49 rfl ⟨by decide +kernel, by decide +kernel, by decide +kernel⟩ ⟨Nat.le_of_ble_eq_true rfl, Nat.le_of_ble_eq_true rfl⟩ hK hE hP hD hS hA (isC := [0]) (isR := (List.range ws.length).map (fun i => 1 + i)) (wr := ws) rfl (range_right [(q, .inr (5, [.int 0, .int 0, .int 0, .int 0, .null, .null, .null, .null, .null, .null]))] ws) (nd_of (List.pairwise_map.mpr (List.nodup_range.imp fun h e => h (by omega)))) (by decide) (by intro i9 h9 h8; obtain ⟨j, _, rfl⟩ := List.mem_map.mp h9; simp at h8) rfl hl.1 rfl (Nat.le_of_ble_eq_true rfl) dX7_init_78 ⟨show _ ≤ 293 from by dsimp only; omega, show _ ≤ 12652 from by dsimp only; omega⟩ (fun b H locs hb9 hP hD hS => ?_)
      rw [← hb9]
      refine va_astq hx hb hK hP hD hS 1 1 ws.length 5 (ws := ws ++ W_Value cI b val0) (r := (RX6, TX6, 10)) (by rw [← hws]; rfl) rfl (by rw [List.getElem?_append_right (Nat.le_refl _), Nat.sub_self]; rfl) rfl (vp_in_nI hlt (by decide)) dX7_init_81 (fun H locs hP hD hS => ?_)
      have e9 : (ws ++ W_Value cI b val0).set 1 (a6 1, .inl (cV, 16, .inr (.inr (.inr (.inr (va_up vf (nI i).toNatClampNeg (some (b 0)))))))) = fix6 cI cV (va_up vf (nI i).toNatClampNeg (some (b 0))) a6 0 (-1) 0 15 0 log0 log0 ++ fam cI (fun k => if k = i then b else ad k) (fun _ => val0) (List.range (i + 1)) := by
        rw [List.range_succ, fam_app, fam_if cI ad b _ (List.range i) i (fun h => absurd (List.mem_range.mp h) (Nat.lt_irrefl i)), fam_one, ← hws, ← List.append_assoc]
        rfl
      rw [e9] at hP hD
      obtain ⟨y1, hy1⟩ : ∃ z : Int32, z = nI i + 1 := ⟨_, rfl⟩
      refine lv_iinc (v := y1) (lv' := [(1, .int y1), (0, .ref (a6 0))]) hx hb dX7_init_82 hl (k := 0) rfl (by rw [hy1]; rfl) (by decide) rfl (fun ls hl => ?_)
      refine lv_goto (tgt := 63) hx hb dX7_init_85 (by decide) ?_
      rw [hy1, nI_1] at hl
      refine W.widen (k := 5 + 18 * (i + 1)) (n := 4220 + 527 * (i + 1)) (by dsimp only; omega) (by dsimp only; omega) ?_
      refine ih (i + 1) (by omega) _ _ H locs ls ?_ hP hD hS hl
      intro k hk
      rw [nI_clamp (by omega : i < 2 ^ 31)]
      by_cases h9 : k = i
      · rw [h9, va_up_self, if_pos rfl]
      · rw [va_up_ne _ _ h9, if_neg h9]; exact hvf k (by omega)
  have M0 : ∀ (H : Heap) (locs : List Loc) (ls : Array Slot), va_P D vwCl [(h0, .inr (6, [.null, .null, .null, .int 0, .int 0, .int 0, .int 0, .int 0]))] H → va_D A [(h0, .inr (6, [.null, .null, .null, .int 0, .int 0, .int 0, .int 0, .int 0]))] → va_S A s.heap H locs → lv_has ls 2 [(0, .ref h0)] → W p l e ({ frames := 4, cells := 293, slots := 12652, locals := 92 } : Room) s m ([.ref h0] : List Value).toArray below meth c H locs 0 0 (MQ below (fun a st oc t => ∃ i : IX, (i.1 0 = h0 ∧ ∀ k, k < 16 → i.2.2 k = some (i.2.1 k 0)) ∧ QW D (TY cI cV cJ cD) (W_S cI cV i.2.2 i.1 i.2.1 server0) A none a st oc t) (([.ref h0] : List Value).toArray) s 293 12652 A) (F0 m 0 ls []) := by
    intro H locs ls hP hD hS hl
    refine lv_aload_n hx hb dX7_init_0 rfl (lv_at hl 0 rfl) ?_
    refine W.objInit hx hb hown (hg _ w26) (hg _ w27) (hg _ w28) rfl (by rw [hml]; exact hl.1) rfl dX7_init_1 (Nat.le_of_ble_eq_true rfl) (Nat.le_of_ble_eq_true rfl) ?_
    refine W.eq (g2 := F0 m 4 ls []) rfl ?_
    refine lv_aload_n hx hb dX7_init_4 rfl (lv_at hl 0 rfl) ?_
    refine lv_bipush (v := 16) hx hb dX7_init_5 (by decide) ?_
    refine k_newQ hx hb hown (hg _ w29) hE.1.2.2.2.2.2.2 hK 1 rfl hP hD hS hA (N' := 16) (by decide) (by decide) (by decide) (Nat.le_of_ble_eq_true rfl) (Nat.le_of_ble_eq_true rfl) dX7_init_7 (fun q1 H hP hD hS => ?_)
    replace hP : va_P D vwCl ([(h0, .inr (6, [.null, .null, .null, .int 0, .int 0, .int 0, .int 0, .int 0])), (q1, .inl (cV, 16, .inr (.inr (.inr (.inr (fun _ => none))))))] : va_W) H := hP
    replace hD : va_D A ([(h0, .inr (6, [.null, .null, .null, .int 0, .int 0, .int 0, .int 0, .int 0])), (q1, .inl (cV, 16, .inr (.inr (.inr (.inr (fun _ => none))))))] : va_W) := hD
    refine va_putF (D := D) (ci := 6) (v := .ref (q1)) (ty := (.array (.object "Compactforms$Value"))) (C := RX7) (T := TX7) (N := 8) hx hb hg in_X7 tyX7 tyX7_ok nmX7 hown hK hP hD hS 0 rfl rfl 0 (by decide) (hg _ w167) (fun _ h9 => h9) rfl hin rfl (by decide +kernel) rfl rfl (Nat.le_of_ble_eq_true rfl) dX7_init_10 (fun H locs hP hD hS => ?_)
    replace hP : va_P D vwCl ([(h0, .inr (6, [.ref (q1), .null, .null, .int 0, .int 0, .int 0, .int 0, .int 0])), (q1, .inl (cV, 16, .inr (.inr (.inr (.inr (fun _ => none))))))] : va_W) H := hP
    replace hD : va_D A ([(h0, .inr (6, [.ref (q1), .null, .null, .int 0, .int 0, .int 0, .int 0, .int 0])), (q1, .inl (cV, 16, .inr (.inr (.inr (.inr (fun _ => none))))))] : va_W) := hD
    refine lv_aload_n hx hb dX7_init_13 rfl (lv_at hl 0 rfl) ?_
    refine va_new (ci := 2) (fs := [.null, .int 0]) (C := RX3) (T := TX3) (N := 2) hx hb hg in_X3 tyX3 tyX3_ok hown (hg _ w31) (hg _ w32) (hg _ w2) hK hP hD hS hA rfl (by intro j hj; match j, hj with | 0, _ => rfl | 1, _ => rfl | (j + 2), hj => exact absurd hj (by omega)) (Nat.le_of_ble_eq_true rfl) (Nat.le_of_ble_eq_true rfl) dX7_init_14 (fun q2 H hP hD hS => ?_)
    replace hP : va_P D vwCl ([(h0, .inr (6, [.ref (q1), .null, .null, .int 0, .int 0, .int 0, .int 0, .int 0])), (q1, .inl (cV, 16, .inr (.inr (.inr (.inr (fun _ => none)))))), (q2, .inr (2, [.null, .int 0]))] : va_W) H := hP
    replace hD : va_D A ([(h0, .inr (6, [.ref (q1), .null, .null, .int 0, .int 0, .int 0, .int 0, .int 0])), (q1, .inl (cV, 16, .inr (.inr (.inr (.inr (fun _ => none)))))), (q2, .inr (2, [.null, .int 0]))] : va_W) := hD
    refine lv_dup hx hb dX7_init_17 rfl ?_
    refine k_IN (As := []) (rest := [.ref (q2), .ref (h0)]) (n := 0) ⟨hx, hb, hml, hown, hts⟩ (ctor_X3_init l (q2)) (hE.1.2.1 _ (List.mem_of_getElem? (i := 0) rfl)) w34 w2 w35 rfl ⟨by decide +kernel, by decide +kernel, by decide +kernel⟩ ⟨Nat.le_of_ble_eq_true rfl, Nat.le_of_ble_eq_true rfl⟩ hK hE hP hD hS hA (isC := [2]) (isR := [0, 1]) (wr := [(h0, .inr (6, [.ref (q1), .null, .null, .int 0, .int 0, .int 0, .int 0, .int 0])), (q1, .inl (cV, 16, .inr (.inr (.inr (.inr (fun _ => none))))))]) rfl rfl (by decide) (by decide) (by decide) rfl hl.1 rfl (Nat.le_of_ble_eq_true rfl) dX7_init_18 ⟨Nat.le_of_ble_eq_true rfl, Nat.le_of_ble_eq_true rfl⟩ (fun b3 H locs hb3 hP hD hS => ?_)
    try rw [← hb3]
    replace hP : va_P D vwCl ([(h0, .inr (6, [.ref (q1), .null, .null, .int 0, .int 0, .int 0, .int 0, .int 0])), (q1, .inl (cV, 16, .inr (.inr (.inr (.inr (fun _ => none)))))), (b3 0, .inr (2, [.ref (b3 1), .int (loN log0)])), (b3 1, .inl (cI, 2100, .inl (loC log0)))] : va_W) H := hP
    replace hD : va_D A ([(h0, .inr (6, [.ref (q1), .null, .null, .int 0, .int 0, .int 0, .int 0, .int 0])), (q1, .inl (cV, 16, .inr (.inr (.inr (.inr (fun _ => none)))))), (b3 0, .inr (2, [.ref (b3 1), .int (loN log0)])), (b3 1, .inl (cI, 2100, .inl (loC log0)))] : va_W) := hD
    refine W.eq (g2 := F0 m 21 ls [.ref (b3 0), .ref (h0)]) rfl ?_
    refine va_put (D := D) (ci := 6) (v := .ref (b3 0)) (ty := (.object "Compactforms$Log")) (C := RX7) (T := TX7) (N := 8) hx hb hg in_X7 tyX7 tyX7_ok nmX7 hown hK hP hD hS 0 rfl rfl 1 (by decide) (hg _ w168) (fun _ h9 => h9) rfl (by decide +kernel) rfl rfl (Nat.le_of_ble_eq_true rfl) dX7_init_21 (fun H locs hP hD hS => ?_)
    replace hP : va_P D vwCl ([(h0, .inr (6, [.ref (q1), .ref (b3 0), .null, .int 0, .int 0, .int 0, .int 0, .int 0])), (q1, .inl (cV, 16, .inr (.inr (.inr (.inr (fun _ => none)))))), (b3 0, .inr (2, [.ref (b3 1), .int (loN log0)])), (b3 1, .inl (cI, 2100, .inl (loC log0)))] : va_W) H := hP
    replace hD : va_D A ([(h0, .inr (6, [.ref (q1), .ref (b3 0), .null, .int 0, .int 0, .int 0, .int 0, .int 0])), (q1, .inl (cV, 16, .inr (.inr (.inr (.inr (fun _ => none)))))), (b3 0, .inr (2, [.ref (b3 1), .int (loN log0)])), (b3 1, .inl (cI, 2100, .inl (loC log0)))] : va_W) := hD
    refine lv_aload_n hx hb dX7_init_24 rfl (lv_at hl 0 rfl) ?_
    refine va_new (ci := 2) (fs := [.null, .int 0]) (C := RX3) (T := TX3) (N := 2) hx hb hg in_X3 tyX3 tyX3_ok hown (hg _ w31) (hg _ w32) (hg _ w2) hK hP hD hS hA rfl (by intro j hj; match j, hj with | 0, _ => rfl | 1, _ => rfl | (j + 2), hj => exact absurd hj (by omega)) (Nat.le_of_ble_eq_true rfl) (Nat.le_of_ble_eq_true rfl) dX7_init_25 (fun q4 H hP hD hS => ?_)
    replace hP : va_P D vwCl ([(h0, .inr (6, [.ref (q1), .ref (b3 0), .null, .int 0, .int 0, .int 0, .int 0, .int 0])), (q1, .inl (cV, 16, .inr (.inr (.inr (.inr (fun _ => none)))))), (b3 0, .inr (2, [.ref (b3 1), .int (loN log0)])), (b3 1, .inl (cI, 2100, .inl (loC log0))), (q4, .inr (2, [.null, .int 0]))] : va_W) H := hP
    replace hD : va_D A ([(h0, .inr (6, [.ref (q1), .ref (b3 0), .null, .int 0, .int 0, .int 0, .int 0, .int 0])), (q1, .inl (cV, 16, .inr (.inr (.inr (.inr (fun _ => none)))))), (b3 0, .inr (2, [.ref (b3 1), .int (loN log0)])), (b3 1, .inl (cI, 2100, .inl (loC log0))), (q4, .inr (2, [.null, .int 0]))] : va_W) := hD
    refine lv_dup hx hb dX7_init_28 rfl ?_
    refine k_IN (As := []) (rest := [.ref (q4), .ref (h0)]) (n := 0) ⟨hx, hb, hml, hown, hts⟩ (ctor_X3_init l (q4)) (hE.1.2.1 _ (List.mem_of_getElem? (i := 0) rfl)) w34 w2 w35 rfl ⟨by decide +kernel, by decide +kernel, by decide +kernel⟩ ⟨Nat.le_of_ble_eq_true rfl, Nat.le_of_ble_eq_true rfl⟩ hK hE hP hD hS hA (isC := [4]) (isR := [0, 1, 2, 3]) (wr := [(h0, .inr (6, [.ref (q1), .ref (b3 0), .null, .int 0, .int 0, .int 0, .int 0, .int 0])), (q1, .inl (cV, 16, .inr (.inr (.inr (.inr (fun _ => none)))))), (b3 0, .inr (2, [.ref (b3 1), .int (loN log0)])), (b3 1, .inl (cI, 2100, .inl (loC log0)))]) rfl rfl (by decide) (by decide) (by decide) rfl hl.1 rfl (Nat.le_of_ble_eq_true rfl) dX7_init_29 ⟨Nat.le_of_ble_eq_true rfl, Nat.le_of_ble_eq_true rfl⟩ (fun b5 H locs hb5 hP hD hS => ?_)
    try rw [← hb5]
    replace hP : va_P D vwCl ([(h0, .inr (6, [.ref (q1), .ref (b3 0), .null, .int 0, .int 0, .int 0, .int 0, .int 0])), (q1, .inl (cV, 16, .inr (.inr (.inr (.inr (fun _ => none)))))), (b3 0, .inr (2, [.ref (b3 1), .int (loN log0)])), (b3 1, .inl (cI, 2100, .inl (loC log0))), (b5 0, .inr (2, [.ref (b5 1), .int (loN log0)])), (b5 1, .inl (cI, 2100, .inl (loC log0)))] : va_W) H := hP
    replace hD : va_D A ([(h0, .inr (6, [.ref (q1), .ref (b3 0), .null, .int 0, .int 0, .int 0, .int 0, .int 0])), (q1, .inl (cV, 16, .inr (.inr (.inr (.inr (fun _ => none)))))), (b3 0, .inr (2, [.ref (b3 1), .int (loN log0)])), (b3 1, .inl (cI, 2100, .inl (loC log0))), (b5 0, .inr (2, [.ref (b5 1), .int (loN log0)])), (b5 1, .inl (cI, 2100, .inl (loC log0)))] : va_W) := hD
    refine W.eq (g2 := F0 m 32 ls [.ref (b5 0), .ref (h0)]) rfl ?_
    refine va_put (D := D) (ci := 6) (v := .ref (b5 0)) (ty := (.object "Compactforms$Log")) (C := RX7) (T := TX7) (N := 8) hx hb hg in_X7 tyX7 tyX7_ok nmX7 hown hK hP hD hS 0 rfl rfl 2 (by decide) (hg _ w169) (fun _ h9 => h9) rfl (by decide +kernel) rfl rfl (Nat.le_of_ble_eq_true rfl) dX7_init_32 (fun H locs hP hD hS => ?_)
    replace hP : va_P D vwCl ([(h0, .inr (6, [.ref (q1), .ref (b3 0), .ref (b5 0), .int 0, .int 0, .int 0, .int 0, .int 0])), (q1, .inl (cV, 16, .inr (.inr (.inr (.inr (fun _ => none)))))), (b3 0, .inr (2, [.ref (b3 1), .int (loN log0)])), (b3 1, .inl (cI, 2100, .inl (loC log0))), (b5 0, .inr (2, [.ref (b5 1), .int (loN log0)])), (b5 1, .inl (cI, 2100, .inl (loC log0)))] : va_W) H := hP
    replace hD : va_D A ([(h0, .inr (6, [.ref (q1), .ref (b3 0), .ref (b5 0), .int 0, .int 0, .int 0, .int 0, .int 0])), (q1, .inl (cV, 16, .inr (.inr (.inr (.inr (fun _ => none)))))), (b3 0, .inr (2, [.ref (b3 1), .int (loN log0)])), (b3 1, .inl (cI, 2100, .inl (loC log0))), (b5 0, .inr (2, [.ref (b5 1), .int (loN log0)])), (b5 1, .inl (cI, 2100, .inl (loC log0)))] : va_W) := hD
    refine lv_aload_n hx hb dX7_init_35 rfl (lv_at hl 0 rfl) ?_
    refine lv_iconst (v := 0) hx hb dX7_init_36 (by decide) ?_
    refine va_put (D := D) (ci := 6) (v := .int 0) (ty := .int) (C := RX7) (T := TX7) (N := 8) hx hb hg in_X7 tyX7 tyX7_ok nmX7 hown hK hP hD hS 0 rfl rfl 3 (by decide) (hg _ w170) (fun _ h9 => h9) rfl (by decide +kernel) rfl rfl (Nat.le_of_ble_eq_true rfl) dX7_init_37 (fun H locs hP hD hS => ?_)
    replace hP : va_P D vwCl ([(h0, .inr (6, [.ref (q1), .ref (b3 0), .ref (b5 0), .int 0, .int 0, .int 0, .int 0, .int 0])), (q1, .inl (cV, 16, .inr (.inr (.inr (.inr (fun _ => none)))))), (b3 0, .inr (2, [.ref (b3 1), .int (loN log0)])), (b3 1, .inl (cI, 2100, .inl (loC log0))), (b5 0, .inr (2, [.ref (b5 1), .int (loN log0)])), (b5 1, .inl (cI, 2100, .inl (loC log0)))] : va_W) H := hP
    replace hD : va_D A ([(h0, .inr (6, [.ref (q1), .ref (b3 0), .ref (b5 0), .int 0, .int 0, .int 0, .int 0, .int 0])), (q1, .inl (cV, 16, .inr (.inr (.inr (.inr (fun _ => none)))))), (b3 0, .inr (2, [.ref (b3 1), .int (loN log0)])), (b3 1, .inl (cI, 2100, .inl (loC log0))), (b5 0, .inr (2, [.ref (b5 1), .int (loN log0)])), (b5 1, .inl (cI, 2100, .inl (loC log0)))] : va_W) := hD
    refine lv_aload_n hx hb dX7_init_40 rfl (lv_at hl 0 rfl) ?_
    refine lv_iconst (v := (-1)) hx hb dX7_init_41 (by decide) ?_
    refine va_put (D := D) (ci := 6) (v := .int (-1)) (ty := .int) (C := RX7) (T := TX7) (N := 8) hx hb hg in_X7 tyX7 tyX7_ok nmX7 hown hK hP hD hS 0 rfl rfl 4 (by decide) (hg _ w171) (fun _ h9 => h9) rfl (by decide +kernel) rfl rfl (Nat.le_of_ble_eq_true rfl) dX7_init_42 (fun H locs hP hD hS => ?_)
    replace hP : va_P D vwCl ([(h0, .inr (6, [.ref (q1), .ref (b3 0), .ref (b5 0), .int 0, .int (-1), .int 0, .int 0, .int 0])), (q1, .inl (cV, 16, .inr (.inr (.inr (.inr (fun _ => none)))))), (b3 0, .inr (2, [.ref (b3 1), .int (loN log0)])), (b3 1, .inl (cI, 2100, .inl (loC log0))), (b5 0, .inr (2, [.ref (b5 1), .int (loN log0)])), (b5 1, .inl (cI, 2100, .inl (loC log0)))] : va_W) H := hP
    replace hD : va_D A ([(h0, .inr (6, [.ref (q1), .ref (b3 0), .ref (b5 0), .int 0, .int (-1), .int 0, .int 0, .int 0])), (q1, .inl (cV, 16, .inr (.inr (.inr (.inr (fun _ => none)))))), (b3 0, .inr (2, [.ref (b3 1), .int (loN log0)])), (b3 1, .inl (cI, 2100, .inl (loC log0))), (b5 0, .inr (2, [.ref (b5 1), .int (loN log0)])), (b5 1, .inl (cI, 2100, .inl (loC log0)))] : va_W) := hD
    refine lv_aload_n hx hb dX7_init_45 rfl (lv_at hl 0 rfl) ?_
    refine lv_iconst (v := 0) hx hb dX7_init_46 (by decide) ?_
    refine va_put (D := D) (ci := 6) (v := .int 0) (ty := .int) (C := RX7) (T := TX7) (N := 8) hx hb hg in_X7 tyX7 tyX7_ok nmX7 hown hK hP hD hS 0 rfl rfl 5 (by decide) (hg _ w172) (fun _ h9 => h9) rfl (by decide +kernel) rfl rfl (Nat.le_of_ble_eq_true rfl) dX7_init_47 (fun H locs hP hD hS => ?_)
    replace hP : va_P D vwCl ([(h0, .inr (6, [.ref (q1), .ref (b3 0), .ref (b5 0), .int 0, .int (-1), .int 0, .int 0, .int 0])), (q1, .inl (cV, 16, .inr (.inr (.inr (.inr (fun _ => none)))))), (b3 0, .inr (2, [.ref (b3 1), .int (loN log0)])), (b3 1, .inl (cI, 2100, .inl (loC log0))), (b5 0, .inr (2, [.ref (b5 1), .int (loN log0)])), (b5 1, .inl (cI, 2100, .inl (loC log0)))] : va_W) H := hP
    replace hD : va_D A ([(h0, .inr (6, [.ref (q1), .ref (b3 0), .ref (b5 0), .int 0, .int (-1), .int 0, .int 0, .int 0])), (q1, .inl (cV, 16, .inr (.inr (.inr (.inr (fun _ => none)))))), (b3 0, .inr (2, [.ref (b3 1), .int (loN log0)])), (b3 1, .inl (cI, 2100, .inl (loC log0))), (b5 0, .inr (2, [.ref (b5 1), .int (loN log0)])), (b5 1, .inl (cI, 2100, .inl (loC log0)))] : va_W) := hD
    refine lv_aload_n hx hb dX7_init_50 rfl (lv_at hl 0 rfl) ?_
    refine lv_bipush (v := 15) hx hb dX7_init_51 (by decide) ?_
    refine va_put (D := D) (ci := 6) (v := .int 15) (ty := .int) (C := RX7) (T := TX7) (N := 8) hx hb hg in_X7 tyX7 tyX7_ok nmX7 hown hK hP hD hS 0 rfl rfl 6 (by decide) (hg _ w173) (fun _ h9 => h9) rfl (by decide +kernel) rfl rfl (Nat.le_of_ble_eq_true rfl) dX7_init_53 (fun H locs hP hD hS => ?_)
    replace hP : va_P D vwCl ([(h0, .inr (6, [.ref (q1), .ref (b3 0), .ref (b5 0), .int 0, .int (-1), .int 0, .int 15, .int 0])), (q1, .inl (cV, 16, .inr (.inr (.inr (.inr (fun _ => none)))))), (b3 0, .inr (2, [.ref (b3 1), .int (loN log0)])), (b3 1, .inl (cI, 2100, .inl (loC log0))), (b5 0, .inr (2, [.ref (b5 1), .int (loN log0)])), (b5 1, .inl (cI, 2100, .inl (loC log0)))] : va_W) H := hP
    replace hD : va_D A ([(h0, .inr (6, [.ref (q1), .ref (b3 0), .ref (b5 0), .int 0, .int (-1), .int 0, .int 15, .int 0])), (q1, .inl (cV, 16, .inr (.inr (.inr (.inr (fun _ => none)))))), (b3 0, .inr (2, [.ref (b3 1), .int (loN log0)])), (b3 1, .inl (cI, 2100, .inl (loC log0))), (b5 0, .inr (2, [.ref (b5 1), .int (loN log0)])), (b5 1, .inl (cI, 2100, .inl (loC log0)))] : va_W) := hD
    refine lv_aload_n hx hb dX7_init_56 rfl (lv_at hl 0 rfl) ?_
    refine lv_iconst (v := 0) hx hb dX7_init_57 (by decide) ?_
    refine va_put (D := D) (ci := 6) (v := .int 0) (ty := .int) (C := RX7) (T := TX7) (N := 8) hx hb hg in_X7 tyX7 tyX7_ok nmX7 hown hK hP hD hS 0 rfl rfl 7 (by decide) (hg _ w174) (fun _ h9 => h9) rfl (by decide +kernel) rfl rfl (Nat.le_of_ble_eq_true rfl) dX7_init_58 (fun H locs hP hD hS => ?_)
    replace hP : va_P D vwCl ([(h0, .inr (6, [.ref (q1), .ref (b3 0), .ref (b5 0), .int 0, .int (-1), .int 0, .int 15, .int 0])), (q1, .inl (cV, 16, .inr (.inr (.inr (.inr (fun _ => none)))))), (b3 0, .inr (2, [.ref (b3 1), .int (loN log0)])), (b3 1, .inl (cI, 2100, .inl (loC log0))), (b5 0, .inr (2, [.ref (b5 1), .int (loN log0)])), (b5 1, .inl (cI, 2100, .inl (loC log0)))] : va_W) H := hP
    replace hD : va_D A ([(h0, .inr (6, [.ref (q1), .ref (b3 0), .ref (b5 0), .int 0, .int (-1), .int 0, .int 15, .int 0])), (q1, .inl (cV, 16, .inr (.inr (.inr (.inr (fun _ => none)))))), (b3 0, .inr (2, [.ref (b3 1), .int (loN log0)])), (b3 1, .inl (cI, 2100, .inl (loC log0))), (b5 0, .inr (2, [.ref (b5 1), .int (loN log0)])), (b5 1, .inl (cI, 2100, .inl (loC log0)))] : va_W) := hD
    refine lv_iconst (v := 0) hx hb dX7_init_61 (by decide) ?_
    refine lv_istore_n (lv' := [(1, .int 0), (0, .ref (h0))]) hx hb dX7_init_62 rfl hl (by decide) rfl (fun ls hl => ?_)
    exact L63 (fun j => match j with | 0 => h0 | 1 => q1 | 2 => b3 0 | 3 => b3 1 | 4 => b5 0 | _ => b5 1) rfl 16 0 rfl (fun _ => none) (fun _ _ => 0) H locs ls (fun k hk => absurd hk (Nat.not_lt_zero k)) (hP.sub [0, 1, 2, 3, 4, 5] rfl) (hD.sub [0, 1, 2, 3, 4, 5] (by decide) rfl) hS (lv_sub hl [0, 1] rfl)
  exact M0 s.heap [] ls hP hD hS hl

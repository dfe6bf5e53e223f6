/-! the law from its entry -/
section KJ
variable {p : Program} {l : Launch} {e : Env} {R : Room} {s : State} {m : MethodId} {args : Array Value} {below : List Frame} {meth : Method} {c : Code} {H : Heap} {locs : List Loc} {cells slots : Nat} {Q : State → Prop}
variable {pc : Nat} {ls : Array Slot} {rest st0 : List Value} {a : Array Value} {A0 : Nat → Prop} {D : va_G} {tys : List (ClassId × FieldType)} {ws wc wr : va_W} {Wf : (Nat → Nat) → va_W} {mc ms : Nat} {h0 : Nat}
variable {y : MethodName} {b cc : ByteArray} {ml nL n index : Nat} {rm : Room} {own host : String} {As : List Value} {c0 : Cond}
theorem k_newJ {cc : ByteArray} (hexec : p.tables.exec = Jvm.exec) (hb : c.code = cc) (harr : (Cond.arrayClass .long).before args s = true) {cJ : ClassId} (hK : va_K D vwCl tys s) (t0 : Nat) (ht : tys[t0]? = some (cJ, .long)) (hP : va_P D vwCl ws H) (hD : va_D A0 ws) {H0 : Heap} (hS : va_S A0 H0 H locs) (hA : ∀ q, H0.size ≤ q → A0 q)
    {n : Int32} {N' : Nat} (hn : ¬ n < 0) (hN : n.toNatClampNeg = N') (hbytes : N' * componentBytes .long ≤ 536870912) (hcells : cells + 1 ≤ R.cells) (hslots : slots + N' ≤ R.slots) (hdg : decode cc pc = .ok (.newarray .long, 2))
    (kk : ∀ (q : Nat) (H1 : Heap), va_P D vwCl (ws ++ [(q, .inl (cJ, N', .inr (.inl (fun _ => 0))))]) H1 → va_D A0 (ws ++ [(q, .inl (cJ, N', .inr (.inl (fun _ => 0))))]) → va_S A0 H0 H1 locs → W p l e R s m args below meth c H1 locs (cells + 1) (slots + N') Q (F0 m (pc + 2) ls (.ref q :: rest))) :
    W p l e R s m args below meth c H locs cells slots Q (F0 m pc ls (.int n :: rest)) := by
  refine va_newa (atype := .long) hexec hb harr rfl hK hP hD hS hA (a0 := (N', .inr (.inl (fun _ => 0)))) (fun cA => rfl) hn hN hbytes hcells hslots hdg (fun q cA H1 hK2 hP2 hD2 hS2 => ?_)
  have e1 : s.vm.findClass ("[" ++ FieldType.long.toString) = some cA := (hK2.2 tys.length (cA, .long) (by rw [List.getElem?_append_right (Nat.le_refl _), Nat.sub_self]; rfl)).2
  have e2 : s.vm.findClass ("[" ++ FieldType.long.toString) = some cJ := (hK.2 t0 _ ht).2
  cases Option.some.inj (e1.symm.trans e2)
  exact kk q H1 hP2 hD2 hS2
theorem k_newD {cc : ByteArray} (hexec : p.tables.exec = Jvm.exec) (hb : c.code = cc) (harr : (Cond.arrayClass .double).before args s = true) {cD : ClassId} (hK : va_K D vwCl tys s) (t0 : Nat) (ht : tys[t0]? = some (cD, .double)) (hP : va_P D vwCl ws H) (hD : va_D A0 ws) {H0 : Heap} (hS : va_S A0 H0 H locs) (hA : ∀ q, H0.size ≤ q → A0 q)
    {n : Int32} {N' : Nat} (hn : ¬ n < 0) (hN : n.toNatClampNeg = N') (hbytes : N' * componentBytes .double ≤ 536870912) (hcells : cells + 1 ≤ R.cells) (hslots : slots + N' ≤ R.slots) (hdg : decode cc pc = .ok (.newarray .double, 2))
    (kk : ∀ (q : Nat) (H1 : Heap), va_P D vwCl (ws ++ [(q, .inl (cD, N', .inr (.inr (.inr (.inl (fun _ => 0))))))]) H1 → va_D A0 (ws ++ [(q, .inl (cD, N', .inr (.inr (.inr (.inl (fun _ => 0))))))]) → va_S A0 H0 H1 locs → W p l e R s m args below meth c H1 locs (cells + 1) (slots + N') Q (F0 m (pc + 2) ls (.ref q :: rest))) :
    W p l e R s m args below meth c H locs cells slots Q (F0 m pc ls (.int n :: rest)) := by
  refine va_newa (atype := .double) hexec hb harr rfl hK hP hD hS hA (a0 := (N', .inr (.inr (.inr (.inl (fun _ => 0)))))) (fun cA => rfl) hn hN hbytes hcells hslots hdg (fun q cA H1 hK2 hP2 hD2 hS2 => ?_)
  have e1 : s.vm.findClass ("[" ++ FieldType.double.toString) = some cA := (hK2.2 tys.length (cA, .double) (by rw [List.getElem?_append_right (Nat.le_refl _), Nat.sub_self]; rfl)).2
  have e2 : s.vm.findClass ("[" ++ FieldType.double.toString) = some cD := (hK.2 t0 _ ht).2
  cases Option.some.inj (e1.symm.trans e2)
  exact kk q H1 hP2 hD2 hS2
end KJ
theorem st_NWF : ∀ q ∈ NWF, Cond.fieldLinkNest q.1 q.2.1 q.2.2.1 q.2.2.2.1 q.2.2.2.2.1 q.2.2.2.2.2 ∈ lw_tbl := by decide +kernel
theorem st_NWM : ∀ q ∈ NWM, Cond.methodLinkNest q.1 q.2.1 q.2.2.1 q.2.2.2 ∈ lw_tbl := by decide +kernel
theorem st_NWD : ∀ q ∈ NWD ++ NWJ, Cond.declares q ∈ lw_tbl := by decide +kernel
theorem st_SR : ∀ q ∈ STL, Cond.stringRef "Compactforms" q.1 q.2 ∈ lw_tbl := by decide +kernel
theorem st_XN : ∀ n ∈ XN, Cond.castable n n ∈ lw_tbl := by decide +kernel
theorem st_NX : ∀ a ∈ XN, ∀ b ∈ XN, a ≠ b → Cond.not (Cond.castable a b) ∈ flatC (Cond.and given_1 narrow_1) := by decide +kernel
theorem st_EX : ∀ q ∈ STL, Cond.exactly (Term.string "Compactforms" q.1) "java/lang/String" ∈ flatC (Cond.and given_1 narrow_1) := by decide +kernel
theorem st_US : Cond.isRef (.static Bundle.tN "UNASSIGNED_STACK" Bundle.steD) ∈ flatC (Cond.and given_1 narrow_1) := by decide +kernel
theorem st_SS : Cond.isRef (.static Bundle.tN "SUPPRESSED_SENTINEL" Bundle.listD) ∈ flatC (Cond.and given_1 narrow_1) := by decide +kernel
theorem st_evt {s : State} {args : Array Value} (hts : ∀ w ∈ lw_tbl, w.before args s = true) (hn : (Cond.and given_1 narrow_1).before args s = true) : EVT s := by
  have hf := flat_of_before _ hn
  refine ⟨fun q hq => va_Nw.of rfl (hts _ (st_NWF q hq)), fun q hq => va_Nw.of rfl (hts _ (st_NWM q hq)), fun q hq => va_Nw.of rfl (hts _ (st_NWD q hq)), fun q hq => ?_, fun n hn => va_Nw.of rfl (hts _ (st_XN n hn)), fun a ha b hb ne => va_Nc.of (hf _ (st_NX a ha b hb ne)), va_AO.of (hts _ m29)⟩
  obtain ⟨a, c, cell, k, e, -⟩ := Cond.exactly_spec (hf _ (st_EX q hq))
  exact ⟨a, vk_R.of (hts _ (st_SR q hq)) e⟩
theorem st_ev {s : State} {args : Array Value} (hts : ∀ w ∈ lw_tbl, w.before args s = true) (hn : (Cond.and given_1 narrow_1).before args s = true) : EV (fun q => s.heap.size ≤ q) s := by
  have hf := flat_of_before _ hn
  exact ⟨st_evt hts hn, vx_Zqof (hts _ m479) (hts _ m10) (hf _ st_US) (fun a h => Nat.not_le.mpr h), vx_Zqof (hts _ m481) (hts _ m10) (hf _ st_SS) (fun a h => Nat.not_le.mpr h)⟩
/-- classes and array classes, as the tables have them -/
theorem st_K {s : State} {args : Array Value} (hg : ∀ w ∈ GW, w.before args s = true) (hAO : va_AO "Compactforms$Value" s) : ∃ (D : va_G) (cI cV cJ cD : ClassId), va_K D vwCl (TY cI cV cJ cD) s := by
  have hex : ∀ k : Nat, ∃ z : ClassId × (Nat → Nat), ∀ q : vw_C, vwCl[k]? = some q → u_Kn s q.1 q.2.1 q.2.2 z.1 z.2 := by
    intro k
    match k with
    | 0 =>
      obtain ⟨c, iS, h⟩ := u_known (C := RX0) (T := TX0) (N := 5) (n := 5) hg in_X0 (hg _ w71)
      exact ⟨(c, iS), fun q hq => by cases hq; exact h⟩
    | 1 =>
      obtain ⟨c, iS, h⟩ := u_known (C := RX2) (T := TX2) (N := 2) (n := 2) hg in_X2 (hg _ w115)
      exact ⟨(c, iS), fun q hq => by cases hq; exact h⟩
    | 2 =>
      obtain ⟨c, iS, h⟩ := u_known (C := RX3) (T := TX3) (N := 2) (n := 2) hg in_X3 (hg _ w31)
      exact ⟨(c, iS), fun q hq => by cases hq; exact h⟩
    | 3 =>
      obtain ⟨c, iS, h⟩ := u_known (C := RX4) (T := TX4) (N := 3) (n := 3) hg in_X4 (hg _ w51)
      exact ⟨(c, iS), fun q hq => by cases hq; exact h⟩
    | 4 =>
      obtain ⟨c, iS, h⟩ := u_known (C := RX5) (T := TX5) (N := 5) (n := 5) hg in_X5 (hg _ w93)
      exact ⟨(c, iS), fun q hq => by cases hq; exact h⟩
    | 5 =>
      obtain ⟨c, iS, h⟩ := u_known (C := RX6) (T := TX6) (N := 10) (n := 10) hg in_X6 (hg _ w45)
      exact ⟨(c, iS), fun q hq => by cases hq; exact h⟩
    | 6 =>
      obtain ⟨c, iS, h⟩ := u_known (C := RX7) (T := TX7) (N := 8) (n := 8) hg in_X7 (hg _ w21)
      exact ⟨(c, iS), fun q hq => by cases hq; exact h⟩
    | 7 =>
      obtain ⟨c, iS, h⟩ := u_known (C := RX8) (T := TX8) (N := 24) (n := 24) hg in_X8 (hg _ w820)
      exact ⟨(c, iS), fun q hq => by cases hq; exact h⟩
    | k + 8 => exact ⟨(0, fun _ => 0), fun q hq => by simp [vwCl] at hq⟩
  obtain ⟨cI, kI, pI, i1, i2, i3⟩ := Cond.arrayClass_spec (hg _ w44)
  obtain ⟨cJ, kJ, pJ, j1, j2, j3⟩ := Cond.arrayClass_spec (hg _ w1168)
  obtain ⟨cD, kD, pD, d1, d2, d3⟩ := Cond.arrayClass_spec (hg _ w1169)
  obtain ⟨pV, cV, kV, v1, v2, v3, v4, v5⟩ := Cond.arrayOver_spec hAO
  refine ⟨(fun k => (Classical.choose (hex k)).1, fun k => (Classical.choose (hex k)).2), cI, cV, cJ, cD, fun k q hq => Classical.choose_spec (hex k) q hq, fun k q hq => ?_⟩
  match k, hq with
  | 0, hq => cases hq; exact ⟨fun n z => ⟨fun k h => (by cases h), kI, i2, pI, i3⟩, i1⟩
  | 1, hq => cases hq; exact ⟨fun n z => ⟨fun k h => (by cases h), kV, v3, pV, v4⟩, ⟨kV, pV, v3, v4, v1, v5⟩⟩
  | 2, hq => cases hq; exact ⟨fun n z => ⟨fun k h => (by cases h), kJ, j2, pJ, j3⟩, j1⟩
  | 3, hq => cases hq; exact ⟨fun n z => ⟨fun k h => (by cases h), kD, d2, pD, d3⟩, d1⟩
  | k + 4, hq => simp at hq
theorem st_perm {S M o d : va_W} : (((S ++ M) ++ o) ++ d).Perm (M ++ (o ++ (d ++ S))) := by
  have e1 : ((S ++ M) ++ o) ++ d = S ++ (M ++ (o ++ d)) := by simp only [List.append_assoc]
  have e2 : (M ++ (o ++ d)) ++ S = M ++ (o ++ (d ++ S)) := by simp only [List.append_assoc]
  rw [e1, ← e2]
  exact List.perm_append_comm
set_option maxHeartbeats 4000000 in
set_option maxRecDepth 100000 in
theorem whole_start {p : Program} {e : Env} {s : State} {m : MethodId} {below : List Frame} {meth : Method} {c : Code} (l : Launch) (hflags : l.flags = flags0) {b L : Nat} {xs : Nat → Int32} (hL : L ≤ 2560) (C0 : lw_At p s m meth c b L xs) : W p l e room_1 s m #[Value.ref b] below meth c s.heap [] 0 0 (lw_Z below #[Value.ref b] s) (entryFrame m ([Value.ref b] : List Value).toArray 8) := by
  obtain ⟨hx, hb, hr, hml, hown, hts, hX, hbl, hlocks, hgv⟩ := id C0
  have hlt : l.stackTraces = false := by
    unfold Launch.stackTraces
    rw [hflags]
    decide +kernel
  have hg : ∀ w ∈ GW, w.before #[Value.ref b] s = true := fun w h => hts w (List.mem_filter.mp h).1
  have hts2 : ∀ w ∈ Cond.initialized "CompactformsLaw" :: GW, w.before #[Value.ref b] s = true := fun w h => by
    rcases List.mem_cons.mp h with q | q
    · rw [q]; exact hg _ w0
    · exact hg _ q
  obtain ⟨D, cI, cV, cJ, cD, hK⟩ := st_K hg (va_AO.of (hts _ m29))
  have hE0 := st_ev hts hgv
  obtain ⟨A, hAe⟩ : ∃ A : Nat → Prop, A = fun q => s.heap.size ≤ q := ⟨_, rfl⟩
  have hE : EV A s := by rw [hAe]; exact hE0
  have hA : ∀ q : Nat, s.heap.size ≤ q → A q := fun q h => by rw [hAe]; exact h
  have hAs : ∀ q : Nat, A q → s.heap.size ≤ q := fun q h => by rw [hAe] at h; exact h
  have hS : va_S A s.heap s.heap [] := va_S.rf
  have hP : va_P D vwCl ([] : va_W) s.heap := fun k q h => by simp at h
  have hD : va_D A ([] : va_W) := ⟨fun i j p q h => by simp at h, fun k q h => by simp at h⟩
  have hl := lv_entry ([.ref b]) (n := 8) (Nat.le_of_ble_eq_true rfl)
  rw [lg_entry_eq]
  generalize (lg_sl ([.ref b]) ++ List.replicate (8 - (lg_sl ([.ref b])).length) Slot.unset).toArray = ls at hl ⊢
  have hl : lv_has ls 8 [(0, .ref b)] := hl
  refine va_new (ci := 6) (fs := [.null, .null, .null, .int 0, .int 0, .int 0, .int 0, .int 0]) (C := RX7) (T := TX7) (N := 8) hx hb hg in_X7 tyX7 tyX7_ok hown (hg _ w20) (hg _ w21) (hg _ w1) hK hP hD hS hA rfl (by intro j hj; match j, hj with | 0, _ => rfl | 1, _ => rfl | 2, _ => rfl | 3, _ => rfl | 4, _ => rfl | 5, _ => rfl | 6, _ => rfl | 7, _ => rfl | (j + 8), hj => exact absurd hj (by omega)) (Nat.le_of_ble_eq_true rfl) (Nat.le_of_ble_eq_true rfl) dL_law_0 (fun q1 H hP hD hS => ?_)
  replace hP : va_P D vwCl ([(q1, .inr (6, [.null, .null, .null, .int 0, .int 0, .int 0, .int 0, .int 0]))] : va_W) H := hP
  replace hD : va_D A ([(q1, .inr (6, [.null, .null, .null, .int 0, .int 0, .int 0, .int 0, .int 0]))] : va_W) := hD
  refine lv_dup hx hb dL_law_3 rfl ?_
  refine k_IG (As := []) (rest := [.ref q1]) (n := 0) ⟨hx, hb, hml, hown, hts2⟩ (ctor_X7_init l q1) w22 w23 w1 w24 rfl ⟨by decide +kernel, by decide +kernel, by decide +kernel⟩ ⟨Nat.le_of_ble_eq_true rfl, Nat.le_of_ble_eq_true rfl⟩ hK hE hP hD hS hA (isC := [0]) (isR := []) (wr := []) rfl rfl (by decide) (by decide) (by decide) rfl hl.1 rfl (Nat.le_of_ble_eq_true rfl) dL_law_4 ⟨Nat.le_of_ble_eq_true rfl, Nat.le_of_ble_eq_true rfl⟩ (fun ix H1 locs1 hix hP1 hD1 hS1 => ?_)
  obtain ⟨a, ad, vf⟩ := ix
  obtain ⟨ha, hvf⟩ := hix
  dsimp only at ha hvf
  subst ha
  have hP : va_P D vwCl (W_S cI cV vf a ad server0) H1 := hP1
  have hD : va_D A (W_S cI cV vf a ad server0) := hD1
  have hS := hS1
  refine W.eq (g2 := F0 m 7 ls [.ref (a 0)]) rfl ?_
  refine lv_astore_n (lv' := [(1, .ref (a 0)), (0, .ref b)]) hx hb dL_law_7 rfl hl (by decide) rfl (fun ls hl => ?_)
  refine va_new (ci := 7) (fs := [.int 0, .int 0, .null, .null, .null, .null, .null, .null, .null, .null, .null, .null, .null, .int 0, .int 0, .int 0, .null, .int 0, .int 0, .int 0, .int 0, .null, .null, .int 0]) (C := RX8) (T := TX8) (N := 24) hx hb hg in_X8 tyX8 tyX8_ok hown (hg _ w819) (hg _ w820) (hg _ w9) hK hP hD hS hA rfl (by intro j hj; match j, hj with | 0, _ => rfl | 1, _ => rfl | 2, _ => rfl | 3, _ => rfl | 4, _ => rfl | 5, _ => rfl | 6, _ => rfl | 7, _ => rfl | 8, _ => rfl | 9, _ => rfl | 10, _ => rfl | 11, _ => rfl | 12, _ => rfl | 13, _ => rfl | 14, _ => rfl | 15, _ => rfl | 16, _ => rfl | 17, _ => rfl | 18, _ => rfl | 19, _ => rfl | 20, _ => rfl | 21, _ => rfl | 22, _ => rfl | 23, _ => rfl | (j + 24), hj => exact absurd hj (by omega)) (Nat.le_of_ble_eq_true rfl) (Nat.le_of_ble_eq_true rfl) dL_law_8 (fun q2 H hP hD hS => ?_)
  refine lv_dup hx hb dL_law_11 rfl ?_
  generalize hws : W_S cI cV vf a ad server0 = ws at hP hD
  have hP := hP.perm (List.perm_append_comm (l₁ := ws))
  have hD := hD.perm (List.perm_append_comm (l₁ := ws))
  refine k_I (As := []) (rest := [.ref q2]) (n := 0) ⟨hx, hb, hml, hown, hts2⟩ (ctor_X8_init l q2) w821 w822 w9 w823 rfl ⟨by decide +kernel, by decide +kernel, by decide +kernel⟩ ⟨Nat.le_of_ble_eq_true rfl, Nat.le_of_ble_eq_true rfl⟩ hK hE hP hD hS hA (isC := [0]) (isR := (List.range ws.length).map (fun i => 1 + i)) (wr := ws) rfl (range_right [(q2, .inr (7, [.int 0, .int 0, .null, .null, .null, .null, .null, .null, .null, .null, .null, .null, .null, .int 0, .int 0, .int 0, .null, .int 0, .int 0, .int 0, .int 0, .null, .null, .int 0]))] ws) (nd_of (List.pairwise_map.mpr (List.nodup_range.imp fun h e => h (by omega)))) (by decide) (by intro i9 h9 h8; obtain ⟨j, _, rfl⟩ := List.mem_map.mp h9; simp at h8) rfl hl.1 rfl (Nat.le_of_ble_eq_true rfl) dL_law_12 ⟨Nat.le_of_ble_eq_true rfl, Nat.le_of_ble_eq_true rfl⟩ (fun am H locs ham hP hD hS => ?_)
  rw [← ham]
  refine W.eq (g2 := F0 m 15 ls [.ref (am 0)]) rfl ?_
  refine lv_astore_n (lv' := [(2, .ref (am 0)), (1, .ref (a 0)), (0, .ref b)]) hx hb dL_law_15 rfl hl (by decide) rfl (fun ls hl => ?_)
  refine lv_iconst (v := 1) hx hb dL_law_16 (by decide) ?_
  refine k_newJ hx hb (hg _ w1168) hK 2 rfl hP hD hS hA (N' := 1) (by decide) (by decide) (by decide) (Nat.le_of_ble_eq_true rfl) (Nat.le_of_ble_eq_true rfl) dL_law_17 (fun ao H hP hD hS => ?_)
  refine lv_astore_n (lv' := [(3, .ref ao), (2, .ref (am 0)), (1, .ref (a 0)), (0, .ref b)]) hx hb dL_law_19 rfl hl (by decide) rfl (fun ls hl => ?_)
  refine lv_iconst (v := 1) hx hb dL_law_20 (by decide) ?_
  refine k_newD hx hb (hg _ w1169) hK 3 rfl hP hD hS hA (N' := 1) (by decide) (by decide) (by decide) (Nat.le_of_ble_eq_true rfl) (Nat.le_of_ble_eq_true rfl) dL_law_21 (fun aod H hP hD hS => ?_)
  refine lv_astore (lv' := [(4, .ref aod), (3, .ref ao), (2, .ref (am 0)), (1, .ref (a 0)), (0, .ref b)]) hx hb dL_law_23 hl (by decide) rfl (fun ls hl => ?_)
  refine lv_iconst (v := 0) hx hb dL_law_25 (by decide) ?_
  refine lv_istore (lv' := [(5, .int 0), (4, .ref aod), (3, .ref ao), (2, .ref (am 0)), (1, .ref (a 0)), (0, .ref b)]) hx hb dL_law_26 hl (by decide) rfl (fun ls hl => ?_)
  have hP := hP.perm st_perm
  have hD := hD.perm st_perm
  rw [← hws] at hP hD
  refine W.widen (k := 400) (n := 60000) (Nat.le_of_ble_eq_true rfl) (Nat.le_of_ble_eq_true rfl) ?_
  exact law_loop (x := (server0, model0, fun _ => 0, fun _ => 0)) hlt hx hb hr hlocks hml hown hts2 hK hE hA hAs hX hbl hvf FU 400 60000 (Nat.le_of_ble_eq_true rfl) (Nat.le_of_ble_eq_true rfl) 0 a H _ ls (law_true L xs hL ivx_start) hP hD hS (lv_sub hl [5, 4, 3, 2, 1, 0] rfl)

/-! methods that throw: results, calls, throws -/
def thr {α β : Type} (r : α ⊕ Nat) (kx : Nat → Option β) (k : α → Option β) : Option β := match r with
  | .inl v => k v
  | .inr j => kx j
theorem thr_x {α β : Type} {r : α ⊕ Nat} {kx : Nat → Option β} {k : α → Option β} {q : Option β} {j : Nat} (hf : thr r kx k = q) (h : r = .inr j) : kx j = q := by subst h; exact hf
theorem thr_v {α β : Type} {r : α ⊕ Nat} {kx : Nat → Option β} {k : α → Option β} {q : Option β} {v : α} (hf : thr r kx k = q) (h : r = .inl v) : k v = q := by subst h; exact hf
def exN (k : Nat) : String := XN.getD k ""
def rsI (r : Int32 ⊕ Nat) : Option Value ⊕ String := match r with
  | .inl v => .inl (some (.int v))
  | .inr k => .inr (exN k)
def rsV (r : Int32 ⊕ Nat) : Option Value ⊕ String := match r with
  | .inl _ => .inl none
  | .inr k => .inr (exN k)
def rsF (r : UInt32 ⊕ Nat) : Option Value ⊕ String := match r with
  | .inl v => .inl (some (.float v))
  | .inr k => .inr (exN k)
theorem rsI_x {r : Int32 ⊕ Nat} {E : String} (h : rsI r = .inr E) : ∃ k, r = .inr k ∧ E = exN k := by
  cases r with
  | inl v => cases h
  | inr k => exact ⟨k, rfl, (Sum.inr.inj h).symm⟩
theorem rsV_x {r : Int32 ⊕ Nat} {E : String} (h : rsV r = .inr E) : ∃ k, r = .inr k ∧ E = exN k := by
  cases r with
  | inl v => cases h
  | inr k => exact ⟨k, rfl, (Sum.inr.inj h).symm⟩
theorem rsF_x {r : UInt32 ⊕ Nat} {E : String} (h : rsF r = .inr E) : ∃ k, r = .inr k ∧ E = exN k := by
  cases r with
  | inl v => cases h
  | inr k => exact ⟨k, rfl, (Sum.inr.inj h).symm⟩
theorem rsI_v {r : Int32 ⊕ Nat} {o : Option Value} (h : rsI r = .inl o) : ∃ v, r = .inl v ∧ o = some (.int v) := by
  cases r with
  | inl v => exact ⟨v, rfl, (Sum.inl.inj h).symm⟩
  | inr k => cases h
theorem rsV_v {r : Int32 ⊕ Nat} {o : Option Value} (h : rsV r = .inl o) : ∃ v, r = .inl v ∧ o = none := by
  cases r with
  | inl v => exact ⟨v, rfl, (Sum.inl.inj h).symm⟩
  | inr k => cases h
theorem rsF_v {r : UInt32 ⊕ Nat} {o : Option Value} (h : rsF r = .inl o) : ∃ v, r = .inl v ∧ o = some (.float v) := by
  cases r with
  | inl v => exact ⟨v, rfl, (Sum.inl.inj h).symm⟩
  | inr k => cases h
def thrN : List String := ["java/lang/RuntimeException", "java/lang/Exception"]
def thrB : List Cond := NWJ.map Cond.declares ++ XN.map (fun n => Cond.castable n n)
theorem thrB_ok {args : Array Value} {s : State} (hE : EVT s) : ∀ w ∈ thrB, w.before args s = true := by
  intro w hw
  rcases List.mem_append.mp hw with h | h
  · obtain ⟨q, hq, rfl⟩ := List.mem_map.mp h
    exact va_Nw.use rfl (hE.2.2.1 q (List.mem_append_right _ hq))
  · obtain ⟨n, hn, rfl⟩ := List.mem_map.mp h
    exact va_Nw.use rfl (hE.2.2.2.2.1 n hn)
section CX
variable {p : Program} {l : Launch} {e : Env} {R : Room} {s : State} {m : MethodId} {args : Array Value} {below : List Frame} {meth : Method} {c : Code} {H : Heap} {locs : List Loc} {cells slots : Nat} {Q : State → Prop}
variable {pc : Nat} {ls : Array Slot} {rest st0 : List Value} {a : Array Value} {A0 A : Nat → Prop} {D : va_G} {tys : List (ClassId × FieldType)} {ws wc w1 ws' : va_W} {rs : Option Value ⊕ String} {mc ms : Nat}
theorem k_callX (hr : vx_Run p l e R s m args below meth c H locs cells slots mc ms (F0 m pc ls st0) rest (QR D tys w1 (va_A wc H.size) rs a) (XR D tys w1 (va_A wc H.size) rs) (va_A wc H.size))
    (hP : va_P D vwCl ws H) (hD : va_D A0 ws) (hS : va_S A0 s.heap H locs) (hA : ∀ q, s.heap.size ≤ q → A0 q) {isC isR isB : List Nat} (hc : Cut ws wc w1 ws' isC isR isB)
    (kx : ∀ (E : String) (ce : Cell) (q9 : Addr) (H1 : Heap) (locs1 : List Loc), rs = .inr E → va_P D vwCl ws' H1 → va_D A0 ws' → va_S A0 s.heap H1 locs1 → H1[q9]? = some ce → ce.vm = .none → s.vm.findClass E = some ce.cls → vx_W p l e R s m args below meth c H1 locs1 (cells + mc) (slots + ms) Q (F0 m pc ls rest) q9)
    (kk : ∀ (rv : Option Value) (H1 : Heap) (locs1 : List Loc), rs = .inl rv → va_P D vwCl ws' H1 → va_D A0 ws' → va_S A0 s.heap H1 locs1 → W p l e R s m args below meth c H1 locs1 (cells + mc) (slots + ms) Q (F0 m (pc + 3) ls (rv.toList ++ rest))) :
    W p l e R s m args below meth c H locs cells slots Q (F0 m pc ls st0) := by
  obtain ⟨wr, hC, hR, hn, hnC, hdis, hB, hnB⟩ := hc
  have hF := va_free (wc := wc) hD hS hA isC hC
  have go : ∀ (t T' : State) (L : List Loc) (st₀ : State), st₀.heap = H → T'.heap = t.heap → (∀ q ∈ L, va_A wc H.size q.base) → va_P D vwCl w1 t.heap → va_D (va_A wc H.size) w1 → va_F (va_A wc H.size) st₀ t → va_P D vwCl ws' T'.heap ∧ va_D A0 ws' ∧ va_S A0 s.heap T'.heap (locs ++ L) := by
    intro t T' L st₀ h0 e1 hL hP1 hD1 hFr
    obtain ⟨hz, hk⟩ := hFr
    rw [h0] at hz hk
    obtain ⟨hPj, hDj⟩ := va_join hP hD isC isR hC hR hn hdis hk hF hP1 hD1
    refine ⟨by rw [e1]; exact hPj.sub isB (Cut.pick hB), hDj.sub isB hnB hB, Nat.le_trans hS.1 (by rw [e1]; exact hz), fun q h1 h2 => by rw [e1, hk q (Nat.lt_of_lt_of_le h1 hS.1) (fun z => h2 (hF q z))]; exact hS.2.1 q h1 h2, fun q hq => ?_⟩
    rcases List.mem_append.mp hq with h | h
    · exact hS.2.2 q h
    · exact hF _ (hL q h)
  intro T hT X
  rcases hr T hT X with ⟨v, st₀, t, T', L, h0, X', hL, e1, e2, ⟨rv, hrs, hv, hP1, -, hD1, hFr⟩, st⟩ | ⟨q, st₀, t, T', L, E, ce, h0, X', hL, e1, e2, ⟨hrs, hP1, -, hD1, hFr⟩, hce, hcv, hcl, st⟩
  · cases hv
    obtain ⟨g1, g2, g3⟩ := go t T' L st₀ h0 e1 hL hP1 hD1 hFr
    obtain ⟨t2, a1, b1⟩ := kk _ T'.heap (locs ++ L) hrs g1 g2 g3 T' rfl X'
    exact ⟨t2, st t2 a1, b1⟩
  · obtain ⟨g1, g2, g3⟩ := go t T' L st₀ h0 e1 hL hP1 hD1 hFr
    obtain ⟨t2, a1, b1⟩ := kx E ce q T'.heap (locs ++ L) hrs g1 g2 g3 (by rw [e1]; exact hce) hcv hcl T' rfl X'
    exact ⟨t2, st.trans a1, b1⟩
variable {y : MethodName} {b cc : ByteArray} {ml nL n index : Nat} {ret : Option FieldType} {rm : Room} {own C : String} {h0 : Addr} {As : List Value} {c0 : Cond}
theorem k_VX (S : CallFix p m c cc nL s args (c0 :: GW) own) (hM : MX l y b ml ret rm D tys wc w1 (.ref h0 :: As) rs) (h1 : Cond.methodLink own index y ∈ GW) (h2 : Cond.instanceMethod y ∈ GW) (h3 : Cond.selects C y y ∈ GW) (h4 : Cond.initialized C ∈ GW) (h5 : Cond.code y b ml ret ∈ GW)
    (hd : y.cls = C ∧ y.cls ≠ "java/lang/invoke/MethodHandle" ∧ y.cls ≠ "java/lang/invoke/VarHandle" ∧ (parseMethodDescriptor y.desc).map (fun d => d.parameters.length) = some n) (hRm : rm.frames + 1 ≤ R.frames ∧ 8 + (ml + 11) + rm.locals ≤ R.locals)
    (hK : va_K D vwCl tys s) (hE : EV A0 s) (hP : va_P D vwCl ws H) (hD : va_D A0 ws) (hS : va_S A0 s.heap H locs) (hA : ∀ q, s.heap.size ≤ q → A0 q) {isC isR isB : List Nat} (hc : Cut ws wc w1 ws' isC isR isB)
    (q0 ci : Nat) {vc : vw_C} {fs : List Value} (hci : vwCl[ci]? = some vc) (hvc : vc.1 = C) (hq0 : ws[q0]? = some (h0, .inr (ci, fs))) (hn : As.length = n) (hls : ls.size = nL) (hst : st0 = As.reverse ++ .ref h0 :: rest) (hroom : (rest.map fun v => v.category).sum ≤ 8)
    (hdg : decode cc pc = .ok (.invokevirtual index, 3)) (hf : cells + rm.cells ≤ R.cells ∧ slots + rm.slots ≤ R.slots)
    (kx : ∀ (E : String) (ce : Cell) (q9 : Addr) (H1 : Heap) (locs1 : List Loc), rs = .inr E → va_P D vwCl ws' H1 → va_D A0 ws' → va_S A0 s.heap H1 locs1 → H1[q9]? = some ce → ce.vm = .none → s.vm.findClass E = some ce.cls → vx_W p l e R s m args below meth c H1 locs1 (cells + rm.cells) (slots + rm.slots) Q (F0 m pc ls rest) q9)
    (kk : ∀ (rv : Option Value) (H1 : Heap) (locs1 : List Loc), rs = .inl rv → va_P D vwCl ws' H1 → va_D A0 ws' → va_S A0 s.heap H1 locs1 → W p l e R s m args below meth c H1 locs1 (cells + rm.cells) (slots + rm.slots) Q (F0 m (pc + 3) ls (rv.toList ++ rest))) :
    W p l e R s m args below meth c H locs cells slots Q (F0 m pc ls st0) := by
  refine k_callX (a := (Value.ref h0 :: As).toArray) (vx_runV S (hM H.size) (cwV n S.2.2.2.2 (gd_V h1 h2 h3 h4 h5) rfl rfl rfl hd hRm) ⟨pw_blind, ?_, k_pre hK hE hP hD hS hA hc _⟩ rfl hn hls hst (by simpa using hroom) hdg hf) hP hD hS hA hc kx kk
  have h9 := va_recv hK hP hci hq0
  rw [hvc] at h9
  exact h9
theorem k_SX (S : CallFix p m c cc nL s args (c0 :: GW) own) (hM : MX l y b ml ret rm D tys wc w1 As rs) (h1 : Cond.methodLink own index y ∈ GW) (h2 : Cond.static y ∈ GW) (h4 : Cond.initialized y.cls ∈ GW) (h5 : Cond.code y b ml ret ∈ GW)
    (hd : y.cls ≠ "java/lang/invoke/MethodHandle" ∧ y.cls ≠ "java/lang/invoke/VarHandle" ∧ (parseMethodDescriptor y.desc).map (fun d => d.parameters.length) = some n) (hRm : rm.frames + 1 ≤ R.frames ∧ 8 + (ml + 11) + rm.locals ≤ R.locals)
    (hK : va_K D vwCl tys s) (hE : EV A0 s) (hP : va_P D vwCl ws H) (hD : va_D A0 ws) (hS : va_S A0 s.heap H locs) (hA : ∀ q, s.heap.size ≤ q → A0 q) {isC isR isB : List Nat} (hc : Cut ws wc w1 ws' isC isR isB)
    (hn : As.length = n) (hls : ls.size = nL) (hst : st0 = As.reverse ++ rest) (hroom : (rest.map fun v => v.category).sum ≤ 8)
    (hdg : decode cc pc = .ok (.invokestatic index, 3)) (hf : cells + rm.cells ≤ R.cells ∧ slots + rm.slots ≤ R.slots)
    (kx : ∀ (E : String) (ce : Cell) (q9 : Addr) (H1 : Heap) (locs1 : List Loc), rs = .inr E → va_P D vwCl ws' H1 → va_D A0 ws' → va_S A0 s.heap H1 locs1 → H1[q9]? = some ce → ce.vm = .none → s.vm.findClass E = some ce.cls → vx_W p l e R s m args below meth c H1 locs1 (cells + rm.cells) (slots + rm.slots) Q (F0 m pc ls rest) q9)
    (kk : ∀ (rv : Option Value) (H1 : Heap) (locs1 : List Loc), rs = .inl rv → va_P D vwCl ws' H1 → va_D A0 ws' → va_S A0 s.heap H1 locs1 → W p l e R s m args below meth c H1 locs1 (cells + rm.cells) (slots + rm.slots) Q (F0 m (pc + 3) ls (rv.toList ++ rest))) :
    W p l e R s m args below meth c H locs cells slots Q (F0 m pc ls st0) :=
  k_callX (a := As.toArray) (vx_runS S (hM H.size) (va_cwS n S.2.2.2.2 (gd_S2 h1 h2 h4 h5) rfl rfl rfl hd hRm) ⟨pw_blind, k_pre hK hE hP hD hS hA hc _⟩ rfl hn hls hst (by simpa using hroom) hdg hf) hP hD hS hA hc kx kk
/-- not caught: it leaves this method too -/
theorem k_out (ht : ∀ x ∈ c.exceptionTable.toList, False) (hlocks : meth.locks = false) {E : String} {ce : Cell} {q : Addr} (hcell : H[q]? = some ce) (hv : ce.vm = .none) (hcl : s.vm.findClass E = some ce.cls) (hrs : rs = .inr E)
    (hK : va_K D vwCl tys s) (hP : va_P D vwCl ws H) (hD : va_D A ws) (hS : va_S A s.heap H locs) (hc : cells ≤ mc) (hs : slots ≤ ms) :
    vx_W p l e R s m args below meth c H locs cells slots (vx_MQ below (QR D tys ws A rs) (XR D tys ws A rs) args s mc ms A) (F0 m pc ls rest) q :=
  vx_out (fun x hx => (ht x hx).elim) hlocks hcell hv hcl (fun t htt hW => ⟨hrs, by rw [htt]; exact hP, va_K.moved hW hK, hD, hS.F htt⟩) hS.2.2 hc hs
/-- 'throw new E("text")' -/
theorem k_throw {cc : ByteArray} {pc : Nat} (hexec : p.tables.exec = Jvm.exec) (hb : c.code = cc) (hl : l.stackTraces = false) {own cls text : String} {ik is ic : Nat}
    (hown : s.vm.findClass own = some m.cls) (hcls : Bundle.fit cls = true) (ht : ∀ x ∈ c.exceptionTable.toList, False) (hlocks : meth.locks = false)
    (hk : (Cond.classLink own ik cls).before args s = true) (hini : (Cond.initialized cls).before args s = true) (hstr : ∃ sa, vk_R own is text sa s) (hat : ∀ w ∈ vx_atS own ic cls thrN, w.before args s = true)
    (hgood : ∀ w ∈ Cond.classLink own ik cls :: Cond.initialized cls :: vx_atS own ic cls thrN, vx_ot w = true)
    (hE : EV A s) (hsize : ls.size = c.maxLocals)
    (d0 : decode cc pc = .ok (.new ik, 3)) (d3 : decode cc (pc + 3) = .ok (.dup, 1)) (d4 : decode cc (pc + 4) = .ok (.ldc is, 2)) (d6 : decode cc (pc + 6) = .ok (.invokespecial ic, 3)) (d9 : decode cc (pc + 9) = .ok (.athrow, 1))
    (hRframes : 5 < R.frames) (hRlocals : (rest.map fun v => v.category).sum + 82 ≤ R.locals) (hRcells : cells + 1 ≤ R.cells) (hRslots : slots + 6 ≤ R.slots) (hrs : rs = .inr cls)
    (hK : va_K D vwCl tys s) (hP : va_P D vwCl ws H) (hD : va_D A ws) (hS : va_S A s.heap H locs) (hc : cells + 1 ≤ mc) (hs : slots + 6 ≤ ms) :
    W p l e R s m args below meth c H locs cells slots (vx_MQ below (QR D tys ws A rs) (XR D tys ws A rs) args s mc ms A) (F0 m pc ls rest) := by
  obtain ⟨sa, hstr⟩ := hstr
  refine vx_throwS hexec hb hl (names := thrN) (ik := ik) (is := is) (ic := ic) (sa := sa) hown hcls (by decide +kernel) hk hini hstr hat hgood hE.2.1 hE.2.2 hS hsize d0 d3 d4 d6 d9 (fun x hx => (ht x hx).elim) hRframes hRlocals hRcells hRslots hlocks ?_ hS.2.2 hc hs
  intro t hW hz hk9
  refine ⟨hrs, hP.kept (fun k q hq => hk9 q.1 (hP k q hq).lt), va_K.moved hW hK, hD, Nat.le_trans hS.1 hz, fun q h1 h2 => by rw [hk9 q (Nat.lt_of_lt_of_le h1 hS.1)]; exact hS.2.1 q h1 h2⟩
end CX
def keyok (i : Int32) (k : Nat) : Bool := inb i 16 && decide (i.toNatClampNeg = k)
theorem keyok_i {i : Int32} {k : Nat} (h : keyok i k = true) : vp_in i 16 := by
  simp only [keyok, Bool.and_eq_true] at h
  exact inb_in h.1
theorem keyok_k {i : Int32} {k : Nat} (h : keyok i k = true) : i.toNatClampNeg = k := by
  simp only [keyok, Bool.and_eq_true, decide_eq_true_eq] at h
  exact h.2
theorem thr_g80 : ∀ w ∈ (vx_atS "Compactforms" 80 "java/lang/IllegalArgumentException" thrN).filter goodWord, w ∈ GW := by decide +kernel
theorem thr_at80 {args : Array Value} {s : State} (hg : ∀ w ∈ GW, w.before args s = true) (hE : EVT s) : ∀ w ∈ vx_atS "Compactforms" 80 "java/lang/IllegalArgumentException" thrN, w.before args s = true := vx_hat (fun w hw => hg w (thr_g80 w hw)) (by decide +kernel) (thrB_ok hE)
theorem thr_ok80_76 : ∀ w ∈ Cond.classLink "Compactforms" 76 "java/lang/IllegalArgumentException" :: Cond.initialized "java/lang/IllegalArgumentException" :: vx_atS "Compactforms" 80 "java/lang/IllegalArgumentException" thrN, vx_ot w = true := by decide +kernel
theorem thr_g114 : ∀ w ∈ (vx_atS "Compactforms" 114 "java/lang/IllegalStateException" thrN).filter goodWord, w ∈ GW := by decide +kernel
theorem thr_at114 {args : Array Value} {s : State} (hg : ∀ w ∈ GW, w.before args s = true) (hE : EVT s) : ∀ w ∈ vx_atS "Compactforms" 114 "java/lang/IllegalStateException" thrN, w.before args s = true := vx_hat (fun w hw => hg w (thr_g114 w hw)) (by decide +kernel) (thrB_ok hE)
theorem thr_ok114_110 : ∀ w ∈ Cond.classLink "Compactforms" 110 "java/lang/IllegalStateException" :: Cond.initialized "java/lang/IllegalStateException" :: vx_atS "Compactforms" 114 "java/lang/IllegalStateException" thrN, vx_ot w = true := by decide +kernel
theorem thr_g196 : ∀ w ∈ (vx_atS "Compactforms" 196 "java/lang/IndexOutOfBoundsException" thrN).filter goodWord, w ∈ GW := by decide +kernel
theorem thr_at196 {args : Array Value} {s : State} (hg : ∀ w ∈ GW, w.before args s = true) (hE : EVT s) : ∀ w ∈ vx_atS "Compactforms" 196 "java/lang/IndexOutOfBoundsException" thrN, w.before args s = true := vx_hat (fun w hw => hg w (thr_g196 w hw)) (by decide +kernel) (thrB_ok hE)
theorem thr_ok196_192 : ∀ w ∈ Cond.classLink "Compactforms" 192 "java/lang/IndexOutOfBoundsException" :: Cond.initialized "java/lang/IndexOutOfBoundsException" :: vx_atS "Compactforms" 196 "java/lang/IndexOutOfBoundsException" thrN, vx_ot w = true := by decide +kernel

/-! THE PROVER'S OWN KIT: partial functions with loops by fuel; worlds, contracts and calls over ONE list of words -/
abbrev IA := Nat → Int32
def inb (i : Int32) (n : Nat) : Bool := decide (¬ i < 0) && decide (i.toNatClampNeg < n)
theorem inb_in {i : Int32} {n : Nat} (h : inb i n = true) : vp_in i n := by
  simp only [inb, Bool.and_eq_true, decide_eq_true_eq] at h
  intro q
  rcases q with q | q
  · exact h.1 q
  · exact absurd h.2 (Nat.not_lt.mpr q)
def iterK {σ ρ : Type} : Nat → ((σ → Option ρ) → σ → Option ρ) → σ → Option ρ
  | 0, _, _ => none
  | n + 1, F, s => F (iterK n F) s
theorem iterK_s {σ ρ : Type} (n : Nat) (F : (σ → Option ρ) → σ → Option ρ) (s : σ) : iterK (n + 1) F s = F (iterK n F) s := rfl
theorem iterK_z {σ ρ : Type} (F : (σ → Option ρ) → σ → Option ρ) (s : σ) : iterK 0 F s = none := rfl
def FU : Nat := 10000
theorem if_t {α : Type} {c : Prop} [Decidable c] {a b : α} {r : α} (h : c) (hf : (if c then a else b) = r) : a = r := by rw [if_pos h] at hf; exact hf
theorem if_f {α : Type} {c : Prop} [Decidable c] {a b : α} {r : α} (h : ¬ c) (hf : (if c then a else b) = r) : b = r := by rw [if_neg h] at hf; exact hf
def chk {α : Type} (b : Bool) (k : Option α) : Option α := if b = true then k else none
theorem chk_t {α : Type} {b : Bool} {k : Option α} {r : α} (hf : chk b k = some r) : b = true ∧ k = some r := by
  unfold chk at hf
  by_cases h : b = true
  · rw [if_pos h] at hf; exact ⟨h, hf⟩
  · rw [if_neg h] at hf; cases hf
def isB (v : Int32) : Bool := decide (v = 0) || decide (v = 1)
theorem isB_narrow {v : Int32} (h : isB v = true) : narrow .boolean (.int v) = .int v := by
  simp only [isB, Bool.or_eq_true, decide_eq_true_eq] at h
  rcases h with h | h <;> subst h <;> decide +kernel
theorem isB_fits {v : Int32} (h : isB v = true) : fits .boolean (.int v) = true := by
  simp only [isB, Bool.or_eq_true, decide_eq_true_eq] at h
  rcases h with h | h <;> subst h <;> decide +kernel
theorem bind_t {α β : Type} {o : Option α} {k : α → Option β} {r : β} (hf : o.bind k = some r) : ∃ u, o = some u ∧ k u = some r := Option.bind_eq_some_iff.mp hf
-- words of the tables that may not go by a word list, and the two statics of a throw
def NWF : List (String × Nat × String × String × String × String) := [("Compactforms", 123, "Compactforms$Log", "count", "I", "Compactforms"), ("Compactforms$Value", 62, "Compactforms$Row", "count", "I", "Compactforms"), ("Compactforms", 115, "Compactforms$Value", "held", "Z", "Compactforms"), ("Compactforms", 214, "Compactforms$Value", "type", "I", "Compactforms"), ("Compactforms", 106, "Compactforms$Value", "end", "I", "Compactforms"), ("Compactforms", 230, "Compactforms$Value", "id", "I", "Compactforms"), ("Compactforms", 173, "Compactforms$Value", "table", "LCompactforms$Table;", "Compactforms"), ("Compactforms", 157, "Compactforms$Value", "plain", "LCompactforms$Row;", "Compactforms"), ("Compactforms", 93, "Compactforms$Value", "groups", "LCompactforms$Groups;", "Compactforms"), ("Compactforms", 148, "Compactforms$Value", "form", "LCompactforms$Form;", "Compactforms")]
def NWM : List (String × Nat × MethodName × String) := [("Compactforms", 17, ⟨"Compactforms$Log", "<init>", "()V"⟩, "Compactforms"), ("Compactforms", 41, ⟨"Compactforms$Value", "<init>", "()V"⟩, "Compactforms"), ("Compactforms$Row", 3, ⟨"Compactforms$Form", "<init>", "()V"⟩, "Compactforms"), ("Compactforms$Value", 36, ⟨"Compactforms$Chain", "<init>", "()V"⟩, "Compactforms"), ("Compactforms$Chain", 3, ⟨"Compactforms$Form", "<init>", "()V"⟩, "Compactforms"), ("Compactforms$Value", 43, ⟨"Compactforms$Table", "<init>", "()V"⟩, "Compactforms"), ("Compactforms$Table", 3, ⟨"Compactforms$Form", "<init>", "()V"⟩, "Compactforms"), ("Compactforms$Value", 53, ⟨"Compactforms$Groups", "<init>", "()V"⟩, "Compactforms"), ("Compactforms$Groups", 24, ⟨"Compactforms", "isGroup", "(I)Z"⟩, "Compactforms"), ("Compactforms$Groups", 28, ⟨"Compactforms", "isWithin", "(III)Z"⟩, "Compactforms")]
def NWJ : List MethodName := [⟨"java/lang/RuntimeException", "<init>", "()V"⟩, ⟨"java/lang/RuntimeException", "<init>", "(Ljava/lang/String;)V"⟩, ⟨"java/lang/Exception", "<init>", "()V"⟩, ⟨"java/lang/Exception", "<init>", "(Ljava/lang/String;)V"⟩, ⟨"java/lang/Throwable", "<init>", "()V"⟩, ⟨"java/lang/Throwable", "<init>", "(Ljava/lang/String;)V"⟩]
def NWD : List MethodName := [⟨"Compactforms$Form", "makeEmpty", "()V"⟩, ⟨"Compactforms$Form", "putIn", "(III)V"⟩, ⟨"Compactforms$Form", "valueAt", "(I)I"⟩, ⟨"Compactforms$Form", "dropOut", "(II)V"⟩, ⟨"Compactforms$Form", "placeOf", "(I)I"⟩, ⟨"Compactforms$Form", "bitsAt", "(I)I"⟩]
def STL : List (Nat × String) := [(194, "no such key"), (206, "out of range"), (208, "no value of this type"), (210, "no room in the value"), (212, "the log is full"), (78, "bits of no number"), (200, "no such group"), (202, "no such reader"), (112, "the clock would be above its last time"), (129, "no rewriting goes on"), (204, "no such index"), (164, "no member")]
def XN : List String := ["java/lang/IndexOutOfBoundsException", "java/lang/IllegalArgumentException", "java/lang/IllegalStateException"]
def YN : List String := ["java/lang/IndexOutOfBoundsException", "java/lang/IllegalStateException", "java/lang/IllegalStateException"]
/-- what of the tables every method is given -/
def EVT (U : State) : Prop :=
  (∀ q ∈ NWF, va_Nw (.fieldLinkNest q.1 q.2.1 q.2.2.1 q.2.2.2.1 q.2.2.2.2.1 q.2.2.2.2.2) U) ∧ (∀ q ∈ NWM, va_Nw (.methodLinkNest q.1 q.2.1 q.2.2.1 q.2.2.2) U) ∧ (∀ q ∈ NWD ++ NWJ, va_Nw (.declares q) U) ∧
  (∀ q ∈ STL, ∃ sa, vk_R "Compactforms" q.1 q.2 sa U) ∧ (∀ n ∈ XN, va_Nw (.castable n n) U) ∧ (∀ a ∈ XN, ∀ b ∈ YN, a ≠ b → va_Nc a b U) ∧ va_AO "Compactforms$Value" U
theorem EVT.moved {s U : State} (hW : s.WarmedH U.vm) (h : EVT s) : EVT U := by
  obtain ⟨h1, h2, h3, h4, h5, h6, h7⟩ := h
  exact ⟨fun q hq => (h1 q hq).warmF hW, fun q hq => (h2 q hq).warmM hW, fun q hq => (h3 q hq).warmD hW, fun q hq => (h4 q hq).imp fun _ h => h.warm hW, fun q hq => (h5 q hq).warmC hW, fun a ha b hb n => (h6 a ha b hb n).moved hW.alike, h7.moved hW.alike⟩
theorem EVT.same {u U : State} (hv : u.vm = U.vm) (h : EVT u) : EVT U := h.moved (hv ▸ State.WarmedH.refl u)
def EVH (A : Nat → Prop) (U : State) (H : Heap) : Prop := vx_Zq Bundle.tN "UNASSIGNED_STACK" Bundle.steD A U H ∧ vx_Zq Bundle.tN "SUPPRESSED_SENTINEL" Bundle.listD A U H
def EV (A : Nat → Prop) (U : State) : Prop := EVT U ∧ EVH A U U.heap
theorem EV.call {A B : Nat → Prop} {s U : State} {H : Heap} {locs : List Loc} (h : EV A s) (hS : va_S A s.heap H locs) (hU : U.heap = H) (hW : s.WarmedH U.vm) (hB : ∀ q, B q → A q) : EV B U :=
  ⟨h.1.moved hW, by
    rw [EVH, hU]
    exact ⟨vx_Zq.moved hW.alike ((h.2.1.kept hS.2.1).narrow hB), vx_Zq.moved hW.alike ((h.2.2.kept hS.2.1).narrow hB)⟩⟩
-- contracts
def PW (D : va_G) (tys : List (ClassId × FieldType)) (ws : va_W) (sz : Nat) (U : State) : Prop := U.heap.size = sz ∧ va_P D vwCl ws U.heap ∧ va_K D vwCl tys U ∧ va_D (fun _ => True) ws ∧ EV (va_A ws sz) U
def QW (D : va_G) (tys : List (ClassId × FieldType)) (ws' : va_W) (A : Nat → Prop) (rv : Option Value) : Array Value → State → Outcome → State → Prop := fun _ st oc t =>
  oc = .returned rv ∧ va_P D vwCl ws' t.heap ∧ va_K D vwCl tys t ∧ va_D A ws' ∧ va_F A st t
def QR (D : va_G) (tys : List (ClassId × FieldType)) (ws' : va_W) (A : Nat → Prop) (rs : Option Value ⊕ String) : Array Value → State → Outcome → State → Prop := fun a st oc t => ∃ rv, rs = .inl rv ∧ QW D tys ws' A rv a st oc t
def XR (D : va_G) (tys : List (ClassId × FieldType)) (ws' : va_W) (A : Nat → Prop) (rs : Option Value ⊕ String) : String → State → State → Prop := fun E st t =>
  rs = .inr E ∧ va_P D vwCl ws' t.heap ∧ va_K D vwCl tys t ∧ va_D A ws' ∧ va_F A st t
def MM (l : Launch) (y : MethodName) (b : ByteArray) (ml : Nat) (ret : Option FieldType) (rm : Room) (D : va_G) (tys : List (ClassId × FieldType)) (W W' : va_W) (av : List Value) (rv : Option Value) : Prop :=
  ∀ sz, Met l y (.code y b ml ret :: GW) rm (va_Pc av (PW D tys W sz)) (QW D tys W' (va_A W sz) rv) rm.cells rm.slots (va_A W sz)
def MX (l : Launch) (y : MethodName) (b : ByteArray) (ml : Nat) (ret : Option FieldType) (rm : Room) (D : va_G) (tys : List (ClassId × FieldType)) (W W' : va_W) (av : List Value) (rs : Option Value ⊕ String) : Prop :=
  ∀ sz, vx_Met l y (.code y b ml ret :: GW) rm (va_Pc av (PW D tys W sz)) (QR D tys W' (va_A W sz) rs) (XR D tys W' (va_A W sz) rs) rm.cells rm.slots (va_A W sz)
theorem pw_blind {D : va_G} {tys : List (ClassId × FieldType)} {W : va_W} {av : List Value} {sz : Nat} : FrameBlind (va_Pc av (PW D tys W sz)) := by
  intro a U g mk h
  obtain ⟨h0, h1, h2, h3, h4, h5, h6⟩ := h
  refine ⟨h0, h1, h2, va_K.moved (u := U) (U := U.calling g mk a) (Vm.Alike.refl U.vm) h3, h4, EVT.same (u := U) (U := U.calling g mk a) rfl h5, ?_⟩
  exact ⟨vx_Zq.moved (u := U) (U := U.calling g mk a) (Vm.Alike.refl U.vm) h6.1, vx_Zq.moved (u := U) (U := U.calling g mk a) (Vm.Alike.refl U.vm) h6.2⟩
theorem pw_pre {D : va_G} {tys : List (ClassId × FieldType)} {wc : va_W} {av : List Value} {s : State} {H : Heap} {locs : List Loc} {A : Nat → Prop} (hK : va_K D vwCl tys s) (hE : EV A s) (hS : va_S A s.heap H locs)
    (hP : va_P D vwCl wc H) (hD : va_D A wc) (hF : ∀ q, va_A wc H.size q → A q) (U : State) (hU : U.heap = H) (hW : s.WarmedH U.vm) : va_Pc av (PW D tys wc H.size) av.toArray U :=
  ⟨rfl, by rw [hU], by rw [hU]; exact hP, va_K.moved hW.alike hK, hD.weaken (fun _ _ _ _ => trivial), hE.call hS hU hW hF⟩
-- words of a call, all out of GW
theorem gd_code {c0 w : Cond} (h : w ∈ GW) : GoodIn (c0 :: GW) (w :: GW) := fun x hx => by
  rcases List.mem_cons.mp hx with e | hx
  · rw [e]; exact ⟨List.mem_cons_of_mem _ h, GW_good _ h⟩
  · exact ⟨List.mem_cons_of_mem _ hx, GW_good _ hx⟩
theorem gd_app {c0 : Cond} {l1 l2 : List Cond} (h1 : ∀ w ∈ l1, w ∈ GW) (h2 : GoodIn (c0 :: GW) l2) : GoodIn (c0 :: GW) (l1 ++ l2) := fun x hx => by
  rcases List.mem_append.mp hx with hx | hx
  · exact ⟨List.mem_cons_of_mem _ (h1 x hx), GW_good _ (h1 x hx)⟩
  · exact h2 x hx
theorem gd_V {c0 : Cond} {own C : String} {idx ml : Nat} {y : MethodName} {b : ByteArray} {ret : Option FieldType} (h1 : Cond.methodLink own idx y ∈ GW) (h2 : Cond.instanceMethod y ∈ GW) (h3 : Cond.selects C y y ∈ GW) (h4 : Cond.initialized C ∈ GW) (h5 : Cond.code y b ml ret ∈ GW) :
    GoodIn (c0 :: GW) (wsV own idx C y (.code y b ml ret :: GW)) := by
  refine gd_app ?_ (gd_code h5)
  intro w hw
  simp only [List.mem_cons, List.not_mem_nil, or_false] at hw
  rcases hw with e | e | e | e <;> rw [e] <;> assumption
theorem gd_S {c0 : Cond} {own : String} {idx ml : Nat} {y : MethodName} {b : ByteArray} {ret : Option FieldType} (h1 : Cond.methodLink own idx y ∈ GW) (h2 : Cond.static y ∈ GW) (h4 : Cond.initialized own ∈ GW) (h5 : Cond.code y b ml ret ∈ GW) :
    GoodIn (c0 :: GW) (wsS own idx y (.code y b ml ret :: GW)) := by
  refine gd_app ?_ (gd_code h5)
  intro w hw
  simp only [List.mem_cons, List.not_mem_nil, or_false] at hw
  rcases hw with e | e | e <;> rw [e] <;> assumption
theorem gd_S2 {c0 : Cond} {own : String} {idx ml : Nat} {y : MethodName} {b : ByteArray} {ret : Option FieldType} (h1 : Cond.methodLink own idx y ∈ GW) (h2 : Cond.static y ∈ GW) (h4 : Cond.initialized y.cls ∈ GW) (h5 : Cond.code y b ml ret ∈ GW) :
    GoodIn (c0 :: GW) (va_wsS own idx y (.code y b ml ret :: GW)) := by
  refine gd_app ?_ (gd_code h5)
  intro w hw
  simp only [List.mem_cons, List.not_mem_nil, or_false] at hw
  rcases hw with e | e | e <;> rw [e] <;> assumption
section CALLS
variable {p : Program} {l : Launch} {e : Env} {R : Room} {s : State} {m : MethodId} {args : Array Value} {below : List Frame} {meth : Method} {c : Code} {H : Heap} {locs : List Loc} {cells slots : Nat} {Q : State → Prop}
variable {pc : Nat} {ls : Array Slot} {rest st0 : List Value} {a : Array Value} {A0 A1 : Nat → Prop} {D : va_G} {tys : List (ClassId × FieldType)} {ws wc wr w1 ws' : va_W} {rv : Option Value} {mc ms : Nat}
/-- how a callee's world lies in the caller's, and the caller's world behind the call -/
def Cut (ws wc w1 ws' : va_W) (isC isR isB : List Nat) : Prop := ∃ wr : va_W, isC.map (fun i => ws[i]?) = wc.map some ∧ isR.map (fun i => ws[i]?) = wr.map some ∧ va_nd isR = true ∧ va_nd isC = true ∧ (∀ i ∈ isR, i ∉ isC) ∧ isB.map (fun i => (wr ++ w1)[i]?) = ws'.map some ∧ va_nd isB = true
theorem Cut.pick {ws : va_W} {is : List Nat} {w : va_W} (h : is.map (fun i => ws[i]?) = w.map some) : is.filterMap (fun i => ws[i]?) = w := by
  have h1 : (is.map (fun i => ws[i]?)).filterMap id = (w.map some).filterMap id := by rw [h]
  rw [List.filterMap_map, List.filterMap_map] at h1
  have h2 : List.filterMap (id ∘ fun i => ws[i]?) is = is.filterMap (fun i => ws[i]?) := rfl
  have h3 : List.filterMap (id ∘ some) w = w := by
    rw [show (id ∘ (some : Nat × va_E → Option (Nat × va_E))) = some from rfl, List.filterMap_some]
  rw [h2, h3] at h1
  exact h1
theorem k_call (hr : va_Run p l e R s m args below meth c H locs cells slots mc ms (F0 m pc ls st0) rest (QW D tys w1 (va_A wc H.size) rv a) (va_A wc H.size))
    (hP : va_P D vwCl ws H) (hD : va_D A0 ws) (hS : va_S A0 s.heap H locs) (hA : ∀ q, s.heap.size ≤ q → A0 q) {isC isR isB : List Nat} (hc : Cut ws wc w1 ws' isC isR isB)
    (kk : ∀ (H1 : Heap) (locs1 : List Loc), va_P D vwCl ws' H1 → va_D A0 ws' → va_S A0 s.heap H1 locs1 → W p l e R s m args below meth c H1 locs1 (cells + mc) (slots + ms) Q (F0 m (pc + 3) ls (rv.toList ++ rest))) :
    W p l e R s m args below meth c H locs cells slots Q (F0 m pc ls st0) := by
  obtain ⟨wr, hC, hR, hn, hnC, hdis, hB, hnB⟩ := hc
  intro T hT X
  obtain ⟨v, st₀, t, T', L, h0, X', hL, e1, e2, ⟨hv, hP1, -, hD1, hz, hk⟩, st⟩ := hr T hT X
  cases hv
  rw [h0] at hz hk
  have hF := va_free (wc := wc) hD hS hA isC hC
  obtain ⟨hPj, hDj⟩ := va_join hP hD isC isR hC hR hn hdis hk hF hP1 hD1
  have hS1 : va_S A0 s.heap T'.heap (locs ++ L) := ⟨Nat.le_trans hS.1 (by rw [e1]; exact hz), fun q h1 h2 => by rw [e1, hk q (Nat.lt_of_lt_of_le h1 hS.1) (fun z => h2 (hF q z))]; exact hS.2.1 q h1 h2, fun q hq => by
      rcases List.mem_append.mp hq with h | h
      · exact hS.2.2 q h
      · exact hF _ (hL q h)⟩
  obtain ⟨t2, a1, b1⟩ := kk T'.heap (locs ++ L) (by rw [e1]; exact hPj.sub isB (Cut.pick hB)) (hDj.sub isB hnB hB) hS1 T' rfl X'
  exact ⟨t2, st t2 a1, b1⟩
theorem k_pre (hK : va_K D vwCl tys s) (hE : EV A0 s) (hP : va_P D vwCl ws H) (hD : va_D A0 ws) (hS : va_S A0 s.heap H locs) (hA : ∀ q, s.heap.size ≤ q → A0 q) {isC isR isB : List Nat} (hc : Cut ws wc w1 ws' isC isR isB) (av : List Value) :
    ∀ U : State, U.heap = H → s.WarmedH U.vm → va_Pc av (PW D tys wc H.size) av.toArray U := by
  obtain ⟨wr, hC, hR, hn, hnC, hdis, hB, hnB⟩ := hc
  exact pw_pre hK hE hS (hP.sub isC (Cut.pick hC)) (hD.sub isC hnC hC) (va_free (wc := wc) hD hS hA isC hC)
variable {y : MethodName} {b cc : ByteArray} {ml nL n index : Nat} {ret : Option FieldType} {rm : Room} {own C : String} {h0 : Addr} {As : List Value} {c0 : Cond}
/-- invokevirtual of a method of the receiver's own class -/
theorem k_V (S : CallFix p m c cc nL s args (c0 :: GW) own) (hM : MM l y b ml ret rm D tys wc w1 (.ref h0 :: As) rv) (h1 : Cond.methodLink own index y ∈ GW) (h2 : Cond.instanceMethod y ∈ GW) (h3 : Cond.selects C y y ∈ GW) (h4 : Cond.initialized C ∈ GW) (h5 : Cond.code y b ml ret ∈ GW)
    (hd : y.cls = C ∧ y.cls ≠ "java/lang/invoke/MethodHandle" ∧ y.cls ≠ "java/lang/invoke/VarHandle" ∧ (parseMethodDescriptor y.desc).map (fun d => d.parameters.length) = some n) (hRm : rm.frames + 1 ≤ R.frames ∧ 8 + (ml + 11) + rm.locals ≤ R.locals)
    (hK : va_K D vwCl tys s) (hE : EV A0 s) (hP : va_P D vwCl ws H) (hD : va_D A0 ws) (hS : va_S A0 s.heap H locs) (hA : ∀ q, s.heap.size ≤ q → A0 q) {isC isR isB : List Nat} (hc : Cut ws wc w1 ws' isC isR isB)
    (q0 ci : Nat) {vc : vw_C} {fs : List Value} (hci : vwCl[ci]? = some vc) (hvc : vc.1 = C) (hq0 : ws[q0]? = some (h0, .inr (ci, fs))) (hn : As.length = n) (hls : ls.size = nL) (hst : st0 = As.reverse ++ .ref h0 :: rest) (hroom : (rest.map fun v => v.category).sum ≤ 8)
    (hdg : decode cc pc = .ok (.invokevirtual index, 3)) (hf : cells + rm.cells ≤ R.cells ∧ slots + rm.slots ≤ R.slots)
    (kk : ∀ (H1 : Heap) (locs1 : List Loc), va_P D vwCl ws' H1 → va_D A0 ws' → va_S A0 s.heap H1 locs1 → W p l e R s m args below meth c H1 locs1 (cells + rm.cells) (slots + rm.slots) Q (F0 m (pc + 3) ls (rv.toList ++ rest))) :
    W p l e R s m args below meth c H locs cells slots Q (F0 m pc ls st0) := by
  refine k_call (rv := rv) (a := (Value.ref h0 :: As).toArray) (va_runV S (hM H.size) (cwV n S.2.2.2.2 (gd_V h1 h2 h3 h4 h5) rfl rfl rfl hd hRm) ⟨pw_blind, ?_, k_pre hK hE hP hD hS hA hc _⟩ rfl hn hls hst (by simpa using hroom) hdg hf) hP hD hS hA hc kk
  have h9 := va_recv hK hP hci hq0
  rw [hvc] at h9
  exact h9
/-- invokestatic in the same class -/
theorem k_S (S : CallFix p m c cc nL s args (c0 :: GW) own) (hM : MM l y b ml ret rm D tys wc w1 As rv) (h1 : Cond.methodLink own index y ∈ GW) (h2 : Cond.static y ∈ GW) (h4 : Cond.initialized y.cls ∈ GW) (h5 : Cond.code y b ml ret ∈ GW)
    (hd : y.cls ≠ "java/lang/invoke/MethodHandle" ∧ y.cls ≠ "java/lang/invoke/VarHandle" ∧ (parseMethodDescriptor y.desc).map (fun d => d.parameters.length) = some n) (hRm : rm.frames + 1 ≤ R.frames ∧ 8 + (ml + 11) + rm.locals ≤ R.locals)
    (hK : va_K D vwCl tys s) (hE : EV A0 s) (hP : va_P D vwCl ws H) (hD : va_D A0 ws) (hS : va_S A0 s.heap H locs) (hA : ∀ q, s.heap.size ≤ q → A0 q) {isC isR isB : List Nat} (hc : Cut ws wc w1 ws' isC isR isB)
    (hn : As.length = n) (hls : ls.size = nL) (hst : st0 = As.reverse ++ rest) (hroom : (rest.map fun v => v.category).sum ≤ 8)
    (hdg : decode cc pc = .ok (.invokestatic index, 3)) (hf : cells + rm.cells ≤ R.cells ∧ slots + rm.slots ≤ R.slots)
    (kk : ∀ (H1 : Heap) (locs1 : List Loc), va_P D vwCl ws' H1 → va_D A0 ws' → va_S A0 s.heap H1 locs1 → W p l e R s m args below meth c H1 locs1 (cells + rm.cells) (slots + rm.slots) Q (F0 m (pc + 3) ls (rv.toList ++ rest))) :
    W p l e R s m args below meth c H locs cells slots Q (F0 m pc ls st0) := by
  exact k_call (rv := rv) (a := As.toArray) (va_runS S (hM H.size) (va_cwS n S.2.2.2.2 (gd_S2 h1 h2 h4 h5) rfl rfl rfl hd hRm) ⟨pw_blind, k_pre hK hE hP hD hS hA hc _⟩ rfl hn hls hst (by simpa using hroom) hdg hf) hP hD hS hA hc kk
end CALLS

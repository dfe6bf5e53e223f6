/-! invokestatic of a nest mate's private method -/
section KSN
variable {p : Program} {l : Launch} {e : Env} {R : Room} {s : State} {m : MethodId} {args : Array Value} {below : List Frame} {meth : Method} {c : Code} {H : Heap} {locs : List Loc} {cells slots : Nat} {Q : State → Prop}
variable {pc : Nat} {ls : Array Slot} {rest st0 : List Value} {A0 : Nat → Prop} {D : va_G} {tys : List (ClassId × FieldType)} {ws wc w1 ws' : va_W} {rv : Option Value}
variable {y : MethodName} {b cc : ByteArray} {ml nL n index : Nat} {ret : Option FieldType} {rm : Room} {own host : String} {As : List Value} {c0 : Cond}
theorem k_SN (S : CallFix p m c cc nL s args (c0 :: GW) own) (hM : MM l y b ml ret rm D tys wc w1 As rv) (h1 : va_Nw (.methodLinkNest own index y host) s) (h2 : Cond.static y ∈ GW) (h4 : Cond.initialized y.cls ∈ GW) (h5 : Cond.code y b ml ret ∈ GW)
    (hd : y.cls ≠ "java/lang/invoke/MethodHandle" ∧ y.cls ≠ "java/lang/invoke/VarHandle" ∧ (parseMethodDescriptor y.desc).map (fun d => d.parameters.length) = some n) (hRm : rm.frames + 1 ≤ R.frames ∧ 8 + (ml + 11) + rm.locals ≤ R.locals)
    (hK : va_K D vwCl tys s) (hE : EV A0 s) (hP : va_P D vwCl ws H) (hD : va_D A0 ws) (hS : va_S A0 s.heap H locs) (hA : ∀ q, s.heap.size ≤ q → A0 q) {isC isR isB : List Nat} (hc : Cut ws wc w1 ws' isC isR isB)
    (hn : As.length = n) (hls : ls.size = nL) (hst : st0 = As.reverse ++ rest) (hroom : (rest.map fun v => v.category).sum ≤ 8)
    (hdg : decode cc pc = .ok (.invokestatic index, 3)) (hf : cells + rm.cells ≤ R.cells ∧ slots + rm.slots ≤ R.slots)
    (kk : ∀ (H1 : Heap) (locs1 : List Loc), va_P D vwCl ws' H1 → va_D A0 ws' → va_S A0 s.heap H1 locs1 → W p l e R s m args below meth c H1 locs1 (cells + rm.cells) (slots + rm.slots) Q (F0 m (pc + 3) ls (rv.toList ++ rest))) :
    W p l e R s m args below meth c H locs cells slots Q (F0 m pc ls st0) :=
  k_call (rv := rv) (a := As.toArray) (va_runSN S (hM H.size) ⟨va_cnB n S.2.2.2.2 (gd_code h5) rfl rfl rfl h1 (S.2.2.2.2 _ (List.mem_cons_of_mem _ h4)) hd hRm, S.2.2.2.2 _ (List.mem_cons_of_mem _ h2), trivial⟩ ⟨pw_blind, k_pre hK hE hP hD hS hA hc _⟩ rfl hn hls hst (by simpa using hroom) hdg hf) hP hD hS hA hc kk
end KSN

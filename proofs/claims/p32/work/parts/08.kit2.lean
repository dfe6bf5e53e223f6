/-! switches; the form of a value (one of three places); calls of abstract methods -/
def sel {α : Type} (p : Nat) (a b c : Option α) : Option α := if p = 1 then a else if p = 4 then b else if p = 8 then c else none
theorem sel_t {α : Type} {p : Nat} {a b c : Option α} {r : α} (hf : sel p a b c = some r) : (p = 1 ∧ a = some r) ∨ (p = 4 ∧ b = some r) ∨ (p = 8 ∧ c = some r) := by
  unfold sel at hf
  by_cases h1 : p = 1
  · rw [if_pos h1] at hf; exact Or.inl ⟨h1, hf⟩
  · rw [if_neg h1] at hf
    by_cases h2 : p = 4
    · rw [if_pos h2] at hf; exact Or.inr (Or.inl ⟨h2, hf⟩)
    · rw [if_neg h2] at hf
      by_cases h3 : p = 8
      · rw [if_pos h3] at hf; exact Or.inr (Or.inr ⟨h3, hf⟩)
      · rw [if_neg h3] at hf; cases hf
def isF (p : Nat) : Bool := decide (p = 1) || (decide (p = 4) || decide (p = 8))
theorem isF_t {p : Nat} (h : isF p = true) : p = 1 ∨ p = 4 ∨ p = 8 := by
  simp only [isF, Bool.or_eq_true, decide_eq_true_eq] at h
  exact h
/-- two places of a world are two addresses -/
theorem k_ne {A : Nat → Prop} {ws : va_W} (hD : va_D A ws) (i j : Nat) {p q : Nat × va_E} (hi : ws[i]? = some p) (hj : ws[j]? = some q) (h : i ≠ j) : p.1 ≠ q.1 := fun e => h (hD.1 i j p q hi hj e)
theorem gd_U {c0 : Cond} {own C owner : String} {idx ml : Nat} {x y : MethodName} {b : ByteArray} {ret : Option FieldType} (h1 : Cond.methodLink own idx x ∈ GW) (h2 : Cond.sameMethod x.cls owner x.name x.desc ∈ GW) (h3 : Cond.selects C x y ∈ GW) (h4 : Cond.instanceMethod y ∈ GW) (h5 : Cond.initialized y.cls ∈ GW) (h6 : Cond.code y b ml ret ∈ GW) :
    GoodIn (c0 :: GW) (va_wsU own idx C owner x y (.code y b ml ret :: GW)) := by
  refine gd_app ?_ (gd_code h6)
  intro w hw
  simp only [List.mem_cons, List.not_mem_nil, or_false] at hw
  rcases hw with e | e | e | e | e <;> rw [e] <;> assumption
section KU
variable {p : Program} {l : Launch} {e : Env} {R : Room} {s : State} {m : MethodId} {args : Array Value} {below : List Frame} {meth : Method} {c : Code} {H : Heap} {locs : List Loc} {cells slots : Nat} {Q : State → Prop}
variable {pc : Nat} {ls : Array Slot} {rest st0 : List Value} {a : Array Value} {A0 : Nat → Prop} {D : va_G} {tys : List (ClassId × FieldType)} {ws wc w1 ws' : va_W} {rv : Option Value} {mc ms : Nat}
variable {y : MethodName} {b cc : ByteArray} {ml nL n index : Nat} {ret : Option FieldType} {rm : Room} {own C : String} {h0 : Addr} {As : List Value} {c0 : Cond}
theorem k_tsw (hexec : p.tables.exec = Jvm.exec) (hb : c.code = cc) {dflt lo hi : Int} {offs : Array Int} {len : Nat} {x : Int32} {off : Int} {tgt : Nat} (hdg : decode cc pc = .ok (.tableswitch dflt lo hi offs, len)) (k : Int32) (hk : x = k) (h1 : ¬ k.toInt < lo) (h2 : ¬ hi < k.toInt) (ho : offs[(k.toInt - lo).toNat]? = some off) (ht : (pc : Int) + off = (tgt : Int))
    (kk : W p l e R s m args below meth c H locs cells slots Q (F0 m tgt ls rest)) : W p l e R s m args below meth c H locs cells slots Q (F0 m pc ls (.int x :: rest)) := by
  subst hk
  exact lv_tableIn hexec hb hdg h1 h2 ho ht kk
/-- invokevirtual of an abstract method of the class above, on a receiver whose class is known -/
theorem k_U {owner : String} {x : MethodName} (S : CallFix p m c cc nL s args (c0 :: GW) own) (hM : MM l y b ml ret rm D tys wc w1 (.ref h0 :: As) rv) (h1 : Cond.methodLink own index x ∈ GW) (h2 : Cond.sameMethod x.cls owner x.name x.desc ∈ GW) (h3 : Cond.selects C x y ∈ GW) (h4 : Cond.instanceMethod y ∈ GW) (h5 : Cond.initialized y.cls ∈ GW) (h6 : Cond.code y b ml ret ∈ GW)
    (hz : va_Nw (.declares ⟨owner, x.name, x.desc⟩) s) (hd : owner ≠ "java/lang/invoke/MethodHandle" ∧ owner ≠ "java/lang/invoke/VarHandle" ∧ (parseMethodDescriptor x.desc).map (fun d => d.parameters.length) = some n) (hRm : rm.frames + 1 ≤ R.frames ∧ 8 + (ml + 11) + rm.locals ≤ R.locals)
    (hK : va_K D vwCl tys s) (hE : EV A0 s) (hP : va_P D vwCl ws H) (hD : va_D A0 ws) (hS : va_S A0 s.heap H locs) (hA : ∀ q, s.heap.size ≤ q → A0 q) {isC isR isB : List Nat} (hc : Cut ws wc w1 ws' isC isR isB)
    (q0 ci : Nat) {vc : vw_C} {fs : List Value} (hci : vwCl[ci]? = some vc) (hvc : vc.1 = C) (hq0 : ws[q0]? = some (h0, .inr (ci, fs))) (hn : As.length = n) (hls : ls.size = nL) (hst : st0 = As.reverse ++ .ref h0 :: rest) (hroom : (rest.map fun v => v.category).sum ≤ 8)
    (hdg : decode cc pc = .ok (.invokevirtual index, 3)) (hf : cells + rm.cells ≤ R.cells ∧ slots + rm.slots ≤ R.slots)
    (kk : ∀ (H1 : Heap) (locs1 : List Loc), va_P D vwCl ws' H1 → va_D A0 ws' → va_S A0 s.heap H1 locs1 → W p l e R s m args below meth c H1 locs1 (cells + rm.cells) (slots + rm.slots) Q (F0 m (pc + 3) ls (rv.toList ++ rest))) :
    W p l e R s m args below meth c H locs cells slots Q (F0 m pc ls st0) := by
  refine k_call (rv := rv) (a := (Value.ref h0 :: As).toArray) (va_runU S (hM H.size) (va_cwA n S.2.2.2.2 (gd_U h1 h2 h3 h4 h5 h6) rfl rfl rfl hz hd hRm) ⟨pw_blind, ?_, k_pre hK hE hP hD hS hA hc _⟩ rfl hn hls hst (by simpa using hroom) hdg hf) hP hD hS hA hc kk
  have h9 := va_recv hK hP hci hq0
  rw [hvc] at h9
  exact h9
end KU

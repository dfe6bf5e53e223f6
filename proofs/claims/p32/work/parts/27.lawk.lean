/-! calls of the law's methods; long compares; new rows; cuts -/
section CQ
variable {p : Program} {l : Launch} {e : Env} {R : Room} {s : State} {m : MethodId} {args : Array Value} {below : List Frame} {meth : Method} {c : Code} {H : Heap} {locs : List Loc} {cells slots : Nat} {Q : State → Prop}
variable {pc : Nat} {ls : Array Slot} {rest st0 : List Value} {a : Array Value} {A0 A : Nat → Prop} {D : va_G} {tys : List (ClassId × FieldType)} {ws wc w1 ws' : va_W} {rv : Option Value} {rs : Option Value ⊕ String} {rv : Option Value} {mc ms : Nat}
variable {y : MethodName} {b cc : ByteArray} {ml nL n index : Nat} {ret : Option FieldType} {rm : Room} {own C : String} {h0 : Addr} {As : List Value} {c0 : Cond}
theorem gd_SW {c0 : Cond} {own : String} {idx ml : Nat} {y : MethodName} {b : ByteArray} {ret : Option FieldType} {hh : List (Nat × Nat × Nat × Nat)} (h1 : Cond.methodLink own idx y ∈ GW) (h2 : Cond.static y ∈ GW) (h4 : Cond.initialized y.cls ∈ GW) (h5 : Cond.codeWith y b ml ret hh ∈ GW) :
    GoodIn (c0 :: GW) (va_wsS own idx y (.codeWith y b ml ret hh :: GW)) := by
  refine gd_app ?_ (gd_code h5)
  intro w hw
  simp only [List.mem_cons, List.not_mem_nil, or_false] at hw
  rcases hw with e | e | e <;> rw [e] <;> assumption
theorem k_SP (S : CallFix p m c cc nL s args (c0 :: GW) own) (hM : MM l y b ml ret rm D tys wc w1 As rv) (h1 : Cond.methodLink own index y ∈ GW) (h2 : Cond.static y ∈ GW) (h4 : Cond.initialized y.cls ∈ GW) (h5 : Cond.code y b ml ret ∈ GW)
    (hd : y.cls ≠ "java/lang/invoke/MethodHandle" ∧ y.cls ≠ "java/lang/invoke/VarHandle" ∧ (parseMethodDescriptor y.desc).map (fun d => d.parameters.length) = some n) (hRm : rm.frames + 1 ≤ R.frames ∧ 8 + (ml + 11) + rm.locals ≤ R.locals)
    (hK : va_K D vwCl tys s) (hE : EV A0 s) (hP : va_P D vwCl ws H) (hD : va_D A0 ws) (hS : va_S A0 s.heap H locs) (hA : ∀ q, s.heap.size ≤ q → A0 q) (hc : CutP ws wc w1 ws')
    (hn : As.length = n) (hls : ls.size = nL) (hst : st0 = As.reverse ++ rest) (hroom : (rest.map fun v => v.category).sum ≤ 8)
    (hdg : decode cc pc = .ok (.invokestatic index, 3)) (hf : cells + rm.cells ≤ R.cells ∧ slots + rm.slots ≤ R.slots)
    (kk : ∀ (H1 : Heap) (locs1 : List Loc), va_P D vwCl ws' H1 → va_D A0 ws' → va_S A0 s.heap H1 locs1 → W p l e R s m args below meth c H1 locs1 (cells + rm.cells) (slots + rm.slots) Q (F0 m (pc + 3) ls (rv.toList ++ rest))) :
    W p l e R s m args below meth c H locs cells slots Q (F0 m pc ls st0) := by
  obtain ⟨wr, p1, p2⟩ := hc
  exact k_S S hM h1 h2 h4 h5 hd hRm hK hE (hP.perm p1) (hD.perm p1) hS hA (Cut.app wc wr w1) hn hls hst hroom hdg hf (fun H1 locs1 g1 g2 g3 => kk H1 locs1 (g1.perm p2) (g2.perm p2) g3)
/-- invokestatic of a method with handlers that throws nothing -/
theorem k_SWQ {hh : List (Nat × Nat × Nat × Nat)} {v9 : Value} (S : CallFix p m c cc nL s args (c0 :: GW) own) (hM : MXW l y b ml ret hh rm D tys wc w1 As (.inl (some v9))) (h1 : Cond.methodLink own index y ∈ GW) (h2 : Cond.static y ∈ GW) (h4 : Cond.initialized y.cls ∈ GW) (h5 : Cond.codeWith y b ml ret hh ∈ GW)
    (hd : y.cls ≠ "java/lang/invoke/MethodHandle" ∧ y.cls ≠ "java/lang/invoke/VarHandle" ∧ (parseMethodDescriptor y.desc).map (fun d => d.parameters.length) = some n) (hRm : rm.frames + 1 ≤ R.frames ∧ 8 + (ml + 11) + rm.locals ≤ R.locals)
    (hK : va_K D vwCl tys s) (hE : EV A0 s) (hP : va_P D vwCl ws H) (hD : va_D A0 ws) (hS : va_S A0 s.heap H locs) (hA : ∀ q, s.heap.size ≤ q → A0 q) (hc : CutP ws wc w1 ws')
    (hn : As.length = n) (hls : ls.size = nL) (hst : st0 = As.reverse ++ rest) (hroom : (rest.map fun v => v.category).sum ≤ 8)
    (hdg : decode cc pc = .ok (.invokestatic index, 3)) (hf : cells + rm.cells ≤ R.cells ∧ slots + rm.slots ≤ R.slots)
    (kk : ∀ (H1 : Heap) (locs1 : List Loc), va_P D vwCl ws' H1 → va_D A0 ws' → va_S A0 s.heap H1 locs1 → W p l e R s m args below meth c H1 locs1 (cells + rm.cells) (slots + rm.slots) Q (F0 m (pc + 3) ls (v9 :: rest))) :
    W p l e R s m args below meth c H locs cells slots Q (F0 m pc ls st0) := by
  obtain ⟨wr, p1, p2⟩ := hc
  refine k_callX (a := As.toArray) (vx_runSX S (hM H.size) (vx_cwSW n S.2.2.2.2 (gd_SW h1 h2 h4 h5) rfl rfl rfl hd hRm) ⟨pw_blind, k_pre hK hE (hP.perm p1) (hD.perm p1) hS hA (Cut.app wc wr w1) _⟩ rfl hn hls hst (by simpa using hroom) hdg hf) (hP.perm p1) (hD.perm p1) hS hA (Cut.app wc wr w1) (fun E ce q9 H1 locs1 g0 => nomatch g0) (fun rv H1 locs1 g0 g1 g2 g3 => ?_)
  cases Sum.inl.inj g0
  exact kk H1 locs1 (g1.perm p2) (g2.perm p2) g3
end CQ
def lcmpv (x y : Int64) : Int32 := if x > y then 1 else if x == y then 0 else -1
section KL
variable {p : Program} {l : Launch} {e : Env} {R : Room} {s : State} {m : MethodId} {args : Array Value} {below : List Frame} {meth : Method} {c : Code} {H : Heap} {locs : List Loc} {cells slots : Nat} {Q : State → Prop}
variable {cc : ByteArray} {pc : Nat} {ls : Array Slot} {rest : List Value}
theorem k_lcmp (hexec : p.tables.exec = Jvm.exec) (hb : c.code = cc) {x y : Int64} (hdg : decode cc pc = .ok (.lcmp, 1))
    (k : W p l e R s m args below meth c H locs cells slots Q (F0 m (pc + 1) ls (.int (lcmpv x y) :: rest))) : W p l e R s m args below meth c H locs cells slots Q (F0 m pc ls (.long y :: .long x :: rest)) := by
  intro T hT X
  obtain ⟨t, a, b⟩ := k T hT X
  refine ⟨t, ?_, b⟩
  unfold lcmpv at a
  jvm_step X.here [X.here.top, hexec, hb, hdg]
  by_cases h1 : y < x
  · rw [if_pos h1]
    rw [if_pos (show x > y from h1)] at a
    exact a
  · rw [if_neg h1]
    rw [if_neg (show ¬ x > y from h1)] at a
    by_cases h2 : x = y
    · rw [if_pos h2]
      rw [if_pos (beq_iff_eq.mpr h2)] at a
      exact a
    · rw [if_neg h2]
      rw [if_neg (fun h => h2 (beq_iff_eq.mp h))] at a
      exact a
end KL
section KJ
variable {p : Program} {l : Launch} {e : Env} {R : Room} {s : State} {m : MethodId} {args : Array Value} {below : List Frame} {meth : Method} {c : Code} {H : Heap} {locs : List Loc} {cells slots : Nat} {Q : State → Prop}
variable {pc : Nat} {ls : Array Slot} {rest st0 : List Value} {a : Array Value} {A0 : Nat → Prop} {D : va_G} {tys : List (ClassId × FieldType)} {ws wc wr : va_W} {Wf : (Nat → Nat) → va_W} {mc ms : Nat} {h0 : Nat}
variable {y : MethodName} {b cc : ByteArray} {ml nL n index : Nat} {rm : Room} {own host : String} {As : List Value} {c0 : Cond}
theorem k_newJ {cc : ByteArray} (hexec : p.tables.exec = Jvm.exec) (hb : c.code = cc) (harr : (Cond.arrayClass .long).before args s = true) {cJ : ClassId} (hK : va_K D vwCl tys s) (t0 : Nat) (ht : tys[t0]? = some (cJ, .long)) (hP : va_P D vwCl ws H) (hD : va_D A0 ws) {H0 : Heap} (hS : va_S A0 H0 H locs) (hA : ∀ q, H0.size ≤ q → A0 q)
    {n : Int32} {N' : Nat} (hn : ¬ n < 0) (hN : n.toNatClampNeg = N') (hbytes : N' * componentBytes .long ≤ 536870912) (hcells : cells + 1 ≤ R.cells) (hslots : slots + N' ≤ R.slots) (hdg : decode cc pc = .ok (.newarray .long, 2))
    (kk : ∀ (q : Nat) (H1 : Heap), va_P D vwCl (ws ++ [(q, .inl (cJ, N', .inr (.inl (fun _ => 0))))]) H1 → va_D A0 (ws ++ [(q, .inl (cJ, N', .inr (.inl (fun _ => 0))))]) → va_S A0 H0 H1 locs → W p l e R s m args below meth c H1 locs (cells + 1) (slots + N') Q (F0 m (pc + 2) ls (.ref q :: rest))) :
    W p l e R s m args below meth c H locs cells slots Q (F0 m pc ls (.int n :: rest)) := by
  refine va_newa (atype := .long) hexec hb harr rfl hK hP hD hS hA (a0 := (N', .inr (.inl (fun _ => 0)))) (fun cA => rfl) hn hN hbytes hcells hslots hdg (fun q cA H1 hK2 hP2 hD2 hS2 => ?_)
  have e1 : s.vm.findClass ("[" ++ FieldType.long.toString) = some cA := (hK2.2 tys.length (cA, .long) (by rw [List.getElem?_append_right (Nat.le_refl _), Nat.sub_self]; rfl)).2
  have e2 : s.vm.findClass ("[" ++ FieldType.long.toString) = some cJ := (hK.2 t0 _ ht).2
  cases Option.some.inj (e1.symm.trans e2)
  exact kk q H1 hP2 hD2 hS2
end KJ
theorem CutP_pre (pre : va_W) {ws wc w1 ws' : va_W} (h : CutP ws wc w1 ws') : CutP (pre ++ ws) wc w1 (pre ++ ws') := by
  obtain ⟨wr, p1, p2⟩ := h
  refine ⟨pre ++ wr, (p1.append_left pre).trans (List.perm_append_comm_assoc _ _ _), ?_⟩
  rw [List.append_assoc]
  exact p2.append_left pre
theorem CutP_more (x x' : va_W) {ws wc w1 ws' : va_W} (h : CutP ws wc w1 ws') : CutP (x ++ ws) (wc ++ x) (w1 ++ x') (x' ++ ws') := by
  obtain ⟨wr, p1, p2⟩ := h
  refine ⟨wr, ?_, ?_⟩
  · rw [List.append_assoc]
    exact (p1.append_left x).trans (List.perm_append_comm_assoc _ _ _)
  · rw [← List.append_assoc]
    exact (p2.append_right x').trans List.perm_append_comm
theorem CutP_mid {ws wc w1 ws' wc2 w12 : va_W} (h : CutP ws wc w1 ws') (p : wc.Perm wc2) (q : w12.Perm w1) : CutP ws wc2 w12 ws' := by
  obtain ⟨wr, p1, p2⟩ := h
  exact ⟨wr, p1.trans (p.append_right wr), (q.append_left wr).trans p2⟩
theorem CutP_self (wc w1 : va_W) : CutP wc wc w1 w1 := ⟨[], by rw [List.append_nil], by rw [List.nil_append]⟩
theorem CutP_head (wc w1 wr : va_W) : CutP (wc ++ wr) wc w1 (w1 ++ wr) := ⟨wr, List.Perm.refl _, List.perm_append_comm⟩
def swF (a : Nat → Nat) : Nat → Nat := fun j => if j = 2 then a 4 else if j = 3 then a 5 else if j = 4 then a 2 else if j = 5 then a 3 else a j
def swL (y : FSt) : FSt := (fRar y, fKtw y, fClk y, fLs y, fLvi y, fNew y, fLog y, fV y)
theorem foA_fm (a b : Nat → Nat) (n : Nat) : foA a b (6 + n) = b n := by
  unfold foA
  rw [if_neg (by omega), Nat.add_sub_cancel_left]
theorem cut_F2 {cI cV : ClassId} {vf : Nat → Option Nat} {a a2 : Nat → Nat} {ad : Nat → Nat → Nat} (x : SSt) {k : Nat} (h : k < 16) (y : FSt) : CutP (W_S cI cV vf a ad x) (W_F cI cV vf (foA a (ad k)) (foc k x)) (W_F cI cV vf (foA a2 (ad k)) y) (W_S cI cV vf a2 ad (unf k x y)) := by
  refine ⟨fam cI ad (sV x) ((List.range 16).erase k), ?_, ?_⟩
  · rw [W_F_split, List.append_assoc]
    exact (fam_perm cI ad (sV x) h).append_left _
  · rw [W_F_split]
    refine (List.perm_append_comm_assoc _ _ _).trans ?_
    exact (fam_perm' cI ad (sV x) h (fV y)).append_left _
/-! the worlds of the law -/
abbrev QSt : Type := SSt × IA
def qS (x : QSt) : SSt := x.1
def qC (x : QSt) : IA := x.2
def qS_s (x : QSt) (v : SSt) : QSt := (v, x.2)
def qC_s (x : QSt) (v : IA) : QSt := (x.1, v)
abbrev Q4St : Type := SSt × IA × IA
def q4S (x : Q4St) : SSt := x.1
def q4C (x : Q4St) : IA := x.2.1
def q4W (x : Q4St) : IA := x.2.2
def q4S_s (x : Q4St) (v : SSt) : Q4St := (v, x.2.1, x.2.2)
def q4C_s (x : Q4St) (v : IA) : Q4St := (x.1, v, x.2.2)
def q4W_s (x : Q4St) (v : IA) : Q4St := (x.1, x.2.1, v)
def q4I (x : QSt) : Q4St := (x.1, x.2, fun _ => 0)
def q4Q (x : Q4St) : QSt := (x.1, x.2.1)
def q4_c (x : Q4St) (u : QSt) : Q4St := (u.1, u.2, x.2.2)
abbrev Q6St : Type := SSt × IA × OL
def q6S (x : Q6St) : SSt := x.1
def q6C (x : Q6St) : IA := x.2.1
def q6W (x : Q6St) : OL := x.2.2
def q6S_s (x : Q6St) (v : SSt) : Q6St := (v, x.2.1, x.2.2)
def q6C_s (x : Q6St) (v : IA) : Q6St := (x.1, v, x.2.2)
def q6W_s (x : Q6St) (v : OL) : Q6St := (x.1, x.2.1, v)
def q6I (x : QSt) : Q6St := (x.1, x.2, fun _ => 0)
def q6Q (x : Q6St) : QSt := (x.1, x.2.1)
def q6_c (x : Q6St) (u : QSt) : Q6St := (u.1, u.2, x.2.2)
abbrev GoSt : Type := SSt × IA × Bool
def gqS (x : GoSt) : SSt := x.1
def gqC (x : GoSt) : IA := x.2.1
def gqB (x : GoSt) : Bool := x.2.2
def gqS_s (x : GoSt) (v : SSt) : GoSt := (v, x.2.1, x.2.2)
def gqC_s (x : GoSt) (v : IA) : GoSt := (x.1, v, x.2.2)
def gqI (x : QSt) : GoSt := (x.1, x.2, false)
def swp (b : Bool) (a : Nat → Nat) : Nat → Nat := match b with
  | true => swF a
  | false => a
theorem swp_0 {b : Bool} {a : Nat → Nat} : swp b a 0 = a 0 := by cases b <;> rfl
theorem swF_2 (a : Nat → Nat) : swF (swF a) = a := by
  funext j
  unfold swF
  by_cases h2 : j = 2
  · subst h2; rfl
  · by_cases h3 : j = 3
    · subst h3; rfl
    · by_cases h4 : j = 4
      · subst h4; rfl
      · by_cases h5 : j = 5
        · subst h5; rfl
        · rw [if_neg h2, if_neg h3, if_neg h4, if_neg h5, if_neg h2, if_neg h3, if_neg h4, if_neg h5]
theorem swp_n {b : Bool} {a : Nat → Nat} : swF (swp b a) = swp (!b) a := by
  cases b
  · rfl
  · exact swF_2 a
def W_Q (cI cV : ClassId) (vf : Nat → Option Nat) (a : Nat → Nat) (ad : Nat → Nat → Nat) (ac : Nat) (x : QSt) : va_W := (ac, .inl (cI, 5, .inl (qC x))) :: W_S cI cV vf a ad (qS x)
def W_Q4 (cI cV : ClassId) (vf : Nat → Option Nat) (a : Nat → Nat) (ad : Nat → Nat → Nat) (ac aw : Nat) (x : Q4St) : va_W := (aw, .inl (cI, 4, .inl (q4W x))) :: (ac, .inl (cI, 5, .inl (q4C x))) :: W_S cI cV vf a ad (q4S x)
def W_Q6 (cI cV cJ : ClassId) (vf : Nat → Option Nat) (a : Nat → Nat) (ad : Nat → Nat → Nat) (ac aw : Nat) (x : Q6St) : va_W := (aw, .inl (cJ, 16, .inr (.inl (q6W x)))) :: (ac, .inl (cI, 5, .inl (q6C x))) :: W_S cI cV vf a ad (q6S x)
def W_G (cI cV : ClassId) (vf : Nat → Option Nat) (a : Nat → Nat) (ad : Nat → Nat → Nat) (ac : Nat) (x : GoSt) : va_W := W_Q cI cV vf (swp (gqB x) a) ad ac (gqS x, gqC x)
theorem q_last {α : Type} (ws : List α) (w : α) : (ws ++ [w]).Perm (w :: ws) := List.perm_append_comm (l₁ := ws) (l₂ := [w])
theorem va_P_tl {D : va_G} {cl : List vw_C} {w : Nat × va_E} {ws : va_W} {H : Heap} (h : va_P D cl (w :: ws) H) : va_P D cl ws H := va_P.ofmem fun q hq => h.mem (List.mem_cons_of_mem _ hq)
theorem va_D_tl {A : Nat → Prop} {w : Nat × va_E} {ws : va_W} (h : va_D A (w :: ws)) : va_D A ws := by
  rw [va_D.iff] at h ⊢
  exact ⟨(List.nodup_cons.mp h.1).2, fun q hq => h.2 q (List.mem_cons_of_mem _ hq)⟩
theorem W_Fx_sw (cI cV : ClassId) (vf : Nat → Option Nat) (a b : Nat → Nat) (y : FSt) : (W_Fx cI cV vf (foA a b) 4 2 y).Perm (W_F cI cV vf (foA (swF a) b) (swL y)) := by
  have e1 : W_F cI cV vf (foA (swF a) b) (swL y) = ([(a 0, .inr (6, [.ref (a 1), .ref (a 4), .ref (a 2), .int (fRar y), .int (fKtw y), .int (fClk y), .int (fLs y), .int (fLvi y)])), (a 1, .inl (cV, 16, .inr (.inr (.inr (.inr vf)))))] : va_W) ++ (([(a 4, .inr (2, [.ref (a 5), .int (loN (fNew y))])), (a 5, .inl (cI, 2100, .inl (loC (fNew y))))] : va_W) ++ (([(a 2, .inr (2, [.ref (a 3), .int (loN (fLog y))])), (a 3, .inl (cI, 2100, .inl (loC (fLog y))))] : va_W) ++ W_Value cI b (fV y))) := by
    rw [W_F_split]
    rfl
  have e2 : W_Fx cI cV vf (foA a b) 4 2 y = ([(a 0, .inr (6, [.ref (a 1), .ref (a 4), .ref (a 2), .int (fRar y), .int (fKtw y), .int (fClk y), .int (fLs y), .int (fLvi y)])), (a 1, .inl (cV, 16, .inr (.inr (.inr (.inr vf)))))] : va_W) ++ (([(a 2, .inr (2, [.ref (a 3), .int (loN (fLog y))])), (a 3, .inl (cI, 2100, .inl (loC (fLog y))))] : va_W) ++ (([(a 4, .inr (2, [.ref (a 5), .int (loN (fNew y))])), (a 5, .inl (cI, 2100, .inl (loC (fNew y))))] : va_W) ++ W_Value cI b (fV y))) := by
    simp only [W_Fx, W_Value, foA_fm, List.cons_append, List.nil_append]
    rfl
  rw [e1, e2]
  exact (List.perm_append_comm_assoc _ _ _).append_left _
section CL
variable {cI cV cJ cD : ClassId} {vf : Nat → Option Nat} {a : Nat → Nat} {ad : Nat → Nat → Nat} {ac aw : Nat}
theorem cut_QS (x : QSt) (u : SSt) : CutP (W_Q cI cV vf a ad ac x) (W_S cI cV vf a ad (qS x)) (W_S cI cV vf a ad u) (W_Q cI cV vf a ad ac (qS_s x u)) := CutP_pre ([(ac, .inl (cI, 5, .inl (qC x)))] : va_W) (CutP_self _ _)
theorem cut_QSi (x : QSt) : CutP (W_Q cI cV vf a ad ac x) (W_S cI cV vf a ad (qS x)) (W_S cI cV vf a ad (qS x)) (W_Q cI cV vf a ad ac x) := CutP_pre ([(ac, .inl (cI, 5, .inl (qC x)))] : va_W) (CutP_self _ _)
theorem cut_QF (x : QSt) {k : Nat} (h : k < 16) (u : FSt) : CutP (W_Q cI cV vf a ad ac x) (W_F cI cV vf (foA a (ad k)) (foc k (qS x))) (W_F cI cV vf (foA a (ad k)) u) (W_Q cI cV vf a ad ac (qS_s x (unf k (qS x) u))) := CutP_pre ([(ac, .inl (cI, 5, .inl (qC x)))] : va_W) (cut_F _ h _)
theorem cut_QFi (x : QSt) {k : Nat} (h : k < 16) : CutP (W_Q cI cV vf a ad ac x) (W_F cI cV vf (foA a (ad k)) (foc k (qS x))) (W_F cI cV vf (foA a (ad k)) (foc k (qS x))) (W_Q cI cV vf a ad ac x) := CutP_pre ([(ac, .inl (cI, 5, .inl (qC x)))] : va_W) (cut_idF _ h)
theorem cut_TS (x : Q4St) (u : SSt) : CutP (W_Q4 cI cV vf a ad ac aw x) (W_S cI cV vf a ad (q4S x)) (W_S cI cV vf a ad u) (W_Q4 cI cV vf a ad ac aw (q4S_s x u)) := CutP_pre ([(aw, .inl (cI, 4, .inl (q4W x))), (ac, .inl (cI, 5, .inl (q4C x)))] : va_W) (CutP_self _ _)
theorem cut_TSi (x : Q4St) : CutP (W_Q4 cI cV vf a ad ac aw x) (W_S cI cV vf a ad (q4S x)) (W_S cI cV vf a ad (q4S x)) (W_Q4 cI cV vf a ad ac aw x) := CutP_pre ([(aw, .inl (cI, 4, .inl (q4W x))), (ac, .inl (cI, 5, .inl (q4C x)))] : va_W) (CutP_self _ _)
theorem cut_TF (x : Q4St) {k : Nat} (h : k < 16) (u : FSt) : CutP (W_Q4 cI cV vf a ad ac aw x) (W_F cI cV vf (foA a (ad k)) (foc k (q4S x))) (W_F cI cV vf (foA a (ad k)) u) (W_Q4 cI cV vf a ad ac aw (q4S_s x (unf k (q4S x) u))) := CutP_pre ([(aw, .inl (cI, 4, .inl (q4W x))), (ac, .inl (cI, 5, .inl (q4C x)))] : va_W) (cut_F _ h _)
theorem cut_TFi (x : Q4St) {k : Nat} (h : k < 16) : CutP (W_Q4 cI cV vf a ad ac aw x) (W_F cI cV vf (foA a (ad k)) (foc k (q4S x))) (W_F cI cV vf (foA a (ad k)) (foc k (q4S x))) (W_Q4 cI cV vf a ad ac aw x) := CutP_pre ([(aw, .inl (cI, 4, .inl (q4W x))), (ac, .inl (cI, 5, .inl (q4C x)))] : va_W) (cut_idF _ h)
theorem cut_XS (x : Q6St) (u : SSt) : CutP (W_Q6 cI cV cJ vf a ad ac aw x) (W_S cI cV vf a ad (q6S x)) (W_S cI cV vf a ad u) (W_Q6 cI cV cJ vf a ad ac aw (q6S_s x u)) := CutP_pre ([(aw, .inl (cJ, 16, .inr (.inl (q6W x)))), (ac, .inl (cI, 5, .inl (q6C x)))] : va_W) (CutP_self _ _)
theorem cut_XSi (x : Q6St) : CutP (W_Q6 cI cV cJ vf a ad ac aw x) (W_S cI cV vf a ad (q6S x)) (W_S cI cV vf a ad (q6S x)) (W_Q6 cI cV cJ vf a ad ac aw x) := CutP_pre ([(aw, .inl (cJ, 16, .inr (.inl (q6W x)))), (ac, .inl (cI, 5, .inl (q6C x)))] : va_W) (CutP_self _ _)
theorem cut_XF (x : Q6St) {k : Nat} (h : k < 16) (u : FSt) : CutP (W_Q6 cI cV cJ vf a ad ac aw x) (W_F cI cV vf (foA a (ad k)) (foc k (q6S x))) (W_F cI cV vf (foA a (ad k)) u) (W_Q6 cI cV cJ vf a ad ac aw (q6S_s x (unf k (q6S x) u))) := CutP_pre ([(aw, .inl (cJ, 16, .inr (.inl (q6W x)))), (ac, .inl (cI, 5, .inl (q6C x)))] : va_W) (cut_F _ h _)
theorem cut_XFi (x : Q6St) {k : Nat} (h : k < 16) : CutP (W_Q6 cI cV cJ vf a ad ac aw x) (W_F cI cV vf (foA a (ad k)) (foc k (q6S x))) (W_F cI cV vf (foA a (ad k)) (foc k (q6S x))) (W_Q6 cI cV cJ vf a ad ac aw x) := CutP_pre ([(aw, .inl (cJ, 16, .inr (.inl (q6W x)))), (ac, .inl (cI, 5, .inl (q6C x)))] : va_W) (cut_idF _ h)
theorem cut_GS (x : GoSt) (u : SSt) : CutP (W_G cI cV vf a ad ac x) (W_S cI cV vf (swp (gqB x) a) ad (gqS x)) (W_S cI cV vf (swp (gqB x) a) ad u) (W_G cI cV vf a ad ac (gqS_s x u)) := CutP_pre ([(ac, .inl (cI, 5, .inl (gqC x)))] : va_W) (CutP_self _ _)
theorem cut_GSi (x : GoSt) : CutP (W_G cI cV vf a ad ac x) (W_S cI cV vf (swp (gqB x) a) ad (gqS x)) (W_S cI cV vf (swp (gqB x) a) ad (gqS x)) (W_G cI cV vf a ad ac x) := CutP_pre ([(ac, .inl (cI, 5, .inl (gqC x)))] : va_W) (CutP_self _ _)
theorem cut_GF (x : GoSt) {k : Nat} (h : k < 16) (u : FSt) : CutP (W_G cI cV vf a ad ac x) (W_F cI cV vf (foA (swp (gqB x) a) (ad k)) (foc k (gqS x))) (W_F cI cV vf (foA (swp (gqB x) a) (ad k)) u) (W_G cI cV vf a ad ac (gqS_s x (unf k (gqS x) u))) := CutP_pre ([(ac, .inl (cI, 5, .inl (gqC x)))] : va_W) (cut_F _ h _)
theorem cut_GFi (x : GoSt) {k : Nat} (h : k < 16) : CutP (W_G cI cV vf a ad ac x) (W_F cI cV vf (foA (swp (gqB x) a) (ad k)) (foc k (gqS x))) (W_F cI cV vf (foA (swp (gqB x) a) (ad k)) (foc k (gqS x))) (W_G cI cV vf a ad ac x) := CutP_pre ([(ac, .inl (cI, 5, .inl (gqC x)))] : va_W) (cut_idF _ h)
theorem cut_TQ (x : Q4St) (u : QSt) : CutP (W_Q4 cI cV vf a ad ac aw x) (W_Q cI cV vf a ad ac (q4S x, q4C x)) (W_Q cI cV vf a ad ac u) (W_Q4 cI cV vf a ad ac aw (q4_c x u)) := CutP_pre ([(aw, .inl (cI, 4, .inl (q4W x)))] : va_W) (CutP_self _ _)
theorem cut_XQ (x : Q6St) (u : QSt) : CutP (W_Q6 cI cV cJ vf a ad ac aw x) (W_Q cI cV vf a ad ac (q6S x, q6C x)) (W_Q cI cV vf a ad ac u) (W_Q6 cI cV cJ vf a ad ac aw (q6_c x u)) := CutP_pre ([(aw, .inl (cJ, 16, .inr (.inl (q6W x))))] : va_W) (CutP_self _ _)
theorem cut_XX2 (x : Q6St) (u : FSt) : CutP (W_Q6 cI cV cJ vf a ad ac aw x) (W_Fx cI cV vf (foA a (ad 0)) 2 4 (foc 0 (q6S x))) (W_Fx cI cV vf (foA a (ad 0)) 2 4 u) (W_Q6 cI cV cJ vf a ad ac aw (q6S_s x (unf 0 (q6S x) u))) := CutP_pre ([(aw, .inl (cJ, 16, .inr (.inl (q6W x)))), (ac, .inl (cI, 5, .inl (q6C x)))] : va_W) (cut_F _ (by decide) _)
theorem cut_GX2 (x : GoSt) (u : FSt) : CutP (W_G cI cV vf a ad ac x) (W_Fx cI cV vf (foA (swp (gqB x) a) (ad 0)) 2 4 (foc 0 (gqS x))) (W_Fx cI cV vf (foA (swp (gqB x) a) (ad 0)) 2 4 u) (W_G cI cV vf a ad ac (unf 0 (gqS x) u, gqC x, gqB x)) := CutP_pre ([(ac, .inl (cI, 5, .inl (gqC x)))] : va_W) (cut_F _ (by decide) _)
theorem cut_GX4 (x : GoSt) (u : FSt) : CutP (W_G cI cV vf a ad ac x) (W_Fx cI cV vf (foA (swp (gqB x) a) (ad 0)) 2 4 (foc 0 (gqS x))) (W_Fx cI cV vf (foA (swp (gqB x) a) (ad 0)) 4 2 u) (W_G cI cV vf a ad ac (unf 0 (gqS x) (swL u), gqC x, !gqB x)) := by
  have h := CutP_pre ([(ac, .inl (cI, 5, .inl (gqC x)))] : va_W) (cut_F2 (cI := cI) (cV := cV) (vf := vf) (a := swp (gqB x) a) (a2 := swF (swp (gqB x) a)) (ad := ad) (gqS x) (k := 0) (by decide) (swL u))
  have e : W_G cI cV vf a ad ac (unf 0 (gqS x) (swL u), gqC x, !gqB x) = ([(ac, .inl (cI, 5, .inl (gqC x)))] : va_W) ++ W_S cI cV vf (swF (swp (gqB x) a)) ad (unf 0 (gqS x) (swL u)) := by
    rw [swp_n]
    rfl
  rw [e]
  exact CutP_mid h (List.Perm.refl _) (W_Fx_sw _ _ _ _ _ _)
end CL

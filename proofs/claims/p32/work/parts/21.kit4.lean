/-! worlds in any order; calls out of a world cut by a permutation; the world of all sixteen values -/
theorem va_P.mem {D : va_G} {cl : List vw_C} {ws : va_W} {H : Heap} (h : va_P D cl ws H) {q : Nat × va_E} (hq : q ∈ ws) : va_at D cl q H := by
  obtain ⟨k, hk⟩ := List.getElem?_of_mem hq
  exact h k q hk
theorem va_P.ofmem {D : va_G} {cl : List vw_C} {ws : va_W} {H : Heap} (h : ∀ q ∈ ws, va_at D cl q H) : va_P D cl ws H := fun k q hk => h q (List.mem_of_getElem? hk)
theorem va_P.perm {D : va_G} {cl : List vw_C} {ws w2 : va_W} {H : Heap} (h : va_P D cl ws H) (hp : ws.Perm w2) : va_P D cl w2 H := va_P.ofmem fun q hq => h.mem (hp.mem_iff.mpr hq)
theorem va_D.iff {A : Nat → Prop} {ws : va_W} : va_D A ws ↔ (ws.map (fun q => q.1)).Nodup ∧ ∀ q ∈ ws, A q.1 := by
  constructor
  · intro h
    refine ⟨List.pairwise_iff_getElem.mpr fun i j hi hj hij e => ?_, fun q hq => ?_⟩
    · rw [List.length_map] at hi hj
      rw [List.getElem_map, List.getElem_map] at e
      have := h.1 i j _ _ (List.getElem?_eq_getElem hi) (List.getElem?_eq_getElem hj) e
      omega
    · obtain ⟨k, hk⟩ := List.getElem?_of_mem hq
      exact h.2 k q hk
  · intro h
    have h1 := List.pairwise_iff_getElem.mp h.1
    have key : ∀ (i j : Nat) (p q : Nat × va_E), ws[i]? = some p → ws[j]? = some q → i < j → p.1 ≠ q.1 := by
      intro i j p q hi hj hij
      obtain ⟨li, ei⟩ := List.getElem?_eq_some_iff.mp hi
      obtain ⟨lj, ej⟩ := List.getElem?_eq_some_iff.mp hj
      have h2 := h1 i j (by rw [List.length_map]; exact li) (by rw [List.length_map]; exact lj) hij
      rw [List.getElem_map, List.getElem_map, ei, ej] at h2
      exact h2
    refine ⟨fun i j p q hi hj e => ?_, fun k q hk => h.2 q (List.mem_of_getElem? hk)⟩
    rcases Nat.lt_trichotomy i j with g | g | g
    · exact absurd e (key i j p q hi hj g)
    · exact g
    · exact absurd e.symm (key j i q p hj hi g)
theorem va_D.perm {A : Nat → Prop} {ws w2 : va_W} (h : va_D A ws) (hp : ws.Perm w2) : va_D A w2 := by
  rw [va_D.iff] at h ⊢
  exact ⟨(hp.map _).nodup_iff.mp h.1, fun q hq => h.2 q (hp.mem_iff.mpr hq)⟩
theorem range_left {α : Type} (l r : List α) : (List.range l.length).map (fun i => (l ++ r)[i]?) = l.map some := by
  apply List.ext_getElem?
  intro i
  rw [List.getElem?_map, List.getElem?_map]
  by_cases h : i < l.length
  · rw [List.getElem?_range h, List.getElem?_eq_getElem h]
    simp only [Option.map_some]
    rw [List.getElem?_append_left h, List.getElem?_eq_getElem h]
  · rw [List.getElem?_eq_none (by rw [List.length_range]; omega), List.getElem?_eq_none (by omega)]
    rfl
theorem range_right {α : Type} (l r : List α) : ((List.range r.length).map (fun i => l.length + i)).map (fun i => (l ++ r)[i]?) = r.map some := by
  apply List.ext_getElem?
  intro i
  rw [List.getElem?_map, List.getElem?_map, List.getElem?_map]
  by_cases h : i < r.length
  · rw [List.getElem?_range h, List.getElem?_eq_getElem h]
    simp only [Option.map_some]
    rw [List.getElem?_append_right (by omega), Nat.add_sub_cancel_left, List.getElem?_eq_getElem h]
  · rw [List.getElem?_eq_none (by rw [List.length_range]; omega), List.getElem?_eq_none (by omega)]
    rfl
theorem nd_of {l : List Nat} (h : l.Nodup) : va_nd l = true := by
  induction l with
  | nil => rfl
  | cons a l ih =>
    rw [List.nodup_cons] at h
    simp only [va_nd, Bool.and_eq_true, decide_eq_true_eq]
    exact ⟨h.1, ih h.2⟩
theorem Cut.app (wc wr w1 : va_W) : Cut (wc ++ wr) wc w1 (wr ++ w1) (List.range wc.length) ((List.range wr.length).map (fun i => wc.length + i)) (List.range (wr ++ w1).length) := by
  refine ⟨wr, range_left wc wr, range_right wc wr, nd_of ?_, nd_of List.nodup_range, ?_, ?_, nd_of List.nodup_range⟩
  · exact List.pairwise_map.mpr (List.nodup_range.imp fun h e => h (by omega))
  · intro i hi hj
    obtain ⟨j, _, rfl⟩ := List.mem_map.mp hi
    have := List.mem_range.mp hj
    omega
  · have := range_left (wr ++ w1) ([] : va_W)
    rw [List.append_nil] at this
    exact this
/-- how a callee's world lies in the caller's, in any order -/
def CutP (ws wc w1 ws' : va_W) : Prop := ∃ wr : va_W, ws.Perm (wc ++ wr) ∧ (wr ++ w1).Perm ws'
section CP
variable {p : Program} {l : Launch} {e : Env} {R : Room} {s : State} {m : MethodId} {args : Array Value} {below : List Frame} {meth : Method} {c : Code} {H : Heap} {locs : List Loc} {cells slots : Nat} {Q : State → Prop}
variable {pc : Nat} {ls : Array Slot} {rest st0 : List Value} {a : Array Value} {A0 A : Nat → Prop} {D : va_G} {tys : List (ClassId × FieldType)} {ws wc w1 ws' : va_W} {rv : Option Value} {rs : Option Value ⊕ String} {mc ms : Nat}
variable {y : MethodName} {b cc : ByteArray} {ml nL n index : Nat} {ret : Option FieldType} {rm : Room} {own C : String} {h0 : Addr} {As : List Value} {c0 : Cond}
/-- invokevirtual, the callee's world anywhere in the caller's -/
theorem k_VP (S : CallFix p m c cc nL s args (c0 :: GW) own) (hM : MM l y b ml ret rm D tys wc w1 (.ref h0 :: As) rv) (h1 : Cond.methodLink own index y ∈ GW) (h2 : Cond.instanceMethod y ∈ GW) (h3 : Cond.selects C y y ∈ GW) (h4 : Cond.initialized C ∈ GW) (h5 : Cond.code y b ml ret ∈ GW)
    (hd : y.cls = C ∧ y.cls ≠ "java/lang/invoke/MethodHandle" ∧ y.cls ≠ "java/lang/invoke/VarHandle" ∧ (parseMethodDescriptor y.desc).map (fun d => d.parameters.length) = some n) (hRm : rm.frames + 1 ≤ R.frames ∧ 8 + (ml + 11) + rm.locals ≤ R.locals)
    (hK : va_K D vwCl tys s) (hE : EV A0 s) (hP : va_P D vwCl ws H) (hD : va_D A0 ws) (hS : va_S A0 s.heap H locs) (hA : ∀ q, s.heap.size ≤ q → A0 q) (hc : CutP ws wc w1 ws')
    (q0 ci : Nat) {vc : vw_C} {fs : List Value} (hci : vwCl[ci]? = some vc) (hvc : vc.1 = C) (hq0 : wc[q0]? = some (h0, .inr (ci, fs))) (hn : As.length = n) (hls : ls.size = nL) (hst : st0 = As.reverse ++ .ref h0 :: rest) (hroom : (rest.map fun v => v.category).sum ≤ 8)
    (hdg : decode cc pc = .ok (.invokevirtual index, 3)) (hf : cells + rm.cells ≤ R.cells ∧ slots + rm.slots ≤ R.slots)
    (kk : ∀ (H1 : Heap) (locs1 : List Loc), va_P D vwCl ws' H1 → va_D A0 ws' → va_S A0 s.heap H1 locs1 → W p l e R s m args below meth c H1 locs1 (cells + rm.cells) (slots + rm.slots) Q (F0 m (pc + 3) ls (rv.toList ++ rest))) :
    W p l e R s m args below meth c H locs cells slots Q (F0 m pc ls st0) := by
  obtain ⟨wr, p1, p2⟩ := hc
  have hP' := hP.perm p1
  have hD' := hD.perm p1
  have hq9 : (wc ++ wr)[q0]? = some (h0, .inr (ci, fs)) := by
    rw [List.getElem?_append_left (List.getElem?_eq_some_iff.mp hq0).1]; exact hq0
  exact k_V S hM h1 h2 h3 h4 h5 hd hRm hK hE hP' hD' hS hA (Cut.app wc wr w1) q0 ci hci hvc hq9 hn hls hst hroom hdg hf (fun H1 locs1 g1 g2 g3 => kk H1 locs1 (g1.perm p2) (g2.perm p2) g3)
end CP
abbrev fix6 (cI cV : ClassId) (vf : Nat → Option Nat) (a : Nat → Nat) (rar ktw clk lst lvi : Int32) (lo nw : LSt) : va_W :=
  [(a 0, .inr (6, [.ref (a 1), .ref (a 2), .ref (a 4), .int rar, .int ktw, .int clk, .int lst, .int lvi])), (a 1, .inl (cV, 16, .inr (.inr (.inr (.inr vf))))), (a 2, .inr (2, [.ref (a 3), .int (loN lo)])), (a 3, .inl (cI, 2100, .inl (loC lo))), (a 4, .inr (2, [.ref (a 5), .int (loN nw)])), (a 5, .inl (cI, 2100, .inl (loC nw)))]
abbrev SSt : Type := Int32 × Int32 × Int32 × Int32 × Int32 × LSt × LSt × (Nat → VSt)
def sRar (x : SSt) : Int32 := x.1
def sKtw (x : SSt) : Int32 := x.2.1
def sClk (x : SSt) : Int32 := x.2.2.1
def sLs (x : SSt) : Int32 := x.2.2.2.1
def sLvi (x : SSt) : Int32 := x.2.2.2.2.1
def sLog (x : SSt) : LSt := x.2.2.2.2.2.1
def sNew (x : SSt) : LSt := x.2.2.2.2.2.2.1
def sV (x : SSt) : Nat → VSt := x.2.2.2.2.2.2.2
def sRar_s (x : SSt) (v : Int32) : SSt := (v, x.2)
def sKtw_s (x : SSt) (v : Int32) : SSt := (x.1, v, x.2.2)
def sClk_s (x : SSt) (v : Int32) : SSt := (x.1, x.2.1, v, x.2.2.2)
def sLs_s (x : SSt) (v : Int32) : SSt := (x.1, x.2.1, x.2.2.1, v, x.2.2.2.2)
def sLvi_s (x : SSt) (v : Int32) : SSt := (x.1, x.2.1, x.2.2.1, x.2.2.2.1, v, x.2.2.2.2.2)
def sLog_s (x : SSt) (v : LSt) : SSt := (x.1, x.2.1, x.2.2.1, x.2.2.2.1, x.2.2.2.2.1, v, x.2.2.2.2.2.2)
def sNew_s (x : SSt) (v : LSt) : SSt := (x.1, x.2.1, x.2.2.1, x.2.2.2.1, x.2.2.2.2.1, x.2.2.2.2.2.1, v, x.2.2.2.2.2.2.2)
def sV_s (x : SSt) (v : Nat → VSt) : SSt := (x.1, x.2.1, x.2.2.1, x.2.2.2.1, x.2.2.2.2.1, x.2.2.2.2.2.1, x.2.2.2.2.2.2.1, v)
/-- the state with one value in focus, and back -/
def foc (k : Nat) (x : SSt) : FSt := (sRar x, sKtw x, sClk x, sLs x, sLvi x, sLog x, sNew x, sV x k)
def vup (f : Nat → VSt) (k : Nat) (v : VSt) : Nat → VSt := fun j => if j = k then v else f j
def unf (k : Nat) (x : SSt) (y : FSt) : SSt := (fRar y, fKtw y, fClk y, fLs y, fLvi y, fLog y, fNew y, vup (sV x) k (fV y))
def fam (cI : ClassId) (ad : Nat → Nat → Nat) (f : Nat → VSt) (l : List Nat) : va_W := l.flatMap (fun k => W_Value cI (ad k) (f k))
def W_S (cI cV : ClassId) (vf : Nat → Option Nat) (a : Nat → Nat) (ad : Nat → Nat → Nat) (x : SSt) : va_W :=
  fix6 cI cV vf a (sRar x) (sKtw x) (sClk x) (sLs x) (sLvi x) (sLog x) (sNew x) ++ fam cI ad (sV x) (List.range 16)
def foA (a b : Nat → Nat) : Nat → Nat := fun j => if j < 6 then a j else b (j - 6)
theorem W_F_split (cI cV : ClassId) (vf : Nat → Option Nat) (a b : Nat → Nat) (y : FSt) :
    W_F cI cV vf (foA a b) y = fix6 cI cV vf a (fRar y) (fKtw y) (fClk y) (fLs y) (fLvi y) (fLog y) (fNew y) ++ W_Value cI b (fV y) := by
  have h : foA a b (6 + vlFm (fV y)) = b (vlFm (fV y)) := by
    unfold foA
    rw [if_neg (by omega), Nat.add_sub_cancel_left]
  simp only [W_F, W_Value, h, List.cons_append, List.nil_append]
  rfl
theorem fam_ne (cI : ClassId) (ad : Nat → Nat → Nat) (f : Nat → VSt) (k : Nat) (v : VSt) (l : List Nat) (h : k ∉ l) : fam cI ad (vup f k v) l = fam cI ad f l := by
  induction l with
  | nil => rfl
  | cons j l ih =>
    simp only [List.mem_cons, not_or] at h
    have h1 : vup f k v j = f j := by simp [vup, Ne.symm h.1]
    show W_Value cI (ad j) (vup f k v j) ++ fam cI ad (vup f k v) l = W_Value cI (ad j) (f j) ++ fam cI ad f l
    rw [h1, ih h.2]
theorem fam_perm (cI : ClassId) (ad : Nat → Nat → Nat) (f : Nat → VSt) {k : Nat} (h : k < 16) : (fam cI ad f (List.range 16)).Perm (W_Value cI (ad k) (f k) ++ fam cI ad f ((List.range 16).erase k)) :=
  (List.perm_cons_erase (List.mem_range.mpr h)).flatMap_right _
theorem fam_perm' (cI : ClassId) (ad : Nat → Nat → Nat) (f : Nat → VSt) {k : Nat} (h : k < 16) (v : VSt) : (fam cI ad f ((List.range 16).erase k) ++ W_Value cI (ad k) v).Perm (fam cI ad (vup f k v) (List.range 16)) := by
  have h1 := fam_perm cI ad (vup f k v) h
  have h2 : vup f k v k = v := by simp [vup]
  rw [h2, fam_ne cI ad f k v _ (fun z => ((List.Nodup.mem_erase_iff List.nodup_range).mp z).1 rfl)] at h1
  exact List.perm_append_comm.trans h1.symm
/-- a value's own call, out of the world of all -/
theorem cut_V {cI cV : ClassId} {vf : Nat → Option Nat} {a : Nat → Nat} {ad : Nat → Nat → Nat} (x : SSt) {k : Nat} (h : k < 16) (v : VSt) : CutP (W_S cI cV vf a ad x) (W_Value cI (ad k) (sV x k)) (W_Value cI (ad k) v) (W_S cI cV vf a ad (sV_s x (vup (sV x) k v))) := by
  refine ⟨fix6 cI cV vf a (sRar x) (sKtw x) (sClk x) (sLs x) (sLvi x) (sLog x) (sNew x) ++ fam cI ad (sV x) ((List.range 16).erase k), ?_, ?_⟩
  · refine ((fam_perm cI ad (sV x) h).append_left _).trans ?_
    exact List.perm_append_comm_assoc _ _ _
  · rw [List.append_assoc]
    exact (fam_perm' cI ad (sV x) h v).append_left _
/-- a call of the server's own method that looks at one key -/
theorem cut_F {cI cV : ClassId} {vf : Nat → Option Nat} {a : Nat → Nat} {ad : Nat → Nat → Nat} (x : SSt) {k : Nat} (h : k < 16) (y : FSt) : CutP (W_S cI cV vf a ad x) (W_F cI cV vf (foA a (ad k)) (foc k x)) (W_F cI cV vf (foA a (ad k)) y) (W_S cI cV vf a ad (unf k x y)) := by
  refine ⟨fam cI ad (sV x) ((List.range 16).erase k), ?_, ?_⟩
  · rw [W_F_split, List.append_assoc]
    exact (fam_perm cI ad (sV x) h).append_left _
  · rw [W_F_split]
    refine (List.perm_append_comm_assoc _ _ _).trans ?_
    exact (fam_perm' cI ad (sV x) h (fV y)).append_left _
theorem Cut.nil (ws : va_W) : Cut ws [] [] ws [] ((List.range ws.length).map (fun i => 0 + i)) (List.range ws.length) := by
  have h := Cut.app [] ws []
  simp only [List.append_nil] at h
  exact h
theorem cut_new {cI cV : ClassId} {vf : Nat → Option Nat} {a : Nat → Nat} {ad : Nat → Nat → Nat} (x : SSt) (u : LSt) : CutP (W_S cI cV vf a ad x) (W_Log cI (fun j => a (4 + j)) (sNew x)) (W_Log cI (fun j => a (4 + j)) u) (W_S cI cV vf a ad (sNew_s x u)) := by
  have key : ∀ z : LSt, (W_S cI cV vf a ad (sNew_s x z)).Perm (W_Log cI (fun j => a (4 + j)) z ++ (([(a 0, .inr (6, [.ref (a 1), .ref (a 2), .ref (a 4), .int (sRar x), .int (sKtw x), .int (sClk x), .int (sLs x), .int (sLvi x)])), (a 1, .inl (cV, 16, .inr (.inr (.inr (.inr vf))))), (a 2, .inr (2, [.ref (a 3), .int (loN (sLog x))])), (a 3, .inl (cI, 2100, .inl (loC (sLog x))))] : va_W) ++ fam cI ad (sV x) (List.range 16))) := by
    intro z
    have h := List.perm_append_comm_assoc ([(a 0, .inr (6, [.ref (a 1), .ref (a 2), .ref (a 4), .int (sRar x), .int (sKtw x), .int (sClk x), .int (sLs x), .int (sLvi x)])), (a 1, .inl (cV, 16, .inr (.inr (.inr (.inr vf))))), (a 2, .inr (2, [.ref (a 3), .int (loN (sLog x))])), (a 3, .inl (cI, 2100, .inl (loC (sLog x))))] : va_W) (W_Log cI (fun j => a (4 + j)) z) (fam cI ad (sV x) (List.range 16))
    exact h
  refine ⟨_, key (sNew x), ?_⟩
  exact List.perm_append_comm.trans (key u).symm
theorem inb_lt {i : Int32} {n : Nat} (h : inb i n = true) : i.toNatClampNeg < n := by
  simp only [inb, Bool.and_eq_true, decide_eq_true_eq] at h
  exact h.2
theorem vup_self (f : Nat → VSt) (k : Nat) : vup f k (f k) = f := by
  funext j
  by_cases h : j = k
  · simp [vup, h]
  · simp [vup, h]
theorem cut_idV {cI cV : ClassId} {vf : Nat → Option Nat} {a : Nat → Nat} {ad : Nat → Nat → Nat} (x : SSt) {k : Nat} (h : k < 16) : CutP (W_S cI cV vf a ad x) (W_Value cI (ad k) (sV x k)) (W_Value cI (ad k) (sV x k)) (W_S cI cV vf a ad x) := by
  have h1 := cut_V (cI := cI) (cV := cV) (vf := vf) (a := a) (ad := ad) x h (sV x k)
  rw [vup_self] at h1
  exact h1
theorem cut_idF {cI cV : ClassId} {vf : Nat → Option Nat} {a : Nat → Nat} {ad : Nat → Nat → Nat} (x : SSt) {k : Nat} (h : k < 16) : CutP (W_S cI cV vf a ad x) (W_F cI cV vf (foA a (ad k)) (foc k x)) (W_F cI cV vf (foA a (ad k)) (foc k x)) (W_S cI cV vf a ad x) := by
  have h1 := cut_F (cI := cI) (cV := cV) (vf := vf) (a := a) (ad := ad) x h (foc k x)
  have h2 : unf k x (foc k x) = x := by
    show (sRar x, sKtw x, sClk x, sLs x, sLvi x, sLog x, sNew x, vup (sV x) k (sV x k)) = x
    rw [vup_self]
    rfl
  rw [h2] at h1
  exact h1
def rowKey (x : SSt) (r : Int32) : Nat := match fX3_cell (sLog x) r 1 with
  | some v => v.toNatClampNeg
  | none => 0

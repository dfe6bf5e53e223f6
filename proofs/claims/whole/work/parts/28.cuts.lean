abbrev LwSt : Type := SSt × MSt × OL × OD
def wS (x : LwSt) : SSt := x.1
def wM (x : LwSt) : MSt := x.2.1
def wO (x : LwSt) : OL := x.2.2.1
def wD (x : LwSt) : OD := x.2.2.2
def wS_s (x : LwSt) (v : SSt) : LwSt := (v, x.2.1, x.2.2.1, x.2.2.2)
def wM_s (x : LwSt) (v : MSt) : LwSt := (x.1, v, x.2.2.1, x.2.2.2)
def oCl (cJ : ClassId) (ao : Nat) (o : OL) : va_W := [(ao, .inl (cJ, 1, .inr (.inl o)))]
def dCl (cD : ClassId) (ao : Nat) (o : OD) : va_W := [(ao, .inl (cD, 1, .inr (.inr (.inr (.inl o)))))]
def W_L (cI cV cJ cD : ClassId) (vf : Nat → Option Nat) (am a : Nat → Nat) (ad : Nat → Nat → Nat) (ao aod : Nat) (x : LwSt) : va_W :=
  W_Model cI am (wM x) ++ (oCl cJ ao (wO x) ++ (dCl cD aod (wD x) ++ W_S cI cV vf a ad (wS x)))
theorem CutP_pre (pre : va_W) {ws wc w1 ws' : va_W} (h : CutP ws wc w1 ws') : CutP (pre ++ ws) wc w1 (pre ++ ws') := by
  obtain ⟨wr, p1, p2⟩ := h
  refine ⟨pre ++ wr, (p1.append_left pre).trans (List.perm_append_comm_assoc _ _ _), ?_⟩
  rw [List.append_assoc]
  exact p2.append_left pre
theorem CutP_more (x x' : va_W) {ws wc w1 ws' : va_W} (h : CutP ws wc w1 ws') : CutP (x ++ ws) (wc ++ x) (w1 ++ x') (x' ++ ws') := by
  obtain ⟨wr, p1, p2⟩ := h
  refine ⟨wr, ?_, ?_⟩
  · rw [List.append_assoc]
    exact (p1.append_left x).trans (List.perm_append_comm_assoc _ _ _)
  · rw [← List.append_assoc]
    exact (p2.append_right x').trans List.perm_append_comm
theorem CutP_mid {ws wc w1 ws' wc2 w12 : va_W} (h : CutP ws wc w1 ws') (p : wc.Perm wc2) (q : w12.Perm w1) : CutP ws wc2 w12 ws' := by
  obtain ⟨wr, p1, p2⟩ := h
  exact ⟨wr, p1.trans (p.append_right wr), (q.append_left wr).trans p2⟩
theorem CutP_self (wc w1 : va_W) : CutP wc wc w1 w1 := ⟨[], by rw [List.append_nil], by rw [List.nil_append]⟩
theorem CutP_head (wc w1 wr : va_W) : CutP (wc ++ wr) wc w1 (w1 ++ wr) := ⟨wr, List.Perm.refl _, List.perm_append_comm⟩
def foO (a b : Nat → Nat) (ao : Nat) : Nat → Nat := fun j => if j < 6 then a j else if j < 24 then b (j - 6) else ao
def swF (a : Nat → Nat) : Nat → Nat := fun j => if j = 2 then a 4 else if j = 3 then a 5 else if j = 4 then a 2 else if j = 5 then a 3 else a j
def swL (y : FSt) : FSt := (fRar y, fKtw y, fClk y, fLs y, fLvi y, fNew y, fLog y, fV y)
theorem foO_fm (a b : Nat → Nat) (ao n : Nat) (h : n < 18) : foO a b ao (6 + n) = b n := by
  unfold foO
  rw [if_neg (by omega), if_pos (by omega), Nat.add_sub_cancel_left]
theorem foA_fm (a b : Nat → Nat) (n : Nat) : foA a b (6 + n) = b n := by
  unfold foA
  rw [if_neg (by omega), Nat.add_sub_cancel_left]
theorem W_FO_split (cI cV cJ : ClassId) (vf : Nat → Option Nat) (a b : Nat → Nat) (ao : Nat) (y : POSt) (h : vlFm (fV (pF y)) < 18) :
    W_FO cI cV cJ vf (foO a b ao) y = W_F cI cV vf (foA a b) (pF y) ++ oCl cJ ao (pO y) := by
  simp only [W_FO, W_F, foO_fm a b ao _ h, foA_fm, List.cons_append, List.nil_append]
  rfl
theorem W_FD_split (cI cV cD : ClassId) (vf : Nat → Option Nat) (a b : Nat → Nat) (ao : Nat) (y : PDSt) (h : vlFm (fV (dF y)) < 18) :
    W_FD cI cV cD vf (foO a b ao) y = W_F cI cV vf (foA a b) (dF y) ++ dCl cD ao (dO y) := by
  simp only [W_FD, W_F, foO_fm a b ao _ h, foA_fm, List.cons_append, List.nil_append]
  rfl
theorem W_FxO_sw (cI cV cJ : ClassId) (vf : Nat → Option Nat) (a b : Nat → Nat) (ao : Nat) (y : POSt) (h : vlFm (fV (pF y)) < 18) :
    (W_FxO cI cV cJ vf (foO a b ao) 4 2 y).Perm (W_F cI cV vf (foA (swF a) b) (swL (pF y)) ++ oCl cJ ao (pO y)) := by
  have e1 : W_F cI cV vf (foA (swF a) b) (swL (pF y)) ++ oCl cJ ao (pO y) = ([(a 0, .inr (6, [.ref (a 1), .ref (a 4), .ref (a 2), .int (fRar (pF y)), .int (fKtw (pF y)), .int (fClk (pF y)), .int (fLs (pF y)), .int (fLvi (pF y))])), (a 1, .inl (cV, 16, .inr (.inr (.inr (.inr vf)))))] : va_W) ++ (([(a 4, .inr (2, [.ref (a 5), .int (loN (fNew (pF y)))])), (a 5, .inl (cI, 2100, .inl (loC (fNew (pF y)))))] : va_W) ++ (([(a 2, .inr (2, [.ref (a 3), .int (loN (fLog (pF y)))])), (a 3, .inl (cI, 2100, .inl (loC (fLog (pF y)))))] : va_W) ++ (W_Value cI b (fV (pF y)) ++ oCl cJ ao (pO y)))) := by
    rw [W_F_split]
    rfl
  have e2 : W_FxO cI cV cJ vf (foO a b ao) 4 2 y = ([(a 0, .inr (6, [.ref (a 1), .ref (a 4), .ref (a 2), .int (fRar (pF y)), .int (fKtw (pF y)), .int (fClk (pF y)), .int (fLs (pF y)), .int (fLvi (pF y))])), (a 1, .inl (cV, 16, .inr (.inr (.inr (.inr vf)))))] : va_W) ++ (([(a 2, .inr (2, [.ref (a 3), .int (loN (fLog (pF y)))])), (a 3, .inl (cI, 2100, .inl (loC (fLog (pF y)))))] : va_W) ++ (([(a 4, .inr (2, [.ref (a 5), .int (loN (fNew (pF y)))])), (a 5, .inl (cI, 2100, .inl (loC (fNew (pF y)))))] : va_W) ++ (W_Value cI b (fV (pF y)) ++ oCl cJ ao (pO y)))) := by
    simp only [W_FxO, W_Value, foO_fm a b ao _ h, List.cons_append, List.nil_append]
    rfl
  rw [e1, e2]
  exact (List.perm_append_comm_assoc _ _ _).append_left _
theorem cut_F2 {cI cV : ClassId} {vf : Nat → Option Nat} {a a2 : Nat → Nat} {ad : Nat → Nat → Nat} (x : SSt) {k : Nat} (h : k < 16) (y : FSt) : CutP (W_S cI cV vf a ad x) (W_F cI cV vf (foA a (ad k)) (foc k x)) (W_F cI cV vf (foA a2 (ad k)) y) (W_S cI cV vf a2 ad (unf k x y)) := by
  refine ⟨fam cI ad (sV x) ((List.range 16).erase k), ?_, ?_⟩
  · rw [W_F_split, List.append_assoc]
    exact (fam_perm cI ad (sV x) h).append_left _
  · rw [W_F_split]
    refine (List.perm_append_comm_assoc _ _ _).trans ?_
    exact (fam_perm' cI ad (sV x) h (fV y)).append_left _
section CL
variable {cI cV cJ cD : ClassId} {vf : Nat → Option Nat} {am a : Nat → Nat} {ad : Nat → Nat → Nat} {ao aod : Nat}
theorem cut_LM (x : LwSt) (u : MSt) : CutP (W_L cI cV cJ cD vf am a ad ao aod x) (W_Model cI am (wM x)) (W_Model cI am u) (W_L cI cV cJ cD vf am a ad ao aod (wM_s x u)) := CutP_head _ _ _
theorem cut_LMi (x : LwSt) : CutP (W_L cI cV cJ cD vf am a ad ao aod x) (W_Model cI am (wM x)) (W_Model cI am (wM x)) (W_L cI cV cJ cD vf am a ad ao aod x) := CutP_head _ _ _
theorem cut_LS (x : LwSt) (u : SSt) : CutP (W_L cI cV cJ cD vf am a ad ao aod x) (W_S cI cV vf a ad (wS x)) (W_S cI cV vf a ad u) (W_L cI cV cJ cD vf am a ad ao aod (wS_s x u)) :=
  CutP_pre _ (CutP_pre _ (CutP_pre _ (CutP_self _ _)))
theorem cut_LSi (x : LwSt) : CutP (W_L cI cV cJ cD vf am a ad ao aod x) (W_S cI cV vf a ad (wS x)) (W_S cI cV vf a ad (wS x)) (W_L cI cV cJ cD vf am a ad ao aod x) :=
  CutP_pre _ (CutP_pre _ (CutP_pre _ (CutP_self _ _)))
theorem cut_LFi (x : LwSt) {k : Nat} (h : k < 16) : CutP (W_L cI cV cJ cD vf am a ad ao aod x) (W_F cI cV vf (foA a (ad k)) (foc k (wS x))) (W_F cI cV vf (foA a (ad k)) (foc k (wS x))) (W_L cI cV cJ cD vf am a ad ao aod x) :=
  CutP_pre _ (CutP_pre _ (CutP_pre _ (cut_idF _ h)))
theorem cut_LO (x : LwSt) {k : Nat} (h : k < 16) (h1 : vlFm (sV (wS x) k) < 18) (u : POSt) (h2 : vlFm (fV (pF u)) < 18) : CutP (W_L cI cV cJ cD vf am a ad ao aod x) (W_FO cI cV cJ vf (foO a (ad k) ao) (foc k (wS x), wO x)) (W_FO cI cV cJ vf (foO a (ad k) ao) u) (W_L cI cV cJ cD vf am a ad ao aod (unf k (wS x) (pF u), wM x, pO u, wD x)) := by
  rw [W_FO_split _ _ _ _ _ _ _ _ h2, W_FO_split _ _ _ _ _ _ _ (foc k (wS x), wO x) h1]
  exact CutP_pre _ (CutP_more _ _ (CutP_pre _ (cut_F _ h _)))
theorem cut_LD (x : LwSt) {k : Nat} (h : k < 16) (h1 : vlFm (sV (wS x) k) < 18) (u : PDSt) (h2 : vlFm (fV (dF u)) < 18) : CutP (W_L cI cV cJ cD vf am a ad ao aod x) (W_FD cI cV cD vf (foO a (ad k) aod) (foc k (wS x), wD x)) (W_FD cI cV cD vf (foO a (ad k) aod) u) (W_L cI cV cJ cD vf am a ad ao aod (unf k (wS x) (dF u), wM x, wO x, dO u)) := by
  rw [W_FD_split _ _ _ _ _ _ _ _ h2, W_FD_split _ _ _ _ _ _ _ (foc k (wS x), wD x) h1]
  exact CutP_pre _ (CutP_pre _ (CutP_more _ _ (cut_F _ h _)))
theorem cut_LZ (x : LwSt) (u : ZSt) : CutP (W_L cI cV cJ cD vf am a ad ao aod x) (W_SO cI cV cJ vf a ad ao (wS x, wO x)) (W_SO cI cV cJ vf a ad ao u) (W_L cI cV cJ cD vf am a ad ao aod (zS u, wM x, zO u, wD x)) :=
  CutP_pre _ (CutP_mid (CutP_more _ _ (CutP_pre _ (CutP_self (W_S cI cV vf a ad (wS x)) (W_S cI cV vf a ad (zS u))))) List.perm_append_comm (List.perm_append_comm (l₁ := oCl cJ ao (zO u))))
theorem cut_LX2 (x : LwSt) {k : Nat} (h : k < 16) (h1 : vlFm (sV (wS x) k) < 18) (u : POSt) (h2 : vlFm (fV (pF u)) < 18) : CutP (W_L cI cV cJ cD vf am a ad ao aod x) (W_FxO cI cV cJ vf (foO a (ad k) ao) 2 4 (foc k (wS x), wO x)) (W_FxO cI cV cJ vf (foO a (ad k) ao) 2 4 u) (W_L cI cV cJ cD vf am a ad ao aod (unf k (wS x) (pF u), wM x, pO u, wD x)) :=
  cut_LO x h h1 u h2
theorem cut_LX4 (x : LwSt) {k : Nat} (h : k < 16) (h1 : vlFm (sV (wS x) k) < 18) (u : POSt) (h2 : vlFm (fV (pF u)) < 18) : CutP (W_L cI cV cJ cD vf am a ad ao aod x) (W_FxO cI cV cJ vf (foO a (ad k) ao) 2 4 (foc k (wS x), wO x)) (W_FxO cI cV cJ vf (foO a (ad k) ao) 4 2 u) (W_L cI cV cJ cD vf am (swF a) ad ao aod (unf k (wS x) (swL (pF u)), wM x, pO u, wD x)) := by
  refine CutP_mid (CutP_pre _ (CutP_more _ _ (CutP_pre _ (cut_F2 (a2 := swF a) (wS x) h (swL (pF u)))))) ?_ (W_FxO_sw _ _ _ _ _ _ _ _ h2)
  have e : W_FxO cI cV cJ vf (foO a (ad k) ao) 2 4 (foc k (wS x), wO x) = W_FO cI cV cJ vf (foO a (ad k) ao) (foc k (wS x), wO x) := rfl
  rw [e, W_FO_split _ _ _ _ _ _ _ (foc k (wS x), wO x) h1]
  exact List.Perm.refl _
end CL

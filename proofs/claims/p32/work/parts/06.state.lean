abbrev RSt : Type := IA × IA × Int32
def rwE (x : RSt) : IA := x.1
def rwP (x : RSt) : IA := x.2.1
def rwN (x : RSt) : Int32 := x.2.2
def rwE_s (x : RSt) (v : IA) : RSt := (v, x.2.1, x.2.2)
def rwP_s (x : RSt) (v : IA) : RSt := (x.1, v, x.2.2)
def rwN_s (x : RSt) (v : Int32) : RSt := (x.1, x.2.1, v)
abbrev CSt : Type := IA × IA × IA × Int32 × Int32
def chE (x : CSt) : IA := x.1
def chP (x : CSt) : IA := x.2.1
def chX (x : CSt) : IA := x.2.2.1
def chH (x : CSt) : Int32 := x.2.2.2.1
def chS (x : CSt) : Int32 := x.2.2.2.2
def chE_s (x : CSt) (v : IA) : CSt := (v, x.2.1, x.2.2.1, x.2.2.2.1, x.2.2.2.2)
def chP_s (x : CSt) (v : IA) : CSt := (x.1, v, x.2.2.1, x.2.2.2.1, x.2.2.2.2)
def chX_s (x : CSt) (v : IA) : CSt := (x.1, x.2.1, v, x.2.2.2.1, x.2.2.2.2)
def chH_s (x : CSt) (v : Int32) : CSt := (x.1, x.2.1, x.2.2.1, v, x.2.2.2.2)
def chS_s (x : CSt) (v : Int32) : CSt := (x.1, x.2.1, x.2.2.1, x.2.2.2.1, v)
abbrev TSt : Type := IA × IA × IA × Int32 × Int32
def tbH (x : TSt) : IA := x.1
def tbM (x : TSt) : IA := x.2.1
def tbX (x : TSt) : IA := x.2.2.1
def tbB (x : TSt) : Int32 := x.2.2.2.1
def tbC (x : TSt) : Int32 := x.2.2.2.2
def tbH_s (x : TSt) (v : IA) : TSt := (v, x.2.1, x.2.2.1, x.2.2.2.1, x.2.2.2.2)
def tbM_s (x : TSt) (v : IA) : TSt := (x.1, v, x.2.2.1, x.2.2.2.1, x.2.2.2.2)
def tbX_s (x : TSt) (v : IA) : TSt := (x.1, x.2.1, v, x.2.2.2.1, x.2.2.2.2)
def tbB_s (x : TSt) (v : Int32) : TSt := (x.1, x.2.1, x.2.2.1, v, x.2.2.2.2)
def tbC_s (x : TSt) (v : Int32) : TSt := (x.1, x.2.1, x.2.2.1, x.2.2.2.1, v)
abbrev GSt : Type := IA × IA
def gsP (x : GSt) : IA := x.1
def gsW (x : GSt) : IA := x.2
def gsP_s (x : GSt) (v : IA) : GSt := (v, x.2)
def gsW_s (x : GSt) (v : IA) : GSt := (x.1, v)
abbrev LSt : Type := IA × Int32
def loC (x : LSt) : IA := x.1
def loN (x : LSt) : Int32 := x.2
def loC_s (x : LSt) (v : IA) : LSt := (v, x.2)
def loN_s (x : LSt) (v : Int32) : LSt := (x.1, v)
abbrev VSt : Type := Int32 × Int32 × Int32 × Int32 × Nat × RSt × CSt × TSt × RSt × GSt
def vlHeld (x : VSt) : Int32 := x.1
def vlTyp (x : VSt) : Int32 := x.2.1
def vlEnd (x : VSt) : Int32 := x.2.2.1
def vlId (x : VSt) : Int32 := x.2.2.2.1
def vlFm (x : VSt) : Nat := x.2.2.2.2.1
def vlSm (x : VSt) : RSt := x.2.2.2.2.2.1
def vlCh (x : VSt) : CSt := x.2.2.2.2.2.2.1
def vlTb (x : VSt) : TSt := x.2.2.2.2.2.2.2.1
def vlPl (x : VSt) : RSt := x.2.2.2.2.2.2.2.2.1
def vlGr (x : VSt) : GSt := x.2.2.2.2.2.2.2.2.2
def vlHeld_s (x : VSt) (v : Int32) : VSt := (v, x.2.1, x.2.2.1, x.2.2.2.1, x.2.2.2.2.1, x.2.2.2.2.2.1, x.2.2.2.2.2.2.1, x.2.2.2.2.2.2.2.1, x.2.2.2.2.2.2.2.2.1, x.2.2.2.2.2.2.2.2.2)
def vlTyp_s (x : VSt) (v : Int32) : VSt := (x.1, v, x.2.2.1, x.2.2.2.1, x.2.2.2.2.1, x.2.2.2.2.2.1, x.2.2.2.2.2.2.1, x.2.2.2.2.2.2.2.1, x.2.2.2.2.2.2.2.2.1, x.2.2.2.2.2.2.2.2.2)
def vlEnd_s (x : VSt) (v : Int32) : VSt := (x.1, x.2.1, v, x.2.2.2.1, x.2.2.2.2.1, x.2.2.2.2.2.1, x.2.2.2.2.2.2.1, x.2.2.2.2.2.2.2.1, x.2.2.2.2.2.2.2.2.1, x.2.2.2.2.2.2.2.2.2)
def vlId_s (x : VSt) (v : Int32) : VSt := (x.1, x.2.1, x.2.2.1, v, x.2.2.2.2.1, x.2.2.2.2.2.1, x.2.2.2.2.2.2.1, x.2.2.2.2.2.2.2.1, x.2.2.2.2.2.2.2.2.1, x.2.2.2.2.2.2.2.2.2)
def vlFm_s (x : VSt) (v : Nat) : VSt := (x.1, x.2.1, x.2.2.1, x.2.2.2.1, v, x.2.2.2.2.2.1, x.2.2.2.2.2.2.1, x.2.2.2.2.2.2.2.1, x.2.2.2.2.2.2.2.2.1, x.2.2.2.2.2.2.2.2.2)
def vlSm_s (x : VSt) (v : RSt) : VSt := (x.1, x.2.1, x.2.2.1, x.2.2.2.1, x.2.2.2.2.1, v, x.2.2.2.2.2.2.1, x.2.2.2.2.2.2.2.1, x.2.2.2.2.2.2.2.2.1, x.2.2.2.2.2.2.2.2.2)
def vlCh_s (x : VSt) (v : CSt) : VSt := (x.1, x.2.1, x.2.2.1, x.2.2.2.1, x.2.2.2.2.1, x.2.2.2.2.2.1, v, x.2.2.2.2.2.2.2.1, x.2.2.2.2.2.2.2.2.1, x.2.2.2.2.2.2.2.2.2)
def vlTb_s (x : VSt) (v : TSt) : VSt := (x.1, x.2.1, x.2.2.1, x.2.2.2.1, x.2.2.2.2.1, x.2.2.2.2.2.1, x.2.2.2.2.2.2.1, v, x.2.2.2.2.2.2.2.2.1, x.2.2.2.2.2.2.2.2.2)
def vlPl_s (x : VSt) (v : RSt) : VSt := (x.1, x.2.1, x.2.2.1, x.2.2.2.1, x.2.2.2.2.1, x.2.2.2.2.2.1, x.2.2.2.2.2.2.1, x.2.2.2.2.2.2.2.1, v, x.2.2.2.2.2.2.2.2.2)
def vlGr_s (x : VSt) (v : GSt) : VSt := (x.1, x.2.1, x.2.2.1, x.2.2.2.1, x.2.2.2.2.1, x.2.2.2.2.2.1, x.2.2.2.2.2.2.1, x.2.2.2.2.2.2.2.1, x.2.2.2.2.2.2.2.2.1, v)
abbrev ASt : Type := IA
abbrev L2St : Type := LSt × LSt
def l2A (x : L2St) : LSt := x.1
def l2B (x : L2St) : LSt := x.2
def l2A_s (x : L2St) (v : LSt) : L2St := (v, x.2)
def l2B_s (x : L2St) (v : LSt) : L2St := (x.1, v)
abbrev FSt : Type := Int32 × Int32 × Int32 × Int32 × Int32 × LSt × LSt × VSt
def fRar (x : FSt) : Int32 := x.1
def fKtw (x : FSt) : Int32 := x.2.1
def fClk (x : FSt) : Int32 := x.2.2.1
def fLs (x : FSt) : Int32 := x.2.2.2.1
def fLvi (x : FSt) : Int32 := x.2.2.2.2.1
def fLog (x : FSt) : LSt := x.2.2.2.2.2.1
def fNew (x : FSt) : LSt := x.2.2.2.2.2.2.1
def fV (x : FSt) : VSt := x.2.2.2.2.2.2.2
def fRar_s (x : FSt) (v : Int32) : FSt := (v, x.2.1, x.2.2.1, x.2.2.2.1, x.2.2.2.2.1, x.2.2.2.2.2.1, x.2.2.2.2.2.2.1, x.2.2.2.2.2.2.2)
def fKtw_s (x : FSt) (v : Int32) : FSt := (x.1, v, x.2.2.1, x.2.2.2.1, x.2.2.2.2.1, x.2.2.2.2.2.1, x.2.2.2.2.2.2.1, x.2.2.2.2.2.2.2)
def fClk_s (x : FSt) (v : Int32) : FSt := (x.1, x.2.1, v, x.2.2.2.1, x.2.2.2.2.1, x.2.2.2.2.2.1, x.2.2.2.2.2.2.1, x.2.2.2.2.2.2.2)
def fLs_s (x : FSt) (v : Int32) : FSt := (x.1, x.2.1, x.2.2.1, v, x.2.2.2.2.1, x.2.2.2.2.2.1, x.2.2.2.2.2.2.1, x.2.2.2.2.2.2.2)
def fLvi_s (x : FSt) (v : Int32) : FSt := (x.1, x.2.1, x.2.2.1, x.2.2.2.1, v, x.2.2.2.2.2.1, x.2.2.2.2.2.2.1, x.2.2.2.2.2.2.2)
def fLog_s (x : FSt) (v : LSt) : FSt := (x.1, x.2.1, x.2.2.1, x.2.2.2.1, x.2.2.2.2.1, v, x.2.2.2.2.2.2.1, x.2.2.2.2.2.2.2)
def fNew_s (x : FSt) (v : LSt) : FSt := (x.1, x.2.1, x.2.2.1, x.2.2.2.1, x.2.2.2.2.1, x.2.2.2.2.2.1, v, x.2.2.2.2.2.2.2)
def fV_s (x : FSt) (v : VSt) : FSt := (x.1, x.2.1, x.2.2.1, x.2.2.2.1, x.2.2.2.2.1, x.2.2.2.2.2.1, x.2.2.2.2.2.2.1, v)
def W_Log2 (cI : ClassId) (a : Nat → Nat) (x : L2St) : va_W := [(a 0, .inr (2, [.ref (a 1), .int (loN (l2A x))])), (a 1, .inl (cI, 2100, .inl (loC (l2A x)))), (a 2, .inr (2, [.ref (a 3), .int (loN (l2B x))])), (a 3, .inl (cI, 2100, .inl (loC (l2B x))))]
def W_Row (cI : ClassId) (n : Nat) (a : Nat → Nat) (x : RSt) : va_W := [(a 0, .inr (3, [.ref (a 1), .ref (a 2), .int (rwN x)])), (a 1, .inl (cI, n, .inl (rwE x))), (a 2, .inl (cI, n, .inl (rwP x)))]
def W_Chain (cI : ClassId) (a : Nat → Nat) (x : CSt) : va_W := [(a 0, .inr (0, [.ref (a 1), .ref (a 2), .ref (a 3), .int (chH x), .int (chS x)])), (a 1, .inl (cI, 40, .inl (chE x))), (a 2, .inl (cI, 40, .inl (chP x))), (a 3, .inl (cI, 40, .inl (chX x)))]
def W_Table (cI : ClassId) (a : Nat → Nat) (x : TSt) : va_W := [(a 0, .inr (4, [.ref (a 1), .ref (a 2), .ref (a 3), .int (tbB x), .int (tbC x)])), (a 1, .inl (cI, 64, .inl (tbH x))), (a 2, .inl (cI, 40, .inl (tbM x))), (a 3, .inl (cI, 40, .inl (tbX x)))]
def W_Groups (cI : ClassId) (a : Nat → Nat) (x : GSt) : va_W := [(a 0, .inr (1, [.ref (a 1), .ref (a 2)])), (a 1, .inl (cI, 3, .inl (gsP x))), (a 2, .inl (cI, 120, .inl (gsW x)))]
def W_Log (cI : ClassId) (a : Nat → Nat) (x : LSt) : va_W := [(a 0, .inr (2, [.ref (a 1), .int (loN x)])), (a 1, .inl (cI, 2100, .inl (loC x)))]
def W_Value (cI : ClassId) (a : Nat → Nat) (x : VSt) : va_W := [(a 0, .inr (5, [.int (vlHeld x), .int (vlTyp x), .int (vlEnd x), .int (vlId x), .ref (a 1), .ref (a 4), .ref (a 8), .ref (a 12), .ref (a 15), .ref (a (vlFm x))])), (a 1, .inr (3, [.ref (a 2), .ref (a 3), .int (rwN (vlSm x))])), (a 2, .inl (cI, 16, .inl (rwE (vlSm x)))), (a 3, .inl (cI, 16, .inl (rwP (vlSm x)))), (a 4, .inr (0, [.ref (a 5), .ref (a 6), .ref (a 7), .int (chH (vlCh x)), .int (chS (vlCh x))])), (a 5, .inl (cI, 40, .inl (chE (vlCh x)))), (a 6, .inl (cI, 40, .inl (chP (vlCh x)))), (a 7, .inl (cI, 40, .inl (chX (vlCh x)))), (a 8, .inr (4, [.ref (a 9), .ref (a 10), .ref (a 11), .int (tbB (vlTb x)), .int (tbC (vlTb x))])), (a 9, .inl (cI, 64, .inl (tbH (vlTb x)))), (a 10, .inl (cI, 40, .inl (tbM (vlTb x)))), (a 11, .inl (cI, 40, .inl (tbX (vlTb x)))), (a 12, .inr (3, [.ref (a 13), .ref (a 14), .int (rwN (vlPl x))])), (a 13, .inl (cI, 40, .inl (rwE (vlPl x)))), (a 14, .inl (cI, 40, .inl (rwP (vlPl x)))), (a 15, .inr (1, [.ref (a 16), .ref (a 17)])), (a 16, .inl (cI, 3, .inl (gsP (vlGr x)))), (a 17, .inl (cI, 120, .inl (gsW (vlGr x))))]
def W_Arr (cI : ClassId) (n : Nat) (a : Nat → Nat) (x : IA) : va_W := [(a 0, .inl (cI, n, .inl x))]
def W_F (cI cV : ClassId) (vf : Nat → Option Nat) (a : Nat → Nat) (x : FSt) : va_W := [(a 0, .inr (6, [.ref (a 1), .ref (a 2), .ref (a 4), .int (fRar x), .int (fKtw x), .int (fClk x), .int (fLs x), .int (fLvi x)])), (a 1, .inl (cV, 16, .inr (.inr (.inr (.inr vf))))), (a 2, .inr (2, [.ref (a 3), .int (loN (fLog x))])), (a 3, .inl (cI, 2100, .inl (loC (fLog x)))), (a 4, .inr (2, [.ref (a 5), .int (loN (fNew x))])), (a 5, .inl (cI, 2100, .inl (loC (fNew x)))), (a 6, .inr (5, [.int (vlHeld (fV x)), .int (vlTyp (fV x)), .int (vlEnd (fV x)), .int (vlId (fV x)), .ref (a 7), .ref (a 10), .ref (a 14), .ref (a 18), .ref (a 21), .ref (a (6 + (vlFm (fV x))))])), (a 7, .inr (3, [.ref (a 8), .ref (a 9), .int (rwN (vlSm (fV x)))])), (a 8, .inl (cI, 16, .inl (rwE (vlSm (fV x))))), (a 9, .inl (cI, 16, .inl (rwP (vlSm (fV x))))), (a 10, .inr (0, [.ref (a 11), .ref (a 12), .ref (a 13), .int (chH (vlCh (fV x))), .int (chS (vlCh (fV x)))])), (a 11, .inl (cI, 40, .inl (chE (vlCh (fV x))))), (a 12, .inl (cI, 40, .inl (chP (vlCh (fV x))))), (a 13, .inl (cI, 40, .inl (chX (vlCh (fV x))))), (a 14, .inr (4, [.ref (a 15), .ref (a 16), .ref (a 17), .int (tbB (vlTb (fV x))), .int (tbC (vlTb (fV x)))])), (a 15, .inl (cI, 64, .inl (tbH (vlTb (fV x))))), (a 16, .inl (cI, 40, .inl (tbM (vlTb (fV x))))), (a 17, .inl (cI, 40, .inl (tbX (vlTb (fV x))))), (a 18, .inr (3, [.ref (a 19), .ref (a 20), .int (rwN (vlPl (fV x)))])), (a 19, .inl (cI, 40, .inl (rwE (vlPl (fV x))))), (a 20, .inl (cI, 40, .inl (rwP (vlPl (fV x))))), (a 21, .inr (1, [.ref (a 22), .ref (a 23)])), (a 22, .inl (cI, 3, .inl (gsP (vlGr (fV x))))), (a 23, .inl (cI, 120, .inl (gsW (vlGr (fV x)))))]
def cpyok (sp dp n : Int32) (n0 n1 : Nat) : Bool := decide (¬ sp < 0) && (decide (¬ dp < 0) && (decide (¬ n < 0) && (decide (sp.toNatClampNeg + n.toNatClampNeg ≤ n0) && decide (dp.toNatClampNeg + n.toNatClampNeg ≤ n1))))
theorem cpyok_1 {sp dp n : Int32} {n0 n1 : Nat} (h : cpyok sp dp n n0 n1 = true) : ¬ sp < 0 := by
  simp only [cpyok, Bool.and_eq_true, decide_eq_true_eq] at h
  exact h.1
theorem cpyok_2 {sp dp n : Int32} {n0 n1 : Nat} (h : cpyok sp dp n n0 n1 = true) : ¬ dp < 0 := by
  simp only [cpyok, Bool.and_eq_true, decide_eq_true_eq] at h
  exact h.2.1
theorem cpyok_3 {sp dp n : Int32} {n0 n1 : Nat} (h : cpyok sp dp n n0 n1 = true) : ¬ n < 0 := by
  simp only [cpyok, Bool.and_eq_true, decide_eq_true_eq] at h
  exact h.2.2.1
theorem cpyok_4 {sp dp n : Int32} {n0 n1 : Nat} (h : cpyok sp dp n n0 n1 = true) : sp.toNatClampNeg + n.toNatClampNeg ≤ n0 := by
  simp only [cpyok, Bool.and_eq_true, decide_eq_true_eq] at h
  exact h.2.2.2.1
theorem cpyok_5 {sp dp n : Int32} {n0 n1 : Nat} (h : cpyok sp dp n n0 n1 = true) : dp.toNatClampNeg + n.toNatClampNeg ≤ n1 := by
  simp only [cpyok, Bool.and_eq_true, decide_eq_true_eq] at h
  exact h.2.2.2.2
def n64 (r : UInt64) : Bool := decide (r &&& 0x7fffffffffffffff ≤ 0x7ff0000000000000)
theorem n64_t {r : UInt64} (h : n64 r = true) : vf_n64 r := by
  have h9 : r &&& 0x7fffffffffffffff ≤ 0x7ff0000000000000 := of_decide_eq_true h
  exact h9
def n32 (r : UInt32) : Bool := decide (r &&& 0x7fffffff ≤ 0x7f800000)
theorem n32_t {r : UInt32} (h : n32 r = true) : vf_n32 r := by
  have h9 : r &&& 0x7fffffff ≤ 0x7f800000 := of_decide_eq_true h
  exact h9
def keep {α β : Type} (a : α) (k : α → Option β) : Option β := k a
theorem keep_e {α β : Type} {a : α} {k : α → Option β} {r : Option β} (hf : keep a k = r) (v : α) (hv : v = a) : k v = r := by rw [hv]; exact hf
abbrev TY (cI cV cJ cD : ClassId) : List (ClassId × FieldType) := [(cI, .int), (cV, .object "Compactforms$Value"), (cJ, .long)]

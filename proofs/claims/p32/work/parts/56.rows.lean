/-! a row, whatever its kind -/
theorem cl_nI {n : Nat} (h : n < 2 ^ 31) : cl (nI n) = n := nI_clamp h
theorem isN_cl {x : Int32} {n : Nat} (h : isN x n) (hn : n < 2 ^ 31) : x = nI (cl x) ∧ cl x < n := by
  obtain ⟨m, hm, rfl⟩ := h
  rw [cl_nI (by omega)]; exact ⟨rfl, hm⟩
-- which kind a row is of
theorem opC_1 {r : RW} {c : CK} (h : wK r = 1) : opC r c = pshC (wA r) (wB r) (wT r) c := by unfold opC; rw [h]; rfl
theorem opC_2 {r : RW} {c : CK} (h : wK r = 2) : opC r c = popC (wA r) c := by unfold opC; rw [h]; rfl
theorem opC_3 {r : RW} {c : CK} (h : wK r = 3) : opC r c = addC (wA r) (wT r) c := by unfold opC; rw [h]; rfl
theorem opC_4 {r : RW} {c : CK} (h : wK r = 4) : opC r c = tkeC (wA r) c := by unfold opC; rw [h]; rfl
theorem opC_5 {r : RW} {c : CK} (h : wK r = 5) : opC r c = ratC (wA r) (wB r) (wT r) c := by unfold opC; rw [h]; rfl
theorem opC_6 {r : RW} {c : CK} (h : wK r = 6) : opC r c = appC (wA r) (wT r) c := by unfold opC; rw [h]; rfl
theorem opC_7 {r : RW} {c : CK} (h : wK r = 7) : opC r c = rdC (cl (wA r)) (cl (wB r)) (cl (wT r)) c := by unfold opC; rw [h]; rfl
theorem opC_8 {r : RW} {c : CK} (h : wK r = 8) : opC r c = dnC (cl (wA r)) (wB r) c := by unfold opC; rw [h]; rfl
theorem opC_9 {r : RW} {c : CK} (h : wK r = 9) : opC r c = clC (cl (wA r)) (cl (wB r)) (cl (wC r)) (cl (wT r)) c := by unfold opC; rw [h]; rfl
theorem opC_10 {r : RW} {c : CK} (h : wK r = 10) : opC r c = rmC c := by unfold opC; rw [h]; rfl
theorem opC_11 {r : RW} {c : CK} (h : wK r = 11) : opC r c = enC (wA r) c := by unfold opC; rw [h]; rfl
theorem opF_1 {r : RW} {c : CK} {f : FK} (h : wK r = 1) : opF r c f = pshF (wA r) (wT r) c f := by unfold opF; rw [h]; rfl
theorem opF_3 {r : RW} {c : CK} {f : FK} (h : wK r = 3) : opF r c f = addF (wA r) (wT r) c f := by unfold opF; rw [h]; rfl
theorem opF_5 {r : RW} {c : CK} {f : FK} (h : wK r = 5) : opF r c f = ratF (wA r) (wT r) c f := by unfold opF; rw [h]; rfl
theorem opF_6 {r : RW} {c : CK} {f : FK} (h : wK r = 6) : opF r c f = appF (wT r) c f := by unfold opF; rw [h]; rfl
theorem opF_o {r : RW} {c : CK} {f : FK} (h : wK r = 2 ∨ wK r = 4 ∨ wK r = 7 ∨ wK r = 8 ∨ wK r = 9 ∨ wK r = 10 ∨ wK r = 11) : opF r c f = f := by
  unfold opF
  rcases h with h | h | h | h | h | h | h <;> rw [h] <;> rfl
def isMk (r : RW) : Bool := decide (wK r = 1) || decide (wK r = 3) || decide (wK r = 5) || decide (wK r = 6)
/-- whether a row makes a value -/
def mkB (r : RW) (c : CK) : Bool := isMk r && !thC c (wT r)
theorem isMk_t {r : RW} (h : wK r = 1 ∨ wK r = 3 ∨ wK r = 5 ∨ wK r = 6) : isMk r = true := by
  unfold isMk
  rcases h with h | h | h | h <;> rw [h] <;> rfl
theorem isMk_f {r : RW} (h : wK r = 2 ∨ wK r = 4 ∨ wK r = 7 ∨ wK r = 8 ∨ wK r = 9 ∨ wK r = 10 ∨ wK r = 11) : isMk r = false := by
  unfold isMk
  rcases h with h | h | h | h | h | h | h <;> rw [h] <;> rfl
theorem mkB_t {r : RW} {c : CK} (h : wK r = 1 ∨ wK r = 3 ∨ wK r = 5 ∨ wK r = 6) : mkB r c = !thC c (wT r) := by unfold mkB; rw [isMk_t h]; rfl
theorem mkB_f {r : RW} {c : CK} (h : wK r = 2 ∨ wK r = 4 ∨ wK r = 7 ∨ wK r = 8 ∨ wK r = 9 ∨ wK r = 10 ∨ wK r = 11) : mkB r c = false := by unfold mkB; rw [isMk_f h]; rfl
theorem okCK_op {r : RW} {c : CK} (h : okCK c) (hr : okR r c) : okCK (opC r c) := by
  obtain ⟨-, ht, hr⟩ := hr
  obtain ⟨ht1, ht2⟩ := isN_cl ht (by omega)
  rcases hr with ⟨k, a1, a2, a3, a4⟩ | ⟨k, a1, a2, a3, a4, a5⟩ | ⟨k, a1, a2, a3, a4⟩ | ⟨k, a1, a2, a3, a4, a5⟩ | ⟨k, a1, a2, a3, a4⟩ | ⟨k, a1, a2, a3, a4⟩ | ⟨k, a1, a2, a3, a4, a5⟩ | ⟨k, a1, a2, a4, a5⟩ | ⟨k, a1, a2, a3, a4, a5⟩ | ⟨k, a1, a2, a3, a4⟩ | ⟨k, a2, a3, a4⟩
  · rw [opC_1 k]; exact ok_push h a1 a4
  · rw [opC_2 k]; exact ok_drop h (thC_T a4) (by rw [a5]; decide)
  · rw [opC_3 k]; exact ok_add h a1 a4 mkC_fnd
  · rw [opC_4 k]; unfold tkeC
    split
    · exact ok_drop h (thC_T a4) (by rcases a5 with e | e <;> rw [e] <;> decide)
    · exact h
  · rw [opC_5 k]; exact ok_rate h a1 a2 a4
  · rw [opC_6 k]; exact ok_append h a1 a4
  · rw [opC_7 k]
    exact ok_read h (isN_cl a1 (by omega)).2 (isN_cl a2 (by omega)).2 (by omega) a5
  · rw [opC_8 k]; exact ok_done h a5
  · rw [opC_9 k]
    exact ok_claim h (isN_cl a2 (by omega)).2 (by omega) a5
  · rw [opC_10 k]; exact Or.inl rfl
  · rw [opC_11 k]
    have h1 := ok_T h (thC_T a4)
    exact Or.inr h1
theorem okF_op {r : RW} {c : CK} {f : FK} (h : okF f) (hr : okR r c) : okF (opF r c f) := by
  obtain ⟨-, ht, hr⟩ := hr
  rcases hr with ⟨k, a1, a2, a3, a4⟩ | ⟨k, -⟩ | ⟨k, a1, a2, a3, a4⟩ | ⟨k, -⟩ | ⟨k, a1, a2, a3, a4⟩ | ⟨k, a1, a2, a3, a4⟩ | ⟨k, -⟩ | ⟨k, -⟩ | ⟨k, -⟩ | ⟨k, -⟩ | ⟨k, -⟩
  · rw [opF_1 k]; exact mkF_ok h
  · rw [opF_o (by simp [k])]; exact h
  · rw [opF_3 k]
    exact okF_add h (mkC_L (P := fun L => L.length < 40 ∨ fnd L (wA r) = true) (fun q => (a4 q).2) (Or.inl (by decide)))
  · rw [opF_o (by simp [k])]; exact h
  · rw [opF_5 k]; exact mkF_ok h
  · rw [opF_6 k]; exact mkF_ok h
  · rw [opF_o (by simp [k])]; exact h
  · rw [opF_o (by simp [k])]; exact h
  · rw [opF_o (by simp [k])]; exact h
  · rw [opF_o (by simp [k])]; exact h
  · rw [opF_o (by simp [k])]; exact h
/-- the class's kind of a row, its first cell, what it answers -/
def kcl (k : Int32) : Int32 := if k = 1 then 1 else if k = 2 then 2 else if k = 3 then 5 else if k = 4 then 6 else if k = 5 then 3 else if k = 6 then 4 else if k = 7 then 9 else if k = 8 then 10 else if k = 9 then 11 else if k = 10 then 7 else 8
def fst1 (r : RW) : Int32 := if wK r = 11 then wA r - wT r else wA r
theorem fst_o {r : RW} (h : wK r ≠ 11) : fst1 r = wA r := if_neg h
theorem cls_row {x : FSt} {c : CK} {f : FK} {k : Nat} {r : RW} (hk : k < 16) (h : VR (fV x) c f) (hc : okCK c) (hr : okR r c) (hclk : fClk x = wT r) :
    ∃ y u, fX7_perform k x (kcl (wK r)) (nI k) (fst1 r) (wB r) (wC r) = some (y, u) ∧ PerR x y (opC r c) (opF r c f) (mkB r c) := by
  obtain ⟨-, ht, hr⟩ := hr
  obtain ⟨ht1, ht2⟩ := isN_cl ht (by omega)
  have n11 : ∀ n : Int32, wK r = n → n ≠ 11 → fst1 r = wA r := fun n e g => fst_o (by rw [e]; exact g)
  rcases hr with ⟨e, a1, a2, a3, a4⟩ | ⟨e, a1, a2, a3, a4, a5⟩ | ⟨e, a1, a2, a3, a4⟩ | ⟨e, a1, a2, a3, a4, a5⟩ | ⟨e, a1, a2, a3, a4⟩ | ⟨e, a1, a2, a3, a4⟩ | ⟨e, a1, a2, a3, a4, a5⟩ | ⟨e, a1, a2, a4, a5⟩ | ⟨e, a1, a2, a3, a4, a5⟩ | ⟨e, a1, a2, a3, a4⟩ | ⟨e, a2, a3, a4⟩
  · rw [n11 1 e (by decide), opC_1 e, opF_1 e, mkB_t (by simp [e]), e, ← hclk]
    obtain ⟨y, y1, y2⟩ := cls_push (a := wA r) (b := wB r) hk h (wC r) a2 (by rw [hclk]; exact a4)
    exact ⟨y, _, y1, y2⟩
  · rw [n11 2 e (by decide), opC_2 e, opF_o (by simp [e]), mkB_f (by simp [e]), e]
    have h0 : 0 < (cL c).length := (ok_T hc (thC_T a4)).2.2.2.1 (by rw [a5]; decide)
    obtain ⟨y, y1, y2⟩ := cls_pop hk h (wB r) (wC r) a1 a5 h0 (popI_lt h0)
    exact ⟨y, _, y1, y2⟩
  · rw [n11 3 e (by decide), opC_3 e, opF_3 e, mkB_t (by simp [e]), e, ← hclk]
    obtain ⟨y, y1, y2⟩ := cls_add hk h hc (wB r) (wC r) a1 (by rw [hclk]; exact a4)
    exact ⟨y, _, y1, y2⟩
  · rw [n11 4 e (by decide), opC_4 e, opF_o (by simp [e]), mkB_f (by simp [e]), e]
    obtain ⟨y, y1, y2⟩ := cls_take hk h hc (wB r) (wC r) a1 a5
    exact ⟨y, _, y1, y2⟩
  · rw [n11 5 e (by decide), opC_5 e, opF_5 e, mkB_t (by simp [e]), e, ← hclk]
    obtain ⟨y, y1, y2⟩ := cls_rate (b := wB r) hk h (wC r) a1 (by rw [hclk]; exact a4)
    exact ⟨y, _, y1, y2⟩
  · rw [n11 6 e (by decide), opC_6 e, opF_6 e, mkB_t (by simp [e]), e, ← hclk]
    obtain ⟨y, y1, y2⟩ := cls_append (a := wA r) hk h (wB r) (wC r) (by rw [hclk]; exact a4)
    exact ⟨y, _, y1, y2⟩
  · obtain ⟨b1, b2⟩ := isN_cl a1 (by omega)
    obtain ⟨b3, b4⟩ := isN_cl a2 (by omega)
    rw [n11 7 e (by decide), opC_7 e, opF_o (by simp [e]), mkB_f (by simp [e]), e]
    obtain ⟨y, y1, y2⟩ := cls_read (now := cl (wT r)) hk h hc (wC r) b2 b4 a5 (by rw [hclk]; exact ht1) (by omega)
    rw [← b1, ← b3] at y1
    exact ⟨y, _, y1, y2⟩
  · obtain ⟨b1, b2⟩ := isN_cl a1 (by omega)
    rw [n11 8 e (by decide), opC_8 e, opF_o (by simp [e]), mkB_f (by simp [e]), e]
    obtain ⟨y, y1, y2⟩ := cls_done hk h hc (wB r) (wC r) b2 a5
    rw [← b1] at y1
    exact ⟨y, _, y1, y2⟩
  · obtain ⟨b1, b2⟩ := isN_cl a1 (by omega)
    obtain ⟨b3, b4⟩ := isN_cl a2 (by omega)
    obtain ⟨b5, b6⟩ := isN_cl a3 (by omega)
    rw [n11 9 e (by decide), opC_9 e, opF_o (by simp [e]), mkB_f (by simp [e]), e]
    obtain ⟨y, y1, y2⟩ := cls_claim (now := cl (wT r)) (ticks := cl (wC r)) hk h hc b2 b4 (by omega) a5 (by rw [hclk]; exact ht1) (by omega)
    rw [← b1, ← b3, ← b5] at y1
    exact ⟨y, _, y1, y2⟩
  · rw [n11 10 e (by decide), opC_10 e, opF_o (by simp [e]), mkB_f (by simp [e]), e]
    obtain ⟨y, y1, y2⟩ := cls_remove hk h (wA r) (wB r) (wC r)
    rw [hclk, if_pos a4] at y2
    exact ⟨y, _, y1, y2⟩
  · rw [show fst1 r = wA r - wT r from if_pos e, opC_11 e, opF_o (by simp [e]), mkB_f (by simp [e]), e]
    obtain ⟨y, y1, y2⟩ := cls_end hk h (wA r - wT r) (wB r) (wC r)
    rw [hclk, if_pos a4, show wT r + (wA r - wT r) = wA r from by rw [Int32.add_comm, Int32.sub_add_cancel]] at y2
    exact ⟨y, _, y1, y2⟩

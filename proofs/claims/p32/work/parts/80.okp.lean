/-! bits of the law's points; what holds of every key that is there, besides okCK -/
def pbs (e : Nat) (m s : Int32) : Int32 := (((124 + nI e) <<< (23 &&& 31)) ||| m) ||| s
def PBL : List Int32 := 0 :: (-2147483648) :: ((List.range 6).flatMap (fun e => [pbs e 0 0, pbs e 4194304 0, pbs e 0 (-2147483648), pbs e 4194304 (-2147483648)]))
theorem pb_mem {e : Nat} {m s : Int32} (he : e < 6) (hm : m = 0 ∨ m = 4194304) (hs : s = 0 ∨ s = -2147483648) : pbs e m s ∈ PBL := by
  refine List.mem_cons_of_mem _ (List.mem_cons_of_mem _ (List.mem_flatMap.mpr ⟨e, List.mem_range.mpr he, ?_⟩))
  rcases hm with rfl | rfl <;> rcases hs with rfl | rfl <;> simp
theorem pb_0 : (0 : Int32) ∈ PBL := List.mem_cons_self
theorem pb_n : (-2147483648 : Int32) ∈ PBL := List.mem_cons_of_mem _ List.mem_cons_self
theorem pb_num0 : ∀ a ∈ PBL, ¬ 2139095040 < (a &&& 2147483647) := by decide +kernel
theorem pb_num {a : Int32} (h : a ∈ PBL) : isNum a := pb_num0 a h
theorem pb_cmp : ∀ a ∈ PBL, ∀ b ∈ PBL, ris a ≤ ris b → Op.cmpValue (FP.fcmp a.toUInt32 b.toUInt32) .g < 0 ∨ (¬ Op.cmpValue (FP.fcmp a.toUInt32 b.toUInt32) .g < 0 ∧ Op.cmpValue (FP.fcmp a.toUInt32 b.toUInt32) .l = 0) := by decide +kernel
theorem pb_mul : ∀ a ∈ PBL, n32 (FP.fmul 1090519040 a.toUInt32) = true := by decide +kernel
def okP (t : Nat) (c : CK) : Prop := thC c (nI t) = true → 0 < (cL c).length ∧ (cE c = -1 ∨ ∃ e, e ≤ t + 1000 ∧ cE c = nI e) ∧ (cT c = 3 → ∀ q ∈ cL c, q.2 ∈ PBL)
theorem okP_0 {t : Nat} {c : CK} (h : thC c (nI t) = false) : okP t c := fun q => by rw [h] at q; cases q
theorem okP.tick {t d : Nat} {c : CK} (h : okP t c) (hd : t + d < 2 ^ 31) : okP (t + d) c := fun q => by
  obtain ⟨a1, a2, a3⟩ := h (th_mono q (nI_le (by omega) hd))
  refine ⟨a1, ?_, a3⟩
  rcases a2 with e | ⟨e, e1, e2⟩
  · exact Or.inl e
  · exact Or.inr ⟨e, by omega, e2⟩
theorem okP.vw {t : Nat} {c c' : CK} (h : okP t c) (hv : vw (nI t) c' = vw (nI t) c) : okP t c' := fun q => by
  obtain ⟨v1, v2⟩ := vw_eq hv
  have e := v2 q
  subst e
  exact h q
theorem mkC_E {t now : Int32} {c : CK} : cE (mkC t c now) = if thC c now = true then cE c else -1 := by
  unfold mkC
  split <;> rfl
theorem mkC_mem {t now : Int32} {c : CK} {q : Int32 × Int32} (h : q ∈ cL (mkC t c now)) : thC c now = true ∧ q ∈ cL c := by
  unfold mkC at h
  split at h
  · exact ⟨by assumption, h⟩
  · exact (nomatch h)
theorem drpE_E {c : CK} : cE (drpE c) = cE c := by
  unfold drpE
  split <;> rfl
theorem drpE_L {c : CK} : cL (drpE c) = cL c := by
  unfold drpE
  split <;> rfl
theorem drpE_T3 {c : CK} (h : cT (drpE c) = 3) : cT c = 3 := by
  unfold drpE at h
  split at h
  · exact absurd h (show ¬ (0 : Int32) = 3 by decide)
  · exact h
theorem rdC_L {g r now : Nat} {c : CK} : cL (rdC g r now c) = cL c ∧ cE (rdC g r now c) = cE c ∧ cT (rdC g r now c) = cT c := by
  unfold rdC
  split <;> exact ⟨rfl, rfl, rfl⟩
theorem dnC_L {g : Nat} {e : Int32} {c : CK} : cL (dnC g e c) = cL c ∧ cE (dnC g e c) = cE c ∧ cT (dnC g e c) = cT c := by
  unfold dnC
  split <;> exact ⟨rfl, rfl, rfl⟩
theorem clC_L {g r d now : Nat} {c : CK} : cL (clC g r d now c) = cL c ∧ cE (clC g r d now c) = cE c ∧ cT (clC g r d now c) = cT c := ⟨rfl, rfl, rfl⟩
theorem tkeC_E {a : Int32} {c : CK} : cE (tkeC a c) = cE c := by
  unfold tkeC
  split
  · exact drpE_E
  · rfl
theorem tkeC_mem {a : Int32} {c : CK} {q : Int32 × Int32} (h : q ∈ cL (tkeC a c)) : q ∈ cL c := by
  unfold tkeC at h
  split at h
  · rw [drpE_L] at h
    exact (List.eraseIdx_sublist _ _).subset h
  · exact h
theorem tkeC_T3 {a : Int32} {c : CK} (h : cT (tkeC a c) = 3) : cT c = 3 := by
  unfold tkeC at h
  split at h
  · have w := drpE_T3 h
    exact w
  · exact h
theorem addC_E {a now : Int32} {c : CK} : cE (addC a now c) = cE (mkC 2 c now) := by
  unfold addC
  split <;> rfl
theorem addC_T {a now : Int32} {c : CK} : cT (addC a now c) = cT (mkC 2 c now) := by
  unfold addC
  split <;> rfl
theorem ratL_mem {a : Int32} {L : LL} {q : Int32 × Int32} (h : q ∈ ratL a L) : q ∈ L := by
  unfold ratL at h
  split at h
  · exact (List.eraseIdx_sublist _ _).subset h
  · exact h
theorem opC_E {r : RW} {c : CK} (hr : okR r c) : cE (opC r c) = (if wK r = 11 then wA r else if thC c (wT r) = true then cE c else -1) ∨ cT (opC r c) = 0 := by
  obtain ⟨-, -, h⟩ := hr
  rcases h with h | h | h | h | h | h | h | h | h | h | h
  · rw [if_neg (by rw [h.1]; decide), opC_1 h.1]; exact Or.inl mkC_E
  · rw [if_neg (by rw [h.1]; decide), opC_2 h.1, if_pos h.2.2.2.2.1]
    refine Or.inl ?_
    unfold popC
    rw [drpE_E]; rfl
  · rw [if_neg (by rw [h.1]; decide), opC_3 h.1, addC_E]; exact Or.inl mkC_E
  · rw [if_neg (by rw [h.1]; decide), opC_4 h.1, if_pos h.2.2.2.2.1]; exact Or.inl tkeC_E
  · rw [if_neg (by rw [h.1]; decide), opC_5 h.1]; exact Or.inl mkC_E
  · rw [if_neg (by rw [h.1]; decide), opC_6 h.1]; exact Or.inl mkC_E
  · rw [if_neg (by rw [h.1]; decide), opC_7 h.1, if_pos h.2.2.2.2.1]; exact Or.inl rdC_L.2.1
  · rw [if_neg (by rw [h.1]; decide), opC_8 h.1, if_pos h.2.2.2.1]; exact Or.inl dnC_L.2.1
  · rw [if_neg (by rw [h.1]; decide), opC_9 h.1, if_pos h.2.2.2.2.1]; exact Or.inl clC_L.2.1
  · rw [opC_10 h.1]; exact Or.inr rfl
  · rw [if_pos h.1, opC_11 h.1]; exact Or.inl rfl
theorem okP_op {r : RW} {c : CK} {t : Nat} (h : okP t c) (hc : okCK c) (hr : okR r c) (ht : wT r = nI t) (h5 : wK r = 5 → wB r ∈ PBL) (h11 : wK r = 11 → ∃ e, e ≤ t + 1000 ∧ wA r = nI e) : okP t (opC r c) := by
  intro hth
  have hth' : thC (opC r c) (wT r) = true := by rw [ht]; exact hth
  have hT0 := thC_T hth
  refine ⟨?_, ?_, fun h3 => ?_⟩
  · by_cases h4 : cT (opC r c) = 4
    · rcases opC_T4 hr hth' h4 with ⟨k6, n6⟩ | ⟨t6, c4, ks⟩
      · rw [opC_6 k6, app_len]; omega
      · have hl := (h (by rw [← ht]; exact t6)).1
        rcases ks with (k | k | k | k) | k
        · rw [opC_6 k, app_len]; omega
        · rw [opC_7 k, rdC_L.1]; exact hl
        · rw [opC_8 k, dnC_L.1]; exact hl
        · rw [opC_9 k]; exact hl
        · rw [opC_11 k]; exact hl
    · exact (ok_T (okCK_op hc hr) hT0).2.2.2.1 h4
  · rcases opC_E hr with e | e
    · rw [e]
      by_cases k11 : wK r = 11
      · rw [if_pos k11]; exact Or.inr (h11 k11)
      · rw [if_neg k11]
        by_cases tc : thC c (wT r) = true
        · rw [if_pos tc]; exact (h (by rw [← ht]; exact tc)).2.1
        · rw [if_neg tc]; exact Or.inl rfl
    · exact absurd e hT0
  · have old : ∀ (q : Int32 × Int32), thC c (wT r) = true → cT c = 3 → q ∈ cL c → q.2 ∈ PBL := fun q a b d => (h (by rw [← ht]; exact a)).2.2 b q d
    obtain ⟨-, -, hk⟩ := hr
    intro q hq
    rcases hk with g | g | g | g | g | g | g | g | g | g | g
    · rw [opC_1 g.1] at h3
      have : cT (mkC 1 c (wT r)) = 3 := h3
      rw [mkC_T (fun w => (g.2.2.2.2 w).1)] at this
      exact absurd this (by decide)
    · rw [opC_2 g.1] at h3
      have w := drpE_T3 (show cT (drpE (setL c ((cL c).eraseIdx (popI (wA r) c)))) = 3 from h3)
      have : cT c = 3 := w
      rw [g.2.2.2.2.2] at this
      exact absurd this (by decide)
    · rw [opC_3 g.1, addC_T, mkC_T (fun w => (g.2.2.2.2 w).1)] at h3
      exact absurd h3 (by decide)
    · rw [opC_4 g.1] at h3 hq
      exact old q g.2.2.2.2.1 (tkeC_T3 h3) (tkeC_mem hq)
    · rw [opC_5 g.1] at hq
      have hq : q ∈ (ratL (wA r) (cL (mkC 3 c (wT r)))).insertIdx (ratI (wA r) (wB r) (wT r) c) (wA r, wB r) := hq
      rcases mem_ins rnk_le hq with e | e
      · rw [e]; exact h5 g.1
      · obtain ⟨m1, m2⟩ := mkC_mem (ratL_mem e)
        exact old q m1 (g.2.2.2.2 m1).1 m2
    · rw [opC_6 g.1] at h3
      have : cT (mkC 4 c (wT r)) = 3 := h3
      rw [mkC_T (fun w => (g.2.2.2.2 w).1)] at this
      exact absurd this (by decide)
    · rw [opC_7 g.1, rdC_L.2.2, g.2.2.2.2.2] at h3
      exact absurd h3 (by decide)
    · rw [opC_8 g.1, dnC_L.2.2, g.2.2.2.2] at h3
      exact absurd h3 (by decide)
    · rw [opC_9 g.1, clC_L.2.2, g.2.2.2.2.2] at h3
      exact absurd h3 (by decide)
    · rw [opC_10 g.1] at h3
      exact absurd h3 (show ¬ (0 : Int32) = 3 by decide)
    · rw [opC_11 g.1] at h3 hq
      exact old q g.2.2.2 h3 hq

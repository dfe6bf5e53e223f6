/-! a row more -/
theorem drp_T {c : CK} : cT (drpE c) = 0 ∨ drpE c = c := by
  unfold drpE
  split
  · exact Or.inl rfl
  · exact Or.inr rfl
theorem th_T0 {c : CK} {now : Int32} (h : cT c = 0) : ¬ thC c now = true := fun q => thC_T q h
theorem sins_len {L : LL} {a : Int32} : (sins L a).length = L.length + 1 := by
  unfold sins
  rw [List.length_append, List.length_cons]
  have := (List.filter_append_perm (fun q : Int32 × Int32 => decide (q.1 < a)) L).length_eq
  rw [List.length_append] at this
  omega
/-- of what is no stream: how many rows it needs, at most one more -/
theorem need_non {r : RW} {c : CK} {n : Nat} (h : okCK c) (hr : okR r c) (hn : thC c (wT r) = true → cT c ≠ 4 → (cL c).length + (if cE c = -1 then 0 else 1) ≤ n) (ht : thC (opC r c) (wT r) = true) (h4 : cT (opC r c) ≠ 4) :
    (cL (opC r c)).length + (if cE (opC r c) = -1 then 0 else 1) ≤ n + 1 := by
  obtain ⟨-, -, hr⟩ := hr
  have mk : ∀ t : Int32, t ≠ 4 → (thC c (wT r) = true → cT c = t) → (cL (mkC t c (wT r))).length + (if cE (mkC t c (wT r)) = -1 then 0 else 1) ≤ n := fun t ht4 hT => by
    unfold mkC
    by_cases e : thC c (wT r) = true
    · rw [if_pos e]; exact hn e (by rw [hT e]; exact ht4)
    · rw [if_neg e]; exact Nat.zero_le _
  have ers : ∀ L : LL, ∀ i, (L.eraseIdx i).length ≤ L.length := fun L i => (List.eraseIdx_sublist L i).length_le
  rcases hr with ⟨q, g⟩ | ⟨q, g⟩ | ⟨q, g⟩ | ⟨q, g⟩ | ⟨q, g⟩ | ⟨q, g⟩ | ⟨q, g⟩ | ⟨q, g⟩ | ⟨q, g⟩ | ⟨q, g⟩ | ⟨q, g⟩
  · rw [opC_1 q]
    have := mk 1 (by decide) (fun w => (g.2.2.2 w).1)
    unfold pshC
    generalize mkC 1 c (wT r) = c1 at *
    have hi : (if wB r = 0 then 0 else (cL c1).length) ≤ (cL c1).length := by split <;> omega
    show ((cL c1).insertIdx (if wB r = 0 then 0 else (cL c1).length) (wA r, 0)).length + (if cE c1 = -1 then 0 else 1) ≤ n + 1
    rw [List.length_insertIdx, if_pos hi]; omega
  · rw [opC_2 q] at ht h4 ⊢
    have := hn g.2.2.2.1 (by rw [g.2.2.2.2]; decide)
    unfold popC at ht ⊢
    rcases drp_T (c := setL c ((cL c).eraseIdx (popI (wA r) c))) with e | e
    · exact absurd ht (th_T0 e)
    · rw [e]
      have e2 := ers (cL c) (popI (wA r) c)
      show ((cL c).eraseIdx (popI (wA r) c)).length + (if cE c = -1 then 0 else 1) ≤ n + 1
      omega
  · rw [opC_3 q]
    have := mk 2 (by decide) (fun w => (g.2.2.2 w).1)
    unfold addC
    split
    · omega
    · generalize mkC 2 c (wT r) = c1 at *
      show (sins (cL c1) (wA r)).length + (if cE c1 = -1 then 0 else 1) ≤ n + 1
      rw [sins_len]; omega
  · rw [opC_4 q] at ht h4 ⊢
    have := hn g.2.2.2.1 (by rcases g.2.2.2.2 with w | w <;> rw [w] <;> decide)
    unfold tkeC at ht ⊢
    split at ht
    · rename_i w
      rw [if_pos w]
      rcases drp_T (c := setL c ((cL c).eraseIdx (fi (cL c) (wA r)))) with e | e
      · exact absurd ht (th_T0 e)
      · rw [e]
        have e2 := ers (cL c) (fi (cL c) (wA r))
        show ((cL c).eraseIdx (fi (cL c) (wA r))).length + (if cE c = -1 then 0 else 1) ≤ n + 1
        omega
    · rename_i w
      rw [if_neg w]; omega
  · rw [opC_5 q]
    have := mk 3 (by decide) (fun w => (g.2.2.2 w).1)
    unfold ratC ratI
    generalize mkC 3 c (wT r) = c1 at *
    show ((ratL (wA r) (cL c1)).insertIdx (rnk (ratL (wA r) (cL c1)) (wA r, wB r)) (wA r, wB r)).length + (if cE c1 = -1 then 0 else 1) ≤ n + 1
    rw [List.length_insertIdx, if_pos rnk_le, ratL_len]
    split <;> omega
  · rw [opC_6 q] at h4
    exact absurd (mkC_T (t := 4) (fun w => (g.2.2.2 w).1)) h4
  · rw [opC_7 q] at h4
    have : cT (rdC (cl (wA r)) (cl (wB r)) (cl (wT r)) c) = cT c := by unfold rdC; split <;> rfl
    exact absurd (this.trans g.2.2.2.2) h4
  · rw [opC_8 q] at h4
    have : cT (dnC (cl (wA r)) (wB r) c) = cT c := by unfold dnC; cases eno (wB r) <;> rfl
    exact absurd (this.trans g.2.2.2) h4
  · rw [opC_9 q] at h4
    exact absurd (show cT (clC (cl (wA r)) (cl (wB r)) (cl (wC r)) (cl (wT r)) c) = 4 from g.2.2.2.2) h4
  · rw [opC_10 q] at ht
    exact absurd ht (th_T0 rfl)
  · rw [opC_11 q] at h4 ⊢
    have := hn g.2.2 h4
    show (cL c).length + (if wA r = -1 then 0 else 1) ≤ n + 1
    split <;> omega
/-- which rows leave a stream -/
theorem opC_T4 {r : RW} {c : CK} (hr : okR r c) (ht : thC (opC r c) (wT r) = true) (h4 : cT (opC r c) = 4) : (wK r = 6 ∧ thC c (wT r) = false) ∨ (thC c (wT r) = true ∧ cT c = 4 ∧ ((wK r = 6 ∨ wK r = 7 ∨ wK r = 8 ∨ wK r = 9) ∨ wK r = 11)) := by
  obtain ⟨-, -, hr⟩ := hr
  rcases hr with ⟨q, g⟩ | ⟨q, g⟩ | ⟨q, g⟩ | ⟨q, g⟩ | ⟨q, g⟩ | ⟨q, g⟩ | ⟨q, g⟩ | ⟨q, g⟩ | ⟨q, g⟩ | ⟨q, g⟩ | ⟨q, g⟩
  · rw [opC_1 q] at h4
    exact absurd ((mkC_T (t := 1) (fun w => (g.2.2.2 w).1)).symm.trans h4) (by decide)
  · rw [opC_2 q] at ht h4
    unfold popC at ht h4
    rcases drp_T (c := setL c ((cL c).eraseIdx (popI (wA r) c))) with e | e
    · exact absurd ht (th_T0 e)
    · rw [e] at h4
      exact absurd (g.2.2.2.2.symm.trans h4) (by decide)
  · rw [opC_3 q] at h4
    have hT := mkC_T (t := 2) (c := c) (now := wT r) (fun w => (g.2.2.2 w).1)
    unfold addC at h4
    split at h4
    · exact absurd (hT.symm.trans h4) (by decide)
    · exact absurd (hT.symm.trans h4) (by decide)
  · rw [opC_4 q] at ht h4
    have hc4 : cT c ≠ 4 := by rcases g.2.2.2.2 with w | w <;> rw [w] <;> decide
    unfold tkeC at ht h4
    split at h4
    · rename_i w
      rw [if_pos w] at ht
      rcases drp_T (c := setL c ((cL c).eraseIdx (fi (cL c) (wA r)))) with e | e
      · exact absurd ht (th_T0 e)
      · rw [e] at h4; exact absurd h4 hc4
    · exact absurd h4 hc4
  · rw [opC_5 q] at h4
    exact absurd ((mkC_T (t := 3) (fun w => (g.2.2.2 w).1)).symm.trans h4) (by decide)
  · cases e : thC c (wT r) with
    | false => exact Or.inl ⟨q, rfl⟩
    | true => exact Or.inr ⟨rfl, (g.2.2.2 e).1, Or.inl (Or.inl q)⟩
  · exact Or.inr ⟨g.2.2.2.1, g.2.2.2.2, Or.inl (Or.inr (Or.inl q))⟩
  · exact Or.inr ⟨g.2.2.1, g.2.2.2, Or.inl (Or.inr (Or.inr (Or.inl q)))⟩
  · exact Or.inr ⟨g.2.2.2.1, g.2.2.2.2, Or.inl (Or.inr (Or.inr (Or.inr q)))⟩
  · rw [opC_10 q] at ht
    exact absurd ht (th_T0 rfl)
  · rw [opC_11 q] at h4
    exact Or.inr ⟨g.2.2, h4, Or.inr q⟩
theorem LIk.snoc {E : EL} {M id lvi k : Nat} {r : RW} {c : CK} (h : LIk E M id (wT r) k c) (hc : okCK c) (hr : okR r c) (hk : wY r = nI k) (hid : ∀ e ∈ E, e.2 ≤ lvi) :
    LIk (E ++ [(r, if mkB r c = true then lvi + 1 else id)]) (if mkB r c = true then E.length else M) (if mkB r c = true then lvi + 1 else id) (wT r) k (opC r c) := by
  obtain ⟨h1, h2, h3⟩ := h
  have hcnt : ∀ i : Nat, cntK k (E ++ [(r, i)]) = cntK k E + 1 := fun i => by
    rw [cnt_app]
    congr 1
    unfold cntK
    rw [List.countP_cons, List.countP_nil, Nat.zero_add, if_pos (decide_eq_true hk)]
  have hrws : ∀ i : Nat, rws (E ++ [(r, i)]) = rws E ++ [r] := fun i => rws_app
  have hlen : ∀ i : Nat, (E ++ [(r, i)]).length = E.length + 1 := fun i => by rw [List.length_append]; rfl
  -- what holds of a stream that is there then
  have hst : thC (opC r c) (wT r) = true → cT (opC r c) = 4 →
      (sfx k (E ++ [(r, if mkB r c = true then lvi + 1 else id)]) (if mkB r c = true then E.length else M)).length + (if cE (opC r c) = -1 then 0 else 1) ≤ cntK k E + 1 ∧
      ((if mkB r c = true then E.length else M) < E.length + 1 ∧ StrOk k (sfx k (E ++ [(r, if mkB r c = true then lvi + 1 else id)]) (if mkB r c = true then E.length else M)) (wT r) (opC r c) ∧ IdOk k (E ++ [(r, if mkB r c = true then lvi + 1 else id)]) (if mkB r c = true then E.length else M) (if mkB r c = true then lvi + 1 else id)) := fun ht h4 => by
    rcases opC_T4 hr ht h4 with ⟨q1, q2⟩ | ⟨q1, q2, q3⟩
    · have hm : mkB r c = true := by rw [mkB_t (by simp [q1]), q2]; rfl
      have hS : isS k r = true := isS_iff.mpr ⟨hk, Or.inl q1⟩
      simp only [hm, if_true]
      have hs : sfx k (E ++ [(r, lvi + 1)]) E.length = [r] := by
        rw [sfx_app (Nat.le_refl _)]
        unfold sfx
        rw [List.drop_length]
        show [] ++ List.filter (isS k) [r] = [r]
        rw [List.filter_cons_of_pos hS]; rfl
      have hE : cE (opC r c) = -1 := by
        rw [opC_6 q1]
        show cE (mkC 4 c (wT r)) = -1
        unfold mkC
        rw [if_neg (by rw [q2]; decide)]; rfl
      have hv : vw (wT r) c = c00 0 := by unfold vw; rw [if_neg (by rw [q2]; decide)]
      have hr0 : okR r (c00 0) := by rw [← hv, okR_vw]; exact hr
      rw [hs, hE]
      refine ⟨by simp, Nat.lt_succ_self _, ⟨⟨fun _ => ⟨hr0, ?_⟩, trivial⟩, ?_, ?_⟩, ?_⟩
      · obtain ⟨n, -, e⟩ := hr.2.1
        rw [e, show s00.2 = nI 0 from rfl]
        obtain ⟨n1, n2⟩ := isN_cl hr.2.1 (by omega)
        rw [← e, n1]
        exact nI_le (Nat.zero_le _) (by omega)
      · show (stK k s00 r).2 ≤ wT r
        unfold stK; rw [if_pos hk]; exact Int32.le_refl _
      · show (stK k s00 r).1 = _
        unfold stK; rw [if_pos hk]
        show opC r (c00 0) = _
        have e1 : opC r (c00 0) = opC r c := by rw [← hv, opC_vw hr]
        rw [e1]
        unfold noE
        rw [← hE]; rfl
      · unfold IdOk
        rw [List.filter_append, List.drop_left, List.filter_eq_nil_iff.mpr (fun e he => by
          have := hid e he
          rw [decide_eq_false (show ¬ e.2 = lvi + 1 by omega), Bool.and_false]; exact Bool.false_ne_true), List.nil_append]
        simp [List.filter_cons, hS]
    · obtain ⟨g1, ⟨g2, g3, g4⟩, g5⟩ := h3 q1 q2
      have hm : mkB r c = false := by unfold mkB; rw [q1]; simp
      simp only [hm, Bool.false_eq_true, if_false]
      unfold need at h2
      rw [if_pos q1, if_pos q2] at h2
      rcases q3 with q3 | q3
      · have hS : isS k r = true := isS_iff.mpr ⟨hk, q3⟩
        obtain ⟨w1, w2⟩ := okR_noE hr q3 q1
        have hs : sfx k (E ++ [(r, id)]) M = sfx k E M ++ [r] := by
          rw [sfx_app (Nat.le_of_lt g1)]
          congr 1
          show List.filter (isS k) [r] = [r]
          rw [List.filter_cons_of_pos hS]; rfl
        have hE : cE (opC r c) = cE c := by
          rcases q3 with e | e | e | e
          · rw [opC_6 e]; show cE (mkC 4 c (wT r)) = _; unfold mkC; rw [if_pos q1]
          · rw [opC_7 e]; unfold rdC; split <;> rfl
          · rw [opC_8 e]; unfold dnC; cases eno (wB r) <;> rfl
          · rw [opC_9 e]; rfl
        have hrun : runK k s00 (sfx k E M ++ [r]) = (noE (opC r c), wT r) := by
          rw [run_app]
          show stK k (runK k s00 (sfx k E M)) r = _
          unfold stK
          rw [if_pos hk, g4, w2]
        rw [hs, hE]
        refine ⟨by rw [List.length_append, List.length_singleton]; omega, by omega, ⟨vld_app.mpr ⟨g2, fun _ => ⟨by rw [g4]; exact w1, g3⟩, trivial⟩, by rw [hrun]; exact Int32.le_refl _, by rw [hrun]⟩, ?_⟩
        unfold IdOk at g5 ⊢
        rw [List.filter_append, List.drop_append_of_le_length (Nat.le_of_lt g1), List.filter_append, g5]
        congr 1
        simp [List.filter_cons, hS]
      · have hS : isS k r = false := by
          cases w : isS k r with
          | false => rfl
          | true =>
            have := (isS_iff.mp w).2
            rw [q3] at this; simp at this
        have hs : sfx k (E ++ [(r, id)]) M = sfx k E M := by
          rw [sfx_app (Nat.le_of_lt g1)]
          have : List.filter (isS k) (rws [(r, id)]) = [] := by
            show List.filter (isS k) [r] = []
            rw [List.filter_cons_of_neg (by rw [hS]; decide)]; rfl
          rw [this, List.append_nil]
        have hn : noE (opC r c) = noE c := by rw [opC_11 q3]; rfl
        rw [hs]
        refine ⟨?_, by omega, ⟨g2, g3, by rw [hn]; exact g4⟩, ?_⟩
        · have : (if cE (opC r c) = -1 then 0 else 1) ≤ 1 := by split <;> omega
          omega
        · unfold IdOk at g5 ⊢
          rw [List.filter_append, List.drop_append_of_le_length (Nat.le_of_lt g1), List.filter_append, g5, List.filter_cons_of_neg (by rw [hS]; simp), List.filter_cons_of_neg (by rw [hS]; decide)]
          rfl
  refine ⟨by rw [hrws]; exact logOk_snoc h1 hr hk, ?_, fun ht h4 => by rw [hlen]; exact (hst ht h4).2⟩
  rw [hcnt]
  unfold need
  by_cases ht : thC (opC r c) (wT r) = true
  · rw [if_pos ht]
    by_cases h4 : cT (opC r c) = 4
    · rw [if_pos h4]; exact (hst ht h4).1
    · rw [if_neg h4]
      refine need_non hc hr (fun w1 w2 => ?_) ht h4
      unfold need at h2
      rw [if_pos w1, if_neg w2] at h2
      exact h2
  · rw [if_neg ht]; exact Nat.zero_le _

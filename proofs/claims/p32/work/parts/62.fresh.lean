/-! the new rows of a key -/
def lzC (c : CK) : Prop := cT c = 1 → ∀ q ∈ cL c, q.2 = 0
theorem lz_op {r : RW} {c : CK} (h : lzC c) (hr : okR r c) : lzC (opC r c) := by
  obtain ⟨-, -, hr⟩ := hr
  intro hT
  rcases hr with ⟨q, g⟩ | ⟨q, g⟩ | ⟨q, g⟩ | ⟨q, g⟩ | ⟨q, g⟩ | ⟨q, g⟩ | ⟨q, g⟩ | ⟨q, g⟩ | ⟨q, g⟩ | ⟨q, g⟩ | ⟨q, g⟩
  · rw [opC_1 q]
    intro p hp
    unfold pshC at hp
    have hi : (if wB r = 0 then 0 else (cL (mkC 1 c (wT r))).length) ≤ (cL (mkC 1 c (wT r))).length := by split <;> omega
    rcases mem_ins hi hp with e | e
    · rw [e]
    · unfold mkC at e
      split at e
      · rename_i w
        exact h (g.2.2.2 w).1 p e
      · cases e
  · rw [opC_2 q] at hT ⊢
    unfold popC at hT ⊢
    rcases drp_T (c := setL c ((cL c).eraseIdx (popI (wA r) c))) with e | e
    · rw [e] at hT; exact absurd hT (by decide)
    · rw [e]
      intro p hp
      exact h g.2.2.2.2 p ((List.eraseIdx_sublist _ _).subset hp)
  · rw [opC_3 q] at hT
    have hT2 := mkC_T (t := 2) (c := c) (now := wT r) (fun w => (g.2.2.2 w).1)
    unfold addC at hT
    split at hT
    · exact absurd (hT2.symm.trans hT) (by decide)
    · exact absurd (hT2.symm.trans hT) (by decide)
  · rw [opC_4 q] at hT ⊢
    have hc4 : cT c ≠ 1 := by rcases g.2.2.2.2 with w | w <;> rw [w] <;> decide
    unfold tkeC at hT ⊢
    split at hT
    · rename_i w
      rw [if_pos w]
      rcases drp_T (c := setL c ((cL c).eraseIdx (fi (cL c) (wA r)))) with e | e
      · rw [e] at hT; exact absurd hT (by decide)
      · rw [e] at hT; exact absurd hT hc4
    · exact absurd hT hc4
  · rw [opC_5 q] at hT
    exact absurd ((mkC_T (t := 3) (fun w => (g.2.2.2 w).1)).symm.trans hT) (by decide)
  · rw [opC_6 q] at hT
    exact absurd ((mkC_T (t := 4) (fun w => (g.2.2.2 w).1)).symm.trans hT) (by decide)
  · rw [opC_7 q] at hT
    have : cT (rdC (cl (wA r)) (cl (wB r)) (cl (wT r)) c) = cT c := by unfold rdC; split <;> rfl
    exact absurd (g.2.2.2.2.symm.trans (this.symm.trans hT)) (by decide)
  · rw [opC_8 q] at hT
    have : cT (dnC (cl (wA r)) (wB r) c) = cT c := by unfold dnC; cases eno (wB r) <;> rfl
    exact absurd (g.2.2.2.symm.trans (this.symm.trans hT)) (by decide)
  · rw [opC_9 q] at hT
    exact absurd (g.2.2.2.2.symm.trans hT) (by decide)
  · rw [opC_10 q] at hT; exact absurd (show (0 : Int32) = 1 from hT) (by decide)
  · rw [opC_11 q] at hT ⊢
    exact h hT
def kdC (c : CK) : Int32 := if cT c = 1 then 1 else if cT c = 2 then 3 else 5
def sdC (c : CK) (q : Int32 × Int32) : Int32 := if cT c = 1 then 1 else q.2
def genR (now : Int32) (k : Nat) (c : CK) (q : Int32 × Int32) : RW := (kdC c, nI k, q.1, sdC c q, 0, now)
def endR (now : Int32) (k : Nat) (c : CK) : RW := (11, nI k, cE c, 0, 0, now)
def mainG (E : EL) (k id : Nat) (now : Int32) (c : CK) : EL := if cT c = 4 then E.filter (fun e => isS k e.1 && decide (e.2 = id)) else (cL c).map (fun q => (genR now k c q, id))
def endG (k id : Nat) (now : Int32) (c : CK) : EL := if cE c = -1 then [] else [(endR now k c, id)]
def freshG (E : EL) (k id : Nat) (now : Int32) (c : CK) : EL := mainG E k id now c ++ endG k id now c
theorem rws_filter {E : EL} {p : RW → Bool} : rws (E.filter (fun e => p e.1)) = (rws E).filter p := by
  unfold rws
  rw [List.filter_map]; rfl
theorem sub_asc {L : LL} (h : AscL L) (i : Nat) : AscL (L.take i) := asc_sub h (List.take_sublist _ _)
theorem gen_step {c : CK} {now : Int32} {k i : Nat} {x : CK} (hk : k < 16) (hc : okCK c) (hz : lzC c) (h0 : cT c ≠ 0) (h4 : cT c ≠ 4) (hn : isN now 1000001) (hi : i < (cL c).length)
    (hx : x = c00 0 ∧ i = 0 ∨ x = (cT c, -1, (cL c).take i, (fun _ => 0), fun _ => none)) :
    okR (genR now k c (cL c)[i]) x ∧ opC (genR now k c (cL c)[i]) x = (cT c, -1, (cL c).take (i + 1), (fun _ => 0), fun _ => none) := by
  obtain ⟨g1, g2, g3, g4, g5, g6, g7, g8⟩ := ok_T hc h0
  have hmk : mkC (cT c) x now = (cT c, -1, (cL c).take i, (fun _ => 0), fun _ => none) := by
    unfold mkC
    rcases hx with ⟨rfl, rfl⟩ | rfl
    · rw [th_00, if_neg (by decide)]; rfl
    · rw [if_pos (by
        unfold thC
        rw [decide_eq_true (show cT ((cT c, -1, (cL c).take i, (fun _ => 0), fun _ => none) : CK) ≠ 0 from h0)]; rfl)]
  have hth : thC x now = true → cT x = cT c ∧ (cL x).length < 40 := fun q => by
    rcases hx with ⟨rfl, rfl⟩ | rfl
    · cases q
    · refine ⟨rfl, ?_⟩
      show ((cL c).take i).length < 40
      rw [List.length_take]; omega
  have hv := g5 _ (List.getElem_mem hi)
  have hkk : isN (nI k) 16 := ⟨k, hk, rfl⟩
  have htk : (cL c).take (i + 1) = (cL c).take i ++ [(cL c)[i]] := List.take_succ_eq_append_getElem hi
  have hap : ∀ a : Int32 × Int32, ((cL c).take i).insertIdx ((cL c).take i).length a = (cL c).take i ++ [a] := fun a => by
    have := ins_app (a := a) (l2 := []) ((cL c).take i)
    rwa [List.append_nil] at this
  rcases g1 with e | e | e | e
  · have k1 : kdC c = 1 := if_pos e
    have s1 : sdC c (cL c)[i] = 1 := if_pos e
    unfold genR
    rw [k1, s1]
    refine ⟨⟨hkk, hn, Or.inl ⟨rfl, hv, Or.inr rfl, rfl, fun q => by rw [← e]; exact hth q⟩⟩, ?_⟩
    rw [opC_1 rfl]
    unfold pshC
    show setL (mkC 1 x now) ((cL (mkC 1 x now)).insertIdx (if (1 : Int32) = 0 then 0 else (cL (mkC 1 x now)).length) ((cL c)[i].1, 0)) = _
    rw [(congrArg (fun t => mkC t x now) e.symm).trans hmk, if_neg (by decide)]
    have hz2 := hz e _ (List.getElem_mem hi)
    show (cT c, (-1 : Int32), ((cL c).take i).insertIdx ((cL c).take i).length ((cL c)[i].1, 0), _, _) = _
    rw [hap, htk, show (((cL c)[i].1, (0 : Int32)) : Int32 × Int32) = (cL c)[i] from by rw [← hz2]]
    rfl
  · have n1 : ¬ cT c = 1 := by rw [e]; decide
    have k1 : kdC c = 3 := by unfold kdC; rw [if_neg n1, if_pos e]
    have hA := g6 e
    have s1 : sdC c (cL c)[i] = 0 := by unfold sdC; rw [if_neg n1]; exact (hA.1 _ (List.getElem_mem hi)).2
    obtain ⟨a1, a2⟩ := asc_sins hA hi
    unfold genR
    rw [k1, s1]
    refine ⟨⟨hkk, hn, Or.inr (Or.inr (Or.inl ⟨rfl, hv, rfl, rfl, fun q => ⟨by rw [← e]; exact (hth q).1, Or.inl (hth q).2⟩⟩))⟩, ?_⟩
    rw [opC_3 rfl]
    unfold addC
    show (if fnd (cL (mkC 2 x now)) (cL c)[i].1 = true then mkC 2 x now else setL (mkC 2 x now) (sins (cL (mkC 2 x now)) (cL c)[i].1)) = _
    rw [← e, hmk]
    show (if fnd ((cL c).take i) (cL c)[i].1 = true then _ else setL _ (sins ((cL c).take i) (cL c)[i].1)) = _
    rw [if_neg (fun q => a2 _ (List.getElem_mem (fnd_lt q)) (fnd_at q)), a1]
    rfl
  · have n1 : ¬ cT c = 1 := by rw [e]; decide
    have n2 : ¬ cT c = 2 := by rw [e]; decide
    have k1 : kdC c = 5 := by unfold kdC; rw [if_neg n1, if_neg n2]
    have s1 : sdC c (cL c)[i] = (cL c)[i].2 := if_neg n1
    obtain ⟨b1, b2, b3⟩ := g7 e
    unfold genR
    rw [k1, s1]
    refine ⟨⟨hkk, hn, Or.inr (Or.inr (Or.inr (Or.inr (Or.inl ⟨rfl, hv, b1 _ (List.getElem_mem hi), rfl, fun q => ⟨by rw [← e]; exact (hth q).1, Or.inl (hth q).2⟩⟩))))⟩, ?_⟩
    rw [opC_5 rfl]
    unfold ratC ratI
    show setL (mkC 3 x now) ((ratL (cL c)[i].1 (cL (mkC 3 x now))).insertIdx (rnk (ratL (cL c)[i].1 (cL (mkC 3 x now))) ((cL c)[i].1, (cL c)[i].2)) ((cL c)[i].1, (cL c)[i].2)) = _
    rw [← e, hmk]
    show setL _ ((ratL (cL c)[i].1 ((cL c).take i)).insertIdx (rnk (ratL (cL c)[i].1 ((cL c).take i)) (cL c)[i]) (cL c)[i]) = _
    have hno : ∀ j (hj : j < ((cL c).take i).length), ((cL c).take i)[j].1 ≠ (cL c)[i].1 ∧ ahd ((cL c).take i)[j] (cL c)[i] = true := fun j hj => by
      rw [List.length_take] at hj
      rw [List.getElem_take]
      exact ⟨List.pairwise_iff_getElem.mp b3 j i (by omega) hi (by omega), List.pairwise_iff_getElem.mp b2 j i (by omega) hi (by omega)⟩
    have hr1 : ratL (cL c)[i].1 ((cL c).take i) = (cL c).take i := by
      unfold ratL
      rw [if_neg (fun q => (hno _ (fnd_lt q)).1 (fnd_at q))]
    have hr2 : rnk ((cL c).take i) (cL c)[i] = ((cL c).take i).length := by
      unfold rnk
      exact fi_none (fun j hj => by rw [(hno j hj).2]; rfl)
    rw [hr1, hr2, hap, htk]
    rfl
  · exact absurd e h4
theorem gen_run {c : CK} {now : Int32} {k : Nat} (hk : k < 16) (hc : okCK c) (hz : lzC c) (h0 : cT c ≠ 0) (h4 : cT c ≠ 4) (hn : isN now 1000001) : vldK k s00 ((cL c).map (genR now k c)) ∧ runK k s00 ((cL c).map (genR now k c)) = (noE c, now) := by
  obtain ⟨g1, g2, g3, g4, g5, g6, g7, g8⟩ := ok_T hc h0
  have key : ∀ i, i ≤ (cL c).length → vldK k s00 (((cL c).take i).map (genR now k c)) ∧ (i = 0 ∧ runK k s00 (((cL c).take i).map (genR now k c)) = s00 ∨ runK k s00 (((cL c).take i).map (genR now k c)) = ((cT c, -1, (cL c).take i, (fun _ => 0), fun _ => none), now)) := by
    intro i
    induction i with
    | zero => intro _; exact ⟨trivial, Or.inl ⟨rfl, rfl⟩⟩
    | succ i ih =>
      intro hi
      obtain ⟨i1, i2⟩ := ih (by omega)
      have hs : ((cL c).take (i + 1)).map (genR now k c) = ((cL c).take i).map (genR now k c) ++ [genR now k c ((cL c)[i]'(by omega))] := by
        rw [List.take_succ_eq_append_getElem (show i < (cL c).length by omega), List.map_append]; rfl
      have hx : (runK k s00 (((cL c).take i).map (genR now k c))).1 = c00 0 ∧ i = 0 ∨ (runK k s00 (((cL c).take i).map (genR now k c))).1 = (cT c, -1, (cL c).take i, (fun _ => 0), fun _ => none) := by
        rcases i2 with ⟨e, q⟩ | q
        · exact Or.inl ⟨by rw [q]; rfl, e⟩
        · exact Or.inr (by rw [q])
      have hx2 : (runK k s00 (((cL c).take i).map (genR now k c))).2 ≤ now := by
        rcases i2 with ⟨e, q⟩ | q
        · rw [q]
          obtain ⟨n1, n2⟩ := isN_cl hn (by omega)
          rw [n1]
          exact nI_le (a := 0) (Nat.zero_le _) (by omega)
        · rw [q]; exact Int32.le_refl _
      obtain ⟨w1, w2⟩ := gen_step (x := (runK k s00 (((cL c).take i).map (genR now k c))).1) hk hc hz h0 h4 hn (show i < (cL c).length by omega) hx
      rw [hs]
      refine ⟨vld_app.mpr ⟨i1, fun _ => ⟨w1, hx2⟩, trivial⟩, Or.inr ?_⟩
      rw [run_app]
      show stK k _ _ = _
      unfold stK
      rw [if_pos (show wY (genR now k c ((cL c)[i]'(by omega))) = nI k from rfl), w2]
      rfl
  obtain ⟨k1, k2⟩ := key (cL c).length (Nat.le_refl _)
  rw [List.take_length] at k1 k2
  refine ⟨k1, ?_⟩
  rcases k2 with ⟨e, -⟩ | q
  · have := g4 h4; omega
  · rw [q]
    obtain ⟨n1, n2⟩ := g2 h4
    have : noE c = (cT c, -1, cL c, cP c, cW c) := rfl
    rw [this, n1, n2]
theorem LIk.fresh {E F : EL} {M id k : Nat} {now : Int32} {c : CK} (hk : k < 16) (h : LIk E M id now k c) (hc : okCK c) (hz : lzC c) (ht : thC c now = true) (hn : isN now 1000001) (hF : ∀ e ∈ F, wY e.1 ≠ nI k) :
    LIk (F ++ freshG E k id now c) F.length id now k c ∧ (freshG E k id now c).length ≤ cntK k E ∧ ∀ e ∈ freshG E k id now c, wY e.1 = nI k ∧ e.2 = id := by
  obtain ⟨h1, h2, h3⟩ := h
  have h0 := thC_T ht
  have hkk : isN (nI k) 16 := ⟨k, hk, rfl⟩
  -- the main rows
  have hm : vldK k s00 (rws (mainG E k id now c)) ∧ (runK k s00 (rws (mainG E k id now c))).2 ≤ now ∧ (runK k s00 (rws (mainG E k id now c))).1 = noE c ∧ (mainG E k id now c).length = (if cT c = 4 then (sfx k E M).length else (cL c).length) ∧ (∀ e ∈ mainG E k id now c, wY e.1 = nI k ∧ e.2 = id) ∧ (cT c = 4 → ∀ e ∈ mainG E k id now c, isS k e.1 = true) := by
    unfold mainG
    by_cases h4 : cT c = 4
    · obtain ⟨q1, ⟨q2, q3, q4⟩, q5⟩ := h3 ht h4
      rw [if_pos h4, if_pos h4]
      have e : rws (E.filter (fun e => isS k e.1 && decide (e.2 = id))) = sfx k E M := by
        rw [show E.filter (fun e => isS k e.1 && decide (e.2 = id)) = (E.drop M).filter (fun e => isS k e.1) from q5, rws_filter]; rfl
      rw [e]
      refine ⟨q2, q3, q4, by rw [← e]; exact (List.length_map _).symm, fun x hx => ?_, fun _ x hx => ?_⟩
      · have := (List.mem_filter.mp hx).2
        rw [Bool.and_eq_true] at this
        exact ⟨(isS_iff.mp this.1).1, of_decide_eq_true this.2⟩
      · have := (List.mem_filter.mp hx).2
        rw [Bool.and_eq_true] at this
        exact this.1
    · rw [if_neg h4, if_neg h4]
      have e : rws ((cL c).map (fun q => (genR now k c q, id))) = (cL c).map (genR now k c) := by
        unfold rws; rw [List.map_map]; rfl
      obtain ⟨r1, r2⟩ := gen_run hk hc hz h0 h4 hn
      rw [e, r2]
      refine ⟨r1, Int32.le_refl _, rfl, List.length_map _, fun x hx => ?_, fun q => absurd q h4⟩
      obtain ⟨q, -, rfl⟩ := List.mem_map.mp hx
      exact ⟨rfl, rfl⟩
  obtain ⟨m1, m2, m3, m4, m5, m6⟩ := hm
  -- all of them
  have hall : vldK k s00 (rws (freshG E k id now c)) ∧ (runK k s00 (rws (freshG E k id now c))).2 ≤ now ∧ (runK k s00 (rws (freshG E k id now c))).1 = c := by
    unfold freshG endG
    rw [rws_app]
    by_cases e : cE c = -1
    · rw [if_pos e]
      show vldK k s00 (rws (mainG E k id now c) ++ []) ∧ (runK k s00 (rws (mainG E k id now c) ++ [])).2 ≤ now ∧ (runK k s00 (rws (mainG E k id now c) ++ [])).1 = c
      rw [List.append_nil]
      refine ⟨m1, m2, m3.trans ?_⟩
      unfold noE; rw [← e]; rfl
    · rw [if_neg e]
      show vldK k s00 (rws (mainG E k id now c) ++ [endR now k c]) ∧ (runK k s00 (rws (mainG E k id now c) ++ [endR now k c])).2 ≤ now ∧ (runK k s00 (rws (mainG E k id now c) ++ [endR now k c])).1 = c
      have hrun : runK k s00 (rws (mainG E k id now c) ++ [endR now k c]) = (c, now) := by
        rw [run_app]
        show stK k _ _ = _
        unfold stK
        rw [if_pos (show wY (endR now k c) = nI k from rfl), m3, opC_11 rfl]
        rfl
      refine ⟨vld_app.mpr ⟨m1, fun _ => ⟨?_, m2⟩, trivial⟩, by rw [hrun]; exact Int32.le_refl _, by rw [hrun]⟩
      rw [m3]
      exact ⟨hkk, hn, Or.inr (Or.inr (Or.inr (Or.inr (Or.inr (Or.inr (Or.inr (Or.inr (Or.inr (Or.inr ⟨rfl, rfl, rfl, th_noE h0⟩)))))))))⟩
  obtain ⟨a1, a2, a3⟩ := hall
  have hkey : ∀ e ∈ freshG E k id now c, wY e.1 = nI k ∧ e.2 = id := fun e he => by
    unfold freshG endG at he
    rcases List.mem_append.mp he with w | w
    · exact m5 e w
    · split at w
      · cases w
      · rcases List.mem_cons.mp w with w | w
        · rw [w]; exact ⟨rfl, rfl⟩
        · cases w
  have hendl : (endG k id now c).length = if cE c = -1 then 0 else 1 := by unfold endG; split <;> rfl
  have hlen : (freshG E k id now c).length = need k E M c now := by
    unfold freshG need
    rw [List.length_append, m4, hendl, if_pos ht]
  have hFr : ∀ r ∈ rws F, wY r ≠ nI k := fun r hr => by
    obtain ⟨e, he, rfl⟩ := List.mem_map.mp hr
    exact hF e he
  obtain ⟨f1, f2⟩ := run_oth (s := s00) hFr
  have hcnt : cntK k (F ++ freshG E k id now c) = (freshG E k id now c).length := by
    rw [cnt_app]
    have z : cntK k F = 0 := List.countP_eq_zero.mpr (fun e he q => hF e he (of_decide_eq_true q))
    have w : cntK k (freshG E k id now c) = (freshG E k id now c).length := List.countP_eq_length.mpr (fun e he => decide_eq_true (hkey e he).1)
    rw [z, w, Nat.zero_add]
  have hsfx : cT c = 4 → sfx k (F ++ freshG E k id now c) F.length = rws (mainG E k id now c) := fun h4 => by
    unfold sfx
    rw [List.drop_left]
    unfold freshG
    rw [rws_app, List.filter_append, List.filter_eq_self.mpr (fun r hr => by
      obtain ⟨e, he, rfl⟩ := List.mem_map.mp hr
      exact m6 h4 e he)]
    have : (rws (endG k id now c)).filter (isS k) = [] := by
      unfold endG
      split
      · rfl
      · show List.filter (isS k) [endR now k c] = []
        rw [List.filter_cons_of_neg (by
          intro q
          have := (isS_iff.mp q).2
          rw [show wK (endR now k c) = 11 from rfl] at this
          simp at this)]; rfl
    rw [this, List.append_nil]
  refine ⟨⟨⟨?_, ?_, ?_⟩, ?_, fun _ h4 => ?_⟩, ?_, hkey⟩
  · rw [rws_app]; exact vld_app.mpr ⟨f2, by rw [f1]; exact a1⟩
  · rw [rws_app, run_app, f1]; exact a2
  · rw [rws_app, run_app, f1, a3]
  · rw [hcnt]
    unfold need
    rw [if_pos ht]
    by_cases h4 : cT c = 4
    · rw [if_pos h4, hsfx h4]
      unfold freshG
      rw [List.length_append, hendl]
      have : (rws (mainG E k id now c)).length = (mainG E k id now c).length := List.length_map _
      omega
    · rw [if_neg h4]
      unfold freshG
      rw [List.length_append, hendl, m4, if_neg h4]
      exact Nat.le_refl _
  · refine ⟨?_, by rw [hsfx h4]; exact ⟨m1, m2, m3⟩, ?_⟩
    · rw [List.length_append]
      have hne : mainG E k id now c ≠ [] := fun q => by
        rw [q] at m3
        have := congrArg cT m3
        exact h0 this.symm
      have := List.length_pos_iff.mpr hne
      unfold freshG
      rw [List.length_append]; omega
    · unfold IdOk
      rw [List.drop_left, List.filter_append, List.filter_eq_nil_iff.mpr (fun e he => by
        have : isS k e.1 = false := by
          cases w : isS k e.1 with
          | false => rfl
          | true => exact absurd (isS_iff.mp w).1 (hF e he)
        rw [this]; simp), List.nil_append]
      exact List.filter_congr (fun e he => by rw [decide_eq_true (hkey e he).2, Bool.and_true])
  · rw [hlen]; exact h2
theorem LIk.none {F : EL} {M id k : Nat} {now : Int32} {c : CK} (ht : thC c now = false) (hn : isN now 1000001) (hF : ∀ e ∈ F, wY e.1 ≠ nI k) : LIk F M id now k c := by
  have hFr : ∀ r ∈ rws F, wY r ≠ nI k := fun r hr => by
    obtain ⟨e, he, rfl⟩ := List.mem_map.mp hr
    exact hF e he
  obtain ⟨f1, f2⟩ := run_oth (s := s00) hFr
  have e : ¬ thC c now = true := by rw [ht]; decide
  refine ⟨⟨f2, ?_, ?_⟩, by unfold need; rw [if_neg e]; exact Nat.zero_le _, fun q => absurd q e⟩
  · rw [f1]
    obtain ⟨n1, n2⟩ := isN_cl hn (by omega)
    rw [n1]
    exact nI_le (a := 0) (Nat.zero_le _) (by omega)
  · rw [f1]; unfold vw
    rw [if_neg e, show thC s00.1 now = false from rfl, if_neg (by decide)]

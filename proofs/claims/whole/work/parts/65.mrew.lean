/-! the reference rewrites -/
def WEq (m y : MSt) : Prop := REq m y ∧ mFreshAt y = mFreshAt m ∧ mToWrite y = mToWrite m ∧ mBegunAt y = mBegunAt m ∧ mIsRewriting y = mIsRewriting m ∧ mThrown y = mThrown m
theorem WEq.trans {m y z : MSt} (h : WEq m y) (g : WEq y z) : WEq m z := by
  obtain ⟨h1, h2, h3, h4, h5, h6⟩ := h
  obtain ⟨g1, g2, g3, g4, g5, g6⟩ := g
  exact ⟨h1.trans g1, g2.trans h2, g3.trans h3, g4.trans h4, g5.trans h5, g6.trans h6⟩
theorem WEq.refl (m : MSt) : WEq m m := ⟨REq.refl m, rfl, rfl, rfl, rfl, rfl⟩
theorem weq_F {m : MSt} {L : IA} : WEq m (mFresh_s m L) := ⟨req_Fresh, rfl, rfl, rfl, rfl, rfl⟩
theorem weq_N {m : MSt} {n : Int32} : WEq m (mNewRows_s m n) := ⟨req_NewRows, rfl, rfl, rfl, rfl, rfl⟩
theorem weq_FN {m : MSt} {L : IA} {n : Int32} : WEq m (mNewRows_s (mFresh_s m L) n) := weq_F.trans weq_N
theorem gFN {m : MSt} {L : IA} {n : Int32} : mFresh (mNewRows_s (mFresh_s m L) n) = L := rfl
theorem gNN {m : MSt} {n : Int32} : mNewRows (mNewRows_s m n) = n := rfl
def mnR (R : List RW) (k M : Nat) (now : Int32) (c : CK) : List RW := if cT c = 4 then (R.drop M).filter (isS k) else (cL c).map (genR now k c)
def edR (k : Nat) (now : Int32) (c : CK) : List RW := if cE c = -1 then [] else [endR now k c]
theorem mod_131 {m : MSt} {N : List RW} {k : Nat} {c : CK} (hk : k < 16) (hE : mEnd m k = cE c) (hN : LogM (mFresh m) (mNewRows m) N) (hl : N.length + (edR k (mClock m) c).length ≤ 600) :
    ∃ y, fX8_rewrites_131 m (nI k) = some y ∧ WEq m y ∧ LogM (mFresh y) (mNewRows y) (N ++ edR k (mClock m) c) := by
  unfold fX8_rewrites_131
  unfold edR at hl ⊢
  rw [inb_nI hk (by omega), chk_r, nI_clamp (by omega), hE]
  by_cases e : cE c = -1
  · rw [if_pos e, if_pos e, List.append_nil]
    exact ⟨m, rfl, WEq.refl m, hN⟩
  · rw [if_neg e] at hl
    have hl2 : N.length < 600 := by simp at hl; omega
    obtain ⟨L, l1, l2⟩ := mod_notes hN hl2 11 (nI k) (cE c) 0
    rw [if_neg e, if_neg e, chk_r, l1, Option.bind_some, keep_r]
    exact ⟨_, rfl, weq_FN, l2⟩
theorem mod_rewrites {m : MSt} {R N : List RW} {k M : Nat} {c : CK} {f : FK} (hk : k < 16) (h : MR m k c f) (hc : okCK c) (h0 : cT c ≠ 0) (hR : LogM (mLog m) (mRows m) R) (h300 : R.length ≤ 300) (hM : cT c = 4 → mMadeAt m k = nI M ∧ M ≤ R.length) (hN : LogM (mFresh m) (mNewRows m) N) (hl : N.length + ((mnR R k M (mClock m) c).length + (edR k (mClock m) c).length) ≤ 600) :
    ∃ y, fX8_rewrites m (nI k) = some y ∧ REq m y ∧ LogM (mFresh y) (mNewRows y) (N ++ (mnR R k M (mClock m) c ++ edR k (mClock m) c)) ∧ mFreshAt y = upd (mFreshAt m) k (nI N.length) ∧ mToWrite y = mToWrite m ∧ mBegunAt y = mBegunAt m ∧ mIsRewriting y = mIsRewriting m ∧ mThrown y = mThrown m := by
  obtain ⟨h1, h2⟩ := id h
  obtain ⟨e1, e2, e3, e4, e5⟩ := h2 h0
  have h40 := e4.2.1
  unfold fX8_rewrites
  rw [inb_nI hk (by omega), chk_r, keep_r, keep_r, nI_clamp (by omega), hN.1]
  obtain ⟨z, hz⟩ : ∃ z, z = mFreshAt_s m (upd (mFreshAt m) k (nI N.length)) := ⟨_, rfl⟩
  rw [← hz]
  have z1 : REq m z := by rw [hz]; exact req_FreshAt
  have z2 : mFreshAt z = upd (mFreshAt m) k (nI N.length) := by rw [hz]; rfl
  have z3 : mToWrite z = mToWrite m ∧ mBegunAt z = mBegunAt m ∧ mIsRewriting z = mIsRewriting m ∧ mThrown z = mThrown m := by rw [hz]; exact ⟨rfl, rfl, rfl, rfl⟩
  have z4 : LogM (mFresh z) (mNewRows z) N := by rw [hz]; exact hN
  clear hz
  have key : Ok (iterK FU (fX8_rewrites_15 (nI k)) (z, 40 * nI k)) (fun y => WEq z y ∧ LogM (mFresh y) (mNewRows y) (N ++ (mnR R k M (mClock m) c ++ edR k (mClock m) c))) := by
    rw [d40, pk_mul]
    refine ok_iter (fun q s => ∃ i, q = (cL c).length - i ∧ i ≤ (cL c).length ∧ s.2 = nI (40 * k + i) ∧ WEq z s.1 ∧ LogM (mFresh s.1) (mNewRows s.1) (N ++ if cT c = 4 then [] else ((cL c).take i).map (genR (mClock m) k c))) _ ?_ FU (cL c).length _ ⟨0, rfl, Nat.zero_le _, rfl, WEq.refl z, by
      have : (if cT c = 4 then [] else ((cL c).take 0).map (genR (mClock m) k c)) = [] := by split <;> rfl
      rw [this, List.append_nil]; exact z4⟩ (by unfold FU; omega)
    rintro q ⟨x, v2⟩ rec ⟨i, hq, hi, hv, hx, hL⟩ hrec
    dsimp only at hv hx hL
    subst hv
    have hxr := z1.trans hx.1
    obtain ⟨⟨k1, k2, k3, k4, k5, k6, k7, k8, k9, k10, k11⟩, s1, s2, s3, s4, s5⟩ := hxr
    have hin : inb (nI k) 16 = true := inb_nI hk (by omega)
    have hcl : (nI k).toNatClampNeg = k := nI_clamp (by omega)
    unfold fX8_rewrites_15
    dsimp only
    rw [hin, chk_r, hcl, k4, e4.1, at40, k1, h1, k6, k7]
    by_cases e : (cL c).length ≤ i
    · have : i = (cL c).length := by omega
      subst this
      rw [if_pos (nI_le (by omega) (by omega)), chk_r]
      rw [List.take_length] at hL
      by_cases h4 : cT c = 4
      · rw [if_pos h4] at hL
        rw [List.append_nil] at hL
        obtain ⟨m1, m2⟩ := hM h4
        have hmn : mnR R k M (mClock m) c = (R.drop M).filter (isS k) := if_pos h4
        rw [hmn] at hl ⊢
        obtain ⟨L, n, c1, c2⟩ := mod_copies (m := x) (R := R) (N := N) hk (by rw [s5, s4]; exact hR) h300 hL (by rw [k8]; exact m1) m2 (by omega)
        rw [if_pos h4, c1, Option.bind_some, keep_r]
        have hw := weq_FN (m := x) (L := L) (n := n)
        have hmE : mEnd (mNewRows_s (mFresh_s x L) n) k = cE c := by rw [hw.1.1.2.1, k2]; exact e1
        have hmC : mClock (mNewRows_s (mFresh_s x L) n) = mClock m := by rw [hw.1.2.1, s1]
        obtain ⟨y, y1, y2, y3⟩ := mod_131 (m := mNewRows_s (mFresh_s x L) n) (N := N ++ (R.drop M).filter (isS k)) (c := c) hk hmE c2 (by rw [hmC, List.length_append]; omega)
        rw [hmC, List.append_assoc] at y3
        exact ⟨y, y1, (hx.trans hw).trans y2, y3⟩
      · rw [if_neg h4] at hL
        have hmn : mnR R k M (mClock m) c = (cL c).map (genR (mClock m) k c) := if_neg h4
        rw [hmn] at hl ⊢
        rw [if_neg h4]
        obtain ⟨y, y1, y2, y3⟩ := mod_131 (m := x) (N := N ++ (cL c).map (genR (mClock m) k c)) (c := c) hk (by rw [k2]; exact e1) hL (by rw [s1, List.length_append]; omega)
        rw [s1, List.append_assoc] at y3
        exact ⟨y, y1, hx.trans y2, y3⟩
    · have hil : i < (cL c).length := by omega
      rw [if_neg (nI_ge (by omega) (by omega)), chk_r, chk_r, chk_r, nI_clamp (by omega), (e4.e hil).1, (e4.e hil).2]
      have hin6 : inb (nI (40 * k + i)) 640 = true := inb_nI (by omega) (by omega)
      rw [hin6, chk_r, chk_r, chk_r]
      -- one row more
      have one : cT c ≠ 4 → ∀ a b : Int32, genR (mClock m) k c (cL c)[i] = (a, nI k, (cL c)[i].1, b, 0, mClock m) → Ok ((fX8_notes x a (nI k) (cL c)[i].1 b).bind (fun u => keep u (fun x35 => keep (nI (40 * k + i) + 1) (fun y36 => rec (x35, y36))))) (fun y => WEq z y ∧ LogM (mFresh y) (mNewRows y) (N ++ (mnR R k M (mClock m) c ++ edR k (mClock m) c))) := fun h4 a b hg => by
        rw [if_neg h4] at hL
        have hmn : mnR R k M (mClock m) c = (cL c).map (genR (mClock m) k c) := if_neg h4
        have hll : (N ++ ((cL c).take i).map (genR (mClock m) k c)).length < 600 := by
          rw [hmn, List.length_map] at hl
          rw [List.length_append, List.length_map, List.length_take]; omega
        obtain ⟨L, l1, l2⟩ := mod_notes hL hll a (nI k) (cL c)[i].1 b
        rw [l1, Option.bind_some, keep_r, keep_r, nI_1]
        refine hrec ((cL c).length - (i + 1)) _ (by omega) ⟨i + 1, rfl, by omega, rfl, hx.trans weq_FN, ?_⟩
        rw [if_neg h4, List.take_succ_eq_append_getElem hil, List.map_append, ← List.append_assoc]
        rw [s1] at l2
        have : ([(cL c)[i]] : LL).map (genR (mClock m) k c) = [(a, nI k, (cL c)[i].1, b, 0, mClock m)] := by rw [← hg]; rfl
        rw [this, gNN, gFN, show (N ++ ((cL c).take i).map (genR (mClock m) k c)).length + 1 = (N ++ ((cL c).take i).map (genR (mClock m) k c)).length + 1 from rfl]
        exact l2
      rcases (ok_T hc h0).1 with e | e | e | e
      · rw [if_pos e]
        refine one (by rw [e]; decide) 1 1 ?_
        unfold genR kdC sdC
        rw [if_pos e, if_pos e]
      · have n1 : ¬ cT c = 1 := by rw [e]; decide
        rw [if_neg n1, if_pos e]
        refine one (by rw [e]; decide) 3 0 ?_
        have hA := (ok_T hc h0).2.2.2.2.2.1 e
        unfold genR kdC sdC
        rw [if_neg n1, if_pos e, if_neg n1, (hA.1 _ (List.getElem_mem hil)).2]
      · have n1 : ¬ cT c = 1 := by rw [e]; decide
        have n2 : ¬ cT c = 2 := by rw [e]; decide
        rw [if_neg n1, if_neg n2, if_pos e]
        refine one (by rw [e]; decide) 5 (cL c)[i].2 ?_
        unfold genR kdC sdC
        rw [if_neg n1, if_neg n2, if_neg n1]
      · have n1 : ¬ cT c = 1 := by rw [e]; decide
        have n2 : ¬ cT c = 2 := by rw [e]; decide
        have n3 : ¬ cT c = 3 := by rw [e]; decide
        rw [if_neg n1, if_neg n2, if_neg n3, ok_keep, nI_1]
        refine hrec ((cL c).length - (i + 1)) _ (by omega) ⟨i + 1, rfl, by omega, rfl, hx, ?_⟩
        rw [if_pos e] at hL ⊢
        exact hL
  obtain ⟨y, y1, ⟨w1, w2, w3, w4, w5, w6⟩, y3⟩ := key
  exact ⟨y, y1, z1.trans w1, y3, w2.trans z2, w3.trans z3.1, w4.trans z3.2.1, w5.trans z3.2.2.1, w6.trans z3.2.2.2⟩

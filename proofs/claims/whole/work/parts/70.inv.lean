/-! class and reference side by side -/
abbrev CC : Type := Nat → CK
def K0 (x : SSt) (m : MSt) (cc : CC) (ff : Nat → FK) : Prop := ∀ k, k < 16 → VR (sV x k) (cc k) (ff k) ∧ MR m k (cc k) (ff k) ∧ okCK (cc k) ∧ okF (ff k) ∧ lzC (cc k)
def LI (E : EL) (Mf idf : Nat → Nat) (now : Int32) (cc : CC) (lvi : Nat) : Prop := (∀ k, k < 16 → LIk E (Mf k) (idf k) now k (cc k)) ∧ ∀ e ∈ E, e.2 ≤ lvi ∧ isN (wY e.1) 16
def I0 (x : SSt) (m : MSt) (t : Nat) (cc : CC) (ff : Nat → FK) (E : EL) (Mf idf : Nat → Nat) (lvi : Nat) : Prop :=
  t ≤ 1000000 ∧ sClk x = nI t ∧ mClock m = nI t ∧ mNow m = nI t ∧ mSampled m = sLs x ∧ isN (sLs x) 16 ∧ K0 x m cc ff ∧ LogC (sLog x) E ∧ LogM (mLog m) (mRows m) (rws E) ∧ LI E Mf idf (nI t) cc lvi ∧ (∀ k, k < 16 → vlId (sV x k) = nI (idf k) ∧ idf k ≤ lvi) ∧ sLvi x = nI lvi ∧ ∀ k, k < 16 → thC (cc k) (nI t) = true → cT (cc k) = 4 → mMadeAt m k = nI (Mf k)
def I1 (x : SSt) (m : MSt) (t : Nat) (cc : CC) (E : EL) (Mf idf : Nat → Nat) (lvi : Nat) : Prop :=
  (sKtw x = -1 ∧ mIsRewriting m = 0) ∨ ∃ (F : EL) (B w : Nat) (FA M2 : Nat → Nat), sKtw x = nI w ∧ w ≤ 16 ∧ mToWrite m = nI w ∧ mIsRewriting m = 1 ∧ sRar x = nI B ∧ mBegunAt m = nI B ∧ B ≤ E.length ∧ F.length ≤ B ∧ LogC (sNew x) F ∧ LogM (mFresh m) (mNewRows m) (rws F) ∧ LI (F ++ E.drop B) M2 idf (nI t) cc lvi ∧
    ∀ k, k < 16 → thC (cc k) (nI t) = true → cT (cc k) = 4 → (Mf k < B → M2 k = FA k ∧ mFreshAt m k = nI (FA k)) ∧ (B ≤ Mf k → M2 k = Mf k - B + F.length)
def IV (x : SSt) (m : MSt) (t : Nat) (cc : CC) (ff : Nat → FK) (E : EL) (Mf idf : Nat → Nat) (lvi : Nat) : Prop := I0 x m t cc ff E Mf idf lvi ∧ I1 x m t cc E Mf idf lvi
/-- all but what was thrown, and the row that is written -/
def SEq (m y : MSt) : Prop := KEq m y ∧ mClock y = mClock m ∧ mNow y = mNow m ∧ mSampled y = mSampled m ∧ mRows y = mRows m ∧ mLog y = mLog m ∧ mIsRewriting y = mIsRewriting m ∧ mToWrite y = mToWrite m ∧ mBegunAt y = mBegunAt m ∧ mNewRows y = mNewRows m ∧ mFresh y = mFresh m ∧ mFreshAt y = mFreshAt m
theorem seq_Thrown {m : MSt} {v : Int32} : SEq m (mThrown_s m v) := ⟨⟨rfl, rfl, rfl, rfl, rfl, rfl, rfl, rfl, rfl, rfl, rfl⟩, rfl, rfl, rfl, rfl, rfl, rfl, rfl, rfl, rfl, rfl, rfl⟩
theorem seq_Writing {m : MSt} {v : Int32} : SEq m (mWriting_s m v) := ⟨⟨rfl, rfl, rfl, rfl, rfl, rfl, rfl, rfl, rfl, rfl, rfl⟩, rfl, rfl, rfl, rfl, rfl, rfl, rfl, rfl, rfl, rfl, rfl⟩
theorem iv_seq {x : SSt} {m y : MSt} {t : Nat} {cc : CC} {ff : Nat → FK} {E : EL} {Mf idf : Nat → Nat} {lvi : Nat} (h : IV x m t cc ff E Mf idf lvi) (g : SEq m y) : IV x y t cc ff E Mf idf lvi := by
  obtain ⟨g0, g1, g2, g3, g4, g5, g6, g7, g8, g9, g10, g11⟩ := g
  obtain ⟨⟨h1, h2, h3, h4, h5, h6, h7, h8, h9, h10, h11, h12, h13⟩, hr⟩ := h
  refine ⟨⟨h1, h2, g1.trans h3, g2.trans h4, g3.trans h5, h6, fun k hk => ?_, h8, by rw [g5, g4]; exact h9, h10, h11, h12, fun k hk a b => by rw [g0.2.2.2.2.2.2.2.1]; exact h13 k hk a b⟩, ?_⟩
  · obtain ⟨a1, a2, a3⟩ := h7 k hk
    exact ⟨a1, a2.keq g0, a3⟩
  · rcases hr with ⟨a1, a2⟩ | ⟨F, B, w, FA, M2, a1, a2, a3, a4, a5, a6, a7, a8, a9, a10, a11, a12⟩
    · exact Or.inl ⟨a1, g6.trans a2⟩
    · exact Or.inr ⟨F, B, w, FA, M2, a1, a2, g7.trans a3, g6.trans a4, a5, g8.trans a6, a7, a8, a9, by rw [g10, g9]; exact a10, a11, fun k hk b1 b2 => by rw [g11]; exact a12 k hk b1 b2⟩
theorem msc_e {m y : MSt} (h : msc y = msc m) : mClock y = mClock m ∧ mNow y = mNow m ∧ mSampled y = mSampled m ∧ mRows y = mRows m ∧ mWriting y = mWriting m ∧ mLog y = mLog m ∧ mIsRewriting y = mIsRewriting m ∧ mToWrite y = mToWrite m ∧ mBegunAt y = mBegunAt m ∧ mNewRows y = mNewRows m ∧ mFresh y = mFresh m ∧ mFreshAt y = mFreshAt m ∧ mThrown y = mThrown m := by
  unfold msc at h
  simp only [Prod.mk.injEq] at h
  obtain ⟨h1, h2, h3, h4, h5, h6, h7, h8, h9, h10, h11, h12, h13⟩ := h
  exact ⟨h1, h2, h3, h4, h5, h6, h7, h8, h9, h10, h11, h12, h13⟩
theorem vup_s {f : Nat → VSt} {k : Nat} {v : VSt} : vup f k v k = v := if_pos rfl
theorem vup_o {f : Nat → VSt} {k : Nat} {v : VSt} {j : Nat} (h : j ≠ k) : vup f k v j = f j := if_neg h
/-- nothing was written -/
theorem iv_none {x : SSt} {m z : MSt} {t : Nat} {cc : CC} {ff : Nat → FK} {E : EL} {Mf idf : Nat → Nat} {lvi k : Nat} {y : FSt} (hk : k < 16) (h : IV x m t cc ff E Mf idf lvi) (hp : PerR (foc k x) y (cc k) (ff k) false) (hm : MoP k m z (cc k) (ff k) false) : IV (unf k x y) z t cc ff E Mf idf lvi := by
  obtain ⟨⟨p1, p2, p3, p4, p5, p6⟩, p7, p8, p9⟩ := hp
  obtain ⟨q1, q2, q3⟩ := hm
  obtain ⟨r1, r2, r3, r4, r5, r6, r7, r8, r9, r10, r11, r12, r13⟩ := msc_e q1.1
  obtain ⟨⟨h1, h2, h3, h4, h5, h6, h7, h8, h9, h10, h11, h12, h13⟩, hr⟩ := h
  rw [if_neg (by decide)] at p8 p9 q3
  have e1 : sRar (unf k x y) = sRar x := p1
  have e2 : sKtw (unf k x y) = sKtw x := p2
  have e3 : sClk (unf k x y) = sClk x := p3
  have e4 : sLs (unf k x y) = sLs x := p4
  have e5 : sLog (unf k x y) = sLog x := p5
  have e6 : sNew (unf k x y) = sNew x := p6
  have e7 : sLvi (unf k x y) = sLvi x := p9
  have e8 : sV (unf k x y) = vup (sV x) k (fV y) := rfl
  have made : ∀ j, mMadeAt z j = mMadeAt m j := fun j => by
    by_cases e : j = k
    · rw [e]; exact q3
    · exact (q1.2.1 j e).2.2.2.2.2
  refine ⟨⟨h1, e3.trans h2, r1.trans h3, r2.trans h4, by rw [r3, e4]; exact h5, by rw [e4]; exact h6, fun j hj => ?_, by rw [e5]; exact h8, by rw [r6, r4]; exact h9, h10, fun j hj => ?_, e7.trans h12, fun j hj a b => by rw [made j]; exact h13 j hj a b⟩, ?_⟩
  · obtain ⟨a1, a2, a3⟩ := h7 j hj
    rw [e8]
    by_cases e : j = k
    · subst e; rw [vup_s]; exact ⟨p7, q2, a3⟩
    · rw [vup_o e]; exact ⟨a1, a2.fr q1 e, a3⟩
  · rw [e8]
    by_cases e : j = k
    · subst e; rw [vup_s, p8]; exact h11 j hj
    · rw [vup_o e]; exact h11 j hj
  · rcases hr with ⟨a1, a2⟩ | ⟨F, B, w, FA, M2, a1, a2, a3, a4, a5, a6, a7, a8, a9, a10, a11, a12⟩
    · exact Or.inl ⟨e2.trans a1, r7.trans a2⟩
    · exact Or.inr ⟨F, B, w, FA, M2, e2.trans a1, a2, r8.trans a3, r7.trans a4, e1.trans a5, r9.trans a6, a7, a8, by rw [e6]; exact a9, by rw [r11, r10]; exact a10, a11, fun j hj b1 b2 => by rw [r12]; exact a12 j hj b1 b2⟩
theorem LI.snoc {E : EL} {Mf idf : Nat → Nat} {t : Int32} {cc : CC} {lvi k : Nat} {r : RW} (hk : k < 16) (h : LI E Mf idf (wT r) cc lvi) (hc : okCK (cc k)) (hr : okR r (cc k)) (hy : wY r = nI k) (hid : idf k ≤ lvi) :
    LI (E ++ [(r, if mkB r (cc k) = true then lvi + 1 else idf k)]) (upN Mf k (if mkB r (cc k) = true then E.length else Mf k)) (upN idf k (if mkB r (cc k) = true then lvi + 1 else idf k)) (wT r) (upN cc k (opC r (cc k))) (if mkB r (cc k) = true then lvi + 1 else lvi) := by
  obtain ⟨h1, h2⟩ := h
  refine ⟨fun j hj => ?_, fun e he => ?_⟩
  · by_cases e : j = k
    · subst e
      rw [upN_s, upN_s, upN_s]
      exact (h1 j hj).snoc hc hr hy (fun e he => (h2 e he).1)
    · rw [upN_o e, upN_o e, upN_o e]
      refine (h1 j hj).oth (fun e' he' w => ?_)
      rcases List.mem_cons.mp he' with q | q
      · rw [q] at w
        have w2 : nI k = nI j := hy.symm.trans w
        exact e ((nI_eqE (by omega) (by omega)).mp w2).symm
      · cases q
  · rcases List.mem_append.mp he with q | q
    · obtain ⟨a1, a2⟩ := h2 e q
      refine ⟨?_, a2⟩
      split <;> omega
    · rcases List.mem_cons.mp q with q | q
      · rw [q]
        refine ⟨?_, hr.1⟩
        show (if mkB r (cc k) = true then lvi + 1 else idf k) ≤ _
        split <;> omega
      · cases q
theorem iv_row {x : SSt} {m z y' : MSt} {t : Nat} {cc : CC} {ff : Nat → FK} {E : EL} {Mf idf : Nat → Nat} {lvi k : Nat} {y : FSt} {lo : LSt} {r : RW} (hk : k < 16) (h : IV x m t cc ff E Mf idf lvi) (hr : okR r (cc k)) (hy : wY r = nI k) (ht : wT r = nI t)
    (hp : PerR (foc k x) y (opC r (cc k)) (opF r (cc k) (ff k)) (mkB r (cc k))) (hlo : LogC lo (E ++ [(r, if mkB r (cc k) = true then lvi + 1 else idf k)]))
    (hm : MoP k m z (opC r (cc k)) (opF r (cc k) (ff k)) (mkB r (cc k))) (hw : wK r = 6 → mWriting m = nI E.length) {L : IA} {n : Int32} (hy' : y' = mRows_s (mLog_s z L) n) (hL : LogM L n (rws E ++ [r])) :
    IV (unf k x (fLog_s y lo)) y' t (upN cc k (opC r (cc k))) (upN ff k (opF r (cc k) (ff k))) (E ++ [(r, if mkB r (cc k) = true then lvi + 1 else idf k)]) (upN Mf k (if mkB r (cc k) = true then E.length else Mf k)) (upN idf k (if mkB r (cc k) = true then lvi + 1 else idf k)) (if mkB r (cc k) = true then lvi + 1 else lvi) := by
  obtain ⟨⟨p1, p2, p3, p4, p5, p6⟩, p7, p8, p9⟩ := hp
  obtain ⟨q1, q2, q3⟩ := hm
  obtain ⟨r1, r2, r3, r4, r5, r6, r7, r8, r9, r10, r11, r12, r13⟩ := msc_e q1.1
  obtain ⟨⟨h1, h2, h3, h4, h5, h6, h7, h8, h9, h10, h11, h12, h13⟩, hrw⟩ := h
  have hidk : idf k ≤ lvi := (h11 k hk).2
  obtain ⟨b1, b2, b3, b4, b5⟩ := h7 k hk
  have e1 : sRar (unf k x (fLog_s y lo)) = sRar x := p1
  have e2 : sKtw (unf k x (fLog_s y lo)) = sKtw x := p2
  have e3 : sClk (unf k x (fLog_s y lo)) = sClk x := p3
  have e4 : sLs (unf k x (fLog_s y lo)) = sLs x := p4
  have e5 : sLog (unf k x (fLog_s y lo)) = lo := rfl
  have e6 : sNew (unf k x (fLog_s y lo)) = sNew x := p6
  have e7 : sLvi (unf k x (fLog_s y lo)) = fLvi y := rfl
  have e8 : sV (unf k x (fLog_s y lo)) = vup (sV x) k (fV y) := rfl
  -- the reference behind the row
  obtain ⟨w, hw1⟩ : ∃ w, w = mLog_s z L := ⟨_, rfl⟩
  rw [← hw1] at hy'
  have k1 : KEq z w := by rw [hw1]; exact keq_Log
  have k2 : KEq w y' := by rw [hy']; exact keq_Rows
  have k3 := k1.trans k2
  have s0 : mClock y' = mClock z ∧ mNow y' = mNow z ∧ mSampled y' = mSampled z ∧ mIsRewriting y' = mIsRewriting z ∧ mToWrite y' = mToWrite z ∧ mBegunAt y' = mBegunAt z ∧ mNewRows y' = mNewRows z ∧ mFresh y' = mFresh z ∧ mFreshAt y' = mFreshAt z := by
    have t1 : mClock w = mClock z ∧ mNow w = mNow z ∧ mSampled w = mSampled z ∧ mIsRewriting w = mIsRewriting z ∧ mToWrite w = mToWrite z ∧ mBegunAt w = mBegunAt z ∧ mNewRows w = mNewRows z ∧ mFresh w = mFresh z ∧ mFreshAt w = mFreshAt z := by rw [hw1]; exact ⟨rfl, rfl, rfl, rfl, rfl, rfl, rfl, rfl, rfl⟩
    have t2 : mClock y' = mClock w ∧ mNow y' = mNow w ∧ mSampled y' = mSampled w ∧ mIsRewriting y' = mIsRewriting w ∧ mToWrite y' = mToWrite w ∧ mBegunAt y' = mBegunAt w ∧ mNewRows y' = mNewRows w ∧ mFresh y' = mFresh w ∧ mFreshAt y' = mFreshAt w := by rw [hy']; exact ⟨rfl, rfl, rfl, rfl, rfl, rfl, rfl, rfl, rfl⟩
    obtain ⟨a1, a2, a3, a4, a5, a6, a7, a8, a9⟩ := t1
    obtain ⟨c1, c2, c3, c4, c5, c6, c7, c8, c9⟩ := t2
    exact ⟨c1.trans a1, c2.trans a2, c3.trans a3, c4.trans a4, c5.trans a5, c6.trans a6, c7.trans a7, c8.trans a8, c9.trans a9⟩
  have sl : mLog y' = L ∧ mRows y' = n := by rw [hy', hw1]; exact ⟨rfl, rfl⟩
  obtain ⟨s1, s2, s3, s4, s5, s6, s7, s8, s9⟩ := s0
  have madeK : mMadeAt y' k = if mkB r (cc k) = true then mWriting m else mMadeAt m k := by rw [k3.2.2.2.2.2.2.2.1]; exact q3
  have madeO : ∀ j, j ≠ k → mMadeAt y' j = mMadeAt m j := fun j hj => by rw [k3.2.2.2.2.2.2.2.1]; exact (q1.2.1 j hj).2.2.2.2.2
  -- a stream that is there behind the row
  have strK : thC (opC r (cc k)) (nI t) = true → cT (opC r (cc k)) = 4 → (mkB r (cc k) = true ∧ wK r = 6) ∨ (mkB r (cc k) = false ∧ thC (cc k) (nI t) = true ∧ cT (cc k) = 4) := fun a b => by
    rcases opC_T4 hr (by rw [ht]; exact a) b with ⟨c1, c2⟩ | ⟨c1, c2, c3⟩
    · exact Or.inl ⟨by rw [mkB_t (by simp [c1]), c2]; rfl, c1⟩
    · exact Or.inr ⟨by unfold mkB; rw [c1]; simp, by rw [← ht]; exact c1, c2⟩
  have hLI : LI E Mf idf (wT r) cc lvi := by rw [ht]; exact h10
  have hLI2 := hLI.snoc (t := nI t) hk b3 hr hy hidk
  rw [ht] at hLI2
  refine ⟨⟨h1, e3.trans h2, s1.trans (r1.trans h3), s2.trans (r2.trans h4), by rw [s3, r3, e4]; exact h5, by rw [e4]; exact h6, fun j hj => ?_, by rw [e5]; exact hlo, ?_, hLI2, fun j hj => ?_, ?_, fun j hj a b => ?_⟩, ?_⟩
  · rw [e8]
    by_cases e : j = k
    · subst e; rw [vup_s, upN_s, upN_s]; exact ⟨p7, q2.keq k3, okCK_op b3 hr, okF_op b4 hr, lz_op b5 hr⟩
    · obtain ⟨a1, a2, a3⟩ := h7 j hj
      rw [vup_o e, upN_o e, upN_o e]; exact ⟨a1, (a2.fr q1 e).keq k3, a3⟩
  · rw [sl.1, sl.2, rws_app]; exact hL
  · rw [e8]
    by_cases e : j = k
    · subst e
      rw [vup_s, upN_s, p8]
      obtain ⟨c1, c2⟩ := h11 j hj
      split
      · refine ⟨?_, Nat.le_refl _⟩
        show sLvi x + 1 = nI (lvi + 1)
        rw [h12, nI_1]
      · exact ⟨c1, c2⟩
    · rw [vup_o e, upN_o e]
      obtain ⟨c1, c2⟩ := h11 j hj
      refine ⟨c1, ?_⟩
      split <;> omega
  · rw [e7, p9]
    split
    · show sLvi x + 1 = nI (lvi + 1)
      rw [h12, nI_1]
    · exact h12
  · by_cases e : j = k
    · subst e
      rw [upN_s] at a b ⊢
      rw [madeK]
      rcases strK a b with ⟨c1, c2⟩ | ⟨c1, c2, c3⟩
      · rw [if_pos c1, if_pos c1]; exact hw c2
      · rw [c1, if_neg (by decide), if_neg (by decide)]; exact h13 j hj c2 c3
    · rw [upN_o e] at a b ⊢
      rw [madeO j e]; exact h13 j hj a b
  · rcases hrw with ⟨a1, a2⟩ | ⟨F, B, w, FA, M2, a1, a2, a3, a4, a5, a6, a7, a8, a9, a10, a11, a12⟩
    · exact Or.inl ⟨e2.trans a1, s4.trans (r7.trans a2)⟩
    · have hLI3 : LI (F ++ E.drop B) M2 idf (wT r) cc lvi := by rw [ht]; exact a11
      have hLI4 := hLI3.snoc (t := nI t) hk b3 hr hy hidk
      rw [ht] at hLI4
      refine Or.inr ⟨F, B, w, FA, upN M2 k (if mkB r (cc k) = true then (F ++ E.drop B).length else M2 k), e2.trans a1, a2, s5.trans (r8.trans a3), s4.trans (r7.trans a4), e1.trans a5, s6.trans (r9.trans a6), by rw [List.length_append]; omega, a8, by rw [e6]; exact a9, by rw [s8, s7, r11, r10]; exact a10, ?_, fun j hj c d => ?_⟩
      · rw [List.drop_append_of_le_length a7, ← List.append_assoc]; exact hLI4
      · rw [s9, r12]
        by_cases e : j = k
        · subst e
          rw [upN_s] at c d
          rw [upN_s, upN_s]
          rcases strK c d with ⟨c1, c2⟩ | ⟨c1, c2, c3⟩
          · rw [if_pos c1, if_pos c1]
            refine ⟨fun q => by omega, fun _ => ?_⟩
            rw [List.length_append, List.length_drop]; omega
          · rw [c1, if_neg (by decide), if_neg (by decide)]; exact a12 j hj c2 c3
        · rw [upN_o e] at c d
          rw [upN_o e, upN_o e]; exact a12 j hj c d

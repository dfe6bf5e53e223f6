/-! writeOn -/
theorem sMadeM {m : MSt} {A B : IA} : mMadeAt_s (mMadeAt_s m A) B = mMadeAt_s m B := rfl
theorem logM_cat {L0 F0 D : IA} {n0 n1 : Int32} {N R : List RW} {B : Nat} (hN : LogM F0 n1 N) (hR : LogM L0 n0 R) (hB : B ≤ R.length) (h1 : ∀ q, q < 6 * N.length → D q = F0 q) (h2 : ∀ q, q < 6 * (R.length - B) → D (6 * N.length + q) = L0 (6 * B + q)) : LogM D (nI (N.length + R.length - B)) (N ++ R.drop B) := by
  have hlen : (N ++ R.drop B).length = N.length + R.length - B := by rw [List.length_append, List.length_drop]; omega
  refine ⟨by rw [hlen], fun i hi => ?_⟩
  rw [hlen] at hi
  by_cases e : i < N.length
  · rw [List.getElem_append_left e]
    exact rowM_congr (hN.2 i e) (fun q _ q2 => h1 q (by omega))
  · rw [List.getElem_append_right (by omega), List.getElem_drop]
    obtain ⟨r0, r1, r2, r3, r4, r5⟩ := hR.2 (B + (i - N.length)) (by omega)
    have cp : ∀ q, q < 6 → D (6 * i + q) = L0 (6 * (B + (i - N.length)) + q) := fun q hq => by
      have := h2 (6 * (i - N.length) + q) (by omega)
      rw [show 6 * i + q = 6 * N.length + (6 * (i - N.length) + q) by omega, this]
      congr 1; omega
    exact ⟨(cp 0 (by omega)).trans r0, (cp 1 (by omega)).trans r1, (cp 2 (by omega)).trans r2, (cp 3 (by omega)).trans r3, (cp 4 (by omega)).trans r4, (cp 5 (by omega)).trans r5⟩
/-- what a key holds in the reference, and its clocks, but not where it was made -/
def HEq (m y : MSt) : Prop := mType y = mType m ∧ mEnd y = mEnd m ∧ mForm y = mForm m ∧ mSize y = mSize m ∧ mBuckets y = mBuckets m ∧ mValues y = mValues m ∧ mBits y = mBits m ∧ mPlace y = mPlace m ∧ mWaits y = mWaits m ∧ mSince y = mSince m ∧ mClock y = mClock m ∧ mNow y = mNow m ∧ mSampled y = mSampled m
theorem HEq.trans {m y z : MSt} (h : HEq m y) (g : HEq y z) : HEq m z := by
  obtain ⟨h1, h2, h3, h4, h5, h6, h7, h8, h9, h10, h11, h12, h13⟩ := h
  obtain ⟨g1, g2, g3, g4, g5, g6, g7, g8, g9, g10, g11, g12, g13⟩ := g
  exact ⟨g1.trans h1, g2.trans h2, g3.trans h3, g4.trans h4, g5.trans h5, g6.trans h6, g7.trans h7, g8.trans h8, g9.trans h9, g10.trans h10, g11.trans h11, g12.trans h12, g13.trans h13⟩
theorem MR.heq {m y : MSt} {k : Nat} {c : CK} {f : FK} (h : MR m k c f) (g : HEq m y) : MR y k c f := by
  obtain ⟨g1, g2, g3, g4, g5, g6, g7, g9, g10, g11, -⟩ := g
  obtain ⟨h1, h2⟩ := h
  refine ⟨by rw [g1]; exact h1, fun h0 => ?_⟩
  obtain ⟨e1, e2, e3, ⟨e4, e5, e6⟩, e7⟩ := h2 h0
  refine ⟨by rw [g2]; exact e1, by rw [g3]; exact e2, by rw [g5]; exact e3, ⟨by rw [g4]; exact e4, e5, fun i hi => by rw [g6, g7]; exact e6 i hi⟩, fun hT => ?_⟩
  obtain ⟨e8, e9⟩ := e7 hT
  exact ⟨fun q hq => by rw [g9]; exact e8 q hq, fun i hi => by rw [g10, g11]; exact e9 i hi⟩
theorem heq_MadeAt {m : MSt} {V : IA} : HEq m (mMadeAt_s m V) := ⟨rfl, rfl, rfl, rfl, rfl, rfl, rfl, rfl, rfl, rfl, rfl, rfl, rfl⟩
theorem heq_Fresh {m : MSt} {V : IA} : HEq m (mFresh_s m V) := ⟨rfl, rfl, rfl, rfl, rfl, rfl, rfl, rfl, rfl, rfl, rfl, rfl, rfl⟩
theorem heq_Log {m : MSt} {V : IA} : HEq m (mLog_s m V) := ⟨rfl, rfl, rfl, rfl, rfl, rfl, rfl, rfl, rfl, rfl, rfl, rfl, rfl⟩
theorem heq_Rows {m : MSt} {V : Int32} : HEq m (mRows_s m V) := ⟨rfl, rfl, rfl, rfl, rfl, rfl, rfl, rfl, rfl, rfl, rfl, rfl, rfl⟩
theorem heq_Isr {m : MSt} {V : Int32} : HEq m (mIsRewriting_s m V) := ⟨rfl, rfl, rfl, rfl, rfl, rfl, rfl, rfl, rfl, rfl, rfl, rfl, rfl⟩
theorem heq_Tow {m : MSt} {V : Int32} : HEq m (mToWrite_s m V) := ⟨rfl, rfl, rfl, rfl, rfl, rfl, rfl, rfl, rfl, rfl, rfl, rfl, rfl⟩
theorem heq_Thr {m : MSt} {V : Int32} : HEq m (mThrown_s m V) := ⟨rfl, rfl, rfl, rfl, rfl, rfl, rfl, rfl, rfl, rfl, rfl, rfl, rfl⟩
theorem mod_replaces {m : MSt} {R N : List RW} {B : Nat} (hR : LogM (mLog m) (mRows m) R) (hN : LogM (mFresh m) (mNewRows m) N) (hB : mBegunAt m = nI B) (hBl : B ≤ R.length) (hNB : N.length ≤ B) (h300 : R.length ≤ 300) :
    ∃ z, fX8_replaces m = some z ∧ HEq m z ∧ LogM (mLog z) (mRows z) (N ++ R.drop B) ∧ (∀ k, k < 16 → mMadeAt z k = if mMadeAt m k < nI B then mFreshAt m k else mMadeAt m k - nI B + nI N.length) ∧ mIsRewriting z = 0 ∧ mToWrite z = mToWrite m ∧ mThrown z = mThrown m := by
  have key : Ok (fX8_replaces m) (fun z => HEq m z ∧ LogM (mLog z) (mRows z) (N ++ R.drop B) ∧ (∀ k, k < 16 → mMadeAt z k = if mMadeAt m k < nI B then mFreshAt m k else mMadeAt m k - nI B + nI N.length) ∧ mIsRewriting z = 0 ∧ mToWrite z = mToWrite m ∧ mThrown z = mThrown m) := by
    unfold fX8_replaces
    refine ok_iter (fun n s => ∃ i A, n = 16 - i ∧ i ≤ 16 ∧ s = (mMadeAt_s m A, nI i) ∧ (∀ k, k < i → A k = if mMadeAt m k < nI B then mFreshAt m k else mMadeAt m k - nI B + nI N.length) ∧ ∀ k, i ≤ k → A k = mMadeAt m k) _ ?_ FU 16 _ ⟨0, mMadeAt m, rfl, by omega, rfl, fun k hk => absurd hk (Nat.not_lt_zero k), fun _ _ => rfl⟩ (by unfold FU; omega)
    rintro n s rec ⟨i, A, hn, hi, rfl, hA, hA2⟩ hrec
    unfold fX8_replaces_2
    dsimp only
    rw [d16]
    by_cases e : 16 ≤ i
    · rw [if_pos (nI_le e (by omega)), ok_keep]
      have hA16 : ∀ k, k < 16 → A k = if mMadeAt m k < nI B then mFreshAt m k else mMadeAt m k - nI B + nI N.length := fun k hk => hA k (by omega)
      obtain ⟨m1, hm1⟩ : ∃ z, z = mMadeAt_s m A := ⟨_, rfl⟩
      rw [← hm1]
      have f0 : HEq m m1 := by rw [hm1]; exact heq_MadeAt
      have f1 : mBegunAt m1 = nI B := by rw [hm1]; exact hB
      have f2 : mLog m1 = mLog m := by rw [hm1]; rfl
      have f3 : mRows m1 = nI R.length := by rw [hm1]; exact hR.1
      have f4 : mFresh m1 = mFresh m := by rw [hm1]; rfl
      have f5 : mNewRows m1 = nI N.length := by rw [hm1]; exact hN.1
      have f6 : mMadeAt m1 = A := by rw [hm1]; rfl
      have f7 : mToWrite m1 = mToWrite m := by rw [hm1]; rfl
      have f8 : mThrown m1 = mThrown m := by rw [hm1]; rfl
      clear hm1
      rw [f1, d6, pk_mul]
      refine ok_iter (fun n s => ∃ j V, n = 6 * (R.length - B) - j ∧ j ≤ 6 * (R.length - B) ∧ s = (mFresh_s m1 V, nI (6 * B + j)) ∧ (∀ q, q < 6 * N.length → V q = mFresh m q) ∧ ∀ q, q < j → V (6 * N.length + q) = mLog m (6 * B + q)) _ ?_ FU (6 * (R.length - B)) _ ⟨0, mFresh m1, rfl, by omega, rfl, fun _ _ => by rw [f4], fun q hq => absurd hq (Nat.not_lt_zero q)⟩ (by unfold FU; omega)
      rintro n' s rec2 ⟨j, V, hn', hj, rfl, hV, hV2⟩ hrec2
      unfold fX8_replaces_66
      dsimp only
      rw [show mRows (mFresh_s m1 V) = nI R.length from f3, show mNewRows (mFresh_s m1 V) = nI N.length from f5, show mBegunAt (mFresh_s m1 V) = nI B from f1, show mLog (mFresh_s m1 V) = mLog m from f2, show mFresh (mFresh_s m1 V) = V from rfl, d6, pk_mul, pk_mul, pk_mul, nI_add, nI_add]
      by_cases ej : 6 * R.length ≤ 6 * B + j
      · rw [if_pos (nI_le ej (by omega)), ok_keep, pk_sub (by omega)]
        obtain ⟨m2, hm2⟩ : ∃ z, z = mFresh_s m1 V := ⟨_, rfl⟩
        rw [← hm2]
        have g0 : HEq m m2 := by rw [hm2]; exact f0.trans heq_Fresh
        have g4 : mFresh m2 = V := by rw [hm2]; rfl
        have g6 : mMadeAt m2 = A := by rw [hm2]; exact f6
        have g7 : mToWrite m2 = mToWrite m := by rw [hm2]; exact f7
        have g8 : mThrown m2 = mThrown m := by rw [hm2]; exact f8
        clear hm2
        obtain ⟨m3, hm3⟩ : ∃ z, z = mRows_s m2 (nI (N.length + R.length - B)) := ⟨_, rfl⟩
        rw [← hm3]
        have k0 : HEq m m3 := by rw [hm3]; exact g0.trans heq_Rows
        have k3 : mRows m3 = nI (N.length + R.length - B) := by rw [hm3]; rfl
        have k4 : mFresh m3 = V := by rw [hm3]; exact g4
        have k6 : mMadeAt m3 = A := by rw [hm3]; exact g6
        have k7 : mToWrite m3 = mToWrite m := by rw [hm3]; exact g7
        have k8 : mThrown m3 = mThrown m := by rw [hm3]; exact g8
        clear hm3
        refine ok_iter (fun n s => ∃ i L, n = 6 * (N.length + R.length - B) - i ∧ i ≤ 6 * (N.length + R.length - B) ∧ s = (mLog_s m3 L, nI i) ∧ ∀ q, q < i → L q = V q) _ ?_ FU (6 * (N.length + R.length - B)) _ ⟨0, mLog m3, rfl, by omega, rfl, fun q hq => absurd hq (Nat.not_lt_zero q)⟩ (by unfold FU; omega)
        rintro n'' s rec3 ⟨i', L, hn'', hi', rfl, hL⟩ hrec3
        unfold fX8_replaces_131
        dsimp only
        rw [show mRows (mLog_s m3 L) = nI (N.length + R.length - B) from k3, show mFresh (mLog_s m3 L) = V from k4, show mLog (mLog_s m3 L) = L from rfl, d6, pk_mul]
        by_cases e3 : 6 * (N.length + R.length - B) ≤ i'
        · rw [if_pos (nI_le e3 (by omega)), ok_keep, ok_some]
          obtain ⟨m4, hm4⟩ : ∃ z, z = mLog_s m3 L := ⟨_, rfl⟩
          rw [← hm4]
          have l0 : HEq m m4 := by rw [hm4]; exact k0.trans heq_Log
          have l2 : mLog m4 = L := by rw [hm4]; rfl
          have l3 : mRows m4 = nI (N.length + R.length - B) := by rw [hm4]; exact k3
          have l6 : mMadeAt m4 = A := by rw [hm4]; exact k6
          have l7 : mToWrite m4 = mToWrite m := by rw [hm4]; exact k7
          have l8 : mThrown m4 = mThrown m := by rw [hm4]; exact k8
          clear hm4
          refine ⟨l0.trans heq_Isr, ?_, fun k hk => ?_, rfl, l7, l8⟩
          · show LogM (mLog m4) (mRows m4) _
            rw [l2, l3]
            refine logM_cat hN hR hBl (fun q hq => ?_) (fun q hq => ?_)
            · rw [hL q (by omega)]; exact hV q hq
            · rw [hL _ (by omega)]; exact hV2 q (by omega)
          · show mMadeAt m4 k = _
            rw [l6]; exact hA16 k hk
        · rw [if_neg (nI_ge (by omega) (by omega)), inb_nI (show i' < 3600 by omega) (by omega), chk_r, inb_nI (show i' < 1800 by omega) (by omega), chk_r, nI_clamp (by omega), ok_keep, ok_keep, nI_1, sLL]
          refine hrec3 (6 * (N.length + R.length - B) - (i' + 1)) _ (by omega) ⟨i' + 1, upd L i' (V i'), rfl, by omega, rfl, fun q hq => ?_⟩
          by_cases e4 : q = i'
          · subst e4; exact upd_s
          · rw [upd_o e4]; exact hL q (by omega)
      · rw [if_neg (nI_ge (by omega) (by omega)), pk_sub (by omega), show 6 * N.length + (6 * B + j) - 6 * B = 6 * N.length + j by omega, inb_nI (show 6 * B + j < 1800 by omega) (by omega), chk_r, inb_nI (show 6 * N.length + j < 3600 by omega) (by omega), chk_r, nI_clamp (by omega), nI_clamp (by omega), ok_keep, ok_keep, nI_1, sFF]
        refine hrec2 (6 * (R.length - B) - (j + 1)) _ (by omega) ⟨j + 1, upd V (6 * N.length + j) (mLog m (6 * B + j)), rfl, by omega, rfl, fun q hq => ?_, fun q hq => ?_⟩
        · rw [upd_o (by omega)]; exact hV q hq
        · by_cases e4 : q = j
          · subst e4; exact upd_s
          · rw [upd_o (by omega)]; exact hV2 q (by omega)
    · have hin : inb (nI i) 16 = true := inb_nI (by omega) (by omega)
      have go : ∀ u, u = (if mMadeAt m i < nI B then mFreshAt m i else mMadeAt m i - nI B + nI N.length) → Ok (fX8_replaces_51 rec (mMadeAt_s m A) (nI i) u (nI i)) (fun z => HEq m z ∧ LogM (mLog z) (mRows z) (N ++ R.drop B) ∧ (∀ k, k < 16 → mMadeAt z k = if mMadeAt m k < nI B then mFreshAt m k else mMadeAt m k - nI B + nI N.length) ∧ mIsRewriting z = 0 ∧ mToWrite z = mToWrite m ∧ mThrown z = mThrown m) := fun u hu => by
        unfold fX8_replaces_51
        rw [hin, chk_r, nI_clamp (by omega), show mMadeAt (mMadeAt_s m A) = A from rfl, sMadeM, ok_keep, ok_keep, nI_1]
        refine hrec (16 - (i + 1)) _ (by omega) ⟨i + 1, upd A i u, rfl, by omega, rfl, fun k hk => ?_, fun k hk => ?_⟩
        · by_cases e4 : k = i
          · subst e4; rw [upd_s]; exact hu
          · rw [upd_o e4]; exact hA k (by omega)
        · rw [upd_o (by omega)]; exact hA2 k (by omega)
      rw [if_neg (nI_ge (by omega) (by omega)), hin, chk_r, nI_clamp (by omega), show mMadeAt (mMadeAt_s m A) i = mMadeAt m i from hA2 i (Nat.le_refl _), show mBegunAt (mMadeAt_s m A) = nI B from hB, show mNewRows (mMadeAt_s m A) = nI N.length from hN.1, show mFreshAt (mMadeAt_s m A) = mFreshAt m from rfl]
      by_cases c : mMadeAt m i < nI B
      · rw [if_pos c, chk_r]
        exact go _ (by rw [if_pos c])
      · rw [if_neg c, chk_r]
        exact go _ (by rw [if_neg c])
  obtain ⟨z, z1, z2⟩ := key
  exact ⟨z, z1, z2⟩
def SimW (k : Nat) (x : SSt) (lim : Nat) (oc : Option (FSt × Nat × (Int32 ⊕ Nat))) (om : Option (MSt × Int32)) : Prop := ∃ y lp res z b, oc = some (y, lp, res) ∧ om = some (z, b) ∧ fV y = sV x k ∧ ((lp = 2 ∧ IVx (unf k x y) z lim) ∨ (lp = 4 ∧ IVx (unf k x (swL y)) z lim)) ∧ Agr [1, 2] mpC res z b
theorem simw_fail {x : SSt} {m : MSt} {t : Nat} {cc : CC} {ff : Nat → FK} {E : EL} {Mf idf : Nat → Nat} {lvi k n : Nat} {oc : Option (FSt × Nat × (Int32 ⊕ Nat))} {om : Option (MSt × Int32)} {u b : Int32} (h : IV x m t cc ff E Mf idf lvi) (h1 : oc = some (foc k x, 2, .inr n)) (h2 : om = some (mThrown_s m u, b)) (hS : n ∈ [1, 2]) (hu : u = mpC n) : SimW k x (lvi + 1) oc om :=
  ⟨foc k x, 2, .inr n, mThrown_s m u, b, h1, h2, rfl, Or.inl ⟨rfl, by rw [unf_foc]; exact ⟨t, cc, ff, E, Mf, idf, lvi, Nat.le_succ _, iv_seq h seq_Thrown⟩⟩, fun v q => (by cases q), fun j q => by cases q; exact ⟨hS, hu⟩⟩
theorem mod_wo {m : MSt} {p1 u : Int32} (h : u ≠ 0) : fX8_writeOn_27 m p1 u = some (mThrown_s m u, 0) := by
  unfold fX8_writeOn_27
  rw [can_eq, Option.bind_some, keep_r]
  dsimp only
  rw [if_neg h, if_pos rfl]
theorem mod_wo0 {m : MSt} {p1 : Int32} : fX8_writeOn_27 m p1 0 = (if mToWrite (mThrown_s m 0) ≤ p1 then fX8_writeOn_54 (mThrown_s m 0) 0 else fX8_writeOn_54 (mThrown_s m 0) (mToWrite (mThrown_s m 0) - p1)) := by
  unfold fX8_writeOn_27
  rw [can_eq, Option.bind_some, keep_r]
  dsimp only
  rw [if_pos rfl, if_neg (show ¬ (1 : Int32) = 0 by decide)]
theorem sim_writeOn {x : SSt} {m : MSt} {t : Nat} {cc : CC} {ff : Nat → FK} {E : EL} {Mf idf : Nat → Nat} {lvi : Nat} (h : IV x m t cc ff E Mf idf lvi) (k : Nat) (p1 : Int32) :
    SimW k x (lvi + 1) (fX7_writeOn k (foc k x) p1) (fX8_writeOn m p1) := by
  obtain ⟨⟨h1, h2, h3, h4, h5, h6, h7, h8, h9, h10, h11, h12, h13⟩, hrw⟩ := id h
  have hlE : (rws E).length = E.length := List.length_map _
  unfold fX7_writeOn fX8_writeOn
  by_cases hW : p1 < 1 ∨ (16 : Int32) < p1
  · rw [(within_out hW).1, Option.bind_some, thrR, (within_out hW).2, Option.bind_some, if_pos rfl]
    exact simw_fail h rfl (mod_wo (u := 1) (by decide)) (by decide) rfl
  · rw [(within_in hW).1, Option.bind_some, thrL, (within_in hW).2, Option.bind_some, if_neg (show ¬ (1 : Int32) = 0 by decide)]
    obtain ⟨n, hn, rfl⟩ : ∃ n, n < 17 ∧ p1 = nI n := by
      have h0 : ¬ p1 < 0 := fun q => hW (Or.inl (Int32.lt_trans q (by decide)))
      exact (wi_N (b := 16) (by omega)).mp (fun q => by
        rcases q with q | q
        · exact h0 q
        · exact hW (Or.inr q))
    have hn1 : 1 ≤ n := Nat.le_of_not_lt (fun q => hW (Or.inl (by
      have : n = 0 := by omega
      rw [this]; decide)))
    rcases hrw with ⟨a1, a2⟩ | ⟨F, B, w, FA, M2, a1, a2, a3, a4, a5, a6, a7, a8, a9, a10, a11, a12⟩
    · rw [show fKtw (foc k x) = -1 from a1, if_pos rfl, a2, if_pos rfl]
      exact simw_fail h rfl (mod_wo (u := 2) (by decide)) (by decide) rfl
    · rw [show fKtw (foc k x) = nI w from a1, if_neg (show ¬ nI w = -1 from fun q => by rw [nI_nm1 (by omega)] at q; exact q), a4, if_neg (show ¬ (1 : Int32) = 0 by decide)]
      rw [mod_wo0]
      obtain ⟨m0, hm0⟩ : ∃ z, z = mThrown_s m 0 := ⟨_, rfl⟩
      have hI0 : IV x m0 t cc ff E Mf idf lvi := by rw [hm0]; exact iv_seq h seq_Thrown
      have hth : mThrown m0 = 0 := by rw [hm0]; rfl
      have b0 : HEq m m0 := by rw [hm0]; exact heq_Thr
      have b1 : mToWrite m0 = nI w := by rw [hm0]; exact a3
      have b2 : mLog m0 = mLog m := by rw [hm0]; rfl
      have b3 : mRows m0 = mRows m := by rw [hm0]; rfl
      have b4 : mFresh m0 = mFresh m := by rw [hm0]; rfl
      have b5 : mNewRows m0 = mNewRows m := by rw [hm0]; rfl
      have b6 : mBegunAt m0 = nI B := by rw [hm0]; exact a6
      have b7 : mMadeAt m0 = mMadeAt m := by rw [hm0]; rfl
      have b8 : mFreshAt m0 = mFreshAt m := by rw [hm0]; rfl
      have b9 : mIsRewriting m0 = 1 := by rw [hm0]; exact a4
      rw [← hm0, b1]
      clear hm0
      by_cases e : w ≤ n
      · have cp : ∃ lo, fX3_copyRows ((fNew (foc k x)), (fLog (foc k x))) (fRar (foc k x)) (loN (fLog (foc k x)) - fRar (foc k x)) = some (lo, sLog x) ∧ LogC lo (F ++ E.drop B) := by
          obtain ⟨lo, l1, l2⟩ := log_copy (n := sNew x) (lo := sLog x) (F := F) (E := E) (i := B) (m := E.length - B) a9 h8 (by omega) (by have := h8.2.1; omega)
          rw [List.take_of_length_le (by rw [List.length_drop]; omega)] at l2
          refine ⟨lo, ?_, l2⟩
          show fX3_copyRows (sNew x, sLog x) (sRar x) (loN (sLog x) - sRar x) = _
          rw [a5, h8.1, pk_sub a7]; exact l1
        obtain ⟨lo, l1, l2⟩ := cp
        rw [if_pos (nI_le e (by omega)), if_pos (nI_le e (by omega)), l1, Option.bind_some, keep_r, keep_r]
        unfold fX8_writeOn_54
        rw [keep_r, show mToWrite (mToWrite_s m0 0) = 0 from rfl, if_pos rfl]
        obtain ⟨z, z1, z2, z3, z4, z5, z6, z7⟩ := mod_replaces (m := mToWrite_s m0 0) (R := rws E) (N := rws F) (B := B) (by show LogM (mLog m0) (mRows m0) _; rw [b2, b3]; exact h9) (by show LogM (mFresh m0) (mNewRows m0) _; rw [b4, b5]; exact a10) b6 (by rw [hlE]; exact a7) (by rw [show (rws F).length = F.length from List.length_map _]; exact a8) (by rw [hlE]; exact h8.2.1)
        rw [z1, Option.bind_some, keep_r]
        have y0 : HEq m z := b0.trans (heq_Tow.trans z2)
        have y4 : ∀ j, j < 16 → mMadeAt z j = if mMadeAt m j < nI B then mFreshAt m j else mMadeAt m j - nI B + nI F.length := fun j hj => by
          rw [z4 j hj, show mMadeAt (mToWrite_s m0 0) = mMadeAt m from b7, show mFreshAt (mToWrite_s m0 0) = mFreshAt m from b8, show (rws F).length = F.length from List.length_map _]
        obtain ⟨-, -, -, -, -, -, -, -, -, -, y1, y2, y3⟩ := id y0
        obtain ⟨x', hx'⟩ : ∃ q, q = unf k x (swL (fKtw_s (fLog_s (fNew_s (foc k x) lo) (sLog x)) (-1))) := ⟨_, rfl⟩
        have x1 : sKtw x' = -1 := by rw [hx']; rfl
        have x2 : sClk x' = sClk x := by rw [hx']; rfl
        have x3 : sLs x' = sLs x := by rw [hx']; rfl
        have x4 : sLvi x' = sLvi x := by rw [hx']; rfl
        have x5 : sLog x' = lo := by rw [hx']; rfl
        have x6 : sV x' = sV x := by
          rw [hx']
          show vup (sV x) k (sV x k) = sV x
          exact congrArg sV (unf_foc k x)
        refine ⟨_, 4, .inl 0, z, mToWrite z, rfl, rfl, rfl, Or.inr ⟨rfl, ?_⟩, fun v q => ?_, fun j q => by cases q⟩
        · rw [← hx']
          refine ⟨t, cc, ff, F ++ E.drop B, M2, idf, lvi, Nat.le_succ _, ⟨h1, x2.trans h2, y1.trans h3, y2.trans h4, by rw [y3, x3]; exact h5, by rw [x3]; exact h6, fun j hj => ?_, by rw [x5]; exact l2, ?_, a11, fun j hj => by rw [x6]; exact h11 j hj, x4.trans h12, fun j hj c d => ?_⟩, Or.inl ⟨x1, z5⟩⟩
          · obtain ⟨c1, c2, c3⟩ := h7 j hj
            rw [x6]
            exact ⟨c1, c2.heq y0, c3⟩
          · rw [rws_app, show rws (E.drop B) = (rws E).drop B from List.map_drop]
            exact z3
          · have hMf : Mf j < E.length := ((h10.1 j hj).2.2 c d).1
            have h3' := h8.2.1
            obtain ⟨c1, c2⟩ := a12 j hj c d
            rw [y4 j hj, h13 j hj c d]
            by_cases e5 : Mf j < B
            · rw [if_pos (nI_lt e5 (by omega)), (c1 e5).1]; exact (c1 e5).2
            · rw [if_neg (nI_nlt (by omega) (by omega)), c2 (by omega), pk_sub (by omega), nI_add]
        · cases q
          exact ⟨z7.trans hth, z6⟩
      · rw [if_neg (nI_ge (by omega) (by omega)), if_neg (nI_ge (by omega) (by omega)), keep_r, pk_sub (by omega)]
        unfold fX8_writeOn_54
        rw [keep_r, show mToWrite (mToWrite_s m0 (nI (w - n))) = nI (w - n) from rfl, if_neg (nI_ne0 (by omega) (by omega))]
        refine ⟨_, 2, .inl (nI (w - n)), _, _, rfl, rfl, rfl, Or.inl ⟨rfl, ?_⟩, fun v q => ?_, fun j q => by cases q⟩
        · rw [show unf k x (fKtw_s (foc k x) (nI (w - n))) = sKtw_s x (nI (w - n)) from unf_foc k (sKtw_s x (nI (w - n)))]
          obtain ⟨⟨i1, i2, i3, i4, i5, i6, i7, i8, i9, i10, i11, i12, i13⟩, -⟩ := hI0
          have q0 : KEq m0 (mToWrite_s m0 (nI (w - n))) := req_ToWrite.1
          refine ⟨t, cc, ff, E, Mf, idf, lvi, Nat.le_succ _, ⟨i1, i2, i3, i4, i5, i6, fun j hj => ?_, i8, i9, i10, i11, i12, i13⟩, Or.inr ⟨F, B, w - n, FA, M2, rfl, by omega, rfl, ?_, a5, b6, a7, a8, a9, ?_, a11, fun j hj c d => ?_⟩⟩
          · obtain ⟨c1, c2, c3⟩ := i7 j hj
            exact ⟨c1, c2.keq q0, c3⟩
          · exact b9
          · show LogM (mFresh m0) (mNewRows m0) _
            rw [b4, b5]; exact a10
          · rw [show mFreshAt (mToWrite_s m0 (nI (w - n))) = mFreshAt m from b8]
            exact a12 j hj c d
        · cases q
          exact ⟨hth, rfl⟩

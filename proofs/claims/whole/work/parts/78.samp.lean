/-! tick, rows, held, sample -/
theorem iv_tick {x x' : SSt} {m m' : MSt} {t t' : Nat} {cc : CC} {ff : Nat → FK} {E : EL} {Mf idf : Nat → Nat} {lvi : Nat} (h : IV x m t cc ff E Mf idf lvi) (hle : t ≤ t') (h6 : t' ≤ 1000000) (hx : x' = sClk_s x (nI t')) (hm : SEq m (mClock_s (mNow_s m' (nI t)) (nI t))) (c1 : mClock m' = nI t') (c2 : mNow m' = nI t') : IV x' m' t' cc ff E Mf idf lvi := by
  have hle' : nI t ≤ nI t' := nI_le hle (by omega)
  obtain ⟨⟨h1, h2, h3, h4, h5, h6', h7, h8, h9, h10, h11, h12, h13⟩, hr⟩ := h
  obtain ⟨g0, g1, g2, g3, g4, g5, g6, g7, g8, g9, g10, g11⟩ := hm
  have a0 : KEq m m' := by
    obtain ⟨d1, d2, d3, d4, d5, d6, d7, d8, d9, d10, d11⟩ := g0
    exact ⟨d1, d2, d3, d4, d5, d6, d7, d8, d9, d10, d11⟩
  have a3 : mSampled m' = mSampled m := g3
  have a4 : mRows m' = mRows m := g4
  have a5 : mLog m' = mLog m := g5
  have a6 : mIsRewriting m' = mIsRewriting m := g6
  have a7 : mToWrite m' = mToWrite m := g7
  have a8 : mBegunAt m' = mBegunAt m := g8
  have a9 : mNewRows m' = mNewRows m := g9
  have a10 : mFresh m' = mFresh m := g10
  have a11 : mFreshAt m' = mFreshAt m := g11
  subst hx
  have lit : ∀ {E' : EL} {M' : Nat → Nat}, LI E' M' idf (nI t) cc lvi → LI E' M' idf (nI t') cc lvi := fun q => ⟨fun k hk => (q.1 k hk).tick hle', q.2⟩
  refine ⟨⟨h6, rfl, c1, c2, a3.trans h5, h6', fun k hk => ?_, h8, by rw [a5, a4]; exact h9, lit h10, h11, h12, fun k hk a b => by rw [a0.2.2.2.2.2.2.2.1]; exact h13 k hk (th_mono a hle') b⟩, ?_⟩
  · obtain ⟨b1, b2, b3⟩ := h7 k hk
    exact ⟨b1, b2.keq a0, b3⟩
  · rcases hr with ⟨b1, b2⟩ | ⟨F, B, w, FA, M2, b1, b2, b3, b4, b5, b6, b7, b8, b9, b10, b11, b12⟩
    · exact Or.inl ⟨b1, a6.trans b2⟩
    · exact Or.inr ⟨F, B, w, FA, M2, b1, b2, a7.trans b3, a6.trans b4, b5, a8.trans b6, b7, b8, b9, by rw [a10, a9]; exact b10, lit b11, fun k hk d e => by rw [a11]; exact b12 k hk (th_mono d hle') e⟩
theorem mod_ti32 {m : MSt} {p1 u : Int32} (h : u ≠ 0) : fX8_tick_32 m p1 u = some (mThrown_s m u, 0) := by
  unfold fX8_tick_32
  rw [can_eq, Option.bind_some, keep_r]
  dsimp only
  rw [if_neg h, if_pos rfl]
theorem seq_trans {m y z : MSt} (h : SEq m y) (g : SEq y z) : SEq m z := by
  obtain ⟨h0, h1, h2, h3, h4, h5, h6, h7, h8, h9, h10, h11⟩ := h
  obtain ⟨g0, g1, g2, g3, g4, g5, g6, g7, g8, g9, g10, g11⟩ := g
  exact ⟨h0.trans g0, g1.trans h1, g2.trans h2, g3.trans h3, g4.trans h4, g5.trans h5, g6.trans h6, g7.trans h7, g8.trans h8, g9.trans h9, g10.trans h10, g11.trans h11⟩
theorem sim_tick {x : SSt} {m : MSt} {t : Nat} {cc : CC} {ff : Nat → FK} {E : EL} {Mf idf : Nat → Nat} {lvi : Nat} (h : IV x m t cc ff E Mf idf lvi) (k : Nat) (p1 : Int32) :
    Sim1 [1, 2] mpC k x (lvi + 1) (fX7_tick k (foc k x) p1) (fX8_tick m p1) := by
  obtain ⟨⟨h1, h2, h3, h4, h5, h6, h7, h8, h9, h10, h11, h12, h13⟩, hrw⟩ := id h
  have hfc : fClk (foc k x) = nI t := h2
  unfold fX7_tick fX8_tick
  by_cases hW : p1 < 1 ∨ (1000 : Int32) < p1
  · rw [(within_out hW).1, Option.bind_some, thrR, (within_out hW).2, Option.bind_some, if_pos rfl]
    exact sim_fail h rfl (u := 1) (b := 0) (mod_ti32 (by decide)) (by decide) rfl
  · rw [(within_in hW).1, Option.bind_some, thrL, (within_in hW).2, Option.bind_some, if_neg (show ¬ (1 : Int32) = 0 by decide), hfc, h3]
    obtain ⟨n, hn, rfl⟩ : ∃ n, n < 1001 ∧ p1 = nI n := by
      have h0 : ¬ p1 < 0 := fun q => hW (Or.inl (Int32.lt_trans q (by decide)))
      exact (wi_N (b := 1000) (by omega)).mp (fun q => by
        rcases q with q | q
        · exact h0 q
        · exact hW (Or.inr q))
    rw [nI_add, show (1000000 : Int32) = nI 1000000 from rfl]
    by_cases hC : t + n ≤ 1000000
    · rw [if_pos (nI_le hC (by omega)), if_pos (nI_le hC (by omega)), keep_r]
      unfold fX8_tick_32
      rw [can_eq, Option.bind_some, keep_r]
      dsimp only
      rw [if_pos rfl, if_neg (by decide), show mClock (mThrown_s m 0) = nI t from h3, nI_add, keep_r, keep_r]
      obtain ⟨m0, hm0⟩ : ∃ z, z = mThrown_s m 0 := ⟨_, rfl⟩
      have hI0 : IV x m0 t cc ff E Mf idf lvi := by rw [hm0]; exact iv_seq h seq_Thrown
      have hth : mThrown m0 = 0 := by rw [hm0]; rfl
      rw [← hm0]
      obtain ⟨m1, hm1⟩ : ∃ z, z = mClock_s m0 (nI (t + n)) := ⟨_, rfl⟩
      rw [← hm1, show mClock m1 = nI (t + n) by rw [hm1]; rfl]
      refine ⟨_, .inl (nI (t + n)), mNow_s m1 (nI (t + n)), nI (t + n), rfl, ?_, ⟨t + n, cc, ff, E, Mf, idf, lvi, Nat.le_succ _, ?_⟩, fun v q => ?_, fun j q => by cases q⟩
      · rw [show mClock (mNow_s m1 (nI (t + n))) = mClock m1 from rfl, hm1]; rfl
      · refine iv_tick (m := m0) (x := x) (t := t) hI0 (by omega) hC ?_ ?_ ?_ rfl
        · show unf k x (fClk_s (foc k x) (nI (t + n))) = sClk_s x (nI (t + n))
          exact unf_foc k (sClk_s x (nI (t + n)))
        · have e1 : mClock_s (mNow_s (mNow_s m1 (nI (t + n))) (nI t)) (nI t) = m0 := by
            rw [hm1]
            have f1 : ∀ a : Int32, mNow_s (mNow_s (mClock_s m0 (nI (t + n))) a) (nI t) = mNow_s (mClock_s m0 (nI (t + n))) (nI t) := fun a => by simp only [mNow_s, mClock_s]
            rw [f1]
            have f2 : mClock_s (mNow_s (mClock_s m0 (nI (t + n))) (nI t)) (nI t) = mClock_s (mNow_s m0 (nI t)) (nI t) := by simp only [mNow_s, mClock_s]
            rw [f2]
            have g1 : mNow m0 = nI t := hI0.1.2.2.2.1
            have g2 : mClock m0 = nI t := hI0.1.2.2.1
            rw [← g1]
            have f3 : mNow_s m0 (mNow m0) = m0 := rfl
            rw [f3, g1, ← g2]; rfl
          rw [e1]
          exact ⟨⟨rfl, rfl, rfl, rfl, rfl, rfl, rfl, rfl, rfl, rfl, rfl⟩, rfl, rfl, rfl, rfl, rfl, rfl, rfl, rfl, rfl, rfl, rfl⟩
        · rw [show mClock (mNow_s m1 (nI (t + n))) = mClock m1 from rfl, hm1]; rfl
      · cases q
        refine ⟨?_, rfl⟩
        show mThrown m1 = 0
        rw [hm1]; exact hth
    · rw [if_neg (nI_ge (by omega) (by omega)), if_neg (nI_ge (by omega) (by omega))]
      exact sim_fail h rfl (u := 2) (b := 0) (mod_ti32 (by decide)) (by decide) rfl
theorem sim_rows {x : SSt} {m : MSt} {t : Nat} {cc : CC} {ff : Nat → FK} {E : EL} {Mf idf : Nat → Nat} {lvi : Nat} (h : IV x m t cc ff E Mf idf lvi) :
    ∃ v z, fX7_rows 0 (foc 0 x) = some v ∧ fX8_rows m = some (z, v) ∧ IVx x z (lvi + 1) := by
  obtain ⟨⟨h1, h2, h3, h4, h5, h6, h7, h8, h9, h10, h11, h12, h13⟩, hrw⟩ := id h
  refine ⟨nI E.length, mThrown_s m 0, congrArg some h8.1, ?_, ⟨t, cc, ff, E, Mf, idf, lvi, Nat.le_succ _, iv_seq h seq_Thrown⟩⟩
  unfold fX8_rows
  rw [keep_r, show mRows (mThrown_s m 0) = mRows m from rfl, h9.1, show (rws E).length = E.length from List.length_map _]
def hlN (cc : CC) (n : Nat) : Nat := (List.range n).countP (fun k => decide (cT (cc k) ≠ 0))
theorem hlN_s {cc : CC} {n : Nat} : hlN cc (n + 1) = hlN cc n + if cT (cc n) = 0 then 0 else 1 := by
  unfold hlN
  rw [List.range_succ, List.countP_append, List.countP_cons, List.countP_nil, Nat.zero_add]
  by_cases e : cT (cc n) = 0
  · rw [if_pos e, if_neg (by simp [e])]
  · rw [if_neg e, if_pos (by simp [e])]
theorem sim_held {x : SSt} {m : MSt} {t : Nat} {cc : CC} {ff : Nat → FK} {E : EL} {Mf idf : Nat → Nat} {lvi : Nat} (h : IV x m t cc ff E Mf idf lvi) :
    ∃ v z, fX7_held x = some v ∧ fX8_held m = some (z, v) ∧ IVx x z (lvi + 1) := by
  obtain ⟨⟨h1, h2, h3, h4, h5, h6, h7, h8, h9, h10, h11, h12, h13⟩, hrw⟩ := id h
  refine ⟨nI (hlN cc 16), mThrown_s m 0, ok_is ?_, ok_is ?_, ⟨t, cc, ff, E, Mf, idf, lvi, Nat.le_succ _, iv_seq h seq_Thrown⟩⟩
  · unfold fX7_held
    refine ok_iter (fun n s => ∃ i, n = 16 - i ∧ i ≤ 16 ∧ s = (nI (hlN cc i), nI i)) _ ?_ FU 16 _ ⟨0, rfl, by omega, rfl⟩ (by unfold FU; omega)
    rintro n s rec ⟨i, hn, hi, rfl⟩ hrec
    unfold fX7_held_4
    dsimp only
    rw [d16]
    by_cases e : 16 ≤ i
    · rw [if_pos (nI_le e (by omega)), ok_some, show i = 16 by omega]
    · rw [if_neg (nI_ge (by omega) (by omega)), inb_nI (by omega) (by omega), chk_r, nI_clamp (by omega)]
      have hv := (h7 i (by omega)).1.2.2.1
      by_cases e2 : cT (cc i) = 0
      · rw [if_pos (hv.mp e2), ok_keep, nI_1]
        exact hrec (16 - (i + 1)) _ (by omega) ⟨i + 1, rfl, by omega, by rw [hlN_s, if_pos e2]; rfl⟩
      · rw [if_neg (fun q => e2 (hv.mpr q)), ok_keep, ok_keep, nI_1, nI_1]
        exact hrec (16 - (i + 1)) _ (by omega) ⟨i + 1, rfl, by omega, by rw [hlN_s, if_neg e2]⟩
  · unfold fX8_held
    rw [ok_keep]
    refine ok_iter (fun n s => ∃ i, n = 16 - i ∧ i ≤ 16 ∧ s = (nI (hlN cc i), nI i)) _ ?_ FU 16 _ ⟨0, rfl, by omega, rfl⟩ (by unfold FU; omega)
    rintro n s rec ⟨i, hn, hi, rfl⟩ hrec
    unfold fX8_held_9
    dsimp only
    rw [d16]
    by_cases e : 16 ≤ i
    · rw [if_pos (nI_le e (by omega)), ok_some, show i = 16 by omega]
    · rw [if_neg (nI_ge (by omega) (by omega)), inb_nI (by omega) (by omega), chk_r, nI_clamp (by omega), show mType (mThrown_s m 0) i = mType m i from rfl, (h7 i (by omega)).2.1.1]
      by_cases e2 : cT (cc i) = 0
      · rw [if_pos e2, ok_keep, ok_keep, nI_1, show (0 : Int32) = nI 0 from rfl, nI_add]
        exact hrec (16 - (i + 1)) _ (by omega) ⟨i + 1, rfl, by omega, by rw [hlN_s, if_pos e2]⟩
      · rw [if_neg e2, ok_keep, ok_keep, nI_1, nI_1]
        exact hrec (16 - (i + 1)) _ (by omega) ⟨i + 1, rfl, by omega, by rw [hlN_s, if_neg e2]⟩

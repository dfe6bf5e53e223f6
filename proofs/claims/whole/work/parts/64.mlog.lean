/-! the reference's log -/
def LogM (L : IA) (n : Int32) (R : List RW) : Prop := n = nI R.length ∧ ∀ i (h : i < R.length), rowM L i R[i]
def KEq (m y : MSt) : Prop := mType y = mType m ∧ mEnd y = mEnd m ∧ mForm y = mForm m ∧ mSize y = mSize m ∧ mBuckets y = mBuckets m ∧ mValues y = mValues m ∧ mBits y = mBits m ∧ mMadeAt y = mMadeAt m ∧ mPlace y = mPlace m ∧ mWaits y = mWaits m ∧ mSince y = mSince m
theorem KEq.trans {m y z : MSt} (h : KEq m y) (g : KEq y z) : KEq m z := by
  obtain ⟨h1, h2, h3, h4, h5, h6, h7, h8, h9, h10, h11⟩ := h
  obtain ⟨g1, g2, g3, g4, g5, g6, g7, g8, g9, g10, g11⟩ := g
  exact ⟨g1.trans h1, g2.trans h2, g3.trans h3, g4.trans h4, g5.trans h5, g6.trans h6, g7.trans h7, g8.trans h8, g9.trans h9, g10.trans h10, g11.trans h11⟩
theorem MR.keq {m y : MSt} {k : Nat} {c : CK} {f : FK} (h : MR m k c f) (g : KEq m y) : MR y k c f := by
  obtain ⟨g1, g2, g3, g4, g5, g6, g7, g8, g9, g10, g11⟩ := g
  obtain ⟨h1, h2⟩ := h
  refine ⟨by rw [g1]; exact h1, fun h0 => ?_⟩
  obtain ⟨e1, e2, e3, ⟨e4, e5, e6⟩, e7⟩ := h2 h0
  refine ⟨by rw [g2]; exact e1, by rw [g3]; exact e2, by rw [g5]; exact e3, ⟨by rw [g4]; exact e4, e5, fun i hi => by rw [g6, g7]; exact e6 i hi⟩, fun hT => ?_⟩
  obtain ⟨e8, e9⟩ := e7 hT
  exact ⟨fun q hq => by rw [g9]; exact e8 q hq, fun i hi => by rw [g10, g11]; exact e9 i hi⟩
/-- the rest of what a rewriting leaves -/
def REq (m y : MSt) : Prop := KEq m y ∧ mClock y = mClock m ∧ mNow y = mNow m ∧ mSampled y = mSampled m ∧ mRows y = mRows m ∧ mLog y = mLog m
theorem REq.trans {m y z : MSt} (h : REq m y) (g : REq y z) : REq m z := by
  obtain ⟨h1, h2, h3, h4, h5, h6⟩ := h
  obtain ⟨g1, g2, g3, g4, g5, g6⟩ := g
  exact ⟨h1.trans g1, g2.trans h2, g3.trans h3, g4.trans h4, g5.trans h5, g6.trans h6⟩
theorem REq.refl (m : MSt) : REq m m := ⟨⟨rfl, rfl, rfl, rfl, rfl, rfl, rfl, rfl, rfl, rfl, rfl⟩, rfl, rfl, rfl, rfl, rfl⟩
theorem req_Fresh {m : MSt} {V : IA} : REq m (mFresh_s m V) := ⟨⟨rfl, rfl, rfl, rfl, rfl, rfl, rfl, rfl, rfl, rfl, rfl⟩, rfl, rfl, rfl, rfl, rfl⟩
theorem req_NewRows {m : MSt} {V : Int32} : REq m (mNewRows_s m V) := ⟨⟨rfl, rfl, rfl, rfl, rfl, rfl, rfl, rfl, rfl, rfl, rfl⟩, rfl, rfl, rfl, rfl, rfl⟩
theorem req_FreshAt {m : MSt} {V : IA} : REq m (mFreshAt_s m V) := ⟨⟨rfl, rfl, rfl, rfl, rfl, rfl, rfl, rfl, rfl, rfl, rfl⟩, rfl, rfl, rfl, rfl, rfl⟩
theorem req_ToWrite {m : MSt} {V : Int32} : REq m (mToWrite_s m V) := ⟨⟨rfl, rfl, rfl, rfl, rfl, rfl, rfl, rfl, rfl, rfl, rfl⟩, rfl, rfl, rfl, rfl, rfl⟩
theorem req_BegunAt {m : MSt} {V : Int32} : REq m (mBegunAt_s m V) := ⟨⟨rfl, rfl, rfl, rfl, rfl, rfl, rfl, rfl, rfl, rfl, rfl⟩, rfl, rfl, rfl, rfl, rfl⟩
theorem req_IsRewriting {m : MSt} {V : Int32} : REq m (mIsRewriting_s m V) := ⟨⟨rfl, rfl, rfl, rfl, rfl, rfl, rfl, rfl, rfl, rfl, rfl⟩, rfl, rfl, rfl, rfl, rfl⟩
theorem req_Thrown {m : MSt} {V : Int32} : REq m (mThrown_s m V) := ⟨⟨rfl, rfl, rfl, rfl, rfl, rfl, rfl, rfl, rfl, rfl, rfl⟩, rfl, rfl, rfl, rfl, rfl⟩
theorem keq_Rows {m : MSt} {V : Int32} : KEq m (mRows_s m V) := ⟨rfl, rfl, rfl, rfl, rfl, rfl, rfl, rfl, rfl, rfl, rfl⟩
theorem keq_Log {m : MSt} {V : IA} : KEq m (mLog_s m V) := ⟨rfl, rfl, rfl, rfl, rfl, rfl, rfl, rfl, rfl, rfl, rfl⟩
theorem rowM_congr {C D : IA} {i : Nat} {r : RW} (h : rowM C i r) (g : ∀ q, 6 * i ≤ q → q < 6 * i + 6 → D q = C q) : rowM D i r := by
  obtain ⟨h0, h1, h2, h3, h4, h5⟩ := h
  exact ⟨by rw [g _ (by omega) (by omega)]; exact h0, by rw [g _ (by omega) (by omega)]; exact h1, by rw [g _ (by omega) (by omega)]; exact h2, by rw [g _ (by omega) (by omega)]; exact h3, by rw [g _ (by omega) (by omega)]; exact h4, by rw [g _ (by omega) (by omega)]; exact h5⟩
theorem logM_snoc {L D : IA} {n : Int32} {R : List RW} {r : RW} (h : LogM L n R) (g : ∀ q, q < 6 * R.length → D q = L q) (hr : rowM D R.length r) : LogM D (nI (R.length + 1)) (R ++ [r]) := by
  have hlen : (R ++ [r]).length = R.length + 1 := by rw [List.length_append]; rfl
  refine ⟨by rw [hlen], fun i hi => ?_⟩
  rw [hlen] at hi
  by_cases e : i < R.length
  · rw [List.getElem_append_left e]
    exact rowM_congr (h.2 i e) (fun q _ q2 => g q (by omega))
  · have : i = R.length := by omega
    subst this
    have eg : (R ++ [r])[R.length]'(by rw [hlen]; omega) = r := by simp
    rw [eg]; exact hr
theorem six (L : IA) (n : Nat) (a b c d e f : Int32) (q : Nat) (hq : q < 6 * n) : upd (upd (upd (upd (upd (upd L (6 * n) a) (6 * n + 1) b) (6 * n + 2) c) (6 * n + 3) d) (6 * n + 4) e) (6 * n + 5) f q = L q := by
  rw [upd_o (by omega), upd_o (by omega), upd_o (by omega), upd_o (by omega), upd_o (by omega), upd_o (by omega)]
theorem six_r (L : IA) (n : Nat) (r : RW) : rowM (upd (upd (upd (upd (upd (upd L (6 * n) (wK r)) (6 * n + 1) (wY r)) (6 * n + 2) (wA r)) (6 * n + 3) (wB r)) (6 * n + 4) (wC r)) (6 * n + 5) (wT r)) n r := by
  simp only [rowM, upd_a]
  refine ⟨?_, ?_, ?_, ?_, ?_, ?_⟩ <;> simp
-- one level of getters and setters
theorem gLL {m : MSt} {A : IA} : mLog (mLog_s m A) = A := rfl
theorem sLL {m : MSt} {A B : IA} : mLog_s (mLog_s m A) B = mLog_s m B := rfl
theorem gRL {m : MSt} {A : IA} : mRows (mLog_s m A) = mRows m := rfl
theorem gCL {m : MSt} {A : IA} : mClock (mLog_s m A) = mClock m := rfl
theorem gFF {m : MSt} {A : IA} : mFresh (mFresh_s m A) = A := rfl
theorem sFF {m : MSt} {A B : IA} : mFresh_s (mFresh_s m A) B = mFresh_s m B := rfl
theorem gNF {m : MSt} {A : IA} : mNewRows (mFresh_s m A) = mNewRows m := rfl
theorem gCF {m : MSt} {A : IA} : mClock (mFresh_s m A) = mClock m := rfl
theorem sNN {m : MSt} {a b : Int32} : mNewRows_s (mNewRows_s m a) b = mNewRows_s m b := by simp only [mNewRows_s]
theorem sFNF {m : MSt} {A B : IA} {n : Int32} : mFresh_s (mNewRows_s (mFresh_s m A) n) B = mNewRows_s (mFresh_s m B) n := by simp only [mFresh_s, mNewRows_s]
theorem mod_writes {m : MSt} {R : List RW} (h : LogM (mLog m) (mRows m) R) (hl : R.length < 300) (a b c d e : Int32) :
    ∃ L, fX8_writes m a b c d e = some (mRows_s (mLog_s m L) (nI (R.length + 1))) ∧ LogM L (nI (R.length + 1)) (R ++ [(a, b, c, d, e, mClock m)]) := by
  unfold fX8_writes
  rw [h.1, keep_r, d6, pk_mul, show nI (6 * R.length) + 1 = nI (6 * R.length + 1) from nI_add _ 1, show nI (6 * R.length) + 2 = nI (6 * R.length + 2) from nI_add _ 2, show nI (6 * R.length) + 3 = nI (6 * R.length + 3) from nI_add _ 3, show nI (6 * R.length) + 4 = nI (6 * R.length + 4) from nI_add _ 4, show nI (6 * R.length) + 5 = nI (6 * R.length + 5) from nI_add _ 5]
  rw [inb_nI (show 6 * R.length < 1800 by omega) (by omega), inb_nI (show 6 * R.length + 1 < 1800 by omega) (by omega), inb_nI (show 6 * R.length + 2 < 1800 by omega) (by omega), inb_nI (show 6 * R.length + 3 < 1800 by omega) (by omega), inb_nI (show 6 * R.length + 4 < 1800 by omega) (by omega), inb_nI (show 6 * R.length + 5 < 1800 by omega) (by omega), nI_clamp (show 6 * R.length < 2 ^ 31 by omega), nI_clamp (show 6 * R.length + 1 < 2 ^ 31 by omega), nI_clamp (show 6 * R.length + 2 < 2 ^ 31 by omega), nI_clamp (show 6 * R.length + 3 < 2 ^ 31 by omega), nI_clamp (show 6 * R.length + 4 < 2 ^ 31 by omega), nI_clamp (show 6 * R.length + 5 < 2 ^ 31 by omega)]
  simp only [chk_r, keep_r, gLL, sLL, gRL, gCL]
  rw [h.1, nI_1]
  exact ⟨_, rfl, logM_snoc h (fun q hq => six _ _ _ _ _ _ _ _ q hq) (six_r _ _ (a, b, c, d, e, mClock m))⟩
theorem mod_notes {m : MSt} {R : List RW} (h : LogM (mFresh m) (mNewRows m) R) (hl : R.length < 600) (a b c d : Int32) :
    ∃ L, fX8_notes m a b c d = some (mNewRows_s (mFresh_s m L) (nI (R.length + 1))) ∧ LogM L (nI (R.length + 1)) (R ++ [(a, b, c, d, 0, mClock m)]) := by
  unfold fX8_notes
  rw [h.1, keep_r, d6, pk_mul, show nI (6 * R.length) + 1 = nI (6 * R.length + 1) from nI_add _ 1, show nI (6 * R.length) + 2 = nI (6 * R.length + 2) from nI_add _ 2, show nI (6 * R.length) + 3 = nI (6 * R.length + 3) from nI_add _ 3, show nI (6 * R.length) + 4 = nI (6 * R.length + 4) from nI_add _ 4, show nI (6 * R.length) + 5 = nI (6 * R.length + 5) from nI_add _ 5]
  rw [inb_nI (show 6 * R.length < 3600 by omega) (by omega), inb_nI (show 6 * R.length + 1 < 3600 by omega) (by omega), inb_nI (show 6 * R.length + 2 < 3600 by omega) (by omega), inb_nI (show 6 * R.length + 3 < 3600 by omega) (by omega), inb_nI (show 6 * R.length + 4 < 3600 by omega) (by omega), inb_nI (show 6 * R.length + 5 < 3600 by omega) (by omega), nI_clamp (show 6 * R.length < 2 ^ 31 by omega), nI_clamp (show 6 * R.length + 1 < 2 ^ 31 by omega), nI_clamp (show 6 * R.length + 2 < 2 ^ 31 by omega), nI_clamp (show 6 * R.length + 3 < 2 ^ 31 by omega), nI_clamp (show 6 * R.length + 4 < 2 ^ 31 by omega), nI_clamp (show 6 * R.length + 5 < 2 ^ 31 by omega)]
  simp only [chk_r, keep_r, gFF, sFF, gNF, gCF]
  rw [h.1, nI_1]
  exact ⟨_, rfl, logM_snoc h (fun q hq => six _ _ _ _ _ _ _ _ q hq) (six_r _ _ (a, b, c, d, 0, mClock m))⟩
theorem kind_69 (x : Int32) : (¬ (x < 6 ∨ 9 < x)) ↔ (x = 6 ∨ x = 7 ∨ x = 8 ∨ x = 9) := by
  constructor
  · intro h
    have h1 : ¬ x < 6 := fun q => h (Or.inl q)
    have h2 : ¬ 9 < x := fun q => h (Or.inr q)
    obtain ⟨n, hn, rfl⟩ := nI_of (x := x) (fun q => h1 (Int32.lt_trans q (by decide)))
    rw [show (6 : Int32) = nI 6 from rfl, nI_ltE hn (by omega)] at h1
    rw [show (9 : Int32) = nI 9 from rfl, nI_ltE (by omega) hn] at h2
    have : n = 6 ∨ n = 7 ∨ n = 8 ∨ n = 9 := by omega
    rcases this with e | e | e | e <;> subst e
    · exact Or.inl rfl
    · exact Or.inr (Or.inl rfl)
    · exact Or.inr (Or.inr (Or.inl rfl))
    · exact Or.inr (Or.inr (Or.inr rfl))
  · rintro (e | e | e | e) <;> subst e <;> decide
theorem req_FN {m : MSt} {L : IA} {n : Int32} : REq m (mNewRows_s (mFresh_s m L) n) := req_Fresh.trans req_NewRows
theorem mod_copies {m : MSt} {R N : List RW} {k M : Nat} (hk : k < 16) (h : LogM (mLog m) (mRows m) R) (h300 : R.length ≤ 300) (hN : LogM (mFresh m) (mNewRows m) N) (hM : mMadeAt m k = nI M) (hMl : M ≤ R.length) (hl : N.length + ((R.drop M).filter (isS k)).length ≤ 600) :
    ∃ L n, fX8_copiesStream m (nI k) = some (mNewRows_s (mFresh_s m L) n) ∧ LogM L n (N ++ (R.drop M).filter (isS k)) := by
  have key : Ok (fX8_copiesStream m (nI k)) (fun y => ∃ L n, y = mNewRows_s (mFresh_s m L) n ∧ LogM L n (N ++ (R.drop M).filter (isS k))) := by
    unfold fX8_copiesStream
    rw [inb_nI hk (by omega), chk_r, ok_keep, nI_clamp (by omega), hM]
    refine ok_iter (fun q s => ∃ i L n, q = R.length - i ∧ M ≤ i ∧ i ≤ R.length ∧ s = (mNewRows_s (mFresh_s m L) n, nI i) ∧ LogM L n (N ++ ((R.take i).drop M).filter (isS k))) _ ?_ FU (R.length - M) _ ⟨M, mFresh m, mNewRows m, rfl, Nat.le_refl _, hMl, rfl, by rw [List.drop_eq_nil_of_le (by rw [List.length_take]; omega)]; simpa using hN⟩ (by unfold FU; omega)
    rintro q s rec ⟨i, L, n, hq, hMi, hi, rfl, hL⟩ hrec
    have g1 : mRows (mNewRows_s (mFresh_s m L) n) = mRows m := req_FN.2.2.2.2.1
    have g2 : mLog (mNewRows_s (mFresh_s m L) n) = mLog m := req_FN.2.2.2.2.2
    unfold fX8_copiesStream_7
    dsimp only
    rw [g1, h.1, g2]
    by_cases e : R.length ≤ i
    · rw [if_pos (nI_le e (by omega)), ok_some]
      have : i = R.length := by omega
      subst this
      rw [List.take_length] at hL
      exact ⟨L, n, rfl, hL⟩
    · have hil : i < R.length := by omega
      obtain ⟨r0, r1, r2, r3, r4, r5⟩ := h.2 i hil
      have hst : (R.take (i + 1)).drop M = (R.take i).drop M ++ [R[i]] := by
        rw [List.take_succ_eq_append_getElem hil, List.drop_append_of_le_length (by rw [List.length_take]; omega)]
      have skip : isS k R[i] = false → Ok (rec (mNewRows_s (mFresh_s m L) n, nI (i + 1))) (fun y => ∃ L n, y = mNewRows_s (mFresh_s m L) n ∧ LogM L n (N ++ (R.drop M).filter (isS k))) := fun w => by
        refine hrec (R.length - (i + 1)) _ (by omega) ⟨i + 1, L, n, rfl, by omega, by omega, rfl, ?_⟩
        rw [hst, List.filter_append, List.filter_cons_of_neg (by rw [w]; decide), List.filter_nil, List.append_nil]
        exact hL
      rw [if_neg (nI_ge hil (by omega)), d6, pk_mul, nI_1, inb_nI (show 6 * i + 1 < 1800 by omega) (by omega), chk_r, nI_clamp (show 6 * i + 1 < 2 ^ 31 by omega), nI_clamp (show 6 * i < 2 ^ 31 by omega), r1, r0]
      by_cases e1 : wY R[i] = nI k
      · rw [if_pos e1, inb_nI (show 6 * i < 1800 by omega) (by omega), chk_r, isIn_nI, Option.bind_some]
        by_cases e2 : wK R[i] < nI 6 ∨ 9 < wK R[i]
        · rw [if_pos e2, if_pos rfl, ok_keep, nI_1]
          refine skip ?_
          cases w : isS k R[i] with
          | false => rfl
          | true => exact absurd e2 ((kind_69 _).mpr (isS_iff.mp w).2)
        · have hS : isS k R[i] = true := isS_iff.mpr ⟨e1, (kind_69 _).mp e2⟩
          have hlen : (N ++ ((R.take i).drop M).filter (isS k)).length + 1 ≤ 600 := by
            have h1 : (R.drop M) = ((R.take (i + 1)).drop M) ++ R.drop (i + 1) := by
              have := List.take_append_drop (i + 1) R
              have e5 : R.drop M = (R.take (i + 1) ++ R.drop (i + 1)).drop M := by rw [this]
              rw [e5, List.drop_append_of_le_length (by rw [List.length_take]; omega)]
            rw [h1, hst, List.filter_append, List.filter_append, List.filter_cons_of_pos hS] at hl
            simp only [List.length_append, List.length_cons] at hl ⊢
            omega
          generalize hNi : N ++ ((R.take i).drop M).filter (isS k) = Ni at *
          rw [if_neg e2, if_neg (by decide)]
          refine ok_iter (fun q s => ∃ j L', q = 6 - j ∧ j ≤ 6 ∧ s = (mNewRows_s (mFresh_s m L') n, nI j) ∧ (∀ t, t < 6 * Ni.length → L' t = L t) ∧ ∀ t, t < j → L' (6 * Ni.length + t) = mLog m (6 * i + t)) _ ?_ FU 6 _ ⟨0, L, rfl, by omega, rfl, fun _ _ => rfl, fun t ht => by omega⟩ (by unfold FU; omega)
          rintro q2 s rec2 ⟨j, L', hq2, hj, rfl, hA, hB⟩ hrec2
          have g3 : mNewRows (mNewRows_s (mFresh_s m L') n) = n := rfl
          have g4 : mFresh (mNewRows_s (mFresh_s m L') n) = L' := rfl
          have g5 : mLog (mNewRows_s (mFresh_s m L') n) = mLog m := req_FN.2.2.2.2.2
          unfold fX8_copiesStream_51
          dsimp only
          rw [g3, g4, g5, hL.1, d6, pk_mul, pk_mul, nI_add, nI_add]
          by_cases ej : 6 ≤ j
          · have : j = 6 := by omega
            subst this
            rw [if_pos (nI_le ej (by omega)), ok_keep, ok_keep, nI_1, nI_1, sNN]
            refine hrec (R.length - (i + 1)) _ (by omega) ⟨i + 1, L', nI (Ni.length + 1), rfl, by omega, by omega, rfl, ?_⟩
            rw [hst, List.filter_append, List.filter_cons_of_pos hS, List.filter_nil, ← List.append_assoc, hNi]
            refine logM_snoc hL (fun t ht => hA t ht) ⟨?_, ?_, ?_, ?_, ?_, ?_⟩
            · exact (hB 0 (by omega)).trans r0
            · exact (hB 1 (by omega)).trans (by rw [r1])
            · exact (hB 2 (by omega)).trans r2
            · exact (hB 3 (by omega)).trans r3
            · exact (hB 4 (by omega)).trans r4
            · exact (hB 5 (by omega)).trans r5
          · rw [if_neg (nI_ge (by omega) (by omega)), inb_nI (show 6 * i + j < 1800 by omega) (by omega), chk_r, inb_nI (show 6 * Ni.length + j < 3600 by omega) (by omega), chk_r, ok_keep, ok_keep, nI_clamp (by omega), nI_clamp (by omega), nI_1, sFNF]
            refine hrec2 (6 - (j + 1)) _ (by omega) ⟨j + 1, upd L' (6 * Ni.length + j) (mLog m (6 * i + j)), rfl, by omega, by rw [hL.1], fun t ht => ?_, fun t ht => ?_⟩
            · rw [upd_o (by omega)]; exact hA t ht
            · by_cases e3 : t = j
              · subst e3; exact upd_s
              · rw [upd_o (by omega)]; exact hB t (by omega)
      · rw [if_neg e1, ok_keep, nI_1]
        refine skip ?_
        cases w : isS k R[i] with
        | false => rfl
        | true => exact absurd (isS_iff.mp w).1 e1
  obtain ⟨y, e1, L, n, rfl, e3⟩ := key
  exact ⟨L, n, e1, e3⟩

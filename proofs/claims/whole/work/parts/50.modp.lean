/-! the reference: lists of a key -/
def ML (m : MSt) (k : Nat) (L : LL) : Prop := mSize m k = nI L.length ∧ L.length ≤ 40 ∧ ∀ i, i < L.length → L[i]? = some (mValues m (40 * k + i), mBits m (40 * k + i))
theorem ML.e {m : MSt} {k : Nat} {L : LL} (h : ML m k L) {i : Nat} (hi : i < L.length) : mValues m (40 * k + i) = L[i].1 ∧ mBits m (40 * k + i) = L[i].2 := by
  have := h.2.2 i hi
  rw [List.getElem?_eq_getElem hi] at this
  have h2 := Option.some.inj this
  rw [h2]; exact ⟨rfl, rfl⟩
def inK (k q : Nat) : Prop := 40 * k ≤ q ∧ q < 40 * k + 40
def Put (k : Nat) (m y : MSt) : Prop := ∃ V B S : IA, y = mSize_s (mBits_s (mValues_s m V) B) S ∧ (∀ q, ¬ inK k q → V q = mValues m q ∧ B q = mBits m q) ∧ ∀ j, j ≠ k → S j = mSize m j
theorem at40 {k i : Nat} : (40 : Int32) * nI k + nI i = nI (40 * k + i) := by rw [d40, pk_mul, nI_add]
theorem mod_putsIn {m : MSt} {k : Nat} {L : LL} (hk : k < 16) (h : ML m k L) {i : Nat} (hi : i ≤ L.length) (hl : L.length < 40) (v b : Int32) : ∃ y, fX8_putsIn m (nI k) (nI i) v b = some y ∧ ML y k (L.insertIdx i (v, b)) ∧ Put k m y := by
  obtain ⟨h1, h2, h3⟩ := id h
  have hlen : (L.insertIdx i (v, b)).length = L.length + 1 := by rw [List.length_insertIdx, if_pos hi]
  have key : Ok (fX8_putsIn m (nI k) (nI i) v b) (fun y => ML y k (L.insertIdx i (v, b)) ∧ Put k m y) := by
    unfold fX8_putsIn
    rw [inb_nI hk (by omega), chk_r, ok_keep, nI_clamp (by omega), h1, at40]
    refine ok_iter (fun n s => ∃ j V B, n = j - i ∧ i ≤ j ∧ j ≤ L.length ∧ s = (mBits_s (mValues_s m V) B, nI (40 * k + j)) ∧ (∀ q, V q = if 40 * k + j < q ∧ q ≤ 40 * k + L.length then mValues m (q - 1) else mValues m q) ∧ ∀ q, B q = if 40 * k + j < q ∧ q ≤ 40 * k + L.length then mBits m (q - 1) else mBits m q) _ ?_ FU (L.length - i) _ ⟨L.length, mValues m, mBits m, rfl, hi, Nat.le_refl _, rfl, fun q => by rw [if_neg (by omega)], fun q => by rw [if_neg (by omega)]⟩ (by unfold FU; omega)
    rintro n s rec ⟨j, V, B, hn, hij, hj, rfl, hV, hB⟩ hrec
    unfold fX8_putsIn_13
    simp only [at40]
    by_cases e : j ≤ i
    · have : j = i := by omega
      subst this
      rw [if_pos (nI_le (by omega) (by omega))]
      simp (disch := omega) only [ok_chk, ok_keep, ok_some, nI_clamp, inb_nI, true_and]
      refine ⟨?_, ?_⟩
      · refine ⟨?_, by rw [hlen]; omega, fun t ht => ?_⟩
        · show upd (mSize m) k (mSize m k + 1) k = _
          rw [upd_s, h1, hlen]; exact nI_1 _
        · rw [hlen] at ht
          show _ = some (upd V (40 * k + j) v (40 * k + t), upd B (40 * k + j) b (40 * k + t))
          rw [List.getElem?_insertIdx]
          by_cases a1 : t < j
          · rw [if_pos a1, upd_o (by omega), upd_o (by omega), hV, hB, if_neg (by omega), if_neg (by omega), h3 t (by omega)]
          · by_cases a2 : t = j
            · subst a2; rw [if_neg a1, if_pos rfl, if_pos hi, upd_s, upd_s]
            · rw [if_neg a1, if_neg a2, upd_o (by omega), upd_o (by omega), hV, hB, if_pos (by omega), if_pos (by omega), h3 (t - 1) (by omega)]
              rw [show 40 * k + t - 1 = 40 * k + (t - 1) by omega]
      · refine ⟨upd V (40 * k + j) v, upd B (40 * k + j) b, upd (mSize m) k (mSize m k + 1), rfl, fun q hq => ?_, fun j hj => upd_o hj⟩
        unfold inK at hq
        rw [upd_o (by omega), upd_o (by omega), hV, hB, if_neg (by omega), if_neg (by omega)]
        exact ⟨rfl, rfl⟩
    · rw [if_neg (nI_ge (by omega) (by omega)), nI_s1 (by omega)]
      simp (disch := omega) only [ok_chk, ok_keep, ok_some, nI_clamp, nI_a1]
      refine ⟨inb_nI (by omega) (by omega), inb_nI (by omega) (by omega), inb_nI (by omega) (by omega), inb_nI (by omega) (by omega), ?_⟩
      refine hrec (j - 1 - i) _ (by omega) ⟨j - 1, upd V (40 * k + j) (V (40 * k + j - 1)), upd B (40 * k + j) (B (40 * k + j - 1)), rfl, by omega, by omega, ?_, fun q => ?_, fun q => ?_⟩
      · rw [show 40 * k + (j - 1) = 40 * k + j - 1 by omega]; rfl
      · by_cases e2 : q = 40 * k + j
        · subst e2; rw [upd_s, hV, if_neg (by omega), if_pos (by omega)]
        · rw [upd_o e2, hV]
          by_cases e3 : 40 * k + j < q ∧ q ≤ 40 * k + L.length
          · rw [if_pos e3, if_pos (by omega)]
          · rw [if_neg e3, if_neg (by omega)]
      · by_cases e2 : q = 40 * k + j
        · subst e2; rw [upd_s, hB, if_neg (by omega), if_pos (by omega)]
        · rw [upd_o e2, hB]
          by_cases e3 : 40 * k + j < q ∧ q ≤ 40 * k + L.length
          · rw [if_pos e3, if_pos (by omega)]
          · rw [if_neg e3, if_neg (by omega)]
  exact key
theorem mod_takesOut {m : MSt} {k : Nat} {L : LL} (hk : k < 16) (h : ML m k L) {i : Nat} (hi : i < L.length) : ∃ y, fX8_takesOut m (nI k) (nI i) = some (y, L[i].1) ∧ ML y k (L.eraseIdx i) ∧ Put k m y := by
  obtain ⟨h1, h2, h3⟩ := id h
  have hlen : (L.eraseIdx i).length = L.length - 1 := by rw [List.length_eraseIdx, if_pos hi]
  have key : Ok (fX8_takesOut m (nI k) (nI i)) (fun y => y.2 = L[i].1 ∧ ML y.1 k (L.eraseIdx i) ∧ Put k m y.1) := by
    unfold fX8_takesOut
    rw [at40, inb_nI (by omega) (by omega), chk_r, ok_keep, ok_keep, nI_clamp (by omega), (h.e hi).1]
    refine ok_iter (fun n s => ∃ j V B, n = L.length - j ∧ i ≤ j ∧ j < L.length ∧ s = (mBits_s (mValues_s m V) B, nI (40 * k + j)) ∧ (∀ q, V q = if 40 * k + i ≤ q ∧ q < 40 * k + j then mValues m (q + 1) else mValues m q) ∧ ∀ q, B q = if 40 * k + i ≤ q ∧ q < 40 * k + j then mBits m (q + 1) else mBits m q) _ ?_ FU (L.length - i) _ ⟨i, mValues m, mBits m, rfl, Nat.le_refl _, hi, rfl, fun q => by rw [if_neg (by omega)], fun q => by rw [if_neg (by omega)]⟩ (by unfold FU; omega)
    rintro n s rec ⟨j, V, B, hn, hij, hj, rfl, hV, hB⟩ hrec
    unfold fX8_takesOut_20
    simp only []
    rw [inb_nI hk (by omega), chk_r, nI_clamp (by omega), show mSize (mBits_s (mValues_s m V) B) k = mSize m k from rfl, h1, at40, nI_s1 (by omega)]
    by_cases e : 40 * k + L.length - 1 ≤ 40 * k + j
    · have ej : j = L.length - 1 := by omega
      rw [if_pos (nI_le e (by omega)), chk_r, chk_r, ok_keep, ok_some]
      refine ⟨rfl, ⟨?_, by rw [hlen]; omega, fun t ht => ?_⟩, ?_⟩
      · show upd (mSize m) k (nI L.length - 1) k = _
        rw [upd_s, hlen]; exact nI_s1 (by omega)
      · rw [hlen] at ht
        show _ = some (V (40 * k + t), B (40 * k + t))
        rw [List.getElem?_eraseIdx, hV, hB]
        by_cases a1 : t < i
        · rw [if_pos a1, if_neg (by omega), if_neg (by omega), h3 t (by omega)]
        · rw [if_neg a1, if_pos (by omega), if_pos (by omega), h3 (t + 1) (by omega)]; rfl
      · refine ⟨V, B, upd (mSize m) k (nI L.length - 1), rfl, fun q hq => ?_, fun j hj => upd_o hj⟩
        unfold inK at hq
        rw [hV, hB, if_neg (by omega), if_neg (by omega)]
        exact ⟨rfl, rfl⟩
    · rw [if_neg (nI_ge (by omega) (by omega)), nI_1]
      simp (disch := omega) only [ok_chk, ok_keep, ok_some, nI_clamp]
      refine ⟨inb_nI (by omega) (by omega), inb_nI (by omega) (by omega), inb_nI (by omega) (by omega), inb_nI (by omega) (by omega), ?_⟩
      refine hrec (L.length - (j + 1)) _ (by omega) ⟨j + 1, upd V (40 * k + j) (V (40 * k + j + 1)), upd B (40 * k + j) (B (40 * k + j + 1)), rfl, by omega, by omega, rfl, fun q => ?_, fun q => ?_⟩
      · by_cases e2 : q = 40 * k + j
        · subst e2; rw [upd_s, hV, if_neg (by omega), if_pos (by omega)]
        · rw [upd_o e2, hV]
          by_cases e3 : 40 * k + i ≤ q ∧ q < 40 * k + j
          · rw [if_pos e3, if_pos (by omega)]
          · rw [if_neg e3, if_neg (by omega)]
      · by_cases e2 : q = 40 * k + j
        · subst e2; rw [upd_s, hB, if_neg (by omega), if_pos (by omega)]
        · rw [upd_o e2, hB]
          by_cases e3 : 40 * k + i ≤ q ∧ q < 40 * k + j
          · rw [if_pos e3, if_pos (by omega)]
          · rw [if_neg e3, if_neg (by omega)]
  obtain ⟨⟨y, a⟩, e1, e2, e3⟩ := key
  dsimp only at e2
  subst e2
  exact ⟨y, e1, e3⟩
theorem mod_find {m : MSt} {k : Nat} {L : LL} (hk : k < 16) (h : ML m k L) (v : Int32) : fX8_find m (nI k) v = some (plc L v) := by
  obtain ⟨h1, h2, h3⟩ := id h
  apply ok_is
  unfold fX8_find
  rw [inb_nI hk (by omega), chk_r, ok_keep, nI_clamp (by omega), h1]
  -- j entries are left; what is found is the first behind them
  have fin : ∀ w, (w = -1 ∧ (∀ t (ht : t < L.length), 0 ≤ t → L[t].1 ≠ v) ∨ ∃ t, ∃ ht : t < L.length, w = nI t ∧ L[t].1 = v ∧ ∀ u (hu : u < L.length), 0 ≤ u → u < t → L[u].1 ≠ v) → w = plc L v := fun w hw => by
    rcases hw with ⟨rfl, hw⟩ | ⟨t, ht, rfl, ht2, ht3⟩
    · unfold plc fi
      rw [fi_none (fun j hj => decide_eq_false (hw j hj (Nat.zero_le _))), if_neg (Nat.lt_irrefl _)]
    · unfold plc fi
      rw [fi_at ht (decide_eq_true ht2) (fun j hj hjt => decide_eq_false (ht3 j hj (Nat.zero_le _) hjt)), if_pos ht]
  refine ok_iter (fun n s => ∃ j, n = j ∧ j ≤ L.length ∧ s.2 = nI j - 1 ∧ (s.1 = -1 ∧ (∀ t (ht : t < L.length), j ≤ t → L[t].1 ≠ v) ∨ ∃ t, ∃ ht : t < L.length, s.1 = nI t ∧ L[t].1 = v ∧ ∀ u (hu : u < L.length), j ≤ u → u < t → L[u].1 ≠ v)) _ ?_ FU L.length _ ⟨L.length, rfl, Nat.le_refl _, rfl, Or.inl ⟨rfl, fun t ht h => by omega⟩⟩ (by unfold FU; omega)
  rintro n ⟨w, v4⟩ rec ⟨j, hn, hj, e4, hw⟩ hrec
  dsimp only at e4 hw
  subst e4
  unfold fX8_find_12
  cases j with
  | zero =>
    simp only []
    rw [if_pos (show (nI 0 - 1) < 0 by decide), ok_some]
    exact fin w hw
  | succ j =>
    simp only []
    rw [nI_pred, if_neg (nI_pos (by omega)), at40, inb_nI (by omega) (by omega), chk_r, nI_clamp (by omega), (h.e (by omega : j < L.length)).1]
    have e1 : nI j + (-1) = nI j - 1 := (Int32.sub_eq_add_neg _ _).symm
    rw [keep_r, keep_r, e1]
    split
    · rename_i q
      exact hrec j _ (by omega) ⟨j, rfl, by omega, rfl, Or.inr ⟨j, by omega, rfl, q, fun u hu h1 h2 => by omega⟩⟩
    · rename_i q
      refine hrec j _ (by omega) ⟨j, rfl, by omega, rfl, ?_⟩
      rcases hw with ⟨e, hw⟩ | ⟨t, ht, e, ht2, ht3⟩
      · refine Or.inl ⟨e, fun t ht hjt => ?_⟩
        by_cases e2 : t = j
        · subst e2; exact q
        · exact hw t ht (by omega)
      · refine Or.inr ⟨t, ht, e, ht2, fun u hu hju hut => ?_⟩
        by_cases e2 : u = j
        · subst e2; exact q
        · exact ht3 u hu (by omega) hut

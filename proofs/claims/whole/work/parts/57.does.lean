/-! the reference does a row -/
def rowM (L : IA) (i : Nat) (r : RW) : Prop := L (6 * i) = wK r ∧ L (6 * i + 1) = wY r ∧ L (6 * i + 2) = wA r ∧ L (6 * i + 3) = wB r ∧ L (6 * i + 4) = wC r ∧ L (6 * i + 5) = wT r
theorem mod_row {m : MSt} {c : CK} {f : FK} {k i : Nat} {r : RW} (hk : k < 16) (hi : i < 300) (hL : rowM (mLog m) i r) (hy : wY r = nI k) (h : MR m k c f) (hc : okCK c) (hf : okF f) (hr : okR r c) (hnow : mNow m = wT r) :
    ∃ y, fX8_does m (nI (6 * i)) = some y ∧ MoP k m y (opC r c) (opF r c f) (mkB r c) := by
  obtain ⟨-, ht, hr⟩ := hr
  obtain ⟨ht1, ht2⟩ := isN_cl ht (by omega)
  obtain ⟨l0, l1, l2, l3, l4, l5⟩ := hL
  have i0 : inb (nI (6 * i)) 1800 = true := inb_nI (by omega) (by omega)
  have i1 : inb (nI (6 * i + 1)) 1800 = true := inb_nI (by omega) (by omega)
  have i2 : inb (nI (6 * i + 2)) 1800 = true := inb_nI (by omega) (by omega)
  have i3 : inb (nI (6 * i + 3)) 1800 = true := inb_nI (by omega) (by omega)
  have i4 : inb (nI (6 * i + 4)) 1800 = true := inb_nI (by omega) (by omega)
  have e1 : nI (6 * i) + 1 = nI (6 * i + 1) := nI_1 _
  have e2 : nI (6 * i) + 2 = nI (6 * i + 2) := nI_add _ 2
  have e3 : nI (6 * i) + 3 = nI (6 * i + 3) := nI_add _ 3
  have e4 : nI (6 * i) + 4 = nI (6 * i + 4) := nI_add _ 4
  unfold fX8_does
  simp only [e1, e2, e3, e4, i0, i1, i2, i3, i4, chk_r, keep_r]
  rw [nI_clamp (show 6 * i < 2 ^ 31 by omega), nI_clamp (show 6 * i + 1 < 2 ^ 31 by omega), nI_clamp (show 6 * i + 2 < 2 ^ 31 by omega), nI_clamp (show 6 * i + 3 < 2 ^ 31 by omega), nI_clamp (show 6 * i + 4 < 2 ^ 31 by omega), l0, l1, l2, l3, l4, hy]
  rcases hr with ⟨e, a1, a2, a3, a4⟩ | ⟨e, a1, a2, a3, a4, a5⟩ | ⟨e, a1, a2, a3, a4⟩ | ⟨e, a1, a2, a3, a4, a5⟩ | ⟨e, a1, a2, a3, a4⟩ | ⟨e, a1, a2, a3, a4⟩ | ⟨e, a1, a2, a3, a4, a5⟩ | ⟨e, a1, a2, a4, a5⟩ | ⟨e, a1, a2, a3, a4, a5⟩ | ⟨e, a1, a2, a3, a4⟩ | ⟨e, a2, a3, a4⟩
  · rw [opC_1 e, opF_1 e, mkB_t (by simp [e]), e, ← hnow, if_pos rfl]
    unfold fX8_does_56
    obtain ⟨y, y1, y2⟩ := mod_pushes (a := wA r) (b := wB r) hk h (by rw [hnow]; exact a4)
    rcases a2 with q | q
    · rw [if_neg (by rw [q]; decide)]
      rw [q] at y1 y2
      rw [y1, Option.bind_some, q]
      exact ⟨y, rfl, y2⟩
    · rw [if_pos q]
      rw [q] at y1 y2
      rw [y1, Option.bind_some, q]
      exact ⟨y, rfl, y2⟩
  · rw [opC_2 e, opF_o (by simp [e]), mkB_f (by simp [e]), e, if_neg (by decide), if_pos rfl]
    have h0 : 0 < (cL c).length := (ok_T hc (thC_T a4)).2.2.2.1 (by rw [a5]; decide)
    unfold fX8_does_81
    obtain ⟨y, y1, y2⟩ := mod_pops hk h a5 h0 (popI_lt (a := wA r) h0)
    rcases a1 with q | q
    · rw [if_neg (by rw [q]; decide), ← q, y1, Option.bind_some]
      exact ⟨y, rfl, y2⟩
    · rw [if_pos q, ← q, y1, Option.bind_some]
      exact ⟨y, rfl, y2⟩
  · rw [opC_3 e, opF_3 e, mkB_t (by simp [e]), e, ← hnow, if_neg (by decide), if_neg (by decide), if_pos rfl]
    obtain ⟨y, y1, y2⟩ := mod_adds hk h hc hf.2 (by rw [hnow]; exact a4)
    rw [y1, Option.bind_some]
    exact ⟨y, rfl, y2⟩
  · rw [opC_4 e, opF_o (by simp [e]), mkB_f (by simp [e]), e, if_neg (by decide), if_neg (by decide), if_neg (by decide), if_pos rfl]
    obtain ⟨y, y1, y2⟩ := mod_takes hk h (thC_T a4) (wA r)
    rw [y1, Option.bind_some]
    exact ⟨y, rfl, y2⟩
  · rw [opC_5 e, opF_5 e, mkB_t (by simp [e]), e, ← hnow, if_neg (by decide), if_neg (by decide), if_neg (by decide), if_neg (by decide), if_pos rfl]
    obtain ⟨y, y1, y2⟩ := mod_rates (b := wB r) hk h hc (by rw [hnow]; exact a4)
    rw [y1, Option.bind_some]
    exact ⟨y, rfl, y2⟩
  · rw [opC_6 e, opF_6 e, mkB_t (by simp [e]), e, ← hnow, if_neg (by decide), if_neg (by decide), if_neg (by decide), if_neg (by decide), if_neg (by decide), if_pos rfl]
    obtain ⟨y, y1, y2⟩ := mod_appends (a := wA r) hk h (by rw [hnow]; exact a4)
    rw [y1, Option.bind_some]
    exact ⟨y, rfl, y2⟩
  · obtain ⟨b1, b2⟩ := isN_cl a1 (by omega)
    obtain ⟨b3, b4⟩ := isN_cl a2 (by omega)
    rw [opC_7 e, opF_o (by simp [e]), mkB_f (by simp [e]), e, if_neg (by decide), if_neg (by decide), if_neg (by decide), if_neg (by decide), if_neg (by decide), if_neg (by decide), if_pos rfl]
    obtain ⟨y, y1, y2⟩ := mod_reads (now := cl (wT r)) hk h hc b2 b4 a5 (by rw [hnow]; exact ht1)
    rw [← b1, ← b3] at y1
    rw [y1, Option.bind_some]
    exact ⟨y, rfl, y2⟩
  · obtain ⟨b1, b2⟩ := isN_cl a1 (by omega)
    rw [opC_8 e, opF_o (by simp [e]), mkB_f (by simp [e]), e, if_neg (by decide), if_neg (by decide), if_neg (by decide), if_neg (by decide), if_neg (by decide), if_neg (by decide), if_neg (by decide), if_pos rfl]
    obtain ⟨y, y1, y2⟩ := mod_ends hk h hc b2 a5 (wB r)
    rw [← b1] at y1
    rw [y1, Option.bind_some]
    exact ⟨y, rfl, y2⟩
  · obtain ⟨b1, b2⟩ := isN_cl a1 (by omega)
    obtain ⟨b3, b4⟩ := isN_cl a2 (by omega)
    obtain ⟨b5, b6⟩ := isN_cl a3 (by omega)
    rw [opC_9 e, opF_o (by simp [e]), mkB_f (by simp [e]), e, if_neg (by decide), if_neg (by decide), if_neg (by decide), if_neg (by decide), if_neg (by decide), if_neg (by decide), if_neg (by decide), if_neg (by decide), if_pos rfl]
    obtain ⟨y, y1, y2⟩ := mod_claims (now := cl (wT r)) (ticks := cl (wC r)) hk h hc b2 b4 (by omega) a5 (by rw [hnow]; exact ht1) (by omega)
    rw [← b1, ← b3, ← b5] at y1
    rw [y1, Option.bind_some]
    exact ⟨y, rfl, y2⟩
  · rw [opC_10 e, opF_o (by simp [e]), mkB_f (by simp [e]), e, if_neg (by decide), if_neg (by decide), if_neg (by decide), if_neg (by decide), if_neg (by decide), if_neg (by decide), if_neg (by decide), if_neg (by decide), if_neg (by decide), if_pos rfl, inb_nI hk (by omega), chk_r, nI_clamp (by omega)]
    exact ⟨_, rfl, fr_Type _ (fun j hj => upd_o hj), ⟨upd_s, fun q => absurd rfl q⟩, rfl⟩
  · rw [opC_11 e, opF_o (by simp [e]), mkB_f (by simp [e]), e, if_neg (by decide), if_neg (by decide), if_neg (by decide), if_neg (by decide), if_neg (by decide), if_neg (by decide), if_neg (by decide), if_neg (by decide), if_neg (by decide), if_neg (by decide), inb_nI hk (by omega), chk_r, nI_clamp (by omega)]
    obtain ⟨q1, q2⟩ := h
    obtain ⟨w1, w2, w3, w4, w5⟩ := q2 (thC_T a4)
    exact ⟨_, rfl, fr_End _ (fun j hj => upd_o hj), ⟨q1, fun _ => ⟨upd_s, w2, w3, w4, w5⟩⟩, rfl⟩

/-! restart, the loops -/
def gr4 (g0 : GSt4) (R : List RW) (i : Nat) : GSt4 := (R.take i).foldl gst4 g0
theorem gr4_s {g0 : GSt4} {R : List RW} {i : Nat} (hi : i < R.length) : gr4 g0 R (i + 1) = gst4 (gr4 g0 R i) R[i] := by
  unfold gr4
  rw [List.take_succ_eq_append_getElem hi, List.foldl_append]; rfl
theorem gi_all {R : List RW} {lvi : Nat} {g0 : GSt4} (h : GI4 R lvi 0 g0) (hv : ∀ k, k < 16 → vldK k s00 R) (hy : ∀ i (hi : i < R.length), isN (wY R[i]) 16) : ∀ i, i ≤ R.length → GI4 R lvi i (gr4 g0 R i) := by
  intro i
  induction i with
  | zero => intro _; exact h
  | succ i ih =>
    intro hi
    rw [gr4_s (by omega)]
    exact gi_step (ih (by omega)) (by omega) hv (hy i (by omega))
theorem vr_none {v : VSt} {c : CK} {f : FK} (h : VR v c f) : VR (vlHeld_s v 0) (c00 0) f := ⟨h.1, Or.inl rfl, ⟨fun _ => rfl, fun _ => rfl⟩, fun q => absurd rfl q⟩
theorem keq_Now {m : MSt} {v : Int32} : KEq m (mNow_s m v) := ⟨rfl, rfl, rfl, rfl, rfl, rfl, rfl, rfl, rfl, rfl, rfl⟩
theorem RM4.keq {m y z : MSt} {g : GSt4} (h : RM4 m g y) (k : KEq y z) (e : mClock z = mClock y ∧ mSampled z = mSampled y ∧ mRows z = mRows y ∧ mLog z = mLog y ∧ mIsRewriting z = mIsRewriting y) : RM4 m g z := by
  obtain ⟨h1, h2, h3, h4, h5, h6⟩ := h
  obtain ⟨e1, e2, e3, e4, e5⟩ := e
  refine ⟨e1.trans h1, e2.trans h2, e3.trans h3, e4.trans h4, e5.trans h5, fun j hj => ?_⟩
  obtain ⟨a1, a2⟩ := h6 j hj
  exact ⟨a1.keq k, fun q => by rw [k.2.2.2.2.2.2.2.1]; exact a2 q⟩
section RST
variable {x : SSt} {m : MSt} {t : Nat} {cc : CC} {ff : Nat → FK} {E : EL} {Mf idf : Nat → Nat} {lvi : Nat}
theorem gi_start (h : I0 x m t cc ff E Mf idf lvi) : (∀ k, k < 16 → vldK k s00 (rws E)) ∧ (∀ i (hi : i < E.length), isN (wY E[i].1) 16) ∧ ∀ i, i ≤ E.length → GI4 (rws E) lvi i (gr4 (ff, Mf, idf, lvi, []) (rws E) i) := by
  obtain ⟨h1, h2, h3, h4, h5, h6, h7, h8, h9, h10, h11, h12, h13⟩ := h
  have hlE : (rws E).length = E.length := List.length_map _
  have hv : ∀ k, k < 16 → vldK k s00 (rws E) := fun k hk => (h10.1 k hk).1.1
  have hy : ∀ i (hi : i < E.length), isN (wY E[i].1) 16 := fun i hi => (h10.2 E[i] (List.getElem_mem hi)).2
  refine ⟨hv, hy, fun i hi => gi_all (g0 := (ff, Mf, idf, lvi, [])) ⟨rfl, Nat.le_refl _, (show ∀ e ∈ ([] : EL), e.2 ≤ lvi ∧ isN (wY e.1) 16 from fun e he => (nomatch he)), fun k hk => ⟨Or.inl rfl, (h7 k hk).2.2.2.1, fun q => absurd q (show ¬ (0 : Int32) = 1 by decide), (h11 k hk).2, ?_⟩⟩ hv (fun j hj => ?_) i (by omega)⟩
  · show LIk [] (Mf k) (idf k) 0 k (c00 0)
    exact LIk.none rfl ⟨0, by omega, rfl⟩ (fun e he => (nomatch he))
  · rw [show (rws E)[j] = (E[j]'(by omega)).1 from List.getElem_map _]
    exact hy j (by omega)
theorem cls_restart (h : I0 x m t cc ff E Mf idf lvi) : ∃ y, fX7_restart x = some (y, nI (cth (fun k => crn k (gP4 (gr4 (ff, Mf, idf, lvi, []) (rws E) E.length))) (nI t) 16)) ∧ sClk y = nI t ∧ RC4 x E E.length (gr4 (ff, Mf, idf, lvi, []) (rws E) E.length) y := by
  obtain ⟨hv, hy, hG⟩ := gi_start h
  obtain ⟨h1, h2, h3, h4, h5, h6, h7, h8, h9, h10, h11, h12, h13⟩ := h
  have hlE : (rws E).length = E.length := List.length_map _
  have h300 := h8.2.1
  generalize hg : gr4 (ff, Mf, idf, lvi, []) (rws E) = gr at *
  have hg0 : gr 0 = (ff, Mf, idf, lvi, []) := by rw [← hg]; rfl
  have hgs : ∀ i (hi : i < E.length), gr (i + 1) = gst4 (gr i) E[i].1 := fun i hi => by
    rw [← hg, gr4_s (by omega), show (rws E)[i]'(by omega) = E[i].1 from List.getElem_map _]
  have key : Ok (fX7_restart x) (fun r => r.2 = nI (cth (fun k => crn k (gP4 (gr E.length))) (nI t) 16) ∧ sClk r.1 = nI t ∧ RC4 x E E.length (gr E.length) r.1) := by
    unfold fX7_restart
    rw [ok_keep, h2, ok_keep]
    obtain ⟨x1, hx1⟩ : ∃ z, z = sKtw_s x (-1) := ⟨_, rfl⟩
    rw [← hx1]
    have a1 : sKtw x1 = -1 := by rw [hx1]; rfl
    have a2 : sLs x1 = sLs x := by rw [hx1]; rfl
    have a3 : sLog x1 = sLog x := by rw [hx1]; rfl
    have a4 : sLvi x1 = nI lvi := by rw [hx1]; exact h12
    have a5 : sV x1 = sV x := by rw [hx1]; rfl
    clear hx1
    refine ok_iter (fun n s => ∃ i V, n = 16 - i ∧ i ≤ 16 ∧ s = (sV_s x1 V, nI i) ∧ (∀ j, j < i → V j = vlHeld_s (sV x j) 0) ∧ ∀ j, i ≤ j → V j = sV x j) _ ?_ FU 16 _ ⟨0, sV x1, rfl, by omega, rfl, fun j hj => absurd hj (Nat.not_lt_zero j), fun j _ => by rw [a5]⟩ (by unfold FU; omega)
    rintro n s rec ⟨i, V, hn, hi, rfl, hV, hV2⟩ hrec
    unfold fX7_restart_12
    dsimp only
    rw [d16]
    by_cases e : 16 ≤ i
    · rw [if_pos (nI_le e (by omega))]
      obtain ⟨x2, hx2⟩ : ∃ z, z = sV_s x1 V := ⟨_, rfl⟩
      rw [← hx2]
      have b0 : RC4 x E 0 (gr 0) x2 := by
        rw [hg0]
        refine ⟨by rw [hx2]; exact a1, by rw [hx2]; exact a2, ?_, by rw [hx2]; exact a4, fun k hk => ?_⟩
        · rw [show sLog x2 = sLog x by rw [hx2]; exact a3]; exact h8
        · rw [show sV x2 k = vlHeld_s (sV x k) 0 by rw [hx2]; exact hV k (by omega)]
          exact ⟨vr_none (h7 k hk).1, (h11 k hk).1⟩
      clear hx2
      refine ok_iter (fun n s => ∃ i, n = E.length - i ∧ i ≤ E.length ∧ s.2 = nI i ∧ RC4 x E i (gr i) s.1) _ ?_ FU E.length _ ⟨0, rfl, by omega, rfl, b0⟩ (by unfold FU; omega)
      rintro n2 ⟨y, v⟩ rec2 ⟨i2, hn2, hi2, hv2, hy2⟩ hrec2
      dsimp only at hv2 hy2
      subst hv2
      unfold fX7_restart_36
      dsimp only
      have hGi := hG i2 hi2
      have hPl : (gP4 (gr i2)).length = i2 := by
        have := congrArg List.length hGi.1
        rw [List.length_take, hlE, show (rws (gP4 (gr i2))).length = (gP4 (gr i2)).length from List.length_map _] at this
        omega
      have hlo : loN (sLog y) = nI E.length := by
        rw [hy2.2.2.1.1, List.length_append, List.length_drop, hPl]
        congr 1; omega
      rw [hlo]
      by_cases e2 : E.length ≤ i2
      · have : i2 = E.length := by omega
        subst this
        rw [if_pos (nI_le e2 (by omega)), ok_keep]
        obtain ⟨c1, c2, c3, c4, c5⟩ := hy2
        obtain ⟨y3, hy3⟩ : ∃ z, z = sClk_s y (nI t) := ⟨_, rfl⟩
        have d1' : sClk y3 = nI t := by rw [hy3]; rfl
        have d2' : RC4 x E E.length (gr E.length) y3 := by
          rw [hy3]; exact ⟨c1, c2, c3, c4, c5⟩
        rw [← hy3]
        clear hy3
        refine ok_iter (fun n s => ∃ i, n = 16 - i ∧ i ≤ 16 ∧ s = (nI (cth (fun k => crn k (gP4 (gr E.length))) (nI t) i), nI i)) _ ?_ FU 16 _ ⟨0, rfl, by omega, rfl⟩ (by unfold FU; omega)
        rintro n3 s rec3 ⟨i3, hn3, hi3, rfl⟩ hrec3
        unfold fX7_restart_67
        dsimp only
        rw [d16]
        by_cases e3 : 16 ≤ i3
        · rw [if_pos (nI_le e3 (by omega)), ok_some, show i3 = 16 by omega]
          exact ⟨rfl, d1', d2'⟩
        · rw [if_neg (nI_ge (by omega) (by omega)), nI_clamp (by omega), decide_eq_true (show i3 < 16 by omega), chk_r, c_there (by omega) (show VR (fV (foc i3 y3)) _ _ from (d2'.2.2.2.2 i3 (by omega)).1), Option.bind_some, show fClk (foc i3 y3) = nI t from d1']
          by_cases e4 : thC (crn i3 (gP4 (gr E.length))) (nI t) = true
          · rw [e4, if_neg (show ¬ b2i true = 0 by decide), ok_keep, ok_keep, nI_1, nI_1]
            exact hrec3 (16 - (i3 + 1)) _ (by omega) ⟨i3 + 1, rfl, by omega, by rw [cth_s, if_pos e4]⟩
          · have e4' : thC (crn i3 (gP4 (gr E.length))) (nI t) = false := by simpa using e4
            rw [e4', if_pos (show b2i false = 0 by decide), ok_keep, nI_1]
            exact hrec3 (16 - (i3 + 1)) _ (by omega) ⟨i3 + 1, rfl, by omega, by rw [cth_s, if_neg e4]; rfl⟩
      · obtain ⟨q1, z, q2, q3⟩ := cls_again hGi (by omega) hv (hy i2 (by omega)) hy2
        have y2' := (isN_cl (hy i2 (by omega)) (by omega)).2
        rw [if_neg (nI_ge (by omega) (by omega)), q1, decide_eq_true y2', chk_r, q2, Option.bind_some, ok_keep, ok_keep, nI_1]
        refine hrec2 (E.length - (i2 + 1)) _ (by omega) ⟨i2 + 1, rfl, by omega, rfl, ?_⟩
        rw [hgs i2 (by omega)]
        exact q3
    · rw [if_neg (nI_ge (by omega) (by omega)), inb_nI (by omega) (by omega), chk_r, nI_clamp (by omega), ok_keep, ok_keep, nI_1]
      refine hrec (16 - (i + 1)) _ (by omega) ⟨i + 1, vup V i (vlHeld_s (V i) 0), rfl, by omega, rfl, fun j hj => ?_, fun j hj => ?_⟩
      · by_cases e4 : j = i
        · subst e4; rw [vup_s, hV2 j (Nat.le_refl _)]
        · rw [vup_o e4]; exact hV j (by omega)
      · rw [vup_o (by omega)]; exact hV2 j (by omega)
  obtain ⟨⟨y, r⟩, y1, y2, y3⟩ := key
  dsimp only at y2 y3
  subst y2
  exact ⟨y, y1, y3⟩
theorem mod_restart (h : I0 x m t cc ff E Mf idf lvi) : ∃ y, fX8_restart m = some (y, nI (cth (fun k => crn k (gP4 (gr4 (ff, Mf, idf, lvi, []) (rws E) E.length))) (nI t) 16)) ∧ mNow y = nI t ∧ RM4 m (gr4 (ff, Mf, idf, lvi, []) (rws E) E.length) y := by
  obtain ⟨hv, hy, hG⟩ := gi_start h
  obtain ⟨h1, h2, h3, h4, h5, h6, h7, h8, h9, h10, h11, h12, h13⟩ := h
  have hlE : (rws E).length = E.length := List.length_map _
  have h300 := h8.2.1
  generalize hg : gr4 (ff, Mf, idf, lvi, []) (rws E) = gr at *
  have hg0 : gr 0 = (ff, Mf, idf, lvi, []) := by rw [← hg]; rfl
  have hgs : ∀ i (hi : i < E.length), gr (i + 1) = gst4 (gr i) E[i].1 := fun i hi => by
    rw [← hg, gr4_s (by omega), show (rws E)[i]'(by omega) = E[i].1 from List.getElem_map _]
  have key : Ok (fX8_restart m) (fun r => r.2 = nI (cth (fun k => crn k (gP4 (gr E.length))) (nI t) 16) ∧ mNow r.1 = nI t ∧ RM4 m (gr E.length) r.1) := by
    unfold fX8_restart
    rw [ok_keep]
    obtain ⟨m1, hm1⟩ : ∃ z, z = mThrown_s m 0 := ⟨_, rfl⟩
    rw [← hm1, ok_keep]
    have a1 : mClock m1 = mClock m := by rw [hm1]; rfl
    have a2 : mSampled m1 = mSampled m := by rw [hm1]; rfl
    have a3 : mRows m1 = mRows m := by rw [hm1]; rfl
    have a4 : mLog m1 = mLog m := by rw [hm1]; rfl
    clear hm1
    obtain ⟨m2, hm2⟩ : ∃ z, z = mIsRewriting_s m1 0 := ⟨_, rfl⟩
    rw [← hm2]
    have b1 : mClock m2 = mClock m := by rw [hm2]; exact a1
    have b2 : mSampled m2 = mSampled m := by rw [hm2]; exact a2
    have b3 : mRows m2 = mRows m := by rw [hm2]; exact a3
    have b4 : mLog m2 = mLog m := by rw [hm2]; exact a4
    have b5 : mIsRewriting m2 = 0 := by rw [hm2]; rfl
    clear hm2 a1 a2 a3 a4
    refine ok_iter (fun n s => ∃ i A, n = 16 - i ∧ i ≤ 16 ∧ s = (mType_s m2 A, nI i) ∧ ∀ j, j < i → A j = 0) _ ?_ FU 16 _ ⟨0, mType m2, rfl, by omega, rfl, fun j hj => absurd hj (Nat.not_lt_zero j)⟩ (by unfold FU; omega)
    rintro n s rec ⟨i, A, hn, hi, rfl, hA⟩ hrec
    unfold fX8_restart_12
    dsimp only
    rw [d16]
    by_cases e : 16 ≤ i
    · rw [if_pos (nI_le e (by omega))]
      obtain ⟨m3, hm3⟩ : ∃ z, z = mType_s m2 A := ⟨_, rfl⟩
      rw [← hm3]
      have c0 : RM4 m (gr 0) m3 := by
        rw [hg0]
        refine ⟨by rw [hm3]; exact b1, by rw [hm3]; exact b2, by rw [hm3]; exact b3, by rw [hm3]; exact b4, by rw [hm3]; exact b5, fun k hk => ⟨⟨?_, fun q => absurd rfl q⟩, fun q => absurd rfl q⟩⟩
        rw [hm3]
        exact hA k (by omega)
      clear hm3
      refine ok_iter (fun n s => ∃ i, n = E.length - i ∧ i ≤ E.length ∧ s.2 = nI i ∧ RM4 m (gr i) s.1) _ ?_ FU E.length _ ⟨0, rfl, by omega, rfl, c0⟩ (by unfold FU; omega)
      rintro n2 ⟨y, v⟩ rec2 ⟨i2, hn2, hi2, hv2, hy2⟩ hrec2
      dsimp only at hv2 hy2
      subst hv2
      unfold fX8_restart_33
      dsimp only
      rw [hy2.2.2.1, h9.1, hlE]
      by_cases e2 : E.length ≤ i2
      · have : i2 = E.length := by omega
        subst this
        rw [if_pos (nI_le e2 (by omega)), ok_keep, hy2.1, h3]
        obtain ⟨y3, hy3⟩ : ∃ z, z = mNow_s y (nI t) := ⟨_, rfl⟩
        have d1' : mNow y3 = nI t := by rw [hy3]; rfl
        have d2' : RM4 m (gr E.length) y3 := by
          rw [hy3]; exact hy2.keq keq_Now ⟨rfl, rfl, rfl, rfl, rfl⟩
        rw [← hy3]
        clear hy3
        refine ok_iter (fun n s => ∃ i, n = 16 - i ∧ i ≤ 16 ∧ s = (nI (cth (fun k => crn k (gP4 (gr E.length))) (nI t) i), nI i)) _ ?_ FU 16 _ ⟨0, rfl, by omega, rfl⟩ (by unfold FU; omega)
        rintro n3 s rec3 ⟨i3, hn3, hi3, rfl⟩ hrec3
        unfold fX8_restart_87
        dsimp only
        rw [d16]
        by_cases e3 : 16 ≤ i3
        · rw [if_pos (nI_le e3 (by omega)), ok_some, show i3 = 16 by omega]
          exact ⟨rfl, d1', d2'⟩
        · rw [if_neg (nI_ge (by omega) (by omega)), mod_isThere (by omega) (d2'.2.2.2.2.2 i3 (by omega)).1, Option.bind_some, d1']
          by_cases e4 : thC (crn i3 (gP4 (gr E.length))) (nI t) = true
          · rw [e4, if_neg (show ¬ b2i true = 0 by decide), ok_keep, ok_keep, nI_1, nI_1]
            exact hrec3 (16 - (i3 + 1)) _ (by omega) ⟨i3 + 1, rfl, by omega, by rw [cth_s, if_pos e4]⟩
          · have e4' : thC (crn i3 (gP4 (gr E.length))) (nI t) = false := by simpa using e4
            rw [e4', if_pos (show b2i false = 0 by decide), ok_keep, ok_keep, show (0 : Int32) = nI 0 from rfl, nI_add, nI_1]
            exact hrec3 (16 - (i3 + 1)) _ (by omega) ⟨i3 + 1, rfl, by omega, by rw [cth_s, if_neg e4]⟩
      · rw [if_neg (nI_ge (by omega) (by omega)), ok_keep]
        obtain ⟨y1, hy1⟩ : ∃ z, z = mWriting_s y (nI i2) := ⟨_, rfl⟩
        have w1 : RM4 m (gr i2) y1 := by rw [hy1]; exact hy2.keq seq_Writing.1 ⟨rfl, rfl, rfl, rfl, rfl⟩
        have w2 : mWriting y1 = nI i2 := by rw [hy1]; rfl
        rw [← hy1]
        clear hy1
        have hrow := (h9.2 i2 (by omega)).2.2.2.2.2
        rw [show (rws E)[i2]'(by omega) = (E[i2]'(by omega)).1 from List.getElem_map _] at hrow
        rw [d6, pk_mul, d5, nI_add, inb_nI (show 6 * i2 + 5 < 1800 by omega) (by omega), chk_r, nI_clamp (show 6 * i2 + 5 < 2 ^ 31 by omega), w1.2.2.2.1, hrow, ok_keep]
        obtain ⟨y4, hy4⟩ : ∃ z, z = mNow_s y1 (wT (E[i2]'(by omega)).1) := ⟨_, rfl⟩
        have w3 : RM4 m (gr i2) y4 := by rw [hy4]; exact w1.keq keq_Now ⟨rfl, rfl, rfl, rfl, rfl⟩
        have w4 : mWriting y4 = nI i2 := by rw [hy4]; exact w2
        have w5 : mNow y4 = wT (E[i2]'(by omega)).1 := by rw [hy4]; rfl
        rw [← hy4]
        clear hy4
        obtain ⟨z, q1, q2⟩ := mod_again (hG i2 hi2) (by omega) h300 hv (hy i2 (by omega)) h9 w3 w4 w5
        rw [q1, Option.bind_some, ok_keep, ok_keep, nI_1]
        refine hrec2 (E.length - (i2 + 1)) _ (by omega) ⟨i2 + 1, rfl, by omega, rfl, ?_⟩
        rw [hgs i2 (by omega)]
        exact q2
    · rw [if_neg (nI_ge (by omega) (by omega)), inb_nI (by omega) (by omega), chk_r, nI_clamp (by omega), ok_keep, ok_keep, nI_1]
      refine hrec (16 - (i + 1)) _ (by omega) ⟨i + 1, upd A i 0, rfl, by omega, rfl, fun j hj => ?_⟩
      by_cases e4 : j = i
      · subst e4; exact upd_s
      · rw [upd_o e4]; exact hA j (by omega)
  obtain ⟨⟨y, r⟩, y1, y2, y3⟩ := key
  dsimp only at y2 y3
  subst y2
  exact ⟨y, y1, y3⟩
theorem sim_restart (h : IV x m t cc ff E Mf idf lvi) : ∃ y z v, fX7_restart x = some (y, v) ∧ fX8_restart m = some (z, v) ∧ IVx y z (lvi + 301) := by
  obtain ⟨y, y0, y1, y2, y3, y4, y5, y6⟩ := cls_restart h.1
  obtain ⟨z, z0, z1, z2, z3, z4, z5, z6, z7⟩ := mod_restart h.1
  obtain ⟨hv, hy, hG⟩ := gi_start h.1
  obtain ⟨⟨h1, h2, h3, h4, h5, h6, h7, h8, h9, h10, h11, h12, h13⟩, hrw⟩ := h
  have hlE : (rws E).length = E.length := List.length_map _
  have hg := hG E.length (Nat.le_refl _)
  obtain ⟨g, hgd⟩ : ∃ g, g = gr4 (ff, Mf, idf, lvi, []) (rws E) E.length := ⟨_, rfl⟩
  rw [← hgd] at y0 y4 y5 y6 z0 z7 hg
  obtain ⟨g1, g2, g3, g4⟩ := hg
  have hR : rws (gP4 g) = rws E := by rw [g1, List.take_of_length_le (by omega)]
  have h300 := h8.2.1
  rw [List.drop_length, List.append_nil] at y4
  refine ⟨y, z, _, y0, z0, t, fun k => crn k (gP4 g), gF4 g, gP4 g, gM4 g, gI4 g, gL4 g, by omega, ⟨h1, y1, z2.trans h3, z1, by rw [z3, y3]; exact h5, by rw [y3]; exact h6, fun k hk => ?_, y4, by rw [z5, z4, hR]; exact h9, ⟨fun k hk => ?_, g3⟩, fun k hk => ?_, y5, fun k hk a b => ?_⟩, Or.inl ⟨y2, z6⟩⟩
  · obtain ⟨a1, a2, a3, a4, a5⟩ := g4 k hk
    exact ⟨(y6 k hk).1, (z7 k hk).1, a1, a2, a3⟩
  · obtain ⟨a1, a2, a3, a4, a5⟩ := g4 k hk
    refine a5.tick ?_
    rw [hR]
    exact (h10.1 k hk).1.2.1
  · obtain ⟨a1, a2, a3, a4, a5⟩ := g4 k hk
    exact ⟨(y6 k hk).2, a4⟩
  · exact (z7 k hk).2 (thC_T a)
end RST

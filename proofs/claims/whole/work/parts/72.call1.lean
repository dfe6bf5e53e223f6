/-! push, pop -/
theorem mod_pu89 {m : MSt} {p1 p2 p3 u : Int32} (h : u ≠ 0) : fX8_push_89 m p1 p2 p3 u = some (mThrown_s m u, 0) := by
  unfold fX8_push_89
  rw [can_eq, Option.bind_some, keep_r]
  dsimp only
  rw [if_neg h, if_pos rfl]
theorem tyN_or {c : CK} {now t : Int32} (e : tyN c now = 0 ∨ tyN c now = t) : thC c now = true → cT c = t := fun q => by
  unfold tyN at e
  rw [if_pos q] at e
  rcases e with w | w
  · exact absurd w (thC_T q)
  · exact w
theorem sim_push {x : SSt} {m : MSt} {t : Nat} {cc : CC} {ff : Nat → FK} {E : EL} {Mf idf : Nat → Nat} {lvi : Nat} (h : IV x m t cc ff E Mf idf lvi) (p1 p2 : Int32) {p3 : Int32} (hb : bit p3) :
    Sim1 [0, 1, 2] mpA (fk p1) x (lvi + 1) (fX7_push (fk p1) (foc (fk p1) x) p1 p2 p3) (fX8_push m p1 p2 p3) := by
  obtain ⟨⟨h1, h2, h3, h4, h5, h6, h7, h8, h9, h10, h11, h12, h13⟩, hrw⟩ := id h
  have h300 := h8.2.1
  by_cases hK : isN p1 16
  · obtain ⟨k1, k2, k3, k4, k5⟩ := key_in hK
    rw [k3]
    generalize cl p1 = k at *
    obtain ⟨b1, b2, b3, b4, b5⟩ := h7 k k5
    have hT := mod_typeNow k5 b2
    have hfc : fClk (foc k x) = nI t := h2
    have hfV : VR (fV (foc k x)) (cc k) (ff k) := b1
    unfold fX7_push fX8_push
    rw [k1, Option.bind_some, thrL, k2, Option.bind_some, if_neg (show ¬ (1 : Int32) = 0 by decide), k4, hT, Option.bind_some]
    by_cases hV : isV p2
    · obtain ⟨v1, v2⟩ := val_in hV
      rw [v1, Option.bind_some, thrL]
      by_cases hA : tyN (cc k) (nI t) = 0 ∨ tyN (cc k) (nI t) = 1
      · rw [c_ta_y k5 hfV (by rw [hfc]; exact hA), Option.bind_some, thrL]
        have hA2 := tyN_or hA
        by_cases hR : thC (cc k) (nI t) = true → (cL (cc k)).length < 40
        · rw [c_room_y k5 hfV (by rw [hfc]; exact hR), Option.bind_some, thrL]
          -- the reference comes to whether the log is full
          have hm : ∀ u : Int32, fX8_push_44 m (nI k) p2 p3 1 = some (mThrown_s m u, u) ∨ True → fX8_push_20 m (nI k) p2 p3 1 (tyN (cc k) (mNow m)) = fX8_push_44 m (nI k) p2 p3 1 := fun _ _ => by
            unfold fX8_push_20
            rw [h4]
            by_cases e0 : tyN (cc k) (nI t) = 0
            · rw [if_pos e0]
            · have e1 : tyN (cc k) (nI t) = 1 := by rcases hA with q | q; exact absurd q e0; exact q
              have eth : thC (cc k) (nI t) = true := by
                unfold tyN at e0
                split at e0
                · assumption
                · exact absurd rfl e0
              rw [if_neg e0, if_pos e1, inb_nI k5 (by omega), chk_r, nI_clamp (by omega), (b2.ml (thC_T eth)).1, d40, if_neg (nI_ge (hR eth) (by omega))]
          rw [hm 0 (Or.inr trivial)]
          unfold fX8_push_44 fX8_push_49
          rw [if_neg (show ¬ (1 : Int32) = 0 by decide), v2, Option.bind_some, if_neg (show ¬ (1 : Int32) = 0 by decide), if_neg (show ¬ (1 : Int32) = 0 by decide), full_eq h9 h300, Option.bind_some]
          by_cases hL : E.length < 300
          · rw [c_row_y (F := foc k x) h8 hL, Option.bind_some, thrL, if_pos hL, if_pos rfl]
            -- it is done
            obtain ⟨m0, hm0⟩ : ∃ z, z = mThrown_s m 0 := ⟨_, rfl⟩
            have hI0 : IV x m0 t cc ff E Mf idf lvi := by rw [hm0]; exact iv_seq h seq_Thrown
            have hth : mThrown m0 = 0 := by rw [hm0]; rfl
            have hnow : mNow m0 = nI t := hI0.1.2.2.2.1
            have hok : thC (cc k) (mNow m0) = true → cT (cc k) = 1 ∧ (cL (cc k)).length < 40 := by rw [hnow]; exact fun q => ⟨hA2 q, hR q⟩
            have hr : okR (1, nI k, p2, p3, 0, nI t) (cc k) := ⟨⟨k, k5, rfl⟩, ⟨t, by omega, rfl⟩, Or.inl ⟨rfl, hV, hb, rfl, fun q => ⟨hA2 q, hR q⟩⟩⟩
            obtain ⟨y, y1, y2⟩ := cls_push (x := foc k x) (a := p2) (b := p3) k5 hfV 0 hb (by rw [hfc]; exact fun q => ⟨hA2 q, hR q⟩)
            obtain ⟨z, z1, z2⟩ := mod_pushes (m := m0) (a := p2) (b := p3) k5 (hI0.1.2.2.2.2.2.2.1 k k5).2.1 hok
            rw [hfc] at y1 y2
            rw [hnow] at z1 z2
            have hmk : mkB (1, nI k, p2, p3, 0, nI t) (cc k) = !thC (cc k) (nI t) := mkB_t (Or.inl rfl)
            rw [← hmk] at y2 z2
            have hw : opC (1, nI k, p2, p3, 0, nI t) (cc k) = pshC p2 p3 (nI t) (cc k) := rfl
            have hwf : opF (1, nI k, p2, p3, 0, nI t) (cc k) (ff k) = pshF p2 (nI t) (cc k) (ff k) := rfl
            have hid : vlId (fV y) = nI (if mkB (1, nI k, p2, p3, 0, nI t) (cc k) = true then lvi + 1 else idf k) := by
              rw [y2.2.2.1]
              split
              · show sLvi x + 1 = _; rw [h12, nI_1]
              · exact (h11 k k5).1
            obtain ⟨lo, lo1, lo2⟩ := cls_23 (y := y) (r := (1, nI k, p2, p3, 0, nI t)) k5 (by rw [y2.1.2.2.2.2.1]; exact h8) hL hid (y2.1.2.2.1.trans hfc) rfl (nI (cL (pshC p2 p3 (nI t) (cc k))).length)
            have hcall : fX7_call k (foc k x) 1 (nI k) p2 p3 0 = some (fLog_s y lo, nI (cL (pshC p2 p3 (nI t) (cc k))).length) := by
              unfold fX7_call
              rw [y1, Option.bind_some, keep_r, keep_r, if_pos (by decide)]
              exact lo1
            have hlz : LogM (mLog z) (mRows z) (rws E) := by
              have e := msc_e z2.1.1
              rw [e.2.2.2.2.2.1, e.2.2.2.1]; exact hI0.1.2.2.2.2.2.2.2.2.1
            have hcz : mClock z = nI t := (msc_e z2.1.1).1.trans hI0.1.2.2.1
            have hl3 : (rws E).length < 300 := by rw [show (rws E).length = E.length from List.length_map _]; exact hL
            obtain ⟨L, l1, l2⟩ := mod_writes hlz hl3 1 (nI k) p2 p3 0
            have hpush : fX8_push_89 m (nI k) p2 p3 0 = some (mRows_s (mLog_s z L) (nI ((rws E).length + 1)), nI (cL (pshC p2 p3 (nI t) (cc k))).length) := by
              unfold fX8_push_89 fX8_push_119
              rw [can_eq, Option.bind_some, keep_r]
              dsimp only
              rw [if_pos rfl, if_neg (by decide), ← hm0, z1, Option.bind_some, keep_r, keep_r]
              rcases hb with q | q
              · rw [if_pos q]; rw [q] at l1 ⊢; rw [l1, Option.bind_some, keep_r]
              · rw [if_neg (by rw [q]; decide)]; rw [q] at l1 ⊢; rw [l1, Option.bind_some, keep_r]
            rw [hpush]
            rw [hcz] at l2
            refine ⟨fLog_s y lo, .inl (nI (cL (pshC p2 p3 (nI t) (cc k))).length), _, _, ?_, rfl, ?_, fun v q => ?_, fun n q => by cases q⟩
            · unfold fX7_push_36
              rcases hb with q | q
              · have : fX7_call k (foc k x) 1 (nI k) p2 0 0 = fX7_call k (foc k x) 1 (nI k) p2 p3 0 := by rw [q]
                rw [if_pos q, this, hcall, Option.bind_some, keep_r]
              · rw [if_neg (by rw [q]; decide)]
                have : fX7_call k (foc k x) 1 (nI k) p2 1 0 = fX7_call k (foc k x) 1 (nI k) p2 p3 0 := by rw [q]
                rw [this, hcall, Option.bind_some, keep_r]
            · refine ⟨t, _, _, _, _, _, _, ?_, iv_row k5 hI0 hr rfl rfl y2 lo2 z2 (fun q => absurd (show (1 : Int32) = 6 from q) (by decide)) rfl l2⟩
              split <;> omega
            · cases q
              refine ⟨?_, rfl⟩
              show mThrown z = 0
              exact (msc_e z2.1.1).2.2.2.2.2.2.2.2.2.2.2.2.trans hth
          · rw [c_row_n (F := foc k x) h8 hL, Option.bind_some, thrR, if_neg hL, if_neg (by decide)]
            refine sim_fail h rfl (u := 3) (b := 0) ?_ (by decide) rfl
            unfold fX8_push_88; exact mod_pu89 (by decide)
        · rw [c_room_n k5 hfV b3 (by rw [hfc]; exact hR), Option.bind_some, thrR]
          obtain ⟨eth, e40⟩ := Classical.not_imp.mp hR
          have hcap := (ok_T b3 (thC_T eth)).2.2.1
          have e1 : tyN (cc k) (nI t) = 1 := by unfold tyN; rw [if_pos eth]; exact hA2 eth
          refine sim_fail h rfl (u := 3) (b := 0) ?_ (by decide) rfl
          unfold fX8_push_20
          rw [h4, e1, if_neg (by decide), if_pos rfl, inb_nI k5 (by omega), chk_r, nI_clamp (by omega), (b2.ml (thC_T eth)).1, d40, if_pos (nI_le (by omega) (by omega))]
          unfold fX8_push_48 fX8_push_49 fX8_push_88
          rw [if_neg (by decide), v2, Option.bind_some, if_neg (by decide), if_pos rfl]
          exact mod_pu89 (by decide)
      · rw [c_ta_n k5 hfV (by rw [hfc]; exact hA), Option.bind_some, thrR]
        refine sim_fail h rfl (u := 3) (b := 0) ?_ (by decide) rfl
        unfold fX8_push_20
        rw [h4, if_neg (fun q => hA (Or.inl q)), if_neg (fun q => hA (Or.inr q))]
        unfold fX8_push_48 fX8_push_49 fX8_push_88
        rw [if_neg (by decide), v2, Option.bind_some, if_neg (by decide), if_pos rfl]
        exact mod_pu89 (by decide)
    · obtain ⟨v1, v2⟩ := val_out hV
      rw [v1, Option.bind_some, thrR]
      refine sim_fail h rfl (u := 2) (b := 0) ?_ (by decide) rfl
      have : ∀ s0 : Int32, fX8_push_49 m (nI k) p2 p3 1 s0 = some (mThrown_s m 2, 0) := fun s0 => by
        unfold fX8_push_49
        rw [if_neg (by decide), v2, Option.bind_some, if_pos rfl]
        exact mod_pu89 (by decide)
      unfold fX8_push_20 fX8_push_48 fX8_push_44
      rw [inb_nI k5 (by omega), chk_r]
      simp only [this, ite_self]
  · obtain ⟨k1, k2⟩ := key_out hK
    unfold fX7_push fX8_push
    rw [k1, Option.bind_some, thrR, k2, Option.bind_some, if_pos rfl]
    refine sim_fail h rfl (u := 1) (b := 0) ?_ (by decide) rfl
    unfold fX8_push_20 fX8_push_44 fX8_push_49
    rw [if_pos rfl, if_pos rfl]
    exact mod_pu89 (by decide)

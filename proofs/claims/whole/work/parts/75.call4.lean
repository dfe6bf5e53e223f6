/-! read, done, claim, remove, expire -/
theorem grp_in {p : Int32} (h : isN p 3) : fX7_needGroup p = some (.inl 0) ∧ fX8_isIn p 0 2 = some 1 ∧ p = nI (cl p) ∧ cl p < 3 := by
  obtain ⟨h1, h2⟩ := isN_cl h (by omega)
  refine ⟨?_, ?_, h1, h2⟩
  · unfold fX7_needGroup
    rw [h1, isg_N h2, Option.bind_some, if_neg one_ne0]
  · exact (within_in ((wi_N (b := 2) (by omega)).mpr h)).2
theorem grp_out {p : Int32} (h : ¬ isN p 3) : fX7_needGroup p = some (.inr 0) ∧ fX8_isIn p 0 2 = some 0 := by
  have h2 : p < 0 ∨ nI 2 < p := Classical.byContradiction (fun q => h ((wi_N (by omega)).mp q))
  refine ⟨?_, (within_out h2).2⟩
  unfold fX7_needGroup
  rw [isg_f h2, Option.bind_some, if_pos rfl]
theorem rdr_in {p : Int32} (h : isN p 4) : fX7_needReader p = some (.inl 0) ∧ fX8_isIn p 0 3 = some 1 ∧ p = nI (cl p) ∧ cl p < 4 := by
  obtain ⟨h1, h2⟩ := isN_cl h (by omega)
  have h3 : ¬ (p < 0 ∨ nI 3 < p) := (wi_N (b := 3) (by omega)).mpr h
  have w : fX7_isWithin p 0 3 = some 1 := wit_t (fun q => h3 (Or.inl q)) (fun q => h3 (Or.inr q))
  refine ⟨?_, (within_in h3).2, h1, h2⟩
  unfold fX7_needReader
  rw [w, Option.bind_some, if_neg one_ne0]
theorem rdr_out {p : Int32} (h : ¬ isN p 4) : fX7_needReader p = some (.inr 0) ∧ fX8_isIn p 0 3 = some 0 := by
  have h2 : p < 0 ∨ nI 3 < p := Classical.byContradiction (fun q => h ((wi_N (by omega)).mp q))
  have w : fX7_isWithin p 0 3 = some 0 := wit_f h2
  refine ⟨?_, (within_out h2).2⟩
  unfold fX7_needReader
  rw [w, Option.bind_some, if_pos rfl]
theorem isGrp_k {p g : Int32} (h : fX8_isKey p = some 0) : fX8_isGroup p g = some 0 := by
  unfold fX8_isGroup
  rw [h, Option.bind_some, if_pos rfl]
theorem isGrp_e {p g u : Int32} (h : fX8_isKey p = some 1) (hg : fX8_isIn g 0 2 = some u) (hu : u = 0 ∨ u = 1) : fX8_isGroup p g = some u := by
  unfold fX8_isGroup
  rw [h, Option.bind_some, if_neg (by decide), hg, Option.bind_some]
  rcases hu with e | e <;> rw [e] <;> rfl
theorem isRdr_0 {p g r : Int32} (h : fX8_isGroup p g = some 0) : fX8_isReader p g r = some 0 := by
  unfold fX8_isReader
  rw [h, Option.bind_some, if_pos rfl]
theorem isRdr_e {p g r u : Int32} (h : fX8_isGroup p g = some 1) (hg : fX8_isIn r 0 3 = some u) (hu : u = 0 ∨ u = 1) : fX8_isReader p g r = some u := by
  unfold fX8_isReader
  rw [h, Option.bind_some, if_neg (by decide), hg, Option.bind_some]
  rcases hu with e | e <;> rw [e] <;> rfl
theorem str_y {m : MSt} {k : Nat} {c : CK} {f : FK} {E : EL} (hk : k < 16) (h : MR m k c f) (hL : LogM (mLog m) (mRows m) (rws E)) (h300 : E.length ≤ 300) (hA : tyN c (mNow m) = 4) (hl : E.length < 300) : fX8_isStream m (nI k) = some 1 := by
  unfold fX8_isStream
  rw [mod_typeNow hk h, Option.bind_some, if_pos hA, full_eq hL h300, Option.bind_some, if_pos hl, if_pos rfl]
theorem str_n {m : MSt} {k : Nat} {c : CK} {f : FK} {E : EL} (hk : k < 16) (h : MR m k c f) (hL : LogM (mLog m) (mRows m) (rws E)) (h300 : E.length ≤ 300) (hA : ¬ (tyN c (mNow m) = 4 ∧ E.length < 300)) : fX8_isStream m (nI k) = some 0 := by
  unfold fX8_isStream
  rw [mod_typeNow hk h, Option.bind_some]
  by_cases e : tyN c (mNow m) = 4
  · rw [if_pos e, full_eq hL h300, Option.bind_some, if_neg (fun w => hA ⟨e, w⟩), if_neg (by decide)]
  · rw [if_neg e]
theorem mod_re31 {m : MSt} {p1 p2 p3 u : Int32} (h : u ≠ 0) : fX8_read_31 m p1 p2 p3 u = some (mThrown_s m u, 0) := by
  unfold fX8_read_31
  rw [can_eq, Option.bind_some, keep_r]
  dsimp only
  rw [if_neg h, if_pos rfl]
theorem mod_do30 {m : MSt} {p1 p2 p3 u : Int32} (h : u ≠ 0) : fX8_done_30 m p1 p2 p3 u = some (mThrown_s m u, 0) := by
  unfold fX8_done_30
  rw [can_eq, Option.bind_some, keep_r]
  dsimp only
  rw [if_neg h, if_pos rfl]
theorem mod_cl47 {m : MSt} {p1 p2 p3 p4 u : Int32} (h : u ≠ 0) : fX8_claim_47 m p1 p2 p3 p4 u = some (mThrown_s m u, 0) := by
  unfold fX8_claim_47
  rw [can_eq, Option.bind_some, keep_r]
  dsimp only
  rw [if_neg h, if_pos rfl]
theorem mod_rm24 {m : MSt} {p1 u : Int32} (h : u ≠ 0) : fX8_remove_24 m p1 u = some (mThrown_s m u, 0) := by
  unfold fX8_remove_24
  rw [can_eq, Option.bind_some, keep_r]
  dsimp only
  rw [if_neg h, if_pos rfl]
theorem mod_ex39 {m : MSt} {p1 p2 u : Int32} (h : u ≠ 0) : fX8_expire_39 m p1 p2 u = some (mThrown_s m u, 0) := by
  unfold fX8_expire_39
  rw [can_eq, Option.bind_some, keep_r]
  dsimp only
  rw [if_neg h, if_pos rfl]
theorem sim_read {x : SSt} {m : MSt} {t : Nat} {cc : CC} {ff : Nat → FK} {E : EL} {Mf idf : Nat → Nat} {lvi : Nat} (h : IV x m t cc ff E Mf idf lvi) (p1 p2 p3 : Int32) :
    Sim1 [0, 2] mpB (fk p1) x (lvi + 1) (fX7_read (fk p1) (foc (fk p1) x) p1 p2 p3) (fX8_read m p1 p2 p3) := by
  obtain ⟨⟨h1, h2, h3, h4, h5, h6, h7, h8, h9, h10, h11, h12, h13⟩, hrw⟩ := id h
  have h300 := h8.2.1
  by_cases hK : isN p1 16
  · obtain ⟨k1, k2, k3, k4, k5⟩ := key_in hK
    rw [k3]
    generalize cl p1 = k at *
    obtain ⟨b1, b2, b3, b4, b5⟩ := h7 k k5
    have hT := mod_typeNow k5 b2
    have hfc : fClk (foc k x) = nI t := h2
    have hfV : VR (fV (foc k x)) (cc k) (ff k) := b1
    unfold fX7_read fX8_read
    rw [k1, Option.bind_some, thrL, k4]
    rw [k4] at k2
    by_cases hG : isN p2 3
    · obtain ⟨g1, g2, g3, g4⟩ := grp_in hG
      rw [g1, Option.bind_some, thrL]
      by_cases hD : isN p3 4
      · obtain ⟨d1', d2', d3', d4'⟩ := rdr_in hD
        rw [d1', Option.bind_some, thrL, isRdr_e (isGrp_e k2 g2 (Or.inr rfl)) d2' (Or.inr rfl), Option.bind_some, if_neg (show ¬ (1 : Int32) = 0 by decide)]
        by_cases hA : tyN (cc k) (nI t) = 4
        · rw [c_ty_y k5 hfV (by rw [hfc]; exact hA), Option.bind_some, thrL]
          obtain ⟨q1, q2⟩ := tyN_is (by decide) hA
          by_cases hL : E.length < 300
          · rw [c_row_y (F := foc k x) h8 hL, Option.bind_some, thrL, str_y k5 b2 h9 h300 (by rw [h4]; exact hA) hL, Option.bind_some, if_neg (show ¬ (1 : Int32) = 0 by decide)]
            obtain ⟨m0, hm0⟩ : ∃ z, z = mThrown_s m 0 := ⟨_, rfl⟩
            have hI0 : IV x m0 t cc ff E Mf idf lvi := by rw [hm0]; exact iv_seq h seq_Thrown
            have hth : mThrown m0 = 0 := by rw [hm0]; rfl
            have hnow : mNow m0 = nI t := hI0.1.2.2.2.1
            have hr : okR (7, nI k, p2, p3, 0, nI t) (cc k) := ⟨⟨k, k5, rfl⟩, ⟨t, by omega, rfl⟩, Or.inr (Or.inr (Or.inr (Or.inr (Or.inr (Or.inr (Or.inl ⟨rfl, hG, hD, rfl, q1, q2⟩))))))⟩
            obtain ⟨y, y1, y2⟩ := cls_read (x := foc k x) (now := t) k5 hfV b3 0 g4 d4' q2 hfc (by omega)
            obtain ⟨z, z1, z2⟩ := mod_reads (now := t) k5 (hI0.1.2.2.2.2.2.2.1 k k5).2.1 b3 g4 d4' q2 hnow
            rw [← g3, ← d3'] at y1 z1
            have hcap := (ok_T b3 (thC_T q1)).2.2.1
            by_cases hF : cP (cc k) (cl p2) + 1 ≤ (cL (cc k)).length
            · rw [if_pos hF] at y1 z1
              have ho : opC (7, nI k, p2, p3, 0, nI t) (cc k) = rdC (cl p2) (cl p3) t (cc k) := by
                rw [opC_7 rfl]
                show rdC (cl p2) (cl p3) (cl (nI t)) (cc k) = _
                rw [cl_nI (by omega)]
              obtain ⟨v, hv, hv2⟩ : ∃ v, v = nI (cP (cc k) (cl p2) + 1) ∧ ¬ v ≤ 0 := ⟨_, rfl, nI_nle (by omega) (by omega)⟩
              have hv3 : ¬ v = -1 := fun w => hv2 (by rw [w]; decide)
              rw [← hv] at y1 z1
              rw [← ho] at y2 z2
              obtain ⟨lo, z', c1, c2, c3, c4⟩ := commit (r := (7, nI k, p2, p3, 0, nI t)) k5 hI0 hth hr rfl rfl hL y2 z2 (fun q => absurd (show (7 : Int32) = 6 from q) (by decide)) v
              have hcall : fX7_call k (foc k x) 9 (nI k) p2 p3 0 = some (fLog_s y lo, v) := by
                unfold fX7_call
                rw [y1, Option.bind_some, keep_r, keep_r, if_neg (by decide), if_neg hv2]
                exact c1
              have hm : fX8_read_31 m (nI k) p2 p3 0 = some (z', v) := by
                unfold fX8_read_31
                rw [can_eq, Option.bind_some, keep_r]
                dsimp only
                have c2' : fX8_writes z 7 (nI k) p2 p3 0 = some z' := c2
                rw [if_pos rfl, if_neg (by decide), ← hm0, z1, Option.bind_some, keep_r, keep_r, if_neg hv3, c2', Option.bind_some, keep_r]
              rw [hm, hcall]
              exact ⟨fLog_s y lo, .inl v, z', v, rfl, rfl, c3, fun v q => by cases q; exact ⟨c4, rfl⟩, fun n q => by cases q⟩
            · rw [if_neg hF] at y1 z1
              have e1 : rdC (cl p2) (cl p3) t (cc k) = cc k := if_neg hF
              rw [e1] at y2 z2
              obtain ⟨c3, c4⟩ := quiet k5 hI0 hth y2 z2
              have hcall : fX7_call k (foc k x) 9 (nI k) p2 p3 0 = some (y, -1) := by
                unfold fX7_call
                rw [y1, Option.bind_some, keep_r, keep_r, if_neg (by decide), if_pos (show (-1 : Int32) ≤ 0 by decide)]
              have hm : fX8_read_31 m (nI k) p2 p3 0 = some (z, -1) := by
                unfold fX8_read_31
                rw [can_eq, Option.bind_some, keep_r]
                dsimp only
                rw [if_pos rfl, if_neg (by decide), ← hm0, z1, Option.bind_some, keep_r, keep_r, if_pos rfl]
              rw [hm, hcall]
              exact ⟨y, .inl (-1), z, -1, rfl, rfl, c3, fun v q => by cases q; exact ⟨c4, rfl⟩, fun n q => by cases q⟩
          · rw [c_row_n (F := foc k x) h8 hL, Option.bind_some, thrR, str_n k5 b2 h9 h300 (fun w => hL w.2), Option.bind_some, if_pos rfl]
            exact sim_fail h rfl (u := 2) (b := 0) (mod_re31 (by decide)) (by decide) rfl
        · rw [c_ty_n k5 hfV (by rw [hfc]; exact hA), Option.bind_some, thrR, str_n k5 b2 h9 h300 (by rw [h4]; exact fun w => hA w.1), Option.bind_some, if_pos rfl]
          exact sim_fail h rfl (u := 2) (b := 0) (mod_re31 (by decide)) (by decide) rfl
      · obtain ⟨d1', d2'⟩ := rdr_out hD
        rw [d1', Option.bind_some, thrR, isRdr_e (isGrp_e k2 g2 (Or.inr rfl)) d2' (Or.inl rfl), Option.bind_some, if_pos rfl]
        exact sim_fail h rfl (u := 1) (b := 0) (mod_re31 (by decide)) (by decide) rfl
    · obtain ⟨g1, g2⟩ := grp_out hG
      rw [g1, Option.bind_some, thrR, isRdr_0 (isGrp_e k2 g2 (Or.inl rfl)), Option.bind_some, if_pos rfl]
      exact sim_fail h rfl (u := 1) (b := 0) (mod_re31 (by decide)) (by decide) rfl
  · obtain ⟨k1, k2⟩ := key_out hK
    unfold fX7_read fX8_read
    rw [k1, Option.bind_some, thrR, isRdr_0 (isGrp_k k2), Option.bind_some, if_pos rfl]
    exact sim_fail h rfl (u := 1) (b := 0) (mod_re31 (by decide)) (by decide) rfl
theorem dnC_0 {g : Nat} {e : Int32} {c : CK} (h : dnA g e c = 0) : dnC g e c = c := by
  unfold dnA at h
  unfold dnC
  cases he : eno e with
  | none => rfl
  | some j =>
    rw [he] at h
    dsimp only at h ⊢
    have hw : cW c (40 * g + j) = none := Classical.byContradiction (fun q => by rw [if_neg q] at h; exact absurd h (by decide))
    rw [upN_id hw]; rfl
theorem dnA_01 {g : Nat} {e : Int32} {c : CK} : dnA g e c = 0 ∨ dnA g e c = 1 := by
  unfold dnA
  cases eno e with
  | none => exact Or.inl rfl
  | some j =>
    dsimp only
    split
    · exact Or.inl rfl
    · exact Or.inr rfl
theorem sim_done {x : SSt} {m : MSt} {t : Nat} {cc : CC} {ff : Nat → FK} {E : EL} {Mf idf : Nat → Nat} {lvi : Nat} (h : IV x m t cc ff E Mf idf lvi) (p1 p2 p3 : Int32) :
    Sim1 [0, 2] mpB (fk p1) x (lvi + 1) (fX7_done (fk p1) (foc (fk p1) x) p1 p2 p3) (fX8_done m p1 p2 p3) := by
  obtain ⟨⟨h1, h2, h3, h4, h5, h6, h7, h8, h9, h10, h11, h12, h13⟩, hrw⟩ := id h
  have h300 := h8.2.1
  by_cases hK : isN p1 16
  · obtain ⟨k1, k2, k3, k4, k5⟩ := key_in hK
    rw [k3]
    generalize cl p1 = k at *
    obtain ⟨b1, b2, b3, b4, b5⟩ := h7 k k5
    have hT := mod_typeNow k5 b2
    have hfc : fClk (foc k x) = nI t := h2
    have hfV : VR (fV (foc k x)) (cc k) (ff k) := b1
    unfold fX7_done fX8_done
    rw [k1, Option.bind_some, thrL, k4]
    rw [k4] at k2
    by_cases hG : isN p2 3
    · obtain ⟨g1, g2, g3, g4⟩ := grp_in hG
      rw [g1, Option.bind_some, thrL, isGrp_e k2 g2 (Or.inr rfl), Option.bind_some, if_neg (show ¬ (1 : Int32) = 0 by decide)]
      by_cases hA : tyN (cc k) (nI t) = 4
      · rw [c_ty_y k5 hfV (by rw [hfc]; exact hA), Option.bind_some, thrL]
        obtain ⟨q1, q2⟩ := tyN_is (by decide) hA
        by_cases hL : E.length < 300
        · rw [c_row_y (F := foc k x) h8 hL, Option.bind_some, thrL, str_y k5 b2 h9 h300 (by rw [h4]; exact hA) hL, Option.bind_some, if_neg (show ¬ (1 : Int32) = 0 by decide)]
          obtain ⟨m0, hm0⟩ : ∃ z, z = mThrown_s m 0 := ⟨_, rfl⟩
          have hI0 : IV x m0 t cc ff E Mf idf lvi := by rw [hm0]; exact iv_seq h seq_Thrown
          have hth : mThrown m0 = 0 := by rw [hm0]; rfl
          have hnow : mNow m0 = nI t := hI0.1.2.2.2.1
          have hr : okR (8, nI k, p2, p3, 0, nI t) (cc k) := ⟨⟨k, k5, rfl⟩, ⟨t, by omega, rfl⟩, Or.inr (Or.inr (Or.inr (Or.inr (Or.inr (Or.inr (Or.inr (Or.inl ⟨rfl, hG, rfl, q1, q2⟩)))))))⟩
          obtain ⟨y, y1, y2⟩ := cls_done (x := foc k x) k5 hfV b3 p3 0 g4 q2
          obtain ⟨z, z1, z2⟩ := mod_ends k5 (hI0.1.2.2.2.2.2.2.1 k k5).2.1 b3 g4 q2 p3
          rw [← g3] at y1 z1
          rcases dnA_01 (g := cl p2) (e := p3) (c := cc k) with hF | hF
          · rw [hF] at y1 z1
            rw [dnC_0 hF] at y2 z2
            obtain ⟨c3, c4⟩ := quiet k5 hI0 hth y2 z2
            have hcall : fX7_call k (foc k x) 10 (nI k) p2 p3 0 = some (y, 0) := by
              unfold fX7_call
              rw [y1, Option.bind_some, keep_r, keep_r, if_neg (by decide), if_pos (show (0 : Int32) ≤ 0 by decide)]
            have hm : fX8_done_30 m (nI k) p2 p3 0 = some (z, 0) := by
              unfold fX8_done_30
              rw [can_eq, Option.bind_some, keep_r]
              dsimp only
              rw [if_pos rfl, if_neg (by decide), ← hm0, z1, Option.bind_some, keep_r, keep_r, if_pos rfl]; rfl
            rw [hm, hcall]
            refine ⟨y, .inl 0, z, 0, ?_, rfl, c3, fun v q => by cases q; exact ⟨c4, rfl⟩, fun n q => by cases q⟩
            rw [Option.bind_some, keep_r, if_pos (show (0 : Int32) ≤ 0 by decide)]
          · rw [hF] at y1 z1
            obtain ⟨lo, z', c1, c2, c3, c4⟩ := commit (r := (8, nI k, p2, p3, 0, nI t)) k5 hI0 hth hr rfl rfl hL y2 z2 (fun q => absurd (show (8 : Int32) = 6 from q) (by decide)) 1
            have hcall : fX7_call k (foc k x) 10 (nI k) p2 p3 0 = some (fLog_s y lo, 1) := by
              unfold fX7_call
              rw [y1, Option.bind_some, keep_r, keep_r, if_neg (by decide), if_neg (show ¬ (1 : Int32) ≤ 0 by decide)]
              exact c1
            have hm : fX8_done_30 m (nI k) p2 p3 0 = some (z', 1) := by
              unfold fX8_done_30
              rw [can_eq, Option.bind_some, keep_r]
              dsimp only
              have c2' : fX8_writes z 8 (nI k) p2 p3 0 = some z' := c2
              rw [if_pos rfl, if_neg (by decide), ← hm0, z1, Option.bind_some, keep_r, keep_r, if_neg (show ¬ (1 : Int32) = 0 by decide), c2', Option.bind_some, keep_r]; rfl
            rw [hm, hcall]
            refine ⟨fLog_s y lo, .inl 1, z', 1, ?_, rfl, c3, fun v q => by cases q; exact ⟨c4, rfl⟩, fun n q => by cases q⟩
            rw [Option.bind_some, keep_r, if_neg (show ¬ (1 : Int32) ≤ 0 by decide)]
        · rw [c_row_n (F := foc k x) h8 hL, Option.bind_some, thrR, str_n k5 b2 h9 h300 (fun w => hL w.2), Option.bind_some, if_pos rfl]
          exact sim_fail h rfl (u := 2) (b := 0) (mod_do30 (by decide)) (by decide) rfl
      · rw [c_ty_n k5 hfV (by rw [hfc]; exact hA), Option.bind_some, thrR, str_n k5 b2 h9 h300 (by rw [h4]; exact fun w => hA w.1), Option.bind_some, if_pos rfl]
        exact sim_fail h rfl (u := 2) (b := 0) (mod_do30 (by decide)) (by decide) rfl
    · obtain ⟨g1, g2⟩ := grp_out hG
      rw [g1, Option.bind_some, thrR, isGrp_e k2 g2 (Or.inl rfl), Option.bind_some, if_pos rfl]
      exact sim_fail h rfl (u := 1) (b := 0) (mod_do30 (by decide)) (by decide) rfl
  · obtain ⟨k1, k2⟩ := key_out hK
    unfold fX7_done fX8_done
    rw [k1, Option.bind_some, thrR, isGrp_k k2, Option.bind_some, if_pos rfl]
    exact sim_fail h rfl (u := 1) (b := 0) (mod_do30 (by decide)) (by decide) rfl
theorem mvn_0 {w : WF} {g r ticks now : Nat} (h : mvn w g r ticks now 40 = 0) : mvw w g r ticks now = w := by
  funext i
  unfold mvw
  by_cases e : 40 * g ≤ i ∧ i < 40 * g + 40 ∧ mvq r ticks now (w i) = true
  · exfalso
    obtain ⟨e1, e2, e3⟩ := e
    unfold mvn at h
    have := List.countP_eq_zero.mp h (i - 40 * g) (List.mem_range.mpr (by omega))
    rw [show 40 * g + (i - 40 * g) = i by omega] at this
    exact this e3
  · rw [if_neg e]
theorem sim_claim {x : SSt} {m : MSt} {t : Nat} {cc : CC} {ff : Nat → FK} {E : EL} {Mf idf : Nat → Nat} {lvi : Nat} (h : IV x m t cc ff E Mf idf lvi) (p1 p2 p3 p4 : Int32) :
    Sim1 [0, 1, 2] mpA (fk p1) x (lvi + 1) (fX7_claim (fk p1) (foc (fk p1) x) p1 p2 p3 p4) (fX8_claim m p1 p2 p3 p4) := by
  obtain ⟨⟨h1, h2, h3, h4, h5, h6, h7, h8, h9, h10, h11, h12, h13⟩, hrw⟩ := id h
  have h300 := h8.2.1
  by_cases hK : isN p1 16
  · obtain ⟨k1, k2, k3, k4, k5⟩ := key_in hK
    rw [k3]
    generalize cl p1 = k at *
    obtain ⟨b1, b2, b3, b4, b5⟩ := h7 k k5
    have hT := mod_typeNow k5 b2
    have hfc : fClk (foc k x) = nI t := h2
    have hfV : VR (fV (foc k x)) (cc k) (ff k) := b1
    unfold fX7_claim fX8_claim
    rw [k1, Option.bind_some, thrL, k4]
    rw [k4] at k2
    by_cases hG : isN p2 3
    · obtain ⟨g1, g2, g3, g4⟩ := grp_in hG
      rw [g1, Option.bind_some, thrL]
      by_cases hD : isN p3 4
      · obtain ⟨d1', d2', d3', d4'⟩ := rdr_in hD
        rw [d1', Option.bind_some, thrL, isRdr_e (isGrp_e k2 g2 (Or.inr rfl)) d2' (Or.inr rfl), Option.bind_some, if_neg (show ¬ (1 : Int32) = 0 by decide)]
        by_cases hW : p4 < 0 ∨ (1000 : Int32) < p4
        · rw [(within_out hW).1, Option.bind_some, thrR, (within_out hW).2, Option.bind_some, if_pos rfl]
          exact sim_fail h rfl (u := 2) (b := 0) (mod_cl47 (by decide)) (by decide) rfl
        · rw [(within_in hW).1, Option.bind_some, thrL, (within_in hW).2, Option.bind_some, if_neg (show ¬ (1 : Int32) = 0 by decide)]
          have hTk : isN p4 1001 := (wi_N (b := 1000) (by omega)).mp hW
          obtain ⟨e1', e2'⟩ := isN_cl hTk (by omega)
          by_cases hA : tyN (cc k) (nI t) = 4
          · rw [c_ty_y k5 hfV (by rw [hfc]; exact hA), Option.bind_some, thrL]
            obtain ⟨q1, q2⟩ := tyN_is (by decide) hA
            by_cases hL : E.length < 300
            · rw [c_row_y (F := foc k x) h8 hL, Option.bind_some, thrL, str_y k5 b2 h9 h300 (by rw [h4]; exact hA) hL, Option.bind_some, if_neg (show ¬ (1 : Int32) = 0 by decide)]
              obtain ⟨m0, hm0⟩ : ∃ z, z = mThrown_s m 0 := ⟨_, rfl⟩
              have hI0 : IV x m0 t cc ff E Mf idf lvi := by rw [hm0]; exact iv_seq h seq_Thrown
              have hth : mThrown m0 = 0 := by rw [hm0]; rfl
              have hnow : mNow m0 = nI t := hI0.1.2.2.2.1
              have hr : okR (9, nI k, p2, p3, p4, nI t) (cc k) := ⟨⟨k, k5, rfl⟩, ⟨t, by omega, rfl⟩, Or.inr (Or.inr (Or.inr (Or.inr (Or.inr (Or.inr (Or.inr (Or.inr (Or.inl ⟨rfl, hG, hD, hTk, q1, q2⟩))))))))⟩
              obtain ⟨y, y1, y2⟩ := cls_claim (x := foc k x) (now := t) (ticks := cl p4) k5 hfV b3 g4 d4' (by omega) q2 hfc (by omega)
              obtain ⟨z, z1, z2⟩ := mod_claims (now := t) (ticks := cl p4) k5 (hI0.1.2.2.2.2.2.2.1 k k5).2.1 b3 g4 d4' (by omega) q2 hnow (by omega)
              rw [← g3, ← d3', ← e1'] at y1 z1
              have hcap := mvn_le (w := cW (cc k)) (g := cl p2) (r := cl p3) (ticks := cl p4) (now := t) (n := 40)
              by_cases hF : mvn (cW (cc k)) (cl p2) (cl p3) (cl p4) t 40 = 0
              · rw [hF] at y1 z1
                have e1 : clC (cl p2) (cl p3) (cl p4) t (cc k) = cc k := by unfold clC; rw [mvn_0 hF]; rfl
                rw [e1] at y2 z2
                obtain ⟨c3, c4⟩ := quiet k5 hI0 hth y2 z2
                have hcall : fX7_call k (foc k x) 11 (nI k) p2 p3 p4 = some (y, nI 0) := by
                  unfold fX7_call
                  rw [y1, Option.bind_some, keep_r, keep_r, if_neg (by decide), if_pos (show nI 0 ≤ 0 by decide)]
                have hm : fX8_claim_47 m (nI k) p2 p3 p4 0 = some (z, nI 0) := by
                  unfold fX8_claim_47
                  rw [can_eq, Option.bind_some, keep_r]
                  dsimp only
                  rw [if_pos rfl, if_neg (by decide), ← hm0, z1, Option.bind_some, keep_r, keep_r, if_pos (show nI 0 ≤ 0 by decide)]
                rw [hm, hcall]
                exact ⟨y, .inl (nI 0), z, nI 0, rfl, rfl, c3, fun v q => by cases q; exact ⟨c4, rfl⟩, fun n q => by cases q⟩
              · have ho : opC (9, nI k, p2, p3, p4, nI t) (cc k) = clC (cl p2) (cl p3) (cl p4) t (cc k) := by
                  rw [opC_9 rfl]
                  show clC (cl p2) (cl p3) (cl p4) (cl (nI t)) (cc k) = _
                  rw [cl_nI (by omega)]
                obtain ⟨v, hv, hv2⟩ : ∃ v, v = nI (mvn (cW (cc k)) (cl p2) (cl p3) (cl p4) t 40) ∧ ¬ v ≤ 0 := ⟨_, rfl, nI_nle (by omega) (by omega)⟩
                rw [← hv] at y1 z1
                rw [← ho] at y2 z2
                obtain ⟨lo, z', c1, c2, c3, c4⟩ := commit (r := (9, nI k, p2, p3, p4, nI t)) k5 hI0 hth hr rfl rfl hL y2 z2 (fun q => absurd (show (9 : Int32) = 6 from q) (by decide)) v
                have hcall : fX7_call k (foc k x) 11 (nI k) p2 p3 p4 = some (fLog_s y lo, v) := by
                  unfold fX7_call
                  rw [y1, Option.bind_some, keep_r, keep_r, if_neg (by decide), if_neg hv2]
                  exact c1
                have hm : fX8_claim_47 m (nI k) p2 p3 p4 0 = some (z', v) := by
                  unfold fX8_claim_47
                  rw [can_eq, Option.bind_some, keep_r]
                  dsimp only
                  have c2' : fX8_writes z 9 (nI k) p2 p3 p4 = some z' := c2
                  rw [if_pos rfl, if_neg (by decide), ← hm0, z1, Option.bind_some, keep_r, keep_r, if_neg hv2, c2', Option.bind_some, keep_r]
                rw [hm, hcall]
                exact ⟨fLog_s y lo, .inl v, z', v, rfl, rfl, c3, fun v q => by cases q; exact ⟨c4, rfl⟩, fun n q => by cases q⟩
            · rw [c_row_n (F := foc k x) h8 hL, Option.bind_some, thrR, str_n k5 b2 h9 h300 (fun w => hL w.2), Option.bind_some, if_pos rfl]
              exact sim_fail h rfl (u := 3) (b := 0) (mod_cl47 (by decide)) (by decide) rfl
          · rw [c_ty_n k5 hfV (by rw [hfc]; exact hA), Option.bind_some, thrR, str_n k5 b2 h9 h300 (by rw [h4]; exact fun w => hA w.1), Option.bind_some, if_pos rfl]
            exact sim_fail h rfl (u := 3) (b := 0) (mod_cl47 (by decide)) (by decide) rfl
      · obtain ⟨d1', d2'⟩ := rdr_out hD
        rw [d1', Option.bind_some, thrR, isRdr_e (isGrp_e k2 g2 (Or.inr rfl)) d2' (Or.inl rfl), Option.bind_some, if_pos rfl]
        exact sim_fail h rfl (u := 1) (b := 0) (mod_cl47 (by decide)) (by decide) rfl
    · obtain ⟨g1, g2⟩ := grp_out hG
      rw [g1, Option.bind_some, thrR, isRdr_0 (isGrp_e k2 g2 (Or.inl rfl)), Option.bind_some, if_pos rfl]
      exact sim_fail h rfl (u := 1) (b := 0) (mod_cl47 (by decide)) (by decide) rfl
  · obtain ⟨k1, k2⟩ := key_out hK
    unfold fX7_claim fX8_claim
    rw [k1, Option.bind_some, thrR, isRdr_0 (isGrp_k k2), Option.bind_some, if_pos rfl]
    exact sim_fail h rfl (u := 1) (b := 0) (mod_cl47 (by decide)) (by decide) rfl
theorem sim_remove {x : SSt} {m : MSt} {t : Nat} {cc : CC} {ff : Nat → FK} {E : EL} {Mf idf : Nat → Nat} {lvi : Nat} (h : IV x m t cc ff E Mf idf lvi) (p1 : Int32) :
    Sim1 [0, 2] mpB (fk p1) x (lvi + 1) (fX7_remove (fk p1) (foc (fk p1) x) p1) (fX8_remove m p1) := by
  obtain ⟨⟨h1, h2, h3, h4, h5, h6, h7, h8, h9, h10, h11, h12, h13⟩, hrw⟩ := id h
  have h300 := h8.2.1
  by_cases hK : isN p1 16
  · obtain ⟨k1, k2, k3, k4, k5⟩ := key_in hK
    rw [k3]
    generalize cl p1 = k at *
    obtain ⟨b1, b2, b3, b4, b5⟩ := h7 k k5
    have hT := mod_typeNow k5 b2
    have hfc : fClk (foc k x) = nI t := h2
    have hfV : VR (fV (foc k x)) (cc k) (ff k) := b1
    unfold fX7_remove fX8_remove
    rw [k1, Option.bind_some, thrL, k2, Option.bind_some, if_neg (show ¬ (1 : Int32) = 0 by decide), k4, full_eq h9 h300, Option.bind_some]
    by_cases hL : E.length < 300
    · rw [c_row_y (F := foc k x) h8 hL, Option.bind_some, thrL, if_pos hL, if_pos rfl]
      obtain ⟨m0, hm0⟩ : ∃ z, z = mThrown_s m 0 := ⟨_, rfl⟩
      have hI0 : IV x m0 t cc ff E Mf idf lvi := by rw [hm0]; exact iv_seq h seq_Thrown
      have hth : mThrown m0 = 0 := by rw [hm0]; rfl
      have hnow : mNow m0 = nI t := hI0.1.2.2.2.1
      have b2' := (hI0.1.2.2.2.2.2.2.1 k k5).2.1
      obtain ⟨y, y1, y2⟩ := cls_remove (x := foc k x) k5 hfV 0 0 0
      rw [hfc] at y1 y2
      have hth2 := mod_isThere k5 b2'
      rw [hnow] at hth2
      by_cases hF : thC (cc k) (nI t) = true
      · rw [hF] at y1 hth2
        rw [if_pos hF] at y2
        have hr : okR (10, nI k, 0, 0, 0, nI t) (cc k) := ⟨⟨k, k5, rfl⟩, ⟨t, by omega, rfl⟩, Or.inr (Or.inr (Or.inr (Or.inr (Or.inr (Or.inr (Or.inr (Or.inr (Or.inr (Or.inl ⟨rfl, rfl, rfl, rfl, hF⟩)))))))))⟩
        have z2 : MoP k m0 (mType_s m0 (upd (mType m0) k 0)) (rmC (cc k)) (ff k) false := ⟨fr_Type _ (fun j hj => upd_o hj), ⟨upd_s, fun q => absurd rfl q⟩, rfl⟩
        obtain ⟨lo, z', c1, c2, c3, c4⟩ := commit (r := (10, nI k, 0, 0, 0, nI t)) k5 hI0 hth hr rfl rfl hL y2 z2 (fun q => absurd (show (10 : Int32) = 6 from q) (by decide)) 1
        have hcall : fX7_call k (foc k x) 7 (nI k) 0 0 0 = some (fLog_s y lo, 1) := by
          unfold fX7_call
          rw [y1, Option.bind_some, keep_r, keep_r, if_neg (by decide), if_neg (show ¬ b2i true ≤ 0 by decide)]
          exact c1
        have hm : fX8_remove_24 m (nI k) 0 = some (z', 1) := by
          unfold fX8_remove_24
          rw [can_eq, Option.bind_some, keep_r]
          dsimp only
          have c2' : fX8_writes (mType_s m0 (upd (mType m0) k 0)) 10 (nI k) 0 0 0 = some z' := c2
          rw [if_pos rfl, if_neg (by decide), ← hm0, hth2, Option.bind_some, if_neg (show ¬ b2i true = 0 by decide), inb_nI k5 (by omega), chk_r, keep_r, nI_clamp (by omega), c2', Option.bind_some, keep_r]; rfl
        rw [hm, hcall]
        refine ⟨fLog_s y lo, .inl 1, z', 1, ?_, rfl, c3, fun v q => by cases q; exact ⟨c4, rfl⟩, fun n q => by cases q⟩
        rw [Option.bind_some, keep_r, if_neg (show ¬ (1 : Int32) ≤ 0 by decide)]
      · have hF' : thC (cc k) (nI t) = false := by simpa using hF
        rw [hF'] at y1 hth2
        rw [if_neg hF] at y2
        obtain ⟨c3, c4⟩ := quiet (z := m0) k5 hI0 hth y2 ⟨Fr.refl k m0, b2', rfl⟩
        have hcall : fX7_call k (foc k x) 7 (nI k) 0 0 0 = some (y, 0) := by
          unfold fX7_call
          rw [y1, Option.bind_some, keep_r, keep_r, if_neg (by decide), if_pos (show b2i false ≤ 0 by decide)]; rfl
        have hm : fX8_remove_24 m (nI k) 0 = some (m0, 0) := by
          unfold fX8_remove_24
          rw [can_eq, Option.bind_some, keep_r]
          dsimp only
          rw [if_pos rfl, if_neg (by decide), ← hm0, hth2, Option.bind_some, if_pos (show b2i false = 0 by decide)]; rfl
        rw [hm, hcall]
        refine ⟨y, .inl 0, m0, 0, ?_, rfl, c3, fun v q => by cases q; exact ⟨c4, rfl⟩, fun n q => by cases q⟩
        rw [Option.bind_some, keep_r, if_pos (show (0 : Int32) ≤ 0 by decide)]
    · rw [c_row_n (F := foc k x) h8 hL, Option.bind_some, thrR, if_neg hL, if_neg (by decide)]
      exact sim_fail h rfl (u := 2) (b := 0) (mod_rm24 (by decide)) (by decide) rfl
  · obtain ⟨k1, k2⟩ := key_out hK
    unfold fX7_remove fX8_remove
    rw [k1, Option.bind_some, thrR, k2, Option.bind_some, if_pos rfl]
    exact sim_fail h rfl (u := 1) (b := 0) (mod_rm24 (by decide)) (by decide) rfl
theorem sim_expire {x : SSt} {m : MSt} {t : Nat} {cc : CC} {ff : Nat → FK} {E : EL} {Mf idf : Nat → Nat} {lvi : Nat} (h : IV x m t cc ff E Mf idf lvi) (p1 p2 : Int32) :
    Sim1 [0, 1, 2] mpA (fk p1) x (lvi + 1) (fX7_expire (fk p1) (foc (fk p1) x) p1 p2) (fX8_expire m p1 p2) := by
  obtain ⟨⟨h1, h2, h3, h4, h5, h6, h7, h8, h9, h10, h11, h12, h13⟩, hrw⟩ := id h
  have h300 := h8.2.1
  by_cases hK : isN p1 16
  · obtain ⟨k1, k2, k3, k4, k5⟩ := key_in hK
    rw [k3]
    generalize cl p1 = k at *
    obtain ⟨b1, b2, b3, b4, b5⟩ := h7 k k5
    have hT := mod_typeNow k5 b2
    have hfc : fClk (foc k x) = nI t := h2
    have hfV : VR (fV (foc k x)) (cc k) (ff k) := b1
    unfold fX7_expire fX8_expire
    rw [k1, Option.bind_some, thrL, k2, Option.bind_some, if_neg (show ¬ (1 : Int32) = 0 by decide), k4]
    by_cases hW : p2 < 1 ∨ (1000 : Int32) < p2
    · rw [(within_out hW).1, Option.bind_some, thrR, (within_out hW).2, Option.bind_some, if_pos rfl]
      exact sim_fail h rfl (u := 2) (b := 0) (mod_ex39 (by decide)) (by decide) rfl
    · rw [(within_in hW).1, Option.bind_some, thrL, (within_in hW).2, Option.bind_some, if_neg (show ¬ (1 : Int32) = 0 by decide), full_eq h9 h300, Option.bind_some]
      by_cases hL : E.length < 300
      · rw [c_row_y (F := foc k x) h8 hL, Option.bind_some, thrL, if_pos hL, if_pos rfl]
        obtain ⟨m0, hm0⟩ : ∃ z, z = mThrown_s m 0 := ⟨_, rfl⟩
        have hI0 : IV x m0 t cc ff E Mf idf lvi := by rw [hm0]; exact iv_seq h seq_Thrown
        have hth : mThrown m0 = 0 := by rw [hm0]; rfl
        have hnow : mNow m0 = nI t := hI0.1.2.2.2.1
        have hclk : mClock m0 = nI t := hI0.1.2.2.1
        have b2' := (hI0.1.2.2.2.2.2.2.1 k k5).2.1
        obtain ⟨y, y1, y2⟩ := cls_end (x := foc k x) k5 hfV p2 0 0
        rw [hfc] at y1 y2
        have hth2 := mod_isThere k5 b2'
        rw [hnow] at hth2
        by_cases hF : thC (cc k) (nI t) = true
        · rw [hF] at y1 hth2
          rw [if_pos hF] at y2
          have hr : okR (11, nI k, nI t + p2, 0, 0, nI t) (cc k) := ⟨⟨k, k5, rfl⟩, ⟨t, by omega, rfl⟩, Or.inr (Or.inr (Or.inr (Or.inr (Or.inr (Or.inr (Or.inr (Or.inr (Or.inr (Or.inr (⟨rfl, rfl, rfl, hF⟩))))))))))⟩
          have hfst : fst1 (11, nI k, nI t + p2, 0, 0, nI t) = p2 := by
            show (if (11 : Int32) = 11 then nI t + p2 - nI t else nI t + p2) = p2
            rw [if_pos rfl, Int32.add_comm, Int32.add_sub_cancel]
          obtain ⟨q1, q2⟩ := b2'
          obtain ⟨w1, w2, w3, w4, w5⟩ := q2 (thC_T hF)
          have z2 : MoP k m0 (mEnd_s m0 (upd (mEnd m0) k (nI t + p2))) (enC (nI t + p2) (cc k)) (ff k) false := ⟨fr_End _ (fun j hj => upd_o hj), ⟨q1, fun _ => ⟨upd_s, w2, w3, w4, w5⟩⟩, rfl⟩
          obtain ⟨lo, z', c1, c2, c3, c4⟩ := commit (r := (11, nI k, nI t + p2, 0, 0, nI t)) k5 hI0 hth hr rfl rfl hL y2 z2 (fun q => absurd (show (11 : Int32) = 6 from q) (by decide)) 1
          rw [hfst] at c1
          have hcall : fX7_call k (foc k x) 8 (nI k) p2 0 0 = some (fLog_s y lo, 1) := by
            unfold fX7_call
            rw [y1, Option.bind_some, keep_r, keep_r, if_neg (by decide), if_neg (show ¬ b2i true ≤ 0 by decide)]
            exact c1
          have hm : fX8_expire_39 m (nI k) p2 0 = some (z', 1) := by
            unfold fX8_expire_39
            rw [can_eq, Option.bind_some, keep_r]
            dsimp only
            have c2' : fX8_writes (mEnd_s m0 (upd (mEnd m0) k (nI t + p2))) 11 (nI k) (nI t + p2) 0 0 = some z' := c2
            rw [if_pos rfl, if_neg (by decide), ← hm0, hth2, Option.bind_some, if_neg (show ¬ b2i true = 0 by decide), inb_nI k5 (by omega), chk_r, keep_r, chk_r, nI_clamp (by omega), hclk, show mEnd (mEnd_s m0 (upd (mEnd m0) k (nI t + p2))) = upd (mEnd m0) k (nI t + p2) from rfl, upd_s, c2', Option.bind_some, keep_r]; rfl
          rw [hm, hcall]
          refine ⟨fLog_s y lo, .inl 1, z', 1, ?_, rfl, c3, fun v q => by cases q; exact ⟨c4, rfl⟩, fun n q => by cases q⟩
          rw [Option.bind_some, keep_r, if_neg (show ¬ (1 : Int32) ≤ 0 by decide)]
        · have hF' : thC (cc k) (nI t) = false := by simpa using hF
          rw [hF'] at y1 hth2
          rw [if_neg hF] at y2
          obtain ⟨c3, c4⟩ := quiet (z := m0) k5 hI0 hth y2 ⟨Fr.refl k m0, b2', rfl⟩
          have hcall : fX7_call k (foc k x) 8 (nI k) p2 0 0 = some (y, 0) := by
            unfold fX7_call
            rw [y1, Option.bind_some, keep_r, keep_r, if_neg (by decide), if_pos (show b2i false ≤ 0 by decide)]; rfl
          have hm : fX8_expire_39 m (nI k) p2 0 = some (m0, 0) := by
            unfold fX8_expire_39
            rw [can_eq, Option.bind_some, keep_r]
            dsimp only
            rw [if_pos rfl, if_neg (by decide), ← hm0, hth2, Option.bind_some, if_pos (show b2i false = 0 by decide)]; rfl
          rw [hm, hcall]
          refine ⟨y, .inl 0, m0, 0, ?_, rfl, c3, fun v q => by cases q; exact ⟨c4, rfl⟩, fun n q => by cases q⟩
          rw [Option.bind_some, keep_r, if_pos (show (0 : Int32) ≤ 0 by decide)]
      · rw [c_row_n (F := foc k x) h8 hL, Option.bind_some, thrR, if_neg hL, if_neg (by decide)]
        exact sim_fail h rfl (u := 3) (b := 0) (mod_ex39 (by decide)) (by decide) rfl
  · obtain ⟨k1, k2⟩ := key_out hK
    unfold fX7_expire fX8_expire
    rw [k1, Option.bind_some, thrR, k2, Option.bind_some, if_pos rfl]
    exact sim_fail h rfl (u := 1) (b := 0) (mod_ex39 (by decide)) (by decide) rfl

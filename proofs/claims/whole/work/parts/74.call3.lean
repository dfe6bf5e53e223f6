/-! take, rate, append -/
theorem sim_take {x : SSt} {m : MSt} {t : Nat} {cc : CC} {ff : Nat → FK} {E : EL} {Mf idf : Nat → Nat} {lvi : Nat} (h : IV x m t cc ff E Mf idf lvi) (p1 p2 : Int32) :
    Sim1 [0, 1, 2] mpA (fk p1) x (lvi + 1) (fX7_take (fk p1) (foc (fk p1) x) p1 p2) (fX8_take m p1 p2) := by
  obtain ⟨⟨h1, h2, h3, h4, h5, h6, h7, h8, h9, h10, h11, h12, h13⟩, hrw⟩ := id h
  have h300 := h8.2.1
  by_cases hK : isN p1 16
  · obtain ⟨k1, k2, k3, k4, k5⟩ := key_in hK
    rw [k3]
    generalize cl p1 = k at *
    obtain ⟨b1, b2, b3, b4, b5⟩ := h7 k k5
    have hT := mod_typeNow k5 b2
    have hfc : fClk (foc k x) = nI t := h2
    have hfV : VR (fV (foc k x)) (cc k) (ff k) := b1
    unfold fX7_take fX8_take
    rw [k1, Option.bind_some, thrL, k2, Option.bind_some, if_neg (show ¬ (1 : Int32) = 0 by decide), k4, hT, h4, Option.bind_some, Option.bind_some, c_type k5 hfV, hfc]
    by_cases hV : isV p2
    · obtain ⟨v1, v2⟩ := val_in hV
      rw [v1, Option.bind_some, thrL, Option.bind_some]
      by_cases hA : tyN (cc k) (nI t) = 2 ∨ tyN (cc k) (nI t) = 3
      · obtain ⟨q1, q2⟩ : thC (cc k) (nI t) = true ∧ (cT (cc k) = 2 ∨ cT (cc k) = 3) := by
          rcases hA with w | w
          · exact ⟨(tyN_is (by decide) w).1, Or.inl (tyN_is (by decide) w).2⟩
          · exact ⟨(tyN_is (by decide) w).1, Or.inr (tyN_is (by decide) w).2⟩
        have hcl : ∀ G : Option (FSt × (Int32 ⊕ Nat)), (if tyN (cc k) (nI t) = 2 then G else (fX7_needType k (foc k x) (nI k) 3).bind (fun u23 => thr u23 (fun k25 => some (foc k x, .inr k25)) (fun _ => G))) = G := fun G => by
          by_cases w : tyN (cc k) (nI t) = 2
          · rw [if_pos w]
          · rw [if_neg w, c_ty_y k5 hfV (by rw [hfc]; rcases hA with e | e; exact absurd e w; exact e), Option.bind_some]; rfl
        have hml : ∀ A B : Option (MSt × Int32), (if tyN (cc k) (nI t) = 2 then A else (if tyN (cc k) (nI t) = 3 then A else B)) = A := fun A B => by
          rcases hA with w | w
          · rw [if_pos w]
          · rw [if_neg (by rw [w]; decide), if_pos w]
        rw [hcl, hml]
        unfold fX7_take_23 fX8_take_27
        rw [full_eq h9 h300, Option.bind_some]
        by_cases hL : E.length < 300
        · rw [c_row_y (F := foc k x) h8 hL, Option.bind_some, thrL, if_pos hL, if_pos rfl]
          obtain ⟨m0, hm0⟩ : ∃ z, z = mThrown_s m 0 := ⟨_, rfl⟩
          have hI0 : IV x m0 t cc ff E Mf idf lvi := by rw [hm0]; exact iv_seq h seq_Thrown
          have hth : mThrown m0 = 0 := by rw [hm0]; rfl
          have hnow : mNow m0 = nI t := hI0.1.2.2.2.1
          have hr : okR (4, nI k, p2, 0, 0, nI t) (cc k) := ⟨⟨k, k5, rfl⟩, ⟨t, by omega, rfl⟩, Or.inr (Or.inr (Or.inr (Or.inl ⟨rfl, hV, rfl, rfl, q1, q2⟩)))⟩
          obtain ⟨y, y1, y2⟩ := cls_take (x := foc k x) k5 hfV b3 0 0 hV q2
          obtain ⟨z, z1, z2⟩ := mod_takes k5 (hI0.1.2.2.2.2.2.2.1 k k5).2.1 (thC_T q1) p2
          have h39 : fX8_take_39 m (nI k) p2 1 1 = fX8_take_71 m (nI k) p2 0 := by
            unfold fX8_take_39
            rw [if_neg (show ¬ (1 : Int32) = 0 by decide), v2, Option.bind_some, if_neg (show ¬ (1 : Int32) = 0 by decide), if_neg (show ¬ (1 : Int32) = 0 by decide)]
          rw [h39]
          by_cases hF : fnd (cL (cc k)) p2 = true
          · rw [if_pos hF] at y1 z1
            obtain ⟨lo, z', c1, c2, c3, c4⟩ := commit (r := (4, nI k, p2, 0, 0, nI t)) k5 hI0 hth hr rfl rfl hL y2 z2 (fun q => absurd (show (4 : Int32) = 6 from q) (by decide)) 1
            have hcall : fX7_call k (foc k x) 6 (nI k) p2 0 0 = some (fLog_s y lo, 1) := by
              unfold fX7_call
              rw [y1, Option.bind_some, keep_r, keep_r, if_neg (by decide), if_neg (show ¬ (1 : Int32) ≤ 0 by decide)]
              exact c1
            have hm : fX8_take_71 m (nI k) p2 0 = some (z', 1) := by
              unfold fX8_take_71
              rw [can_eq, Option.bind_some, keep_r]
              dsimp only
              have c2' : fX8_writes z 4 (nI k) p2 0 0 = some z' := c2
              rw [if_pos rfl, if_neg (by decide), ← hm0, z1, Option.bind_some, keep_r, keep_r, if_neg (show ¬ (1 : Int32) = 0 by decide), c2', Option.bind_some, keep_r]; rfl
            rw [hm, hcall]
            refine ⟨fLog_s y lo, .inl 1, z', 1, ?_, rfl, c3, fun v q => by cases q; exact ⟨c4, rfl⟩, fun n q => by cases q⟩
            rw [Option.bind_some, keep_r, if_neg (show ¬ (1 : Int32) ≤ 0 by decide)]
          · rw [if_neg hF] at y1 z1
            have e1 : tkeC p2 (cc k) = cc k := if_neg hF
            rw [e1] at y2 z2
            obtain ⟨c3, c4⟩ := quiet k5 hI0 hth y2 z2
            have hcall : fX7_call k (foc k x) 6 (nI k) p2 0 0 = some (y, 0) := by
              unfold fX7_call
              rw [y1, Option.bind_some, keep_r, keep_r, if_neg (by decide), if_pos (show (0 : Int32) ≤ 0 by decide)]
            have hm : fX8_take_71 m (nI k) p2 0 = some (z, 0) := by
              unfold fX8_take_71
              rw [can_eq, Option.bind_some, keep_r]
              dsimp only
              rw [if_pos rfl, if_neg (by decide), ← hm0, z1, Option.bind_some, keep_r, keep_r, if_pos (show (0 : Int32) = 0 from rfl)]; rfl
            rw [hm, hcall]
            refine ⟨y, .inl 0, z, 0, ?_, rfl, c3, fun v q => by cases q; exact ⟨c4, rfl⟩, fun n q => by cases q⟩
            rw [Option.bind_some, keep_r, if_pos (show (0 : Int32) ≤ 0 by decide)]
        · rw [c_row_n (F := foc k x) h8 hL, Option.bind_some, thrR, if_neg hL, if_neg (by decide)]
          refine sim_fail h rfl (u := 3) (b := 0) ?_ (by decide) rfl
          unfold fX8_take_38 fX8_take_39
          rw [if_neg (show ¬ (1 : Int32) = 0 by decide), v2, Option.bind_some, if_neg (show ¬ (1 : Int32) = 0 by decide), if_pos rfl]
          exact mod_ta71 (by decide)
      · rw [if_neg (fun w => hA (Or.inl w)), c_ty_n k5 hfV (by rw [hfc]; exact fun w => hA (Or.inr w)), Option.bind_some, thrR, if_neg (fun w => hA (Or.inl w)), if_neg (fun w => hA (Or.inr w))]
        refine sim_fail h rfl (u := 3) (b := 0) ?_ (by decide) rfl
        unfold fX8_take_38 fX8_take_39
        rw [if_neg (show ¬ (1 : Int32) = 0 by decide), v2, Option.bind_some, if_neg (show ¬ (1 : Int32) = 0 by decide), if_pos rfl]
        exact mod_ta71 (by decide)
    · obtain ⟨v1, v2⟩ := val_out hV
      rw [v1, Option.bind_some, thrR]
      refine sim_fail h rfl (u := 2) (b := 0) ?_ (by decide) rfl
      have g : ∀ s0 : Int32, fX8_take_39 m (nI k) p2 1 s0 = some (mThrown_s m 2, 0) := fun s0 => by
        unfold fX8_take_39
        rw [if_neg (show ¬ (1 : Int32) = 0 by decide), v2, Option.bind_some, if_pos rfl]
        exact mod_ta71 (by decide)
      unfold fX8_take_27 fX8_take_38
      rw [full_eq h9 h300, Option.bind_some]
      simp only [g, ite_self]
  · obtain ⟨k1, k2⟩ := key_out hK
    unfold fX7_take fX8_take
    rw [k1, Option.bind_some, thrR, k2, Option.bind_some, if_pos rfl]
    refine sim_fail h rfl (u := 1) (b := 0) ?_ (by decide) rfl
    unfold fX8_take_38 fX8_take_39
    rw [if_pos rfl]
    exact mod_ta71 (by decide)
theorem sim_rate {x : SSt} {m : MSt} {t : Nat} {cc : CC} {ff : Nat → FK} {E : EL} {Mf idf : Nat → Nat} {lvi : Nat} (h : IV x m t cc ff E Mf idf lvi) (p1 p2 p3 : Int32) :
    Sim1 [0, 1, 2] mpA (fk p1) x (lvi + 1) (fX7_rate (fk p1) (foc (fk p1) x) p1 p2 p3) (fX8_rate m p1 p2 p3) := by
  obtain ⟨⟨h1, h2, h3, h4, h5, h6, h7, h8, h9, h10, h11, h12, h13⟩, hrw⟩ := id h
  have h300 := h8.2.1
  by_cases hK : isN p1 16
  · obtain ⟨k1, k2, k3, k4, k5⟩ := key_in hK
    rw [k3]
    generalize cl p1 = k at *
    obtain ⟨b1, b2, b3, b4, b5⟩ := h7 k k5
    have hT := mod_typeNow k5 b2
    have hfc : fClk (foc k x) = nI t := h2
    have hfV : VR (fV (foc k x)) (cc k) (ff k) := b1
    unfold fX7_rate fX8_rate fX8_rate_24
    rw [k1, Option.bind_some, thrL, k2, Option.bind_some, k4]
    have h25 : fX8_rate_25 m (nI k) p2 p3 1 0 = some (mThrown_s m 2, 0) := by
      unfold fX8_rate_25
      rw [if_neg (show ¬ (1 : Int32) = 0 by decide), if_pos rfl]
      exact mod_ra68 (by decide)
    by_cases hV : isV p2
    · obtain ⟨v1, v2⟩ := val_in hV
      rw [v1, Option.bind_some, thrL, v2, Option.bind_some, if_neg (show ¬ (1 : Int32) = 0 by decide)]
      unfold fX8_isNumber
      by_cases hB : isNum p3
      · rw [if_pos (i32_nlt.mp hB), if_neg hB, Option.bind_some, if_neg (show ¬ (1 : Int32) = 0 by decide)]
        unfold fX8_rate_25
        rw [if_neg (show ¬ (1 : Int32) = 0 by decide), if_neg (show ¬ (1 : Int32) = 0 by decide)]
        obtain ⟨rc1, rc2⟩ := room_c (α := FSt) k5 hfV b3 hV (fun _ => none) (fX7_rate_48 k (foc k x) (nI k) p2 p3) (fun k30 => some (foc k x, .inr k30))
        by_cases hA : tyN (cc k) (nI t) = 0 ∨ tyN (cc k) (nI t) = 3
        · rw [c_ta_y k5 hfV (by rw [hfc]; exact hA), Option.bind_some, thrL]
          have hA2 := tyN_or hA
          by_cases hR : thC (cc k) (nI t) = true → (cL (cc k)).length < 40 ∨ fnd (cL (cc k)) p2 = true
          · rw [rc1 (by rw [hfc]; exact hR), mod_room_y k5 b2 (by decide) (by rw [h4]; exact ⟨hA, hR⟩), Option.bind_some, if_neg (show ¬ (1 : Int32) = 0 by decide), full_eq h9 h300, Option.bind_some]
            unfold fX7_rate_48
            by_cases hL : E.length < 300
            · rw [c_row_y (F := foc k x) h8 hL, Option.bind_some, thrL, if_pos hL, if_pos rfl]
              obtain ⟨m0, hm0⟩ : ∃ z, z = mThrown_s m 0 := ⟨_, rfl⟩
              have hI0 : IV x m0 t cc ff E Mf idf lvi := by rw [hm0]; exact iv_seq h seq_Thrown
              have hth : mThrown m0 = 0 := by rw [hm0]; rfl
              have hnow : mNow m0 = nI t := hI0.1.2.2.2.1
              have hok : thC (cc k) (nI t) = true → cT (cc k) = 3 ∧ ((cL (cc k)).length < 40 ∨ fnd (cL (cc k)) p2 = true) := fun q => ⟨hA2 q, hR q⟩
              have hr : okR (5, nI k, p2, p3, 0, nI t) (cc k) := ⟨⟨k, k5, rfl⟩, ⟨t, by omega, rfl⟩, Or.inr (Or.inr (Or.inr (Or.inr (Or.inl ⟨rfl, hV, hB, rfl, hok⟩))))⟩
              obtain ⟨y, y1, y2⟩ := cls_rate (x := foc k x) (b := p3) k5 hfV 0 hV (by rw [hfc]; exact hok)
              obtain ⟨z, z1, z2⟩ := mod_rates (b := p3) k5 (hI0.1.2.2.2.2.2.2.1 k k5).2.1 b3 (a := p2) (by rw [hnow]; exact hok)
              rw [hfc] at y1 y2
              rw [hnow] at z1 z2
              have hmk : mkB (5, nI k, p2, p3, 0, nI t) (cc k) = !thC (cc k) (nI t) := mkB_t (Or.inr (Or.inr (Or.inl rfl)))
              rw [← hmk] at y2 z2
              obtain ⟨lo, z', c1, c2, c3, c4⟩ := commit (r := (5, nI k, p2, p3, 0, nI t)) k5 hI0 hth hr rfl rfl hL y2 z2 (fun q => absurd (show (5 : Int32) = 6 from q) (by decide)) (nI (ratI p2 p3 (nI t) (cc k)))
              have hcall : fX7_call k (foc k x) 3 (nI k) p2 p3 0 = some (fLog_s y lo, nI (ratI p2 p3 (nI t) (cc k))) := by
                unfold fX7_call
                rw [y1, Option.bind_some, keep_r, keep_r, if_pos (by decide)]
                exact c1
              have hm : fX8_rate_68 m (nI k) p2 p3 0 = some (z', nI (ratI p2 p3 (nI t) (cc k))) := by
                unfold fX8_rate_68
                rw [can_eq, Option.bind_some, keep_r]
                dsimp only
                have c2' : fX8_writes z 5 (nI k) p2 p3 0 = some z' := c2
                rw [if_pos rfl, if_neg (by decide), ← hm0, z1, Option.bind_some, keep_r, keep_r, c2', Option.bind_some, keep_r]
              rw [hm, hcall]
              exact ⟨fLog_s y lo, .inl _, z', _, rfl, rfl, c3, fun v q => by cases q; exact ⟨c4, rfl⟩, fun n q => by cases q⟩
            · rw [c_row_n (F := foc k x) h8 hL, Option.bind_some, thrR, if_neg hL, if_neg (by decide)]
              refine sim_fail h rfl (u := 3) (b := 0) ?_ (by decide) rfl
              unfold fX8_rate_67; exact mod_ra68 (by decide)
          · rw [rc2 (by rw [hfc]; exact hR), mod_room_n k5 b2 (by decide) (by rw [h4]; exact fun q => hR q.2), Option.bind_some, if_pos rfl]
            refine sim_fail h rfl (u := 3) (b := 0) ?_ (by decide) rfl
            unfold fX8_rate_67; exact mod_ra68 (by decide)
        · rw [c_ta_n k5 hfV (by rw [hfc]; exact hA), Option.bind_some, thrR, mod_room_n k5 b2 (by decide) (by rw [h4]; exact fun q => hA q.1), Option.bind_some, if_pos rfl]
          refine sim_fail h rfl (u := 3) (b := 0) ?_ (by decide) rfl
          unfold fX8_rate_67; exact mod_ra68 (by decide)
      · have hB2 : 2139095040 < (p3 &&& 2147483647) := Classical.byContradiction hB
        rw [if_neg (i32_nle.mpr hB2), if_pos hB2, Option.bind_some, if_pos rfl, h25]
        exact sim_fail h rfl (u := 2) (b := 0) rfl (by decide) rfl
    · obtain ⟨v1, v2⟩ := val_out hV
      rw [v1, Option.bind_some, thrR, v2, Option.bind_some, if_pos rfl, h25]
      exact sim_fail h rfl (u := 2) (b := 0) rfl (by decide) rfl
  · obtain ⟨k1, k2⟩ := key_out hK
    unfold fX7_rate fX8_rate fX8_rate_24
    have h25 : ∀ s0 : Int32, fX8_rate_25 m p1 p2 p3 0 s0 = some (mThrown_s m 1, 0) := fun s0 => by
      unfold fX8_rate_25
      rw [if_pos rfl]
      exact mod_ra68 (by decide)
    rw [k1, Option.bind_some, thrR, k2, Option.bind_some]
    refine sim_fail h rfl (u := 1) (b := 0) ?_ (by decide) rfl
    have hv : ∃ u, fX8_isValue p2 = some u := by
      by_cases hV : isV p2
      · exact ⟨1, (val_in hV).2⟩
      · exact ⟨0, (val_out hV).2⟩
    obtain ⟨u, hu⟩ := hv
    rw [hu, Option.bind_some]
    unfold fX8_isNumber
    split
    · exact h25 0
    · split
      · rw [Option.bind_some, if_pos rfl]; exact h25 0
      · rw [Option.bind_some, if_neg (show ¬ (1 : Int32) = 0 by decide)]; exact h25 1
theorem sim_append {x : SSt} {m : MSt} {t : Nat} {cc : CC} {ff : Nat → FK} {E : EL} {Mf idf : Nat → Nat} {lvi : Nat} (h : IV x m t cc ff E Mf idf lvi) (p1 p2 : Int32) :
    Sim1 [0, 1, 2] mpA (fk p1) x (lvi + 1) (fX7_append (fk p1) (foc (fk p1) x) p1 p2) (fX8_append m p1 p2) := by
  obtain ⟨⟨h1, h2, h3, h4, h5, h6, h7, h8, h9, h10, h11, h12, h13⟩, hrw⟩ := id h
  have h300 := h8.2.1
  by_cases hK : isN p1 16
  · obtain ⟨k1, k2, k3, k4, k5⟩ := key_in hK
    rw [k3]
    generalize cl p1 = k at *
    obtain ⟨b1, b2, b3, b4, b5⟩ := h7 k k5
    have hT := mod_typeNow k5 b2
    have hfc : fClk (foc k x) = nI t := h2
    have hfV : VR (fV (foc k x)) (cc k) (ff k) := b1
    unfold fX7_append fX8_append
    rw [k1, Option.bind_some, thrL, k2, Option.bind_some, if_neg (show ¬ (1 : Int32) = 0 by decide), k4, hT, Option.bind_some]
    by_cases hV : isV p2
    · obtain ⟨v1, v2⟩ := val_in hV
      rw [v1, Option.bind_some, thrL]
      have bad : fX8_append_46 m (nI k) p2 1 = some (mThrown_s m 3, 0) := by
        unfold fX8_append_46 fX8_append_47 fX8_append_85
        rw [if_neg (show ¬ (1 : Int32) = 0 by decide), v2, Option.bind_some, if_neg (show ¬ (1 : Int32) = 0 by decide), if_pos rfl]
        exact mod_ap86 (by decide)
      by_cases hA : tyN (cc k) (nI t) = 0 ∨ tyN (cc k) (nI t) = 4
      · rw [c_ta_y k5 hfV (by rw [hfc]; exact hA), Option.bind_some, thrL]
        have hA2 := tyN_or hA
        by_cases hR : thC (cc k) (nI t) = true → (cL (cc k)).length < 40
        · rw [c_room_y k5 hfV (by rw [hfc]; exact hR), Option.bind_some, thrL]
          have hm20 : fX8_append_18 m (nI k) p2 1 (tyN (cc k) (mNow m)) = fX8_append_42 m (nI k) p2 1 := by
            unfold fX8_append_18
            rw [h4]
            by_cases e0 : tyN (cc k) (nI t) = 0
            · rw [if_pos e0]
            · have e1 : tyN (cc k) (nI t) = 4 := by rcases hA with q | q; exact absurd q e0; exact q
              have eth := (tyN_is (by decide) e1).1
              rw [if_neg e0, if_pos e1, inb_nI k5 (by omega), chk_r, nI_clamp (by omega), (b2.ml (thC_T eth)).1, d40, if_neg (nI_ge (hR eth) (by omega))]
          rw [hm20]
          unfold fX8_append_42 fX8_append_47
          rw [if_neg (show ¬ (1 : Int32) = 0 by decide), v2, Option.bind_some, if_neg (show ¬ (1 : Int32) = 0 by decide), if_neg (show ¬ (1 : Int32) = 0 by decide), full_eq h9 h300, Option.bind_some]
          by_cases hL : E.length < 300
          · rw [c_row_y (F := foc k x) h8 hL, Option.bind_some, thrL, if_pos hL, if_pos rfl]
            obtain ⟨m1, hm1⟩ : ∃ z, z = mThrown_s m 0 := ⟨_, rfl⟩
            have hI1 : IV x m1 t cc ff E Mf idf lvi := by rw [hm1]; exact iv_seq h seq_Thrown
            have hth1 : mThrown m1 = 0 := by rw [hm1]; rfl
            obtain ⟨m0, hm0⟩ : ∃ z, z = mWriting_s m1 (mRows m1) := ⟨_, rfl⟩
            have hI0 : IV x m0 t cc ff E Mf idf lvi := by rw [hm0]; exact iv_seq hI1 seq_Writing
            have hth : mThrown m0 = 0 := by rw [hm0]; exact hth1
            have hnow : mNow m0 = nI t := hI0.1.2.2.2.1
            have hwr : mWriting m0 = nI E.length := by
              rw [hm0]
              show mRows m1 = nI E.length
              rw [hI1.1.2.2.2.2.2.2.2.2.1.1]
              exact congrArg nI (List.length_map _)
            have hok : thC (cc k) (nI t) = true → cT (cc k) = 4 ∧ (cL (cc k)).length < 40 := fun q => ⟨hA2 q, hR q⟩
            have hr : okR (6, nI k, p2, 0, 0, nI t) (cc k) := ⟨⟨k, k5, rfl⟩, ⟨t, by omega, rfl⟩, Or.inr (Or.inr (Or.inr (Or.inr (Or.inr (Or.inl ⟨rfl, hV, rfl, rfl, hok⟩)))))⟩
            obtain ⟨y, y1, y2⟩ := cls_append (x := foc k x) (a := p2) k5 hfV 0 0 (by rw [hfc]; exact hok)
            obtain ⟨z, z1, z2⟩ := mod_appends k5 (hI0.1.2.2.2.2.2.2.1 k k5).2.1 (a := p2) (by rw [hnow]; exact hok)
            rw [hfc] at y1 y2
            rw [hnow] at z1 z2
            have hmk : mkB (6, nI k, p2, 0, 0, nI t) (cc k) = !thC (cc k) (nI t) := mkB_t (Or.inr (Or.inr (Or.inr rfl)))
            rw [← hmk] at y2 z2
            obtain ⟨lo, z', c1, c2, c3, c4⟩ := commit (r := (6, nI k, p2, 0, 0, nI t)) k5 hI0 hth hr rfl rfl hL y2 z2 (fun _ => hwr) (nI (cL (appC p2 (nI t) (cc k))).length)
            have hcall : fX7_call k (foc k x) 4 (nI k) p2 0 0 = some (fLog_s y lo, nI (cL (appC p2 (nI t) (cc k))).length) := by
              unfold fX7_call
              rw [y1, Option.bind_some, keep_r, keep_r, if_pos (by decide)]
              exact c1
            have hm : fX8_append_86 m (nI k) p2 0 = some (z', nI (cL (appC p2 (nI t) (cc k))).length) := by
              unfold fX8_append_86
              rw [can_eq, Option.bind_some, keep_r]
              dsimp only
              have c2' : fX8_writes z 6 (nI k) p2 0 0 = some z' := c2
              rw [if_pos rfl, if_neg (by decide), ← hm1, keep_r, ← hm0, z1, Option.bind_some, keep_r, keep_r, c2', Option.bind_some, keep_r]
            rw [hm, hcall]
            exact ⟨fLog_s y lo, .inl _, z', _, rfl, rfl, c3, fun v q => by cases q; exact ⟨c4, rfl⟩, fun n q => by cases q⟩
          · rw [c_row_n (F := foc k x) h8 hL, Option.bind_some, thrR, if_neg hL, if_neg (by decide)]
            refine sim_fail h rfl (u := 3) (b := 0) ?_ (by decide) rfl
            unfold fX8_append_85; exact mod_ap86 (by decide)
        · rw [c_room_n k5 hfV b3 (by rw [hfc]; exact hR), Option.bind_some, thrR]
          obtain ⟨eth, e40⟩ := Classical.not_imp.mp hR
          have hcap := (ok_T b3 (thC_T eth)).2.2.1
          have e1 : tyN (cc k) (nI t) = 4 := by unfold tyN; rw [if_pos eth]; exact hA2 eth
          refine sim_fail h rfl (u := 3) (b := 0) ?_ (by decide) rfl
          unfold fX8_append_18
          rw [h4, e1, if_neg (by decide), if_pos rfl, inb_nI k5 (by omega), chk_r, nI_clamp (by omega), (b2.ml (thC_T eth)).1, d40, if_pos (nI_le (by omega) (by omega))]
          exact bad
      · rw [c_ta_n k5 hfV (by rw [hfc]; exact hA), Option.bind_some, thrR]
        refine sim_fail h rfl (u := 3) (b := 0) ?_ (by decide) rfl
        unfold fX8_append_18
        rw [h4, if_neg (fun q => hA (Or.inl q)), if_neg (fun q => hA (Or.inr q))]
        exact bad
    · obtain ⟨v1, v2⟩ := val_out hV
      rw [v1, Option.bind_some, thrR]
      refine sim_fail h rfl (u := 2) (b := 0) ?_ (by decide) rfl
      have g : ∀ s0 : Int32, fX8_append_47 m (nI k) p2 1 s0 = some (mThrown_s m 2, 0) := fun s0 => by
        unfold fX8_append_47
        rw [if_neg (show ¬ (1 : Int32) = 0 by decide), v2, Option.bind_some, if_pos rfl]
        exact mod_ap86 (by decide)
      unfold fX8_append_18 fX8_append_46 fX8_append_42
      rw [inb_nI k5 (by omega), chk_r]
      simp only [g, ite_self]
  · obtain ⟨k1, k2⟩ := key_out hK
    unfold fX7_append fX8_append
    rw [k1, Option.bind_some, thrR, k2, Option.bind_some, if_pos rfl]
    refine sim_fail h rfl (u := 1) (b := 0) ?_ (by decide) rfl
    unfold fX8_append_18 fX8_append_42 fX8_append_47
    rw [if_pos rfl, if_pos rfl]
    exact mod_ap86 (by decide)

/-! pop, add, take, rate, append -/
theorem mod_po35 {m : MSt} {p1 p2 u : Int32} (h : u ≠ 0) : fX8_pop_35 m p1 p2 u = some (mThrown_s m u, 0) := by
  unfold fX8_pop_35
  rw [can_eq, Option.bind_some, keep_r]
  dsimp only
  rw [if_neg h, if_pos rfl]
theorem mod_ad47 {m : MSt} {p1 p2 u : Int32} (h : u ≠ 0) : fX8_add_47 m p1 p2 u = some (mThrown_s m u, 0) := by
  unfold fX8_add_47
  rw [can_eq, Option.bind_some, keep_r]
  dsimp only
  rw [if_neg h, if_pos rfl]
theorem mod_ta71 {m : MSt} {p1 p2 u : Int32} (h : u ≠ 0) : fX8_take_71 m p1 p2 u = some (mThrown_s m u, 0) := by
  unfold fX8_take_71
  rw [can_eq, Option.bind_some, keep_r]
  dsimp only
  rw [if_neg h, if_pos rfl]
theorem mod_ra68 {m : MSt} {p1 p2 p3 u : Int32} (h : u ≠ 0) : fX8_rate_68 m p1 p2 p3 u = some (mThrown_s m u, 0) := by
  unfold fX8_rate_68
  rw [can_eq, Option.bind_some, keep_r]
  dsimp only
  rw [if_neg h, if_pos rfl]
theorem mod_ap86 {m : MSt} {p1 p2 u : Int32} (h : u ≠ 0) : fX8_append_86 m p1 p2 u = some (mThrown_s m u, 0) := by
  unfold fX8_append_86
  rw [can_eq, Option.bind_some, keep_r]
  dsimp only
  rw [if_neg h, if_pos rfl]
theorem tyN_is {c : CK} {now t : Int32} (h0 : t ≠ 0) (e : tyN c now = t) : thC c now = true ∧ cT c = t := by
  unfold tyN at e
  split at e
  · exact ⟨by assumption, e⟩
  · exact absurd e.symm h0
theorem mod_room {m : MSt} {k : Nat} {c : CK} {f : FK} (hk : k < 16) (h : MR m k c f) {kd : Int32} (h0 : kd ≠ 0) (v : Int32) : fX8_hasRoom m (nI k) kd v = some (if (tyN c (mNow m) = 0 ∨ tyN c (mNow m) = kd) ∧ (thC c (mNow m) = true → (cL c).length < 40 ∨ fnd (cL c) v = true) then 1 else 0) := by
  unfold fX8_hasRoom
  rw [mod_typeNow hk h, Option.bind_some]
  by_cases e0 : tyN c (mNow m) = 0
  · have nt : ¬ thC c (mNow m) = true := fun q => by
      unfold tyN at e0; rw [if_pos q] at e0; exact thC_T q e0
    rw [if_pos e0, if_pos ⟨Or.inl e0, fun q => absurd q nt⟩]
  · rw [if_neg e0]
    by_cases e1 : tyN c (mNow m) = kd
    · obtain ⟨q1, q2⟩ := tyN_is h0 e1
      have hML := h.ml (thC_T q1)
      have h40 := hML.2.1
      rw [if_pos e1, inb_nI hk (by omega), chk_r, nI_clamp (by omega), hML.1, d40]
      by_cases e2 : (cL c).length < 40
      · rw [if_pos (nI_lt e2 (by omega)), if_pos ⟨Or.inr e1, fun _ => Or.inl e2⟩]
      · rw [if_neg (nI_nlt (by omega) (by omega)), mod_find hk hML, Option.bind_some]
        by_cases e3 : fnd (cL c) v = true
        · rw [if_neg (fun q => by rw [plc_iff (by omega), e3] at q; cases q), if_pos ⟨Or.inr e1, fun _ => Or.inr e3⟩]
        · rw [if_pos ((plc_iff (by omega)).mpr (by simpa using e3)), if_neg (fun q => by
            rcases q.2 q1 with w | w
            · exact e2 w
            · exact e3 w)]
    · rw [if_neg e1, if_neg (fun q => by
        rcases q.1 with w | w
        · exact e0 w
        · exact e1 w)]
theorem mod_room_y {m : MSt} {k : Nat} {c : CK} {f : FK} (hk : k < 16) (h : MR m k c f) {kd : Int32} (h0 : kd ≠ 0) {v : Int32} (e : (tyN c (mNow m) = 0 ∨ tyN c (mNow m) = kd) ∧ (thC c (mNow m) = true → (cL c).length < 40 ∨ fnd (cL c) v = true)) : fX8_hasRoom m (nI k) kd v = some 1 := by
  rw [mod_room hk h h0, if_pos e]
theorem mod_room_n {m : MSt} {k : Nat} {c : CK} {f : FK} (hk : k < 16) (h : MR m k c f) {kd : Int32} (h0 : kd ≠ 0) {v : Int32} (e : ¬ ((tyN c (mNow m) = 0 ∨ tyN c (mNow m) = kd) ∧ (thC c (mNow m) = true → (cL c).length < 40 ∨ fnd (cL c) v = true))) : fX8_hasRoom m (nI k) kd v = some 0 := by
  rw [mod_room hk h h0, if_neg e]
theorem sim_pop {x : SSt} {m : MSt} {t : Nat} {cc : CC} {ff : Nat → FK} {E : EL} {Mf idf : Nat → Nat} {lvi : Nat} (h : IV x m t cc ff E Mf idf lvi) (p1 : Int32) {p2 : Int32} (hb : bit p2) :
    Sim1 [0, 2] mpB (fk p1) x (lvi + 1) (fX7_pop (fk p1) (foc (fk p1) x) p1 p2) (fX8_pop m p1 p2) := by
  obtain ⟨⟨h1, h2, h3, h4, h5, h6, h7, h8, h9, h10, h11, h12, h13⟩, hrw⟩ := id h
  have h300 := h8.2.1
  by_cases hK : isN p1 16
  · obtain ⟨k1, k2, k3, k4, k5⟩ := key_in hK
    rw [k3]
    generalize cl p1 = k at *
    obtain ⟨b1, b2, b3, b4, b5⟩ := h7 k k5
    have hT := mod_typeNow k5 b2
    have hfc : fClk (foc k x) = nI t := h2
    have hfV : VR (fV (foc k x)) (cc k) (ff k) := b1
    unfold fX7_pop fX8_pop
    rw [k1, Option.bind_some, thrL, k2, Option.bind_some, if_neg (show ¬ (1 : Int32) = 0 by decide), k4, hT, Option.bind_some, h4]
    by_cases hA : tyN (cc k) (nI t) = 1
    · rw [c_ty_y k5 hfV (by rw [hfc]; exact hA), Option.bind_some, thrL, if_pos hA, full_eq h9 h300, Option.bind_some]
      obtain ⟨q1, q2⟩ := tyN_is (by decide) hA
      by_cases hL : E.length < 300
      · rw [c_row_y (F := foc k x) h8 hL, Option.bind_some, thrL, if_pos hL, if_pos rfl]
        obtain ⟨m0, hm0⟩ : ∃ z, z = mThrown_s m 0 := ⟨_, rfl⟩
        have hI0 : IV x m0 t cc ff E Mf idf lvi := by rw [hm0]; exact iv_seq h seq_Thrown
        have hth : mThrown m0 = 0 := by rw [hm0]; rfl
        have h0 : 0 < (cL (cc k)).length := (ok_T b3 (thC_T q1)).2.2.2.1 (by rw [q2]; decide)
        have hr : okR (2, nI k, p2, 0, 0, nI t) (cc k) := ⟨⟨k, k5, rfl⟩, ⟨t, by omega, rfl⟩, Or.inr (Or.inl ⟨rfl, hb, rfl, rfl, q1, q2⟩)⟩
        have hpi := popI_lt (a := p2) h0
        obtain ⟨y, y1, y2⟩ := cls_pop (x := foc k x) k5 hfV 0 0 hb q2 h0 hpi
        obtain ⟨z, z1, z2⟩ := mod_pops k5 (hI0.1.2.2.2.2.2.2.1 k k5).2.1 (b := p2) q2 h0 hpi
        generalize hpv : (cL (cc k))[popI p2 (cc k)].1 = pv at y1 z1
        obtain ⟨lo, z', c1, c2, c3, c4⟩ := commit (r := (2, nI k, p2, 0, 0, nI t)) k5 hI0 hth hr rfl rfl hL y2 z2 (fun q => absurd (show (2 : Int32) = 6 from q) (by decide)) pv
        have hcall : fX7_call k (foc k x) 2 (nI k) p2 0 0 = some (fLog_s y lo, pv) := by
          unfold fX7_call
          rw [y1, Option.bind_some, keep_r, keep_r, if_pos (by decide)]
          exact c1
        have hpop : fX8_pop_35 m (nI k) p2 0 = some (z', pv) := by
          unfold fX8_pop_35 fX8_pop_63
          rw [can_eq, Option.bind_some, keep_r]
          dsimp only
          rw [if_pos rfl, if_neg (by decide), ← hm0, z1, Option.bind_some, keep_r, keep_r]
          have c2' : fX8_writes z 2 (nI k) p2 0 0 = some z' := c2
          rcases hb with q | q
          · have : fX8_writes z 2 (nI k) 0 0 0 = some z' := by rw [← c2', q]
            rw [if_pos q, this, Option.bind_some, keep_r]
          · have : fX8_writes z 2 (nI k) 1 0 0 = some z' := by rw [← c2', q]
            rw [if_neg (by rw [q]; decide), this, Option.bind_some, keep_r]
        rw [hpop]
        refine ⟨fLog_s y lo, (.inl pv), _, _, ?_, rfl, c3, fun v q => ?_, fun n q => by cases q⟩
        · unfold fX7_pop_26
          rcases hb with q | q
          · have : fX7_call k (foc k x) 2 (nI k) 0 0 0 = fX7_call k (foc k x) 2 (nI k) p2 0 0 := by rw [q]
            rw [if_pos q, this, hcall, Option.bind_some, keep_r]
          · have : fX7_call k (foc k x) 2 (nI k) 1 0 0 = fX7_call k (foc k x) 2 (nI k) p2 0 0 := by rw [q]
            rw [if_neg (by rw [q]; decide), this, hcall, Option.bind_some, keep_r]
        · cases q; exact ⟨c4, rfl⟩
      · rw [c_row_n (F := foc k x) h8 hL, Option.bind_some, thrR, if_neg hL, if_neg (by decide)]
        refine sim_fail h rfl (u := 2) (b := 0) ?_ (by decide) rfl
        unfold fX8_pop_34; exact mod_po35 (by decide)
    · rw [c_ty_n k5 hfV (by rw [hfc]; exact hA), Option.bind_some, thrR, if_neg hA]
      refine sim_fail h rfl (u := 2) (b := 0) ?_ (by decide) rfl
      unfold fX8_pop_34; exact mod_po35 (by decide)
  · obtain ⟨k1, k2⟩ := key_out hK
    unfold fX7_pop fX8_pop
    rw [k1, Option.bind_some, thrR, k2, Option.bind_some, if_pos rfl]
    exact sim_fail h rfl (u := 1) (b := 0) (mod_po35 (by decide)) (by decide) rfl
/-- add and rate: whether there is room -/
theorem room_c {F : FSt} {c : CK} {f : FK} {k : Nat} (hk : k < 16) (h : VR (fV F) c f) (hc : okCK c) {v : Int32} (hv : isV v) {α : Type} (A : FSt → Option (α × (Int32 ⊕ Nat))) (G : Option (α × (Int32 ⊕ Nat))) (B : Nat → Option (α × (Int32 ⊕ Nat))) :
    ((thC c (fClk F) = true → (cL c).length < 40 ∨ fnd (cL c) v = true) → (fX7_placeIn k F (nI k) v).bind (fun u25 => (if u25 = (-1) then (fX7_needRoom k F (nI k)).bind (fun u28 => thr u28 B (fun _ => G)) else G)) = G) ∧
    (¬ (thC c (fClk F) = true → (cL c).length < 40 ∨ fnd (cL c) v = true) → (fX7_placeIn k F (nI k) v).bind (fun u25 => (if u25 = (-1) then (fX7_needRoom k F (nI k)).bind (fun u28 => thr u28 B (fun _ => G)) else G)) = B 2) := by
  rw [c_place hk h hv, Option.bind_some]
  constructor
  · intro q
    by_cases e : thC c (fClk F) = true
    · have h40 := (ok_T hc (thC_T e)).2.2.1
      rw [if_pos e]
      by_cases e2 : fnd (cL c) v = true
      · rw [if_neg (fun w => by rw [plc_iff (by omega), e2] at w; cases w)]
      · rw [if_pos ((plc_iff (by omega)).mpr (by simpa using e2)), c_room_y hk h (fun _ => by
          rcases q e with w | w
          · exact w
          · exact absurd w e2), Option.bind_some]; rfl
    · rw [if_neg e, if_pos rfl, c_room_y hk h (fun w => absurd w e), Option.bind_some]; rfl
  · intro q
    obtain ⟨e, e2⟩ := Classical.not_imp.mp q
    have h40 := (ok_T hc (thC_T e)).2.2.1
    rw [if_pos e, if_pos ((plc_iff (by omega)).mpr (by
      cases w : fnd (cL c) v with
      | false => rfl
      | true => exact absurd (Or.inr w) e2)), c_room_n hk h hc (fun w => e2 (Or.inl (w e))), Option.bind_some]; rfl
theorem mkC_th {c : CK} {t now : Int32} (h : thC c now = true) : mkC t c now = c := if_pos h
theorem mkF_th {c : CK} {f : FK} {now : Int32} (h : thC c now = true) : mkF c f now = f := if_pos h
theorem sim_add {x : SSt} {m : MSt} {t : Nat} {cc : CC} {ff : Nat → FK} {E : EL} {Mf idf : Nat → Nat} {lvi : Nat} (h : IV x m t cc ff E Mf idf lvi) (p1 p2 : Int32) :
    Sim1 [0, 1, 2] mpA (fk p1) x (lvi + 1) (fX7_add (fk p1) (foc (fk p1) x) p1 p2) (fX8_add m p1 p2) := by
  obtain ⟨⟨h1, h2, h3, h4, h5, h6, h7, h8, h9, h10, h11, h12, h13⟩, hrw⟩ := id h
  have h300 := h8.2.1
  by_cases hK : isN p1 16
  · obtain ⟨k1, k2, k3, k4, k5⟩ := key_in hK
    rw [k3]
    generalize cl p1 = k at *
    obtain ⟨b1, b2, b3, b4, b5⟩ := h7 k k5
    have hfc : fClk (foc k x) = nI t := h2
    have hfV : VR (fV (foc k x)) (cc k) (ff k) := b1
    unfold fX7_add fX8_add
    rw [k1, Option.bind_some, thrL, k2, Option.bind_some, if_neg (show ¬ (1 : Int32) = 0 by decide), k4]
    by_cases hV : isV p2
    · obtain ⟨v1, v2⟩ := val_in hV
      rw [v1, Option.bind_some, thrL, v2, Option.bind_some, if_neg (show ¬ (1 : Int32) = 0 by decide)]
      obtain ⟨rc1, rc2⟩ := room_c (α := FSt) k5 hfV b3 hV (fun _ => none) (fX7_add_29 k (foc k x) (nI k) p2) (fun k30 => some (foc k x, .inr k30))
      by_cases hA : tyN (cc k) (nI t) = 0 ∨ tyN (cc k) (nI t) = 2
      · rw [c_ta_y k5 hfV (by rw [hfc]; exact hA), Option.bind_some, thrL]
        have hA2 := tyN_or hA
        by_cases hR : thC (cc k) (nI t) = true → (cL (cc k)).length < 40 ∨ fnd (cL (cc k)) p2 = true
        · rw [rc1 (by rw [hfc]; exact hR), mod_room_y k5 b2 (by decide) (by rw [h4]; exact ⟨hA, hR⟩), Option.bind_some, if_neg (show ¬ (1 : Int32) = 0 by decide), full_eq h9 h300, Option.bind_some]
          unfold fX7_add_29
          by_cases hL : E.length < 300
          · rw [c_row_y (F := foc k x) h8 hL, Option.bind_some, thrL, if_pos hL, if_pos rfl]
            obtain ⟨m1, hm1⟩ : ∃ z, z = mThrown_s m 0 := ⟨_, rfl⟩
            have hI1 : IV x m1 t cc ff E Mf idf lvi := by rw [hm1]; exact iv_seq h seq_Thrown
            have hth1 : mThrown m1 = 0 := by rw [hm1]; rfl
            obtain ⟨m0, hm0⟩ : ∃ z, z = mWriting_s m1 (mRows m1) := ⟨_, rfl⟩
            have hI0 : IV x m0 t cc ff E Mf idf lvi := by rw [hm0]; exact iv_seq hI1 seq_Writing
            have hth : mThrown m0 = 0 := by rw [hm0]; exact hth1
            have hnow : mNow m0 = nI t := hI0.1.2.2.2.1
            have hok : thC (cc k) (nI t) = true → cT (cc k) = 2 ∧ ((cL (cc k)).length < 40 ∨ fnd (cL (cc k)) p2 = true) := fun q => ⟨hA2 q, hR q⟩
            have hr : okR (3, nI k, p2, 0, 0, nI t) (cc k) := ⟨⟨k, k5, rfl⟩, ⟨t, by omega, rfl⟩, Or.inr (Or.inr (Or.inl ⟨rfl, hV, rfl, rfl, hok⟩))⟩
            obtain ⟨y, y1, y2⟩ := cls_add (x := foc k x) k5 hfV b3 0 0 hV (by rw [hfc]; exact hok)
            obtain ⟨z, z1, z2⟩ := mod_adds k5 (hI0.1.2.2.2.2.2.2.1 k k5).2.1 b3 b4.2 (a := p2) (by rw [hnow]; exact hok)
            rw [hfc] at y1 y2
            rw [hnow] at z1 z2
            by_cases hF : fnd (cL (mkC 2 (cc k) (nI t))) p2 = true
            · have eth : thC (cc k) (nI t) = true := by
                rcases mkC_fnd (t := 2) (now := nI t) (a := p2) (c := cc k) with w | w
                · rw [w] at hF; cases hF
                · exact w
              have e1 : addC p2 (nI t) (cc k) = cc k := by unfold addC; rw [if_pos hF, mkC_th eth]
              have e2 : addF p2 (nI t) (cc k) (ff k) = ff k := by unfold addF; rw [if_pos hF, mkF_th eth]
              rw [if_pos hF] at y1 z1
              rw [e1, e2, eth] at y2 z2
              obtain ⟨c3, c4⟩ := quiet k5 hI0 hth y2 z2
              have hcall : fX7_call k (foc k x) 5 (nI k) p2 0 0 = some (y, 0) := by
                unfold fX7_call
                rw [y1, Option.bind_some, keep_r, keep_r, if_neg (by decide), if_pos (show (0 : Int32) ≤ 0 by decide)]
              have hadd : fX8_add_47 m (nI k) p2 0 = some (z, 0) := by
                unfold fX8_add_47
                rw [can_eq, Option.bind_some, keep_r]
                dsimp only
                rw [if_pos rfl, if_neg (by decide), ← hm1, keep_r, ← hm0, z1, Option.bind_some, keep_r, keep_r, if_pos rfl]; rfl
              rw [hadd, hcall]
              refine ⟨y, .inl 0, z, 0, ?_, rfl, c3, fun v q => by cases q; exact ⟨c4, rfl⟩, fun n q => by cases q⟩
              rw [Option.bind_some, keep_r, if_pos (show (0 : Int32) ≤ 0 by decide)]
            · obtain ⟨v, hv, hv2⟩ : ∃ v, v = nI (cL (addC p2 (nI t) (cc k))).length ∧ ¬ v ≤ 0 := by
                refine ⟨_, rfl, ?_⟩
                have hlen : 0 < (cL (addC p2 (nI t) (cc k))).length := by
                  unfold addC; rw [if_neg hF]
                  show 0 < (sins _ _).length
                  rw [sins_len]; omega
                have hcap : (cL (addC p2 (nI t) (cc k))).length ≤ 40 := by
                  have := okCK_op b3 hr
                  rw [opC_3 rfl] at this
                  rcases this with w | w
                  · exfalso
                    have hT2 := mkC_T (t := 2) (c := cc k) (now := nI t) (fun q => (hok q).1)
                    have w2 : cT (addC p2 (nI t) (cc k)) = 0 := w
                    unfold addC at w2; rw [if_neg hF] at w2
                    have w3 : cT (mkC 2 (cc k) (nI t)) = 0 := w2
                    rw [hT2] at w3; exact absurd w3 (by decide)
                  · exact w.2.2.1
                exact nI_nle hlen (by omega)
              rw [if_neg hF, ← hv] at y1
              rw [if_neg hF] at z1
              have hmk : mkB (3, nI k, p2, 0, 0, nI t) (cc k) = !thC (cc k) (nI t) := mkB_t (Or.inr (Or.inl rfl))
              rw [← hmk] at y2 z2
              obtain ⟨lo, z', c1, c2, c3, c4⟩ := commit (r := (3, nI k, p2, 0, 0, nI t)) k5 hI0 hth hr rfl rfl hL y2 z2 (fun q => absurd (show (3 : Int32) = 6 from q) (by decide)) v
              have hcall : fX7_call k (foc k x) 5 (nI k) p2 0 0 = some (fLog_s y lo, v) := by
                unfold fX7_call
                rw [y1, Option.bind_some, keep_r, keep_r, if_neg (by decide), if_neg hv2]
                exact c1
              have hadd : fX8_add_47 m (nI k) p2 0 = some (z', 1) := by
                unfold fX8_add_47
                rw [can_eq, Option.bind_some, keep_r]
                dsimp only
                have c2' : fX8_writes z 3 (nI k) p2 0 0 = some z' := c2
                rw [if_pos rfl, if_neg (by decide), ← hm1, keep_r, ← hm0, z1, Option.bind_some, keep_r, keep_r, if_neg (show ¬ (1 : Int32) = 0 by decide), c2', Option.bind_some, keep_r]; rfl
              rw [hadd, hcall]
              refine ⟨fLog_s y lo, .inl 1, z', 1, ?_, rfl, c3, fun v q => by cases q; exact ⟨c4, rfl⟩, fun n q => by cases q⟩
              rw [Option.bind_some, keep_r, if_neg hv2]
          · rw [c_row_n (F := foc k x) h8 hL, Option.bind_some, thrR, if_neg hL, if_neg (by decide)]
            refine sim_fail h rfl (u := 3) (b := 0) ?_ (by decide) rfl
            unfold fX8_add_46; exact mod_ad47 (by decide)
        · rw [rc2 (by rw [hfc]; exact hR), mod_room_n k5 b2 (by decide) (by rw [h4]; exact fun q => hR q.2), Option.bind_some, if_pos rfl]
          refine sim_fail h rfl (u := 3) (b := 0) ?_ (by decide) rfl
          unfold fX8_add_46; exact mod_ad47 (by decide)
      · rw [c_ta_n k5 hfV (by rw [hfc]; exact hA), Option.bind_some, thrR, mod_room_n k5 b2 (by decide) (by rw [h4]; exact fun q => hA q.1), Option.bind_some, if_pos rfl]
        refine sim_fail h rfl (u := 3) (b := 0) ?_ (by decide) rfl
        unfold fX8_add_46; exact mod_ad47 (by decide)
    · obtain ⟨v1, v2⟩ := val_out hV
      rw [v1, Option.bind_some, thrR, v2, Option.bind_some, if_pos rfl]
      exact sim_fail h rfl (u := 2) (b := 0) (mod_ad47 (by decide)) (by decide) rfl
  · obtain ⟨k1, k2⟩ := key_out hK
    unfold fX7_add fX8_add
    rw [k1, Option.bind_some, thrR, k2, Option.bind_some, if_pos rfl]
    exact sim_fail h rfl (u := 1) (b := 0) (mod_ad47 (by decide)) (by decide) rfl

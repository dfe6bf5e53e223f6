/-! the class writes a key anew -/
theorem kcl_S (k : Int32) : (kcl k = 4 ∨ kcl k = 9 ∨ kcl k = 10 ∨ kcl k = 11) ↔ (k = 6 ∨ k = 7 ∨ k = 8 ∨ k = 9) := by
  constructor
  · intro h
    unfold kcl at h
    split at h
    · simp at h
    · split at h
      · simp at h
      · split at h
        · simp at h
        · split at h
          · simp at h
          · split at h
            · simp at h
            · split at h
              · exact Or.inl (by assumption)
              · split at h
                · exact Or.inr (Or.inl (by assumption))
                · split at h
                  · exact Or.inr (Or.inr (Or.inl (by assumption)))
                  · split at h
                    · exact Or.inr (Or.inr (Or.inr (by assumption)))
                    · split at h
                      · simp at h
                      · simp at h
  · rintro (e | e | e | e) <;> subst e <;> decide
theorem fNew_id (x : FSt) : fNew_s x (fNew x) = x := rfl
theorem cls_copies {x : FSt} {E F : EL} {k id : Nat} (hk : k < 16) (hE : LogC (fLog x) E) (hF : LogC (fNew x) F) (hid : vlId (fV x) = nI id) (hb : id < 2 ^ 31 ∧ ∀ e ∈ E, e.2 < 2 ^ 31) (hl : F.length + (E.filter (fun e => isS k e.1 && decide (e.2 = id))).length ≤ 300) :
    ∃ n, fX7_copyStreamRows k x (nI k) = some (fNew_s x n) ∧ LogC n (F ++ E.filter (fun e => isS k e.1 && decide (e.2 = id))) := by
  have key : Ok (fX7_copyStreamRows k x (nI k)) (fun y => ∃ n, y = fNew_s x n ∧ LogC n (F ++ E.filter (fun e => isS k e.1 && decide (e.2 = id)))) := by
    unfold fX7_copyStreamRows
    have h300 := hE.2.1
    refine ok_iter (fun q s => ∃ i n, q = E.length - i ∧ i ≤ E.length ∧ s = (fNew_s x n, nI i) ∧ LogC n (F ++ (E.take i).filter (fun e => isS k e.1 && decide (e.2 = id)))) _ ?_ FU E.length _ ⟨0, fNew x, rfl, Nat.zero_le _, rfl, by simpa using hF⟩ (by unfold FU; omega)
    rintro q s rec ⟨i, n, hq, hi, rfl, hL⟩ hrec
    unfold fX7_copyStreamRows_2
    dsimp only
    rw [show fLog (fNew_s x n) = fLog x from rfl, hE.1]
    by_cases e : E.length ≤ i
    · rw [if_pos (nI_le e (by omega)), ok_some]
      have : i = E.length := by omega
      subst this
      rw [List.take_length] at hL
      exact ⟨n, rfl, hL⟩
    · have hil : i < E.length := by omega
      obtain ⟨r0, r1, r2, r3, r4, r5, r6⟩ := hE.2.2 i hil
      have c0 : fX3_cell (fLog x) (nI i) 0 = some (kcl (wK E[i].1)) := by rw [show (0 : Int32) = nI 0 from rfl, log_cell hE hil (by omega)]; exact congrArg some r0
      have c1 : fX3_cell (fLog x) (nI i) 1 = some (wY E[i].1) := by rw [show (1 : Int32) = nI 1 from rfl, log_cell hE hil (by omega), r1]
      have c6 : fX3_cell (fLog x) (nI i) 6 = some (nI E[i].2) := by rw [show (6 : Int32) = nI 6 from rfl, log_cell hE hil (by omega), r6]
      have skip : (isS k E[i].1 && decide (E[i].2 = id)) = false → Ok (rec (fNew_s x n, nI (i + 1))) (fun y => ∃ n, y = fNew_s x n ∧ LogC n (F ++ E.filter (fun e => isS k e.1 && decide (e.2 = id)))) := fun w => by
        refine hrec (E.length - (i + 1)) _ (by omega) ⟨i + 1, n, rfl, by omega, rfl, ?_⟩
        rw [List.take_succ_eq_append_getElem hil, List.filter_append, List.filter_cons_of_neg (by rw [w]; decide), List.filter_nil, List.append_nil]
        exact hL
      have of51 : ∀ s0 : Int32, (s0 = 0 ∧ ¬ (wK E[i].1 = 6 ∨ wK E[i].1 = 7 ∨ wK E[i].1 = 8 ∨ wK E[i].1 = 9)) ∨ (s0 = 1 ∧ (wK E[i].1 = 6 ∨ wK E[i].1 = 7 ∨ wK E[i].1 = 8 ∨ wK E[i].1 = 9)) → Ok (fX7_copyStreamRows_51 rec k (fNew_s x n) (nI k) (nI i) s0) (fun y => ∃ n, y = fNew_s x n ∧ LogC n (F ++ E.filter (fun e => isS k e.1 && decide (e.2 = id)))) := fun s0 hs => by
        unfold fX7_copyStreamRows_51
        rw [show fLog (fNew_s x n) = fLog x from rfl, show fV (fNew_s x n) = fV x from rfl, show fNew (fNew_s x n) = n from rfl]
        rcases hs with ⟨rfl, hs⟩ | ⟨rfl, hs⟩
        · rw [if_pos rfl, ok_keep, nI_1]
          refine skip ?_
          cases w : isS k E[i].1 with
          | false => rfl
          | true => exact absurd (isS_iff.mp w).2 hs
        · rw [if_neg (by decide), c1, Option.bind_some]
          by_cases e1 : wY E[i].1 = nI k
          · have hS : isS k E[i].1 = true := isS_iff.mpr ⟨e1, hs⟩
            rw [if_pos e1, c6, Option.bind_some, kyk hk, chk_r, hid]
            by_cases e2 : E[i].2 = id
            · rw [if_pos (by rw [e2])]
              have hpos : (isS k E[i].1 && decide (E[i].2 = id)) = true := by rw [hS, decide_eq_true e2]; rfl
              have hfl : (F ++ (E.take i).filter (fun e => isS k e.1 && decide (e.2 = id))).length + 1 ≤ 300 := by
                have h1 : E = E.take (i + 1) ++ E.drop (i + 1) := (List.take_append_drop (i + 1) E).symm
                rw [h1, List.filter_append, List.take_succ_eq_append_getElem hil, List.filter_append, List.filter_cons_of_pos (p := fun e : RW × Nat => isS k e.1 && decide (e.2 = id)) hpos] at hl
                simp only [List.length_append, List.length_cons] at hl ⊢
                omega
              obtain ⟨y, y1, y2⟩ := log_copy hL hE (i := i) (m := 1) (by omega) hfl
              rw [show (1 : Int32) = nI 1 from rfl, y1, Option.bind_some, ok_keep, ok_keep, nI_add]
              refine hrec (E.length - (i + 1)) _ (by omega) ⟨i + 1, y, rfl, by omega, rfl, ?_⟩
              rw [List.take_succ_eq_append_getElem hil, List.filter_append, List.filter_cons_of_pos (p := fun e : RW × Nat => isS k e.1 && decide (e.2 = id)) hpos, List.filter_nil, ← List.append_assoc]
              rw [List.drop_eq_getElem_cons hil, List.take_succ_cons, List.take_zero] at y2
              exact y2
            · rw [if_neg (by rw [nI_eqE (hb.2 _ (List.getElem_mem hil)) hb.1]; exact e2), ok_keep, nI_1]
              exact skip (by rw [decide_eq_false e2, Bool.and_false])
          · rw [if_neg e1, ok_keep, nI_1]
            refine skip ?_
            cases w : isS k E[i].1 with
            | false => rfl
            | true => exact absurd (isS_iff.mp w).1 e1
      rw [if_neg (nI_ge hil (by omega)), c0, Option.bind_some]
      unfold fX7_copyStreamRows_46
      have hks := kcl_S (wK E[i].1)
      by_cases k4 : kcl (wK E[i].1) = 4
      · rw [if_pos k4]; exact of51 1 (Or.inr ⟨rfl, hks.mp (Or.inl k4)⟩)
      · rw [if_neg k4]
        by_cases k9 : kcl (wK E[i].1) = 9
        · rw [if_pos k9]; exact of51 1 (Or.inr ⟨rfl, hks.mp (Or.inr (Or.inl k9))⟩)
        · rw [if_neg k9]
          by_cases k10 : kcl (wK E[i].1) = 10
          · rw [if_pos k10]; exact of51 1 (Or.inr ⟨rfl, hks.mp (Or.inr (Or.inr (Or.inl k10)))⟩)
          · rw [if_neg k10]
            by_cases k11 : kcl (wK E[i].1) = 11
            · rw [if_pos k11]; exact of51 1 (Or.inr ⟨rfl, hks.mp (Or.inr (Or.inr (Or.inr k11)))⟩)
            · rw [if_neg k11]
              refine of51 0 (Or.inl ⟨rfl, fun w => ?_⟩)
              rcases hks.mpr w with w | w | w | w
              · exact k4 w
              · exact k9 w
              · exact k10 w
              · exact k11 w
  obtain ⟨y, y1, n, rfl, y3⟩ := key
  exact ⟨n, y1, y3⟩
theorem cls_126 {x : FSt} {F : EL} {c : CK} {f : FK} {k id : Nat} (hV : VR (fV x) c f) (h0 : cT c ≠ 0) (hF : LogC (fNew x) F) (hid : vlId (fV x) = nI id) (hl : F.length + (endG k id (fClk x) c).length ≤ 300) :
    ∃ n, fX7_writeAnew_126 k x (nI k) = some (fNew_s x n) ∧ LogC n (F ++ endG k id (fClk x) c) := by
  unfold fX7_writeAnew_126
  unfold endG at hl ⊢
  rw [(hV.2.2.2 h0).1]
  by_cases e : cE c = -1
  · rw [if_pos e, if_pos e, List.append_nil]
    exact ⟨fNew x, rfl, hF⟩
  · rw [if_neg e] at hl
    have hl2 : F.length < 300 := by simp at hl; omega
    obtain ⟨a, a1, b, b1, b2⟩ := log_add hF hl2 (endR (fClk x) k c) id
    have e1 : fX3_addRow (fNew x) 8 (nI k) (cE c - fClk x) 0 0 = some a := by rw [← a1]; rfl
    rw [if_neg e, if_neg e, e1, Option.bind_some, keep_r]
    rw [show fNew (fNew_s x a) = a from rfl, show fClk (fNew_s x a) = fClk x from rfl, show fV (fNew_s x a) = fV x from rfl, hid]
    have e2 : fX3_stampLast a (fClk x) (nI id) = some b := b1
    rw [e2, Option.bind_some, keep_r]
    exact ⟨b, rfl, b2⟩
theorem cls_anew {x : FSt} {E F : EL} {c : CK} {f : FK} {k id : Nat} (hk : k < 16) (hV : VR (fV x) c f) (hc : okCK c) (h0 : cT c ≠ 0) (hE : LogC (fLog x) E) (hF : LogC (fNew x) F) (hid : vlId (fV x) = nI id) (hb : id < 2 ^ 31 ∧ ∀ e ∈ E, e.2 < 2 ^ 31) (hl : F.length + (freshG E k id (fClk x) c).length ≤ 300) :
    ∃ n, fX7_writeAnew k x (nI k) = some (fNew_s x n) ∧ LogC n (F ++ freshG E k id (fClk x) c) := by
  have hT : vlTyp (fV x) = cT c := (hV.2.2.2 h0).2.1.1
  have hVL := hV.VL h0 rfl
  have hcap := (ok_T hc h0).2.2.1
  unfold fX7_writeAnew
  unfold freshG at hl ⊢
  rw [kyk hk, chk_r, hT]
  rw [List.length_append] at hl
  by_cases h4 : cT c = 4
  · have hm : mainG E k id (fClk x) c = E.filter (fun e => isS k e.1 && decide (e.2 = id)) := if_pos h4
    rw [hm] at hl ⊢
    obtain ⟨n, n1, n2⟩ := cls_copies hk hE hF hid hb (by omega)
    rw [if_pos h4, n1, Option.bind_some, keep_r]
    obtain ⟨n', p1, p2⟩ := cls_126 (x := fNew_s x n) (c := c) (f := f) (k := k) (id := id) hV h0 n2 hid (by rw [List.length_append]; show _ + (endG k id (fClk x) c).length ≤ 300; omega)
    rw [p1, ← List.append_assoc]
    exact ⟨n', rfl, p2⟩
  · have hm : mainG E k id (fClk x) c = (cL c).map (fun q => (genR (fClk x) k c q, id)) := if_neg h4
    rw [hm] at hl ⊢
    rw [List.length_map] at hl
    have loop : Ok (iterK FU (fX7_writeAnew_52 k (nI k) (kcl (kdC c))) (x, 0)) (fun y => ∃ n, y = fNew_s x n ∧ LogC n (F ++ ((cL c).map (fun q => (genR (fClk x) k c q, id)) ++ endG k id (fClk x) c))) := by
      refine ok_iter (fun q s => ∃ i n, q = (cL c).length - i ∧ i ≤ (cL c).length ∧ s = (fNew_s x n, nI i) ∧ LogC n (F ++ ((cL c).take i).map (fun q => (genR (fClk x) k c q, id)))) _ ?_ FU (cL c).length _ ⟨0, fNew x, rfl, Nat.zero_le _, rfl, by simpa using hF⟩ (by unfold FU; omega)
      rintro q s rec ⟨i, n, hq, hi, rfl, hL⟩ hrec
      unfold fX7_writeAnew_52
      dsimp only
      rw [show fV (fNew_s x n) = fV x from rfl, val_count hVL, Option.bind_some, hT]
      by_cases e : (cL c).length ≤ i
      · rw [if_pos (nI_le e (by omega))]
        have : i = (cL c).length := by omega
        subst this
        rw [List.take_length] at hL
        obtain ⟨n', p1, p2⟩ := cls_126 (x := fNew_s x n) (c := c) (f := f) (k := k) (id := id) hV h0 hL hid (by rw [List.length_append, List.length_map]; show _ + (endG k id (fClk x) c).length ≤ 300; omega)
        rw [List.append_assoc] at p2
        exact ⟨_, p1, n', rfl, p2⟩
      · have hil : i < (cL c).length := by omega
        rw [if_neg (nI_ge hil (by omega))]
        have one : Ok (fX7_writeAnew_82 rec k (fNew_s x n) (nI k) (kcl (kdC c)) (nI i) (sdC c (cL c)[i])) (fun y => ∃ n, y = fNew_s x n ∧ LogC n (F ++ ((cL c).map (fun q => (genR (fClk x) k c q, id)) ++ endG k id (fClk x) c))) := by
          unfold fX7_writeAnew_82
          obtain ⟨a, a1, b, b1, b2⟩ := log_add hL (by rw [List.length_append, List.length_map, List.length_take]; omega) (genR (fClk x) k c (cL c)[i]) id
          have hne : wK (genR (fClk x) k c (cL c)[i]) ≠ 11 := by
            show kdC c ≠ 11
            unfold kdC; split
            · decide
            · split <;> decide
          have e1 : fX3_addRow n (kcl (kdC c)) (nI k) (cL c)[i].1 (sdC c (cL c)[i]) 0 = some a := by
            rw [← a1, fst_o hne]; rfl
          have e2 : fX3_stampLast a (fClk x) (nI id) = some b := b1
          rw [show fV (fNew_s x n) = fV x from rfl, row_valueAt hVL.2.1, Option.bind_some, vat_nI hil (by omega), show fNew (fNew_s x n) = n from rfl, e1, Option.bind_some, ok_keep, show fNew (fNew_s (fNew_s x n) a) = a from rfl, show fClk (fNew_s (fNew_s x n) a) = fClk x from rfl, show fV (fNew_s (fNew_s x n) a) = fV x from rfl, hid, e2, Option.bind_some, ok_keep, ok_keep, nI_1]
          refine hrec ((cL c).length - (i + 1)) _ (by omega) ⟨i + 1, b, rfl, by omega, rfl, ?_⟩
          rw [List.take_succ_eq_append_getElem hil, List.map_append, ← List.append_assoc]
          exact b2
        by_cases e1 : cT c = 1
        · rw [if_pos e1]
          have : sdC c (cL c)[i] = 1 := if_pos e1
          rw [this] at one
          exact one
        · rw [if_neg e1, row_bitsAt hVL.2.1, Option.bind_some, bat_nI hil (by omega)]
          have : sdC c (cL c)[i] = (cL c)[i].2 := if_neg e1
          rw [this] at one
          exact one
    rw [if_neg h4]
    rcases (ok_T hc h0).1 with e | e | e | e
    · have : kcl (kdC c) = 1 := by unfold kdC; rw [if_pos e]; rfl
      rw [this] at loop
      obtain ⟨y, y1, n, rfl, y3⟩ := loop
      rw [if_pos e]; exact ⟨n, y1, y3⟩
    · have n1 : ¬ cT c = 1 := by rw [e]; decide
      have : kcl (kdC c) = 5 := by unfold kdC; rw [if_neg n1, if_pos e]; rfl
      rw [this] at loop
      obtain ⟨y, y1, n, rfl, y3⟩ := loop
      rw [if_neg n1, if_pos e]; exact ⟨n, y1, y3⟩
    · have n1 : ¬ cT c = 1 := by rw [e]; decide
      have n2 : ¬ cT c = 2 := by rw [e]; decide
      have : kcl (kdC c) = 3 := by unfold kdC; rw [if_neg n1, if_neg n2]; rfl
      rw [this] at loop
      obtain ⟨y, y1, n, rfl, y3⟩ := loop
      rw [if_neg n1, if_neg n2]; exact ⟨n, y1, y3⟩
    · exact absurd e h4

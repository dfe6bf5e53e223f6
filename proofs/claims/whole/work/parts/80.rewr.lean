/-! rewrite -/
def frs (E : EL) (idf : Nat → Nat) (now : Int32) (cc : CC) : Nat → EL
  | 0 => []
  | n + 1 => frs E idf now cc n ++ if thC (cc n) now = true then freshG E n (idf n) now (cc n) else []
def cth (cc : CC) (now : Int32) (n : Nat) : Nat := (List.range n).countP (fun k => thC (cc k) now)
theorem cth_s {cc : CC} {now : Int32} {n : Nat} : cth cc now (n + 1) = cth cc now n + if thC (cc n) now = true then 1 else 0 := by
  unfold cth
  rw [List.range_succ, List.countP_append, List.countP_cons, List.countP_nil, Nat.zero_add]
theorem cth_le {cc : CC} {now : Int32} {n : Nat} : cth cc now n ≤ n := Nat.le_trans List.countP_le_length (by rw [List.length_range]; exact Nat.le_refl _)
theorem rws_fresh {E : EL} {M id k : Nat} {now : Int32} {c : CK} (h : LIk E M id now k c) (ht : thC c now = true) : rws (freshG E k id now c) = mnR (rws E) k M now c ++ edR k now c := by
  unfold freshG mnR edR endG
  rw [rws_app]
  congr 1
  · unfold mainG
    by_cases h4 : cT c = 4
    · obtain ⟨q1, q2, q5⟩ := h.2.2 ht h4
      rw [if_pos h4, if_pos h4, show E.filter (fun e => isS k e.1 && decide (e.2 = id)) = (E.drop M).filter (fun e => isS k e.1) from q5, rws_filter]
      unfold rws
      rw [List.map_drop]
    · rw [if_neg h4, if_neg h4]
      unfold rws
      rw [List.map_map]; rfl
  · split <;> rfl
/-- what the new rows are, key by key -/
theorem frs_ok {E : EL} {Mf idf : Nat → Nat} {t : Nat} {cc : CC} {lvi : Nat} (hLI : LI E Mf idf (nI t) cc lvi) (h6 : t ≤ 1000000) (hok : ∀ k, k < 16 → okCK (cc k) ∧ lzC (cc k)) (hid : ∀ k, k < 16 → idf k ≤ lvi) : ∀ n, n ≤ 16 →
    (frs E idf (nI t) cc n).length ≤ cntLt n E ∧ (∀ e ∈ frs E idf (nI t) cc n, ∃ j, j < n ∧ wY e.1 = nI j ∧ thC (cc j) (nI t) = true ∧ e.2 ≤ lvi) ∧ ∀ k, k < n → LIk (frs E idf (nI t) cc n) (frs E idf (nI t) cc k).length (idf k) (nI t) k (cc k) := by
  intro n
  induction n with
  | zero => intro _; exact ⟨Nat.zero_le _, fun e he => (nomatch he), fun k hk => absurd hk (Nat.not_lt_zero k)⟩
  | succ n ih =>
    intro hn
    obtain ⟨i1, i2, i3⟩ := ih (by omega)
    have hne : ∀ k, k < n → nI n ≠ nI k := fun k hk q => by
      have := (nI_eqE (by omega) (by omega)).mp q
      omega
    have hF : ∀ e ∈ frs E idf (nI t) cc n, wY e.1 ≠ nI n := fun e he q => by
      obtain ⟨j, j1, j2, -⟩ := i2 e he
      exact hne j j1 (q.symm.trans j2)
    have htN : isN (nI t) 1000001 := ⟨t, by omega, rfl⟩
    show (frs E idf (nI t) cc n ++ if thC (cc n) (nI t) = true then freshG E n (idf n) (nI t) (cc n) else []).length ≤ _ ∧ _
    rw [cntLt_s (by omega)]
    by_cases ht : thC (cc n) (nI t) = true
    · have hu : frs E idf (nI t) cc (n + 1) = frs E idf (nI t) cc n ++ freshG E n (idf n) (nI t) (cc n) := by
        show frs E idf (nI t) cc n ++ (if thC (cc n) (nI t) = true then freshG E n (idf n) (nI t) (cc n) else []) = _
        rw [if_pos ht]
      obtain ⟨g1, g2, g3⟩ := (hLI.1 n (by omega)).fresh (F := frs E idf (nI t) cc n) (by omega) (hok n (by omega)).1 (hok n (by omega)).2 ht htN hF
      rw [if_pos ht, hu]
      refine ⟨by rw [List.length_append]; omega, fun e he => ?_, fun k hk => ?_⟩
      · rcases List.mem_append.mp he with w | w
        · obtain ⟨j, j1, j2⟩ := i2 e w
          exact ⟨j, by omega, j2⟩
        · exact ⟨n, by omega, (g3 e w).1, ht, by rw [(g3 e w).2]; exact hid n (by omega)⟩
      · by_cases e : k = n
        · subst e; exact g1
        · exact (i3 k (by omega)).oth (fun e' he' q => hne k (by omega) ((g3 e' he').1.symm.trans q))
    · have hu : frs E idf (nI t) cc (n + 1) = frs E idf (nI t) cc n := by
        show frs E idf (nI t) cc n ++ (if thC (cc n) (nI t) = true then freshG E n (idf n) (nI t) (cc n) else []) = _
        rw [if_neg ht, List.append_nil]
      have ht' : thC (cc n) (nI t) = false := by simpa using ht
      rw [if_neg ht, List.append_nil, hu]
      refine ⟨by omega, fun e he => ?_, fun k hk => ?_⟩
      · obtain ⟨j, j1, j2⟩ := i2 e he
        exact ⟨j, by omega, j2⟩
      · by_cases e : k = n
        · subst e; exact LIk.none ht' htN hF
        · exact i3 k (by omega)
/-- the class in the midst of it -/
def RwC (x y : SSt) (B w : Nat) (F : EL) : Prop := sRar y = nI B ∧ sKtw y = nI w ∧ sClk y = sClk x ∧ sLs y = sLs x ∧ sLvi y = sLvi x ∧ sLog y = sLog x ∧ sV y = sV x ∧ LogC (sNew y) F
theorem cls_rewrite {x : SSt} {m : MSt} {t : Nat} {cc : CC} {ff : Nat → FK} {E : EL} {Mf idf : Nat → Nat} {lvi : Nat} (h : I0 x m t cc ff E Mf idf lvi) (hlim : lvi < 2 ^ 31) :
    ∃ y, fX7_rewrite x = some (y, nI (cth cc (nI t) 16)) ∧ RwC x y E.length (cth cc (nI t) 16) (frs E idf (nI t) cc 16) := by
  obtain ⟨h1, h2, h3, h4, h5, h6, h7, h8, h9, h10, h11, h12, h13⟩ := h
  have hfr := frs_ok h10 h1 (fun k hk => ⟨(h7 k hk).2.2.1, (h7 k hk).2.2.2.2⟩) (fun k hk => (h11 k hk).2)
  have key : Ok (fX7_rewrite x) (fun r => r.2 = nI (cth cc (nI t) 16) ∧ RwC x r.1 E.length (cth cc (nI t) 16) (frs E idf (nI t) cc 16)) := by
    unfold fX7_rewrite
    obtain ⟨n0, n1, n2⟩ := log_empty (sNew x)
    rw [n1, Option.bind_some, ok_keep, ok_keep, ok_keep]
    refine ok_iter (fun (n : Nat) (st : SSt × Int32) => ∃ i, n = 16 - i ∧ i ≤ 16 ∧ st.2 = nI i ∧ RwC x st.1 E.length (cth cc (nI t) i) (frs E idf (nI t) cc i)) _ ?_ FU 16 _ ⟨0, rfl, by omega, rfl, ⟨h8.1, rfl, rfl, rfl, rfl, rfl, rfl, n2⟩⟩ (by unfold FU; omega)
    rintro n ⟨y, v⟩ rec ⟨i, hn, hi, hv, hy⟩ hrec
    dsimp only at hv hy
    subst hv
    obtain ⟨y1, y2, y3, y4, y5, y6, y7, y8⟩ := id hy
    unfold fX7_rewrite_25
    dsimp only
    rw [d16]
    by_cases e : 16 ≤ i
    · have : i = 16 := by omega
      subst this
      rw [if_pos (nI_le e (by omega)), ok_some]
      exact ⟨y2, hy⟩
    · have hcl : (nI i).toNatClampNeg = i := nI_clamp (by omega)
      obtain ⟨b1, b2, b3, b4, b5⟩ := h7 i (by omega)
      have hfV : VR (fV (foc i y)) (cc i) (ff i) := by show VR (sV y i) _ _; rw [y7]; exact b1
      have hfc : fClk (foc i y) = nI t := y3.trans h2
      rw [if_neg (nI_ge (by omega) (by omega)), hcl, decide_eq_true (show i < 16 by omega), chk_r, c_there (by omega) hfV, Option.bind_some, hfc]
      by_cases ht : thC (cc i) (nI t) = true
      · obtain ⟨l1, l2, l3⟩ := hfr (i + 1) (by omega)
        have hu : frs E idf (nI t) cc (i + 1) = frs E idf (nI t) cc i ++ freshG E i (idf i) (nI t) (cc i) := by
          show frs E idf (nI t) cc i ++ (if thC (cc i) (nI t) = true then freshG E i (idf i) (nI t) (cc i) else []) = _
          rw [if_pos ht]
        have hlen : (frs E idf (nI t) cc i).length + (freshG E i (idf i) (fClk (foc i y)) (cc i)).length ≤ 300 := by
          rw [hfc, ← List.length_append, ← hu]
          exact Nat.le_trans l1 (Nat.le_trans cntLt_le h8.2.1)
        obtain ⟨w, w1, w2⟩ := cls_anew (x := foc i y) (E := E) (F := frs E idf (nI t) cc i) (id := idf i) (by omega) hfV b3 (thC_T ht) (by show LogC (sLog y) E; rw [y6]; exact h8) y8 (by show vlId (sV y i) = _; rw [y7]; exact (h11 i (by omega)).1) ⟨by have := (h11 i (by omega)).2; omega, fun e' he' => by have := (h10.2 e' he').1; omega⟩ hlen
        rw [hfc] at w2
        rw [ht, if_neg (show ¬ b2i true = 0 by decide), chk_r, w1, Option.bind_some, ok_keep, ok_keep, ok_keep, nI_1]
        refine hrec (16 - (i + 1)) _ (by omega) ⟨i + 1, rfl, by omega, rfl, y1, ?_, y3, y4, y5, y6, ?_, ?_⟩
        · show sKtw y + 1 = _
          rw [y2, nI_1, cth_s, if_pos ht]
        · show vup (sV y) i (sV y i) = sV x
          rw [← y7]
          exact congrArg sV (unf_foc i y)
        · rw [hu]; exact w2
      · have ht' : thC (cc i) (nI t) = false := by simpa using ht
        have hu : frs E idf (nI t) cc (i + 1) = frs E idf (nI t) cc i := by
          show frs E idf (nI t) cc i ++ (if thC (cc i) (nI t) = true then freshG E i (idf i) (nI t) (cc i) else []) = _
          rw [if_neg ht, List.append_nil]
        rw [ht', if_pos (show b2i false = 0 by decide), ok_keep, nI_1]
        refine hrec (16 - (i + 1)) _ (by omega) ⟨i + 1, rfl, by omega, rfl, ?_⟩
        rw [cth_s, if_neg ht, hu]; exact hy
  obtain ⟨⟨y, r⟩, y1, y2, y3⟩ := key
  dsimp only at y2 y3
  subst y2
  exact ⟨y, y1, y3⟩
set_option maxHeartbeats 4000000 in
theorem mod_rewrite {x : SSt} {m : MSt} {t : Nat} {cc : CC} {ff : Nat → FK} {E : EL} {Mf idf : Nat → Nat} {lvi : Nat} (h : I0 x m t cc ff E Mf idf lvi) :
    ∃ y, fX8_rewrite m = some (y, nI (cth cc (nI t) 16)) ∧ REq m y ∧ LogM (mFresh y) (mNewRows y) (rws (frs E idf (nI t) cc 16)) ∧ (∀ k, k < 16 → thC (cc k) (nI t) = true → mFreshAt y k = nI (frs E idf (nI t) cc k).length) ∧ mToWrite y = nI (cth cc (nI t) 16) ∧ mBegunAt y = nI E.length ∧ mIsRewriting y = 1 := by
  obtain ⟨h1, h2, h3, h4, h5, h6, h7, h8, h9, h10, h11, h12, h13⟩ := h
  have hlE : (rws E).length = E.length := List.length_map _
  have hfr := frs_ok h10 h1 (fun k hk => ⟨(h7 k hk).2.2.1, (h7 k hk).2.2.2.2⟩) (fun k hk => (h11 k hk).2)
  have key : Ok (fX8_rewrite m) (fun r => r.2 = nI (cth cc (nI t) 16) ∧ REq m r.1 ∧ LogM (mFresh r.1) (mNewRows r.1) (rws (frs E idf (nI t) cc 16)) ∧ (∀ k, k < 16 → thC (cc k) (nI t) = true → mFreshAt r.1 k = nI (frs E idf (nI t) cc k).length) ∧ mToWrite r.1 = nI (cth cc (nI t) 16) ∧ mBegunAt r.1 = nI E.length ∧ mIsRewriting r.1 = 1) := by
    unfold fX8_rewrite
    rw [ok_keep]
    obtain ⟨m1, hm1⟩ : ∃ z, z = mThrown_s m 0 := ⟨_, rfl⟩
    have a1 : REq m m1 := by rw [hm1]; exact req_Thrown
    rw [← hm1, ok_keep]
    clear hm1
    obtain ⟨m2, hm2⟩ : ∃ z, z = mIsRewriting_s m1 1 := ⟨_, rfl⟩
    have a2 : REq m m2 := by rw [hm2]; exact a1.trans req_IsRewriting
    have b2 : mIsRewriting m2 = 1 := by rw [hm2]; rfl
    rw [← hm2, ok_keep]
    clear hm2 a1
    obtain ⟨m3, hm3⟩ : ∃ z, z = mToWrite_s m2 0 := ⟨_, rfl⟩
    have a3 : REq m m3 := by rw [hm3]; exact a2.trans req_ToWrite
    have b3 : mIsRewriting m3 = 1 := by rw [hm3]; exact b2
    have c3 : mToWrite m3 = 0 := by rw [hm3]; rfl
    rw [← hm3, ok_keep]
    clear hm3 a2 b2
    obtain ⟨m4, hm4⟩ : ∃ z, z = mNewRows_s m3 0 := ⟨_, rfl⟩
    have a4 : REq m m4 := by rw [hm4]; exact a3.trans req_NewRows
    have b4 : mIsRewriting m4 = 1 := by rw [hm4]; exact b3
    have c4 : mToWrite m4 = 0 := by rw [hm4]; exact c3
    have d4' : mNewRows m4 = 0 := by rw [hm4]; rfl
    rw [← hm4, ok_keep]
    clear hm4 a3 b3 c3
    obtain ⟨m5, hm5⟩ : ∃ z, z = mBegunAt_s m4 (mRows m4) := ⟨_, rfl⟩
    have a5 : REq m m5 := by rw [hm5]; exact a4.trans req_BegunAt
    have b5 : mIsRewriting m5 = 1 := by rw [hm5]; exact b4
    have c5 : mToWrite m5 = 0 := by rw [hm5]; exact c4
    have e5 : mNewRows m5 = 0 := by rw [hm5]; exact d4'
    have f5 : mBegunAt m5 = nI E.length := by
      rw [hm5]
      show mRows m4 = _
      rw [a4.2.2.2.2.1, h9.1, hlE]
    rw [← hm5]
    clear hm5 a4 b4 c4 d4'
    refine ok_iter (fun (n : Nat) (st : MSt × Int32) => ∃ i, n = 16 - i ∧ i ≤ 16 ∧ st.2 = nI i ∧ REq m st.1 ∧ LogM (mFresh st.1) (mNewRows st.1) (rws (frs E idf (nI t) cc i)) ∧ (∀ k, k < i → thC (cc k) (nI t) = true → mFreshAt st.1 k = nI (frs E idf (nI t) cc k).length) ∧ mToWrite st.1 = nI (cth cc (nI t) i) ∧ mBegunAt st.1 = nI E.length ∧ mIsRewriting st.1 = 1) _ ?_ FU 16 _ ⟨0, rfl, by omega, rfl, a5, ⟨e5, fun i hi => absurd hi (Nat.not_lt_zero i)⟩, fun k hk => absurd hk (Nat.not_lt_zero k), c5, f5, b5⟩ (by unfold FU; omega)
    rintro n ⟨y, v⟩ rec ⟨i, hn, hi, hv, y1, y2, y3, y4, y5, y6⟩ hrec
    dsimp only at hv y1 y2 y3 y4 y5 y6
    subst hv
    unfold fX8_rewrite_30
    dsimp only
    rw [d16]
    by_cases e : 16 ≤ i
    · have : i = 16 := by omega
      subst this
      rw [if_pos (nI_le e (by omega)), ok_some]
      exact ⟨y4, y1, y2, y3, y4, y5, y6⟩
    · obtain ⟨b1, b2, b3, b4, b5⟩ := h7 i (by omega)
      have hM := b2.keq y1.1
      have hnow : mNow y = nI t := y1.2.2.1.trans h4
      have hclk : mClock y = nI t := y1.2.1.trans h3
      rw [if_neg (nI_ge (by omega) (by omega)), mod_isThere (by omega) hM, Option.bind_some, hnow]
      by_cases ht : thC (cc i) (nI t) = true
      · obtain ⟨l1, l2, l3⟩ := hfr (i + 1) (by omega)
        have hu : frs E idf (nI t) cc (i + 1) = frs E idf (nI t) cc i ++ freshG E i (idf i) (nI t) (cc i) := by
          show frs E idf (nI t) cc i ++ (if thC (cc i) (nI t) = true then freshG E i (idf i) (nI t) (cc i) else []) = _
          rw [if_pos ht]
        have hLk := h10.1 i (by omega)
        have hrf := rws_fresh hLk ht
        have hlen : (rws (frs E idf (nI t) cc i)).length + ((mnR (rws E) i (Mf i) (mClock y) (cc i)).length + (edR i (mClock y) (cc i)).length) ≤ 600 := by
          rw [hclk, ← List.length_append, ← hrf, ← List.length_append, ← rws_app, ← hu]
          have := Nat.le_trans l1 (Nat.le_trans cntLt_le h8.2.1)
          unfold rws
          rw [List.length_map]; omega
        obtain ⟨z, z1, z2, z3, z4, z5, z6, z7, z8⟩ := mod_rewrites (m := y) (R := rws E) (N := rws (frs E idf (nI t) cc i)) (M := Mf i) (by omega) hM b3 (thC_T ht) (by rw [y1.2.2.2.2.2, y1.2.2.2.2.1]; exact h9) (by rw [hlE]; exact h8.2.1) (fun q => ⟨by rw [y1.1.2.2.2.2.2.2.2.1]; exact h13 i (by omega) ht q, by rw [hlE]; exact Nat.le_of_lt (hLk.2.2 ht q).1⟩) y2 hlen
        rw [hclk, ← hrf, ← rws_app, ← hu] at z3
        rw [ht, if_neg (show ¬ b2i true = 0 by decide), z1, Option.bind_some, ok_keep, ok_keep, ok_keep, nI_1]
        refine hrec (16 - (i + 1)) _ (by omega) ⟨i + 1, rfl, by omega, rfl, (y1.trans z2).trans req_ToWrite, z3, fun k hk hk2 => ?_, ?_, z6.trans y5, z7.trans y6⟩
        · show mFreshAt z k = _
          rw [z4]
          by_cases e2 : k = i
          · subst e2
            rw [upd_s]
            unfold rws
            rw [List.length_map]
          · rw [upd_o e2]; exact y3 k (by omega) hk2
        · show mToWrite z + 1 = _
          rw [z5, y4, nI_1, cth_s, if_pos ht]
      · have ht' : thC (cc i) (nI t) = false := by simpa using ht
        have hu : frs E idf (nI t) cc (i + 1) = frs E idf (nI t) cc i := by
          show frs E idf (nI t) cc i ++ (if thC (cc i) (nI t) = true then freshG E i (idf i) (nI t) (cc i) else []) = _
          rw [if_neg ht, List.append_nil]
        rw [ht', if_pos (show b2i false = 0 by decide), ok_keep, nI_1]
        refine hrec (16 - (i + 1)) _ (by omega) ⟨i + 1, rfl, by omega, rfl, y1, by rw [hu]; exact y2, fun k hk hk2 => ?_, by rw [cth_s, if_neg ht]; exact y4, y5, y6⟩
        by_cases e2 : k = i
        · subst e2; exact absurd hk2 ht
        · exact y3 k (by omega) hk2
  obtain ⟨⟨y, r⟩, y1, y2, y3⟩ := key
  dsimp only at y2 y3
  subst y2
  exact ⟨y, y1, y3⟩
theorem sim_rewrite {x : SSt} {m : MSt} {t : Nat} {cc : CC} {ff : Nat → FK} {E : EL} {Mf idf : Nat → Nat} {lvi : Nat} (h : IV x m t cc ff E Mf idf lvi) (hlim : lvi < 2 ^ 31) :
    ∃ y z v, fX7_rewrite x = some (y, v) ∧ fX8_rewrite m = some (z, v) ∧ IVx y z (lvi + 1) := by
  obtain ⟨y, y0, y1, y2, y3, y4, y5, y6, y7, y8⟩ := cls_rewrite h.1 hlim
  obtain ⟨z, z0, ⟨z1, z2, z3, z4, z5, z6⟩, z7, z8, z9, z10, z11⟩ := mod_rewrite h.1
  obtain ⟨⟨h1, h2, h3, h4, h5, h6, h7, h8, h9, h10, h11, h12, h13⟩, hrw⟩ := h
  obtain ⟨l1, l2, l3⟩ := frs_ok h10 h1 (fun k hk => ⟨(h7 k hk).2.2.1, (h7 k hk).2.2.2.2⟩) (fun k hk => (h11 k hk).2) 16 (Nat.le_refl _)
  refine ⟨y, z, _, y0, z0, t, cc, ff, E, Mf, idf, lvi, Nat.le_succ _, ⟨h1, y3.trans h2, z2.trans h3, z3.trans h4, by rw [z4, y4]; exact h5, by rw [y4]; exact h6, fun k hk => ?_, by rw [y6]; exact h8, by rw [z6, z5]; exact h9, h10, fun k hk => by rw [y7]; exact h11 k hk, y5.trans h12, fun k hk a b => by rw [z1.2.2.2.2.2.2.2.1]; exact h13 k hk a b⟩, Or.inr ⟨frs E idf (nI t) cc 16, E.length, cth cc (nI t) 16, fun k => (frs E idf (nI t) cc k).length, fun k => (frs E idf (nI t) cc k).length, y2, cth_le, z9, z11, y1, z10, Nat.le_refl _, Nat.le_trans l1 cntLt_le, y8, z7, ?_, fun k hk a b => ⟨fun _ => ⟨rfl, z8 k hk a⟩, fun q => ?_⟩⟩⟩
  · obtain ⟨b1, b2, b3⟩ := h7 k hk
    rw [y7]
    exact ⟨b1, b2.keq z1, b3⟩
  · rw [List.drop_length, List.append_nil]
    refine ⟨fun k hk => l3 k hk, fun e he => ?_⟩
    obtain ⟨j, j1, j2, j3, j4⟩ := l2 e he
    exact ⟨j4, ⟨j, by omega, j2⟩⟩
  · have := (h10.1 k hk).2.2 a b
    omega

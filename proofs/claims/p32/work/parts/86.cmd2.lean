/-! commands: pop, take, rate, remove -/
theorem th_E {c c' : CK} {now : Int32} (h : thC c now = true) (hE : cE c' = cE c) (hT : cT c' ≠ 0) : thC c' now = true := by
  unfold thC at h ⊢
  rw [Bool.and_eq_true] at h ⊢
  exact ⟨decide_eq_true hT, by rw [hE]; exact h.2⟩
theorem th_mk {T now : Int32} {c : CK} (h0 : T ≠ 0) : thC (mkC T c now) now = true := by
  unfold mkC
  split
  · assumption
  · unfold thC
    rw [Bool.and_eq_true]
    exact ⟨decide_eq_true h0, rfl⟩
theorem fi_ins {L : LL} {i : Nat} {a : Int32 × Int32} (hi : i ≤ L.length) (hn : ∀ q ∈ L, q.1 ≠ a.1) : fi (L.insertIdx i a) a.1 = i ∧ i < (L.insertIdx i a).length := by
  have hl : (L.insertIdx i a).length = L.length + 1 := by rw [List.length_insertIdx, if_pos hi]
  refine ⟨?_, by omega⟩
  unfold fi
  refine fi_at (by omega) ?_ (fun j hj hlt => ?_)
  · rw [List.getElem_insertIdx_self]
    exact decide_eq_true rfl
  · rw [List.getElem_insertIdx_of_lt hlt]
    exact decide_eq_false (hn _ (List.getElem_mem _))
theorem ix_rate {v b now : Int32} {c : CK} (hc : okCK c) (hT : thC c now = true → cT c = 3) : ixN (ratC v b now c) now v = nI (ratI v b now c) := by
  have hS := mkC_srt (now := now) hc hT
  have hTm := mkC_T (t := 3) hT
  have hth : thC (ratC v b now c) now = true := th_E (th_mk (T := 3) (c := c) (by decide)) rfl (by show cT (mkC 3 c now) ≠ 0; rw [hTm]; decide)
  obtain ⟨e1, e2⟩ := fi_ins (L := ratL v (cL (mkC 3 c now))) (i := ratI v b now c) (a := (v, b)) rnk_le (rat_no hS)
  unfold ixN
  rw [if_pos hth]
  unfold plc
  have e1' : fi (cL (ratC v b now c)) v = ratI v b now c := e1
  have e2' : ratI v b now c < (cL (ratC v b now c)).length := e2
  rw [e1', if_pos e2']
theorem ix_take {v now : Int32} {c : CK} (hc : okCK c) (hT : thC c now = true → cT c = 2 ∨ cT c = 3) (h0 : thC c now = true) : ixN (tkeC v c) now v = -1 := by
  have hd : (cL c).Pairwise (fun a b => a.1 ≠ b.1) := by
    have hok := ok_T hc (thC_T h0)
    rcases hT h0 with w | w
    · exact (hok.2.2.2.2.2.1 w).2.imp (fun w e => by rw [e] at w; exact Int32.lt_irrefl w)
    · exact (hok.2.2.2.2.2.2.1 w).2.2
  unfold ixN
  split
  · refine plc_not ?_
    unfold tkeC
    by_cases e : fnd (cL c) v = true
    · rw [if_pos e, drpE_L]
      show fnd ((cL c).eraseIdx (fi (cL c) v)) v = false
      refine decide_eq_false (Nat.not_lt_of_le (Nat.le_of_eq ?_))
      refine (fi_none (fun j hj => decide_eq_false ?_)).symm
      obtain ⟨l1, z, l2, hL, hk, hx⟩ := spl1 (fnd_lt e)
      have hxa : z.1 = v := by rw [hx]; exact fnd_at e
      rw [hL] at hd
      have h1 := List.pairwise_append.mp hd
      have h2 := List.pairwise_cons.mp h1.2.1
      have hq := List.getElem_mem hj
      generalize ((cL c).eraseIdx (fi (cL c) v))[j] = q at hq ⊢
      intro w
      rw [← hk] at hq
      have hq2 : q ∈ (l1 ++ z :: l2).eraseIdx l1.length := by rw [← hL]; exact hq
      rw [del_app] at hq2
      rcases List.mem_append.mp hq2 with m | m
      · exact h1.2.2 q m z List.mem_cons_self (w.trans hxa.symm)
      · exact h2.1 q m (hxa.trans w.symm)
    · rw [if_neg e]
      simpa using e
  · rfl
section CMD
variable {x : QSt} {k t : Nat} {cc : CC} {ff : Nat → FK} {n : Nat} {g : Option (Nat × Nat)} {lim T : Nat}
theorem i56_pop {v3 v4 v8 : Int32} (hk : k < 16) (h : QJ x t cc ff n g lim) (hT : t ≤ T) : CmdT x T (lim + 1) (fL_commands_56 x 3 (nI k) v3 v4 (tyN (cc k) (nI t)) (nI (szN (cc k) (nI t))) v8 (fulN n)) := by
  obtain ⟨hJ, hP, -⟩ := id h
  obtain ⟨hV, hc, hclk, ht, h3⟩ := jz_at hk hJ
  unfold fL_commands_56
  rw [if_pos (show (3 : Int32) ≤ 3 by decide), if_pos rfl, clN hk, decide_eq_true hk, chk_r]
  have out : ∀ y cc', OX (qS x) k t g lim y cc' n → CmdT x T (lim + 1) (fL_commands_263 (qS_s x (unf k (qS x) y)) (-108)) := fun y cc' y2 => by
    unfold fL_commands_263 fL_commands_270
    rw [if_pos (by decide)]
    exact cmd_688 (r := 0) h hT y2 (by omega)
  by_cases hA : tyN (cc k) (nI t) = 1 ∧ n < 300
  · obtain ⟨v, ⟨w, w1, w2⟩, q3⟩ := a_pop (b := v3 - v3 / 2 * 2) (e := 0) (i := 0) hk hJ hA.1 hA.2
    obtain ⟨y, y1, y2⟩ := ox_w hk hJ hP q3 (fun q => absurd q (show ¬ (2 : Int32) = 5 by decide)) (fun q => absurd q (show ¬ (2 : Int32) = 11 by decide))
    rw [y1, Option.bind_some, keep_r, keep_r, if_pos (ful_y hA.2), if_pos hA.1]
    unfold fL_commands_270
    rw [if_neg (by rw [w2]; exact nI_pos (by omega))]
    exact cmd_688 (r := 1) h hT y2 (by omega)
  · obtain ⟨y, y1, y2⟩ := ox_n hP (n_pop (b := v3 - v3 / 2 * 2) (e := 0) (i := 0) hk hJ hA)
    rw [y1, Option.bind_some, keep_r, keep_r]
    by_cases hL : n < 300
    · rw [if_pos (ful_y hL), if_neg (fun q => hA ⟨q, hL⟩)]
      exact out y _ y2
    · rw [if_neg (by rw [ful_n hL h3]; decide)]
      exact out y _ y2
theorem cmd_338 (hk : k < 16) (h : QJ x t cc ff n g lim) (hT : t ≤ T) {v : Int32} (hv : isV v) : CmdT x T (lim + 1) (fL_commands_321 x (nI k) (tyN (cc k) (nI t)) (fulN n) v) := by
  obtain ⟨hJ, hP, -⟩ := id h
  obtain ⟨hV, hc, hclk, ht, h3⟩ := jz_at hk hJ
  have fin : ∀ y cc' r (a : Int32), r ≤ 1 → OX (qS x) k t g lim y cc' (n + r) → (a < 0 ∨ ixN (cc' k) (nI t) v = -1) → CmdT x T (lim + 1) (fL_commands_424 (qS_s x (unf k (qS x) y)) (nI k) a (nI r) v (nI r) (qC (qS_s x (unf k (qS x) y)) (1 : Int32).toNatClampNeg) (nI (n + r))) := fun y cc' r a hr y2 hix => by
    have hs : CmdT x T (lim + 1) (fL_commands_444 (qS_s x (unf k (qS x) y)) (nI r)) := by
      obtain ⟨ff', a1, a2⟩ := id y2
      unfold fL_commands_444
      rw [q_settles (x := qS_s x (unf k (qS x) y)) a1 hr (m := n) h.2.2.2.1, Option.bind_some, keep_r, if_neg one_ne0]
      exact ⟨_, rfl, qk_done h hT y2 (by omega)⟩
    unfold fL_commands_424
    have e1 : qC (qS_s x (unf k (qS x) y)) (1 : Int32).toNatClampNeg = nI n := h.2.2.2.1
    rw [e1, nI_add, if_pos rfl]
    by_cases ha : a < 0
    · rw [if_pos ha]; exact hs
    · obtain ⟨ff', a1, a2⟩ := id y2
      obtain ⟨hV2, -, hclk2, -⟩ := jz_at hk a1
      have e := q_index hk hV2 hv
      rw [hclk2] at e
      have e : fX7_indexOf k (foc k (qS (qS_s x (unf k (qS x) y)))) (nI k) v = some (.inl (ixN (cc' k) (nI t) v)) := e
      rw [if_neg ha, clN hk, decide_eq_true hk, chk_r, e, Option.bind_some, thrL, if_pos (by rcases hix with q | q; exact absurd q ha; exact q)]
      exact hs
  have f397 : ∀ y cc' r (a : Int32) , r ≤ 1 → OX (qS x) k t g lim y cc' (n + r) → (a < 0 ∨ ixN (cc' k) (nI t) v = -1) → CmdT x T (lim + 1) (fL_commands_397 (qS_s x (unf k (qS x) y)) (nI k) a a v (nI r)) := fun y cc' r a hr y2 hix => by
    obtain ⟨ff', a1, a2⟩ := id y2
    have hrow : fX7_rows 0 (foc 0 (qS (qS_s x (unf k (qS x) y)))) = some (nI (n + r)) := j_rows a1
    unfold fL_commands_397
    rw [if_pos rfl, hrow, Option.bind_some, show inb 1 5 = true from rfl, chk_r]
    rcases (by omega : r = 0 ∨ r = 1) with e | e
    · rw [if_pos (by rw [e]; rfl)]; subst e; exact fin y cc' 0 a hr y2 hix
    · rw [if_neg (by rw [e]; decide)]; subst e; exact fin y cc' 1 a hr y2 hix
  have main : ∀ s : Int32, s = (if hasN (cc k) (nI t) v = true then 1 else 0) → CmdT x T (lim + 1) (fL_commands_338 x (nI k) (tyN (cc k) (nI t)) (fulN n) v s) := fun s hs => by
    unfold fL_commands_338
    rw [clN hk, decide_eq_true hk, chk_r]
    by_cases hA : (tyN (cc k) (nI t) = 2 ∨ tyN (cc k) (nI t) = 3) ∧ n < 300
    · have hth : thC (cc k) (nI t) = true := by
        rcases hA.1 with q | q
        · exact (tyN_is (by decide) q).1
        · exact (tyN_is (by decide) q).1
      have hT3 : thC (cc k) (nI t) = true → cT (cc k) = 2 ∨ cT (cc k) = 3 := fun _ => by
        rcases hA.1 with q | q
        · exact Or.inl (tyN_is (by decide) q).2
        · exact Or.inr (tyN_is (by decide) q).2
      have sel : ∀ (X : QSt) (a : Int32) (P : Option (QSt × Int32) → Prop), P (fL_commands_374 X (nI k) a v s) → P (if tyN (cc k) (nI t) = 2 then fL_commands_374 X (nI k) a v s else (if tyN (cc k) (nI t) = 3 then fL_commands_374 X (nI k) a v s else fL_commands_369 X (nI k) a v)) := fun X a P hp => by
        by_cases q : tyN (cc k) (nI t) = 2
        · rw [if_pos q]; exact hp
        · rw [if_neg q, if_pos (hA.1.resolve_left q)]; exact hp
      rcases a_take (e := 0) (i := 0) hk hJ hv hA.1 hA.2 with ⟨q1, q3⟩ | ⟨q1, q3⟩
      · obtain ⟨y, y1, y2⟩ := ox_w hk hJ hP q3 (fun q => absurd q (show ¬ (4 : Int32) = 5 by decide)) (fun q => absurd q (show ¬ (4 : Int32) = 11 by decide))
        rw [y1, Option.bind_some, keep_r, keep_r, if_pos (ful_y hA.2)]
        refine sel _ _ (CmdT x T (lim + 1)) ?_
        unfold fL_commands_374
        rw [if_neg (by rw [hs, if_pos (by unfold hasN; rw [hth, q1]; rfl)]; decide)]
        unfold fL_commands_384
        rw [if_pos rfl]
        refine f397 y _ 1 1 (by omega) y2 (Or.inr ?_)
        rw [upN_s, opC_4 rfl]
        exact ix_take hc hT3 hth
      · obtain ⟨y, y1, y2⟩ := ox_n hP q3
        rw [y1, Option.bind_some, keep_r, keep_r, if_pos (ful_y hA.2)]
        refine sel _ _ (CmdT x T (lim + 1)) ?_
        unfold fL_commands_374
        have hno : hasN (cc k) (nI t) v = false := by unfold hasN; rw [q1, Bool.and_false]
        rw [if_pos (by rw [hs, if_neg (by rw [hno]; decide)])]
        unfold fL_commands_384
        rw [if_neg (show ¬ (0 : Int32) = 1 by decide)]
        exact f397 y _ 0 0 (by omega) y2 (Or.inr ((ix_has hc).2 hno))
    · obtain ⟨y, y1, y2⟩ := ox_n hP (n_take (e := 0) (i := 0) hk hJ hv hA)
      have out : CmdT x T (lim + 1) (fL_commands_369 (qS_s x (unf k (qS x) y)) (nI k) (-108) v) := by
        unfold fL_commands_369 fL_commands_384
        rw [if_neg (show ¬ (-108 : Int32) = 1 by decide)]
        exact f397 y _ 0 (-108) (by omega) y2 (Or.inl (by decide))
      rw [y1, Option.bind_some, keep_r, keep_r]
      by_cases hL : n < 300
      · rw [if_pos (ful_y hL), if_neg (fun q => hA ⟨Or.inl q, hL⟩), if_neg (fun q => hA ⟨Or.inr q, hL⟩)]
        exact out
      · rw [if_neg (by rw [ful_n hL h3]; decide)]
        exact out
  unfold fL_commands_321
  rw [clN hk, decide_eq_true hk, chk_r, q_index hk hV hv, Option.bind_some, thrL, hclk]
  by_cases e : hasN (cc k) (nI t) v = true
  · rw [if_neg (fun q => by rw [(ix_lt hc).mp q] at e; cases e)]
    exact main 1 (by rw [if_pos e])
  · rw [if_pos ((ix_lt hc).mpr (by simpa using e))]
    exact main 0 (by rw [if_neg e])
theorem mod_nz {a b : Nat} (ha : a < 2 ^ 31) (hb : b < 2 ^ 31) (h0 : ¬ nI b ≤ 0) : 0 < b ∧ decide (¬ nI b = 0) = true := by
  have : 0 < b := by
    refine Nat.pos_of_ne_zero (fun q => h0 (by rw [q]; decide))
  refine ⟨this, decide_eq_true (fun q => ?_)⟩
  rw [nI_eq0 hb] at q
  omega
theorem i56_take {Y : Nat} {v3 v8 : Int32} (hk : k < 16) (h : QJ x t cc ff n g lim) (hT : t ≤ T) (hY : Y < 2 ^ 31) (hv : isV v8) : CmdT x T (lim + 1) (fL_commands_56 x 4 (nI k) v3 (nI Y) (tyN (cc k) (nI t)) (nI (szN (cc k) (nI t))) v8 (fulN n)) := by
  obtain ⟨hJ, hP, -⟩ := id h
  obtain ⟨hV, hc, hclk, ht, h3⟩ := jz_at hk hJ
  have h40 := szN_40 (now := nI t) hc
  have d : CmdT x T (lim + 1) (fL_commands_319 x (nI k) (tyN (cc k) (nI t)) v8 (fulN n)) := by
    unfold fL_commands_319
    exact cmd_338 hk h hT hv
  unfold fL_commands_56
  rw [if_pos (show (3 : Int32) ≤ 4 by decide), if_neg (show ¬ (4 : Int32) = 3 by decide), if_pos rfl]
  by_cases e1 : nI (szN (cc k) (nI t)) ≤ 0
  · rw [if_pos e1]; exact d
  · rw [if_neg e1]
    by_cases e2 : nI Y - nI Y / 3 * 3 ≤ 0
    · rw [if_pos e2]; exact d
    · obtain ⟨hp, hdz⟩ := mod_nz (a := Y) hY (by omega) e1
      rw [if_neg e2, hdz, chk_r, clN hk, decide_eq_true hk, chk_r, d3, pk_div hY (by omega) (by omega), pk_rem (by omega) hp (by omega)]
      have hlt : (Y / 3) % szN (cc k) (nI t) < szN (cc k) (fClk (foc k (qS x))) := by rw [hclk]; exact Nat.mod_lt _ hp
      obtain ⟨hl, a1, -⟩ := q_at hk hV hc hlt
      rw [a1, Option.bind_some, thrL]
      have hth : thC (cc k) (nI t) = true := by
        cases q : thC (cc k) (nI t) with
        | true => rfl
        | false => rw [szN_f q] at hp; omega
      exact cmd_338 hk h hT ((ok_T hc (thC_T hth)).2.2.2.2.1 _ (List.getElem_mem hl))
theorem i56_remove {v3 v4 v8 : Int32} (hk : k < 16) (h : QJ x t cc ff n g lim) (hT : t ≤ T) : CmdT x T (lim + 1) (fL_commands_56 x 6 (nI k) v3 v4 (tyN (cc k) (nI t)) (nI (szN (cc k) (nI t))) v8 (fulN n)) := by
  obtain ⟨hJ, hP, -⟩ := id h
  obtain ⟨hV, hc, hclk, ht, h3⟩ := jz_at hk hJ
  unfold fL_commands_56
  rw [if_pos (show (3 : Int32) ≤ 6 by decide), if_neg (show ¬ (6 : Int32) = 3 by decide), if_neg (show ¬ (6 : Int32) = 4 by decide), if_neg (show ¬ (6 : Int32) = 5 by decide), clN hk, decide_eq_true hk, chk_r]
  by_cases hL : n < 300
  · rcases a_remove (b := 0) (e := 0) (i := 0) hk hJ hL with ⟨q1, q3⟩ | ⟨q1, q3⟩
    · obtain ⟨y, y1, y2⟩ := ox_w hk hJ hP q3 (fun q => absurd q (show ¬ (10 : Int32) = 5 by decide)) (fun q => absurd q (show ¬ (10 : Int32) = 11 by decide))
      rw [y1, Option.bind_some, keep_r, keep_r, if_pos (ful_y hL), if_neg (fun q => by rw [tyN_0.mp q] at q1; cases q1)]
      unfold fL_commands_673
      rw [if_pos rfl]
      exact cmd_688 (r := 1) h hT y2 (by omega)
    · obtain ⟨y, y1, y2⟩ := ox_n hP q3
      rw [y1, Option.bind_some, keep_r, keep_r, if_pos (ful_y hL), if_pos (tyN_f q1)]
      unfold fL_commands_673
      rw [if_neg (show ¬ (0 : Int32) = 1 by decide)]
      exact cmd_688 (r := 0) h hT y2 (by omega)
  · obtain ⟨y, y1, y2⟩ := ox_n hP (n_remove (b := 0) (e := 0) (i := 0) hk hJ hL)
    rw [y1, Option.bind_some, keep_r, keep_r, if_neg (by rw [ful_n hL h3]; decide)]
    unfold fL_commands_673
    rw [if_neg (show ¬ (-108 : Int32) = 1 by decide)]
    exact cmd_688 (r := 0) h hT y2 (by omega)
theorem cmd_560 {b v : Int32} (hk : k < 16) (h : QJ x t cc ff n g lim) (hT : t ≤ T) (hv : isV v) (hb : b ∈ PBL) : CmdT x T (lim + 1) (fL_commands_560 x (nI k) (tyN (cc k) (nI t)) (nI (szN (cc k) (nI t))) (fulN n) b v) := by
  obtain ⟨hJ, hP, -⟩ := id h
  obtain ⟨hV, hc, hclk, ht, h3⟩ := jz_at hk hJ
  have h40 := szN_40 (now := nI t) hc
  have yes : (tyN (cc k) (nI t) = 0 ∨ tyN (cc k) (nI t) = 3) → (thC (cc k) (nI t) = true → (cL (cc k)).length < 40 ∨ fnd (cL (cc k)) v = true) → n < 300 → CmdT x T (lim + 1) (fL_commands_595 x (nI k) b v) := fun a b' d => by
    obtain ⟨y, y1, y2⟩ := ox_w hk hJ hP (a_rate (i := 0) hk hJ hv (pb_num hb) a b' d) (fun _ => hb) (fun q => absurd q (show ¬ (5 : Int32) = 11 by decide))
    unfold fL_commands_595 fL_commands_600
    rw [clN hk, decide_eq_true hk, chk_r, y1, Option.bind_some, keep_r, keep_r, if_neg one_ne0, chk_r]
    obtain ⟨ff', a1, a2⟩ := id y2
    obtain ⟨hV2, -, hclk2, -⟩ := jz_at hk a1
    have e := q_index hk hV2 hv
    rw [hclk2, upN_s, opC_5 rfl] at e
    have e2 : ixN (ratC v b (nI t) (cc k)) (nI t) v = nI (ratI v b (nI t) (cc k)) := ix_rate hc (tyN_or a)
    have e : fX7_indexOf k (foc k (qS (qS_s x (unf k (qS x) y)))) (nI k) v = some (.inl (ixN (ratC v b (nI t) (cc k)) (nI t) v)) := e
    rw [e, Option.bind_some, thrL, e2]
    exact cmd_688 (r := 1) h hT y2 (by omega)
  have no : ¬ ((tyN (cc k) (nI t) = 0 ∨ tyN (cc k) (nI t) = 3) ∧ (thC (cc k) (nI t) = true → (cL (cc k)).length < 40 ∨ fnd (cL (cc k)) v = true) ∧ n < 300) → CmdT x T (lim + 1) (fL_commands_599 x (nI k) b v) := fun a => by
    obtain ⟨y, y1, y2⟩ := ox_n hP (n_rate (i := 0) hk hJ hv (pb_num hb) a)
    unfold fL_commands_599 fL_commands_600
    rw [clN hk, decide_eq_true hk, chk_r, y1, Option.bind_some, keep_r, keep_r, if_pos rfl]
    exact cmd_688 (r := 0) h hT y2 (by omega)
  unfold fL_commands_560
  by_cases hL : n < 300
  · rw [if_pos (ful_y hL)]
    by_cases h0 : tyN (cc k) (nI t) = 0
    · rw [if_pos h0]
      exact yes (Or.inl h0) (fun q => by rw [tyN_0.mp h0] at q; cases q) hL
    · have hth := tyN_n0 h0
      rw [if_neg h0]
      by_cases h1 : tyN (cc k) (nI t) = 3
      · rw [if_pos h1]
        by_cases hr : szN (cc k) (nI t) < 40
        · rw [if_pos (show nI (szN (cc k) (nI t)) < (40 : Int32) from nI_lt (b := 40) hr (by omega))]
          exact yes (Or.inr h1) (fun q => by rw [szN_t q] at hr; exact Or.inl hr) hL
        · rw [if_neg (show ¬ nI (szN (cc k) (nI t)) < (40 : Int32) from nI_nlt (b := 40) (by omega) (by omega)), clN hk, decide_eq_true hk, chk_r, q_index hk hV hv, Option.bind_some, thrL, hclk]
          by_cases e : hasN (cc k) (nI t) v = true
          · rw [if_neg (fun q => by rw [(ix_lt hc).mp q] at e; cases e)]
            unfold hasN at e
            rw [Bool.and_eq_true] at e
            exact yes (Or.inr h1) (fun _ => Or.inr e.2) hL
          · rw [if_pos ((ix_lt hc).mpr (by simpa using e))]
            exact no (fun q => by
              rcases q.2.1 hth with w | w
              · exact hr (by rw [szN_t hth]; exact w)
              · exact e (by unfold hasN; rw [hth, w]; rfl))
      · rw [if_neg h1]
        exact no (fun q => by rcases q.1 with w | w; exact h0 w; exact h1 w)
  · rw [if_neg (by rw [ful_n hL h3]; decide)]
    exact no (fun q => hL q.2.2)
theorem cmd_526 {Y V : Nat} {b : Int32} (hk : k < 16) (h : QJ x t cc ff n g lim) (hT : t ≤ T) (hY : Y < 2 ^ 31) (hv : V < 10000) (hb : b ∈ PBL) : CmdT x T (lim + 1) (fL_commands_526 x (nI k) (nI Y) (tyN (cc k) (nI t)) (nI (szN (cc k) (nI t))) (nI V) (fulN n) b) := by
  obtain ⟨hJ, hP, -⟩ := id h
  obtain ⟨hV, hc, hclk, ht, h3⟩ := jz_at hk hJ
  have h40 := szN_40 (now := nI t) hc
  have d : CmdT x T (lim + 1) (fL_commands_555 x (nI k) (tyN (cc k) (nI t)) (nI (szN (cc k) (nI t))) (nI V) (fulN n) b) := by
    unfold fL_commands_555
    rw [show (60 : Int32) = nI 60 from rfl, pk_rem (by omega) (by omega) (by omega)]
    exact cmd_560 hk h hT ⟨V % 60, by omega, rfl⟩ hb
  unfold fL_commands_526
  by_cases e1 : nI (szN (cc k) (nI t)) ≤ 0
  · rw [if_pos e1]; exact d
  · rw [if_neg e1]
    by_cases e2 : nI Y - nI Y / 2 * 2 = 0
    · obtain ⟨hp, hdz⟩ := mod_nz (a := Y) hY (by omega) e1
      rw [if_pos e2, hdz, chk_r, clN hk, decide_eq_true hk, chk_r, d2, pk_div hY (by omega) (by omega), pk_rem (by omega) hp (by omega)]
      have hlt : (Y / 2) % szN (cc k) (nI t) < szN (cc k) (fClk (foc k (qS x))) := by rw [hclk]; exact Nat.mod_lt _ hp
      obtain ⟨hl, a1, -⟩ := q_at hk hV hc hlt
      rw [a1, Option.bind_some, thrL]
      have hth : thC (cc k) (nI t) = true := by
        cases q : thC (cc k) (nI t) with
        | true => rfl
        | false => rw [szN_f q] at hp; omega
      exact cmd_560 hk h hT ((ok_T hc (thC_T hth)).2.2.2.2.1 _ (List.getElem_mem hl)) hb
    · rw [if_neg e2]; exact d
theorem i56_rate {X Y V : Nat} (hk : k < 16) (h : QJ x t cc ff n g lim) (hT : t ≤ T) (hX : X < 2 ^ 31) (hY : Y < 2 ^ 31) (hv : V < 10000) : CmdT x T (lim + 1) (fL_commands_56 x 5 (nI k) (nI X) (nI Y) (tyN (cc k) (nI t)) (nI (szN (cc k) (nI t))) (nI V) (fulN n)) := by
  unfold fL_commands_56
  rw [if_pos (show (3 : Int32) ≤ 5 by decide), if_neg (show ¬ (5 : Int32) = 3 by decide), if_neg (show ¬ (5 : Int32) = 4 by decide), if_pos rfl]
  by_cases e5 : nI X - nI X / 5 * 5 = 0
  · rw [if_pos e5]
    by_cases e2 : nI X - nI X / 2 * 2 = 0
    · rw [if_pos e2]; exact cmd_526 hk h hT hY hv pb_0
    · rw [if_neg e2]; exact cmd_526 hk h hT hY hv pb_n
  · rw [if_neg e5, d5, d6, pk_div hX (by omega) (by omega), pk_rem (by omega) (by omega) (by omega)]
    have go : ∀ m : Int32, m = 0 ∨ m = 4194304 → CmdT x T (lim + 1) (fL_commands_511 x (nI k) (nI Y) (tyN (cc k) (nI t)) (nI (szN (cc k) (nI t))) (nI V) (fulN n) m ((124 + nI (X / 5 % 6)) <<< (23 &&& 31))) := fun m hm => by
      unfold fL_commands_511
      by_cases e3 : nI Y - nI Y / 3 * 3 = 0
      · rw [if_pos e3]
        unfold fL_commands_525
        exact cmd_526 hk h hT hY hv (pb_mem (Nat.mod_lt _ (by omega)) hm (Or.inr rfl))
      · rw [if_neg e3]
        unfold fL_commands_525
        exact cmd_526 hk h hT hY hv (pb_mem (Nat.mod_lt _ (by omega)) hm (Or.inl rfl))
    by_cases e2 : nI X - nI X / 2 * 2 = 0
    · rw [if_pos e2]; exact go _ (Or.inr rfl)
    · rw [if_neg e2]; exact go _ (Or.inl rfl)
/-- every command -/
theorem cmds {w X Y : Nat} (hk : k < 16) (h : QJ x t cc ff n g lim) (hT : t ≤ T) (hw : w < 7) (hX : X < 2 ^ 31) (hY : Y < 2 ^ 31) : CmdT x T (lim + 1) (fL_commands x (nI w) (nI k) (nI X) (nI Y)) := by
  obtain ⟨hJ, hP, -⟩ := id h
  obtain ⟨hV, hc, hclk, ht, h3⟩ := jz_at hk hJ
  have go : ∀ V : Nat, V < 10000 → CmdT x T (lim + 1) (fL_commands_39 x (nI w) (nI k) (nI X) (nI Y) (tyN (cc k) (nI t)) (nI (szN (cc k) (nI t))) (nI V)) := fun V hv => by
    have hV2 : isV (nI V) := ⟨V, hv, rfl⟩
    have e1 : qC x (1 : Int32).toNatClampNeg = nI n := h.2.2.2.1
    have key : CmdT x T (lim + 1) (fL_commands_56 x (nI w) (nI k) (nI X) (nI Y) (tyN (cc k) (nI t)) (nI (szN (cc k) (nI t))) (nI V) (fulN n)) := by
      have hw7 : w = 0 ∨ w = 1 ∨ w = 2 ∨ w = 3 ∨ w = 4 ∨ w = 5 ∨ w = 6 := by omega
      rcases hw7 with rfl | rfl | rfl | rfl | rfl | rfl | rfl
      · unfold fL_commands_56
        rw [if_neg (show ¬ (3 : Int32) ≤ nI 0 by decide), if_pos (show nI 0 = 0 from rfl)]
        exact cmd_push hk h hT hV2
      · unfold fL_commands_56
        rw [if_neg (show ¬ (3 : Int32) ≤ nI 1 by decide), if_neg (show ¬ nI 1 = 0 by decide), if_pos (show nI 1 = 1 from rfl)]
        exact cmd_add hk h hT hV2
      · unfold fL_commands_56
        rw [if_neg (show ¬ (3 : Int32) ≤ nI 2 by decide), if_neg (show ¬ nI 2 = 0 by decide), if_neg (show ¬ nI 2 = 1 by decide)]
        exact cmd_append hk h hT hV2
      · exact i56_pop hk h hT
      · exact i56_take hk h hT hY hV2
      · exact i56_rate hk h hT hX hY hv
      · exact i56_remove hk h hT
    unfold fL_commands_39
    rw [show inb 1 5 = true from rfl, chk_r, e1]
    by_cases e : n = 300
    · rw [if_pos (by rw [e]; rfl)]
      unfold fulN at key
      rw [if_pos e] at key
      exact key
    · rw [if_neg (show ¬ nI n = (300 : Int32) from fun q => e ((nI_eqE (b := 300) (by omega) (by omega)).mp q))]
      unfold fulN at key
      rw [if_neg e] at key
      exact key
  unfold fL_commands
  rw [clN hk, decide_eq_true hk, chk_r, q_type hk hV, Option.bind_some, thrL, chk_r, q_size hk hV, Option.bind_some, thrL, hclk]
  by_cases e4 : nI Y - nI Y / 4 * 4 = 0
  · rw [if_pos e4, d4, show (10000 : Int32) = nI 10000 from rfl, pk_div hY (by omega) (by omega), pk_rem (by omega) (by omega) (by omega)]
    exact go _ (Nat.mod_lt _ (by omega))
  · rw [if_neg e4, d4, show (60 : Int32) = nI 60 from rfl, pk_div hY (by omega) (by omega), pk_rem (by omega) (by omega) (by omega)]
    exact go _ (Nat.lt_trans (Nat.mod_lt _ (by omega)) (by omega))
end CMD

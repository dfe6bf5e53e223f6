/-! streams -/
def wF (w : Nat → Nat) : IA := upd (upd (upd (upd (fun _ => 0) 0 (nI (w 0))) 1 (nI (w 1))) 2 (nI (w 2))) 3 (nI (w 3))
theorem wF_at {w : Nat → Nat} {r : Nat} (h : r < 4) : wF w r = nI (w r) := by
  have h4 : r = 0 ∨ r = 1 ∨ r = 2 ∨ r = 3 := by omega
  rcases h4 with rfl | rfl | rfl | rfl <;> rfl
theorem wtN_le {c : CK} {now : Int32} {g r : Nat} : wtN c now g r ≤ 40 := by
  unfold wtN
  split
  · exact wtn_le
  · omega
theorem wtN_4 {c : CK} {now : Int32} {g r : Nat} (h : thC c now = true) (hT : cT c = 4) : wtN c now g r = wtn (cW c) g r 40 := if_pos ((tyN_t h).trans hT)
def wS (w : Nat → Nat) : Nat := 0 + w 0 + w 1 + w 2 + w 3
section STR
variable {x : QSt} {k t : Nat} {cc : CC} {ff : Nat → FK} {n : Nat} {g : Option (Nat × Nat)} {lim T : Nat}
def qW (x : QSt) (W : IA) : Q4St := (qS x, qC x, W)
theorem st_23 {v1 v4 v7 : Int32} {gg i s : Nat} {W : IA} (rec : Q4St × Int32 × Int32 → Option (QSt × Int32)) (hk : k < 16) (h : QJ x t cc ff n g lim) (hg : gg < 3) (hi : i < 4) : fL_streams_23 v1 (nI k) v4 (nI gg) v7 rec (qW x W, nI s, nI i) = rec (qW x (upd W i (nI (wtN (cc k) (nI t) gg i))), nI (s + wtN (cc k) (nI t) gg i), nI (i + 1)) := by
  obtain ⟨hV, hc, hclk, ht, h3⟩ := jz_at hk h.1
  have e := q_wait hk hV hc hg hi
  rw [hclk] at e
  have e : fX7_waiting k (foc k (q4S (qW x W))) (nI k) (nI gg) (nI i) = some (.inl (nI (wtN (cc k) (nI t) gg i))) := e
  unfold fL_streams_23
  dsimp only
  rw [if_neg (show ¬ (4 : Int32) ≤ nI i from nI_ge (b := 4) hi (by omega)), clN hk, decide_eq_true hk, chk_r, e, Option.bind_some, thrL, inb_nI hi (by omega), chk_r, keep_r, chk_r, keep_r, keep_r, nI_1, clN (by omega : i < 16)]
  have e2 : q4W (q4W_s (qW x W) (upd (q4W (qW x W)) i (nI (wtN (cc k) (nI t) gg i)))) i = nI (wtN (cc k) (nI t) gg i) := upd_s
  rw [e2, nI_add]
  rfl
theorem st_23all {v1 v4 v7 : Int32} {gg : Nat} (hk : k < 16) (h : QJ x t cc ff n g lim) (hg : gg < 3) : ∃ rec, iterK FU (fL_streams_23 v1 (nI k) v4 (nI gg) v7) (q4I x, 0, 0) = fL_streams_23 v1 (nI k) v4 (nI gg) v7 rec (qW x (wF (fun r => wtN (cc k) (nI t) gg r)), nI (wS (fun r => wtN (cc k) (nI t) gg r)), nI 4) := by
  refine ⟨iterK 9995 (fL_streams_23 v1 (nI k) v4 (nI gg) v7), ?_⟩
  rw [show FU = 9995 + 1 + 1 + 1 + 1 + 1 from rfl, show q4I x = qW x (fun _ => 0) from rfl, show ((0 : Int32), (0 : Int32)) = (nI 0, nI 0) from rfl]
  rw [iterK_s, st_23 _ hk h hg (by omega), iterK_s, st_23 _ hk h hg (by omega), iterK_s, st_23 _ hk h hg (by omega), iterK_s, st_23 _ hk h hg (by omega), iterK_s]
  rfl
theorem st_172 {y : FSt} {cc' : CC} {n' : Nat} {v1 v7 v9 v10 v11 : Int32} {gg i s : Nat} {W : IA} (rec : Int32 × Int32 → Option (QSt × Int32)) (hk : k < 16) (ho : OX (qS x) k t g lim y cc' n') (hg : gg < 3) (hi : i < 4) : fL_streams_172 (q4S_s (qW x W) (unf k (qS x) y)) v1 (nI k) (nI gg) v7 v9 v10 v11 rec (nI s, nI i) = rec (nI (s + wtN (cc' k) (nI t) gg i), nI (i + 1)) := by
  obtain ⟨ff', a1, a2⟩ := ho
  obtain ⟨hV, hc, hclk, ht, h3⟩ := jz_at hk a1
  have e := q_wait hk hV hc hg hi
  rw [hclk] at e
  have e : fX7_waiting k (foc k (q4S (q4S_s (qW x W) (unf k (qS x) y)))) (nI k) (nI gg) (nI i) = some (.inl (nI (wtN (cc' k) (nI t) gg i))) := e
  unfold fL_streams_172
  dsimp only
  rw [if_neg (show ¬ (4 : Int32) ≤ nI i from nI_ge (b := 4) hi (by omega)), clN hk, decide_eq_true hk, chk_r, e, Option.bind_some, thrL, keep_r, keep_r, nI_1, nI_add]
theorem st_172all {y : FSt} {cc' : CC} {n' : Nat} {v1 v7 v9 v10 v11 : Int32} {gg : Nat} {W : IA} (hk : k < 16) (ho : OX (qS x) k t g lim y cc' n') (hg : gg < 3) : iterK FU (fL_streams_172 (q4S_s (qW x W) (unf k (qS x) y)) v1 (nI k) (nI gg) v7 v9 v10 v11) (0, 0) = (if v10 = 0 then fL_streams_224 (q4S_s (qW x W) (unf k (qS x) y)) v1 (nI k) (nI gg) v7 v9 v10 v11 (nI (wS (fun r => wtN (cc' k) (nI t) gg r))) else (if v11 ≤ 0 then fL_streams_224 (q4S_s (qW x W) (unf k (qS x) y)) v1 (nI k) (nI gg) v7 v9 v10 v11 (nI (wS (fun r => wtN (cc' k) (nI t) gg r))) else fL_streams_220 (q4S_s (qW x W) (unf k (qS x) y)) v1 (nI k) (nI gg) v7 v9 v10 v11 (nI (wS (fun r => wtN (cc' k) (nI t) gg r))))) := by
  rw [show FU = 9995 + 1 + 1 + 1 + 1 + 1 from rfl, show ((0 : Int32), (0 : Int32)) = (nI 0, nI 0) from rfl]
  rw [iterK_s, st_172 _ hk ho hg (by omega), iterK_s, st_172 _ hk ho hg (by omega), iterK_s, st_172 _ hk ho hg (by omega), iterK_s, st_172 _ hk ho hg (by omega), iterK_s]
  unfold fL_streams_172
  dsimp only
  rw [if_pos (show (4 : Int32) ≤ nI (0 + 1 + 1 + 1 + 1) by decide)]
  by_cases e : v10 = 0
  · rw [if_pos e, if_pos e]; rfl
  · rw [if_neg e, if_neg e]
    by_cases e1 : v1 = 0
    · rw [if_pos e1]; rfl
    · rw [if_neg e1]; rfl
/-- the end -/
theorem st_366 {y : FSt} {cc' : CC} {r A : Nat} {v1 v12 : Int32} {W : IA} (h : QJ x t cc ff n g lim) (hT : t ≤ T) (ho : OX (qS x) k t g lim y cc' (n + r)) (hr : r ≤ 1) (hd : v12 = nI A + (if nI r = 0 then 0 else if v1 = 0 then 1 else if v1 = 1 then -1 else 0)) : CmdT x T (lim + 1) (fL_streams_366 (q4S_s (qW x W) (unf k (qS x) y)) v1 (nI A) v12 (nI r) 1) := by
  obtain ⟨ff', a1, a2⟩ := id ho
  have h1 := h.2.2.2.1
  have s435 : fL_streams_435 (q4S_s (qW x W) (unf k (qS x) y)) (nI r) 1 = some (qDone x k y (n + r), 1) := by
    have hs := q_settles (x := (q4S (q4S_s (qW x W) (unf k (qS x) y)), q4C (q4S_s (qW x W) (unf k (qS x) y)))) a1 hr (m := n) h1
    unfold fL_streams_435
    rw [hs, Option.bind_some, keep_r, if_neg one_ne0, if_neg one_ne0]
    rfl
  have s404 : ∀ d : Int32, v12 = nI A + d → CmdT x T (lim + 1) (fL_streams_404 (q4S_s (qW x W) (unf k (qS x) y)) (nI r) d (nI A) v12) := fun d hd => by
    have hrow : fX7_rows 0 (foc 0 (q4S (q4S_s (qW x W) (unf k (qS x) y)))) = some (nI (n + r)) := j_rows a1
    have e1 : q4C (q4S_s (qW x W) (unf k (qS x) y)) (1 : Int32).toNatClampNeg = nI n := h1
    unfold fL_streams_404
    rw [if_pos hd, hrow, Option.bind_some, show inb 1 5 = true from rfl, chk_r, e1]
    have fin : ∀ s : Nat, s = r → CmdT x T (lim + 1) (fL_streams_426 (q4S_s (qW x W) (unf k (qS x) y)) (nI r) (nI s) (nI n) (nI (n + r))) := fun s e => by
      subst e
      unfold fL_streams_426
      rw [nI_add, if_pos rfl, s435]
      exact ⟨_, rfl, qk_done h hT ho (by omega)⟩
    rcases (by omega : r = 0 ∨ r = 1) with e | e
    · rw [if_pos (by rw [e]; rfl)]; exact fin 0 e.symm
    · rw [if_neg (by rw [e]; decide)]; exact fin 1 e.symm
  unfold fL_streams_366
  rw [if_neg one_ne0]
  by_cases e0 : nI r = 0
  · rw [if_pos e0] at hd ⊢
    exact s404 _ hd
  · rw [if_neg e0] at hd ⊢
    by_cases e1 : v1 = 0
    · rw [if_pos e1] at hd ⊢
      exact s404 _ hd
    · rw [if_neg e1] at hd ⊢
      by_cases e2 : v1 = 1
      · rw [if_pos e2] at hd ⊢
        exact s404 _ hd
      · rw [if_neg e2] at hd ⊢
        exact s404 _ hd
/-- what waited, known -/
theorem wS_4 {c : CK} {now : Int32} {g : Nat} (h : thC c now = true) (hT : cT c = 4) : wS (fun r => wtN c now g r) = wt4 (cW c) g 40 := by
  unfold wS wt4
  dsimp only
  rw [wtN_4 h hT, wtN_4 h hT, wtN_4 h hT, wtN_4 h hT]
  omega
theorem wS_le {w : Nat → Nat} (h : ∀ r, w r ≤ 40) : wS w ≤ 160 := by
  have := h 0
  have := h 1
  have := h 2
  have := h 3
  unfold wS
  omega
theorem wS_one {w : Nat → Nat} {r : Nat} (h : r < 4) : w r ≤ wS w := by
  unfold wS
  have h4 : r = 0 ∨ r = 1 ∨ r = 2 ∨ r = 3 := by omega
  rcases h4 with rfl | rfl | rfl | rfl <;> omega
/-- refused -/
theorem st_no {y : FSt} {v1 v7 : Int32} {gg : Nat} {W : IA} (hk : k < 16) (h : QJ x t cc ff n g lim) (hT : t ≤ T) (hg : gg < 3) (ho : OX (qS x) k t g lim y cc n) : CmdT x T (lim + 1) (iterK FU (fL_streams_172 (q4S_s (qW x W) (unf k (qS x) y)) v1 (nI k) (nI gg) v7 (nI (wS (fun r => wtN (cc k) (nI t) gg r))) 0 (-108)) (0, 0)) := by
  rw [st_172all hk ho hg, if_pos rfl]
  unfold fL_streams_224 fL_streams_225
  rw [if_pos rfl, if_pos rfl]
  exact st_366 (r := 0) h hT ho (by omega) (by rw [if_pos (show nI 0 = 0 from rfl)]; simp)
/-- something else was answered, no row -/
theorem st_zero {y : FSt} {cc' : CC} {w : Nat} {v7 a : Int32} {gg : Nat} {W : IA} (hk : k < 16) (h : QJ x t cc ff n g lim) (hT : t ≤ T) (hg : gg < 3) (ho : OX (qS x) k t g lim y cc n) (hw : w = 0 ∧ a = -1 ∨ w = 1 ∧ a = 0) : CmdT x T (lim + 1) (iterK FU (fL_streams_172 (q4S_s (qW x W) (unf k (qS x) y)) (nI w) (nI k) (nI gg) v7 (nI (wS (fun r => wtN (cc k) (nI t) gg r))) 1 a) (0, 0)) := by
  have fin : CmdT x T (lim + 1) (fL_streams_366 (q4S_s (qW x W) (unf k (qS x) y)) (nI w) (nI (wS (fun r => wtN (cc k) (nI t) gg r))) (nI (wS (fun r => wtN (cc k) (nI t) gg r))) (nI 0) 1) := st_366 (r := 0) h hT ho (by omega) (by rw [if_pos (show nI 0 = 0 from rfl)]; simp)
  rw [st_172all hk ho hg, if_neg one_ne0, if_pos (show a ≤ 0 by rcases hw with ⟨-, q⟩ | ⟨-, q⟩ <;> rw [q] <;> decide)]
  unfold fL_streams_224 fL_streams_225
  rw [if_neg one_ne0]
  rcases hw with ⟨rfl, rfl⟩ | ⟨rfl, rfl⟩
  · rw [if_pos (show nI 0 = 0 from rfl), if_pos rfl]
    exact fin
  · rw [if_neg (show ¬ nI 1 = 0 by decide), if_pos (show nI 1 = 1 from rfl), if_pos rfl]
    exact fin
theorem st_read {gg rr : Nat} (hk : k < 16) (h : QJ x t cc ff n g lim) (hT : t ≤ T) (hg : gg < 3) (hr : rr < 4) (hA : tyN (cc k) (nI t) = 4) (hL : n < 300) {v4 : Int32} :
    CmdT x T (lim + 1) (fL_streams_83 (qW x (wF (fun r => wtN (cc k) (nI t) gg r))) (nI 0) (nI k) v4 (nI gg) (nI rr) (nI (wS (fun r => wtN (cc k) (nI t) gg r))) 1) := by
  obtain ⟨hJ, hP, -⟩ := id h
  obtain ⟨hV, hc, hclk, ht, h3⟩ := jz_at hk hJ
  obtain ⟨q1, q2⟩ := tyN_is (by decide) hA
  obtain ⟨⟨g1, g2, g3⟩, g4⟩ := ok_grp hc q2
  unfold fL_streams_83
  rw [if_pos (show nI 0 = 0 from rfl), clN hk, decide_eq_true hk, chk_r]
  rcases a_read (i := 0) hk hJ hg hr hA hL with ⟨w1, w2⟩ | ⟨w1, w2⟩
  · obtain ⟨y, y1, y2⟩ := ox_w hk hJ hP w2 (fun q => absurd q (show ¬ (7 : Int32) = 5 by decide)) (fun q => absurd q (show ¬ (7 : Int32) = 11 by decide))
    have y1 : fL_asks k (foc k (q4S (qW x (wF (fun r => wtN (cc k) (nI t) gg r))))) 6 (nI k) (nI gg) (nI rr) 0 = some (y, nI (cP (cc k) gg + 1)) := y1
    have hcc : upN cc k (opC (7, nI k, nI gg, nI rr, 0, nI t) (cc k)) k = rdC gg rr t (cc k) := by
      rw [upN_s, opC_7 rfl]
      show rdC (cl (nI gg)) (cl (nI rr)) (cl (nI t)) (cc k) = _
      unfold cl
      rw [nI_clamp (by omega), nI_clamp (by omega), nI_clamp (by omega)]
    generalize upN cc k (opC (7, nI k, nI gg, nI rr, 0, nI t) (cc k)) = cc' at y2 hcc
    have hth : thC (cc' k) (nI t) = true := by
      rw [hcc]; exact th_E q1 rdC_L.2.1 (by rw [rdC_L.2.2]; exact thC_T q1)
    have hT4 : cT (cc' k) = 4 := by rw [hcc, rdC_L.2.2]; exact q2
    have hpl : cW (cc k) (40 * gg + cP (cc k) gg) = none := by
      refine Classical.byContradiction (fun q => ?_)
      have := g3 gg (cP (cc k) gg) hg (by omega) q
      omega
    have hW : cW (cc' k) = upN (cW (cc k)) (40 * gg + cP (cc k) gg) (some (t, rr)) := by
      rw [hcc]; unfold rdC; rw [if_pos w1]; rfl
    have hB : wS (fun r => wtN (cc' k) (nI t) gg r) = wS (fun r => wtN (cc k) (nI t) gg r) + 1 := by
      rw [wS_4 hth hT4, wS_4 q1 q2, hW]
      exact wt4_give (by omega) hr hpl
    have hwr : wtN (cc' k) (nI t) gg rr = wtN (cc k) (nI t) gg rr + 1 := by
      rw [wtN_4 hth hT4, wtN_4 q1 q2, hW, wtn_give (by omega) hpl, if_pos rfl]
    have fin : CmdT x T (lim + 1) (fL_streams_366 (q4S_s (qW x (wF (fun r => wtN (cc k) (nI t) gg r))) (unf k (qS x) y)) (nI 0) (nI (wS (fun r => wtN (cc k) (nI t) gg r))) (nI (wS (fun r => wtN (cc' k) (nI t) gg r))) 1 1) := st_366 (r := 1) h hT y2 (by omega) (by rw [if_neg (show ¬ nI 1 = 0 by decide), if_pos (show nI 0 = 0 from rfl), hB]; exact (nI_1 _).symm)
    rw [y1, Option.bind_some, keep_r, keep_r]
    have e0 := st_172all (v1 := nI 0) (v7 := nI rr) (v9 := nI (wS (fun r => wtN (cc k) (nI t) gg r))) (v10 := 1) (v11 := nI (cP (cc k) gg + 1)) (W := wF (fun r => wtN (cc k) (nI t) gg r)) hk y2 hg
    have e0 : iterK FU (fL_streams_172 (q4S_s (qW x (wF fun r => wtN (cc k) (nI t) gg r)) (unf k (q4S (qW x (wF fun r => wtN (cc k) (nI t) gg r))) y)) (nI 0) (nI k) (nI gg) (nI rr) (nI (wS fun r => wtN (cc k) (nI t) gg r)) 1 (nI (cP (cc k) gg + 1))) (0, 0) = _ := e0
    rw [e0, if_neg one_ne0, if_neg (show ¬ nI (cP (cc k) gg + 1) ≤ 0 from nI_nle (by omega) (by omega))]
    obtain ⟨ff', a1, a2⟩ := id y2
    obtain ⟨hV2, hc2, hclk2, -⟩ := jz_at hk a1
    have z1 := q_size hk hV2
    have z2 := q_wait hk hV2 hc2 hg hr
    rw [hclk2] at z1 z2
    have z1 : fX7_size k (foc k (q4S (q4S_s (qW x (wF fun r => wtN (cc k) (nI t) gg r)) (unf k (qS x) y)))) (nI k) = some (.inl (nI (szN (cc' k) (nI t)))) := z1
    have z2 : fX7_waiting k (foc k (q4S (q4S_s (qW x (wF fun r => wtN (cc k) (nI t) gg r)) (unf k (qS x) y)))) (nI k) (nI gg) (nI rr) = some (.inl (nI (wtN (cc' k) (nI t) gg rr))) := z2
    have hsz : szN (cc' k) (nI t) = (cL (cc k)).length := by rw [szN_t hth, hcc, rdC_L.1]
    have hw4 : q4W (q4S_s (qW x (wF fun r => wtN (cc k) (nI t) gg r)) (unf k (qS x) y)) rr = nI (wtN (cc k) (nI t) gg rr) := wF_at hr
    unfold fL_streams_220 fL_streams_225
    rw [if_neg one_ne0, if_pos (show nI 0 = 0 from rfl), if_neg (show ¬ nI (cP (cc k) gg + 1) = -1 from fun q => by rw [nI_nm1 (by omega)] at q; exact q), if_neg (show ¬ nI (cP (cc k) gg + 1) ≤ 0 from nI_nle (by omega) (by omega)), clN hk, decide_eq_true hk, chk_r, z1, Option.bind_some, thrL, hsz, if_neg (nI_nlt w1 (by omega)), chk_r, z2, Option.bind_some, thrL, inb_nI hr (by omega), chk_r, clN (by omega : rr < 16), hw4, nI_1, hwr, if_pos rfl]
    unfold fL_streams_276
    exact fin
  · obtain ⟨y, y1, y2⟩ := ox_n hP w2
    have y1 : fL_asks k (foc k (q4S (qW x (wF (fun r => wtN (cc k) (nI t) gg r))))) 6 (nI k) (nI gg) (nI rr) 0 = some (y, -1) := y1
    rw [y1, Option.bind_some, keep_r, keep_r]
    exact st_zero (w := 0) (cc' := cc) hk h hT hg y2 (Or.inl ⟨rfl, rfl⟩)
theorem st_done {gg rr : Nat} {v4 : Int32} (hk : k < 16) (h : QJ x t cc ff n g lim) (hT : t ≤ T) (hg : gg < 3) (hA : tyN (cc k) (nI t) = 4) (hL : n < 300) :
    CmdT x T (lim + 1) (fL_streams_83 (qW x (wF (fun r => wtN (cc k) (nI t) gg r))) (nI 1) (nI k) v4 (nI gg) (nI rr) (nI (wS (fun r => wtN (cc k) (nI t) gg r))) 1) := by
  obtain ⟨hJ, hP, -⟩ := id h
  obtain ⟨hV, hc, hclk, ht, h3⟩ := jz_at hk hJ
  obtain ⟨q1, q2⟩ := tyN_is (by decide) hA
  obtain ⟨⟨g1, g2, g3⟩, g4⟩ := ok_grp hc q2
  unfold fL_streams_83
  rw [if_neg (show ¬ nI 1 = 0 by decide), if_pos (show nI 1 = 1 from rfl), clN hk, decide_eq_true hk, chk_r]
  rcases a_done (e := (v4 - v4 / 42 * 42) - 1) (i := 0) hk hJ hg hA hL with ⟨w1, w2⟩ | ⟨w1, w2⟩
  · obtain ⟨y, y1, y2⟩ := ox_w hk hJ hP w2 (fun q => absurd q (show ¬ (8 : Int32) = 5 by decide)) (fun q => absurd q (show ¬ (8 : Int32) = 11 by decide))
    have y1 : fL_asks k (foc k (q4S (qW x (wF (fun r => wtN (cc k) (nI t) gg r))))) 7 (nI k) (nI gg) ((v4 - v4 / 42 * 42) - 1) 0 = some (y, 1) := y1
    have hcc : upN cc k (opC (8, nI k, nI gg, (v4 - v4 / 42 * 42) - 1, 0, nI t) (cc k)) k = dnC gg ((v4 - v4 / 42 * 42) - 1) (cc k) := by
      rw [upN_s, opC_8 rfl]
      show dnC (cl (nI gg)) _ (cc k) = _
      unfold cl
      rw [nI_clamp (by omega)]
      rfl
    generalize upN cc k (opC (8, nI k, nI gg, (v4 - v4 / 42 * 42) - 1, 0, nI t) (cc k)) = cc' at y2 hcc
    have hth : thC (cc' k) (nI t) = true := by
      rw [hcc]; exact th_E q1 dnC_L.2.1 (by rw [dnC_L.2.2]; exact thC_T q1)
    have hT4 : cT (cc' k) = 4 := by rw [hcc, dnC_L.2.2]; exact q2
    have hB : wS (fun r => wtN (cc' k) (nI t) gg r) + 1 = wS (fun r => wtN (cc k) (nI t) gg r) := by
      rw [wS_4 hth hT4, wS_4 q1 q2, hcc]
      unfold dnA at w1
      unfold dnC
      cases e : eno ((v4 - v4 / 42 * 42) - 1) with
      | none => rw [e] at w1; exact absurd w1 (show ¬ (0 : Int32) = 1 by decide)
      | some j =>
        rw [e] at w1
        dsimp only at w1 ⊢
        have hj := (eno_some e).1
        cases q : cW (cc k) (40 * gg + j) with
        | none => rw [if_pos q] at w1; exact absurd w1 (by decide)
        | some z =>
          obtain ⟨s, r'⟩ := z
          exact wt4_done hj (g1 _ _ _ q).1 q
    have fin : CmdT x T (lim + 1) (fL_streams_366 (q4S_s (qW x (wF (fun r => wtN (cc k) (nI t) gg r))) (unf k (qS x) y)) (nI 1) (nI (wS (fun r => wtN (cc k) (nI t) gg r))) (nI (wS (fun r => wtN (cc' k) (nI t) gg r))) 1 1) := st_366 (r := 1) h hT y2 (by omega) (by
      rw [if_neg (show ¬ nI 1 = 0 by decide), if_neg (show ¬ nI 1 = 0 by decide), if_pos (show nI 1 = 1 from rfl), ← hB, nI_a1 (by omega)]; rfl)
    rw [y1, Option.bind_some, keep_r, keep_r]
    have e0 := st_172all (v1 := nI 1) (v7 := nI rr) (v9 := nI (wS (fun r => wtN (cc k) (nI t) gg r))) (v10 := 1) (v11 := 1) (W := wF (fun r => wtN (cc k) (nI t) gg r)) hk y2 hg
    have e0 : iterK FU (fL_streams_172 (q4S_s (qW x (wF fun r => wtN (cc k) (nI t) gg r)) (unf k (q4S (qW x (wF fun r => wtN (cc k) (nI t) gg r))) y)) (nI 1) (nI k) (nI gg) (nI rr) (nI (wS fun r => wtN (cc k) (nI t) gg r)) 1 1) (0, 0) = _ := e0
    rw [e0, if_neg one_ne0, if_neg (show ¬ (1 : Int32) ≤ 0 by decide)]
    unfold fL_streams_220 fL_streams_225
    rw [if_neg one_ne0, if_neg (show ¬ nI 1 = 0 by decide), if_pos (show nI 1 = 1 from rfl), if_neg one_ne0, if_pos rfl]
    unfold fL_streams_300
    exact fin
  · obtain ⟨y, y1, y2⟩ := ox_n hP w2
    have y1 : fL_asks k (foc k (q4S (qW x (wF (fun r => wtN (cc k) (nI t) gg r))))) 7 (nI k) (nI gg) ((v4 - v4 / 42 * 42) - 1) 0 = some (y, 0) := y1
    rw [y1, Option.bind_some, keep_r, keep_r]
    exact st_zero (w := 1) (cc' := cc) hk h hT hg y2 (Or.inr ⟨rfl, rfl⟩)
theorem st_claim {gg rr d : Nat} (hk : k < 16) (h : QJ x t cc ff n g lim) (hT : t ≤ T) (hg : gg < 3) (hr : rr < 4) (hd : d < 1001) (hA : tyN (cc k) (nI t) = 4) (hL : n < 300) :
    CmdT x T (lim + 1) (fL_streams_161 (qW x (wF (fun r => wtN (cc k) (nI t) gg r))) (nI 2) (nI k) (nI gg) (nI rr) (nI (wS (fun r => wtN (cc k) (nI t) gg r))) 1 (nI d) (nI rr) (nI gg) (nI k) 8) := by
  obtain ⟨hJ, hP, -⟩ := id h
  obtain ⟨hV, hc, hclk, ht, h3⟩ := jz_at hk hJ
  obtain ⟨q1, q2⟩ := tyN_is (by decide) hA
  obtain ⟨⟨g1, g2, g3⟩, g4⟩ := ok_grp hc q2
  have h160 := wS_le (w := fun r => wtN (cc k) (nI t) gg r) (fun _ => wtN_le)
  have h1le := wS_one (w := fun r => wtN (cc k) (nI t) gg r) hr
  have hmv : mvn (cW (cc k)) gg rr d t 40 ≤ 40 := mvn_le
  unfold fL_streams_161
  rw [clN hk, decide_eq_true hk, chk_r]
  have main : ∀ (y : FSt) (cc' : CC) (r : Nat), r ≤ 1 → OX (qS x) k t g lim y cc' (n + r) → wS (fun r => wtN (cc' k) (nI t) gg r) = wS (fun r => wtN (cc k) (nI t) gg r) → wtN (cc' k) (nI t) gg rr = wtN (cc k) (nI t) gg rr + mvn (cW (cc k)) gg rr d t 40 → (r = 0 ↔ mvn (cW (cc k)) gg rr d t 40 = 0) → fL_asks k (foc k (qS x)) 8 (nI k) (nI gg) (nI rr) (nI d) = some (y, nI (mvn (cW (cc k)) gg rr d t 40)) →
      CmdT x T (lim + 1) ((fL_asks k (foc k (q4S (qW x (wF fun r => wtN (cc k) (nI t) gg r)))) 8 (nI k) (nI gg) (nI rr) (nI d)).bind fun u156 => keep (q4S_s (qW x (wF fun r => wtN (cc k) (nI t) gg r)) (unf k (q4S (qW x (wF fun r => wtN (cc k) (nI t) gg r))) u156.1)) fun x159 => keep u156.2 fun y160 => iterK FU (fL_streams_172 x159 (nI 2) (nI k) (nI gg) (nI rr) (nI (wS fun r => wtN (cc k) (nI t) gg r)) 1 y160) (0, 0)) := fun y cc' r hr1 y2 hB hwr h0 y1 => by
    have y1 : fL_asks k (foc k (q4S (qW x (wF (fun r => wtN (cc k) (nI t) gg r))))) 8 (nI k) (nI gg) (nI rr) (nI d) = some (y, nI (mvn (cW (cc k)) gg rr d t 40)) := y1
    have hwle := wS_one (w := fun r => wtN (cc' k) (nI t) gg r) hr
    rw [hB] at hwle
    have fin : CmdT x T (lim + 1) (fL_streams_366 (q4S_s (qW x (wF (fun r => wtN (cc k) (nI t) gg r))) (unf k (qS x) y)) (nI 2) (nI (wS (fun r => wtN (cc k) (nI t) gg r))) (nI (wS (fun r => wtN (cc k) (nI t) gg r))) (nI r) 1) := st_366 (r := r) h hT y2 (by omega) (by
      rw [if_neg (show ¬ nI 2 = 0 by decide), if_neg (show ¬ nI 2 = 1 by decide)]
      split <;> simp)
    rw [y1, Option.bind_some, keep_r, keep_r]
    have e0 := st_172all (v1 := nI 2) (v7 := nI rr) (v9 := nI (wS (fun r => wtN (cc k) (nI t) gg r))) (v10 := 1) (v11 := nI (mvn (cW (cc k)) gg rr d t 40)) (W := wF (fun r => wtN (cc k) (nI t) gg r)) hk y2 hg
    have e0 : iterK FU (fL_streams_172 (q4S_s (qW x (wF fun r => wtN (cc k) (nI t) gg r)) (unf k (q4S (qW x (wF fun r => wtN (cc k) (nI t) gg r))) y)) (nI 2) (nI k) (nI gg) (nI rr) (nI (wS fun r => wtN (cc k) (nI t) gg r)) 1 (nI (mvn (cW (cc k)) gg rr d t 40))) (0, 0) = _ := e0
    rw [e0, if_neg one_ne0, hB]
    obtain ⟨ff', a1, a2⟩ := id y2
    obtain ⟨hV2, hc2, hclk2, -⟩ := jz_at hk a1
    have z2 := q_wait hk hV2 hc2 hg hr
    rw [hclk2] at z2
    have z2 : fX7_waiting k (foc k (q4S (q4S_s (qW x (wF fun r => wtN (cc k) (nI t) gg r)) (unf k (qS x) y)))) (nI k) (nI gg) (nI rr) = some (.inl (nI (wtN (cc' k) (nI t) gg rr))) := z2
    have hw4 : q4W (q4S_s (qW x (wF fun r => wtN (cc k) (nI t) gg r)) (unf k (qS x) y)) rr = nI (wtN (cc k) (nI t) gg rr) := wF_at hr
    have k225 : CmdT x T (lim + 1) (fL_streams_225 (q4S_s (qW x (wF (fun r => wtN (cc k) (nI t) gg r))) (unf k (qS x) y)) (nI 2) (nI k) (nI gg) (nI rr) (nI (wS (fun r => wtN (cc k) (nI t) gg r))) 1 (nI (mvn (cW (cc k)) gg rr d t 40)) (nI (wS (fun r => wtN (cc k) (nI t) gg r))) (nI r)) := by
      unfold fL_streams_225
      rw [if_neg one_ne0, if_neg (show ¬ nI 2 = 0 by decide), if_neg (show ¬ nI 2 = 1 by decide), if_neg (nI_pos (by omega)), inb_nI hr (by omega), chk_r, clN (by omega : rr < 16), hw4, pk_sub h1le, if_neg (nI_nlt (by omega) (by omega)), clN hk, decide_eq_true hk, chk_r, z2, Option.bind_some, thrL, chk_r, hwr, nI_add, if_pos rfl]
      exact fin
    rcases (by omega : r = 0 ∨ r = 1) with e | e
    · have := h0.mp e
      rw [if_pos (show nI (mvn (cW (cc k)) gg rr d t 40) ≤ 0 by rw [this]; decide)]
      unfold fL_streams_224
      rw [e] at k225
      exact k225
    · have : ¬ mvn (cW (cc k)) gg rr d t 40 = 0 := fun q => by have := h0.mpr q; omega
      rw [if_neg (show ¬ nI (mvn (cW (cc k)) gg rr d t 40) ≤ 0 from nI_nle (by omega) (by omega))]
      unfold fL_streams_220
      rw [e] at k225
      exact k225
  rcases a_claim hk hJ hg hr hd hA hL with ⟨w1, w2⟩ | ⟨w1, w2⟩
  · obtain ⟨y, y1, y2⟩ := ox_w hk hJ hP w2 (fun q => absurd q (show ¬ (9 : Int32) = 5 by decide)) (fun q => absurd q (show ¬ (9 : Int32) = 11 by decide))
    have hcc : upN cc k (opC (9, nI k, nI gg, nI rr, nI d, nI t) (cc k)) k = clC gg rr d t (cc k) := by
      rw [upN_s, opC_9 rfl]
      show clC (cl (nI gg)) (cl (nI rr)) (cl (nI d)) (cl (nI t)) (cc k) = _
      unfold cl
      rw [nI_clamp (by omega), nI_clamp (by omega), nI_clamp (by omega), nI_clamp (by omega)]
    generalize upN cc k (opC (9, nI k, nI gg, nI rr, nI d, nI t) (cc k)) = cc' at y2 hcc
    have hth : thC (cc' k) (nI t) = true := by
      rw [hcc]; exact th_E q1 clC_L.2.1 (by rw [clC_L.2.2]; exact thC_T q1)
    have hT4 : cT (cc' k) = 4 := by rw [hcc, clC_L.2.2]; exact q2
    have hW : cW (cc' k) = mvw (cW (cc k)) gg rr d t := by rw [hcc]; rfl
    refine main y cc' 1 (by omega) y2 ?_ ?_ ⟨fun q => absurd q (by decide), fun q => by omega⟩ y1
    · rw [wS_4 hth hT4, wS_4 q1 q2, hW]
      exact wt4_mv g1 hr 40 (by omega)
    · rw [wtN_4 hth hT4, wtN_4 q1 q2, hW]
      exact wtn_mv 40 (by omega)
  · obtain ⟨y, y1, y2⟩ := ox_n hP w2
    exact main y cc 0 (by omega) y2 rfl (by rw [w1]; rfl) ⟨fun _ => w1, fun _ => rfl⟩ (by rw [w1]; exact y1)
theorem st_refused {w gg rr : Nat} {Y : Nat} (hk : k < 16) (h : QJ x t cc ff n g lim) (hT : t ≤ T) (hg : gg < 3) (hr : rr < 4) (hY : Y < 2 ^ 31) (hw : w < 3) (hn : ¬ (tyN (cc k) (nI t) = 4 ∧ n < 300)) :
    CmdT x T (lim + 1) (fL_streams_83 (qW x (wF (fun r => wtN (cc k) (nI t) gg r))) (nI w) (nI k) (nI Y) (nI gg) (nI rr) (nI (wS (fun r => wtN (cc k) (nI t) gg r))) 0) := by
  obtain ⟨hJ, hP, -⟩ := id h
  unfold fL_streams_83
  have hw3 : w = 0 ∨ w = 1 ∨ w = 2 := by omega
  rcases hw3 with rfl | rfl | rfl
  · obtain ⟨y, y1, y2⟩ := ox_n hP (n_read (i := 0) hk hJ hg hr hn)
    have y1 : fL_asks k (foc k (q4S (qW x (wF (fun r => wtN (cc k) (nI t) gg r))))) 6 (nI k) (nI gg) (nI rr) 0 = some (y, -108) := y1
    rw [if_pos (show nI 0 = 0 from rfl), clN hk, decide_eq_true hk, chk_r, y1, Option.bind_some, keep_r, keep_r]
    exact st_no hk h hT hg y2
  · obtain ⟨y, y1, y2⟩ := ox_n hP (n_done (e := (nI Y - nI Y / 42 * 42) - 1) (i := 0) hk hJ hg hn)
    have y1 : fL_asks k (foc k (q4S (qW x (wF (fun r => wtN (cc k) (nI t) gg r))))) 7 (nI k) (nI gg) ((nI Y - nI Y / 42 * 42) - 1) 0 = some (y, -108) := y1
    rw [if_neg (show ¬ nI 1 = 0 by decide), if_pos (show nI 1 = 1 from rfl), clN hk, decide_eq_true hk, chk_r, y1, Option.bind_some, keep_r, keep_r]
    exact st_no hk h hT hg y2
  · have go : ∀ d : Nat, d < 1001 → CmdT x T (lim + 1) (fL_streams_161 (qW x (wF (fun r => wtN (cc k) (nI t) gg r))) (nI 2) (nI k) (nI gg) (nI rr) (nI (wS (fun r => wtN (cc k) (nI t) gg r))) 0 (nI d) (nI rr) (nI gg) (nI k) 8) := fun d hd => by
      obtain ⟨y, y1, y2⟩ := ox_n hP (n_claim hk hJ hg hr hd hn)
      have y1 : fL_asks k (foc k (q4S (qW x (wF (fun r => wtN (cc k) (nI t) gg r))))) 8 (nI k) (nI gg) (nI rr) (nI d) = some (y, -108) := y1
      unfold fL_streams_161
      rw [clN hk, decide_eq_true hk, chk_r, y1, Option.bind_some, keep_r, keep_r]
      exact st_no hk h hT hg y2
    rw [if_neg (show ¬ nI 2 = 0 by decide), if_neg (show ¬ nI 2 = 1 by decide)]
    by_cases e3 : nI Y - nI Y / 3 * 3 = 0
    · rw [if_pos e3, d3, show (1001 : Int32) = nI 1001 from rfl, pk_div hY (by omega) (by omega), pk_rem (by omega) (by omega) (by omega)]
      exact go _ (Nat.mod_lt _ (by omega))
    · rw [if_neg e3, d3, d5, pk_div hY (by omega) (by omega), pk_rem (by omega) (by omega) (by omega)]
      exact go _ (Nat.lt_trans (Nat.mod_lt _ (by omega)) (by omega))
/-- every stream's command -/
theorem strs {w X Y : Nat} (hk : k < 16) (h : QJ x t cc ff n g lim) (hT : t ≤ T) (hw : w < 3) (hX : X < 2 ^ 31) (hY : Y < 2 ^ 31) : CmdT x T (lim + 1) (fL_streams x (nI w) (nI k) (nI X) (nI Y)) := by
  obtain ⟨hJ, hP, -⟩ := id h
  obtain ⟨hV, hc, hclk, ht, h3⟩ := jz_at hk hJ
  unfold fL_streams
  rw [keep_r, d3, d4, pk_rem hX (by omega) (by omega), pk_div hX (by omega) (by omega), pk_rem (by omega) (by omega) (by omega), keep_r, keep_r]
  have hg : X % 3 < 3 := Nat.mod_lt _ (by omega)
  have hr : X / 3 % 4 < 4 := Nat.mod_lt _ (by omega)
  generalize X % 3 = gg at hg ⊢
  generalize X / 3 % 4 = rr at hr ⊢
  obtain ⟨rec, e⟩ := st_23all (v1 := nI w) (v4 := nI Y) (v7 := nI rr) hk h hg
  rw [e]
  unfold fL_streams_23
  dsimp only
  have z := q_type hk hV
  rw [hclk] at z
  have z : fX7_typeOf k (foc k (q4S (qW x (wF (fun r => wtN (cc k) (nI t) gg r))))) (nI k) = some (.inl (tyN (cc k) (nI t))) := z
  have e1 : q4C (qW x (wF (fun r => wtN (cc k) (nI t) gg r))) (1 : Int32).toNatClampNeg = nI n := h.2.2.2.1
  rw [if_pos (show (4 : Int32) ≤ nI 4 by decide), clN hk, decide_eq_true hk, chk_r, z, Option.bind_some, thrL]
  by_cases hA : tyN (cc k) (nI t) = 4
  · rw [if_pos hA, show inb 1 5 = true from rfl, chk_r, e1]
    by_cases hL : n < 300
    · rw [if_neg (show ¬ (300 : Int32) ≤ nI n from nI_ge (b := 300) hL (by omega))]
      have hw3 : w = 0 ∨ w = 1 ∨ w = 2 := by omega
      rcases hw3 with rfl | rfl | rfl
      · exact st_read hk h hT hg hr hA hL
      · exact st_done hk h hT hg hA hL
      · unfold fL_streams_83
        rw [if_neg (show ¬ nI 2 = 0 by decide), if_neg (show ¬ nI 2 = 1 by decide)]
        by_cases e3 : nI Y - nI Y / 3 * 3 = 0
        · rw [if_pos e3, d3, show (1001 : Int32) = nI 1001 from rfl, pk_div hY (by omega) (by omega), pk_rem (by omega) (by omega) (by omega)]
          exact st_claim hk h hT hg hr (Nat.mod_lt _ (by omega)) hA hL
        · rw [if_neg e3, d3, d5, pk_div hY (by omega) (by omega), pk_rem (by omega) (by omega) (by omega)]
          exact st_claim hk h hT hg hr (Nat.lt_trans (Nat.mod_lt _ (by omega)) (by omega)) hA hL
    · rw [if_pos (show (300 : Int32) ≤ nI n from nI_le (a := 300) (by omega) (by omega))]
      unfold fL_streams_82
      exact st_refused hk h hT hg hr hY hw (fun q => hL q.2)
  · rw [if_neg hA]
    unfold fL_streams_82
    exact st_refused hk h hT hg hr hY hw (fun q => hA q.1)
end STR

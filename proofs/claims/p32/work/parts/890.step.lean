/-! one step -/
section STEP
variable {x : QSt} {k t : Nat} {cc : CC} {ff : Nat → FK} {n : Nat} {g : Option (Nat × Nat)} {lim T : Nat}
theorem CmdG.mono {T T' lim lim' : Nat} {o : Option (GoSt × Int32)} (h : CmdG T lim o) (hT : T ≤ T') (hl : lim ≤ lim') : CmdG T' lim' o := by
  obtain ⟨u, h1, h2, h3⟩ := h
  exact ⟨u, h1, h2, h3.mono hT hl⟩
theorem p_194 {w X Y : Nat} (hk : k < 16) (h : QJ x t cc ff n g lim) (hT : t ≤ T) (hw : w < 7) (hX : X < 2 ^ 31) (hY : Y < 2 ^ 31) : CmdG T (lim + 1) (fL_step_194 x (nI X) (nI Y) (nI k) (nI w)) := by
  unfold CmdG fL_step_194
  rw [show (80 : Int32) = nI 80 from rfl, pk_div hX (by omega) (by omega)]
  obtain ⟨x', e1, e2⟩ := cmds (X := X / 80) hk h hT hw (by omega) hY
  exact okb e1 (okk (okc rfl (oks ⟨rfl, e2⟩)))
theorem p_88 {d X Y : Nat} (hk : k < 16) (h : QJ x t cc ff n g lim) (hT : t ≤ T) (hd : d < 7) (hX : X < 2 ^ 31) (hY : Y < 2 ^ 31) : CmdG T (lim + 1) (fL_step_88 x (nI X) (nI Y) (nI k) (nI d)) := by
  have h132 : ∀ s : Nat, s < 16 → CmdG T (lim + 1) (fL_step_132 x (nI X) (nI Y) (nI k) (nI d) (nI s)) := fun s hs => by
    unfold CmdG fL_step_132
    by_cases e6 : nI d = 6
    · refine okt e6 ?_
      by_cases e : (0 : Int32) < nI Y - nI Y / 3 * 3
      · exact okt e (oks ⟨rfl, QK.mono (T := T) (lim := lim) ⟨t, cc, ff, n, g, hT, h⟩ (by omega) (by omega)⟩)
      · refine oke e ?_
        rw [d16, d3, pk_div hX (by omega) (by omega), pk_div hY (by omega) (by omega)]
        obtain ⟨x', e1, e2⟩ := cmds (w := 6) (X := X / 16) (Y := Y / 3) hk h hT (by omega) (by omega) (by omega)
        exact okb e1 (okk (oke one_ne0 (oks ⟨rfl, e2⟩)))
    · refine oke e6 ?_
      by_cases e : (nI X / 16) - (nI X / 16) / 5 * 5 = 0
      · exact okt e (p_194 hk h hT hd hX hY)
      · exact oke e (p_194 hs h hT hd hX hY)
  have h7 : d = 0 ∨ d = 1 ∨ d = 2 ∨ d = 3 ∨ d = 4 ∨ d = 5 ∨ d = 6 := by omega
  unfold fL_step_88 fL_step_101 fL_step_117
  rcases h7 with rfl | rfl | rfl | rfl | rfl | rfl | rfl
  · exact okt (by decide) (h132 0 (by omega))
  · exact oke (by decide) (oke (by decide) (okt (by decide) (h132 1 (by omega))))
  · exact oke (by decide) (oke (by decide) (oke (by decide) (oke (by decide) (okt (by decide) (h132 3 (by omega))))))
  · exact oke (by decide) (okt (by decide) (h132 0 (by omega)))
  · exact oke (by decide) (oke (by decide) (oke (by decide) (okt (by decide) (h132 1 (by omega)))))
  · exact oke (by decide) (oke (by decide) (oke (by decide) (oke (by decide) (oke (by decide) (h132 2 (by omega))))))
  · exact oke (by decide) (oke (by decide) (oke (by decide) (oke (by decide) (oke (by decide) (h132 2 (by omega))))))
theorem p_233 {s X Y : Nat} (hk : k < 16) (h : QJ x t cc ff n g lim) (hT : t ≤ T) (hs : s < 3) (hX : X < 2 ^ 31) (hY : Y < 2 ^ 31) : CmdG T (lim + 1) (fL_step_233 x (nI X) (nI Y) (nI k) (nI s)) := by
  have h245 : ∀ j : Nat, j < 16 → CmdG T (lim + 1) (fL_step_245 x (nI X) (nI Y) (nI j) (nI s)) := fun j hj => by
    unfold CmdG fL_step_245
    rw [d16, pk_div hX (by omega) (by omega)]
    obtain ⟨x', e1, e2⟩ := strs (X := X / 16) hj h hT hs (by omega) hY
    exact okb e1 (okk (okc rfl (oks ⟨rfl, e2⟩)))
  unfold fL_step_233
  by_cases e : nI X - nI X / 5 * 5 = 0
  · exact okt e (h245 k hk)
  · exact oke e (h245 3 (by omega))
theorem th_enC {t d : Nat} {c : CK} (h0 : cT c ≠ 0) (hd : 1 ≤ d) (ht : t + d < 2 ^ 31) : lfN (enC (nI (t + d)) c) (nI t) = nI d := by
  have hth : thC (enC (nI (t + d)) c) (nI t) = true := by
    unfold thC
    rw [Bool.and_eq_true, Bool.or_eq_true]
    exact ⟨decide_eq_true h0, Or.inr (decide_eq_true (nI_lt (by omega) ht))⟩
  unfold lfN
  rw [if_pos hth]
  show (if nI (t + d) = -1 then -1 else nI (t + d) - nI t) = nI d
  rw [if_neg (fun q => by rw [nI_nm1 ht] at q; exact q), pk_sub (by omega)]
  congr 1; omega
theorem p_286 {m Y : Nat} (hk : k < 16) (h : QJ x t cc ff n g lim) (hT : t ≤ T) (hm : 0 < m) (hm2 : m ≤ 1000) (hY : Y < 2 ^ 31) : CmdG T (lim + 1) (fL_step_286 x (nI k) (tyN (cc k) (nI t)) (nI m) (nI Y) 1) := by
  obtain ⟨hJ, hP, -⟩ := id h
  obtain ⟨hV, hc, hclk, ht, h3⟩ := jz_at hk hJ
  have h1 := h.2.2.2.1
  have hd0 : Y % m < m := Nat.mod_lt _ hm
  have e390 : ∀ (y : FSt) (cc' : CC) (r : Nat), r ≤ 1 → OX (qS x) k t g lim y cc' (n + r) → (r = 1 → lfN (cc' k) (nI t) = nI (1 + Y % m)) → ∀ a : Int32, CmdG T (lim + 1) (fL_step_344 (qS_s x (unf k (qS x) y)) (nI k) (nI (1 + Y % m)) (nI r) a a) := fun y cc' r hr ho hl a => by
    obtain ⟨ff', a1, a2⟩ := id ho
    have s390 : CmdG T (lim + 1) (fL_step_390 (qS_s x (unf k (qS x) y)) (nI r) 1) := by
      unfold CmdG fL_step_390
      refine okb (q_settles (x := qS_s x (unf k (qS x) y)) a1 hr (m := n) h1) (okk (oke one_ne0 (oke one_ne0 (oks ⟨rfl, ?_⟩))))
      exact qk_done h hT ho (by omega)
    have s363 : CmdG T (lim + 1) (fL_step_363 (qS_s x (unf k (qS x) y)) (nI r)) := by
      have s381 : ∀ s : Nat, s = r → CmdG T (lim + 1) (fL_step_381 (qS_s x (unf k (qS x) y)) (nI r) (nI s) (qC (qS_s x (unf k (qS x) y)) (1 : Int32).toNatClampNeg) (nI (n + r))) := fun s e => by
        subst e
        unfold fL_step_381
        refine okt ?_ s390
        show nI (n + s) = qC x 1 + nI s
        rw [h1, nI_add]
      unfold fL_step_363
      refine okb (j_rows a1) (okc rfl ?_)
      rcases (by omega : r = 0 ∨ r = 1) with e | e
      · exact okt (by rw [e]; rfl) (s381 0 e.symm)
      · exact oke (by rw [e]; decide) (s381 1 e.symm)
    unfold fL_step_344
    refine okt rfl ?_
    rcases (by omega : r = 0 ∨ r = 1) with e | e
    · exact okt (by rw [e]; rfl) s363
    · obtain ⟨hV2, hc2, hclk2, -⟩ := jz_at hk a1
      have z := q_left hk hV2
      rw [hclk2, hl e] at z
      refine oke (by rw [e]; decide) ?_
      rw [clN hk]
      exact okc (decide_eq_true hk) (okb z (okt rfl s363))
  unfold fL_step_286
  refine okc (decide_eq_true (fun q => by rw [nI_eq0 (by omega)] at q; omega)) ?_
  rw [pk_rem hY hm (by omega), show (1 : Int32) = nI 1 from rfl, nI_add, keep_r, clN hk]
  refine okc (decide_eq_true hk) ?_
  have c1 : ∀ y : FSt, qC (qS_s x (unf k (qS x) y)) (1 : Int32).toNatClampNeg = nI n := fun y => h1
  by_cases hL : n < 300
  · rcases a_expire (d := 1 + Y % m) (e := 0) (i := 0) hk hJ (by omega) (by omega) hL with ⟨q1, q3⟩ | ⟨q1, q3⟩
    · obtain ⟨y, y1, y2⟩ := ox_w hk hJ hP q3 (fun q => absurd q (show ¬ (11 : Int32) = 5 by decide)) (fun _ => ⟨t + (1 + Y % m), by omega, rfl⟩)
      refine okb y1 (okk (okk (okt rfl ?_)))
      unfold fL_step_315
      rw [c1 y]
      refine okc rfl (oke (show ¬ nI n = (300 : Int32) from fun q => by have := (nI_eqE (b := 300) (by omega) (by omega)).mp q; omega) (oke (fun q => by rw [(ty_le0 hc).mp q] at q1; cases q1) ?_))
      refine e390 y _ 1 (by omega) y2 (fun _ => ?_) 1
      rw [upN_s, opC_11 rfl]
      exact th_enC (thC_T q1) (by omega) (by omega)
    · obtain ⟨y, y1, y2⟩ := ox_n hP q3
      refine okb y1 (okk (okk (oke (show ¬ (0 : Int32) = 1 by decide) ?_)))
      unfold fL_step_315
      rw [c1 y]
      refine okc rfl (oke (show ¬ nI n = (300 : Int32) from fun q => by have := (nI_eqE (b := 300) (by omega) (by omega)).mp q; omega) (okt ((ty_le0 hc).mpr q1) ?_))
      exact e390 y _ 0 (by omega) y2 (fun q => absurd q (by decide)) 0
  · obtain ⟨y, y1, y2⟩ := ox_n hP (n_expire (d := 1 + Y % m) (e := 0) (i := 0) hk hJ (by omega) (by omega) hL)
    refine okb y1 (okk (okk (oke (show ¬ (-108 : Int32) = 1 by decide) ?_)))
    unfold fL_step_315
    rw [c1 y]
    refine okc rfl (okt (show nI n = (300 : Int32) by rw [show n = 300 by omega]; rfl) ?_)
    exact e390 y _ 0 (by omega) y2 (fun q => absurd q (by decide)) (-108)
theorem lf_tick {t d : Nat} {c : CK} (hp : okP t c) (ht : t + d < 2 ^ 30) : (if 1 ≤ lfN c (nI t) then (if lfN c (nI t) ≤ nI d then 0 else lfN c (nI t) - nI d) else lfN c (nI t)) = lfN c (nI (t + d)) := by
  have hle : nI t ≤ nI (t + d) := nI_le (by omega) (by omega)
  cases e : thC c (nI t) with
  | false =>
    have e1 : lfN c (nI t) = 0 := if_neg (by rw [e]; decide)
    have e2 : lfN c (nI (t + d)) = 0 := if_neg (fun q => by rw [th_mono q hle] at e; cases e)
    rw [e1, e2, if_neg (by decide)]
  | true =>
    obtain ⟨-, hE, -⟩ := hp e
    rcases hE with w | ⟨z, z1, z2⟩
    · have e3 : thC c (nI (t + d)) = true := by
        unfold thC
        rw [Bool.and_eq_true, Bool.or_eq_true]
        exact ⟨decide_eq_true (thC_T e), Or.inl (decide_eq_true w)⟩
      have e1 : lfN c (nI t) = -1 := by unfold lfN; rw [if_pos e, if_pos w]
      have e2 : lfN c (nI (t + d)) = -1 := by unfold lfN; rw [if_pos e3, if_pos w]
      rw [e1, e2, if_neg (by decide)]
    · have hn1 : ¬ cE c = -1 := fun q => by rw [z2, nI_nm1 (by omega)] at q; exact q
      have hlt : t < z := by
        unfold thC at e
        simp only [Bool.and_eq_true, Bool.or_eq_true, decide_eq_true_eq] at e
        rcases e.2 with g | g
        · exact absurd g hn1
        · rw [z2, nI_ltE (by omega) (by omega)] at g; exact g
      have e1 : lfN c (nI t) = nI (z - t) := by
        unfold lfN
        rw [if_pos e, if_neg hn1, z2, pk_sub (by omega)]
      rw [e1, if_pos (show (1 : Int32) ≤ nI (z - t) from nI_le (a := 1) (by omega) (by omega))]
      by_cases q : z - t ≤ d
      · have e2 : lfN c (nI (t + d)) = 0 := if_neg (fun w => by
          unfold thC at w
          simp only [Bool.and_eq_true, Bool.or_eq_true, decide_eq_true_eq] at w
          rcases w.2 with g | g
          · exact hn1 g
          · rw [z2, nI_ltE (by omega) (by omega)] at g; omega)
        rw [e2, if_pos (nI_le q (by omega))]
      · have e3 : thC c (nI (t + d)) = true := by
          unfold thC
          rw [Bool.and_eq_true, Bool.or_eq_true]
          exact ⟨decide_eq_true (thC_T e), Or.inr (decide_eq_true (by rw [z2]; exact nI_lt (by omega) (by omega)))⟩
        have e2 : lfN c (nI (t + d)) = nI (z - (t + d)) := by
          unfold lfN
          rw [if_pos e3, if_neg hn1, z2, pk_sub (by omega)]
        rw [e2, if_neg (nI_ge (by omega) (by omega)), pk_sub (by omega)]
        congr 1; omega
theorem p_435 {m Y : Nat} (hk : k < 16) (h : QJ x t cc ff n g lim) (hT : t ≤ T) (hT6 : T + 1000 ≤ 1000000) (hm : 0 < m) (hm2 : m ≤ 1000) (hY : Y < 2 ^ 31) : CmdG (T + 1000) lim (fL_step_435 x (nI k) (nI m) (nI Y) 1) := by
  obtain ⟨hJ, hP, h0, h1, h2, h4⟩ := id h
  obtain ⟨hV, hc, hclk, ht, h3⟩ := jz_at hk hJ
  have hd0 : Y % m < m := Nat.mod_lt _ hm
  obtain ⟨y, y1, y2⟩ := j_tick (d := 1 + Y % m) hJ (by omega) (by omega) (by omega)
  obtain ⟨hV2, hc2, hclk2, -⟩ := jz_at hk y2
  have z1 := q_left hk hV
  have z2 := q_left hk hV2
  rw [hclk] at z1
  rw [hclk2] at z2
  unfold CmdG fL_step_435
  refine okc (decide_eq_true (fun q => by rw [nI_eq0 (by omega)] at q; omega)) ?_
  rw [pk_rem hY hm (by omega), show (1 : Int32) = nI 1 from rfl, nI_add, keep_r, clN hk]
  have hC : qC x (0 : Int32).toNatClampNeg + nI (1 + Y % m) = nI (t + (1 + Y % m)) := by
    show qC x 0 + _ = _
    rw [h0, nI_add]
  rw [hC]
  have hQ : QK (unf 0 (qS x) y, upd (qC x) 0 (nI (t + (1 + Y % m)))) (T + 1000) lim := ⟨t + (1 + Y % m), cc, ff, n, g, by omega, y2, fun j hj => (hP j hj).tick (by omega), rfl, h1, h2, h4⟩
  have fin : Ok (fL_step_502 (unf 0 (qS x) y, upd (qC x) 0 (nI (t + (1 + Y % m)))) (lfN (cc k) (nI (t + (1 + Y % m)))) (lfN (cc k) (nI (t + (1 + Y % m))))) (fun u => u.2 = 1 ∧ QK (gqS u.1, gqC u.1) (T + 1000) lim) := by
    unfold fL_step_502
    exact okt rfl (oks ⟨rfl, hQ⟩)
  have hlf := lf_tick (d := 1 + Y % m) (hP k hk) (by omega)
  refine okc (decide_eq_true hk) (okb z1 (okc rfl (okc rfl (okk (okb y1 (okk (okc rfl (okt rfl (okc (decide_eq_true hk) (okb z2 ?_))))))))))
  rw [thrL]
  by_cases e1 : nI 1 ≤ lfN (cc k) (nI t)
  · rw [if_pos (show (1 : Int32) ≤ lfN (cc k) (nI t) from e1)] at hlf
    refine okt e1 ?_
    by_cases e2 : lfN (cc k) (nI t) ≤ nI (1 + Y % m)
    · rw [if_pos e2] at hlf
      refine okt e2 ?_
      rw [← hlf] at fin ⊢
      exact fin
    · rw [if_neg e2] at hlf
      refine oke e2 ?_
      rw [← hlf] at fin ⊢
      exact fin
  · rw [if_neg (show ¬ (1 : Int32) ≤ lfN (cc k) (nI t) from e1)] at hlf
    refine oke e1 ?_
    rw [← hlf] at fin ⊢
    exact fin
theorem p_20 {m : Nat} (h : QJ x t cc ff n g lim) (hT : t ≤ T) (hm1 : 1 ≤ m) (hm : m ≤ 16) : CmdG T lim ((fX7_held (qS x)).bind (fun u220 => (fX7_sample (qS x) (nI m)).bind (fun u222 => thr u222.2 (fun k225 => none) (fun r224 => keep (qS_s x u222.1) (fun x227 => (if r224 < 0 then some ((qS x227, qC x227, false), 0) else (if nI m < r224 then some ((qS x227, qC x227, false), 0) else (fX7_held (qS x227)).bind (fun u230 => (if u230 = (u220 - r224) then some ((qS x227, qC x227, false), 1) else some ((qS x227, qC x227, false), 0)))))))))) := by
  obtain ⟨hJ, hP, h0, h1, h2, h4⟩ := id h
  obtain ⟨y, d, cc', y1, y2, y3, y4, y5⟩ := j_sample hJ hm1 hm
  have h16 : hlN cc 16 ≤ 16 := hlN_le
  unfold CmdG
  refine okb (j_held hJ) (okb y1 (okk (oke (nI_pos (by omega)) (oke (nI_nlt y4 (by omega)) (okb (j_held y2) (okt ?_ (oks ⟨rfl, ?_⟩)))))))
  · rw [pk_sub (by omega)]
    congr 1; omega
  · refine ⟨t, cc', ff, n, g, hT, y2, fun j hj => ?_, h0, h1, h2, h4⟩
    rcases y3 j with e | ⟨e, -⟩
    · rw [e]; exact hP j hj
    · rw [e]; exact okP_0 rfl
theorem p_19 {w X Y : Nat} (hk : k < 16) (h : QJ x t cc ff n g lim) (hT : t ≤ T) (hT6 : T + 1000 ≤ 1000000) (hw : w < 23) (hX : X < 2 ^ 31) (hY : Y < 2 ^ 31) (hlim : lim < 2 ^ 31) : CmdG (T + 1000) (lim + 300) (fL_step_19 x (nI w) (nI X) (nI Y) (nI k)) := by
  obtain ⟨hJ, hP, h0, h1, h2, h4⟩ := id h
  obtain ⟨hV, hc, hclk, ht, h3⟩ := jz_at hk hJ
  have a88 : ∀ d : Nat, d < 7 → CmdG (T + 1000) (lim + 300) (fL_step_88 x (nI X) (nI Y) (nI k) (nI d)) := fun d hd => (p_88 hk h hT hd hX hY).mono (by omega) (by omega)
  have a233 : ∀ d : Nat, d < 3 → CmdG (T + 1000) (lim + 300) (fL_step_233 x (nI X) (nI Y) (nI k) (nI d)) := fun d hd => (p_233 hk h hT hd hX hY).mono (by omega) (by omega)
  unfold fL_step_19
  have h23 : w < 3 ∨ (3 ≤ w ∧ w < 6) ∨ (6 ≤ w ∧ w < 8) ∨ w = 8 ∨ w = 9 ∨ (10 ≤ w ∧ w < 13) ∨ w = 13 ∨ (14 ≤ w ∧ w < 16) ∨ w = 16 ∨ w = 17 ∨ w = 18 ∨ w = 19 ∨ w = 20 ∨ w = 21 ∨ w = 22 := by omega
  have ge : ∀ a : Nat, w < a → a < 2 ^ 31 → ¬ (nI a : Int32) ≤ nI w := fun a ha hb => nI_ge ha hb
  have le : ∀ a : Nat, a ≤ w → (nI a : Int32) ≤ nI w := fun a ha => nI_le ha (by omega)
  have ne : ∀ a : Nat, ¬ w = a → a < 2 ^ 31 → ¬ (nI w : Int32) = nI a := fun a ha hb q => ha ((nI_eqE (by omega) hb).mp q)
  rcases h23 with q | q | q | q | q | q | q | q | q | q | q | q | q | q | q
  · exact oke (ge 14 (by omega) (by omega)) (oke (ge 3 (by omega) (by omega)) (a88 0 (by omega)))
  · exact oke (ge 14 (by omega) (by omega)) (okt (le 3 (by omega)) (oke (ge 6 (by omega) (by omega)) (a88 1 (by omega))))
  · exact oke (ge 14 (by omega) (by omega)) (okt (le 3 (by omega)) (okt (le 6 (by omega)) (oke (ge 8 (by omega) (by omega)) (a88 2 (by omega)))))
  · exact oke (ge 14 (by omega) (by omega)) (okt (le 3 (by omega)) (okt (le 6 (by omega)) (okt (le 8 (by omega)) (okt (by rw [q]; rfl) (a88 3 (by omega))))))
  · exact oke (ge 14 (by omega) (by omega)) (okt (le 3 (by omega)) (okt (le 6 (by omega)) (okt (le 8 (by omega)) (oke (ne 8 (by omega) (by omega)) (okt (by rw [q]; rfl) (a88 4 (by omega)))))))
  · exact oke (ge 14 (by omega) (by omega)) (okt (le 3 (by omega)) (okt (le 6 (by omega)) (okt (le 8 (by omega)) (oke (ne 8 (by omega) (by omega)) (oke (ne 9 (by omega) (by omega)) (oke (ge 13 (by omega) (by omega)) (a88 5 (by omega))))))))
  · exact oke (ge 14 (by omega) (by omega)) (okt (le 3 (by omega)) (okt (le 6 (by omega)) (okt (le 8 (by omega)) (oke (ne 8 (by omega) (by omega)) (oke (ne 9 (by omega) (by omega)) (okt (le 13 (by omega)) (a88 6 (by omega))))))))
  · exact okt (le 14 (by omega)) (oke (ge 18 (by omega) (by omega)) (oke (ge 16 (by omega) (by omega)) (a233 0 (by omega))))
  · exact okt (le 14 (by omega)) (oke (ge 18 (by omega) (by omega)) (okt (le 16 (by omega)) (okt (by rw [q]; rfl) (a233 1 (by omega)))))
  · exact okt (le 14 (by omega)) (oke (ge 18 (by omega) (by omega)) (okt (le 16 (by omega)) (oke (ne 16 (by omega) (by omega)) (a233 2 (by omega)))))
  · refine okt (le 14 (by omega)) (okt (le 18 (by omega)) (okt (by rw [q]; rfl) ?_))
    have z := q_type hk hV
    rw [hclk] at z
    rw [clN hk]
    refine okc (decide_eq_true hk) (okb z ?_)
    rw [thrL]
    by_cases e : nI Y - nI Y / 4 * 4 = 0
    · exact okt e ((p_286 (m := 1000) hk h hT (by omega) (by omega) hY).mono (by omega) (by omega))
    · exact oke e ((p_286 (m := 9) hk h hT (by omega) (by omega) hY).mono (by omega) (by omega))
  · refine okt (le 14 (by omega)) (okt (le 18 (by omega)) (oke (ne 18 (by omega) (by omega)) (okt (by rw [q]; rfl) ?_)))
    by_cases e : nI Y - nI Y / 5 * 5 = 0
    · exact okt e ((p_435 (m := 1000) hk h hT hT6 (by omega) (by omega) hY).mono (by omega) (by omega))
    · exact oke e ((p_435 (m := 5) hk h hT hT6 (by omega) (by omega) hY).mono (by omega) (by omega))
  · refine okt (le 14 (by omega)) (okt (le 18 (by omega)) (oke (ne 18 (by omega) (by omega)) (oke (ne 19 (by omega) (by omega)) (okt (by rw [q]; rfl) ?_))))
    have hm : X % 16 < 16 := Nat.mod_lt _ (by omega)
    rw [d16, pk_rem hX (by omega) (by omega), show (1 : Int32) = nI 1 from rfl, nI_add]
    exact (p_20 (m := 1 + X % 16) h hT (by omega) (by omega)).mono (by omega) (by omega)
  · refine okt (le 14 (by omega)) (okt (le 18 (by omega)) (oke (ne 18 (by omega) (by omega)) (oke (ne 19 (by omega) (by omega)) (oke (ne 20 (by omega) (by omega)) (okt (by rw [q]; rfl) ?_)))))
    by_cases e : nI Y - nI Y / 2 * 2 = 0
    · obtain ⟨x', e1, e2⟩ := s_rewrites (p2 := nI Y) h hT hlim
      exact okt e (okb e1 (okk (okc rfl (oks ⟨rfl, e2.mono (by omega) (by omega)⟩))))
    · have hm : X % 5 < 5 := Nat.mod_lt _ (by omega)
      obtain ⟨⟨G, a⟩, e1, e2, e3⟩ := s_goesOn (m := 1 + X % 5) h hT (by omega) (by omega)
      dsimp only at e2 e3
      subst e2
      refine oke e ?_
      rw [d5, pk_rem hX (by omega) (by omega), show (1 : Int32) = nI 1 from rfl, nI_add]
      exact okb e1 (okc rfl (oks ⟨rfl, e3.mono (by omega) (by omega)⟩))
  · refine okt (le 14 (by omega)) (okt (le 18 (by omega)) (oke (ne 18 (by omega) (by omega)) (oke (ne 19 (by omega) (by omega)) (oke (ne 20 (by omega) (by omega)) (oke (ne 21 (by omega) (by omega)) ?_)))))
    by_cases e : (0 : Int32) < nI Y - nI Y / 2 * 2
    · exact okt e (oks ⟨rfl, QK.mono (T := T) (lim := lim) ⟨t, cc, ff, n, g, hT, h⟩ (by omega) (by omega)⟩)
    · obtain ⟨x', e1, e2⟩ := s_restarts h hT
      exact oke e (okb e1 (okk (oke one_ne0 (oks ⟨rfl, e2.mono (by omega) (by omega)⟩))))
theorem p_step {w X Y : Nat} (h : QK x T lim) (hT6 : T + 1000 ≤ 1000000) (hw : w < 23) (hX : X < 2 ^ 31) (hY : Y < 2 ^ 31) (hlim : lim < 2 ^ 31) : CmdG (T + 1000) (lim + 300) (fL_step x (nI w) (nI X) (nI Y)) := by
  obtain ⟨t, cc, ff, n, g, hT, h⟩ := h
  unfold fL_step
  rw [d16, d4, pk_rem hX (by omega) (by omega), pk_rem hX (by omega) (by omega)]
  have h16 : X % 16 < 16 := Nat.mod_lt _ (by omega)
  have h4 : X % 4 < 4 := Nat.mod_lt _ (by omega)
  by_cases e : (12 : Int32) ≤ nI (X % 16)
  · exact okt e (p_19 h16 h hT hT6 hw hX hY hlim)
  · exact oke e (p_19 (by omega) h hT hT6 hw hX hY hlim)
end STEP

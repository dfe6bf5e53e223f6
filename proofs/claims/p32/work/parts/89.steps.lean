/-! rewriting, going on, restarts -/
theorem okb {α β : Type} {o : Option α} {u : α} {K : α → Option β} {Q : β → Prop} (h : o = some u) (hk : Ok (K u) Q) : Ok (o.bind K) Q := by
  rw [h]; exact hk
theorem okc {β : Type} {b : Bool} {K : Option β} {Q : β → Prop} (h : b = true) (hk : Ok K Q) : Ok (chk b K) Q := by
  rw [h]; exact hk
theorem okt {β : Type} {c : Prop} [Decidable c] {a b : Option β} {Q : β → Prop} (h : c) (hk : Ok a Q) : Ok (if c then a else b) Q := by
  rw [if_pos h]; exact hk
theorem oke {β : Type} {c : Prop} [Decidable c] {a b : Option β} {Q : β → Prop} (h : ¬ c) (hk : Ok b Q) : Ok (if c then a else b) Q := by
  rw [if_neg h]; exact hk
theorem okk {α β : Type} {a : α} {K : α → Option β} {Q : β → Prop} (h : Ok (K a) Q) : Ok (keep a K) Q := h
theorem oks {β : Type} {u : β} {Q : β → Prop} (h : Q u) : Ok (some u) Q := ⟨u, rfl, h⟩
theorem QK.mono {x : QSt} {T T' lim lim' : Nat} (h : QK x T lim) (hT : T ≤ T') (hl : lim ≤ lim') : QK x T' lim' := by
  obtain ⟨t, cc, ff, n, g, ht, a, b⟩ := h
  exact ⟨t, cc, ff, n, g, by omega, a.mono hl, b⟩
theorem cmd_ok {x : QSt} {T lim : Nat} {o : Option (QSt × Int32)} (h : Ok o (fun u => u.2 = 1 ∧ QK u.1 T lim)) : CmdT x T lim o := by
  obtain ⟨⟨u, v⟩, h1, h2, h3⟩ := h
  dsimp only at h2 h3
  subst h2
  exact ⟨u, h1, h3⟩
theorem ok_cmd {x : QSt} {T lim : Nat} {o : Option (QSt × Int32)} (h : CmdT x T lim o) : Ok o (fun u => u.2 = 1 ∧ QK u.1 T lim) := by
  obtain ⟨u, h1, h3⟩ := h
  exact ⟨_, h1, rfl, h3⟩
theorem ty_le0 {c : CK} {now : Int32} (hc : okCK c) : (tyN c now ≤ 0) ↔ thC c now = false := by
  cases e : thC c now with
  | false => rw [tyN_f e]; exact ⟨fun _ => rfl, fun _ => by decide⟩
  | true =>
    rw [tyN_t e]
    refine ⟨fun q => ?_, fun q => by cases q⟩
    exfalso
    rcases (ok_T hc (thC_T e)).1 with w | w | w | w <;> rw [w] at q <;> exact absurd q (by decide)
section STEPS
variable {x : QSt} {k t : Nat} {cc : CC} {ff : Nat → FK} {n : Nat} {g : Option (Nat × Nat)} {lim T : Nat}
theorem cth16 {now : Int32} : cth cc now 16 ≤ 16 := cth_le
theorem s_rewrites {p2 : Int32} (h : QJ x t cc ff n g lim) (hT : t ≤ T) (hlim : lim < 2 ^ 31) : CmdT x T lim (fL_rewrites x p2) := by
  obtain ⟨hJ, hP, h0, h1, h2, h3⟩ := id h
  have h300 := hJ.le300
  refine cmd_ok (ok_iter (fun m (s : Int32 × Int32) => ∃ i, m = 16 - i ∧ i ≤ 16 ∧ s = (nI (cth cc (nI t) i), nI i)) _ ?_ FU 16 _ ⟨0, rfl, by omega, rfl⟩ (by unfold FU; omega))
  rintro m s rec ⟨i, hm, hi, rfl⟩ hrec
  unfold fL_rewrites_5
  dsimp only
  by_cases e : i = 16
  · subst e
    obtain ⟨y, y1, y2⟩ := j_rewrite hJ hlim
    refine okt (by decide) (okc rfl (okc rfl (okc rfl (okc rfl (okb y1 (okt rfl (okb (j_rows y2) (okc rfl (okt ?_ (oks ⟨rfl, ?_⟩))))))))))
    · exact h1.symm
    · exact ⟨t, cc, ff, n, _, hT, y2, hP, h0, h1, (fun q => by cases q), fun w B q => by
        cases q
        exact ⟨rfl, rfl, h1, cth16, Nat.le_refl _⟩⟩
  · have hk : i < 16 := by omega
    obtain ⟨hV, hc, hclk, ht, -⟩ := jz_at hk hJ
    have z := q_type hk hV
    rw [hclk] at z
    refine oke (show ¬ (16 : Int32) ≤ nI i from nI_ge (b := 16) hk (by omega)) ?_
    rw [clN hk]
    refine okc (decide_eq_true hk) (okb z ?_)
    rw [thrL]
    have hs : ∀ b : Nat, cth cc (nI t) (i + 1) = cth cc (nI t) i + b → Ok (rec (nI (cth cc (nI t) i) + nI b, nI i + 1)) (fun u => u.2 = 1 ∧ QK u.1 T lim) := fun b hb => by
      rw [nI_add, nI_1, ← hb]
      exact hrec (16 - (i + 1)) _ (by omega) ⟨i + 1, rfl, by omega, rfl⟩
    have hcs := cth_s (cc := cc) (now := nI t) (n := i)
    by_cases e2 : tyN (cc i) (nI t) ≤ 0
    · refine okt e2 ?_
      rw [if_neg (by rw [(ty_le0 hc).mp e2]; decide)] at hcs
      exact hs 0 hcs
    · refine oke e2 ?_
      rw [if_pos (by cases q : thC (cc i) (nI t) with
        | true => rfl
        | false => exact absurd ((ty_le0 hc).mpr q) e2)] at hcs
      exact hs 1 hcs
/-- the steps that may exchange the logs -/
def CmdG (T lim : Nat) (o : Option (GoSt × Int32)) : Prop := Ok o (fun u => u.2 = 1 ∧ QK (gqS u.1, gqC u.1) T lim)
theorem asks12_w {k : Nat} {x : FSt} {m b3 b4 b5 : Int32} : fL_asks12 k x 12 m b3 b4 b5 = (fX7_writeOn k x m).bind (fun u15 => keep u15.1 (fun x20 => thr u15.2.2 (fun k17 => if k17 = 0 then some (x20, u15.2.1, (-107)) else if k17 = 2 then some (x20, u15.2.1, (-108)) else none) (fun r18 => some (x20, u15.2.1, r18)))) := by
  unfold fL_asks12
  rw [if_neg (show ¬ (12 : Int32) = 0 by decide), if_neg (show ¬ (12 : Int32) = 1 by decide), if_neg (show ¬ (12 : Int32) = 2 by decide), if_neg (show ¬ (12 : Int32) = 3 by decide), if_neg (show ¬ (12 : Int32) = 4 by decide), if_neg (show ¬ (12 : Int32) = 5 by decide), if_neg (show ¬ (12 : Int32) = 6 by decide), if_neg (show ¬ (12 : Int32) = 7 by decide), if_neg (show ¬ (12 : Int32) = 8 by decide), if_neg (show ¬ (12 : Int32) = 9 by decide), if_neg (show ¬ (12 : Int32) = 10 by decide), if_neg (show ¬ (12 : Int32) = 11 by decide), if_pos rfl]
theorem go_118 {G : GoSt} {v4 s0 : Int32} (hK : QK (gqS G, upd (upd (gqC G) 2 s0) 1 v4) T lim) : CmdG T lim (fL_goesOn_118 G v4 1 s0 2) := by
  unfold CmdG fL_goesOn_118
  exact okc rfl (okc rfl (okc rfl (oks ⟨rfl, hK⟩)))
theorem go_47 {G : GoSt} {n1 n2 w B : Nat} (hJ : JZ (gqS G) t cc ff n2 (if w = 0 then none else some (w, B)) lim) (hP : ∀ k, k < 16 → okP t (cc k)) (hT : t ≤ T) (h0 : gqC G 0 = nI t) (h1 : gqC G 1 = nI n1) (h4 : gqC G 4 = nI B) (hw : w ≤ 16) (h12 : if w = 0 then n2 ≤ n1 ∧ n1 ≤ n2 + B else n2 = n1) (hn1 : n1 ≤ 300) (hB : B ≤ n1) : CmdG T lim (fL_goesOn_47 G (nI w) (nI w) 3) := by
  have h300 := hJ.le300
  unfold CmdG fL_goesOn_47
  refine okc rfl (okk (okb (j_rows hJ) (okc rfl (okt rfl (okc rfl ?_)))))
  by_cases e : w = 0
  · subst e
    rw [if_pos rfl] at hJ h12
    refine okt (show (nI 0 : Int32) ≤ 0 by decide) (okc rfl (oke ?_ (okc rfl (okc rfl (oke ?_ ?_)))))
    · show ¬ gqC G 1 < nI n2
      rw [h1]; exact nI_nlt h12.1 (by omega)
    · show ¬ nI n2 < gqC G 1 - gqC G 4
      rw [h1, h4, pk_sub hB]
      exact nI_nlt (by omega) (by omega)
    · unfold fL_goesOn_98 fL_goesOn_103
      refine okc rfl (okt (show (nI 0 : Int32) ≤ 0 by decide) (go_118 ?_))
      exact ⟨t, cc, ff, n2, none, hT, hJ, hP, h0, rfl, fun _ => rfl, fun w B q => by cases q⟩
  · rw [if_neg e] at hJ h12
    refine oke (show ¬ (nI w : Int32) ≤ 0 from nI_nle (by omega) (by omega)) (okc rfl (okt ?_ ?_))
    · show nI n2 = gqC G 1
      rw [h1, h12]
    · unfold fL_goesOn_98 fL_goesOn_103
      refine okc rfl (oke (show ¬ (nI w : Int32) ≤ 0 from nI_nle (by omega) (by omega)) (go_118 ?_))
      refine ⟨t, cc, ff, n2, some (w, B), hT, hJ, hP, h0, rfl, (fun q => by cases q), fun w' B' q => ?_⟩
      cases q
      exact ⟨rfl, rfl, h4, hw, by omega⟩
theorem s_goesOn {m : Nat} (h : QJ x t cc ff n g lim) (hT : t ≤ T) (hm1 : 1 ≤ m) (hm : m ≤ 16) : CmdG T lim (fL_goesOn x (nI m)) := by
  obtain ⟨hJ, hP, h0, h1, h2, h3⟩ := id h
  have h300 := hJ.le300
  unfold CmdG fL_goesOn
  rw [keep_r, asks12_w]
  cases g with
  | none =>
    refine okb (u := (foc 0 (qS x), 2, -108)) (by rw [show foc 0 (gqS (gqI x)) = foc 0 (qS x) from rfl, j_write0 hJ hm1 hm, Option.bind_some, keep_r, thrR, if_neg (show ¬ (2 : Nat) = 0 by decide), if_pos rfl]) (okt rfl (okk (okk (okc rfl (okt (h2 rfl) (okt rfl (oks ⟨rfl, ?_⟩)))))))
    refine ⟨t, cc, ff, n, none, hT, ?_, hP, h0, h1, h2, h3⟩
    show JZ (unf 0 (qS x) (foc 0 (qS x))) t cc ff n none lim
    rw [unf_foc]; exact hJ
  | some wB =>
    obtain ⟨w, B⟩ := wB
    obtain ⟨c2, c3, c4, c5, c6⟩ := h3 w B rfl
    by_cases hw : m < w
    · obtain ⟨y, y1, y2⟩ := j_write1 hJ hm1 hm hw
      refine okb (u := (y, 2, nI (w - m))) (by rw [show foc 0 (gqS (gqI x)) = foc 0 (qS x) from rfl, y1, Option.bind_some, keep_r, thrL]) (okt rfl (okk (okk (okc rfl (oke ?_ (okc rfl (oke ?_ (okc rfl ?_))))))))
      · show ¬ qC x 2 = 0
        rw [c2]; decide
      · show ¬ qC x 3 ≤ nI m
        rw [c3]; exact nI_ge hw (by omega)
      · show Ok (fL_goesOn_47 (unf 0 (qS x) y, qC x, false) (nI (w - m)) (qC x 3 - nI m) 3) _
        rw [c3, pk_sub (by omega)]
        exact go_47 (G := (unf 0 (qS x) y, qC x, false)) (n1 := n) (n2 := n) (w := w - m) (B := B) (by rw [if_neg (by omega)]; exact y2) hP hT h0 h1 c4 (by omega) (by rw [if_neg (by omega)]) h300 c6
    · obtain ⟨y, n', y1, y2, y3, y4⟩ := j_write2 hJ hm1 hm (by omega)
      refine okb (u := (y, 4, 0)) (by rw [show foc 0 (gqS (gqI x)) = foc 0 (qS x) from rfl, y1, Option.bind_some, keep_r, thrL]) (oke (show ¬ (4 : Nat) = 2 by decide) (okc rfl (okk (okk (okc rfl (oke ?_ (okc rfl (okt ?_ ?_))))))))
      · show ¬ qC x 2 = 0
        rw [c2]; decide
      · show qC x 3 ≤ nI m
        rw [c3]; exact nI_le (by omega) (by omega)
      · exact go_47 (G := (unf 0 (qS x) (swL y), qC x, true)) (n1 := n) (n2 := n') (w := 0) (B := B) (by rw [if_pos rfl]; exact y2) hP hT h0 h1 c4 (by omega) (by rw [if_pos rfl]; exact ⟨y3, y4⟩) h300 c6
/-- restarts -/
theorem r_160 {X : Q6St} (hJ : JZ (q6S X) t cc ff n none lim) (hP : ∀ k, k < 16 → okP t (cc k)) (hT : t ≤ T) (h0 : q6C X 0 = nI t) (h1 : q6C X 1 = nI n) (h2 : q6C X 2 = 0) : Ok (fL_restarts_160 X 1) (fun u => u.2 = 1 ∧ QK u.1 T lim) := by
  unfold fL_restarts_160
  rw [asks12_w]
  refine oke one_ne0 (okb (u := (foc 0 (q6S X), 2, -108)) (by rw [show (1 : Int32) = nI 1 from rfl, j_write0 hJ (by omega) (by omega), Option.bind_some, keep_r, thrR, if_neg (show ¬ (2 : Nat) = 0 by decide), if_pos rfl]) (okc rfl (okk (okt rfl (oks ⟨rfl, ?_⟩)))))
  refine ⟨t, cc, ff, n, none, hT, ?_, hP, h0, h1, fun _ => h2, fun w B q => by cases q⟩
  show JZ (unf 0 (q6S X) (foc 0 (q6S X))) t cc ff n none lim
  rw [unf_foc]; exact hJ
theorem r_112 {X : Q6St} {was : Nat → Int64} (hJ : JZ (q6S X) t cc ff n none lim) (hP : ∀ k, k < 16 → okP t (cc k)) (hT : t ≤ T) (h0 : q6C X 0 = nI t) (h1 : q6C X 1 = nI n) (h2 : q6C X 2 = 0) (hW : ∀ k, k < 16 → q6W X k = sumV (cc k) (nI t)) : Ok (iterK 17 fL_restarts_112 (X, 1, 0)) (fun u => u.2 = 1 ∧ QK u.1 T lim) := by
  refine ok_iter (fun m (s : Q6St × Int32 × Int32) => ∃ i, m = 16 - i ∧ i ≤ 16 ∧ s = (X, 1, nI i)) _ ?_ 17 16 _ ⟨0, rfl, by omega, rfl⟩ (by omega)
  rintro m s rec ⟨i, hm, hi, rfl⟩ hrec
  unfold fL_restarts_112
  dsimp only
  by_cases e : i = 16
  · subst e
    exact okt (by decide) (r_160 hJ hP hT h0 h1 h2)
  · have hk : i < 16 := by omega
    obtain ⟨hV, hc, hclk, ht, -⟩ := jz_at hk hJ
    refine oke (show ¬ (16 : Int32) ≤ nI i from nI_ge (b := 16) hk (by omega)) (oke one_ne0 ?_)
    rw [clN hk]
    refine okc (decide_eq_true hk) (okb (sum_val hk hV hclk hc (hP i hk)) (okc (inb_nI hk (by omega)) (okt (lcmpv_e (hW i hk).symm) (okc (decide_eq_true hk) (okb (key_true hk hV hclk hc ht (hP i hk)) (okk (oke one_ne0 (okk ?_))))))))
    rw [nI_1]
    refine hrec (16 - (i + 1)) _ (by omega) ⟨i + 1, rfl, by omega, ?_⟩
    show (q6S_s X (unf i (q6S X) (foc i (q6S X))), (1 : Int32), nI (i + 1)) = _
    rw [unf_foc]; rfl
theorem s_restarts (h : QJ x t cc ff n g lim) (hT : t ≤ T) : CmdT x T (lim + 300) (fL_restarts x) := by
  obtain ⟨hJ, hP, h0, h1, h2, h3⟩ := id h
  have h300 := hJ.le300
  refine cmd_ok ?_
  unfold fL_restarts
  refine okk (okb (j_rows hJ) (okc rfl (okt h1.symm ?_)))
  refine ok_iter (fun m (s : Q6St × Int32 × Int32) => ∃ i W, m = 16 - i ∧ i ≤ 16 ∧ s = ((qS x, qC x, W), nI (cth cc (nI t) i), nI i) ∧ ∀ k, k < i → W k = sumV (cc k) (nI t)) _ ?_ FU 16 _ ⟨0, fun _ => 0, rfl, by omega, rfl, fun k hk => absurd hk (Nat.not_lt_zero k)⟩ (by unfold FU; omega)
  rintro m s rec ⟨i, W, hm, hi, rfl, hW⟩ hrec
  unfold fL_restarts_27
  dsimp only
  by_cases e : i = 16
  · subst e
    obtain ⟨y, cc', ff', y1, y2, y3⟩ := j_restart hJ
    have hP' : ∀ k, k < 16 → okP t (cc' k) := fun k hk => (hP k hk).vw (y3 k hk)
    have hth : cth cc' (nI t) 16 = cth cc (nI t) 16 := cth_vw y3
    refine okt (by decide) (oke one_ne0 (okb y1 (okk (okt rfl (okb (j_rows y2) (okc rfl (okt ?_ (okb (j_held y2) (oke ?_ ?_)))))))))
    · exact h1.symm
    · have := cth_hl (cc := cc') (now := nI t) 16
      rw [hth] at this
      exact nI_nlt this (by have : hlN cc' 16 ≤ 16 := hlN_le; omega)
    · unfold fL_restarts_103
      refine okc rfl (okk ?_)
      exact r_112 (X := (y, upd (qC x) 2 0, W)) (was := W) y2 hP' hT h0 h1 rfl (fun k hk => (hW k hk).trans (sum_vw (y3 k hk).symm))
  · have hk : i < 16 := by omega
    obtain ⟨hV, hc, hclk, ht, -⟩ := jz_at hk hJ
    have z := q_type hk hV
    rw [hclk] at z
    refine oke (show ¬ (16 : Int32) ≤ nI i from nI_ge (b := 16) hk (by omega)) ?_
    rw [clN hk]
    refine okc (decide_eq_true hk) (okb (sum_val hk hV hclk hc (hP i hk)) (okc (inb_nI hk (by omega)) (okc (decide_eq_true hk) (okb z ?_))))
    rw [thrL]
    have hW2 : ∀ k, k < i + 1 → vp_updL W i (sumV (cc i) (nI t)) k = sumV (cc k) (nI t) := fun j hj => by
      unfold vp_updL
      by_cases e : j = i
      · subst e; simp
      · have := hW j (by omega)
        simp [e, this]
    have hs : ∀ b : Nat, cth cc (nI t) (i + 1) = cth cc (nI t) i + b → Ok (rec (q6W_s (qS x, qC x, W) (vp_updL (q6W (qS x, qC x, W)) i (sumV (cc i) (nI t))), nI (cth cc (nI t) i) + nI b, nI i + 1)) (fun u => u.2 = 1 ∧ QK u.1 T (lim + 300)) := fun b hb => by
      rw [nI_add, nI_1, ← hb]
      exact hrec (16 - (i + 1)) _ (by omega) ⟨i + 1, _, rfl, by omega, rfl, hW2⟩
    have hcs := cth_s (cc := cc) (now := nI t) (n := i)
    by_cases e2 : tyN (cc i) (nI t) ≤ 0
    · refine okt e2 ?_
      rw [if_neg (by rw [(ty_le0 hc).mp e2]; decide)] at hcs
      exact hs 0 hcs
    · refine oke e2 ?_
      rw [if_pos (by cases q : thC (cc i) (nI t) with
        | true => rfl
        | false => exact absurd ((ty_le0 hc).mpr q) e2)] at hcs
      exact hs 1 hcs
end STEPS

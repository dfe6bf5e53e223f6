/-! restart -/
/-- what a replay knows besides: forms, where made, ids, the last id, the rows so far -/
abbrev GSt4 : Type := (Nat → FK) × (Nat → Nat) × (Nat → Nat) × Nat × EL
def gF4 (g : GSt4) : Nat → FK := g.1
def gM4 (g : GSt4) : Nat → Nat := g.2.1
def gI4 (g : GSt4) : Nat → Nat := g.2.2.1
def gL4 (g : GSt4) : Nat := g.2.2.2.1
def gP4 (g : GSt4) : EL := g.2.2.2.2
def crn (k : Nat) (P : EL) : CK := (runK k s00 (rws P)).1
def gK4 (g : GSt4) (r : RW) : Bool := mkB r (crn (cl (wY r)) (gP4 g))
def gst4 (g : GSt4) (r : RW) : GSt4 :=
  (upN (gF4 g) (cl (wY r)) (opF r (crn (cl (wY r)) (gP4 g)) (gF4 g (cl (wY r)))), upN (gM4 g) (cl (wY r)) (if gK4 g r = true then (gP4 g).length else gM4 g (cl (wY r))), upN (gI4 g) (cl (wY r)) (if gK4 g r = true then gL4 g + 1 else gI4 g (cl (wY r))), if gK4 g r = true then gL4 g + 1 else gL4 g, gP4 g ++ [(r, if gK4 g r = true then gL4 g + 1 else gI4 g (cl (wY r)))])
theorem crn_s {k : Nat} {P : EL} {r : RW} {id : Nat} (h : wY r = nI k) : crn k (P ++ [(r, id)]) = opC r (crn k P) ∧ (runK k s00 (rws (P ++ [(r, id)]))).2 = wT r := by
  have e : runK k s00 (rws (P ++ [(r, id)])) = (opC r (crn k P), wT r) := by
    rw [rws_app, run_app]
    show stK k (runK k s00 (rws P)) r = _
    unfold stK
    rw [if_pos h]; rfl
  unfold crn
  rw [e]
  exact ⟨rfl, rfl⟩
theorem crn_o {k : Nat} {P : EL} {r : RW} {id : Nat} (h : wY r ≠ nI k) : crn k (P ++ [(r, id)]) = crn k P ∧ (runK k s00 (rws (P ++ [(r, id)]))).2 = (runK k s00 (rws P)).2 := by
  have e : runK k s00 (rws (P ++ [(r, id)])) = runK k s00 (rws P) := by
    rw [rws_app, run_app]
    show stK k (runK k s00 (rws P)) r = _
    unfold stK
    rw [if_neg h]
  unfold crn
  rw [e]
  exact ⟨rfl, rfl⟩
def GI4 (R : List RW) (lvi i : Nat) (g : GSt4) : Prop := rws (gP4 g) = R.take i ∧ gL4 g ≤ lvi + i ∧ (∀ e ∈ gP4 g, e.2 ≤ gL4 g ∧ isN (wY e.1) 16) ∧ ∀ k, k < 16 → okCK (crn k (gP4 g)) ∧ okF (gF4 g k) ∧ lzC (crn k (gP4 g)) ∧ gI4 g k ≤ gL4 g ∧ LIk (gP4 g) (gM4 g k) (gI4 g k) (runK k s00 (rws (gP4 g))).2 k (crn k (gP4 g))
theorem gi_ok {R : List RW} {lvi i k : Nat} {g : GSt4} (h : GI4 R lvi i g) (hi : i < R.length) (hv : vldK k s00 R) (hy : wY R[i] = nI k) : okR R[i] (crn k (gP4 g)) ∧ (runK k s00 (rws (gP4 g))).2 ≤ wT R[i] := by
  have e : R = R.take i ++ R[i] :: R.drop (i + 1) := by rw [← List.drop_eq_getElem_cons hi, List.take_append_drop]
  have h1 : vldK k s00 (R.take i ++ R[i] :: R.drop (i + 1)) := by rw [← e]; exact hv
  have h2 := (vld_app.mp h1).2.1 hy
  unfold crn
  rw [h.1]
  exact h2
theorem gi_step {R : List RW} {lvi i : Nat} {g : GSt4} (h : GI4 R lvi i g) (hi : i < R.length) (hv : ∀ k, k < 16 → vldK k s00 R) (hy : isN (wY R[i]) 16) : GI4 R lvi (i + 1) (gst4 g R[i]) := by
  obtain ⟨y1, y2⟩ := isN_cl hy (by omega)
  obtain ⟨o1, o2⟩ := gi_ok h hi (hv _ y2) y1
  obtain ⟨h1, h2, h3, h4⟩ := id h
  obtain ⟨r, hr⟩ : ∃ r, r = R[i] := ⟨_, rfl⟩
  rw [← hr] at hy y1 y2 o1 o2 ⊢
  obtain ⟨k, hk⟩ : ∃ k, k = cl (wY r) := ⟨_, rfl⟩
  rw [← hk] at y1 y2 o1 o2
  have hmk : gK4 g r = mkB r (crn k (gP4 g)) := by unfold gK4; rw [← hk]
  obtain ⟨b, hb⟩ : ∃ b, b = gK4 g r := ⟨_, rfl⟩
  have eP : gP4 (gst4 g r) = gP4 g ++ [(r, if b = true then gL4 g + 1 else gI4 g k)] := by rw [hb, hk]; rfl
  have eF : gF4 (gst4 g r) = upN (gF4 g) k (opF r (crn k (gP4 g)) (gF4 g k)) := by rw [hk]; rfl
  have eM : gM4 (gst4 g r) = upN (gM4 g) k (if b = true then (gP4 g).length else gM4 g k) := by rw [hb, hk]; rfl
  have eI : gI4 (gst4 g r) = upN (gI4 g) k (if b = true then gL4 g + 1 else gI4 g k) := by rw [hb, hk]; rfl
  have eL : gL4 (gst4 g r) = if b = true then gL4 g + 1 else gL4 g := by rw [hb]; rfl
  have hLl : gL4 g ≤ gL4 (gst4 g r) ∧ gL4 (gst4 g r) ≤ gL4 g + 1 := by rw [eL]; split <;> omega
  obtain ⟨k1, k2, k3, k4, k5⟩ := h4 k y2
  refine ⟨?_, by omega, fun e he => ?_, fun j hj => ?_⟩
  · rw [eP, rws_app, h1, List.take_succ_eq_append_getElem hi, ← hr]; rfl
  · rw [eP] at he
    rcases List.mem_append.mp he with q | q
    · obtain ⟨a1, a2⟩ := h3 e q
      exact ⟨by omega, a2⟩
    · rcases List.mem_cons.mp q with q | q
      · rw [q, eL]
        refine ⟨?_, hy⟩
        show (if b = true then gL4 g + 1 else gI4 g k) ≤ _
        split <;> omega
      · cases q
  · rw [eF, eM, eI, eL]
    by_cases e : j = k
    · subst e
      obtain ⟨c1, c2⟩ := crn_s (P := gP4 g) (id := if b = true then gL4 g + 1 else gI4 g j) y1
      rw [eP, c1, c2, upN_s, upN_s, upN_s]
      refine ⟨okCK_op k1 o1, okF_op k2 o1, lz_op k3 o1, by split <;> omega, ?_⟩
      have := (k5.tick o2).snoc k1 o1 y1 (fun e he => (h3 e he).1)
      rw [← hmk, ← hb] at this
      exact this
    · have hne : wY r ≠ nI j := fun q => e ((nI_eqE (by omega) (by omega)).mp (q.symm.trans y1))
      obtain ⟨c1, c2⟩ := crn_o (P := gP4 g) (id := if b = true then gL4 g + 1 else gI4 g k) hne
      obtain ⟨j1, j2, j3, j4, j5⟩ := h4 j hj
      rw [eP, c1, c2, upN_o e, upN_o e, upN_o e]
      refine ⟨j1, j2, j3, by split <;> omega, j5.oth (fun e' he' => ?_)⟩
      rcases List.mem_cons.mp he' with q | q
      · rw [q]; exact hne
      · cases q
theorem mk_there {r : RW} {c : CK} (hr : okR r c) (hm : mkB r c = false) : cT c ≠ 0 := by
  obtain ⟨-, -, h⟩ := hr
  have d : isMk r = true → thC c (wT r) = true := fun q => by
    unfold mkB at hm
    rw [q] at hm
    cases w : thC c (wT r) with
    | true => rfl
    | false => rw [w] at hm; cases hm
  rcases h with ⟨q, -⟩ | ⟨q, h⟩ | ⟨q, -⟩ | ⟨q, h⟩ | ⟨q, -⟩ | ⟨q, -⟩ | ⟨q, h⟩ | ⟨q, h⟩ | ⟨q, h⟩ | ⟨q, h⟩ | ⟨q, h⟩
  · exact thC_T (d (isMk_t (by simp [q])))
  · exact thC_T h.2.2.2.1
  · exact thC_T (d (isMk_t (by simp [q])))
  · exact thC_T h.2.2.2.1
  · exact thC_T (d (isMk_t (by simp [q])))
  · exact thC_T (d (isMk_t (by simp [q])))
  · exact thC_T h.2.2.2.1
  · exact thC_T h.2.2.1
  · exact thC_T h.2.2.2.1
  · exact thC_T h.2.2.2
  · exact thC_T h.2.2
theorem cons_at {α : Type} {P Q : List α} {a : α} (h : P.length < (P ++ a :: Q).length) : (P ++ a :: Q)[P.length] = a := by simp
theorem log_again {lo : LSt} {P Q : EL} {r : RW} {id0 id : Nat} (h : LogC lo (P ++ (r, id0) :: Q)) : ∃ y, fX3_stamp lo (nI P.length) (wT r) (nI id) = some y ∧ LogC y (P ++ (r, id) :: Q) := by
  obtain ⟨h1, h2, h3⟩ := h
  have hl0 : (P ++ (r, id0) :: Q).length = P.length + Q.length + 1 := by rw [List.length_append, List.length_cons]; omega
  have hl1 : (P ++ (r, id) :: Q).length = P.length + Q.length + 1 := by rw [List.length_append, List.length_cons]; omega
  obtain ⟨y, y1, y2, y3⟩ := log_stamp (E := P ++ (r, id0) :: Q) (lo := lo) (r := r) (id := id) (i := P.length) h1 rfl h2 (by omega) (wT r)
  refine ⟨y, y1, by rw [y2, hl0, hl1], by rw [hl1, ← hl0]; exact h2, fun j hj => ?_⟩
  rw [hl1] at hj
  rw [y3]
  by_cases e : j = P.length
  · subst e
    have g := h3 P.length (by omega)
    rw [cons_at] at g
    rw [cons_at]
    obtain ⟨g0, g1, g2, g3, g4, g5, g6⟩ := g
    refine ⟨?_, ?_, ?_, ?_, ?_, ?_, ?_⟩
    · rw [upd_o (by omega), upd_o (by omega)]; exact g0
    · rw [upd_o (by omega), upd_o (by omega)]; exact g1
    · rw [upd_o (by omega), upd_o (by omega)]; exact g2
    · rw [upd_o (by omega), upd_o (by omega)]; exact g3
    · rw [upd_o (by omega), upd_o (by omega)]; exact g4
    · rw [upd_o (by omega), upd_s]
    · rw [upd_s]
  · have hne : (P ++ (r, id) :: Q)[j]'(by omega) = (P ++ (r, id0) :: Q)[j]'(by omega) := by
      by_cases e2 : j < P.length
      · rw [List.getElem_append_left e2, List.getElem_append_left e2]
      · rw [List.getElem_append_right (by omega), List.getElem_append_right (by omega)]
        obtain ⟨n, hn⟩ : ∃ n, j - P.length = n + 1 := ⟨j - P.length - 1, by omega⟩
        simp only [hn, List.getElem_cons_succ]
    rw [hne]
    exact rowC_congr (h3 j (by omega)) (fun q q1 q2 => by rw [upd_o (by omega), upd_o (by omega)])
/-- the class in the midst of it -/
def RC4 (x : SSt) (E : EL) (i : Nat) (g : GSt4) (y : SSt) : Prop := sKtw y = -1 ∧ sLs y = sLs x ∧ LogC (sLog y) (gP4 g ++ E.drop i) ∧ sLvi y = nI (gL4 g) ∧ ∀ k, k < 16 → VR (sV y k) (crn k (gP4 g)) (gF4 g k) ∧ vlId (sV y k) = nI (gI4 g k)
theorem cls_again {x y : SSt} {E : EL} {lvi i : Nat} {g : GSt4} (hG : GI4 (rws E) lvi i g) (hi : i < E.length) (hv : ∀ k, k < 16 → vldK k s00 (rws E)) (hy : isN (wY E[i].1) 16) (h : RC4 x E i g y) :
    rowKey y (nI i) = cl (wY E[i].1) ∧ ∃ z, fX7_doAgain (cl (wY E[i].1)) (foc (cl (wY E[i].1)) y) (nI i) = some z ∧ RC4 x E (i + 1) (gst4 g E[i].1) (unf (cl (wY E[i].1)) y z) := by
  have hlE : (rws E).length = E.length := List.length_map _
  have hri : (rws E)[i]'(by omega) = E[i].1 := List.getElem_map _
  obtain ⟨y1, y2⟩ := isN_cl hy (by omega)
  obtain ⟨o1, o2⟩ := gi_ok hG (by omega) (hv _ y2) (by rw [hri]; exact y1)
  rw [hri] at o1 o2
  have hPl : (gP4 g).length = i := by
    have := congrArg List.length hG.1
    rw [List.length_take, hlE, show (rws (gP4 g)).length = (gP4 g).length from List.length_map _] at this
    omega
  obtain ⟨h1, h2, h3, h4, h5⟩ := h
  obtain ⟨⟨r, id0⟩, hr⟩ : ∃ e, e = E[i] := ⟨_, rfl⟩
  rw [List.drop_eq_getElem_cons hi, ← hr] at h3
  rw [← hr] at hy y1 y2 o1 o2 ⊢
  dsimp only at hy y1 y2 o1 o2 ⊢
  obtain ⟨k, hk⟩ : ∃ k, k = cl (wY r) := ⟨_, rfl⟩
  rw [← hk] at y1 y2 o1 o2 ⊢
  have hlen : i < (gP4 g ++ (r, id0) :: E.drop (i + 1)).length := by rw [List.length_append, List.length_cons]; omega
  have hrow := h3.2.2 i hlen
  have hat : (gP4 g ++ (r, id0) :: E.drop (i + 1))[i]'hlen = (r, id0) := by
    have := cons_at (P := gP4 g) (Q := E.drop (i + 1)) (a := (r, id0)) (by omega)
    simp only [hPl] at this
    exact this
  rw [hat] at hrow
  obtain ⟨g0, g1, g2, g3, g4, g5, g6⟩ := hrow
  have c0 : fX3_cell (sLog y) (nI i) 0 = some (kcl (wK r)) := by rw [d0, log_cell h3 hlen (by omega)]; exact congrArg some g0
  have c1 : fX3_cell (sLog y) (nI i) 1 = some (nI k) := by rw [d1, log_cell h3 hlen (by omega), ← y1]; exact congrArg some g1
  have c2 : fX3_cell (sLog y) (nI i) 2 = some (fst1 r) := by rw [d2, log_cell h3 hlen (by omega)]; exact congrArg some g2
  have c3 : fX3_cell (sLog y) (nI i) 3 = some (wB r) := by rw [d3, log_cell h3 hlen (by omega)]; exact congrArg some g3
  have c4 : fX3_cell (sLog y) (nI i) 4 = some (wC r) := by rw [d4, log_cell h3 hlen (by omega)]; exact congrArg some g4
  have c5 : fX3_cell (sLog y) (nI i) 5 = some (wT r) := by rw [d5, log_cell h3 hlen (by omega)]; exact congrArg some g5
  refine ⟨?_, ?_⟩
  · unfold rowKey
    rw [c1]
    exact nI_clamp (by omega)
  · obtain ⟨v1, v2⟩ := h5 k y2
    unfold fX7_doAgain
    rw [show fX3_cell (fLog (foc k y)) (nI i) 1 = some (nI k) from c1, Option.bind_some, isk_N y2, Option.bind_some, if_neg one_ne0, show fX3_cell (fLog (foc k y)) (nI i) 5 = some (wT r) from c5, Option.bind_some, keep_r]
    obtain ⟨F0, hF0⟩ : ∃ z, z = fClk_s (foc k y) (wT r) := ⟨_, rfl⟩
    have f1 : fLog F0 = sLog y := by rw [hF0]; rfl
    have f2 : fV F0 = sV y k := by rw [hF0]; rfl
    have f3 : fClk F0 = wT r := by rw [hF0]; rfl
    have f4 : fLvi F0 = sLvi y := by rw [hF0]; rfl
    have f5 : fKtw F0 = sKtw y := by rw [hF0]; rfl
    have f6 : fLs F0 = sLs y := by rw [hF0]; rfl
    rw [← hF0, f1, c0, Option.bind_some, c2, Option.bind_some, c3, Option.bind_some, c4, Option.bind_some]
    clear hF0
    obtain ⟨w, u, w1, ⟨p1, p2, p3, p4, p5, p6⟩, p7, p8, p9⟩ := cls_row (x := F0) (f := gF4 g k) y2 (by rw [f2]; exact v1) ((hG.2.2.2 k y2).1) o1 f3
    have hmk : gK4 g r = mkB r (crn k (gP4 g)) := by unfold gK4; rw [← hk]
    rw [← hmk] at p8 p9
    have hid : vlId (fV w) = nI (if gK4 g r = true then gL4 g + 1 else gI4 g k) := by
      rw [p8, f4, f2, h4, v2, nI_1]
      split <;> rfl
    obtain ⟨lo, l1, l2⟩ := log_again (id := if gK4 g r = true then gL4 g + 1 else gI4 g k) h3
    rw [hPl] at l1
    rw [w1, Option.bind_some, keep_r, kyk y2, chk_r, p5, f1, p3, f3, hid, l1, Option.bind_some, keep_r]
    have eP : gP4 (gst4 g r) = gP4 g ++ [(r, if gK4 g r = true then gL4 g + 1 else gI4 g k)] := by rw [hk]; rfl
    have eF : gF4 (gst4 g r) = upN (gF4 g) k (opF r (crn k (gP4 g)) (gF4 g k)) := by rw [hk]; rfl
    have eI : gI4 (gst4 g r) = upN (gI4 g) k (if gK4 g r = true then gL4 g + 1 else gI4 g k) := by rw [hk]; rfl
    have eL : gL4 (gst4 g r) = if gK4 g r = true then gL4 g + 1 else gL4 g := rfl
    refine ⟨_, rfl, p2.trans (f5.trans h1), p4.trans (f6.trans h2), ?_, ?_, fun j hj => ?_⟩
    · show LogC lo _
      rw [eP, List.append_assoc]
      exact l2
    · show fLvi w = _
      rw [p9, f4, h4, eL, nI_1]
      split <;> rfl
    · rw [show sV (unf k y (fLog_s w lo)) = vup (sV y) k (fV w) from rfl, eP, eF, eI]
      by_cases e : j = k
      · subst e
        rw [(crn_s y1).1, vup_s, upN_s, upN_s]
        exact ⟨p7, hid⟩
      · rw [(crn_o (fun q => e ((nI_eqE (by omega) (by omega)).mp (q.symm.trans y1)))).1, vup_o e, upN_o e, upN_o e]
        exact h5 j hj
/-- the reference in the midst of it -/
def RM4 (m : MSt) (g : GSt4) (y : MSt) : Prop := mClock y = mClock m ∧ mSampled y = mSampled m ∧ mRows y = mRows m ∧ mLog y = mLog m ∧ mIsRewriting y = 0 ∧ ∀ k, k < 16 → MR y k (crn k (gP4 g)) (gF4 g k) ∧ (cT (crn k (gP4 g)) ≠ 0 → mMadeAt y k = nI (gM4 g k))
theorem mod_again {m y : MSt} {E : EL} {lvi i : Nat} {g : GSt4} (hG : GI4 (rws E) lvi i g) (hi : i < E.length) (h300 : E.length ≤ 300) (hv : ∀ k, k < 16 → vldK k s00 (rws E)) (hy : isN (wY E[i].1) 16) (hL : LogM (mLog m) (mRows m) (rws E)) (h : RM4 m g y) (hw : mWriting y = nI i) (hn : mNow y = wT E[i].1) :
    ∃ z, fX8_does y (nI (6 * i)) = some z ∧ RM4 m (gst4 g E[i].1) z := by
  have hlE : (rws E).length = E.length := List.length_map _
  have hri : (rws E)[i]'(by omega) = E[i].1 := List.getElem_map _
  obtain ⟨y1, y2⟩ := isN_cl hy (by omega)
  obtain ⟨o1, o2⟩ := gi_ok hG (by omega) (hv _ y2) (by rw [hri]; exact y1)
  rw [hri] at o1 o2
  have hPl : (gP4 g).length = i := by
    have := congrArg List.length hG.1
    rw [List.length_take, hlE, show (rws (gP4 g)).length = (gP4 g).length from List.length_map _] at this
    omega
  obtain ⟨h1, h2, h3, h4, h5, h6⟩ := h
  have hrow := hL.2 i (by omega)
  rw [hri] at hrow
  obtain ⟨r, hr⟩ : ∃ e, e = E[i].1 := ⟨_, rfl⟩
  rw [← hr] at hy y1 y2 o1 o2 hrow hn ⊢
  obtain ⟨k, hk⟩ : ∃ k, k = cl (wY r) := ⟨_, rfl⟩
  rw [← hk] at y1 y2 o1 o2
  obtain ⟨v1, v2⟩ := h6 k y2
  obtain ⟨z, z1, z2, z3, z4⟩ := mod_row (m := y) (i := i) y2 (by omega) (by rw [h4]; exact hrow) y1 v1 ((hG.2.2.2 k y2).1) ((hG.2.2.2 k y2).2.1) o1 hn
  obtain ⟨r1, r2, r3, r4, r5, r6, r7, r8, r9, r10, r11, r12, r13⟩ := msc_e z2.1
  have hmk : gK4 g r = mkB r (crn k (gP4 g)) := by unfold gK4; rw [← hk]
  rw [← hmk] at z4
  have eP : gP4 (gst4 g r) = gP4 g ++ [(r, if gK4 g r = true then gL4 g + 1 else gI4 g k)] := by rw [hk]; rfl
  have eF : gF4 (gst4 g r) = upN (gF4 g) k (opF r (crn k (gP4 g)) (gF4 g k)) := by rw [hk]; rfl
  have eM : gM4 (gst4 g r) = upN (gM4 g) k (if gK4 g r = true then (gP4 g).length else gM4 g k) := by rw [hk]; rfl
  refine ⟨z, z1, r1.trans h1, r3.trans h2, r4.trans h3, r6.trans h4, r7.trans h5, fun j hj => ?_⟩
  rw [eP, eF, eM]
  by_cases e : j = k
  · subst e
    rw [(crn_s y1).1, upN_s, upN_s]
    refine ⟨z3, fun _ => ?_⟩
    rw [z4]
    cases w : gK4 g r with
    | true => rw [if_pos rfl, if_pos rfl, hw, hPl]
    | false => rw [if_neg (by decide), if_neg (by decide)]; exact v2 (mk_there o1 (by rw [← hmk]; exact w))
  · rw [(crn_o (fun q => e ((nI_eqE (by omega) (by omega)).mp (q.symm.trans y1)))).1, upN_o e, upN_o e]
    obtain ⟨w1, w2⟩ := h6 j hj
    exact ⟨w1.fr z2 e, fun q => by rw [(z2.2.1 j e).2.2.2.2.2]; exact w2 q⟩

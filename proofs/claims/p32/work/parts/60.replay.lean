/-! what a log makes of a key -/
def stK (k : Nat) (s : CK × Int32) (r : RW) : CK × Int32 := if wY r = nI k then (opC r s.1, wT r) else s
def runK (k : Nat) (s : CK × Int32) (R : List RW) : CK × Int32 := R.foldl (stK k) s
def vldK (k : Nat) : CK × Int32 → List RW → Prop
  | _, [] => True
  | s, r :: t => (wY r = nI k → okR r s.1 ∧ s.2 ≤ wT r) ∧ vldK k (stK k s r) t
def s00 : CK × Int32 := (c00 0, 0)
theorem run_app {k : Nat} {R S : List RW} {s : CK × Int32} : runK k s (R ++ S) = runK k (runK k s R) S := List.foldl_append
theorem vld_app {k : Nat} {S : List RW} : ∀ {R : List RW} {s : CK × Int32}, vldK k s (R ++ S) ↔ vldK k s R ∧ vldK k (runK k s R) S := by
  intro R
  induction R with
  | nil => intro s; exact ⟨fun h => ⟨trivial, h⟩, fun h => h.2⟩
  | cons r t ih => intro s; exact ⟨fun h => ⟨⟨h.1, (ih.mp h.2).1⟩, (ih.mp h.2).2⟩, fun h => ⟨h.1.1, ih.mpr ⟨h.1.2, h.2⟩⟩⟩
theorem run_oth {k : Nat} : ∀ {R : List RW} {s : CK × Int32}, (∀ r ∈ R, wY r ≠ nI k) → runK k s R = s ∧ vldK k s R := by
  intro R
  induction R with
  | nil => intro s _; exact ⟨rfl, trivial⟩
  | cons r t ih =>
    intro s h
    have h1 : wY r ≠ nI k := h r List.mem_cons_self
    have e : stK k s r = s := if_neg h1
    obtain ⟨i1, i2⟩ := ih (s := s) (fun q hq => h q (List.mem_cons_of_mem _ hq))
    refine ⟨?_, fun q => absurd q h1, by rw [e]; exact i2⟩
    show runK k (stK k s r) t = s
    rw [e]; exact i1
def vw (now : Int32) (c : CK) : CK := if thC c now = true then c else c00 0
theorem th_00 {now : Int32} : thC (c00 0) now = false := rfl
theorem vw_th {now : Int32} {c : CK} : thC (vw now c) now = thC c now := by
  unfold vw
  by_cases e : thC c now = true
  · rw [if_pos e]
  · rw [if_neg e, th_00]; simpa using e
theorem th_mono {c : CK} {t t' : Int32} (h : thC c t' = true) (hle : t ≤ t') : thC c t = true := by
  unfold thC at h ⊢
  rw [Bool.and_eq_true, Bool.or_eq_true] at h ⊢
  refine ⟨h.1, ?_⟩
  rcases h.2 with q | q
  · exact Or.inl q
  · refine Or.inr (decide_eq_true ?_)
    have := of_decide_eq_true q
    rw [Int32.lt_iff_toInt_lt] at this ⊢
    rw [Int32.le_iff_toInt_le] at hle
    omega
theorem vw_mono {c : CK} {t t' : Int32} (hle : t ≤ t') : vw t' (vw t c) = vw t' c := by
  unfold vw
  by_cases e : thC c t = true
  · rw [if_pos e]
  · rw [if_neg e, th_00, if_neg (by decide), if_neg (fun q => e (th_mono q hle))]
theorem vw_eq {now : Int32} {c c' : CK} (h : vw now c = vw now c') : thC c now = thC c' now ∧ (thC c now = true → c = c') := by
  have e : thC c now = thC c' now := by rw [← vw_th (c := c), h, vw_th]
  refine ⟨e, fun q => ?_⟩
  unfold vw at h
  rw [if_pos q, if_pos (e ▸ q)] at h
  exact h
theorem okR_vw {r : RW} {c : CK} : okR r (vw (wT r) c) ↔ okR r c := by
  unfold vw
  by_cases e : thC c (wT r) = true
  · rw [if_pos e]
  · rw [if_neg e]
    have e' : thC c (wT r) = false := by simpa using e
    unfold okR
    rw [e', th_00]
    simp
theorem opC_vw {r : RW} {c : CK} (h : okR r c) : opC r (vw (wT r) c) = opC r c := by
  unfold vw
  by_cases e : thC c (wT r) = true
  · rw [if_pos e]
  · rw [if_neg e]
    have e' : thC c (wT r) = false := by simpa using e
    have mk : ∀ t, mkC t (c00 0) (wT r) = mkC t c (wT r) := fun t => by unfold mkC; rw [if_neg e, th_00, if_neg (by decide)]
    obtain ⟨-, -, h⟩ := h
    rcases h with ⟨q, -⟩ | ⟨q, h⟩ | ⟨q, -⟩ | ⟨q, h⟩ | ⟨q, -⟩ | ⟨q, -⟩ | ⟨q, h⟩ | ⟨q, h⟩ | ⟨q, h⟩ | ⟨q, h⟩ | ⟨q, h⟩
    · rw [opC_1 q, opC_1 q]; unfold pshC; rw [mk]
    · exact absurd h.2.2.2.1 e
    · rw [opC_3 q, opC_3 q]; unfold addC; rw [mk]
    · exact absurd h.2.2.2.1 e
    · rw [opC_5 q, opC_5 q]; unfold ratC ratI; rw [mk]
    · rw [opC_6 q, opC_6 q]; unfold appC; rw [mk]
    · exact absurd h.2.2.2.1 e
    · exact absurd h.2.2.1 e
    · exact absurd h.2.2.2.1 e
    · exact absurd h.2.2.2 e
    · exact absurd h.2.2 e
def LogOk (k : Nat) (R : List RW) (now : Int32) (c : CK) : Prop := vldK k s00 R ∧ (runK k s00 R).2 ≤ now ∧ vw now (runK k s00 R).1 = vw now c
theorem logOk_snoc {k : Nat} {R : List RW} {r : RW} {c : CK} (h : LogOk k R (wT r) c) (hr : okR r c) (hk : wY r = nI k) : LogOk k (R ++ [r]) (wT r) (opC r c) := by
  obtain ⟨h1, h2, h3⟩ := h
  have hr2 : okR r (runK k s00 R).1 := by rw [← okR_vw, h3, okR_vw]; exact hr
  have e : runK k s00 (R ++ [r]) = (opC r c, wT r) := by
    rw [run_app]
    show stK k (runK k s00 R) r = _
    unfold stK
    rw [if_pos hk, ← opC_vw hr2, h3, opC_vw hr]
  refine ⟨vld_app.mpr ⟨h1, fun _ => ⟨hr2, h2⟩, trivial⟩, by rw [e]; exact Int32.le_refl _, by rw [e]⟩
theorem logOk_oth {k : Nat} {R S : List RW} {now : Int32} {c : CK} (h : LogOk k R now c) (hk : ∀ r ∈ S, wY r ≠ nI k) : LogOk k (R ++ S) now c := by
  obtain ⟨h1, h2, h3⟩ := h
  obtain ⟨e1, e2⟩ := run_oth (s := runK k s00 R) hk
  exact ⟨vld_app.mpr ⟨h1, e2⟩, by rw [run_app, e1]; exact h2, by rw [run_app, e1]; exact h3⟩
theorem logOk_tick {k : Nat} {R : List RW} {now now' : Int32} {c : CK} (h : LogOk k R now c) (hle : now ≤ now') : LogOk k R now' c := by
  obtain ⟨h1, h2, h3⟩ := h
  exact ⟨h1, Int32.le_trans h2 hle, by rw [← vw_mono hle, h3, vw_mono hle]⟩
def isS (k : Nat) (r : RW) : Bool := decide (wY r = nI k) && (decide (wK r = 6) || (decide (wK r = 7) || (decide (wK r = 8) || decide (wK r = 9))))
theorem isS_iff {k : Nat} {r : RW} : isS k r = true ↔ wY r = nI k ∧ (wK r = 6 ∨ wK r = 7 ∨ wK r = 8 ∨ wK r = 9) := by
  unfold isS
  simp only [Bool.and_eq_true, Bool.or_eq_true, decide_eq_true_eq]
def noE (c : CK) : CK := (cT c, -1, c.2.2)
theorem th_noE {c : CK} {now : Int32} (h : cT c ≠ 0) : thC (noE c) now = true := by
  unfold thC
  rw [decide_eq_true (show cT (noE c) ≠ 0 from h)]; rfl
theorem okR_noE {r : RW} {c : CK} (h : okR r c) (hk : wK r = 6 ∨ wK r = 7 ∨ wK r = 8 ∨ wK r = 9) (ht : thC c (wT r) = true) : okR r (noE c) ∧ opC r (noE c) = noE (opC r c) := by
  have h0 := th_noE (now := wT r) (thC_T ht)
  obtain ⟨g1, g2, h⟩ := h
  have d : ∀ n m : Int32, n ≠ m → wK r = n → wK r = m → False := fun n m a b c => a (b.symm.trans c)
  rcases h with ⟨q, h⟩ | ⟨q, h⟩ | ⟨q, h⟩ | ⟨q, h⟩ | ⟨q, h⟩ | ⟨q, h⟩ | ⟨q, h⟩ | ⟨q, h⟩ | ⟨q, h⟩ | ⟨q, h⟩ | ⟨q, h⟩
  · rw [q] at hk; simp at hk
  · rw [q] at hk; simp at hk
  · rw [q] at hk; simp at hk
  · rw [q] at hk; simp at hk
  · rw [q] at hk; simp at hk
  · refine ⟨⟨g1, g2, Or.inr (Or.inr (Or.inr (Or.inr (Or.inr (Or.inl ⟨q, h.1, h.2.1, h.2.2.1, fun _ => h.2.2.2 ht⟩)))))⟩, ?_⟩
    rw [opC_6 q, opC_6 q]; unfold appC mkC; rw [if_pos h0, if_pos ht]; rfl
  · refine ⟨⟨g1, g2, Or.inr (Or.inr (Or.inr (Or.inr (Or.inr (Or.inr (Or.inl ⟨q, h.1, h.2.1, h.2.2.1, h0, h.2.2.2.2⟩))))))⟩, ?_⟩
    rw [opC_7 q, opC_7 q]; unfold rdC
    by_cases e : cP c (cl (wA r)) + 1 ≤ (cL c).length
    · rw [if_pos e, if_pos (show cP (noE c) (cl (wA r)) + 1 ≤ (cL (noE c)).length from e)]; rfl
    · rw [if_neg e, if_neg (show ¬ cP (noE c) (cl (wA r)) + 1 ≤ (cL (noE c)).length from e)]
  · refine ⟨⟨g1, g2, Or.inr (Or.inr (Or.inr (Or.inr (Or.inr (Or.inr (Or.inr (Or.inl ⟨q, h.1, h.2.1, h0, h.2.2.2⟩)))))))⟩, ?_⟩
    rw [opC_8 q, opC_8 q]; unfold dnC
    cases eno (wB r) <;> rfl
  · refine ⟨⟨g1, g2, Or.inr (Or.inr (Or.inr (Or.inr (Or.inr (Or.inr (Or.inr (Or.inr (Or.inl ⟨q, h.1, h.2.1, h.2.2.1, h0, h.2.2.2.2⟩))))))))⟩, ?_⟩
    rw [opC_9 q, opC_9 q]; rfl
  · rw [q] at hk; simp at hk
  · rw [q] at hk; simp at hk
abbrev EL : Type := List (RW × Nat)
def rws (E : EL) : List RW := E.map Prod.fst
def sfx (k : Nat) (E : EL) (M : Nat) : List RW := (rws (E.drop M)).filter (isS k)
def cntK (k : Nat) (E : EL) : Nat := E.countP (fun e => decide (wY e.1 = nI k))
def StrOk (k : Nat) (S : List RW) (now : Int32) (c : CK) : Prop := vldK k s00 S ∧ (runK k s00 S).2 ≤ now ∧ (runK k s00 S).1 = noE c
def need (k : Nat) (E : EL) (M : Nat) (c : CK) (now : Int32) : Nat := if thC c now = true then (if cT c = 4 then (sfx k E M).length else (cL c).length) + (if cE c = -1 then 0 else 1) else 0
def IdOk (k : Nat) (E : EL) (M id : Nat) : Prop := E.filter (fun e => isS k e.1 && decide (e.2 = id)) = (E.drop M).filter (fun e => isS k e.1)
def LIk (E : EL) (M id : Nat) (now : Int32) (k : Nat) (c : CK) : Prop := LogOk k (rws E) now c ∧ need k E M c now ≤ cntK k E ∧ (thC c now = true → cT c = 4 → M < E.length ∧ StrOk k (sfx k E M) now c ∧ IdOk k E M id)
theorem rws_app {E G : EL} : rws (E ++ G) = rws E ++ rws G := List.map_append
theorem cnt_app {k : Nat} {E G : EL} : cntK k (E ++ G) = cntK k E + cntK k G := List.countP_append
theorem sfx_app {k : Nat} {E G : EL} {M : Nat} (h : M ≤ E.length) : sfx k (E ++ G) M = sfx k E M ++ (rws G).filter (isS k) := by
  unfold sfx
  rw [List.drop_append_of_le_length h, rws_app, List.filter_append]
theorem LIk.tick {E : EL} {M id k : Nat} {now now' : Int32} {c : CK} (h : LIk E M id now k c) (hle : now ≤ now') : LIk E M id now' k c := by
  obtain ⟨h1, h2, h3⟩ := h
  refine ⟨logOk_tick h1 hle, ?_, fun q hT => ?_⟩
  · unfold need at h2 ⊢
    by_cases e : thC c now' = true
    · rw [if_pos e]
      rw [if_pos (th_mono e hle)] at h2; exact h2
    · rw [if_neg e]; exact Nat.zero_le _
  · obtain ⟨g1, ⟨g2, g3, g4⟩, g5⟩ := h3 (th_mono q hle) hT
    exact ⟨g1, ⟨g2, Int32.le_trans g3 hle, g4⟩, g5⟩
theorem LIk.view {E : EL} {M id k : Nat} {now : Int32} {c c' : CK} (h : LIk E M id now k c) (hv : vw now c = vw now c') : LIk E M id now k c' := by
  obtain ⟨e1, e2⟩ := vw_eq hv
  by_cases e : thC c now = true
  · rw [← e2 e]; exact h
  · obtain ⟨⟨h1, h2, h3⟩, h4, h5⟩ := h
    have e' : ¬ thC c' now = true := by rw [← e1]; exact e
    exact ⟨⟨h1, h2, h3.trans hv⟩, by unfold need; rw [if_neg e']; exact Nat.zero_le _, fun q => absurd q e'⟩
theorem LIk.oth {E G : EL} {M id k : Nat} {now : Int32} {c : CK} (h : LIk E M id now k c) (hk : ∀ e ∈ G, wY e.1 ≠ nI k) : LIk (E ++ G) M id now k c := by
  obtain ⟨h1, h2, h3⟩ := h
  have hf : (rws G).filter (isS k) = [] := List.filter_eq_nil_iff.mpr (fun r hr q => by
    obtain ⟨e, he, rfl⟩ := List.mem_map.mp hr
    exact hk e he (isS_iff.mp q).1)
  have hz : cntK k G = 0 := List.countP_eq_zero.mpr (fun e he q => hk e he (of_decide_eq_true q))
  refine ⟨by rw [rws_app]; exact logOk_oth h1 (fun r hr => by obtain ⟨e, he, rfl⟩ := List.mem_map.mp hr; exact hk e he), ?_, fun q hT => ?_⟩
  · rw [cnt_app, hz]
    unfold need at h2 ⊢
    by_cases e : thC c now = true
    · rw [if_pos e] at h2 ⊢
      by_cases e4 : cT c = 4
      · rw [if_pos e4] at h2 ⊢
        rw [sfx_app (Nat.le_of_lt (h3 e e4).1), hf, List.append_nil]; exact h2
      · rw [if_neg e4] at h2 ⊢; exact h2
    · rw [if_neg e]; exact Nat.zero_le _
  · obtain ⟨g1, g2, g5⟩ := h3 q hT
    refine ⟨by rw [List.length_append]; omega, by rw [sfx_app (Nat.le_of_lt g1), hf, List.append_nil]; exact g2, ?_⟩
    unfold IdOk at g5 ⊢
    rw [List.drop_append_of_le_length (Nat.le_of_lt g1), List.filter_append, List.filter_append, g5]
    congr 1
    have a : ∀ e ∈ G, isS k e.1 = false := fun e he => by
      cases w : isS k e.1 with
      | false => rfl
      | true => exact absurd (isS_iff.mp w).1 (hk e he)
    rw [List.filter_eq_nil_iff.mpr (fun e he => by rw [a e he]; simp), List.filter_eq_nil_iff.mpr (fun e he => by rw [a e he]; simp)]

/-! what a key holds stays well formed -/
def okF (f : FK) : Prop := 4 ≤ f.2 ∧ f.2 ≤ 6
theorem mkF_ok {c : CK} {f : FK} {now : Int32} (h : okF f) : okF (mkF c f now) := by
  unfold mkF
  split
  · exact h
  · exact ⟨Nat.le_refl 4, by decide⟩
theorem bup_ok {L : LL} {b : Nat} (h : 4 ≤ b ∧ b ≤ 6) (hL : L.length < 40) : 4 ≤ bup L b ∧ bup L b ≤ 6 := by
  unfold bup
  split
  · rename_i q
    rcases p2_cases h with e | e | e <;> subst e
    · omega
    · omega
    · have : (2 : Nat) ^ 6 = 64 := by decide
      omega
  · exact h
theorem okF_add {a now : Int32} {c : CK} {f : FK} (h : okF f) (hl : (cL (mkC 2 c now)).length < 40 ∨ fnd (cL (mkC 2 c now)) a = true) : okF (addF a now c f) := by
  unfold addF
  by_cases e : fnd (cL (mkC 2 c now)) a = true
  · rw [if_pos e]; exact mkF_ok h
  · rw [if_neg e]
    have hl' : (cL (mkC 2 c now)).length < 40 := by
      rcases hl with q | q
      · exact q
      · exact absurd q e
    exact bup_ok (mkF_ok h) hl'
theorem ok_T {c : CK} (h : okCK c) (h0 : cT c ≠ 0) : (cT c = 1 ∨ cT c = 2 ∨ cT c = 3 ∨ cT c = 4) ∧ (cT c ≠ 4 → noG c) ∧ (cL c).length ≤ 40 ∧ (cT c ≠ 4 → 0 < (cL c).length) ∧ (∀ q ∈ cL c, isV q.1) ∧ (cT c = 2 → AscL (cL c)) ∧ (cT c = 3 → SrtL (cL c)) ∧ (cT c = 4 → GrpOk (cL c).length (cP c) (cW c)) := by
  rcases h with h | h
  · exact absurd h h0
  · exact h
theorem mkC_noG {t now : Int32} {c : CK} (h : okCK c) (ht : t ≠ 4) (hT : thC c now = true → cT c = t) : noG (mkC t c now) := by
  unfold mkC
  split
  · rename_i q
    exact (ok_T h (thC_T q)).2.1 (by rw [hT q]; exact ht)
  · exact ⟨rfl, rfl⟩
theorem mem_ins {L : LL} {i : Nat} {a q : Int32 × Int32} (hi : i ≤ L.length) (h : q ∈ L.insertIdx i a) : q = a ∨ q ∈ L := by
  obtain ⟨l1, l2, rfl, rfl⟩ := spl hi
  rw [ins_app] at h
  rcases List.mem_append.mp h with h | h
  · exact Or.inr (List.mem_append.mpr (Or.inl h))
  · rcases List.mem_cons.mp h with h | h
    · exact Or.inl h
    · exact Or.inr (List.mem_append.mpr (Or.inr h))
theorem ok_push {a b now : Int32} {c : CK} (h : okCK c) (ha : isV a) (hok : thC c now = true → cT c = 1 ∧ (cL c).length < 40) : okCK (pshC a b now c) := by
  have hT := mkC_T (t := 1) (fun q => (hok q).1)
  have hl : (cL (mkC 1 c now)).length < 40 := mkC_L (P := fun L => L.length < 40) (fun q => (hok q).2) (by decide)
  have hV := mkC_isV (t := 1) (now := now) h
  have hG := mkC_noG (t := 1) (now := now) h (by decide) (fun q => (hok q).1)
  unfold pshC
  generalize mkC 1 c now = c1 at *
  have hi : (if b = 0 then 0 else (cL c1).length) ≤ (cL c1).length := by split <;> omega
  generalize (if b = 0 then 0 else (cL c1).length) = i at *
  have hlen : ((cL c1).insertIdx i (a, 0)).length = (cL c1).length + 1 := by rw [List.length_insertIdx, if_pos hi]
  have k2 : ¬ (1 : Int32) = 2 := by decide
  have k3 : ¬ (1 : Int32) = 3 := by decide
  have k4 : ¬ (1 : Int32) = 4 := by decide
  refine Or.inr ⟨Or.inl hT, fun _ => hG, ?_, fun _ => ?_, fun q hq => ?_, fun q => absurd (hT.symm.trans q) k2, fun q => absurd (hT.symm.trans q) k3, fun q => absurd (hT.symm.trans q) k4⟩
  · show ((cL c1).insertIdx i (a, 0)).length ≤ 40
    omega
  · show 0 < ((cL c1).insertIdx i (a, 0)).length
    omega
  · rcases mem_ins hi hq with e | e
    · rw [e]; exact ha
    · exact hV q e
theorem asc_sub {L L' : LL} (h : AscL L) (hs : L'.Sublist L) : AscL L' := ⟨fun q hq => h.1 q (hs.subset hq), h.2.sublist hs⟩
theorem srt_sub {L L' : LL} (h : SrtL L) (hs : L'.Sublist L) : SrtL L' := ⟨fun q hq => h.1 q (hs.subset hq), h.2.1.sublist hs, h.2.2.sublist hs⟩
theorem ok_drop {c : CK} {i : Nat} (h : okCK c) (h0 : cT c ≠ 0) (h4 : cT c ≠ 4) : okCK (drpE (setL c ((cL c).eraseIdx i))) := by
  obtain ⟨g1, g2, g3, g4, g5, g6, g7, g8⟩ := ok_T h h0
  have hs := List.eraseIdx_sublist (cL c) i
  unfold drpE
  by_cases e : (cL (setL c ((cL c).eraseIdx i))).length = 0
  · rw [if_pos e]; exact Or.inl rfl
  · rw [if_neg e]
    refine Or.inr ⟨g1, g2, ?_, fun _ => Nat.pos_of_ne_zero e, fun q hq => g5 q (hs.subset hq), fun q => asc_sub (g6 q) hs, fun q => srt_sub (g7 q) hs, fun q => absurd q h4⟩
    have := hs.length_le
    show ((cL c).eraseIdx i).length ≤ 40
    omega
theorem asc_put {L : LL} {a : Int32} (h : AscL L) (ha : isV a) (hn : ∀ q ∈ L, q.1 ≠ a) : AscL (sins L a) := by
  unfold sins
  refine ⟨fun q hq => ?_, List.pairwise_append.mpr ⟨h.2.filter _, List.pairwise_cons.mpr ⟨fun q hq => ?_, h.2.filter _⟩, fun p hp q hq => ?_⟩⟩
  · rcases List.mem_append.mp hq with hq | hq
    · exact h.1 q (List.mem_filter.mp hq).1
    · rcases List.mem_cons.mp hq with hq | hq
      · rw [hq]; exact ⟨ha, rfl⟩
      · exact h.1 q (List.mem_filter.mp hq).1
  · obtain ⟨q1, q2⟩ := List.mem_filter.mp hq
    have : ¬ q.1 < a := by simpa using q2
    exact i32_lt_of_ne (i32_nlt.mp this) (fun w => hn q q1 w.symm)
  · have p2 : p.1 < a := by simpa using (List.mem_filter.mp hp).2
    rcases List.mem_cons.mp hq with hq | hq
    · rw [hq]; exact p2
    · have : ¬ q.1 < a := by simpa using (List.mem_filter.mp hq).2
      have w := i32_nlt.mp this
      rw [Int32.le_iff_toInt_le] at w
      rw [Int32.lt_iff_toInt_lt] at p2 ⊢
      omega
theorem ok_add {a now : Int32} {c : CK} (h : okCK c) (ha : isV a) (hok : thC c now = true → cT c = 2 ∧ ((cL c).length < 40 ∨ fnd (cL c) a = true)) (hf : fnd (cL (mkC 2 c now)) a = false ∨ thC c now = true) : okCK (addC a now c) := by
  have hT := mkC_T (t := 2) (fun q => (hok q).1)
  have hl : (cL (mkC 2 c now)).length < 40 ∨ fnd (cL (mkC 2 c now)) a = true := mkC_L (P := fun L => L.length < 40 ∨ fnd L a = true) (fun q => (hok q).2) (Or.inl (by decide))
  have hA := mkC_asc (t := 2) (now := now) h (fun q => (hok q).1)
  have hG := mkC_noG (t := 2) (now := now) h (by decide) (fun q => (hok q).1)
  unfold addC
  by_cases e : fnd (cL (mkC 2 c now)) a = true
  · rw [if_pos e]
    rcases hf with q | q
    · rw [q] at e; cases e
    · unfold mkC; rw [if_pos q]; exact h
  · rw [if_neg e]
    have e' : fnd (cL (mkC 2 c now)) a = false := by simpa using e
    have hl' : (cL (mkC 2 c now)).length < 40 := by
      rcases hl with q | q
      · exact q
      · exact absurd q e
    generalize mkC 2 c now = c1 at *
    obtain ⟨r1, r2⟩ := rnk_asc hA a
    have hlen : (sins (cL c1) a).length = (cL c1).length + 1 := by rw [← r1, List.length_insertIdx, if_pos r2]
    have k3 : ¬ (2 : Int32) = 3 := by decide
    have k4 : ¬ (2 : Int32) = 4 := by decide
    have hP := asc_put hA ha (fnd_no e')
    refine Or.inr ⟨Or.inr (Or.inl hT), fun _ => hG, ?_, fun _ => ?_, fun q hq => (hP.1 q hq).1, fun _ => hP, fun q => absurd (hT.symm.trans q) k3, fun q => absurd (hT.symm.trans q) k4⟩
    · show (sins (cL c1) a).length ≤ 40
      omega
    · show 0 < (sins (cL c1) a).length
      omega
theorem fnd_nil {a : Int32} : fnd [] a = false := rfl
theorem mkC_fnd {t now a : Int32} {c : CK} : fnd (cL (mkC t c now)) a = false ∨ thC c now = true := by
  unfold mkC
  by_cases e : thC c now = true
  · exact Or.inr e
  · rw [if_neg e]; exact Or.inl rfl
theorem rat_no {a : Int32} {L : LL} (h : SrtL L) : ∀ q ∈ ratL a L, q.1 ≠ a := by
  unfold ratL
  by_cases e : fnd L a = true
  · rw [if_pos e]
    obtain ⟨l1, x, l2, hL, hk, hx⟩ := spl1 (fnd_lt e)
    have hxa : x.1 = a := by rw [hx]; exact fnd_at e
    have hd := h.2.2
    rw [hL] at hd
    have h1 := List.pairwise_append.mp hd
    have h2 := List.pairwise_cons.mp h1.2.1
    intro q hq w
    rw [← hk] at hq
    have hq2 : q ∈ (l1 ++ x :: l2).eraseIdx l1.length := by rw [← hL]; exact hq
    rw [del_app] at hq2
    rcases List.mem_append.mp hq2 with m | m
    · exact h1.2.2 q m x List.mem_cons_self (w.trans hxa.symm)
    · exact h2.1 q m (hxa.trans w.symm)
  · rw [if_neg e]
    exact fnd_no (by simpa using e)
theorem ahd_tot {a b : Int32 × Int32} (h : ahd a b = false) (hn : a.1 ≠ b.1) : ahd b a = true := by
  have h' : ¬ (ris a.2 < ris b.2 ∨ (ris a.2 = ris b.2 ∧ a.1 < b.1)) := fun q => by rw [ahd_iff.mpr q] at h; cases h
  rw [ahd_iff]
  have h1 : ¬ ris a.2 < ris b.2 := fun q => h' (Or.inl q)
  by_cases e : ris a.2 = ris b.2
  · have h2 : ¬ a.1 < b.1 := fun q => h' (Or.inr ⟨e, q⟩)
    exact Or.inr ⟨e.symm, i32_lt_of_ne (i32_nlt.mp h2) (fun w => hn w.symm)⟩
  · exact Or.inl (i32_lt_of_ne (i32_nlt.mp h1) (fun w => e w.symm))
theorem srt_put {L : LL} {a : Int32 × Int32} (h : SrtL L) (ha : isNum a.2) (hn : ∀ q ∈ L, q.1 ≠ a.1) : SrtL (L.insertIdx (rnk L a) a) := by
  obtain ⟨h1, h2, h3⟩ := h
  obtain ⟨l1, l2, hL, hk⟩ := spl (rnk_le (L := L) (a := a))
  have hb : ∀ q ∈ l1, ahd q a = true := fun q hq => by
    obtain ⟨j, hj, rfl⟩ := List.mem_iff_getElem.mp hq
    have hjL : j < L.length := by rw [hL, List.length_append]; omega
    have := List.not_of_lt_findIdx (xs := L) (p := fun p => !ahd p a) (i := j) (by rw [show L.findIdx (fun p => !ahd p a) = rnk L a from rfl, ← hk]; exact hj)
    have e : L[j] = l1[j] := by
      have : L[j]? = l1[j]? := by rw [hL, List.getElem?_append_left hj]
      rw [List.getElem?_eq_getElem hjL, List.getElem?_eq_getElem hj] at this
      exact Option.some.inj this
    rw [e] at this
    simpa using this
  have hf : ∀ q ∈ l2, ahd q a = false := fun q hq => by
    cases l2 with
    | nil => cases hq
    | cons b t =>
      have hlt : L.findIdx (fun p => !ahd p a) < L.length := by
        show rnk L a < L.length
        rw [← hk, hL, List.length_append, List.length_cons]; omega
      have := List.findIdx_getElem (w := hlt)
      have e : L[L.findIdx (fun p => !ahd p a)] = b := by
        have : L[L.findIdx (fun p => !ahd p a)]? = some b := by
          rw [show L.findIdx (fun p => !ahd p a) = l1.length from hk.symm, hL]
          simp
        rw [List.getElem?_eq_getElem hlt] at this
        exact Option.some.inj this
      rw [e] at this
      have hba : ahd b a = false := by simpa using this
      rcases List.mem_cons.mp hq with w | w
      · rw [w]; exact hba
      · cases g : ahd q a with
        | false => rfl
        | true =>
          have hbq := (List.pairwise_cons.mp (List.pairwise_append.mp (hL ▸ h2)).2.1).1 q w
          rw [ahd_trans hbq g] at hba; cases hba
  rw [← hk, hL, ins_app]
  rw [hL] at h1 h2 h3 hn
  have p2 := List.pairwise_append.mp h2
  have p3 := List.pairwise_append.mp h3
  refine ⟨fun q hq => ?_, List.pairwise_append.mpr ⟨p2.1, List.pairwise_cons.mpr ⟨fun q hq => ahd_tot (hf q hq) (hn q (List.mem_append.mpr (Or.inr hq))), p2.2.1⟩, fun p hp q hq => ?_⟩, List.pairwise_append.mpr ⟨p3.1, List.pairwise_cons.mpr ⟨fun q hq => (hn q (List.mem_append.mpr (Or.inr hq))).symm, p3.2.1⟩, fun p hp q hq => ?_⟩⟩
  · rcases List.mem_append.mp hq with w | w
    · exact h1 q (List.mem_append.mpr (Or.inl w))
    · rcases List.mem_cons.mp w with w | w
      · rw [w]; exact ha
      · exact h1 q (List.mem_append.mpr (Or.inr w))
  · rcases List.mem_cons.mp hq with w | w
    · rw [w]; exact hb p hp
    · exact p2.2.2 p hp q w
  · rcases List.mem_cons.mp hq with w | w
    · rw [w]; exact hn p (List.mem_append.mpr (Or.inl hp))
    · exact p3.2.2 p hp q w
theorem ok_rate {a b now : Int32} {c : CK} (h : okCK c) (ha : isV a) (hb : isNum b) (hok : thC c now = true → cT c = 3 ∧ ((cL c).length < 40 ∨ fnd (cL c) a = true)) : okCK (ratC a b now c) := by
  have hT := mkC_T (t := 3) (fun q => (hok q).1)
  have hl : (cL (mkC 3 c now)).length < 40 ∨ fnd (cL (mkC 3 c now)) a = true := mkC_L (P := fun L => L.length < 40 ∨ fnd L a = true) (fun q => (hok q).2) (Or.inl (by decide))
  have hS := mkC_srt (now := now) h (fun q => (hok q).1)
  have hV := mkC_isV (t := 3) (now := now) h
  have hG := mkC_noG (t := 3) (now := now) h (by decide) (fun q => (hok q).1)
  have h40 : (cL (mkC 3 c now)).length ≤ 40 := mkC_L (P := fun L => L.length ≤ 40) (fun q => (ok_T h (thC_T q)).2.2.1) (by decide)
  unfold ratC ratI
  generalize mkC 3 c now = c1 at *
  have hll : (ratL a (cL c1)).length < 40 := by
    rw [ratL_len]
    split
    · have := fnd_lt (by assumption); omega
    · rcases hl with q | q
      · exact q
      · exact absurd q (by assumption)
  have hP := srt_put (a := (a, b)) (srt_rat (a := a) hS) hb (rat_no hS)
  have hlen : ((ratL a (cL c1)).insertIdx (rnk (ratL a (cL c1)) (a, b)) (a, b)).length = (ratL a (cL c1)).length + 1 := by rw [List.length_insertIdx, if_pos rnk_le]
  have k2 : ¬ (3 : Int32) = 2 := by decide
  have k4 : ¬ (3 : Int32) = 4 := by decide
  refine Or.inr ⟨Or.inr (Or.inr (Or.inl hT)), fun _ => hG, ?_, fun _ => ?_, fun q hq => ?_, fun q => absurd (hT.symm.trans q) k2, fun _ => hP, fun q => absurd (hT.symm.trans q) k4⟩
  · show ((ratL a (cL c1)).insertIdx (rnk (ratL a (cL c1)) (a, b)) (a, b)).length ≤ 40
    omega
  · show 0 < ((ratL a (cL c1)).insertIdx (rnk (ratL a (cL c1)) (a, b)) (a, b)).length
    omega
  · rcases mem_ins rnk_le hq with e | e
    · rw [e]; exact ha
    · refine hV q ?_
      unfold ratL at e
      split at e
      · exact (List.eraseIdx_sublist _ _).subset e
      · exact e
theorem ok_append {a now : Int32} {c : CK} (h : okCK c) (ha : isV a) (hok : thC c now = true → cT c = 4 ∧ (cL c).length < 40) : okCK (appC a now c) := by
  have hT := mkC_T (t := 4) (fun q => (hok q).1)
  have hl : (cL (mkC 4 c now)).length < 40 := mkC_L (P := fun L => L.length < 40) (fun q => (hok q).2) (by decide)
  have hV := mkC_isV (t := 4) (now := now) h
  have hG : GrpOk (cL (mkC 4 c now)).length (cP (mkC 4 c now)) (cW (mkC 4 c now)) := by
    unfold mkC
    by_cases e : thC c now = true
    · rw [if_pos e]; exact (ok_T h (thC_T e)).2.2.2.2.2.2.2 (hok e).1
    · rw [if_neg e]; exact ⟨fun i s r q => (by cases q), fun g _ => Nat.zero_le _, fun g j _ _ q => absurd rfl q⟩
  unfold appC
  generalize mkC 4 c now = c1 at *
  have hlen : (cL c1 ++ [(a, (0 : Int32))]).length = (cL c1).length + 1 := by rw [List.length_append]; rfl
  have k2 : ¬ (4 : Int32) = 2 := by decide
  have k3 : ¬ (4 : Int32) = 3 := by decide
  refine Or.inr ⟨Or.inr (Or.inr (Or.inr hT)), fun q => absurd hT q, ?_, fun q => absurd hT q, fun q hq => ?_, fun q => absurd (hT.symm.trans q) k2, fun q => absurd (hT.symm.trans q) k3, fun _ => ⟨hG.1, fun g hg => ?_, hG.2.2⟩⟩
  · show (cL c1 ++ [(a, (0 : Int32))]).length ≤ 40
    omega
  · rcases List.mem_append.mp hq with w | w
    · exact hV q w
    · rcases List.mem_cons.mp w with w | w
      · rw [w]; exact ha
      · cases w
  · show cP c1 g ≤ (cL c1 ++ [(a, (0 : Int32))]).length
    have := hG.2.1 g hg
    omega
theorem ok_read {g r now : Nat} {c : CK} (h : okCK c) (hg : g < 3) (hr : r < 4) (hnow : now ≤ 1000000) (hT : cT c = 4) : okCK (rdC g r now c) := by
  obtain ⟨g1, g2, g3, g4, g5, g6, g7, g8⟩ := ok_T h (by rw [hT]; decide)
  obtain ⟨w1, w2, w3⟩ := g8 hT
  unfold rdC
  by_cases e : cP c g + 1 ≤ (cL c).length
  · rw [if_pos e]
    refine Or.inr ⟨g1, fun q => absurd hT q, g3, g4, g5, g6, g7, fun _ => ⟨fun i s r' q => ?_, fun g' hg' => ?_, fun g' j hg' hj q => ?_⟩⟩
    · change upN (cW c) (40 * g + cP c g) (some (now, r)) i = some (s, r') at q
      by_cases e2 : i = 40 * g + cP c g
      · subst e2; rw [upN_s] at q; cases q; exact ⟨hr, hnow⟩
      · rw [upN_o e2] at q; exact w1 i s r' q
    · show upN (cP c) g (cP c g + 1) g' ≤ (cL c).length
      by_cases e2 : g' = g
      · subst e2; rw [upN_s]; exact e
      · rw [upN_o e2]; exact w2 g' hg'
    · show j < upN (cP c) g (cP c g + 1) g'
      change upN (cW c) (40 * g + cP c g) (some (now, r)) (40 * g' + j) ≠ none at q
      by_cases e3 : 40 * g' + j = 40 * g + cP c g
      · have : g' = g ∧ j = cP c g := by omega
        rw [this.1, this.2, upN_s]; omega
      · rw [upN_o e3] at q
        have := w3 g' j hg' hj q
        by_cases e2 : g' = g
        · subst e2; rw [upN_s]; omega
        · rw [upN_o e2]; exact this
  · rw [if_neg e]; exact h
theorem ok_done {g : Nat} {e : Int32} {c : CK} (h : okCK c) (hT : cT c = 4) : okCK (dnC g e c) := by
  obtain ⟨g1, g2, g3, g4, g5, g6, g7, g8⟩ := ok_T h (by rw [hT]; decide)
  obtain ⟨w1, w2, w3⟩ := g8 hT
  unfold dnC
  cases e1 : eno e with
  | none => exact h
  | some j0 =>
    refine Or.inr ⟨g1, fun q => absurd hT q, g3, g4, g5, g6, g7, fun _ => ⟨fun i s r' q => ?_, w2, fun g' j hg' hj q => ?_⟩⟩
    · change upN (cW c) (40 * g + j0) none i = some (s, r') at q
      by_cases e2 : i = 40 * g + j0
      · subst e2; rw [upN_s] at q; cases q
      · rw [upN_o e2] at q; exact w1 i s r' q
    · change upN (cW c) (40 * g + j0) none (40 * g' + j) ≠ none at q
      by_cases e3 : 40 * g' + j = 40 * g + j0
      · rw [e3, upN_s] at q; exact absurd rfl q
      · rw [upN_o e3] at q; exact w3 g' j hg' hj q
theorem ok_claim {g r ticks now : Nat} {c : CK} (h : okCK c) (hr : r < 4) (hnow : now ≤ 1000000) (hT : cT c = 4) : okCK (clC g r ticks now c) := by
  obtain ⟨g1, g2, g3, g4, g5, g6, g7, g8⟩ := ok_T h (by rw [hT]; decide)
  obtain ⟨w1, w2, w3⟩ := g8 hT
  refine Or.inr ⟨g1, fun q => absurd hT q, g3, g4, g5, g6, g7, fun _ => ⟨fun i s r' q => ?_, w2, fun g' j hg' hj q => ?_⟩⟩
  · change mvw (cW c) g r ticks now i = some (s, r') at q
    unfold mvw at q
    split at q
    · cases q; exact ⟨hr, hnow⟩
    · exact w1 i s r' q
  · change mvw (cW c) g r ticks now (40 * g' + j) ≠ none at q
    refine w3 g' j hg' hj (fun w => q ?_)
    unfold mvw
    rw [if_neg (fun z => by rw [w] at z; exact Bool.false_ne_true z.2.2)]
    exact w

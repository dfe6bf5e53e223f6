/-! the class alone: its picture J0, a rewriting J1 -/
abbrev CC : Type := Nat → CK
def LI (E : EL) (Mf idf : Nat → Nat) (now : Int32) (cc : CC) (lvi : Nat) : Prop := (∀ k, k < 16 → LIk E (Mf k) (idf k) now k (cc k)) ∧ ∀ e ∈ E, e.2 ≤ lvi ∧ isN (wY e.1) 16
theorem vup_s {f : Nat → VSt} {k : Nat} {v : VSt} : vup f k v k = v := if_pos rfl
theorem vup_o {f : Nat → VSt} {k : Nat} {v : VSt} {j : Nat} (h : j ≠ k) : vup f k v j = f j := if_neg h
def J0 (x : SSt) (t : Nat) (cc : CC) (ff : Nat → FK) (E : EL) (Mf idf : Nat → Nat) (lvi : Nat) : Prop :=
  t ≤ 1000000 ∧ sClk x = nI t ∧ isN (sLs x) 16 ∧ (∀ k, k < 16 → VR (sV x k) (cc k) (ff k) ∧ okCK (cc k) ∧ okF (ff k) ∧ lzC (cc k)) ∧ LogC (sLog x) E ∧ LI E Mf idf (nI t) cc lvi ∧ (∀ k, k < 16 → vlId (sV x k) = nI (idf k) ∧ idf k ≤ lvi) ∧ sLvi x = nI lvi
def J1 (x : SSt) (t : Nat) (cc : CC) (E : EL) (idf : Nat → Nat) (lvi : Nat) (g : Option (Nat × Nat)) : Prop := match g with
  | none => sKtw x = -1
  | some q => ∃ (F : EL) (M2 : Nat → Nat), sKtw x = nI q.1 ∧ q.1 ≤ 16 ∧ sRar x = nI q.2 ∧ q.2 ≤ E.length ∧ F.length ≤ q.2 ∧ LogC (sNew x) F ∧ LI (F ++ E.drop q.2) M2 idf (nI t) cc lvi
def JV (x : SSt) (t : Nat) (cc : CC) (ff : Nat → FK) (E : EL) (Mf idf : Nat → Nat) (lvi : Nat) (g : Option (Nat × Nat)) : Prop := J0 x t cc ff E Mf idf lvi ∧ J1 x t cc E idf lvi g
def JZ (x : SSt) (t : Nat) (cc : CC) (ff : Nat → FK) (n : Nat) (g : Option (Nat × Nat)) (lim : Nat) : Prop := ∃ (E : EL) (Mf idf : Nat → Nat) (lvi : Nat), E.length = n ∧ lvi ≤ lim ∧ JV x t cc ff E Mf idf lvi g
theorem JZ.mono {x : SSt} {t : Nat} {cc : CC} {ff : Nat → FK} {n : Nat} {g : Option (Nat × Nat)} {lim lim' : Nat} (h : JZ x t cc ff n g lim) (hl : lim ≤ lim') : JZ x t cc ff n g lim' := by
  obtain ⟨E, Mf, idf, lvi, h1, h2, h3⟩ := h
  exact ⟨E, Mf, idf, lvi, h1, by omega, h3⟩
theorem JZ.le300 {x : SSt} {t : Nat} {cc : CC} {ff : Nat → FK} {n : Nat} {g : Option (Nat × Nat)} {lim : Nat} (h : JZ x t cc ff n g lim) : n ≤ 300 := by
  obtain ⟨E, Mf, idf, lvi, h1, h2, ⟨-, -, -, -, h5, -⟩, -⟩ := h
  rw [← h1]; exact h5.2.1
theorem upN_id {α : Type} {f : Nat → α} {k : Nat} {v : α} (h : f k = v) : upN f k v = f := by
  funext j
  by_cases e : j = k
  · subst e; rw [upN_s, h]
  · exact upN_o e
theorem upN_me {α : Type} (f : Nat → α) (k : Nat) : upN f k (f k) = f := by
  funext j
  by_cases e : j = k
  · rw [e, upN_s]
  · rw [upN_o e]
theorem unf_foc (k : Nat) (x : SSt) : unf k x (foc k x) = x := by
  have : vup (sV x) k (sV x k) = sV x := by
    funext j
    by_cases e : j = k
    · rw [e, vup_s]
    · exact vup_o e
  show (sRar x, sKtw x, sClk x, sLs x, sLvi x, sLog x, sNew x, vup (sV x) k (sV x k)) = x
  rw [this]; rfl
/-- nothing was written -/
theorem j_none {x : SSt} {t : Nat} {cc : CC} {ff : Nat → FK} {E : EL} {Mf idf : Nat → Nat} {lvi k : Nat} {g : Option (Nat × Nat)} {y : FSt} (hk : k < 16) (h : JV x t cc ff E Mf idf lvi g) (hp : PerR (foc k x) y (cc k) (ff k) false) : JV (unf k x y) t cc ff E Mf idf lvi g := by
  obtain ⟨⟨p1, p2, p3, p4, p5, p6⟩, p7, p8, p9⟩ := hp
  obtain ⟨⟨h1, h2, h3, h4, h5, h6, h7, h8⟩, hr⟩ := h
  rw [if_neg (by decide)] at p8 p9
  have e1 : sRar (unf k x y) = sRar x := p1
  have e2 : sKtw (unf k x y) = sKtw x := p2
  have e3 : sClk (unf k x y) = sClk x := p3
  have e4 : sLs (unf k x y) = sLs x := p4
  have e5 : sLog (unf k x y) = sLog x := p5
  have e6 : sNew (unf k x y) = sNew x := p6
  have e7 : sLvi (unf k x y) = sLvi x := p9
  have e8 : sV (unf k x y) = vup (sV x) k (fV y) := rfl
  refine ⟨⟨h1, e3.trans h2, by rw [e4]; exact h3, fun j hj => ?_, by rw [e5]; exact h5, h6, fun j hj => ?_, e7.trans h8⟩, ?_⟩
  · obtain ⟨a1, a2⟩ := h4 j hj
    rw [e8]
    by_cases e : j = k
    · subst e; rw [vup_s]; exact ⟨p7, a2⟩
    · rw [vup_o e]; exact ⟨a1, a2⟩
  · rw [e8]
    by_cases e : j = k
    · subst e; rw [vup_s, p8]; exact h7 j hj
    · rw [vup_o e]; exact h7 j hj
  · cases g with
    | none => exact e2.trans hr
    | some q =>
      obtain ⟨F, M2, a1, a2, a3, a4, a5, a6, a7⟩ := hr
      exact ⟨F, M2, e2.trans a1, a2, e1.trans a3, a4, a5, by rw [e6]; exact a6, a7⟩
theorem LI.snoc {E : EL} {Mf idf : Nat → Nat} {t : Int32} {cc : CC} {lvi k : Nat} {r : RW} (hk : k < 16) (h : LI E Mf idf (wT r) cc lvi) (hc : okCK (cc k)) (hr : okR r (cc k)) (hy : wY r = nI k) (hid : idf k ≤ lvi) :
    LI (E ++ [(r, if mkB r (cc k) = true then lvi + 1 else idf k)]) (upN Mf k (if mkB r (cc k) = true then E.length else Mf k)) (upN idf k (if mkB r (cc k) = true then lvi + 1 else idf k)) (wT r) (upN cc k (opC r (cc k))) (if mkB r (cc k) = true then lvi + 1 else lvi) := by
  obtain ⟨h1, h2⟩ := h
  refine ⟨fun j hj => ?_, fun e he => ?_⟩
  · by_cases e : j = k
    · subst e
      rw [upN_s, upN_s, upN_s]
      exact (h1 j hj).snoc hc hr hy (fun e he => (h2 e he).1)
    · rw [upN_o e, upN_o e, upN_o e]
      refine (h1 j hj).oth (fun e' he' w => ?_)
      rcases List.mem_cons.mp he' with q | q
      · rw [q] at w
        have w2 : nI k = nI j := hy.symm.trans w
        exact e ((nI_eqE (by omega) (by omega)).mp w2).symm
      · cases q
  · rcases List.mem_append.mp he with q | q
    · obtain ⟨a1, a2⟩ := h2 e q
      refine ⟨?_, a2⟩
      split <;> omega
    · rcases List.mem_cons.mp q with q | q
      · rw [q]
        refine ⟨?_, hr.1⟩
        show (if mkB r (cc k) = true then lvi + 1 else idf k) ≤ _
        split <;> omega
      · cases q
/-- a row was written -/
theorem j_row {x : SSt} {t : Nat} {cc : CC} {ff : Nat → FK} {E : EL} {Mf idf : Nat → Nat} {lvi k : Nat} {g : Option (Nat × Nat)} {y : FSt} {lo : LSt} {r : RW} (hk : k < 16) (h : JV x t cc ff E Mf idf lvi g) (hr : okR r (cc k)) (hy : wY r = nI k) (ht : wT r = nI t)
    (hp : PerR (foc k x) y (opC r (cc k)) (opF r (cc k) (ff k)) (mkB r (cc k))) (hlo : LogC lo (E ++ [(r, if mkB r (cc k) = true then lvi + 1 else idf k)])) :
    ∃ Mf2, JV (unf k x (fLog_s y lo)) t (upN cc k (opC r (cc k))) (upN ff k (opF r (cc k) (ff k))) (E ++ [(r, if mkB r (cc k) = true then lvi + 1 else idf k)]) Mf2 (upN idf k (if mkB r (cc k) = true then lvi + 1 else idf k)) (if mkB r (cc k) = true then lvi + 1 else lvi) g := by
  obtain ⟨⟨p1, p2, p3, p4, p5, p6⟩, p7, p8, p9⟩ := hp
  obtain ⟨⟨h1, h2, h3, h4, h5, h6, h7, h8⟩, hrw⟩ := h
  have hidk : idf k ≤ lvi := (h7 k hk).2
  obtain ⟨b1, b3, b4, b5⟩ := h4 k hk
  have e1 : sRar (unf k x (fLog_s y lo)) = sRar x := p1
  have e2 : sKtw (unf k x (fLog_s y lo)) = sKtw x := p2
  have e3 : sClk (unf k x (fLog_s y lo)) = sClk x := p3
  have e4 : sLs (unf k x (fLog_s y lo)) = sLs x := p4
  have e5 : sLog (unf k x (fLog_s y lo)) = lo := rfl
  have e6 : sNew (unf k x (fLog_s y lo)) = sNew x := p6
  have e7 : sLvi (unf k x (fLog_s y lo)) = fLvi y := rfl
  have e8 : sV (unf k x (fLog_s y lo)) = vup (sV x) k (fV y) := rfl
  have hLI : LI E Mf idf (wT r) cc lvi := by rw [ht]; exact h6
  have hLI2 := hLI.snoc (t := nI t) hk b3 hr hy hidk
  rw [ht] at hLI2
  refine ⟨upN Mf k (if mkB r (cc k) = true then E.length else Mf k), ⟨h1, e3.trans h2, by rw [e4]; exact h3, fun j hj => ?_, by rw [e5]; exact hlo, hLI2, fun j hj => ?_, ?_⟩, ?_⟩
  · rw [e8]
    by_cases e : j = k
    · subst e; rw [vup_s, upN_s, upN_s]; exact ⟨p7, okCK_op b3 hr, okF_op b4 hr, lz_op b5 hr⟩
    · obtain ⟨a1, a2⟩ := h4 j hj
      rw [vup_o e, upN_o e, upN_o e]; exact ⟨a1, a2⟩
  · rw [e8]
    by_cases e : j = k
    · subst e
      rw [vup_s, upN_s, p8]
      obtain ⟨c1, c2⟩ := h7 j hj
      split
      · refine ⟨?_, Nat.le_refl _⟩
        show sLvi x + 1 = nI (lvi + 1)
        rw [h8, nI_1]
      · exact ⟨c1, c2⟩
    · rw [vup_o e, upN_o e]
      obtain ⟨c1, c2⟩ := h7 j hj
      refine ⟨c1, ?_⟩
      split <;> omega
  · rw [e7, p9]
    split
    · show sLvi x + 1 = nI (lvi + 1)
      rw [h8, nI_1]
    · exact h8
  · cases g with
    | none => exact e2.trans hrw
    | some q =>
      obtain ⟨F, M2, a1, a2, a3, a4, a5, a6, a7⟩ := hrw
      have hLI3 : LI (F ++ E.drop q.2) M2 idf (wT r) cc lvi := by rw [ht]; exact a7
      have hLI4 := hLI3.snoc (t := nI t) hk b3 hr hy hidk
      rw [ht] at hLI4
      refine ⟨F, upN M2 k (if mkB r (cc k) = true then (F ++ E.drop q.2).length else M2 k), e2.trans a1, a2, e1.trans a3, by rw [List.length_append]; omega, a5, by rw [e6]; exact a6, ?_⟩
      rw [List.drop_append_of_le_length a4, ← List.append_assoc]; exact hLI4

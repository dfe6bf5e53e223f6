/-! the class's log -/
def rowC (C : IA) (i : Nat) (e : RW × Nat) : Prop := C (7 * i) = kcl (wK e.1) ∧ C (7 * i + 1) = wY e.1 ∧ C (7 * i + 2) = fst1 e.1 ∧ C (7 * i + 3) = wB e.1 ∧ C (7 * i + 4) = wC e.1 ∧ C (7 * i + 5) = wT e.1 ∧ C (7 * i + 6) = nI e.2
def LogC (lo : LSt) (E : EL) : Prop := loN lo = nI E.length ∧ E.length ≤ 300 ∧ ∀ i (h : i < E.length), rowC (loC lo) i E[i]
theorem rowC_congr {C D : IA} {i : Nat} {e : RW × Nat} (h : rowC C i e) (g : ∀ q, 7 * i ≤ q → q < 7 * i + 7 → D q = C q) : rowC D i e := by
  obtain ⟨h0, h1, h2, h3, h4, h5, h6⟩ := h
  exact ⟨by rw [g _ (by omega) (by omega)]; exact h0, by rw [g _ (by omega) (by omega)]; exact h1, by rw [g _ (by omega) (by omega)]; exact h2, by rw [g _ (by omega) (by omega)]; exact h3, by rw [g _ (by omega) (by omega)]; exact h4, by rw [g _ (by omega) (by omega)]; exact h5, by rw [g _ (by omega) (by omega)]; exact h6⟩
theorem log_empty (lo : LSt) : ∃ y, fX3_makeEmpty lo = some y ∧ LogC y [] := ⟨_, rfl, rfl, by simp, fun i h => absurd h (Nat.not_lt_zero i)⟩
theorem log_cell {lo : LSt} {E : EL} (h : LogC lo E) {i j : Nat} (hi : i < E.length) (hj : j < 7) : fX3_cell lo (nI i) (nI j) = some (loC lo (7 * i + j)) := by
  obtain ⟨h1, h2, h3⟩ := h
  unfold fX3_cell
  have e : nI i * 7 + nI j = nI (7 * i + j) := by rw [d7, pk_mul, nI_add]; congr 1; omega
  rw [if_neg (nI_pos (by omega)), h1, if_neg (nI_ge hi (by omega)), e, inb_nI (by omega) (by omega), chk_r, nI_clamp (by omega)]
theorem log_stamp {lo : LSt} {E : EL} {C : IA} {i id : Nat} {r : RW} (hN : loN lo = nI E.length) (hC : loC lo = C) (h300 : E.length ≤ 300) (hi : i < E.length) (t : Int32) : ∃ y, fX3_stamp lo (nI i) t (nI id) = some y ∧ loN y = nI E.length ∧ loC y = upd (upd C (7 * i + 5) t) (7 * i + 6) (nI id) := by
  unfold fX3_stamp
  have e5 : nI i * 7 + 5 = nI (7 * i + 5) := by rw [d7, pk_mul, d5, nI_add]; congr 1; omega
  have e6 : nI i * 7 + 6 = nI (7 * i + 6) := by rw [d7, pk_mul, d6, nI_add]; congr 1; omega
  rw [if_neg (nI_pos (by omega)), hN, if_pos (nI_lt hi (by omega)), e5, e6, inb_nI (by omega) (by omega), chk_r, keep_r, inb_nI (by omega) (by omega), chk_r, keep_r, nI_clamp (by omega), nI_clamp (by omega)]
  exact ⟨_, rfl, hN, by rw [← hC]; rfl⟩
theorem log_add {lo : LSt} {E : EL} (h : LogC lo E) (hl : E.length < 300) (r : RW) (id : Nat) :
    ∃ a, fX3_addRow lo (kcl (wK r)) (wY r) (fst1 r) (wB r) (wC r) = some a ∧ ∃ b, fX3_stampLast a (wT r) (nI id) = some b ∧ LogC b (E ++ [(r, id)]) := by
  obtain ⟨h1, h2, h3⟩ := h
  obtain ⟨C, N⟩ := lo
  have h1' : N = nI E.length := h1
  subst h1'
  have e0 : nI E.length * 7 = nI (7 * E.length) := by rw [d7, pk_mul]; congr 1; omega
  have hlen : ∀ x : RW × Nat, (E ++ [x]).length = E.length + 1 := fun x => by rw [List.length_append]; rfl
  have ha : fX3_addRow (C, nI E.length) (kcl (wK r)) (wY r) (fst1 r) (wB r) (wC r) = some (upd (upd (upd (upd (upd C (7 * E.length) (kcl (wK r))) (7 * E.length + 1) (wY r)) (7 * E.length + 2) (fst1 r)) (7 * E.length + 3) (wB r)) (7 * E.length + 4) (wC r), nI (E.length + 1)) := by
    unfold fX3_addRow
    rw [show loN (C, nI E.length) = nI E.length from rfl, d300, if_pos (nI_lt hl (by omega)), keep_r, e0, show nI (7 * E.length) + 0 = nI (7 * E.length) from nI_add _ 0, show nI (7 * E.length) + 1 = nI (7 * E.length + 1) from nI_add _ 1, show nI (7 * E.length) + 2 = nI (7 * E.length + 2) from nI_add _ 2, show nI (7 * E.length) + 3 = nI (7 * E.length + 3) from nI_add _ 3, show nI (7 * E.length) + 4 = nI (7 * E.length + 4) from nI_add _ 4]
    rw [inb_nI (show 7 * E.length < 2100 by omega) (by omega), inb_nI (show 7 * E.length + 1 < 2100 by omega) (by omega), inb_nI (show 7 * E.length + 2 < 2100 by omega) (by omega), inb_nI (show 7 * E.length + 3 < 2100 by omega) (by omega), inb_nI (show 7 * E.length + 4 < 2100 by omega) (by omega), nI_clamp (show 7 * E.length < 2 ^ 31 by omega), nI_clamp (show 7 * E.length + 1 < 2 ^ 31 by omega), nI_clamp (show 7 * E.length + 2 < 2 ^ 31 by omega), nI_clamp (show 7 * E.length + 3 < 2 ^ 31 by omega), nI_clamp (show 7 * E.length + 4 < 2 ^ 31 by omega)]
    simp only [chk_r, keep_r, loC_s, loN_s, loC, loN]
    rw [nI_1]
  refine ⟨_, ha, ?_⟩
  unfold fX3_stampLast
  rw [show loN (upd (upd (upd (upd (upd C (7 * E.length) (kcl (wK r))) (7 * E.length + 1) (wY r)) (7 * E.length + 2) (fst1 r)) (7 * E.length + 3) (wB r)) (7 * E.length + 4) (wC r), nI (E.length + 1)) = nI (E.length + 1) from rfl, nI_pred]
  obtain ⟨y, y1, y2, y3⟩ := log_stamp (E := E ++ [(r, id)]) (lo := (upd (upd (upd (upd (upd C (7 * E.length) (kcl (wK r))) (7 * E.length + 1) (wY r)) (7 * E.length + 2) (fst1 r)) (7 * E.length + 3) (wB r)) (7 * E.length + 4) (wC r), nI (E.length + 1))) (r := r) (id := id) (i := E.length) (by rw [hlen]; rfl) rfl (by rw [hlen]; omega) (by rw [hlen]; omega) (wT r)
  rw [y1, Option.bind_some, keep_r]
  refine ⟨y, rfl, y2, by rw [hlen]; omega, fun i hi => ?_⟩
  rw [hlen] at hi
  rw [y3]
  by_cases e : i < E.length
  · rw [List.getElem_append_left e]
    refine rowC_congr (h3 i e) (fun q q1 q2 => ?_)
    rw [upd_o (by omega), upd_o (by omega)]
    show upd (upd (upd (upd (upd C (7 * E.length) (kcl (wK r))) (7 * E.length + 1) (wY r)) (7 * E.length + 2) (fst1 r)) (7 * E.length + 3) (wB r)) (7 * E.length + 4) (wC r) q = C q
    rw [upd_o (by omega), upd_o (by omega), upd_o (by omega), upd_o (by omega), upd_o (by omega)]
  · have : i = E.length := by omega
    subst this
    have eg : (E ++ [(r, id)])[E.length]'(by rw [hlen]; omega) = (r, id) := by simp
    rw [eg]
    simp only [rowC, loC, upd_a]
    refine ⟨?_, ?_, ?_, ?_, ?_, ?_, ?_⟩ <;> simp
theorem log_copy {n lo : LSt} {F E : EL} (hF : LogC n F) (hE : LogC lo E) {i m : Nat} (hi : i + m ≤ E.length) (hl : F.length + m ≤ 300) :
    ∃ y, fX3_copyRows (n, lo) (nI i) (nI m) = some (y, lo) ∧ LogC y (F ++ (E.drop i).take m) := by
  obtain ⟨f1, f2, f3⟩ := hF
  obtain ⟨g1, g2, g3⟩ := hE
  have hlen : (F ++ (E.drop i).take m).length = F.length + m := by rw [List.length_append, List.length_take, List.length_drop]; omega
  unfold fX3_copyRows
  have e7 : ∀ a : Nat, nI a * 7 = nI (7 * a) := fun a => by rw [d7, pk_mul]; congr 1; omega
  rw [show loN (l2B (n, lo)) = nI E.length from g1, show loN (l2A (n, lo)) = nI F.length from f1, if_neg (nI_pos (by omega)), if_neg (nI_pos (by omega)), pk_sub (show i ≤ E.length by omega), if_neg (nI_nlt (by omega) (by omega)), d300, pk_sub (show F.length ≤ 300 by omega), if_pos (nI_le (by omega) (by omega)), e7, e7, e7, cpyok_nI (by omega) (by omega) (by omega) (by omega), chk_r, keep_r, keep_r, nI_clamp (by omega), nI_clamp (by omega), nI_clamp (by omega)]
  refine ⟨(va_cpy (loC lo) (loC n) (7 * i) (7 * F.length) (7 * m), nI (F.length + m)), ?_, by rw [hlen]; rfl, by rw [hlen]; exact hl, fun j hj => ?_⟩
  · show some (((va_cpy (loC lo) (loC n) (7 * i) (7 * F.length) (7 * m), loN n + nI m), lo) : L2St) = _
    rw [f1, nI_add]
  · rw [hlen] at hj
    show rowC (va_cpy (loC lo) (loC n) (7 * i) (7 * F.length) (7 * m)) j _
    by_cases e : j < F.length
    · rw [List.getElem_append_left e]
      exact rowC_congr (f3 j e) (fun q q1 q2 => by rw [cpy_a, if_neg (by omega)])
    · rw [List.getElem_append_right (by omega), List.getElem_take, List.getElem_drop]
      obtain ⟨h0, h1, h2, h3, h4, h5, h6⟩ := g3 (i + (j - F.length)) (by omega)
      have cp : ∀ q, q < 7 → va_cpy (loC lo) (loC n) (7 * i) (7 * F.length) (7 * m) (7 * j + q) = loC lo (7 * (i + (j - F.length)) + q) := fun q hq => by
        rw [cpy_a, if_pos (by omega)]; congr 1; omega
      exact ⟨(cp 0 (by omega)).trans h0, (cp 1 (by omega)).trans h1, (cp 2 (by omega)).trans h2, (cp 3 (by omega)).trans h3, (cp 4 (by omega)).trans h4, (cp 5 (by omega)).trans h5, (cp 6 (by omega)).trans h6⟩
-- rows of all keys together
def cntLt (j : Nat) (E : EL) : Nat := E.countP (fun e => decide (∃ i, i < j ∧ wY e.1 = nI i))
theorem cntLt_s {j : Nat} (hj : j < 16) : ∀ (E : EL), cntLt (j + 1) E = cntLt j E + cntK j E := by
  intro E
  induction E with
  | nil => rfl
  | cons e t ih =>
    unfold cntLt cntK at ih ⊢
    rw [List.countP_cons, List.countP_cons, List.countP_cons, ih]
    by_cases e1 : wY e.1 = nI j
    · have n1 : ¬ ∃ i, i < j ∧ wY e.1 = nI i := fun ⟨i, q1, q2⟩ => by
        rw [e1] at q2
        have := (nI_eqE (by omega) (by omega)).mp q2
        omega
      rw [if_pos (decide_eq_true ⟨j, by omega, e1⟩), if_neg (by rw [decide_eq_false n1]; decide), if_pos (decide_eq_true e1)]
      omega
    · by_cases e2 : ∃ i, i < j ∧ wY e.1 = nI i
      · obtain ⟨i, q1, q2⟩ := e2
        rw [if_pos (decide_eq_true ⟨i, by omega, q2⟩), if_pos (decide_eq_true ⟨i, q1, q2⟩), if_neg (by rw [decide_eq_false e1]; decide)]
        omega
      · have n1 : ¬ ∃ i, i < j + 1 ∧ wY e.1 = nI i := fun ⟨i, q1, q2⟩ => by
          by_cases e3 : i = j
          · subst e3; exact e1 q2
          · exact e2 ⟨i, by omega, q2⟩
        rw [if_neg (by rw [decide_eq_false n1]; decide), if_neg (by rw [decide_eq_false e2]; decide), if_neg (by rw [decide_eq_false e1]; decide)]
        omega
theorem cntLt_le {j : Nat} {E : EL} : cntLt j E ≤ E.length := List.countP_le_length
theorem cntLt_0 {E : EL} : cntLt 0 E = 0 := List.countP_eq_zero.mpr (fun e _ q => by
  obtain ⟨i, q1, -⟩ := of_decide_eq_true q
  exact absurd q1 (Nat.not_lt_zero i))

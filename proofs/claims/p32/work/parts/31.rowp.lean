/-! rows as lists -/
abbrev LL : Type := List (Int32 × Int32)
def vat (L : LL) (p : Int32) : Int32 := if p < 0 then -1 else match L[p.toNatClampNeg]? with
  | some q => q.1
  | none => -1
def bat (L : LL) (p : Int32) : Int32 := if p < 0 then 0 else match L[p.toNatClampNeg]? with
  | some q => q.2
  | none => 0
def fi (L : LL) (v : Int32) : Nat := L.findIdx (fun q => decide (q.1 = v))
def plc (L : LL) (v : Int32) : Int32 := if fi L v < L.length then nI (fi L v) else -1
def ris (b : Int32) : Int32 := if 0 ≤ b then b else b ^^^ 2147483647
def ahd (a b : Int32 × Int32) : Bool := decide (ris a.2 < ris b.2) || (decide (ris a.2 = ris b.2) && decide (a.1 < b.1))
def rnk (L : LL) (a : Int32 × Int32) : Nat := L.findIdx (fun q => !ahd q a)
theorem vat_nI {L : LL} {i : Nat} (h : i < L.length) (hL : L.length < 2 ^ 31) : vat L (nI i) = L[i].1 := by
  unfold vat
  rw [if_neg (nI_pos (by omega)), nI_clamp (by omega), List.getElem?_eq_getElem h]
theorem vat_out {L : LL} {i : Nat} (h : L.length ≤ i) (hi : i < 2 ^ 31) : vat L (nI i) = -1 := by
  unfold vat
  rw [if_neg (nI_pos (by omega)), nI_clamp (by omega), List.getElem?_eq_none h]
theorem vat_neg {L : LL} {p : Int32} (h : p < 0) : vat L p = -1 := if_pos h
theorem bat_nI {L : LL} {i : Nat} (h : i < L.length) (hL : L.length < 2 ^ 31) : bat L (nI i) = L[i].2 := by
  unfold bat
  rw [if_neg (nI_pos (by omega)), nI_clamp (by omega), List.getElem?_eq_getElem h]
theorem bat_out {L : LL} {i : Nat} (h : L.length ≤ i) (hi : i < 2 ^ 31) : bat L (nI i) = 0 := by
  unfold bat
  rw [if_neg (nI_pos (by omega)), nI_clamp (by omega), List.getElem?_eq_none h]
theorem bat_neg {L : LL} {p : Int32} (h : p < 0) : bat L p = 0 := if_pos h
def RowR (n : Nat) (x : RSt) (L : LL) : Prop := rwN x = nI L.length ∧ L.length ≤ n ∧ n < 100 ∧ ∀ i, i < L.length → L[i]? = some (rwE x i, rwP x i)
theorem RowR.e {n : Nat} {x : RSt} {L : LL} (h : RowR n x L) {i : Nat} (hi : i < L.length) : rwE x i = L[i].1 ∧ rwP x i = L[i].2 := by
  have := h.2.2.2 i hi
  rw [List.getElem?_eq_getElem hi] at this
  have h2 := Option.some.inj this
  rw [h2]; exact ⟨rfl, rfl⟩
theorem row_valueAt {n : Nat} {x : RSt} {L : LL} (h : RowR n x L) (p : Int32) : fX4_valueAt n x p = some (vat L p) := by
  obtain ⟨h1, h2, h3, -⟩ := id h
  unfold fX4_valueAt
  by_cases hp : p < 0
  · rw [if_pos hp, vat_neg hp]
  · obtain ⟨j, hj, rfl⟩ := nI_of hp
    rw [if_neg hp, h1]
    by_cases hl : j < L.length
    · rw [if_neg (nI_ge hl (by omega)), vat_nI hl (by omega), inb_nI (by omega) (by omega), chk_r, nI_clamp hj, (h.e hl).1]
    · rw [if_pos (nI_le (by omega) hj), vat_out (by omega) hj]
theorem row_bitsAt {n : Nat} {x : RSt} {L : LL} (h : RowR n x L) (p : Int32) : fX4_bitsAt n x p = some (bat L p) := by
  obtain ⟨h1, h2, h3, -⟩ := id h
  unfold fX4_bitsAt
  by_cases hp : p < 0
  · rw [if_pos hp, bat_neg hp]
  · obtain ⟨j, hj, rfl⟩ := nI_of hp
    rw [if_neg hp, h1]
    by_cases hl : j < L.length
    · rw [if_neg (nI_ge hl (by omega)), bat_nI hl (by omega), inb_nI (by omega) (by omega), chk_r, nI_clamp hj, (h.e hl).2]
    · rw [if_pos (nI_le (by omega) hj), bat_out (by omega) hj]
theorem row_empty {n : Nat} (x : RSt) (hn : n < 100) : ∃ y, fX4_makeEmpty n x = some y ∧ RowR n y [] :=
  ⟨rwN_s x 0, rfl, rfl, Nat.zero_le _, hn, fun i hi => absurd hi (Nat.not_lt_zero i)⟩
/-- the first place where p holds -/
theorem fi_at {p : Int32 × Int32 → Bool} {L : LL} {i : Nat} (h : i < L.length) (hp : p L[i] = true) (hb : ∀ j (hj : j < L.length), j < i → p L[j] = false) : L.findIdx p = i := (List.findIdx_eq h).mpr ⟨hp, fun j hj => hb j (by omega) hj⟩
theorem fi_none {p : Int32 × Int32 → Bool} {L : LL} (hb : ∀ j (hj : j < L.length), p L[j] = false) : L.findIdx p = L.length := List.findIdx_eq_length.mpr (fun x hx => by
  obtain ⟨j, hj, rfl⟩ := List.mem_iff_getElem.mp hx
  exact hb j hj)
theorem row_placeOf {n : Nat} {x : RSt} {L : LL} (h : RowR n x L) (v : Int32) : fX4_placeOf n x v = some (plc L v) := by
  obtain ⟨h1, h2, h3, -⟩ := id h
  apply ok_is
  unfold fX4_placeOf
  refine ok_iter (fun m s => ∃ i, m = L.length - i ∧ i ≤ L.length ∧ s = nI i ∧ ∀ j (hj : j < L.length), j < i → decide (L[j].1 = v) = false) _ ?_ FU L.length 0 ⟨0, by omega, by omega, rfl, fun j _ h => by omega⟩ (by unfold FU; omega)
  rintro m s rec ⟨i, hm, hi, rfl, hb⟩ hrec
  unfold fX4_placeOf_2
  rw [h1]
  simp (disch := omega) only [ok_if, ok_chk, ok_keep, ok_some, nI_leE, nI_clamp, nI_1]
  refine ⟨fun hle => ?_, fun hlt => ⟨inb_nI (by omega) (by omega), fun he => ?_, fun he => ?_⟩⟩
  · unfold plc fi
    rw [fi_none (fun j hj => hb j hj (by omega)), if_neg (by omega)]
  · rw [(h.e (by omega : i < L.length)).1] at he
    unfold plc fi
    rw [fi_at (by omega) (decide_eq_true he) hb, if_pos (by omega)]
  · rw [(h.e (by omega : i < L.length)).1] at he
    refine hrec (L.length - (i + 1)) _ (by omega) ⟨i + 1, rfl, by omega, rfl, fun j hj hji => ?_⟩
    by_cases e : j = i
    · subst e; exact decide_eq_false he
    · exact hb j hj (by omega)
theorem cmp_eq (a b : Int32) : fJ6_compare_7cf53 a b = some (if b < a then 1 else if a = b then 0 else -1) := by
  unfold fJ6_compare_7cf53
  by_cases h : b ≤ a
  · rw [if_pos h]
    by_cases e : a = b
    · rw [if_pos e, if_neg (by rw [e]; exact ilt_irr _), if_pos e]
    · rw [if_neg e, if_pos (by
        rw [Int32.lt_iff_toInt_lt]
        rw [Int32.le_iff_toInt_le] at h
        have : b.toInt ≠ a.toInt := fun q => e (Int32.toInt_inj.mp q).symm
        omega)]
  · rw [if_neg h, if_neg (fun q => h (Int32.le_of_lt q)), if_neg (fun q => h (by rw [q]; exact Int32.le_refl _))]
theorem ord_eq (b : Int32) : fX4_orderOf b = some (ris b) := by
  unfold fX4_orderOf ris
  split <;> rfl
theorem row_countAhead {n : Nat} {x : RSt} {L : LL} (h : RowR n x L) (v b : Int32) : fX4_countAhead n x v b = some (nI (rnk L (v, b))) := by
  obtain ⟨h1, h2, h3, -⟩ := id h
  apply ok_is
  unfold fX4_countAhead
  rw [ord_eq, Option.bind_some]
  refine ok_iter (fun m s => ∃ i, m = L.length - i ∧ i ≤ L.length ∧ s = nI i ∧ ∀ j (hj : j < L.length), j < i → (!ahd L[j] (v, b)) = false) _ ?_ FU L.length 0 ⟨0, by omega, by omega, rfl, fun j _ h => by omega⟩ (by unfold FU; omega)
  rintro m s rec ⟨i, hm, hi, rfl, hb⟩ hrec
  unfold fX4_countAhead_8
  rw [h1]
  simp (disch := omega) only [ok_if, ok_chk, ok_keep, ok_some, ok_bind, nI_leE, nI_clamp, nI_1, ord_eq, cmp_eq]
  refine ⟨fun hle => ?_, fun hlt => ?_⟩
  · unfold rnk
    rw [fi_none (fun j hj => hb j hj (by omega))]
  have hl : i < L.length := by omega
  have hin : inb (nI i) n = true := inb_nI (by omega) (by omega)
  rw [(h.e hl).1, (h.e hl).2]
  have nxt : ahd L[i] (v, b) = true → Ok (rec (nI (i + 1))) (fun u => u = nI (rnk L (v, b))) := fun ha => by
    refine hrec (L.length - (i + 1)) _ (by omega) ⟨i + 1, rfl, by omega, rfl, fun j hj hji => ?_⟩
    by_cases e : j = i
    · subst e; rw [ha]; rfl
    · exact hb j hj (by omega)
  have stp : ahd L[i] (v, b) = false → nI i = nI (rnk L (v, b)) := fun ha => by
    unfold rnk
    rw [fi_at hl (by rw [ha]; rfl) hb]
  refine ⟨hin, ?_⟩
  have c0 : ¬ (0 : Int32) < 0 := by decide
  have c1 : (0 : Int32) < 1 := by decide
  have c2 : ¬ (0 : Int32) < -1 := by decide
  have c3 : ¬ (-1 : Int32) = 0 := by decide
  by_cases g1 : ris b < ris L[i].2
  · rw [if_pos g1]
    refine ⟨fun _ => stp ?_, fun q => absurd c1 q⟩
    unfold ahd
    have : ¬ ris L[i].2 < ris b := fun q => ilt_irr _ (Int32.lt_trans q g1)
    have g3 : ¬ ris L[i].2 = ris b := fun q => by rw [q] at g1; exact ilt_irr _ g1
    simp [this, g3]
  · rw [if_neg g1]
    by_cases g2 : ris L[i].2 = ris b
    · rw [if_pos g2]
      refine ⟨fun q => absurd q c0, fun _ => ⟨fun _ => ⟨hin, fun q => nxt ?_, fun q => stp ?_⟩, fun q => absurd rfl q⟩⟩
      · unfold ahd; simp [g2, q]
      · unfold ahd; simp [g2, q, ilt_irr]
    · rw [if_neg g2]
      refine ⟨fun q => absurd q c2, fun _ => ⟨fun q => absurd q c3, fun _ => nxt ?_⟩⟩
      unfold ahd
      have : ris L[i].2 < ris b := by
        rw [Int32.lt_iff_toInt_lt] at g1 ⊢
        have : (ris L[i].2).toInt ≠ (ris b).toInt := fun q => g2 (Int32.toInt_inj.mp q)
        omega
      simp [this]
theorem row_putIn {n : Nat} {x : RSt} {L : LL} (h : RowR n x L) {i : Nat} (hi : i ≤ L.length) (hl : L.length < n) (v b : Int32) : ∃ y, fX4_putIn n x (nI i) v b = some y ∧ RowR n y (L.insertIdx i (v, b)) := by
  obtain ⟨h1, h2, h3, h4⟩ := id h
  have hc : cpyok (nI i) (nI (i + 1)) (nI (L.length - i)) n n = true := cpyok_nI (by omega) (by omega) (by omega) (by omega)
  have hb : inb (nI i) n = true := inb_nI (by omega) (by omega)
  have hE : ∀ V, rwN (rwE_s x V) = nI L.length := fun _ => h1
  unfold fX4_putIn
  rw [h1, if_neg (nI_pos (by omega)), if_neg (nI_nlt hi (by omega)), if_pos (nI_lt hl (by omega)), nI_1, pk_sub hi, hc]
  simp only [chk_r, keep_r, hb, hE, pk_sub hi, hc]
  refine ⟨_, rfl, ?_, ?_, h3, ?_⟩
  · rw [List.length_insertIdx, if_pos hi]
    show rwN x + 1 = _
    rw [h1]; exact nI_1 _
  · rw [List.length_insertIdx, if_pos hi]; omega
  · intro j hj
    rw [List.length_insertIdx, if_pos hi] at hj
    simp (disch := omega) only [rwE, rwP, rwE_s, rwP_s, rwN_s, nI_clamp, List.getElem?_insertIdx, upd_a, cpy_a]
    by_cases a1 : j < i
    · rw [if_pos a1, h4 j (by omega)]
      simp only [if_neg (show ¬ j = i by omega), if_neg (show ¬ (i + 1 ≤ j ∧ j < i + 1 + (L.length - i)) by omega)]
      rfl
    · by_cases a2 : j = i
      · subst a2
        simp [hi]
      · rw [if_neg a1, if_neg a2, h4 (j - 1) (by omega)]
        simp only [if_neg a2, if_pos (show (i + 1 ≤ j ∧ j < i + 1 + (L.length - i)) by omega), show i + (j - (i + 1)) = j - 1 by omega]
        rfl
theorem row_dropOut {n : Nat} {x : RSt} {L : LL} (h : RowR n x L) {i : Nat} (hi : i < L.length) (v : Int32) : ∃ y, fX4_dropOut n x (nI i) v = some y ∧ RowR n y (L.eraseIdx i) := by
  obtain ⟨h1, h2, h3, h4⟩ := id h
  have hc : cpyok (nI (i + 1)) (nI i) (nI (L.length - 1 - i)) n n = true := cpyok_nI (by omega) (by omega) (by omega) (by omega)
  have hE : ∀ V, rwN (rwE_s x V) = rwN x := fun _ => rfl
  have hN : ∀ V, rwN (rwN_s x V) = V := fun _ => rfl
  have hNE : ∀ V W, rwN (rwE_s (rwN_s x W) V) = W := fun _ _ => rfl
  unfold fX4_dropOut
  rw [h1, if_neg (nI_pos (by omega)), if_pos (nI_lt hi (by omega)), nI_1, nI_s1 (by omega)]
  simp only [keep_r, hN, hNE]
  rw [pk_sub (by omega), hc]
  simp only [chk_r, keep_r, hNE]
  have hlen : (L.eraseIdx i).length = L.length - 1 := by rw [List.length_eraseIdx, if_pos hi]
  refine ⟨_, rfl, ?_, ?_, h3, ?_⟩
  · rw [hlen]; rfl
  · rw [hlen]; omega
  · intro j hj
    rw [hlen] at hj
    simp (disch := omega) only [rwE, rwP, rwE_s, rwP_s, rwN_s, nI_clamp, List.getElem?_eraseIdx, cpy_a]
    by_cases a1 : j < i
    · rw [if_pos a1, h4 j (by omega)]
      simp only [if_neg (show ¬ (i ≤ j ∧ j < i + (L.length - 1 - i)) by omega)]
      rfl
    · rw [if_neg a1, h4 (j + 1) (by omega)]
      simp only [if_pos (show (i ≤ j ∧ j < i + (L.length - 1 - i)) by omega), show i + 1 + (j - i) = j + 1 by omega]
      rfl
theorem row_dropNeg {n : Nat} (x : RSt) (v : Int32) : fX4_dropOut n x (-1) v = some x := by
  unfold fX4_dropOut
  rw [if_pos (by decide)]

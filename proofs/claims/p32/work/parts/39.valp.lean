/-! values -/
theorem sel_1 {α : Type} {a b c : Option α} : sel 1 a b c = a := rfl
theorem sel_4 {α : Type} {a b c : Option α} : sel 4 a b c = b := rfl
theorem sel_8 {α : Type} {a b c : Option α} : sel 8 a b c = c := rfl
theorem isF_1 : isF 1 = true := rfl
theorem isF_4 : isF 4 = true := rfl
theorem isF_8 : isF 8 = true := rfl
theorem isB_b2i (b : Bool) : isB (b2i b) = true := by cases b <;> rfl
theorem b2i_0 {b : Bool} : b2i b = 0 ↔ b = false := by cases b <;> decide
theorem val_isThere {v : VSt} {c : CK} {f : FK} (h : VR v c f) (now : Int32) : fX6_isThere v now = some (b2i (thC c now)) := by
  obtain ⟨-, -, h3, h4⟩ := h
  unfold fX6_isThere thC
  by_cases h0 : cT c = 0
  · rw [if_pos (h3.mp h0), decide_eq_false (by rw [h0]; exact fun q => q rfl)]; rfl
  · obtain ⟨h5, -⟩ := h4 h0
    rw [if_neg (fun q => h0 (h3.mpr q)), h5, decide_eq_true h0]
    by_cases h6 : cE c = -1
    · rw [if_pos h6, decide_eq_true h6]; rfl
    · rw [if_neg h6, decide_eq_false h6]
      by_cases h7 : cE c ≤ now
      · rw [if_pos h7, decide_eq_false (fun q => absurd h7 (i32_nle.mpr q))]; rfl
      · rw [if_neg h7, decide_eq_true (i32_nle.mp h7)]; rfl
theorem val_count {v : VSt} {t : Int32} {L : LL} {f : FK} (h : VL v t L f) : fX6_count v = some (nI L.length) := by
  unfold fX6_count
  rw [h.2.1.1]
theorem val_make (v : VSt) {t : Int32} (ht : t ≠ 0) (id : Int32) : ∃ y, fX6_make v t id = some y ∧ VR y (c00 t) (1, 4) ∧ vlId y = id := by
  unfold fX6_make
  simp only [keep_r]
  obtain ⟨s, hs, hs2⟩ := row_empty (n := 16) (vlSm v) (by omega)
  obtain ⟨p, hp, hp2⟩ := row_empty (n := 40) (vlPl v) (by omega)
  obtain ⟨g, hg, hg2⟩ := grp_empty (vlGr v)
  obtain ⟨he, ty, en, id0, fm, sm, ch, tb, pl, gr⟩ := v
  simp only [vlHeld_s, vlTyp_s, vlEnd_s, vlId_s, vlFm_s, vlSm_s, vlPl_s, vlGr_s, vlSm, vlPl, vlGr] at *
  rw [hs, Option.bind_some, hp, Option.bind_some, hg, Option.bind_some]
  refine ⟨_, rfl, ⟨Or.inl rfl, Or.inr rfl, ⟨fun q => absurd q ht, fun q => absurd (show (1 : Int32) = 0 from q) (by decide)⟩, fun _ => ⟨rfl, ⟨rfl, hp2, Or.inl ⟨rfl, rfl, hs2, Nat.zero_le _, rfl⟩⟩, fun _ => hg2⟩⟩, rfl⟩
def VS (v y : VSt) : Prop := vlHeld y = vlHeld v ∧ vlEnd y = vlEnd v ∧ vlId y = vlId v ∧ vlGr y = vlGr v
theorem take_ins {L : LL} {i : Nat} (hi : i < L.length) : (L.take i).insertIdx i L[i] = L.take (i + 1) := by
  have h := ins_app (a := L[i]) (l2 := []) (L.take i)
  rw [List.append_nil, List.length_take, Nat.min_eq_left (by omega)] at h
  rw [h, List.take_succ_eq_append_getElem hi]
theorem asc_sins {L : LL} (h : AscL L) {i : Nat} (hi : i < L.length) : sins (L.take i) L[i].1 = L.take (i + 1) ∧ ∀ q ∈ L.take i, q.1 ≠ L[i].1 := by
  have hlt : ∀ q ∈ L.take i, q.1 < L[i].1 := fun q hq => by
    obtain ⟨j, hj, rfl⟩ := List.mem_iff_getElem.mp hq
    rw [List.length_take] at hj
    rw [List.getElem_take]
    exact List.pairwise_iff_getElem.mp h.2 j i (by omega) hi (by omega)
  refine ⟨?_, fun q hq e => by have := hlt q hq; rw [e] at this; exact ilt_irr _ this⟩
  unfold sins
  rw [List.filter_eq_self.mpr (fun q hq => decide_eq_true (hlt q hq)), List.filter_eq_nil_iff.mpr (fun q hq => by rw [decide_eq_true (hlt q hq)]; exact Bool.false_ne_true), List.take_succ_eq_append_getElem hi]
  have := (h.1 L[i] (List.getElem_mem hi)).2
  rw [show ((L[i].1, (0 : Int32)) : Int32 × Int32) = L[i] from by rw [← this]]
theorem val_becomeBig {v : VSt} {t : Int32} {L : LL} (ht : vlTyp v = t) (hs : RowR 16 (vlSm v) L) (h2 : t = 2 → AscL L ∧ L.length ≤ 8) : ∃ y, fX6_becomeBig v = some y ∧ VS v y ∧ vlTyp y = t ∧ vlPl y = vlPl v ∧ (t ≠ 2 → vlFm y = 4 ∧ ChnR (vlCh y) L) ∧ (t = 2 → vlFm y = 8 ∧ TabR (vlTb y) L 4) := by
  obtain ⟨hs1, hs2, -, -⟩ := id hs
  unfold fX6_becomeBig
  by_cases e : t = 2
  · rw [ht, if_pos e, keep_r]
    have fS : ∀ q, vlSm (vlTb_s (vlFm_s v 8) q) = vlSm v := fun _ => rfl
    have fF : ∀ q, vlFm (vlTb_s (vlFm_s v 8) q) = 8 := fun _ => rfl
    have fT : ∀ q, vlTb (vlTb_s (vlFm_s v 8) q) = q := fun _ => rfl
    have fU : ∀ q r, vlTb_s (vlTb_s (vlFm_s v 8) q) r = vlTb_s (vlFm_s v 8) r := fun _ _ => rfl
    obtain ⟨tb1, ht1, ht2⟩ := tab_empty (vlTb (vlFm_s v 8))
    show Ok _ _
    rw [show vlFm (vlFm_s v 8) = 8 from rfl, sel_8, ht1, Option.bind_some, keep_r]
    refine ok_iter (fun m s => ∃ i tb', m = L.length - i ∧ i ≤ L.length ∧ s = (vlTb_s (vlFm_s v 8) tb', nI i) ∧ TabR tb' (L.take i) 4) _ ?_ FU L.length _ ⟨0, tb1, rfl, by omega, rfl, ht2⟩ (by unfold FU; omega)
    rintro m s rec ⟨i, tb', hm, hi, rfl, hR⟩ hrec
    unfold fX6_becomeBig_32
    dsimp only
    rw [fS, hs1, fF, fT]
    simp only [fU, sel_8, sel_4]
    simp (disch := omega) only [ok_if, ok_keep, ok_some, nI_leE, nI_1]
    refine ⟨fun q => ?_, fun q => ?_⟩
    · have : i = L.length := by omega
      subst this
      rw [List.take_length] at hR
      exact ⟨⟨rfl, rfl, rfl, rfl⟩, ht, rfl, fun w => absurd e w, fun _ => ⟨rfl, hR⟩⟩
    · have hl : i < L.length := by omega
      obtain ⟨ha, h8⟩ := h2 e
      have hv := ha.1 L[i] (List.getElem_mem hl)
      obtain ⟨a1, a2⟩ := asc_sins ha hl
      rw [row_valueAt hs, Option.bind_some, row_bitsAt hs, Option.bind_some, vat_nI hl (by omega), bat_nI hl (by omega)]
      obtain ⟨y, hy, hy2⟩ := tab_putIn hR hv.1 a2 (by rw [List.length_take]; omega) L[i].2 (nI i)
      rw [hy, Option.bind_some]
      refine hrec (L.length - (i + 1)) _ (by omega) ⟨i + 1, y, rfl, by omega, rfl, ?_⟩
      rw [a1] at hy2
      rw [show bup (L.take i) 4 = 4 from by
        unfold bup
        rw [List.length_take, if_neg (by have : (2 : Nat) ^ 4 = 16 := by decide
                                         omega)]] at hy2
      exact hy2
  · rw [ht, if_neg e, keep_r]
    have fS : ∀ q, vlSm (vlCh_s (vlFm_s v 4) q) = vlSm v := fun _ => rfl
    have fF : ∀ q, vlFm (vlCh_s (vlFm_s v 4) q) = 4 := fun _ => rfl
    have fT : ∀ q, vlCh (vlCh_s (vlFm_s v 4) q) = q := fun _ => rfl
    have fU : ∀ q r, vlCh_s (vlCh_s (vlFm_s v 4) q) r = vlCh_s (vlFm_s v 4) r := fun _ _ => rfl
    obtain ⟨tb1, ht1, ht2⟩ := chn_empty (vlCh (vlFm_s v 4))
    show Ok _ _
    rw [show vlFm (vlFm_s v 4) = 4 from rfl, sel_4, ht1, Option.bind_some, keep_r]
    refine ok_iter (fun m s => ∃ i tb', m = L.length - i ∧ i ≤ L.length ∧ s = (vlCh_s (vlFm_s v 4) tb', nI i) ∧ ChnR tb' (L.take i)) _ ?_ FU L.length _ ⟨0, tb1, rfl, by omega, rfl, ht2⟩ (by unfold FU; omega)
    rintro m s rec ⟨i, tb', hm, hi, rfl, hR⟩ hrec
    unfold fX6_becomeBig_32
    dsimp only
    rw [fS, hs1, fF, fT]
    simp only [fU, sel_8, sel_4]
    simp (disch := omega) only [ok_if, ok_keep, ok_some, nI_leE, nI_1]
    refine ⟨fun q => ?_, fun q => ?_⟩
    · have : i = L.length := by omega
      subst this
      rw [List.take_length] at hR
      exact ⟨⟨rfl, rfl, rfl, rfl⟩, ht, rfl, fun _ => ⟨rfl, hR⟩, fun w => absurd w e⟩
    · have hl : i < L.length := by omega
      rw [row_valueAt hs, Option.bind_some, row_bitsAt hs, Option.bind_some, vat_nI hl (by omega), bat_nI hl (by omega)]
      obtain ⟨y, hy, hy2⟩ := chn_putIn hR (i := i) (by rw [List.length_take]; omega) (by rw [List.length_take]; omega) L[i].1 L[i].2
      rw [hy, Option.bind_some]
      refine hrec (L.length - (i + 1)) _ (by omega) ⟨i + 1, y, rfl, by omega, rfl, ?_⟩
      rw [take_ins hl] at hy2
      exact hy2
def bgR (t a : Int32) (n : Nat) : Prop := (t = 1 ∧ (8 < n ∨ 255 < a)) ∨ (t = 2 ∧ 8 < n) ∨ (t = 3 ∧ 6 < n) ∨ (t = 4 ∧ 16 < n)
theorem val_outgrows {v : VSt} {t a : Int32} {L : LL} {f : FK} (h : VL v t L f) (ht : t = 1 ∨ t = 2 ∨ t = 3 ∨ t = 4) (hl : L.length < 40) : ∃ u, fX6_outgrowsSmall v a = some u ∧ (u = 0 ↔ ¬ bgR t a (L.length + 1)) := by
  obtain ⟨h1, h2, -⟩ := h
  unfold fX6_outgrowsSmall
  rw [h2.1, h1, nI_1, keep_r]
  have c1 : ¬ (1 : Int32) = 0 := by decide
  have k2 : ¬ (2 : Int32) = 1 := by decide
  have k3 : ¬ (3 : Int32) = 1 := by decide
  have k4 : ¬ (4 : Int32) = 1 := by decide
  have k5 : ¬ (3 : Int32) = 2 := by decide
  have k6 : ¬ (4 : Int32) = 2 := by decide
  have k7 : ¬ (4 : Int32) = 3 := by decide
  have k8 : ¬ (1 : Int32) = 2 := by decide
  have k9 : ¬ (1 : Int32) = 3 := by decide
  have k10 : ¬ (1 : Int32) = 4 := by decide
  have k11 : ¬ (2 : Int32) = 3 := by decide
  have k12 : ¬ (2 : Int32) = 4 := by decide
  have k13 : ¬ (3 : Int32) = 4 := by decide
  show Ok _ _
  unfold bgR
  rcases ht with e | e | e | e <;> subst e
  · simp (disch := omega) only [ok_if, ok_some, d8, nI_ltE, k8, k9, k10, false_and, or_false, true_and, true_implies, not_true_eq_false, false_implies, and_true, c1, false_iff, true_iff]
    refine ⟨fun q w => w (Or.inl q), fun q => ⟨fun r w => ?_, fun r w => w (Or.inr (i32_nle.mp r))⟩⟩
    rcases w with w | w
    · exact q w
    · exact absurd r (i32_nle.mpr w)
  · simp (disch := omega) only [ok_if, ok_some, d8, nI_leE, k2, k11, k12, false_and, or_false, false_or, true_and, true_implies, not_true_eq_false, false_implies, and_true, c1, false_iff, true_iff, not_false_eq_true, Nat.not_lt, Nat.not_le, imp_self]
  · simp (disch := omega) only [ok_if, ok_some, d6, nI_leE, k3, k5, k13, false_and, or_false, false_or, true_and, true_implies, not_true_eq_false, false_implies, and_true, c1, false_iff, true_iff, not_false_eq_true, Nat.not_lt, Nat.not_le, imp_self]
  · simp (disch := omega) only [ok_if, ok_some, d16, nI_leE, k4, k6, k7, false_and, or_false, false_or, true_and, true_implies, not_true_eq_false, false_implies, and_true, c1, false_iff, true_iff, not_false_eq_true, Nat.not_lt, Nat.not_le, imp_self]

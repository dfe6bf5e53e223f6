/-! values: insert, dropOut, letGo -/
def insF (t a : Int32) (L : LL) (f : FK) : FK := (if (t = 1 ∧ (8 < L.length + 1 ∨ 255 < a)) ∨ (t = 2 ∧ 8 < L.length + 1) ∨ (t = 3 ∧ 6 < L.length + 1) ∨ (t = 4 ∧ 16 < L.length + 1) then 2 else f.1, if t = 2 then bup L f.2 else f.2)
theorem cap_big {t a : Int32} {n : Nat} (ht : t = 1 ∨ t = 2 ∨ t = 3 ∨ t = 4) (h : ¬ bgR t a n) : n ≤ cap t := by
  unfold bgR at h
  unfold cap
  rcases ht with e | e | e | e <;> subst e
  · rw [if_neg (by decide), if_neg (by decide)]
    exact Nat.le_of_not_lt (fun q => h (Or.inl ⟨rfl, Or.inl q⟩))
  · rw [if_neg (by decide), if_neg (by decide)]
    exact Nat.le_of_not_lt (fun q => h (Or.inr (Or.inl ⟨rfl, q⟩)))
  · rw [if_pos rfl]
    exact Nat.le_of_not_lt (fun q => h (Or.inr (Or.inr (Or.inl ⟨rfl, q⟩))))
  · rw [if_neg (by decide), if_pos rfl]
    exact Nat.le_of_not_lt (fun q => h (Or.inr (Or.inr (Or.inr ⟨rfl, q⟩))))
theorem cap_16 {t : Int32} (ht : t = 1 ∨ t = 2 ∨ t = 3 ∨ t = 4) : cap t ≤ 16 ∧ (t = 2 → cap t = 8) := by
  rcases ht with e | e | e | e <;> subst e <;> decide
theorem val_insert {v : VSt} {t : Int32} {L : LL} {f : FK} (h : VL v t L f) (ht : t = 1 ∨ t = 2 ∨ t = 3 ∨ t = 4) {i : Nat} (hi : i ≤ L.length) (hl : L.length < 40) (a b : Int32) (h2 : t = 2 → AscL L ∧ isV a ∧ L.insertIdx i (a, b) = sins L a ∧ ∀ q ∈ L, q.1 ≠ a) :
    ∃ y, fX6_insert v (nI i) a b = some (y, nI (L.length + 1)) ∧ VL y t (L.insertIdx i (a, b)) (insF t a L f) ∧ VS v y ∧ fmOk y := by
  have hlen : (L.insertIdx i (a, b)).length = L.length + 1 := by rw [List.length_insertIdx, if_pos hi]
  obtain ⟨c16, c8⟩ := cap_16 ht
  obtain ⟨u, hu1, hu2⟩ := val_outgrows (a := a) h ht hl
  obtain ⟨p, hp1, hp2⟩ := row_putIn h.2.1 hi hl a b
  -- the last steps, once the form is right
  have e33 : ∀ w : VSt, vlPl w = vlPl v → fX6_insert_33 w (nI i) a b = some (vlPl_s w p, nI (L.length + 1)) := fun w hw => by
    unfold fX6_insert_33
    rw [hw, hp1, Option.bind_some, keep_r]
    show some (vlPl_s w p, rwN p) = _
    rw [hp2.1, hlen]
  have small : vlFm v = 1 → RowR 16 (vlSm v) L → f.1 = 1 → f.2 = 4 → ¬ bgR t a (L.length + 1) → ∃ y, fX6_insert_23 v (nI i) a b = some (y, nI (L.length + 1)) ∧ VL y t (L.insertIdx i (a, b)) (insF t a L f) ∧ VS v y ∧ fmOk y := fun h1 h3 h4 h5 h6 => by
    have hc := cap_big ht h6
    obtain ⟨s, hs1, hs2⟩ := row_putIn h3 hi (by omega) a b
    unfold fX6_insert_23
    rw [h1, sel_1, hs1, Option.bind_some, keep_r, e33 (vlSm_s v s) rfl]
    refine ⟨_, rfl, ⟨h.1, hp2, Or.inl ⟨?_, h1, hs2, by rw [hlen]; exact hc, ?_⟩⟩, ⟨rfl, rfl, rfl, rfl⟩, Or.inl h1⟩
    · unfold insF; unfold bgR at h6; rw [if_neg h6]; exact h4
    · unfold insF
      show (if t = 2 then bup L f.2 else f.2) = 4
      by_cases e : t = 2
      · rw [if_pos e, h5]
        unfold bup
        have := c8 e
        rw [if_neg (by have : (2 : Nat) ^ 4 = 16 := by decide
                       omega)]
      · rw [if_neg e]; exact h5
  have big : ∀ (w : VSt), vlTyp w = t → vlPl w = vlPl v → VS v w → (∀ f1 : FK, f1 = insF t a L f → (t ≠ 2 → vlFm w = 4 ∧ ChnR (vlCh w) L) → (t = 2 → vlFm w = 8 ∧ ∃ b0, TabR (vlTb w) L b0 ∧ f1.2 = bup L b0) → f1.1 = 2 → ∃ y, fX6_insert_23 w (nI i) a b = some (y, nI (L.length + 1)) ∧ VL y t (L.insertIdx i (a, b)) (insF t a L f) ∧ VS v y ∧ fmOk y) := fun w w1 w2 w3 f1 hf1 hn2 hy2 hf2 => by
    obtain ⟨v1, v2, v3, v4⟩ := w3
    by_cases e : t = 2
    · obtain ⟨k1, b0, k2, k3⟩ := hy2 e
      obtain ⟨g1, g2, g3, g4⟩ := h2 e
      obtain ⟨s, hs1, hs2⟩ := tab_putIn k2 g2 g4 hl b (nI i)
      unfold fX6_insert_23
      rw [k1, sel_8, hs1, Option.bind_some, keep_r, e33 (vlTb_s w s) w2]
      refine ⟨_, rfl, ⟨w1, hp2, Or.inr (Or.inr ⟨by rw [← hf1]; exact hf2, e, k1, ?_⟩)⟩, ⟨v1, v2, v3, v4⟩, Or.inr (Or.inr k1)⟩
      rw [g3, ← hf1, k3]; exact hs2
    · obtain ⟨k1, k2⟩ := hn2 e
      obtain ⟨s, hs1, hs2⟩ := chn_putIn k2 hi hl a b
      unfold fX6_insert_23
      rw [k1, sel_4, hs1, Option.bind_some, keep_r, e33 (vlCh_s w s) w2]
      exact ⟨_, rfl, ⟨w1, hp2, Or.inr (Or.inl ⟨by rw [← hf1]; exact hf2, e, k1, hs2⟩)⟩, ⟨v1, v2, v3, v4⟩, Or.inr (Or.inl k1)⟩
  unfold fX6_insert
  rcases h.2.2 with ⟨h4, h5, h6, h7, h8⟩ | ⟨h4, h5, h6, h7⟩ | ⟨h4, h5, h6, h7⟩
  · rw [h5, isF_1, chk_r, if_pos rfl, hu1, Option.bind_some]
    by_cases hb : bgR t a (L.length + 1)
    · rw [if_neg (fun q => hu2.mp q hb)]
      obtain ⟨y, y1, y2, y3, y4, y5, y6⟩ := val_becomeBig h.1 h6 (fun e => ⟨(h2 e).1, by rw [← c8 e]; exact h7⟩)
      rw [y1, Option.bind_some, keep_r]
      refine big y y3 y4 y2 _ rfl y5 (fun e => ⟨(y6 e).1, 4, (y6 e).2, ?_⟩) ?_
      · unfold insF; show (if t = 2 then bup L f.2 else f.2) = _; rw [if_pos e, h8]
      · unfold insF; unfold bgR at hb; exact if_pos hb
    · rw [if_pos (hu2.mpr hb)]
      exact small h5 h6 h4 h8 hb
  · rw [h6, isF_4, chk_r, if_neg (by decide)]
    refine big v h.1 rfl ⟨rfl, rfl, rfl, rfl⟩ _ rfl (fun _ => ⟨h6, h7⟩) (fun e => absurd e h5) ?_
    unfold insF; show (if _ then 2 else f.1) = 2; split
    · rfl
    · exact h4
  · rw [h6, isF_8, chk_r, if_neg (by decide)]
    refine big v h.1 rfl ⟨rfl, rfl, rfl, rfl⟩ _ rfl (fun e => absurd h5 e) (fun e => ⟨h6, f.2, h7, ?_⟩) ?_
    · unfold insF; show (if t = 2 then bup L f.2 else f.2) = _; rw [if_pos e]
    · unfold insF; show (if _ then 2 else f.1) = 2; split
      · rfl
      · exact h4
theorem val_dropOut {v : VSt} {t : Int32} {L : LL} {f : FK} (h : VL v t L f) {i : Nat} (hi : i < L.length) : ∃ y, fX6_dropOut v (nI i) = some y ∧ VL y t (L.eraseIdx i) f ∧ VS v y ∧ fmOk y := by
  have hlen : (L.eraseIdx i).length = L.length - 1 := by rw [List.length_eraseIdx, if_pos hi]
  have h40 := h.2.1.2.1
  obtain ⟨p, hp1, hp2⟩ := row_dropOut h.2.1 hi L[i].1
  unfold fX6_dropOut fX6_dropOut_18
  rw [row_valueAt h.2.1, Option.bind_some, vat_nI hi (by omega)]
  rcases h.2.2 with ⟨h4, h5, h6, h7, h8⟩ | ⟨h4, h5, h6, h7⟩ | ⟨h4, h5, h6, h7⟩
  · obtain ⟨s, hs1, hs2⟩ := row_dropOut h6 hi L[i].1
    rw [h5, sel_1, hs1, Option.bind_some, keep_r, show vlPl (vlSm_s v s) = vlPl v from rfl, hp1, Option.bind_some]
    exact ⟨_, rfl, ⟨h.1, hp2, Or.inl ⟨h4, h5, hs2, by omega, h8⟩⟩, ⟨rfl, rfl, rfl, rfl⟩, Or.inl h5⟩
  · obtain ⟨s, hs1, hs2⟩ := chn_dropOut h7 hi L[i].1
    rw [h6, sel_4, hs1, Option.bind_some, keep_r, show vlPl (vlCh_s v s) = vlPl v from rfl, hp1, Option.bind_some]
    exact ⟨_, rfl, ⟨h.1, hp2, Or.inr (Or.inl ⟨h4, h5, h6, hs2⟩)⟩, ⟨rfl, rfl, rfl, rfl⟩, Or.inr (Or.inl h6)⟩
  · obtain ⟨s, hs1, hs2⟩ := tab_dropOut h7 hi (nI i)
    rw [h6, sel_8, hs1, Option.bind_some, keep_r, show vlPl (vlTb_s v s) = vlPl v from rfl, hp1, Option.bind_some]
    exact ⟨_, rfl, ⟨h.1, hp2, Or.inr (Or.inr ⟨h4, h5, h6, hs2⟩)⟩, ⟨rfl, rfl, rfl, rfl⟩, Or.inr (Or.inr h6)⟩
theorem val_dropNeg {v : VSt} {t : Int32} {L : LL} {f : FK} (h : VL v t L f) : fX6_dropOut v (-1) = some v := by
  unfold fX6_dropOut fX6_dropOut_18
  rw [row_valueAt h.2.1, Option.bind_some, vat_neg (by decide)]
  rcases h.2.2 with ⟨h4, h5, h6, h7, h8⟩ | ⟨h4, h5, h6, h7⟩ | ⟨h4, h5, h6, h7⟩
  · rw [h5, sel_1, row_dropNeg, Option.bind_some, keep_r, show vlPl (vlSm_s v (vlSm v)) = vlPl v from rfl, row_dropNeg, Option.bind_some]; rfl
  · rw [h6, sel_4, chn_dropNeg h7, Option.bind_some, keep_r, show vlPl (vlCh_s v (vlCh v)) = vlPl v from rfl, row_dropNeg, Option.bind_some]; rfl
  · rw [h6, sel_8, tab_dropNeg, Option.bind_some, keep_r, show vlPl (vlTb_s v (vlTb v)) = vlPl v from rfl, row_dropNeg, Option.bind_some]; rfl
/-- what the form tells of an index, a value -/
theorem val_at {v : VSt} {t : Int32} {L : LL} {f : FK} (h : VL v t L f) (p : Int32) {α : Type} (k : Int32 → Option α) : sel (vlFm v) ((fX4_valueAt 16 (vlSm v) p).bind k) ((fX0_valueAt (vlCh v) p).bind k) ((fX5_valueAt (vlTb v) p).bind k) = k (vat L p) := by
  rcases h.2.2 with ⟨h4, h5, h6, h7, h8⟩ | ⟨h4, h5, h6, h7⟩ | ⟨h4, h5, h6, h7⟩
  · rw [h5, sel_1, row_valueAt h6, Option.bind_some]
  · rw [h6, sel_4, chn_valueAt h7, Option.bind_some]
  · rw [h6, sel_8, tab_valueAt h7, Option.bind_some]
theorem val_bits {v : VSt} {t : Int32} {L : LL} {f : FK} (h : VL v t L f) (p : Int32) {α : Type} (k : Int32 → Option α) : sel (vlFm v) ((fX4_bitsAt 16 (vlSm v) p).bind k) ((fX0_bitsAt (vlCh v) p).bind k) ((fX5_bitsAt (vlTb v) p).bind k) = k (bat L p) := by
  rcases h.2.2 with ⟨h4, h5, h6, h7, h8⟩ | ⟨h4, h5, h6, h7⟩ | ⟨h4, h5, h6, h7⟩
  · rw [h5, sel_1, row_bitsAt h6, Option.bind_some]
  · rw [h6, sel_4, chn_bitsAt h7, Option.bind_some]
  · rw [h6, sel_8, tab_bitsAt h7, Option.bind_some]
theorem val_place {v : VSt} {t : Int32} {L : LL} {f : FK} (h : VL v t L f) {p : Int32} (hp : isV p) {α : Type} (k : Int32 → Option α) : sel (vlFm v) ((fX4_placeOf 16 (vlSm v) p).bind k) ((fX0_placeOf (vlCh v) p).bind k) ((fX5_placeOf (vlTb v) p).bind k) = k (plc L p) := by
  rcases h.2.2 with ⟨h4, h5, h6, h7, h8⟩ | ⟨h4, h5, h6, h7⟩ | ⟨h4, h5, h6, h7⟩
  · rw [h5, sel_1, row_placeOf h6, Option.bind_some]
  · rw [h6, sel_4, chn_placeOf h7, Option.bind_some]
  · rw [h6, sel_8, tab_placeOf h7 hp, Option.bind_some]
theorem val_letGo {v : VSt} {t : Int32} {L : LL} {f : FK} (h : VL v t L f) {i : Nat} (hi : i < L.length) : ∃ y, fX6_letGo v (nI i) = some (y, L[i].1) ∧ VL y t (L.eraseIdx i) f ∧ fmOk y ∧ vlHeld y = (if (L.eraseIdx i).length = 0 then 0 else vlHeld v) ∧ vlEnd y = vlEnd v ∧ vlId y = vlId v ∧ vlGr y = vlGr v := by
  have h40 := h.2.1.2.1
  obtain ⟨y, y1, y2, ⟨s1, s2, s3, s4⟩, y4⟩ := val_dropOut h hi
  unfold fX6_letGo
  rw [val_at h (nI i) (fun u => fX6_letGo_8 v (nI i) u), vat_nI hi (by omega)]
  unfold fX6_letGo_8
  rw [y1, Option.bind_some, keep_r, y2.2.1.1]
  have hll := y2.2.1.2.1
  by_cases e : (L.eraseIdx i).length = 0
  · rw [if_pos (by rw [e]; rfl), keep_r, if_pos e]
    exact ⟨_, rfl, ⟨y2.1, y2.2.1, y2.2.2⟩, y4, rfl, s2, s3, s4⟩
  · rw [if_neg (by rw [nI_eq0 (by omega)]; exact e), if_neg e]
    exact ⟨_, rfl, y2, y4, s1, s2, s3, s4⟩
theorem val_letNeg {v : VSt} {t : Int32} {L : LL} {f : FK} (h : VL v t L f) (h0 : 0 < L.length) : fX6_letGo v (-1) = some (v, -1) := by
  have h40 := h.2.1.2.1
  unfold fX6_letGo
  rw [val_at h (-1) (fun u => fX6_letGo_8 v (-1) u), vat_neg (by decide)]
  unfold fX6_letGo_8
  rw [val_dropNeg h, Option.bind_some, keep_r, h.2.1.1, if_neg (by rw [nI_eq0 (by omega)]; omega)]

/-! isWithin, isKey, isGroup -/
theorem wit_t {p a b : Int32} (h1 : ¬ p < a) (h2 : ¬ b < p) : fX7_isWithin p a b = some 1 := by
  unfold fX7_isWithin
  rw [if_neg h1, if_neg h2]
theorem wit_f {p a b : Int32} (h : p < a ∨ b < p) : fX7_isWithin p a b = some 0 := by
  unfold fX7_isWithin
  rcases h with q | q
  · rw [if_pos q]
  · by_cases c : p < a
    · rw [if_pos c]
    · rw [if_neg c, if_pos q]
theorem wit_N {i a b : Nat} (h1 : a ≤ i) (h2 : i ≤ b) (hb : b < 2 ^ 31) : fX7_isWithin (nI i) (nI a) (nI b) = some 1 :=
  wit_t (nI_nlt h1 (by omega)) (nI_nlt h2 hb)
theorem isg_N {g : Nat} (hg : g < 3) : fX7_isGroup (nI g) = some 1 := by
  unfold fX7_isGroup
  rw [d0, d2, wit_N (by omega) (by omega) (by omega), Option.bind_some]
  rfl
theorem isk_N {k : Nat} (hk : k < 16) : fX7_isKey (nI k) = some 1 := by
  unfold fX7_isKey
  rw [d0, d15, wit_N (by omega) (by omega) (by omega), Option.bind_some]
  rfl
theorem isg_f {p : Int32} (h : p < 0 ∨ 2 < p) : fX7_isGroup p = some 0 := by
  unfold fX7_isGroup
  rw [wit_f h, Option.bind_some]
  rfl
theorem isk_f {p : Int32} (h : p < 0 ∨ 15 < p) : fX7_isKey p = some 0 := by
  unfold fX7_isKey
  rw [wit_f h, Option.bind_some]
  rfl
theorem one_ne0 : ¬ (1 : Int32) = 0 := by decide

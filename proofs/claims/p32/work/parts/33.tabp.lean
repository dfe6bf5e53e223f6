/-! tables -/
def hsh (n : Nat) : Nat := 193 * n + n / 32
def hb (b : Nat) (v : Int32) : Nat := hsh v.toNatClampNeg % 2 ^ b
def isV (v : Int32) : Prop := ∃ n : Nat, n < 10000 ∧ v = nI n
theorem isV_clamp {v : Int32} (h : isV v) : nI v.toNatClampNeg = v ∧ v.toNatClampNeg < 10000 := by
  obtain ⟨n, hn, rfl⟩ := h
  rw [nI_clamp (by omega)]; exact ⟨rfl, hn⟩
theorem isV_ge {v : Int32} (h : isV v) : 0 ≤ v := by
  obtain ⟨n, hn, rfl⟩ := h
  exact nI_pos' (by omega)
theorem isV_ne {v : Int32} (h : isV v) : v ≠ -1 := by
  obtain ⟨n, hn, rfl⟩ := h
  intro e
  rw [nI_nm1 (by omega)] at e
  exact e
theorem isV_gt {v : Int32} (h : isV v) : -1 < v := by
  obtain ⟨n, hn, rfl⟩ := h
  rw [Int32.lt_iff_toInt_lt, nI_toInt (by omega)]
  have h2 : (-1 : Int32).toInt = -1 := by decide
  omega
theorem p2_cases {b : Nat} (h : 4 ≤ b ∧ b ≤ 6) : b = 4 ∨ b = 5 ∨ b = 6 := by omega
theorem p2_lt {b : Nat} (h : 4 ≤ b ∧ b ≤ 6) : 16 ≤ 2 ^ b ∧ 2 ^ b ≤ 64 := by
  rcases p2_cases h with e | e | e <;> subst e <;> decide
theorem hb_lt {b : Nat} (v : Int32) : hb b v < 2 ^ b := Nat.mod_lt _ (Nat.two_pow_pos b)
theorem msk {b n : Nat} (h : 4 ≤ b ∧ b ≤ 6) (hn : n < 2 ^ 32) : nI n &&& (nI (2 ^ b) - 1) = nI (n % 2 ^ b) := by
  have h2 := p2_lt h
  rw [nI_s1 (by omega)]
  exact pk_andN hn b (pk_tn (by omega))
theorem tab_bucketOf {x : TSt} {b : Nat} (h : 4 ≤ b ∧ b ≤ 6) (hB : tbB x = nI (2 ^ b)) {v : Int32} (hv : isV v) : fX5_bucketOf x v = some (nI (hb b v)) := by
  obtain ⟨n, hn, rfl⟩ := hv
  unfold fX5_bucketOf hb hsh
  rw [hB, d193, pk_mul, d32, pk_div (by omega) (by omega) (by omega), nI_add, msk h (by omega), nI_clamp (by omega)]
def tbF (M : IA) (s : Nat) : Int32 × Int32 := (M s, 0)
def inB (M : IA) (b j : Nat) (s : Nat) : Bool := decide (hb b (M s) = j)
def Tab0 (M : IA) (l : List Nat) : Prop := l.Nodup ∧ l.length ≤ 40 ∧ (∀ s ∈ l, s < 40 ∧ isV (M s)) ∧ (∀ s, s < 40 → s ∉ l → M s = -1) ∧ l.Pairwise (fun s t => M s < M t)
def TabR (x : TSt) (L : LL) (b : Nat) : Prop := ∃ l : List Nat, (4 ≤ b ∧ b ≤ 6) ∧ tbB x = nI (2 ^ b) ∧ tbC x = nI l.length ∧ Tab0 (tbM x) l ∧ L = l.map (tbF (tbM x)) ∧ ∀ j, j < 2 ^ b → seg (tbX x) (tbH x j) (l.filter (inB (tbM x) b j)) (-1)
theorem Tab0.lt {M : IA} {l : List Nat} (h : Tab0 M l) {i j : Nat} (hi : i < l.length) (hj : j < l.length) (hij : i < j) : M l[i] < M l[j] := List.pairwise_iff_getElem.mp h.2.2.2.2 i j hi hj hij
theorem i32_lt_asymm {a b : Int32} (h : a < b) : ¬ b < a := fun q => ilt_irr _ (Int32.lt_trans h q)
theorem i32_nlt {a b : Int32} : ¬ a < b ↔ b ≤ a := by rw [Int32.lt_iff_toInt_lt, Int32.le_iff_toInt_le]; omega
theorem i32_nle {a b : Int32} : ¬ a ≤ b ↔ b < a := by rw [Int32.lt_iff_toInt_lt, Int32.le_iff_toInt_le]; omega
theorem i32_le_antisymm {a b : Int32} (h : a ≤ b) (g : b ≤ a) : a = b := Int32.toInt_inj.mp (by rw [Int32.le_iff_toInt_le] at h g; omega)
theorem i32_lt_le {a b : Int32} (h : a < b) : a ≤ b := Int32.le_of_lt h
theorem i32_lt_of_ne {a b : Int32} (h : a ≤ b) (g : a ≠ b) : a < b := i32_nle.mp (fun q => g (i32_le_antisymm h q))
theorem Tab0.inj {M : IA} {l : List Nat} (h : Tab0 M l) {s t : Nat} (hs : s ∈ l) (ht : t ∈ l) (e : M s = M t) : s = t := by
  obtain ⟨i, hi, rfl⟩ := List.mem_iff_getElem.mp hs
  obtain ⟨j, hj, rfl⟩ := List.mem_iff_getElem.mp ht
  by_cases e1 : i < j
  · have := h.lt hi hj e1; rw [e] at this; exact absurd this (ilt_irr _)
  · by_cases e2 : j < i
    · have := h.lt hj hi e2; rw [e] at this; exact absurd this (ilt_irr _)
    · have : i = j := by omega
      subst this; rfl
theorem Tab0.mem {M : IA} {l : List Nat} (h : Tab0 M l) {s : Nat} (hs : s < 40) (hm : M s ≠ -1) : s ∈ l := by
  by_cases e : s ∈ l
  · exact e
  · exact absurd (h.2.2.2.1 s hs e) hm
theorem tab_smallest (x : TSt) {low : Int32} (hlow : -1 ≤ low) : ∃ r, fX5_smallestAbove x low = some r ∧ ((r = -1 ∧ ∀ s, s < 40 → tbM x s ≤ low) ∨ (∃ s0, s0 < 40 ∧ r = tbM x s0 ∧ low < r ∧ ∀ s, s < 40 → low < tbM x s → r ≤ tbM x s)) := by
  unfold fX5_smallestAbove
  refine ok_iter (fun m st => ∃ i, m = 40 - i ∧ i ≤ 40 ∧ st.2 = nI i ∧ ((st.1 = -1 ∧ ∀ s, s < i → tbM x s ≤ low) ∨ (∃ s0, s0 < 40 ∧ st.1 = tbM x s0 ∧ low < st.1 ∧ ∀ s, s < i → low < tbM x s → st.1 ≤ tbM x s))) _ ?_ FU 40 _ ⟨0, rfl, by omega, rfl, Or.inl ⟨rfl, fun s h => by omega⟩⟩ (by unfold FU; omega)
  rintro m ⟨v2, v3⟩ rec ⟨i, hm, hi, hv, hc⟩ hrec
  dsimp only at hv hc
  subst hv
  unfold fX5_smallestAbove_4
  simp (disch := omega) only [ok_if, ok_chk, ok_keep, ok_some, nI_leE, nI_1, d40, nI_clamp]
  refine ⟨fun h => ?_, fun h => ?_⟩
  · rcases hc with ⟨c1, c2⟩ | ⟨s0, c1, c2, c3, c4⟩
    · exact Or.inl ⟨c1, fun s hs => c2 s (by omega)⟩
    · exact Or.inr ⟨s0, c1, c2, c3, fun s hs => c4 s (by omega)⟩
  have hin : inb (nI i) 40 = true := inb_nI (by omega) (by omega)
  refine ⟨hin, fun h1 => ?_, fun h1 => ⟨fun h2 => ⟨hin, ?_⟩, fun h2 => ⟨hin, fun h3 => ?_, fun h3 => ⟨hin, ?_⟩⟩⟩⟩
  · refine hrec (40 - (i + 1)) _ (by omega) ⟨i + 1, rfl, by omega, rfl, ?_⟩
    rcases hc with ⟨c1, c2⟩ | ⟨s0, c1, c2, c3, c4⟩
    · refine Or.inl ⟨c1, fun s hs => ?_⟩
      by_cases e : s = i
      · subst e; exact h1
      · exact c2 s (by omega)
    · refine Or.inr ⟨s0, c1, c2, c3, fun s hs hlt => ?_⟩
      by_cases e : s = i
      · subst e; exact absurd h1 (i32_nle.mpr hlt)
      · exact c4 s (by omega) hlt
  · refine hrec (40 - (i + 1)) _ (by omega) ⟨i + 1, rfl, by omega, rfl, ?_⟩
    refine Or.inr ⟨i, by omega, rfl, i32_nle.mp h1, fun s hs hlt => ?_⟩
    by_cases e : s = i
    · subst e; exact Int32.le_refl _
    · rcases hc with ⟨c1, c2⟩ | ⟨s0, c1, c2, c3, c4⟩
      · exact absurd (c2 s (by omega)) (i32_nle.mpr hlt)
      · rw [h2] at c3
        exact absurd hlow (i32_nle.mpr c3)
  · refine hrec (40 - (i + 1)) _ (by omega) ⟨i + 1, rfl, by omega, rfl, ?_⟩
    rcases hc with ⟨c1, c2⟩ | ⟨s0, c1, c2, c3, c4⟩
    · exact absurd c1 h2
    · refine Or.inr ⟨s0, c1, c2, c3, fun s hs hlt => ?_⟩
      by_cases e : s = i
      · subst e; exact h3
      · exact c4 s (by omega) hlt
  · refine hrec (40 - (i + 1)) _ (by omega) ⟨i + 1, rfl, by omega, rfl, ?_⟩
    rcases hc with ⟨c1, c2⟩ | ⟨s0, c1, c2, c3, c4⟩
    · exact absurd c1 h2
    · refine Or.inr ⟨i, by omega, rfl, i32_nle.mp h1, fun s hs hlt => ?_⟩
      by_cases e : s = i
      · subst e; exact Int32.le_refl _
      · exact Int32.le_trans (i32_lt_le (i32_nle.mp h3)) (c4 s (by omega) hlt)
theorem tab_first {x : TSt} {l : List Nat} (h : Tab0 (tbM x) l) (h0 : 0 < l.length) : fX5_smallestAbove x (-1) = some (tbM x l[0]) := by
  obtain ⟨r, h1, h2⟩ := tab_smallest x (low := -1) (Int32.le_refl _)
  rw [h1]
  have hv := h.2.2.1 l[0] (List.getElem_mem h0)
  rcases h2 with ⟨-, h3⟩ | ⟨s0, h3, h4, h5, h6⟩
  · exact absurd (h3 l[0] hv.1) (i32_nle.mpr (isV_gt hv.2))
  · have hm : s0 ∈ l := h.mem h3 (fun e => by rw [h4, e] at h5; exact absurd h5 (ilt_irr _))
    obtain ⟨i, hi, rfl⟩ := List.mem_iff_getElem.mp hm
    rw [i32_le_antisymm (h6 l[0] hv.1 (isV_gt hv.2)) (by
      rw [h4]
      by_cases e : i = 0
      · subst e; exact Int32.le_refl _
      · exact i32_lt_le (h.lt h0 hi (by omega)))]
theorem tab_next {x : TSt} {l : List Nat} (h : Tab0 (tbM x) l) {i : Nat} (hi : i + 1 < l.length) : fX5_smallestAbove x (tbM x l[i]) = some (tbM x l[i + 1]) := by
  have hv := h.2.2.1 l[i + 1] (List.getElem_mem hi)
  have hv0 := h.2.2.1 l[i] (List.getElem_mem (by omega))
  obtain ⟨r, h1, h2⟩ := tab_smallest x (low := tbM x l[i]) (i32_lt_le (isV_gt hv0.2))
  rw [h1]
  have hlt := h.lt (show i < l.length by omega) hi (Nat.lt_succ_self i)
  rcases h2 with ⟨-, h3⟩ | ⟨s0, h3, h4, h5, h6⟩
  · exact absurd (h3 l[i + 1] hv.1) (i32_nle.mpr hlt)
  · have hm : s0 ∈ l := h.mem h3 (fun e => by
      rw [h4, e] at h5
      exact absurd (Int32.lt_trans h5 (isV_gt hv0.2)) (ilt_irr _))
    obtain ⟨j, hj, rfl⟩ := List.mem_iff_getElem.mp hm
    rw [i32_le_antisymm (h6 l[i + 1] hv.1 hlt) (by
      rw [h4]
      rw [h4] at h5
      by_cases e : j = i + 1
      · subst e; exact Int32.le_refl _
      · by_cases e2 : i + 1 < j
        · exact i32_lt_le (h.lt hi hj e2)
        · have e3 : j = i ∨ j < i := by omega
          rcases e3 with e3 | e3
          · subst e3; exact absurd h5 (ilt_irr _)
          · exact absurd (h.lt hj (show i < l.length by omega) e3) (i32_lt_asymm h5))]
theorem tab_valueAt {x : TSt} {L : LL} {b : Nat} (h : TabR x L b) (p : Int32) : fX5_valueAt x p = some (vat L p) := by
  obtain ⟨l, hb, h1, h2, h3, rfl, h5⟩ := h
  have hlen := h3.2.1
  unfold fX5_valueAt
  by_cases hp : p < 0
  · rw [if_pos hp, vat_neg hp]
  · obtain ⟨i, hi, rfl⟩ := nI_of hp
    rw [if_neg hp, h2]
    by_cases hl : i < l.length
    · rw [if_pos (nI_lt hl (by omega)), tab_first h3 (by omega), Option.bind_some, vat_nI (by rw [List.length_map]; exact hl) (by rw [List.length_map]; omega), List.getElem_map]
      apply ok_is
      refine ok_iter (fun m s => ∃ j, m = i - j ∧ ∃ (hj : j ≤ i), s = (tbM x (l[j]'(by omega)), nI j)) _ ?_ FU i _ ⟨0, rfl, by omega, rfl⟩ (by unfold FU; omega)
      rintro m s rec ⟨j, hm, hj, rfl⟩ hrec
      unfold fX5_valueAt_22
      simp (disch := omega) only [ok_if, ok_bind, ok_chk, ok_keep, ok_some, nI_leE, nI_1]
      refine ⟨fun q => ?_, fun q => ?_⟩
      · have : j = i := by omega
        subst this; rfl
      · rw [tab_next h3 (by omega), ok_some]
        exact hrec (i - (j + 1)) _ (by omega) ⟨j + 1, rfl, by omega, rfl⟩
    · rw [if_neg (nI_nlt (by omega) hi), vat_out (by rw [List.length_map]; omega) hi]
theorem tab_bitsAt {x : TSt} {L : LL} {b : Nat} (h : TabR x L b) (p : Int32) : fX5_bitsAt x p = some (bat L p) := by
  obtain ⟨l, hb, h1, h2, h3, rfl, h5⟩ := h
  have hlen := h3.2.1
  unfold fX5_bitsAt
  by_cases hp : p < 0
  · rw [bat_neg hp]
  · obtain ⟨i, hi, rfl⟩ := nI_of hp
    by_cases hl : i < l.length
    · rw [bat_nI (by rw [List.length_map]; exact hl) (by rw [List.length_map]; omega), List.getElem_map]; rfl
    · rw [bat_out (by rw [List.length_map]; omega) hi]

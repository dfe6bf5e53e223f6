/-! sum: all of a key as one number; it speaks of what is there only -/
def sumA (T : Int32) : LL → Int64 → Int64
  | [], h => h
  | q :: L, h => sumA T L (if T = 3 then (1000003 * h + (q.1).toInt64) + FP.f2l (FP.fmul 1090519040 q.2.toUInt32) else (1000003 * h + (q.1).toInt64) + 0)
def sumB (c : CK) (now T : Int32) : Nat → Int64 → Int64
  | 0, h => h
  | n + 1, h => if T = 4 then sumB c now T n (31 * h + (nI (wtN c now ((11 - n) / 4) ((11 - n) % 4))).toInt64) else h
def sumV (c : CK) (now : Int32) : Int64 := sumB c now (tyN c now) 12 (sumA (tyN c now) (if thC c now = true then cL c else []) (31 * (31 * (tyN c now).toInt64 + (nI (szN c now)).toInt64) + (lfN c now).toInt64))
theorem div12 : ∀ k, k < 12 → nI k / 4 = nI (k / 4) ∧ nI k - nI k / 4 * 4 = nI (k % 4) := by decide +kernel
section SUM
variable {F : FSt} {c : CK} {f : FK} {k t : Nat}
theorem sum_b (hk : k < 16) (h : VR (fV F) c f) (hclk : fClk F = nI t) (hc : okCK c) (g : Int64) : iterK FU (fL_sum_95 k F (nI k) (tyN c (nI t))) (g, 0) = some (sumB c (nI t) (tyN c (nI t)) 12 g) := by
  refine ok_is (ok_iter (fun n (s : Int64 × Int32) => ∃ i g', n = 12 - i ∧ i ≤ 12 ∧ s = (g', nI i) ∧ sumB c (nI t) (tyN c (nI t)) (12 - i) g' = sumB c (nI t) (tyN c (nI t)) 12 g) _ ?_ FU 12 _ ⟨0, g, rfl, by omega, rfl, rfl⟩ (by unfold FU; omega))
  rintro n s rec ⟨i, g', hn, hi, rfl, hg⟩ hrec
  unfold fL_sum_95
  dsimp only
  by_cases e : i = 12
  · subst e
    rw [if_pos (by decide), ok_some]
    exact hg
  · obtain ⟨d1, d2⟩ := div12 i (by omega)
    rw [if_neg (show ¬ (12 : Int32) ≤ nI i from nI_ge (a := i) (b := 12) (by omega) (by omega))]
    rw [show 12 - i = (11 - i) + 1 by omega, sumB] at hg
    by_cases e4 : tyN c (nI t) = 4
    · rw [if_pos e4] at hg
      rw [if_pos e4, d2, d1, q_wait hk h hc (by omega) (Nat.mod_lt _ (by omega)), Option.bind_some, thrL, ok_keep, nI_1, ok_keep, hclk]
      rw [show 11 - (11 - i) = i by omega] at hg
      exact hrec (12 - (i + 1)) _ (by omega) ⟨i + 1, _, rfl, by omega, rfl, by rw [show 12 - (i + 1) = 11 - i by omega]; exact hg⟩
    · rw [if_neg e4] at hg
      rw [if_neg e4, ok_some]
      exact hg
theorem sum_a (hk : k < 16) (h : VR (fV F) c f) (hclk : fClk F = nI t) (hc : okCK c) (hp : okP t c) (g : Int64) : iterK FU (fL_sum_34 k F (nI k) (tyN c (nI t))) (g, 0) = some (sumB c (nI t) (tyN c (nI t)) 12 (sumA (tyN c (nI t)) (if thC c (nI t) = true then cL c else []) g)) := by
  have hsz : szN c (nI t) ≤ 40 := by
    unfold szN
    split
    · exact (ok_T hc (thC_T (by assumption))).2.2.1
    · omega
  have hL : (if thC c (nI t) = true then cL c else []).length = szN c (nI t) := by
    unfold szN
    split <;> rfl
  generalize hLL : (if thC c (nI t) = true then cL c else []) = L at hL
  refine ok_is (ok_iter (fun n (s : Int64 × Int32) => ∃ i g', n = L.length - i ∧ i ≤ L.length ∧ s = (g', nI i) ∧ sumA (tyN c (nI t)) (L.drop i) g' = sumA (tyN c (nI t)) L g) _ ?_ FU L.length _ ⟨0, g, rfl, by omega, rfl, rfl⟩ (by unfold FU; omega))
  rintro n s rec ⟨i, g', hn, hi, rfl, hg⟩ hrec
  unfold fL_sum_34
  dsimp only
  rw [q_size hk h, Option.bind_some, thrL, hclk, ← hL]
  by_cases e : i = L.length
  · rw [if_pos (nI_le (by omega) (by omega)), sum_b hk h hclk hc, ok_some]
    rw [e, List.drop_length, sumA] at hg
    rw [hg]
  · have hi2 : i < szN c (fClk F) := by rw [hclk, ← hL]; omega
    obtain ⟨hl, a1, a2⟩ := q_at hk h hc hi2
    have hth : thC c (nI t) = true := by
      cases q : thC c (nI t) with
      | true => rfl
      | false => unfold szN at hL; rw [if_neg (by rw [q]; decide)] at hL; omega
    rw [if_pos hth] at hLL
    subst hLL
    rw [List.drop_eq_getElem_cons hl, sumA] at hg
    rw [if_neg (nI_ge (by omega) (by omega)), a1, Option.bind_some, thrL, ok_keep]
    by_cases e3 : tyN c (nI t) = 3
    · rw [if_pos e3] at hg
      have q2 := (tyN_is (by decide) e3).2
      have hP := (hp hth).2.2 q2 _ (List.getElem_mem hl)
      rw [if_pos e3, isk_pts hk h hclk hc e3 hl, Option.bind_some, pb_mul _ hP, chk_r, ok_keep, nI_1, ok_keep]
      exact hrec ((cL c).length - (i + 1)) _ (by omega) ⟨i + 1, _, rfl, by omega, rfl, hg⟩
    · rw [if_neg e3] at hg
      rw [if_neg e3, ok_keep, nI_1, ok_keep]
      exact hrec ((cL c).length - (i + 1)) _ (by omega) ⟨i + 1, _, rfl, by omega, rfl, hg⟩
theorem sum_val (hk : k < 16) (h : VR (fV F) c f) (hclk : fClk F = nI t) (hc : okCK c) (hp : okP t c) : fL_sum k F (nI k) = some (sumV c (nI t)) := by
  unfold fL_sum
  rw [q_type hk h, Option.bind_some, thrL, q_size hk h, Option.bind_some, thrL, q_left hk h, Option.bind_some, thrL, keep_r, hclk, sum_a hk h hclk hc hp]
  rfl
end SUM
theorem sum_vw {c c' : CK} {now : Int32} (h : vw now c = vw now c') : sumV c now = sumV c' now := by
  obtain ⟨v1, v2⟩ := vw_eq h
  cases e : thC c now with
  | true => rw [v2 e]
  | false =>
    have e' : thC c' now = false := v1.symm.trans e
    have a : ∀ c : CK, thC c now = false → sumV c now = 0 := fun c q => by
      unfold sumV
      have e1 : szN c now = 0 := if_neg (by rw [q]; decide)
      have e2 : lfN c now = 0 := if_neg (by rw [q]; decide)
      rw [tyN_f q, e1, e2, if_neg (by rw [q]; decide), sumA, sumB, if_neg (by decide)]
      decide
    rw [a c e, a c' e']

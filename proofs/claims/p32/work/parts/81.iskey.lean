/-! isKey: what is told of a key fits -/
theorem fi_le {L : LL} {i : Nat} (h : i < L.length) : fi L L[i].1 ≤ i := by
  unfold fi
  refine Nat.le_of_not_lt (fun q => ?_)
  have := List.not_of_lt_findIdx q
  simp at this
theorem fnd_mem {L : LL} {i : Nat} (h : i < L.length) : fnd L L[i].1 = true := decide_eq_true (Nat.lt_of_le_of_lt (fi_le h) h)
theorem fi_dist {L : LL} (hd : L.Pairwise (fun a b => a.1 ≠ b.1)) {i : Nat} (h : i < L.length) : fi L L[i].1 = i := by
  have h1 := fi_le h
  have h2 := fnd_at (fnd_mem h)
  refine Classical.byContradiction (fun q => ?_)
  exact List.pairwise_iff_getElem.mp hd (fi L L[i].1) i (fnd_lt (fnd_mem h)) h (by omega) h2
section ISK
variable {F : FSt} {c : CK} {f : FK} {k t : Nat}
theorem isk_348 (hk : k < 16) (h : VR (fV F) c f) (hclk : fClk F = nI t) (hc : okCK c) : fL_isKey_348 k F (nI k) (tyN c (nI t)) (nI (szN c (nI t))) = some (F, 1) := by
  unfold fL_isKey_348
  by_cases e : tyN c (nI t) = 2
  · obtain ⟨q1, q2⟩ := tyN_is (by decide) e
    obtain ⟨s1, s2⟩ := val_isSmall h (thC_T q1)
    have h40 := (ok_T hc (thC_T q1)).2.2.1
    rw [if_pos e, q_form hk h, Option.bind_some, thrL, hclk, if_pos q1]
    rcases s2 with s2 | s2
    · have hl : (cL c).length ≤ 8 := by
        rcases (h.VL (thC_T q1) rfl).2.2 with ⟨-, -, -, g, -⟩ | ⟨g, -⟩ | ⟨g, -⟩
        · rw [q2] at g; exact g
        · rw [s2] at g; exact absurd g (by decide)
        · rw [s2] at g; exact absurd g (by decide)
      unfold szN
      rw [s2, if_neg (show ¬ (1 : Int32) = 2 by decide), if_pos q1, if_neg (show ¬ (9 : Int32) ≤ nI (cL c).length from nI_ge (a := (cL c).length) (b := 9) (by omega) (by omega))]
    · rw [s2, if_pos rfl]
  · rw [if_neg e]
theorem isk_305 (hk : k < 16) (h : VR (fV F) c f) (hclk : fClk F = nI t) (hc : okCK c) (ht : t ≤ 1000000) (hp : okP t c) : fL_isKey_305 k F (nI k) (tyN c (nI t)) (nI (szN c (nI t))) 1 = some (F, 1) := by
  have h348 := isk_348 hk h hclk hc
  unfold fL_isKey_305
  rw [q_left hk h, Option.bind_some, thrL, hclk, if_neg one_ne0]
  by_cases e : tyN c (nI t) = 0
  · have e2 := tyN_0.mp e
    have e3 : lfN c (nI t) = 0 := if_neg (by rw [e2]; decide)
    rw [if_pos e, if_pos e3]; exact h348
  · rw [if_neg e]
    have e2 : thC c (nI t) = true := by
      cases q : thC c (nI t) with
      | true => rfl
      | false => exact absurd (tyN_f q) e
    by_cases e3 : lfN c (nI t) = -1
    · rw [if_pos e3]; exact h348
    · rw [if_neg e3]
      unfold lfN at e3 ⊢
      rw [if_pos e2] at e3 ⊢
      obtain ⟨-, hE, -⟩ := hp e2
      rcases hE with g | ⟨z, z1, z2⟩
      · rw [if_pos g] at e3; exact absurd rfl e3
      · have hne : ¬ cE c = -1 := fun g => by rw [if_pos g] at e3; exact e3 rfl
        rw [if_neg hne, z2]
        have hlt : nI t < nI z := by
          unfold thC at e2
          rw [z2] at e2
          simp only [Bool.and_eq_true, Bool.or_eq_true, decide_eq_true_eq] at e2
          rcases e2.2 with g | g
          · exact absurd (z2.trans g) hne
          · exact g
        rw [nI_ltE (by omega) (by omega)] at hlt
        rw [pk_sub (by omega), if_neg (nI_nle (by omega) (by omega)), if_neg (show ¬ (1000 : Int32) < nI (z - t) from nI_nlt (a := 1000) (b := z - t) (by omega) (by omega))]
        exact h348
theorem isk_pts (hk : k < 16) (h : VR (fV F) c f) (hclk : fClk F = nI t) (hc : okCK c) (hT : tyN c (nI t) = 3) {i : Nat} (hi : i < (cL c).length) : fL_points k F (nI k) (cL c)[i].1 = some (cL c)[i].2.toUInt32 := by
  obtain ⟨q1, q2⟩ := tyN_is (by decide) hT
  have hok := ok_T hc (thC_T q1)
  have hd := (hok.2.2.2.2.2.2.1 q2).2.2
  have hf := fnd_mem hi
  have := q_points hk h hc (hok.2.2.2.2.1 _ (List.getElem_mem hi)) (by rw [hclk]; exact hT) hf
  unfold fL_points
  rw [this, Option.bind_some, thrL]
  have e := fi_dist hd hi
  simp only [e]
theorem isk_loop (hk : k < 16) (h : VR (fV F) c f) (hclk : fClk F = nI t) (hc : okCK c) (ht : t ≤ 1000000) (hp : okP t c) : iterK FU (fL_isKey_108 k F (nI k) (tyN c (nI t)) (nI (szN c (nI t)))) (1, 0) = some (F, 1) := by
  have hsz : szN c (nI t) ≤ 40 := by
    unfold szN
    split
    · exact (ok_T hc (thC_T (by assumption))).2.2.1
    · omega
  refine ok_is (ok_iter (fun n (s : Int32 × Int32) => ∃ i, n = szN c (nI t) - i ∧ i ≤ szN c (nI t) ∧ s = (1, nI i)) _ ?_ FU (szN c (nI t)) _ ⟨0, rfl, by omega, rfl⟩ (by unfold FU; omega))
  rintro n s rec ⟨i, hn, hi, rfl⟩ hrec
  unfold fL_isKey_108
  dsimp only
  by_cases e : szN c (nI t) ≤ i
  · rw [if_pos (nI_le e (by omega)), isk_305 hk h hclk hc ht hp]
    exact ok_some ▸ rfl
  · have hi2 : i < szN c (fClk F) := by rw [hclk]; omega
    obtain ⟨hl, a1, a2⟩ := q_at hk h hc hi2
    have hth : thC c (nI t) = true := by
      cases q : thC c (nI t) with
      | true => rfl
      | false => unfold szN at e; rw [q] at e; simp at e
    have hok := ok_T hc (thC_T hth)
    have hV := hok.2.2.2.2.1 _ (List.getElem_mem hl)
    obtain ⟨v, v1, v2⟩ := id hV
    have h40 := hok.2.2.1
    have hfi := fi_le hl
    have hfn := fnd_mem hl
    obtain ⟨hl2, b1, b2⟩ := q_at (i := fi (cL c) (cL c)[i].1) hk h hc (by omega)
    have hb := fnd_at hfn
    have key : Ok (fL_isKey_191 rec k F (nI k) (tyN c (nI t)) (nI (szN c (nI t))) (nI i) (cL c)[i].1 (nI (fi (cL c) (cL c)[i].1)) 1) (fun u => u = (F, 1)) := by
      have go : Ok (rec (1, nI (i + 1))) (fun u => u = (F, 1)) := hrec (szN c (nI t) - (i + 1)) _ (by omega) ⟨i + 1, rfl, by omega, rfl⟩
      have k229 : Ok (fL_isKey_229 rec k F (nI k) (tyN c (nI t)) (nI (szN c (nI t))) 1 (nI i) (cL c)[i].1 (nI (fi (cL c) (cL c)[i].1))) (fun u => u = (F, 1)) := by
        unfold fL_isKey_229
        rw [nI_1]
        by_cases i0 : i = 0
        · subst i0
          rw [if_pos (show nI 0 ≤ 0 by decide), ok_keep]; exact go
        · rw [if_neg (nI_nle (by omega) (by omega)), if_neg one_ne0]
          by_cases t3 : tyN c (nI t) = 3
          · have q2 := (tyN_is (by decide) t3).2
            have hS := hok.2.2.2.2.2.2.1 q2
            obtain ⟨hl3, c1, c2⟩ := q_at (i := i - 1) hk h hc (by omega)
            have hdi := fi_dist hS.2.2 hl
            have hah := List.pairwise_iff_getElem.mp hS.2.1 (i - 1) i hl3 hl (by omega)
            have hris : ris (cL c)[i - 1].2 ≤ ris (cL c)[i].2 := by
              rw [ahd_iff] at hah
              rcases hah with q | ⟨q, -⟩
              · exact Int32.le_of_lt q
              · rw [q]; exact Int32.le_refl _
            have hP := (hp hth).2.2 q2
            rw [if_pos t3, nI_s1 (by omega), c1, Option.bind_some, thrL, isk_pts hk h hclk hc t3 hl3, Option.bind_some, isk_pts hk h hclk hc t3 hl, Option.bind_some]
            rcases pb_cmp _ (hP _ (List.getElem_mem hl3)) _ (hP _ (List.getElem_mem hl)) hris with w | ⟨w1, w2⟩
            · rw [if_pos w, ok_keep]; exact go
            · rw [if_neg w1, if_pos w2, hdi, if_pos rfl, ok_keep]; exact go
          · rw [if_neg t3, ok_keep]; exact go
      unfold fL_isKey_191
      by_cases i0 : i = 0
      · rw [if_pos (by rw [i0]; decide)]; exact k229
      · rw [if_neg (nI_nle (by omega) (by omega)), if_neg one_ne0]
        by_cases t2 : tyN c (nI t) = 2
        · have q2 := (tyN_is (by decide) t2).2
          have hA := hok.2.2.2.2.2.1 q2
          obtain ⟨hl3, c1, c2⟩ := q_at (i := i - 1) hk h hc (by omega)
          have hlt := List.pairwise_iff_getElem.mp hA.2 (i - 1) i hl3 hl (by omega)
          rw [if_pos t2, nI_s1 (by omega), c1, Option.bind_some, thrL, if_neg (fun q => absurd hlt (i32_nlt.mpr q))]
          unfold fL_isKey_227
          exact k229
        · rw [if_neg t2]; exact k229
    rw [if_neg (nI_ge (by omega) (by omega)), if_neg one_ne0, a1, Option.bind_some, thrL, q_index hk h hV, Option.bind_some, thrL]
    have hix : ixN c (fClk F) (cL c)[i].1 = nI (fi (cL c) (cL c)[i].1) := by
      unfold ixN
      rw [hclk, if_pos hth, plc_fnd hfn]
    rw [hix, a2, Option.bind_some, thrL, if_pos rfl, b1, Option.bind_some, thrL, if_pos hb]
    have g1 : ¬ (cL c)[i].1 < 0 := by rw [v2]; exact nI_pos (by omega)
    have g2 : ¬ (10000 : Int32) ≤ (cL c)[i].1 := by rw [v2]; exact nI_ge (a := v) (b := 10000) v1 (by omega)
    rw [if_neg g1, if_neg g2, if_neg (nI_pos (by omega)), if_neg (nI_nlt hfi (by omega))]
    exact key
theorem isk_62 (hk : k < 16) (h : VR (fV F) c f) (hclk : fClk F = nI t) (hc : okCK c) (ht : t ≤ 1000000) (hp : okP t c) : fL_isKey_62 k F (nI k) (tyN c (nI t)) (nI (szN c (nI t))) = some (F, 1) := by
  have hsz : szN c (nI t) ≤ 40 := by
    unfold szN
    split
    · exact (ok_T hc (thC_T (by assumption))).2.2.1
    · omega
  unfold fL_isKey_62
  rw [if_neg (show ¬ (40 : Int32) < nI (szN c (nI t)) from nI_nlt (a := 40) (b := szN c (nI t)) (by omega) (by omega)), asks_11, q_at_out hk h hc (Or.inr ⟨szN c (nI t), by omega, by rw [hclk]; omega, rfl⟩), Option.bind_some, thrR, if_pos rfl, Option.bind_some, keep_r]
  rw [if_pos rfl, asks_11, q_at_out hk h hc (Or.inl (by decide)), Option.bind_some, thrR, if_pos rfl, Option.bind_some, keep_r]
  rw [if_pos rfl]
  exact isk_loop hk h hclk hc ht hp
theorem key_true (hk : k < 16) (h : VR (fV F) c f) (hclk : fClk F = nI t) (hc : okCK c) (ht : t ≤ 1000000) (hp : okP t c) : fL_isKey k F (nI k) = some (F, 1) := by
  have h62 := isk_62 hk h hclk hc ht hp
  have hr := isk_loop hk h hclk hc ht hp
  unfold fL_isKey
  rw [q_type hk h, Option.bind_some, thrL, q_size hk h, Option.bind_some, thrL, hclk]
  cases hth : thC c (nI t) with
  | false =>
    have e1 := tyN_f hth
    have e2 : szN c (nI t) = 0 := if_neg (by rw [hth]; decide)
    rw [e1, e2] at h62 ⊢
    rw [if_neg (by decide), if_neg (by decide), if_pos rfl]
    unfold fL_isKey_30
    rw [q_form hk h, Option.bind_some, thrL, hclk, hth, if_neg (show ¬ false = true by decide), if_pos rfl]
    unfold fL_isKey_43
    rw [if_pos rfl, if_pos (by decide)]
    unfold fL_isKey_54
    rw [if_pos (show nI 0 = 0 from rfl)]
    exact h62
  | true =>
    have hok := ok_T hc (thC_T hth)
    have e1 := tyN_t hth
    have e2 : szN c (nI t) = (cL c).length := if_pos hth
    have h0 := (hp hth).1
    have hT : ¬ tyN c (nI t) < 0 ∧ ¬ 4 < tyN c (nI t) ∧ ¬ tyN c (nI t) = 0 ∧ ¬ tyN c (nI t) ≤ 0 := by
      rw [e1]
      rcases hok.1 with q | q | q | q <;> rw [q] <;> decide
    rw [if_neg hT.1, if_neg hT.2.1, if_neg hT.2.2.1]
    obtain ⟨s1, s2⟩ := val_isSmall h (thC_T hth)
    unfold fL_isKey_30
    rw [q_form hk h, Option.bind_some, thrL, hclk, hth, if_pos rfl, if_neg (by rcases s2 with q | q <;> rw [q] <;> decide)]
    unfold fL_isKey_43
    rw [if_pos rfl, if_neg hT.2.2.2, if_pos (by rw [e2]; exact nI_lt (a := 0) h0 (by omega))]
    exact h62
end ISK

/-! order of points (from the part of the reference) -/
theorem ahd_iff {a b : Int32 × Int32} : ahd a b = true ↔ ris a.2 < ris b.2 ∨ (ris a.2 = ris b.2 ∧ a.1 < b.1) := by
  unfold ahd
  simp only [Bool.or_eq_true, Bool.and_eq_true, decide_eq_true_eq]
theorem ahd_trans {a b c : Int32 × Int32} (h : ahd a b = true) (g : ahd b c = true) : ahd a c = true := by
  rw [ahd_iff] at h g ⊢
  rcases h with h | ⟨h, h2⟩
  · rcases g with g | ⟨g, g2⟩
    · exact Or.inl (Int32.lt_trans h g)
    · rw [← g]; exact Or.inl h
  · rcases g with g | ⟨g, g2⟩
    · rw [h]; exact Or.inl g
    · exact Or.inr ⟨h.trans g, Int32.lt_trans h2 g2⟩
theorem srt_rat {a : Int32} {L : LL} (h : SrtL L) : SrtL (ratL a L) := by
  unfold ratL
  split
  · have hs := List.eraseIdx_sublist L (fi L a)
    exact ⟨fun q hq => h.1 q (hs.subset hq), h.2.1.sublist hs, h.2.2.sublist hs⟩
  · exact h
theorem mkC_srt {c : CK} {now : Int32} (hc : okCK c) (ht : thC c now = true → cT c = 3) : SrtL (cL (mkC 3 c now)) := by
  refine mkC_L (P := SrtL) (fun q => ?_) ⟨fun q hq => (nomatch hq), List.Pairwise.nil, List.Pairwise.nil⟩
  rcases hc with h | h
  · exact absurd h (thC_T q)
  · exact h.2.2.2.2.2.2.1 (ht q)

/-! tables: places, links -/
theorem ndf {l : List Nat} (p : Nat → Bool) (h : l.Nodup) : (l.filter p).Nodup := List.Pairwise.filter p h
theorem cnt_range {l : List Nat} (hd : l.Nodup) (hl : ∀ s ∈ l, s < 40) (p : Nat → Bool) (hp : ∀ s, s < 40 → p s = true → s ∈ l) : (List.range 40).countP p = l.countP p := by
  rw [List.countP_eq_length_filter, List.countP_eq_length_filter]
  apply List.Perm.length_eq
  rw [List.perm_ext_iff_of_nodup (ndf _ List.nodup_range) (ndf _ hd)]
  intro a
  rw [List.mem_filter, List.mem_filter, List.mem_range]
  exact ⟨fun ⟨h1, h2⟩ => ⟨hp a h1 h2, h2⟩, fun ⟨h1, h2⟩ => ⟨hl a h1, h2⟩⟩
theorem free_ex {l : List Nat} (hd : l.Nodup) (hl : ∀ s ∈ l, s < 40) (hn : l.length < 40) : ∃ s, s < 40 ∧ s ∉ l := by
  by_cases h : ∀ s, s < 40 → s ∈ l
  · have h1 := cnt_range hd hl (fun _ => true) (fun s hs _ => h s hs)
    simp only [List.countP_true, List.length_range] at h1
    omega
  · obtain ⟨s, hs⟩ := Classical.not_forall.mp h
    exact ⟨s, Classical.byContradiction (fun q => hs (fun w => absurd w q)), fun w => hs (fun _ => w)⟩
theorem tab_countBelow (x : TSt) (v : Int32) : fX5_countBelow x v = some (nI ((List.range 40).countP (fun s => decide (tbM x s ≠ -1) && decide (tbM x s < v)))) := by
  apply ok_is
  unfold fX5_countBelow
  refine ok_iter (fun m st => ∃ i, m = 40 - i ∧ i ≤ 40 ∧ st = (nI ((List.range i).countP (fun s => decide (tbM x s ≠ -1) && decide (tbM x s < v))), nI i)) _ ?_ FU 40 _ ⟨0, rfl, by omega, rfl⟩ (by unfold FU; omega)
  rintro m st rec ⟨i, hm, hi, rfl⟩ hrec
  unfold fX5_countBelow_4
  simp (disch := omega) only [ok_if, ok_chk, ok_keep, ok_some, nI_leE, nI_1, d40, nI_clamp]
  have hin : ¬ 40 ≤ i → inb (nI i) 40 = true := fun _ => inb_nI (by omega) (by omega)
  refine ⟨fun h => by rw [show i = 40 by omega], fun h => ⟨hin h, fun h1 => ?_, fun h1 => ⟨hin h, fun h2 => ?_, fun h2 => ?_⟩⟩⟩
  · refine hrec (40 - (i + 1)) _ (by omega) ⟨i + 1, rfl, by omega, ?_⟩
    rw [List.range_succ, List.countP_append, List.countP_cons]
    simp [h1]
  · refine hrec (40 - (i + 1)) _ (by omega) ⟨i + 1, rfl, by omega, ?_⟩
    rw [List.range_succ, List.countP_append, List.countP_cons]
    simp [i32_nlt.mpr h2]
  · refine hrec (40 - (i + 1)) _ (by omega) ⟨i + 1, rfl, by omega, ?_⟩
    rw [List.range_succ, List.countP_append, List.countP_cons]
    simp [h1, i32_nle.mp h2]
theorem asc_cnt {M : IA} {l : List Nat} (h : Tab0 M l) {i : Nat} (hi : i < l.length) : l.countP (fun s => decide (M s ≠ -1) && decide (M s < M l[i])) = i := by
  obtain ⟨l1, a, l2, he, hk, ha⟩ := spl1 hi
  rw [← ha]
  have hp := h.2.2.2.2
  have hv := h.2.2.1
  rw [he] at hp hv ⊢
  have h1 := List.pairwise_append.mp hp
  have h2 := List.pairwise_cons.mp h1.2.1
  rw [List.countP_append, List.countP_eq_length.mpr (fun s hs => by
    have e1 := isV_ne (hv s (List.mem_append.mpr (Or.inl hs))).2
    have e2 := h1.2.2 s hs a List.mem_cons_self
    simp [e1, e2]), List.countP_eq_zero.mpr (fun s hs => by
    rcases List.mem_cons.mp hs with e | hs
    · subst e; simp [ilt_irr]
    · have := i32_lt_asymm (h2.1 s hs)
      simp [this])]
  omega
theorem tab_fi {M : IA} {l : List Nat} (h : Tab0 M l) {i : Nat} (hi : i < l.length) : fi (l.map (tbF M)) (M l[i]) = i := by
  unfold fi
  refine fi_at (by rw [List.length_map]; exact hi) (by rw [List.getElem_map]; exact decide_eq_true rfl) (fun j hj hji => ?_)
  rw [List.getElem_map]
  refine decide_eq_false (fun e => ?_)
  have := h.lt (show j < l.length by omega) hi hji
  rw [show M l[j] = M l[i] from e] at this
  exact ilt_irr _ this
theorem tab_finone {M : IA} {l : List Nat} {v : Int32} (hv : ∀ s ∈ l, M s ≠ v) : fi (l.map (tbF M)) v = (l.map (tbF M)).length := by
  unfold fi
  refine fi_none (fun j hj => ?_)
  rw [List.getElem_map]
  exact decide_eq_false (hv _ (List.getElem_mem (by simpa using hj)))
theorem plc_tab {M : IA} {l : List Nat} (h : Tab0 M l) {s : Nat} (hs : s ∈ l) : plc (l.map (tbF M)) (M s) = nI (l.countP (fun t => decide (M t ≠ -1) && decide (M t < M s))) := by
  obtain ⟨i, hi, rfl⟩ := List.mem_iff_getElem.mp hs
  unfold plc
  rw [tab_fi h hi, if_pos (by rw [List.length_map]; exact hi), asc_cnt h hi]
theorem plc_tabnone {M : IA} {l : List Nat} {v : Int32} (hv : ∀ s ∈ l, M s ≠ v) : plc (l.map (tbF M)) v = -1 := by
  unfold plc
  rw [tab_finone hv, if_neg (Nat.lt_irrefl _)]
theorem tab_placeOf {x : TSt} {L : LL} {b : Nat} (h : TabR x L b) {v : Int32} (hv : isV v) : fX5_placeOf x v = some (plc L v) := by
  obtain ⟨l, hb4, h1, h2, h3, rfl, h5⟩ := h
  have hB := p2_lt hb4
  have hj := hb_lt (b := b) v
  apply ok_is
  unfold fX5_placeOf
  rw [if_pos (isV_ge hv), tab_bucketOf hb4 h1 hv, Option.bind_some, ok_chk, ok_keep, nI_clamp (by omega)]
  refine ⟨inb_nI (by omega) (by omega), ?_⟩
  have hs := h5 _ hj
  generalize hc : l.filter (inB (tbM x) b (hb b v)) = c at hs
  have hcm : ∀ s, s ∈ c → s ∈ l := fun s q => by rw [← hc] at q; exact (List.mem_filter.mp q).1
  have hcl : c.length ≤ 40 := by rw [← hc]; exact Nat.le_trans (List.length_filter_le _ _) h3.2.1
  rw [seg_0 hs]
  have fin : ∀ i (hi : i < c.length), tbM x c[i] = v → Ok (fX5_placeOf_55 x v (nd c i)) (fun u => u = plc (l.map (tbF (tbM x))) v) := fun i hi e => by
    have hm := hcm _ (List.getElem_mem hi)
    unfold fX5_placeOf_55
    rw [nd_lt hi, if_neg (by rw [nI_nm1 (by have := (h3.2.2.1 _ hm).1; omega)]; exact id), tab_countBelow, Option.bind_some, ok_some, cnt_range h3.1 (fun s hs => (h3.2.2.1 s hs).1) _ (fun s hs hp => h3.mem hs (by simp at hp; exact hp.1)), ← e, plc_tab h3 hm]
  have nof : (∀ i (hi : i < c.length), tbM x c[i] ≠ v) → Ok (fX5_placeOf_55 x v (-1)) (fun u => u = plc (l.map (tbF (tbM x))) v) := fun hno => by
    unfold fX5_placeOf_55
    rw [if_pos rfl, ok_some, plc_tabnone (fun s hs e => ?_)]
    have : s ∈ c := by
      rw [← hc]
      exact List.mem_filter.mpr ⟨hs, by unfold inB; rw [e]; exact decide_eq_true rfl⟩
    obtain ⟨i, hi, rfl⟩ := List.mem_iff_getElem.mp this
    exact hno i hi e
  refine ok_iter (fun m s => ∃ j, m = c.length - j ∧ j ≤ c.length ∧ s = (nd c j, nI j) ∧ ∀ i (hi : i < c.length), i < j → tbM x c[i] ≠ v) _ ?_ FU c.length _ ⟨0, rfl, Nat.zero_le _, rfl, fun i _ h => by omega⟩ (by unfold FU; omega)
  rintro m s rec ⟨j, hm, hj2, rfl, hno⟩ hrec
  unfold fX5_placeOf_21
  simp (disch := omega) only [ok_if, ok_chk, ok_keep, nI_leE, nI_1, d40]
  have last : c.length ≤ j → Ok (fX5_placeOf_55 x v (nd c j)) (fun u => u = plc (l.map (tbF (tbM x))) v) := fun q => by
    rw [nd_ge q]; exact nof (fun i hi => hno i hi (by omega))
  refine ⟨fun q => last (by omega), fun q => ⟨fun e => ?_, fun e => ?_⟩⟩
  · by_cases hjl : j < c.length
    · rw [nd_lt hjl] at e
      rw [nI_nm1 (by have := seg_lt hs _ (List.getElem_mem hjl); omega)] at e
      exact e.elim
    · exact last (by omega)
  · by_cases hjl : j < c.length
    · have hn := seg_lt hs _ (List.getElem_mem hjl)
      have ein : inb (nd c j) 40 = true := by rw [nd_lt hjl]; exact inb_nI hn (by omega)
      have ecl : (nd c j).toNatClampNeg = c[j] := by rw [nd_lt hjl, nI_clamp (by omega)]
      rw [ecl]
      refine ⟨ein, fun e1 => fin j hjl e1, fun e1 => ⟨ein, ?_⟩⟩
      rw [seg_s hs j hjl]
      refine hrec (c.length - (j + 1)) _ (by omega) ⟨j + 1, rfl, by omega, rfl, fun i hi hij => ?_⟩
      by_cases e2 : i = j
      · subst e2; exact e1
      · exact hno i hi (by omega)
    · exact absurd (nd_ge (by omega)) e
theorem tab_freeSlot {x : TSt} (hex : ∃ s, s < 40 ∧ tbM x s = -1) : ∃ s, s < 40 ∧ tbM x s = -1 ∧ fX5_freeSlot x = some (nI s) := by
  have key : Ok (fX5_freeSlot x) (fun r => ∃ s, s < 40 ∧ tbM x s = -1 ∧ r = nI s) := by
    unfold fX5_freeSlot
    refine ok_iter (fun m st => ∃ i, m = 40 - i ∧ i ≤ 40 ∧ st = nI i ∧ ∀ s, s < i → tbM x s ≠ -1) _ ?_ FU 40 _ ⟨0, rfl, by omega, rfl, fun s h => by omega⟩ (by unfold FU; omega)
    rintro m st rec ⟨i, hm, hi, rfl, hno⟩ hrec
    unfold fX5_freeSlot_2
    simp (disch := omega) only [ok_if, ok_chk, ok_keep, ok_some, nI_leE, nI_1, d40, nI_clamp]
    refine ⟨fun h => ?_, fun h => ⟨inb_nI (by omega) (by omega), fun h1 => ⟨i, by omega, h1, rfl⟩, fun h1 => hrec (40 - (i + 1)) _ (by omega) ⟨i + 1, rfl, by omega, rfl, fun s hs => ?_⟩⟩⟩
    · obtain ⟨s, hs, he⟩ := hex
      exact absurd he (hno s (by omega))
    · by_cases e : s = i
      · subst e; exact h1
      · exact hno s (by omega)
  obtain ⟨r, hr, s, h1, h2, rfl⟩ := key
  exact ⟨s, h1, h2, hr⟩
/-- members below one, and the rest -/
def low (M : IA) (v : Int32) (s : Nat) : Bool := decide (M s < v)
def ins (M : IA) (n : Nat) (c : List Nat) : List Nat := c.filter (low M (M n)) ++ n :: c.filter (fun s => !low M (M n) s)
theorem asc_split {M : IA} {c1 c2 : List Nat} {v : Int32} (hp : (c1 ++ c2).Pairwise (fun s t => M s < M t)) (h1 : ∀ s ∈ c1, M s < v) (h2 : ∀ s t, c2 = s :: t → ¬ M s < v) : (c1 ++ c2).filter (low M v) = c1 ∧ (c1 ++ c2).filter (fun s => !low M v s) = c2 := by
  have g1 : ∀ s ∈ c1, low M v s = true := fun s hs => decide_eq_true (h1 s hs)
  have g2 : ∀ s ∈ c2, low M v s = false := fun s hs => by
    cases c2 with
    | nil => cases hs
    | cons a t =>
      have ha := h2 a t rfl
      rcases List.mem_cons.mp hs with e | hs
      · subst e; exact decide_eq_false ha
      · have := (List.pairwise_cons.mp (List.pairwise_append.mp hp).2.1).1 s hs
        exact decide_eq_false (fun q => ha (Int32.lt_trans this q))
  constructor
  · rw [List.filter_append, List.filter_eq_self.mpr g1, List.filter_eq_nil_iff.mpr (fun s hs => by rw [g2 s hs]; exact Bool.false_ne_true), List.append_nil]
  · rw [List.filter_append, List.filter_eq_nil_iff.mpr (fun s hs => by rw [g1 s hs]; exact Bool.false_ne_true), List.filter_eq_self.mpr (fun s hs => by rw [g2 s hs]; rfl), List.nil_append]
theorem tab_link {x : TSt} {n j : Nat} {c : List Nat} (hn : n < 40) (hj : j < 64) (hs : seg (tbX x) (tbH x j) c (-1)) (hd : c.Nodup) (hnc : n ∉ c) (hcl : c.length ≤ 40) (hp : c.Pairwise (fun s t => tbM x s < tbM x t)) :
    ∃ y, fX5_link x (nI n) (nI j) = some y ∧ tbM y = tbM x ∧ tbB y = tbB x ∧ tbC y = tbC x ∧ seg (tbX y) (tbH y j) (ins (tbM x) n c) (-1) ∧ (∀ i, i ≠ j → tbH y i = tbH x i) ∧ ∀ s, s ∉ c → s ≠ n → tbX y s = tbX x s := by
  unfold fX5_link
  rw [inb_nI hj (by omega), chk_r, keep_r, nI_clamp (by omega)]
  have fin : ∀ c1 c2 v3 v4, c = c1 ++ c2 → (∀ s ∈ c1, tbM x s < tbM x n) → (∀ s t, c2 = s :: t → ¬ tbM x s < tbM x n) → v4 = nd c2 0 → (c1 = [] ∧ v3 = -1 ∨ ∃ c0 a, c1 = c0 ++ [a] ∧ v3 = nI a) →
      Ok (fX5_link_60 x (nI n) (nI j) v3 v4) (fun y => tbM y = tbM x ∧ tbB y = tbB x ∧ tbC y = tbC x ∧ seg (tbX y) (tbH y j) (ins (tbM x) n c) (-1) ∧ (∀ i, i ≠ j → tbH y i = tbH x i) ∧ ∀ s, s ∉ c → s ≠ n → tbX y s = tbX x s) := by
    rintro c1 c2 v3 v4 rfl h1 h2 rfl h3
    obtain ⟨e1, e2⟩ := asc_split hp h1 h2
    unfold ins fX5_link_60
    rw [e1, e2, inb_nI hn (by omega), chk_r, keep_r, nI_clamp (by omega)]
    rcases h3 with ⟨rfl, rfl⟩ | ⟨c0, a, rfl, rfl⟩
    · rw [if_pos rfl, inb_nI hj (by omega), chk_r, keep_r, nI_clamp (by omega), ok_some]
      refine ⟨rfl, rfl, rfl, ?_, fun i hi => upd_o hi, fun s _ hs => upd_o hs⟩
      rw [List.nil_append] at hs hnc ⊢
      simp only [tbX, tbX_s, tbH, tbH_s, upd_s] at hs ⊢
      rw [← seg_0 hs]
      exact seg_put0 hs hnc hn
    · have ha : a < 40 := seg_lt hs a (by simp)
      rw [if_neg (by rw [nI_nm1 (by omega)]; exact id), inb_nI ha (by omega), chk_r, keep_r, nI_clamp (by omega), ok_some]
      have eb : (c0 ++ [a]) ++ c2 = c0 ++ a :: c2 := by simp
      have eb2 : (c0 ++ [a]) ++ n :: c2 = c0 ++ a :: n :: c2 := by simp
      rw [eb] at hs hd hnc hp
      have hX : tbX x a = nd c2 0 := by
        obtain ⟨m, q1, q2, q3, q4⟩ := seg_app.mp hs
        exact seg_0 q4
      refine ⟨rfl, rfl, rfl, ?_, fun i _ => rfl, fun s hsc hsn => ?_⟩
      · rw [eb2, ← hX]
        exact seg_put hs hd hnc hn
      · simp only [tbX, tbX_s]
        rw [eb] at hsc
        rw [upd_o (fun e => hsc (by rw [e]; simp)), upd_o hsn]
  rw [seg_0 hs]
  refine ok_iter (fun m st => ∃ i, m = c.length - i ∧ i ≤ c.length ∧ st.2 = (nd c i, nI i) ∧ (i = 0 ∧ st.1 = -1 ∨ 0 < i ∧ st.1 = nd c (i - 1)) ∧ ∀ t (ht : t < c.length), t < i → tbM x c[t] < tbM x n) _ ?_ FU c.length _ ⟨0, rfl, Nat.zero_le _, rfl, Or.inl ⟨rfl, rfl⟩, fun t _ h => by omega⟩ (by unfold FU; omega)
  rintro m ⟨v3, v4, v5⟩ rec ⟨i, hm, hi, he, h3, hlo⟩ hrec
  obtain ⟨rfl, rfl⟩ := Prod.mk.inj he
  dsimp only at h3
  have done : (∀ s t, c.drop i = s :: t → ¬ tbM x s < tbM x n) → Ok (fX5_link_60 x (nI n) (nI j) v3 (nd c i)) (fun y => tbM y = tbM x ∧ tbB y = tbB x ∧ tbC y = tbC x ∧ seg (tbX y) (tbH y j) (ins (tbM x) n c) (-1) ∧ (∀ i, i ≠ j → tbH y i = tbH x i) ∧ ∀ s, s ∉ c → s ≠ n → tbX y s = tbX x s) := fun hdr => by
    refine fin (c.take i) (c.drop i) v3 (nd c i) (List.take_append_drop i c).symm (fun s hs => ?_) hdr ?_ ?_
    · obtain ⟨t, ht, rfl⟩ := List.mem_iff_getElem.mp hs
      rw [List.getElem_take]
      rw [List.length_take] at ht
      exact hlo t (by omega) (by omega)
    · unfold nd; rw [List.getElem?_drop]; rfl
    · rcases h3 with ⟨h3, h4⟩ | ⟨h3, h4⟩
      · left; subst h3; exact ⟨rfl, h4⟩
      · right
        refine ⟨c.take (i - 1), c[i - 1]'(by omega), ?_, by rw [h4, nd_lt (by omega)]⟩
        obtain ⟨k, rfl⟩ : ∃ k, i = k + 1 := ⟨i - 1, by omega⟩
        rw [List.take_succ_eq_append_getElem (show k < c.length by omega)]
        rfl
  have past : c.length ≤ i → ∀ s t, c.drop i = s :: t → ¬ tbM x s < tbM x n := fun q s t e => by
    rw [List.drop_eq_nil_of_le q] at e; cases e
  unfold fX5_link_13
  simp (disch := omega) only [ok_if, ok_chk, ok_keep, nI_leE, nI_1, d40, nI_clamp]
  refine ⟨fun q => done (past (by omega)), fun q => ⟨fun e => ?_, fun e => ?_⟩⟩
  · by_cases hil : i < c.length
    · rw [nd_lt hil] at e
      rw [nI_nm1 (by have := seg_lt hs _ (List.getElem_mem hil); omega)] at e
      exact e.elim
    · exact done (past (by omega))
  · by_cases hil : i < c.length
    · have hc := seg_lt hs _ (List.getElem_mem hil)
      have ein : inb (nd c i) 40 = true := by rw [nd_lt hil]; exact inb_nI hc (by omega)
      have ecl : (nd c i).toNatClampNeg = c[i] := by rw [nd_lt hil, nI_clamp (by omega)]
      rw [ecl]
      refine ⟨ein, inb_nI hn (by omega), fun e1 => done (fun s t e2 => ?_), fun e1 => ⟨ein, ?_⟩⟩
      · rw [List.drop_eq_getElem_cons hil] at e2
        obtain ⟨rfl, -⟩ := List.cons.inj e2
        exact i32_nlt.mpr e1
      · rw [seg_s hs i hil]
        refine hrec (c.length - (i + 1)) _ (by omega) ⟨i + 1, rfl, by omega, rfl, Or.inr ⟨by omega, ?_⟩, fun t ht hti => ?_⟩
        · dsimp only; rfl
        · by_cases e2 : t = i
          · subst e2; exact i32_nle.mp e1
          · exact hlo t ht (by omega)
    · exact absurd (nd_ge (by omega)) e

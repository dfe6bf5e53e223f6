/-! tables: putting in, taking out, scans -/
theorem seg_congr {X Y : IA} {h' : Int32} : ∀ {c : List Nat} {h : Int32}, (∀ s ∈ c, Y s = X s) → seg X h c h' → seg Y h c h' := by
  intro c
  induction c with
  | nil => intro h _ q; exact q
  | cons a t ih =>
    intro h hY q
    obtain ⟨q1, q2, q3⟩ := q
    refine ⟨q1, q2, ?_⟩
    rw [hY a List.mem_cons_self]
    exact ih (fun s hs => hY s (List.mem_cons_of_mem _ hs)) q3
theorem asc_eq {M : IA} {v : Int32} : ∀ {l : List Nat}, l.Pairwise (fun s t => M s < M t) → l.filter (low M v) ++ l.filter (fun s => !low M v s) = l := by
  intro l
  induction l with
  | nil => intro _; rfl
  | cons a t ih =>
    intro hp
    obtain ⟨h1, h2⟩ := List.pairwise_cons.mp hp
    by_cases e : low M v a = true
    · rw [List.filter_cons_of_pos e, List.filter_cons_of_neg (by rw [e]; exact Bool.false_ne_true), List.cons_append, ih h2]
    · have ha : ¬ M a < v := fun q => e (decide_eq_true q)
      have g : ∀ s ∈ t, low M v s = false := fun s hs => decide_eq_false (fun q => ha (Int32.lt_trans (h1 s hs) q))
      have e' : low M v a = false := by simpa using e
      rw [List.filter_cons_of_neg e, List.filter_cons_of_pos (by rw [e']; rfl), List.filter_eq_nil_iff.mpr (fun s hs => by rw [g s hs]; exact Bool.false_ne_true), List.filter_eq_self.mpr (fun s hs => by rw [g s hs]; rfl), List.nil_append]
theorem flt_ins_t {M : IA} {n : Nat} {l : List Nat} {p : Nat → Bool} (hp : p n = true) : (ins M n l).filter p = ins M n (l.filter p) := by
  unfold ins
  rw [List.filter_append, List.filter_cons_of_pos hp, List.filter_filter, List.filter_filter, List.filter_filter, List.filter_filter]
  congr 1
  · congr 1; funext s; exact Bool.and_comm _ _
  · congr 2; funext s; exact Bool.and_comm _ _
theorem flt_ins_f {M : IA} {n : Nat} {l : List Nat} {p : Nat → Bool} (hp : p n = false) (ha : l.Pairwise (fun s t => M s < M t)) : (ins M n l).filter p = l.filter p := by
  unfold ins
  rw [List.filter_append, List.filter_cons_of_neg (by rw [hp]; exact Bool.false_ne_true), ← List.filter_append, asc_eq ha]
theorem flt_add {M : IA} {n : Nat} {l : List Nat} {p q : Nat → Bool} (hn : n ∈ l) (hd : l.Nodup) (ha : l.Pairwise (fun s t => M s < M t)) (hp : ∀ s ∈ l, s ≠ n → p s = q s) (hpn : p n = true) (hqn : q n = false) : l.filter p = ins M n (l.filter q) := by
  obtain ⟨l1, l2, rfl⟩ := List.append_of_mem hn
  have h1 := List.pairwise_append.mp ha
  have h2 := List.pairwise_cons.mp h1.2.1
  have d1 := List.nodup_append.mp hd
  have d2 := List.nodup_cons.mp d1.2.1
  have e1 : l1.filter p = l1.filter q := List.filter_congr (fun s hs => hp s (List.mem_append.mpr (Or.inl hs)) (fun e => (d1.2.2 s hs n List.mem_cons_self) e))
  have e2 : l2.filter p = l2.filter q := List.filter_congr (fun s hs => hp s (List.mem_append.mpr (Or.inr (List.mem_cons_of_mem _ hs))) (fun e => d2.1 (e ▸ hs)))
  rw [List.filter_append, List.filter_append, List.filter_cons_of_pos hpn, List.filter_cons_of_neg (by rw [hqn]; exact Bool.false_ne_true), e1, e2]
  unfold ins
  obtain ⟨g1, g2⟩ := asc_split (M := M) (v := M n) (c1 := l1.filter q) (c2 := l2.filter q) (List.pairwise_append.mpr ⟨h1.1.filter _, h2.2.filter _, fun a ha' b hb' => h1.2.2 a (List.mem_filter.mp ha').1 b (List.mem_cons_of_mem _ (List.mem_filter.mp hb').1)⟩) (fun s hs => h1.2.2 s (List.mem_filter.mp hs).1 n List.mem_cons_self) (fun s t e => i32_lt_asymm (h2.1 s (List.mem_filter.mp (by rw [e]; exact List.mem_cons_self)).1))
  rw [g1, g2]
def sins (L : LL) (v : Int32) : LL := L.filter (fun q => decide (q.1 < v)) ++ (v, 0) :: L.filter (fun q => !decide (q.1 < v))
theorem ins_map {M : IA} {n : Nat} {l : List Nat} : (ins M n l).map (tbF M) = sins (l.map (tbF M)) (M n) := by
  unfold ins sins
  rw [List.map_append, List.map_cons, List.filter_map, List.filter_map]
  rfl
theorem ins_perm {M : IA} {n : Nat} {l : List Nat} : (ins M n l).Perm (n :: l) := by
  unfold ins
  exact List.perm_middle.trans (List.Perm.cons _ (List.filter_append_perm _ _))
theorem Tab0.put {M : IA} {l : List Nat} (h : Tab0 M l) {n : Nat} {v : Int32} (hn : n < 40) (hnl : n ∉ l) (hv : isV v) (hvl : ∀ s ∈ l, M s ≠ v) (hlen : l.length < 40) : Tab0 (upd M n v) (ins (upd M n v) n l) ∧ l.Pairwise (fun s t => (upd M n v) s < (upd M n v) t) ∧ (∀ s ∈ l, upd M n v s = M s) := by
  obtain ⟨h1, h2, h3, h4, h5⟩ := h
  have e : ∀ s ∈ l, upd M n v s = M s := fun s hs => upd_o (fun q => hnl (q ▸ hs))
  have hp : l.Pairwise (fun s t => (upd M n v) s < (upd M n v) t) := by
    rw [List.pairwise_iff_getElem] at h5 ⊢
    intro i j hi hj hij
    rw [e _ (List.getElem_mem hi), e _ (List.getElem_mem hj)]
    exact h5 i j hi hj hij
  have hpm := ins_perm (M := upd M n v) (n := n) (l := l)
  refine ⟨⟨?_, ?_, ?_, ?_, ?_⟩, hp, e⟩
  · exact hpm.nodup_iff.mpr (List.nodup_cons.mpr ⟨hnl, h1⟩)
  · rw [hpm.length_eq, List.length_cons]; omega
  · intro s hs
    rcases List.mem_cons.mp (hpm.mem_iff.mp hs) with q | hs
    · subst q; rw [upd_s]; exact ⟨hn, hv⟩
    · rw [e s hs]; exact h3 s hs
  · intro s hs hsl
    have hs2 : s ≠ n ∧ s ∉ l := ⟨fun q => hsl (hpm.mem_iff.mpr (by rw [q]; exact List.mem_cons_self)), fun q => hsl (hpm.mem_iff.mpr (List.mem_cons_of_mem _ q))⟩
    rw [upd_o hs2.1]; exact h4 s hs hs2.2
  · unfold ins
    rw [List.pairwise_append]
    refine ⟨hp.filter _, List.pairwise_cons.mpr ⟨fun s hs => ?_, hp.filter _⟩, fun a ha' b hb' => ?_⟩
    · obtain ⟨q1, q2⟩ := List.mem_filter.mp hs
      rw [upd_s, e s q1]
      rw [upd_s] at q2
      have : ¬ upd M n v s < v := by simpa [low] using q2
      rw [e s q1] at this
      exact i32_lt_of_ne (i32_nlt.mp this) (fun w => hvl s q1 w.symm)
    · obtain ⟨q1, q2⟩ := List.mem_filter.mp ha'
      rw [upd_s] at q2
      have q3 : upd M n v a < v := by simpa [low] using q2
      rcases List.mem_cons.mp hb' with w | hb'
      · subst w; rw [upd_s]; exact q3
      · obtain ⟨r1, r2⟩ := List.mem_filter.mp hb'
        rw [upd_s] at r2
        have : ¬ upd M n v b < v := by simpa [low] using r2
        exact i32_nle.mp (fun w => this (by
          rw [Int32.le_iff_toInt_le] at w
          rw [Int32.lt_iff_toInt_lt] at q3 ⊢
          omega))
def bup (L : LL) (b : Nat) : Nat := if 2 ^ b < L.length + 1 then b + 1 else b
theorem tab_putIn {x : TSt} {L : LL} {b : Nat} (h : TabR x L b) {v : Int32} (hv : isV v) (hvl : ∀ q ∈ L, q.1 ≠ v) (hlen : L.length < 40) (p i : Int32) : ∃ y, fX5_putIn x i v p = some y ∧ TabR y (sins L v) (bup L b) := by
  obtain ⟨l, hb4, h1, h2, h3, rfl, h5⟩ := h
  rw [List.length_map] at hlen
  have hB := p2_lt hb4
  have hvl2 : ∀ s ∈ l, tbM x s ≠ v := fun s hs => hvl (tbF (tbM x) s) (List.mem_map_of_mem hs)
  obtain ⟨n, hn, hnm, hfs⟩ := tab_freeSlot (x := x) (by
    obtain ⟨s, e1, e2⟩ := free_ex h3.1 (fun s hs => (h3.2.2.1 s hs).1) hlen
    exact ⟨s, e1, h3.2.2.2.1 s e1 e2⟩)
  have hnl : n ∉ l := fun q => isV_ne (h3.2.2.1 n q).2 hnm
  obtain ⟨t1, t2, t3⟩ := h3.put hn hnl hv hvl2 hlen
  have hL : (ins (upd (tbM x) n v) n l).map (tbF (upd (tbM x) n v)) = sins (l.map (tbF (tbM x))) v := by
    rw [ins_map, upd_s]
    congr 1
    exact List.map_congr_left (fun s hs => by unfold tbF; rw [t3 s hs])
  have hlen2 : (ins (upd (tbM x) n v) n l).length = l.length + 1 := by rw [ins_perm.length_eq, List.length_cons]
  unfold fX5_putIn
  rw [hfs, Option.bind_some, if_neg (by rw [nI_nm1 (by omega)]; exact id), if_pos (isV_ge hv), inb_nI hn (by omega), chk_r, keep_r, keep_r, nI_clamp (by omega)]
  generalize hM : upd (tbM x) n v = M at *
  have hMn : M n = v := by rw [← hM]; exact upd_s
  obtain ⟨x1, hx1⟩ : ∃ z, z = tbC_s (tbM_s x M) (tbC (tbM_s x M) + 1) := ⟨_, rfl⟩
  rw [← hx1]
  have fC : tbC x1 = nI (l.length + 1) := by rw [hx1]; show tbC x + 1 = _; rw [h2, nI_1]
  have fB : tbB x1 = nI (2 ^ b) := by rw [hx1]; exact h1
  have fM : tbM x1 = M := by rw [hx1]; rfl
  have fH : tbH x1 = tbH x := by rw [hx1]; rfl
  have fX : tbX x1 = tbX x := by rw [hx1]; rfl
  clear hx1
  have hin : ∀ s ∈ l, ∀ b j, inB M b j s = inB (tbM x) b j s := fun s hs b j => by unfold inB; rw [t3 s hs]
  have same : Ok (fX5_putIn_55 x1 v (nI n)) (fun y => TabR y (sins (l.map (tbF (tbM x))) v) b) := by
    unfold fX5_putIn_55
    have hj := hb_lt (b := b) v
    rw [tab_bucketOf hb4 fB hv, Option.bind_some, ok_bind]
    have hsub : ∀ s, s ∈ l.filter (inB (tbM x) b (hb b v)) → s ∈ l := fun s q => (List.mem_filter.mp q).1
    obtain ⟨y, y1, y2, y3, y4, y5, y6, y7⟩ := tab_link (x := x1) hn (show hb b v < 64 by omega) (by rw [fX, fH]; exact h5 _ hj) (ndf _ h3.1) (fun q => hnl (hsub _ q)) (Nat.le_trans (List.length_filter_le _ _) h3.2.1) (by rw [fM]; exact t2.filter _)
    rw [fM] at y2 y5
    rw [fB] at y3
    rw [fC] at y4
    rw [fH] at y6
    rw [fX] at y7
    refine ok_eq y1 ?_
    rw [ok_keep, ok_some]
    refine ⟨ins M n l, hb4, y3, by rw [hlen2]; exact y4, ?_, ?_, fun j hj2 => ?_⟩
    · rw [y2]; exact t1
    · rw [y2]; exact hL.symm
    · rw [y2]
      have ef : l.filter (inB M b j) = l.filter (inB (tbM x) b j) := List.filter_congr (fun s hs => hin s hs b j)
      by_cases e : j = hb b v
      · subst e
        rw [flt_ins_t (by unfold inB; rw [hMn]; exact decide_eq_true rfl), ef]
        exact y5
      · rw [flt_ins_f (by unfold inB; rw [hMn]; exact decide_eq_false (fun q => e q.symm)) t2, ef, y6 j e]
        refine seg_congr (fun s hs => y7 s (fun q => ?_) (fun q => hnl (q ▸ (List.mem_filter.mp hs).1))) (h5 j hj2)
        have a1 := (List.mem_filter.mp hs).2
        have a2 := (List.mem_filter.mp q).2
        unfold inB at a1 a2
        exact e ((of_decide_eq_true a1).symm.trans (of_decide_eq_true a2))
  by_cases hg : 2 ^ b < l.length + 1
  · have hb5 : b + 1 ≤ 6 := by
      rcases p2_cases hb4 with e | e | e <;> subst e
      · omega
      · omega
      · have : (2 : Nat) ^ 6 = 64 := by decide
        omega
    have hb6 : 4 ≤ b + 1 ∧ b + 1 ≤ 6 := by omega
    have hBB := p2_lt hb6
    have h2b : 2 ^ (b + 1) = 2 ^ b * 2 := Nat.pow_succ 2 b
    rw [fC, fB, if_neg (nI_ge hg (by omega)), if_pos (by rw [d64]; exact nI_lt (by omega) (by omega)), keep_r]
    rw [d2, pk_mul, ← h2b]
    show Ok _ _
    rw [ok_bind]
    refine ok_mono (ok_fill (by omega) _ (-1)) (fun H' hH' => ?_)
    rw [ok_keep, show bup (l.map (tbF (tbM x))) b = b + 1 from by unfold bup; rw [List.length_map, if_pos hg]]
    have hall : ∀ s ∈ ins M n l, s < 40 ∧ isV (M s) := t1.2.2.1
    refine ok_iter (fun m st => ∃ i, m = 40 - i ∧ i ≤ 40 ∧ st.2 = nI i ∧ tbM st.1 = M ∧ tbB st.1 = nI (2 ^ (b + 1)) ∧ tbC st.1 = nI (l.length + 1) ∧ ∀ j, j < 2 ^ (b + 1) → seg (tbX st.1) (tbH st.1 j) ((ins M n l).filter (fun s => inB M (b + 1) j s && decide (s < i))) (-1)) _ ?_ FU 40 _ ⟨0, rfl, by omega, rfl, fM, rfl, fC, fun j hj => ?_⟩ (by unfold FU; omega)
    · rintro m ⟨x, v5⟩ rec ⟨i, hm, hi, hv5, x1, x2, x3, x4⟩ hrec
      dsimp only at hv5 x1 x2 x3 x4
      subst hv5
      unfold fX5_putIn_88
      simp (disch := omega) only [ok_if, ok_chk, ok_keep, ok_some, ok_bind, nI_leE, nI_1, d40, nI_clamp]
      have hin40 : ¬ 40 ≤ i → inb (nI i) 40 = true := fun _ => inb_nI (by omega) (by omega)
      refine ⟨fun q => ?_, fun q => ⟨hin40 q, fun e => ?_, fun e => ⟨hin40 q, ?_⟩⟩⟩
      · refine ⟨ins M n l, hb6, x2, by rw [hlen2]; exact x3, by rw [x1]; exact t1, by rw [x1]; exact hL.symm, fun j hj => ?_⟩
        have := x4 j hj
        rw [x1]
        rw [List.filter_congr (q := inB M (b + 1) j) (fun s hs => by
          rw [decide_eq_true (show s < i by have := (hall s hs).1; omega), Bool.and_true])] at this
        exact this
      · refine hrec (40 - (i + 1)) _ (by omega) ⟨i + 1, rfl, by omega, rfl, x1, x2, x3, fun j hj => ?_⟩
        have hni : i ∉ ins M n l := fun w => isV_ne (hall i w).2 (by rw [← x1]; exact e)
        rw [List.filter_congr (q := fun s => inB M (b + 1) j s && decide (s < i)) (fun s hs => by
          have : s ≠ i := fun w => hni (w ▸ hs)
          rw [show decide (s < i + 1) = decide (s < i) from decide_eq_decide.mpr (by omega)])]
        exact x4 j hj
      · have hil : i ∈ ins M n l := t1.mem (by omega) (by rw [← x1]; exact e)
        rw [x1, tab_bucketOf hb6 x2 (hall i hil).2, ok_some]
        have hj := hb_lt (b := b + 1) (M i)
        have hni : i ∉ (ins M n l).filter (fun s => inB M (b + 1) (hb (b + 1) (M i)) s && decide (s < i)) := fun w => by
          have := (List.mem_filter.mp w).2
          simp at this
        obtain ⟨y, y1, y2, y3, y4, y5, y6, y7⟩ := tab_link (x := x) (show i < 40 by omega) (show hb (b + 1) (M i) < 64 by omega) (x4 _ hj) (ndf _ t1.1) hni (Nat.le_trans (List.length_filter_le _ _) t1.2.1) (by rw [x1]; exact t1.2.2.2.2.filter _)
        rw [x1] at y5
        refine ok_eq y1 (hrec (40 - (i + 1)) _ (by omega) ⟨i + 1, rfl, by omega, rfl, y2.trans x1, y3.trans x2, y4.trans x3, fun j hj2 => ?_⟩)
        dsimp only
        by_cases ej : j = hb (b + 1) (M i)
        · subst ej
          rw [flt_add (M := M) (q := fun s => inB M (b + 1) (hb (b + 1) (M i)) s && decide (s < i)) hil t1.1 t1.2.2.2.2 (fun s _ hsi => by
            rw [show decide (s < i + 1) = decide (s < i) from decide_eq_decide.mpr (by omega)]) (by simp [inB]) (by simp)]
          exact y5
        · rw [List.filter_congr (q := fun s => inB M (b + 1) j s && decide (s < i)) (fun s hs => by
            by_cases w : s = i
            · subst w
              have : inB M (b + 1) j s = false := decide_eq_false (fun q => ej q.symm)
              rw [this]; rfl
            · rw [show decide (s < i + 1) = decide (s < i) from decide_eq_decide.mpr (by omega)]), y6 j ej]
          refine seg_congr (fun s hs => y7 s (fun q => ?_) (fun q => ?_)) (x4 j hj2)
          · have a1 := (List.mem_filter.mp hs).2
            have a2 := (List.mem_filter.mp q).2
            simp only [inB, Bool.and_eq_true, decide_eq_true_eq] at a1 a2
            exact ej (a1.1.symm.trans a2.1)
          · have a1 := (List.mem_filter.mp hs).2
            simp only [inB, Bool.and_eq_true, decide_eq_true_eq] at a1
            omega
    · rw [List.filter_eq_nil_iff.mpr (fun s _ => by simp)]
      exact hH' j (by omega)
  · rw [fC, fB, if_pos (nI_le (by omega) (by omega)), show bup (l.map (tbF (tbM x))) b = b from by unfold bup; rw [List.length_map, if_neg hg]]
    exact same

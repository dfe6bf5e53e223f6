/-! linked nodes -/
def seg (X : IA) : Int32 → List Nat → Int32 → Prop
  | h, [], h' => h = h'
  | h, n :: t, h' => h = nI n ∧ n < 40 ∧ seg X (X n) t h'
def nd (c : List Nat) (i : Nat) : Int32 := match c[i]? with
  | some n => nI n
  | none => -1
theorem seg_app {X : IA} {h' : Int32} {c2 : List Nat} : ∀ {c1 : List Nat} {h : Int32}, seg X h (c1 ++ c2) h' ↔ ∃ m, seg X h c1 m ∧ seg X m c2 h' := by
  intro c1
  induction c1 with
  | nil => intro h; exact ⟨fun q => ⟨h, rfl, q⟩, fun ⟨m, e, q⟩ => by rw [show h = m from e]; exact q⟩
  | cons a t ih =>
    intro h
    exact ⟨fun ⟨q1, q2, q3⟩ => by
      obtain ⟨m, r1, r2⟩ := ih.mp q3
      exact ⟨m, ⟨q1, q2, r1⟩, r2⟩, fun ⟨m, ⟨q1, q2, r1⟩, r2⟩ => ⟨q1, q2, ih.mpr ⟨m, r1, r2⟩⟩⟩
theorem seg_upd {X : IA} {n : Nat} {v h' : Int32} : ∀ {c : List Nat} {h : Int32}, n ∉ c → seg X h c h' → seg (upd X n v) h c h' := by
  intro c
  induction c with
  | nil => intro h _ q; exact q
  | cons a t ih =>
    intro h hn q
    obtain ⟨q1, q2, q3⟩ := q
    refine ⟨q1, q2, ?_⟩
    rw [upd_o (fun e => hn (by rw [e]; exact List.mem_cons_self))]
    exact ih (fun m => hn (List.mem_cons_of_mem _ m)) q3
theorem seg_lt {X : IA} {h' : Int32} : ∀ {c : List Nat} {h : Int32}, seg X h c h' → ∀ n ∈ c, n < 40 := by
  intro c
  induction c with
  | nil => intro h _ n hn; cases hn
  | cons a t ih =>
    intro h q n hn
    rcases List.mem_cons.mp hn with e | hn
    · rw [e]; exact q.2.1
    · exact ih q.2.2 n hn
theorem nd_lt {c : List Nat} {i : Nat} (h : i < c.length) : nd c i = nI c[i] := by
  unfold nd
  rw [List.getElem?_eq_getElem h]
theorem nd_ge {c : List Nat} {i : Nat} (h : c.length ≤ i) : nd c i = -1 := by
  unfold nd
  rw [List.getElem?_eq_none h]
theorem seg_0 {X : IA} {c : List Nat} {h : Int32} (q : seg X h c (-1)) : h = nd c 0 := by
  cases c with
  | nil => exact q
  | cons a t => rw [nd_lt (by simp)]; exact q.1
theorem seg_s {X : IA} : ∀ {c : List Nat} {h : Int32}, seg X h c (-1) → ∀ i (hi : i < c.length), X c[i] = nd c (i + 1) := by
  intro c
  induction c with
  | nil => intro h _ i hi; exact absurd hi (Nat.not_lt_zero i)
  | cons a t ih =>
    intro h q i hi
    cases i with
    | zero =>
      have := seg_0 q.2.2
      unfold nd at this ⊢
      simpa using this
    | succ i =>
      have hi2 : i < t.length := by simpa using hi
      have := ih q.2.2 i hi2
      unfold nd at this ⊢
      simpa using this
/-- a node goes in ahead of all -/
theorem seg_put0 {X : IA} {h h' : Int32} {c : List Nat} {n : Nat} (q : seg X h c h') (hn : n ∉ c) (hl : n < 40) : seg (upd X n h) (nI n) (n :: c) h' := by
  refine ⟨rfl, hl, ?_⟩
  rw [upd_s]
  exact seg_upd hn q
/-- a node goes in behind another -/
theorem seg_put {X : IA} {h h' : Int32} {c1 c2 : List Nat} {a n : Nat} (q : seg X h (c1 ++ a :: c2) h') (hd : (c1 ++ a :: c2).Nodup) (hn : n ∉ c1 ++ a :: c2) (hl : n < 40) : seg (upd (upd X n (X a)) a (nI n)) h (c1 ++ a :: n :: c2) h' := by
  obtain ⟨m, q1, q2, q3, q4⟩ := seg_app.mp q
  have h1 := List.nodup_append.mp hd
  have ha1 : a ∉ c1 := fun w => (h1.2.2 a w a List.mem_cons_self) rfl
  have ha2 : a ∉ c2 := (List.nodup_cons.mp h1.2.1).1
  have hn1 : n ∉ c1 := fun w => hn (List.mem_append.mpr (Or.inl w))
  have hn2 : n ∉ c2 := fun w => hn (List.mem_append.mpr (Or.inr (List.mem_cons_of_mem _ w)))
  have hna : n ≠ a := fun w => hn (List.mem_append.mpr (Or.inr (by rw [w]; exact List.mem_cons_self)))
  refine seg_app.mpr ⟨m, seg_upd ha1 (seg_upd hn1 q1), q2, q3, ?_, hl, ?_⟩
  · rw [upd_s]
  · rw [upd_o hna, upd_s]
    exact seg_upd ha2 (seg_upd hn2 q4)
/-- a node goes out behind another -/
theorem seg_del {X : IA} {h h' : Int32} {c1 c2 : List Nat} {a n : Nat} (q : seg X h (c1 ++ a :: n :: c2) h') (hd : (c1 ++ a :: n :: c2).Nodup) : seg (upd X a (X n)) h (c1 ++ a :: c2) h' := by
  obtain ⟨m, q1, q2, q3, q4, q5, q6⟩ := seg_app.mp q
  have h1 := List.nodup_append.mp hd
  have ha1 : a ∉ c1 := fun w => (h1.2.2 a w a List.mem_cons_self) rfl
  have ha2 : a ∉ c2 := fun w => (List.nodup_cons.mp h1.2.1).1 (List.mem_cons_of_mem _ w)
  refine seg_app.mpr ⟨m, seg_upd ha1 q1, q2, q3, ?_⟩
  rw [upd_s]
  exact seg_upd ha2 q6
theorem seg_range {X : IA} : ∀ (n a : Nat), a + n ≤ 40 → (∀ i, a ≤ i → i < a + n → X i = if i + 1 < a + n then nI (i + 1) else -1) → 0 < n → seg X (nI a) (List.range' a n) (-1) := by
  intro n
  induction n with
  | zero => intro a _ _ h; exact absurd h (Nat.lt_irrefl 0)
  | succ n ih =>
    intro a ha hX _
    rw [List.range'_succ]
    refine ⟨rfl, by omega, ?_⟩
    rw [hX a (Nat.le_refl _) (by omega)]
    cases n with
    | zero => rw [if_neg (by omega)]; rfl
    | succ n =>
      rw [if_pos (by omega)]
      exact ih (a + 1) (by omega) (fun i h1 h2 => by rw [hX i (by omega) (by omega)]; congr 1; exact propext ⟨fun _ => by omega, fun _ => by omega⟩) (by omega)
theorem ins_app {α : Type} {a : α} {l2 : List α} : ∀ (l1 : List α), (l1 ++ l2).insertIdx l1.length a = l1 ++ a :: l2 := by
  intro l1
  induction l1 with
  | nil => simp
  | cons b t ih => simp [ih]
theorem del_app {α : Type} {a : α} {l2 : List α} : ∀ (l1 : List α), (l1 ++ a :: l2).eraseIdx l1.length = l1 ++ l2 := by
  intro l1
  induction l1 with
  | nil => simp
  | cons b t ih => simp [ih]
theorem spl {α : Type} {l : List α} {i : Nat} (h : i ≤ l.length) : ∃ l1 l2, l = l1 ++ l2 ∧ l1.length = i := ⟨l.take i, l.drop i, (List.take_append_drop i l).symm, by rw [List.length_take]; omega⟩
theorem spl1 {α : Type} {l : List α} {i : Nat} (h : i < l.length) : ∃ l1 a l2, l = l1 ++ a :: l2 ∧ l1.length = i ∧ a = l[i] := by
  refine ⟨l.take i, l[i], l.drop (i + 1), ?_, by rw [List.length_take]; omega, rfl⟩
  rw [List.getElem_cons_drop, List.take_append_drop]
def chF (x : CSt) (n : Nat) : Int32 × Int32 := (chE x n, chP x n)
def ChnR (x : CSt) (L : LL) : Prop := ∃ c s : List Nat, seg (chX x) (chH x) c (-1) ∧ seg (chX x) (chS x) s (-1) ∧ (c ++ s).Nodup ∧ c.length + s.length = 40 ∧ L = c.map (chF x)
theorem chn_nodeAt {x : CSt} {c : List Nat} (h : seg (chX x) (chH x) c (-1)) (hc : c.length ≤ 40) (p : Int32) : fX0_nodeAt x p = some (if p < 0 then -1 else nd c p.toNatClampNeg) := by
  apply ok_is
  unfold fX0_nodeAt
  have key : ∀ (j0 i : Nat), i < 2 ^ 31 → j0 ≤ i → j0 ≤ c.length → Ok (iterK FU (fX0_nodeAt_15 x (nI i)) (nd c j0, nI j0)) (fun u => u = nd c i) := by
    intro j0 i hi h0 h1
    refine ok_iter (fun m s => ∃ j, m = c.length - j ∧ s = (nd c j, nI j) ∧ j ≤ i ∧ j ≤ c.length) _ ?_ FU (c.length - j0) _ ⟨j0, rfl, rfl, h0, h1⟩ (by unfold FU; omega)
    rintro m s rec ⟨j, hm, rfl, hj, hj2⟩ hrec
    unfold fX0_nodeAt_15
    simp (disch := omega) only [ok_if, ok_chk, ok_keep, ok_some, nI_leE, nI_1]
    refine ⟨fun q => by rw [show i = j by omega], fun q => ⟨fun e => ?_, fun e => ?_⟩⟩
    · by_cases hjl : j < c.length
      · rw [nd_lt hjl] at e
        rw [nI_nm1 (by have := seg_lt h _ (List.getElem_mem hjl); omega)] at e
        exact e.elim
      · rw [nd_ge (by omega), nd_ge (by omega)]
    · by_cases hjl : j < c.length
      · have hn := seg_lt h _ (List.getElem_mem hjl)
        rw [nd_lt hjl, nI_clamp (by omega), seg_s h j hjl]
        exact ⟨inb_nI hn (by omega), hrec (c.length - (j + 1)) _ (by omega) ⟨j + 1, rfl, rfl, by omega, by omega⟩⟩
      · exact absurd (nd_ge (by omega)) e
  by_cases hp : p < 0
  · rw [if_neg (by rw [Int32.le_iff_toInt_le]; rw [Int32.lt_iff_toInt_lt] at hp; omega), if_pos hp]
    have e1 : (fX0_nodeAt_15 x p) = fX0_nodeAt_15 x p := rfl
    refine ok_iter (fun m s => m = 0 ∧ s = (-1, 0)) _ ?_ FU 0 _ ⟨rfl, rfl⟩ (by unfold FU; omega)
    rintro m s rec ⟨hm, rfl⟩ hrec
    unfold fX0_nodeAt_15
    simp only [ok_if, ok_some]
    exact ⟨fun _ => trivial, fun _ => ⟨fun _ => trivial, fun e => absurd trivial e⟩⟩
  · obtain ⟨i, hi, rfl⟩ := nI_of hp
    rw [if_pos (nI_pos' hi), if_neg hp, nI_clamp hi, ok_keep, seg_0 h]
    exact key 0 i hi (Nat.zero_le _) (Nat.zero_le _)
theorem chn_valueAt {x : CSt} {L : LL} (h : ChnR x L) (p : Int32) : fX0_valueAt x p = some (vat L p) := by
  obtain ⟨c, s, h1, h2, h3, h4, rfl⟩ := h
  unfold fX0_valueAt
  rw [chn_nodeAt h1 (by omega), Option.bind_some]
  by_cases hp : p < 0
  · rw [if_pos hp, if_pos rfl, vat_neg hp]
  · obtain ⟨i, hi, rfl⟩ := nI_of hp
    rw [if_neg hp, nI_clamp hi]
    by_cases hl : i < c.length
    · have hn := seg_lt h1 _ (List.getElem_mem hl)
      rw [nd_lt hl, if_neg (by rw [nI_nm1 (by omega)]; exact id), inb_nI hn (by omega), chk_r, nI_clamp (by omega), vat_nI (by rw [List.length_map]; exact hl) (by rw [List.length_map]; omega), List.getElem_map]
      rfl
    · rw [nd_ge (by omega), if_pos rfl, vat_out (by rw [List.length_map]; omega) hi]
theorem chn_bitsAt {x : CSt} {L : LL} (h : ChnR x L) (p : Int32) : fX0_bitsAt x p = some (bat L p) := by
  obtain ⟨c, s, h1, h2, h3, h4, rfl⟩ := h
  unfold fX0_bitsAt
  rw [chn_nodeAt h1 (by omega), Option.bind_some]
  by_cases hp : p < 0
  · rw [if_pos hp, if_pos rfl, bat_neg hp]
  · obtain ⟨i, hi, rfl⟩ := nI_of hp
    rw [if_neg hp, nI_clamp hi]
    by_cases hl : i < c.length
    · have hn := seg_lt h1 _ (List.getElem_mem hl)
      rw [nd_lt hl, if_neg (by rw [nI_nm1 (by omega)]; exact id), inb_nI hn (by omega), chk_r, nI_clamp (by omega), bat_nI (by rw [List.length_map]; exact hl) (by rw [List.length_map]; omega), List.getElem_map]
      rfl
    · rw [nd_ge (by omega), if_pos rfl, bat_out (by rw [List.length_map]; omega) hi]
theorem chn_placeOf {x : CSt} {L : LL} (h : ChnR x L) (v : Int32) : fX0_placeOf x v = some (plc L v) := by
  obtain ⟨c, s, h1, h2, h3, h4, rfl⟩ := h
  apply ok_is
  unfold fX0_placeOf
  rw [ok_keep, seg_0 h1]
  refine ok_iter (fun m s => ∃ j, m = c.length - j ∧ j ≤ c.length ∧ s = (nd c j, nI j) ∧ ∀ i (hi : i < c.length), i < j → decide ((chE x c[i]) = v) = false) _ ?_ FU c.length _ ⟨0, rfl, Nat.zero_le _, rfl, fun i _ h => by omega⟩ (by unfold FU; omega)
  rintro m s rec ⟨j, hm, hj, rfl, hb⟩ hrec
  unfold fX0_placeOf_7
  have none' : c.length ≤ j → (-1 : Int32) = plc (c.map (chF x)) v := fun hl => by
    unfold plc fi
    rw [fi_none (fun i hi => by
      rw [List.getElem_map]
      exact hb i (by simpa using hi) (by have : i < c.length := by simpa using hi
                                         omega)), if_neg (by omega)]
  simp (disch := omega) only [ok_if, ok_chk, ok_keep, ok_some, nI_leE, nI_1, d40]
  refine ⟨fun q => none' (by omega), fun q => ⟨fun e => ?_, fun e => ?_⟩⟩
  · by_cases hjl : j < c.length
    · rw [nd_lt hjl] at e
      rw [nI_nm1 (by have := seg_lt h1 _ (List.getElem_mem hjl); omega)] at e
      exact e.elim
    · exact none' (by omega)
  · by_cases hjl : j < c.length
    · have hn := seg_lt h1 _ (List.getElem_mem hjl)
      rw [nd_lt hjl, nI_clamp (by omega)]
      refine ⟨inb_nI hn (by omega), fun e => ?_, fun e => ⟨inb_nI hn (by omega), ?_⟩⟩
      · unfold plc fi
        rw [fi_at (i := j) (by simpa using hjl) (by rw [List.getElem_map]; exact decide_eq_true e) (fun i hi hij => by
          rw [List.getElem_map]
          exact hb i (by simpa using hi) hij), if_pos (by simpa using hjl)]
      · rw [seg_s h1 j hjl]
        refine hrec (c.length - (j + 1)) _ (by omega) ⟨j + 1, rfl, by omega, rfl, fun i hi hij => ?_⟩
        by_cases e2 : i = j
        · subst e2; exact decide_eq_false e
        · exact hb i hi (by omega)
    · exact absurd (nd_ge (by omega)) e
theorem chn_empty (x : CSt) : ∃ y, fX0_makeEmpty x = some y ∧ ChnR y [] := by
  unfold fX0_makeEmpty
  rw [keep_r, keep_r]
  refine ok_iter (fun m s => ∃ i, m = 40 - i ∧ i ≤ 40 ∧ s.2 = nI i ∧ chH s.1 = -1 ∧ chS s.1 = 0 ∧ ∀ j, j < i → chX s.1 j = if j + 1 < 40 then nI (j + 1) else -1) _ ?_ FU 40 _ ⟨0, rfl, by omega, rfl, rfl, rfl, fun j h => by omega⟩ (by unfold FU; omega)
  rintro m ⟨x, v⟩ rec ⟨i, hm, hi, hv, h1, h2, h3⟩ hrec
  dsimp only at hv h1 h2 h3
  subst hv
  unfold fX0_makeEmpty_12 fX0_makeEmpty_38
  simp (disch := omega) only [ok_if, ok_chk, ok_keep, ok_some, nI_leE, nI_1, d40]
  refine ⟨fun h => ⟨[], List.range' 0 40, h1, ?_, ?_, by simp, rfl⟩, fun h => ⟨fun h5 => ⟨inb_nI (by omega) (by omega), ?_⟩, fun h5 => ⟨inb_nI (by omega) (by omega), ?_⟩⟩⟩
  · rw [h2]
    exact seg_range 40 0 (by omega) (fun j _ hj => by rw [h3 j (by omega)]) (by omega)
  · rw [List.nil_append]; exact List.nodup_range'
  · refine hrec (40 - (i + 1)) _ (by omega) ⟨i + 1, rfl, by omega, rfl, h1, h2, fun j hj => ?_⟩
    rw [nI_clamp (by omega)]
    simp only [chX, chX_s]
    by_cases e : j = i
    · subst e; rw [upd_s, if_neg (by omega)]
    · rw [upd_o e]; exact h3 j (by omega)
  · refine hrec (40 - (i + 1)) _ (by omega) ⟨i + 1, rfl, by omega, rfl, h1, h2, fun j hj => ?_⟩
    rw [nI_clamp (by omega)]
    simp only [chX, chX_s]
    by_cases e : j = i
    · subst e; rw [upd_s, if_pos (by omega)]
    · rw [upd_o e]; exact h3 j (by omega)
theorem chn_putIn {x : CSt} {L : LL} (h : ChnR x L) {i : Nat} (hi : i ≤ L.length) (hl : L.length < 40) (v b : Int32) : ∃ y, fX0_putIn x (nI i) v b = some y ∧ ChnR y (L.insertIdx i (v, b)) := by
  obtain ⟨c, s, h1, h2, h3, h4, rfl⟩ := h
  rw [List.length_map] at hi hl
  obtain ⟨n, s', rfl⟩ : ∃ n s', s = n :: s' := by
    cases s with
    | nil => simp at h4; omega
    | cons n s' => exact ⟨n, s', rfl⟩
  obtain ⟨hS, hn, h2'⟩ := h2
  have hd := List.nodup_append.mp h3
  have hnc : n ∉ c := fun w => (hd.2.2 n w n List.mem_cons_self) rfl
  have hns : n ∉ s' := (List.nodup_cons.mp hd.2.1).1
  have hbn : inb (nI n) 40 = true := inb_nI hn (by omega)
  have hcl : (nI n).toNatClampNeg = n := nI_clamp (by omega)
  unfold fX0_putIn
  rw [chn_nodeAt h1 (by omega), Option.bind_some, keep_r, hS, if_neg (by rw [nI_nm1 (by omega)]; exact id)]
  unfold fX0_putIn_32
  cases i with
  | zero =>
    rw [if_pos (show (nI 0 - 1) < 0 by decide), if_pos (show nI 0 = 0 from rfl)]
    simp only [hbn, chk_r, keep_r, hcl]
    rw [if_pos trivial]
    refine ⟨_, rfl, n :: c, s', ?_, ?_, ?_, ?_, ?_⟩
    · exact seg_put0 h1 hnc hn
    · exact seg_upd hns h2'
    · exact (List.Perm.nodup_iff (List.perm_middle (l₁ := c) (l₂ := s') (a := n))).mp h3
    · simp at h4 ⊢; omega
    · rw [List.insertIdx_zero, List.map_cons]
      congr 1
      · simp [chF, chE, chP, chE_s, chP_s, chS_s, chX_s, chH_s, upd_s]
      · refine List.map_congr_left (fun q hq => ?_)
        have e : q ≠ n := fun e => hnc (e ▸ hq)
        simp [chF, chE, chP, chE_s, chP_s, chS_s, chX_s, chH_s, upd_o e]
  | succ k =>
    obtain ⟨c1, a, c2, rfl, hk, -⟩ := spl1 (show k < c.length by omega)
    have ha : a < 40 := seg_lt h1 a (by simp)
    have hna : a ≠ n := fun e => hnc (by rw [← e]; simp)
    have has : a ∉ s' := fun w => (hd.2.2 a (by simp) a (List.mem_cons_of_mem _ w)) rfl
    have e1 : nd (c1 ++ a :: c2) k = nI a := by
      rw [nd_lt (by rw [List.length_append, List.length_cons]; omega)]
      subst hk
      simp
    rw [nI_pred, if_neg (nI_pos (by omega)), nI_clamp (show k < 2 ^ 31 by omega), e1]
    have n1 : ¬ nI a = -1 := by rw [nI_nm1 (by omega)]; exact id
    have n2 : ¬ nI (k + 1) = 0 := by rw [nI_eq0 (by omega)]; omega
    rw [if_neg n2, if_neg n1]
    simp only [hbn, chk_r, keep_r, hcl]
    rw [if_neg n1]
    simp only [hbn, chk_r, keep_r, hcl, inb_nI ha (show 40 < 2 ^ 31 by omega), nI_clamp (show a < 2 ^ 31 by omega)]
    refine ⟨_, rfl, c1 ++ a :: n :: c2, s', ?_, ?_, ?_, ?_, ?_⟩
    · exact seg_put h1 hd.1 hnc hn
    · exact seg_upd has (seg_upd hns h2')
    · refine (List.Perm.nodup_iff ?_).mp h3
      have p1 : ((c1 ++ a :: c2) ++ n :: s').Perm (n :: ((c1 ++ a :: c2) ++ s')) := List.perm_middle
      have p2 : ((c1 ++ a :: n :: c2) ++ s').Perm (n :: ((c1 ++ a :: c2) ++ s')) := by
        have : (c1 ++ a :: n :: c2) ++ s' = (c1 ++ [a]) ++ n :: (c2 ++ s') := by simp
        rw [this]
        have e : (c1 ++ a :: c2) ++ s' = (c1 ++ [a]) ++ (c2 ++ s') := by simp
        rw [e]
        exact List.perm_middle
      exact p1.trans p2.symm
    · simp at h4 ⊢; omega
    · have e2 : (c1 ++ a :: c2).map (chF x) = (c1 ++ [a]).map (chF x) ++ c2.map (chF x) := by simp
      have e3 : ((c1 ++ [a]).map (chF x)).length = k + 1 := by simp; omega
      rw [e2, ← e3, ins_app]
      have e4 : c1 ++ a :: n :: c2 = (c1 ++ [a]) ++ n :: c2 := by simp
      rw [e4]
      refine Eq.trans ?_ (List.map_append).symm
      congr 1
      · refine List.map_congr_left (fun q hq => ?_)
        have e : q ≠ n := fun e => hnc (by
          rw [← e]
          rcases List.mem_append.mp hq with w | w
          · simp [w]
          · simp at w; simp [w])
        simp [chF, chE, chP, chE_s, chP_s, chS_s, chX_s, chH_s, upd_o e]
      · refine Eq.trans ?_ (List.map_cons).symm
        congr 1
        · simp [chF, chE, chP, chE_s, chP_s, chS_s, chX_s, chH_s, upd_s]
        · refine List.map_congr_left (fun q hq => ?_)
          have e : q ≠ n := fun e => hnc (by rw [← e]; simp [hq])
          simp [chF, chE, chP, chE_s, chP_s, chS_s, chX_s, chH_s, upd_o e]
theorem chn_dropOut {x : CSt} {L : LL} (h : ChnR x L) {i : Nat} (hi : i < L.length) (v : Int32) : ∃ y, fX0_dropOut x (nI i) v = some y ∧ ChnR y (L.eraseIdx i) := by
  obtain ⟨c, s, h1, h2, h3, h4, rfl⟩ := h
  rw [List.length_map] at hi
  obtain ⟨c1, n, c2, rfl, hk, -⟩ := spl1 hi
  have hd := List.nodup_append.mp h3
  have hn : n < 40 := seg_lt h1 n (by simp)
  have hns : n ∉ s := fun w => (hd.2.2 n (by simp) n w) rfl
  have hd1 := List.nodup_append.mp hd.1
  have hn1 : n ∉ c1 := fun w => (hd1.2.2 n w n List.mem_cons_self) rfl
  have hn2 : n ∉ c2 := (List.nodup_cons.mp hd1.2.1).1
  have hbn : inb (nI n) 40 = true := inb_nI hn (by omega)
  have hcl : (nI n).toNatClampNeg = n := nI_clamp (by omega)
  have n1 : ¬ nI n = -1 := by rw [nI_nm1 (by omega)]; exact id
  have hp : (c1 ++ c2 ++ n :: s).Nodup := by
    refine (List.Perm.nodup_iff ?_).mp h3
    have p1 : ((c1 ++ n :: c2) ++ s).Perm (n :: (c1 ++ (c2 ++ s))) := by
      rw [List.append_assoc, List.cons_append]; exact List.perm_middle
    have p2 : ((c1 ++ c2) ++ n :: s).Perm (n :: (c1 ++ (c2 ++ s))) := by
      rw [← List.append_assoc c1 c2 s]; exact List.perm_middle
    exact p1.trans p2.symm
  have e2 : ((c1 ++ n :: c2).map (chF x)).eraseIdx i = (c1 ++ c2).map (chF x) := by
    have e3 : (c1.map (chF x)).length = i := by simp; omega
    rw [List.map_append, List.map_cons, ← e3, del_app, List.map_append]
  have e1 : nd (c1 ++ n :: c2) i = nI n := by
    rw [nd_lt (by rw [List.length_append, List.length_cons]; omega)]
    subst hk
    simp
  unfold fX0_dropOut
  rw [chn_nodeAt h1 (by omega), Option.bind_some, if_neg (nI_pos (by omega)), nI_clamp (by omega), e1, if_neg n1, chn_nodeAt h1 (by omega), Option.bind_some]
  unfold fX0_dropOut_53
  cases i with
  | zero =>
    have : c1 = [] := List.eq_nil_of_length_eq_zero hk
    subst this
    rw [if_pos (show (nI 0 - 1) < 0 by decide), if_pos rfl]
    simp only [hbn, chk_r, keep_r, hcl]
    refine ⟨_, rfl, c2, n :: s, ?_, ?_, ?_, ?_, ?_⟩
    · exact seg_upd hn2 h1.2.2
    · exact seg_put0 h2 hns hn
    · simpa using hp
    · simp at h4 ⊢; omega
    · rw [e2]; rfl
  | succ k =>
    obtain ⟨c0, a, rfl⟩ : ∃ c0 a, c1 = c0 ++ [a] := by
      refine ⟨c1.dropLast, c1.getLast (fun e => by rw [e] at hk; simp at hk), (List.dropLast_concat_getLast _).symm⟩
    have ha : a < 40 := seg_lt h1 a (by simp)
    have hna : a ≠ n := fun e => hn1 (by rw [← e]; simp)
    have has : a ∉ s := fun w => (hd.2.2 a (by simp) a w) rfl
    have hbc : (c0 ++ [a]) ++ n :: c2 = c0 ++ a :: n :: c2 := by simp
    have e5 : nd ((c0 ++ [a]) ++ n :: c2) k = nI a := by
      rw [hbc, nd_lt (by rw [List.length_append, List.length_cons]; simp at hk; omega)]
      have : k = c0.length := by simp at hk; omega
      subst this
      simp
    have n2 : ¬ nI a = -1 := by rw [nI_nm1 (by omega)]; exact id
    rw [nI_pred, if_neg (nI_pos (by omega)), nI_clamp (by omega), e5, if_neg n2]
    simp only [hbn, chk_r, keep_r, hcl, inb_nI ha (show 40 < 2 ^ 31 by omega), nI_clamp (show a < 2 ^ 31 by omega)]
    rw [hbc] at h1 hd
    refine ⟨_, rfl, c0 ++ a :: c2, n :: s, ?_, ?_, ?_, ?_, ?_⟩
    · refine seg_upd (fun w => ?_) (seg_del h1 hd.1)
      rcases List.mem_append.mp w with w | w
      · exact hn1 (by simp [w])
      · rcases List.mem_cons.mp w with w | w
        · exact hna w.symm
        · exact hn2 w
    · exact seg_put0 (seg_upd has h2) hns hn
    · simpa using hp
    · simp at h4 ⊢; omega
    · rw [e2, List.append_assoc]; rfl
theorem chn_dropNeg {x : CSt} {L : LL} (h : ChnR x L) (v : Int32) : fX0_dropOut x (-1) v = some x := by
  obtain ⟨c, s, h1, h2, h3, h4, rfl⟩ := h
  unfold fX0_dropOut
  rw [chn_nodeAt h1 (by omega), Option.bind_some, if_pos (show (-1 : Int32) < 0 by decide), if_pos rfl]

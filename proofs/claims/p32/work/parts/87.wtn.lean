/-! what waits, counted -/
def wt4 (w : WF) (g n : Nat) : Nat := wtn w g 0 n + wtn w g 1 n + wtn w g 2 n + wtn w g 3 n
def c4 (o : Option (Nat × Nat)) : Nat := (if wtq 0 o = true then 1 else 0) + (if wtq 1 o = true then 1 else 0) + (if wtq 2 o = true then 1 else 0) + (if wtq 3 o = true then 1 else 0)
theorem wt4_s {w : WF} {g n : Nat} : wt4 w g (n + 1) = wt4 w g n + c4 (w (40 * g + n)) := by
  unfold wt4 c4
  rw [wtn_s, wtn_s, wtn_s, wtn_s]
  omega
theorem c4_some {s r : Nat} (h : r < 4) : c4 (some (s, r)) = 1 := by
  have h4 : r = 0 ∨ r = 1 ∨ r = 2 ∨ r = 3 := by omega
  rcases h4 with rfl | rfl | rfl | rfl <;> rfl
theorem c4_none : c4 none = 0 := rfl
theorem wtn_le {w : WF} {g r n : Nat} : wtn w g r n ≤ n := Nat.le_trans List.countP_le_length (by rw [List.length_range]; exact Nat.le_refl _)
theorem wtn_0 {w : WF} {g r : Nat} : wtn w g r 0 = 0 := rfl
theorem wt4_le {w : WF} {g r n : Nat} (hr : r < 4) : wtn w g r n ≤ wt4 w g n := by
  unfold wt4
  have h4 : r = 0 ∨ r = 1 ∨ r = 2 ∨ r = 3 := by omega
  rcases h4 with rfl | rfl | rfl | rfl <;> omega
/-- one place changed -/
theorem wtn_up {w : WF} {g p r : Nat} {o : Option (Nat × Nat)} : ∀ n, wtn (upN w (40 * g + p) o) g r n + (if p < n ∧ wtq r (w (40 * g + p)) = true then 1 else 0) = wtn w g r n + (if p < n ∧ wtq r o = true then 1 else 0) := by
  intro n
  induction n with
  | zero => rw [if_neg (fun q => absurd q.1 (Nat.not_lt_zero p)), if_neg (fun q => absurd q.1 (Nat.not_lt_zero p))]; rfl
  | succ n ih =>
    rw [wtn_s, wtn_s]
    by_cases e : n = p
    · subst e
      rw [if_neg (fun q => Nat.lt_irrefl _ q.1), if_neg (fun q => Nat.lt_irrefl _ q.1)] at ih
      rw [upN_s]
      have a : ∀ b : Bool, (if n < n + 1 ∧ b = true then 1 else 0) = (if b = true then 1 else 0) := fun b => by
        cases b with
        | true => rw [if_pos ⟨Nat.lt_succ_self n, rfl⟩, if_pos rfl]
        | false => rw [if_neg (fun q => by cases q.2), if_neg (by decide)]
      rw [a, a]
      omega
    · rw [upN_o (by omega : 40 * g + n ≠ 40 * g + p)]
      have a : ∀ b : Bool, (if p < n + 1 ∧ b = true then 1 else 0) = (if p < n ∧ b = true then 1 else 0) := fun b => by
        by_cases h : p < n
        · cases b with
          | true => rw [if_pos ⟨by omega, rfl⟩, if_pos ⟨h, rfl⟩]
          | false => rw [if_neg (fun q => by cases q.2), if_neg (fun q => by cases q.2)]
        · rw [if_neg (fun q => by omega), if_neg (fun q => h q.1)]
      rw [a, a]
      omega
/-- an entry is given to a reader -/
theorem wtn_give {w : WF} {g p r r' now : Nat} (hp : p < 40) (hw : w (40 * g + p) = none) : wtn (upN w (40 * g + p) (some (now, r))) g r' 40 = wtn w g r' 40 + if r = r' then 1 else 0 := by
  have := wtn_up (w := w) (g := g) (p := p) (r := r') (o := some (now, r)) 40
  rw [hw, if_neg (fun q => by cases q.2)] at this
  by_cases e : r = r'
  · rw [if_pos e]
    rw [if_pos ⟨hp, decide_eq_true e⟩] at this
    omega
  · rw [if_neg e]
    rw [if_neg (fun q => e (of_decide_eq_true q.2))] at this
    omega
theorem wt4_give {w : WF} {g p r now : Nat} (hp : p < 40) (hr : r < 4) (hw : w (40 * g + p) = none) : wt4 (upN w (40 * g + p) (some (now, r))) g 40 = wt4 w g 40 + 1 := by
  unfold wt4
  rw [wtn_give hp hw, wtn_give hp hw, wtn_give hp hw, wtn_give hp hw]
  have h4 : r = 0 ∨ r = 1 ∨ r = 2 ∨ r = 3 := by omega
  rcases h4 with rfl | rfl | rfl | rfl
  · rw [if_pos rfl, if_neg (by decide), if_neg (by decide), if_neg (by decide)]; omega
  · rw [if_pos rfl, if_neg (by decide), if_neg (by decide), if_neg (by decide)]; omega
  · rw [if_pos rfl, if_neg (by decide), if_neg (by decide), if_neg (by decide)]; omega
  · rw [if_pos rfl, if_neg (by decide), if_neg (by decide), if_neg (by decide)]; omega
/-- an entry is done -/
theorem wt4_done {w : WF} {g p s r : Nat} (hp : p < 40) (hr : r < 4) (hw : w (40 * g + p) = some (s, r)) : wt4 (upN w (40 * g + p) none) g 40 + 1 = wt4 w g 40 := by
  have one : ∀ r', wtn (upN w (40 * g + p) none) g r' 40 + (if r = r' then 1 else 0) = wtn w g r' 40 := fun r' => by
    have := wtn_up (w := w) (g := g) (p := p) (r := r') (o := none) 40
    rw [hw, if_neg (c := p < 40 ∧ wtq r' none = true) (fun q => by cases q.2)] at this
    by_cases e : r = r'
    · rw [if_pos e]
      rw [if_pos ⟨hp, decide_eq_true e⟩] at this
      omega
    · rw [if_neg e]
      rw [if_neg (fun q => e (of_decide_eq_true q.2))] at this
      omega
  unfold wt4
  rw [← one 0, ← one 1, ← one 2, ← one 3]
  have h4 : r = 0 ∨ r = 1 ∨ r = 2 ∨ r = 3 := by omega
  rcases h4 with rfl | rfl | rfl | rfl
  · rw [if_pos rfl, if_neg (by decide), if_neg (by decide), if_neg (by decide)]; omega
  · rw [if_pos rfl, if_neg (by decide), if_neg (by decide), if_neg (by decide)]; omega
  · rw [if_pos rfl, if_neg (by decide), if_neg (by decide), if_neg (by decide)]; omega
  · rw [if_pos rfl, if_neg (by decide), if_neg (by decide), if_neg (by decide)]; omega
/-- entries are claimed -/
theorem wtn_mv {w : WF} {g r d now : Nat} : ∀ n, n ≤ 40 → wtn (mvw w g r d now) g r n = wtn w g r n + mvn w g r d now n := by
  intro n
  induction n with
  | zero => intro _; rfl
  | succ n ih =>
    intro h
    rw [wtn_s, wtn_s, mvn_s, ih (by omega)]
    have hm : mvw w g r d now (40 * g + n) = if mvq r d now (w (40 * g + n)) = true then some (now, r) else w (40 * g + n) := by
      unfold mvw
      by_cases e : mvq r d now (w (40 * g + n)) = true
      · rw [if_pos e, if_pos ⟨by omega, by omega, e⟩]
      · rw [if_neg e, if_neg (fun q => e q.2.2)]
    rw [hm]
    by_cases e : mvq r d now (w (40 * g + n)) = true
    · have e2 : ¬ wtq r (w (40 * g + n)) = true := by
        unfold mvq at e
        unfold wtq
        split at e
        · rename_i s r' hw
          rw [Bool.and_eq_true] at e
          have := of_decide_eq_true e.1
          intro q
          exact this (of_decide_eq_true q)
        · cases e
      rw [if_pos e, if_pos e, if_neg e2, if_pos (show wtq r (some (now, r)) = true from decide_eq_true rfl)]
      omega
    · rw [if_neg e, if_neg e]
      omega
theorem wt4_mv {w : WF} {g r d now : Nat} (hw : wOk w) (hr : r < 4) : ∀ n, n ≤ 40 → wt4 (mvw w g r d now) g n = wt4 w g n := by
  intro n
  induction n with
  | zero => intro _; rfl
  | succ n ih =>
    intro h
    rw [wt4_s, wt4_s, ih (by omega)]
    have : c4 (mvw w g r d now (40 * g + n)) = c4 (w (40 * g + n)) := by
      unfold mvw
      split
      · rename_i e
        cases q : w (40 * g + n) with
        | none => rw [q] at e; exact absurd e.2.2 (fun w => by cases w)
        | some z =>
          obtain ⟨s, r'⟩ := z
          rw [c4_some hr, c4_some (hw _ _ _ q).1]
      · rfl
    rw [this]

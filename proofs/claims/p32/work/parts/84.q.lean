/-! the law's own counts -/
def QJ (x : QSt) (t : Nat) (cc : CC) (ff : Nat → FK) (n : Nat) (g : Option (Nat × Nat)) (lim : Nat) : Prop :=
  JZ (qS x) t cc ff n g lim ∧ (∀ k, k < 16 → okP t (cc k)) ∧ qC x 0 = nI t ∧ qC x 1 = nI n ∧ (g = none → qC x 2 = 0) ∧ ∀ w B, g = some (w, B) → qC x 2 = 1 ∧ qC x 3 = nI w ∧ qC x 4 = nI B ∧ w ≤ 16 ∧ B ≤ n
def QK (x : QSt) (T lim : Nat) : Prop := ∃ t cc ff n g, t ≤ T ∧ QJ x t cc ff n g lim
section QQ
variable {x : QSt} {X : SSt} {k t : Nat} {cc : CC} {ff : Nat → FK} {n : Nat} {g : Option (Nat × Nat)} {lim : Nat}
theorem jz_at (hk : k < 16) (h : JZ X t cc ff n g lim) : VR (fV (foc k X)) (cc k) (ff k) ∧ okCK (cc k) ∧ fClk (foc k X) = nI t ∧ t ≤ 1000000 ∧ n ≤ 300 := by
  have h3 := h.le300
  obtain ⟨E, Mf, idf, lvi, -, -, ⟨h1, h2, -, h4, -⟩, -⟩ := h
  obtain ⟨a, b, -, -⟩ := h4 k hk
  exact ⟨a, b, h2, h1, h3⟩
/-- what an operation left -/
def OX (X : SSt) (k t : Nat) (g : Option (Nat × Nat)) (lim : Nat) (y : FSt) (cc' : CC) (n' : Nat) : Prop := ∃ ff', JZ (unf k X y) t cc' ff' n' g (lim + 1) ∧ ∀ j, j < 16 → okP t (cc' j)
theorem ox_w {o : Option (FSt × Int32)} {a : Int32} {r : RW} (hk : k < 16) (h : JZ X t cc ff n g lim) (hP : ∀ k, k < 16 → okP t (cc k)) (hw : AW X k t cc ff n g lim o a r) (h5 : wK r = 5 → wB r ∈ PBL) (h11 : wK r = 11 → ∃ e, e ≤ t + 1000 ∧ wA r = nI e) : ∃ y, o = some (y, a) ∧ OX X k t g lim y (upN cc k (opC r (cc k))) (n + 1) := by
  obtain ⟨hr, ht, y, y1, y2⟩ := hw
  refine ⟨y, y1, _, y2, fun j hj => ?_⟩
  by_cases e : j = k
  · subst e; rw [upN_s]
    exact okP_op (hP j hj) (jz_at hj h).2.1 hr ht h5 h11
  · rw [upN_o e]; exact hP j hj
theorem ox_n {o : Option (FSt × Int32)} {a : Int32} (hP : ∀ k, k < 16 → okP t (cc k)) (hw : AN X k t cc ff n g lim o a) : ∃ y, o = some (y, a) ∧ OX X k t g lim y cc n := by
  obtain ⟨y, y1, y2⟩ := hw
  exact ⟨y, y1, _, y2, hP⟩
theorem q_settles {r m : Nat} (h : JZ (qS x) t cc ff n g lim) (hr : r ≤ 1) (hn : qC x 1 = nI m) : fL_settles x (nI r) = some (qC_s x (upd (qC x) 1 (nI (m + r))), 1) := by
  have hh := j_held h
  have h16 : hlN cc 16 ≤ 16 := hlN_le
  have key : ∀ s : Nat, s ≤ 1 → fL_settles_13 x (nI s) (qC x 1) 1 = some (qC_s x (upd (qC x) 1 (nI (m + s))), 1) := fun s hs => by
    unfold fL_settles_13
    have e : fX7_held (qS (qC_s x (upd (qC x) (1 : Int32).toNatClampNeg (qC x 1 + nI s)))) = some (nI (hlN cc 16)) := hh
    rw [show inb 1 5 = true from rfl, chk_r, keep_r, e, Option.bind_some, if_neg (nI_pos (by omega)), Option.bind_some, if_neg (show ¬ (16 : Int32) < nI (hlN cc 16) from nI_nlt (a := 16) (by omega) (by omega)), hn, nI_add]
    rfl
  unfold fL_settles
  rw [show inb 1 5 = true from rfl, chk_r]
  rcases (by omega : r = 0 ∨ r = 1) with e | e
  · subst e; rw [if_pos (show nI 0 = 0 from rfl)]; exact key 0 (by omega)
  · subst e; rw [if_neg (show ¬ nI 1 = 0 by decide)]; exact key 1 (by omega)
/-- the state behind an operation, settled -/
def qDone (x : QSt) (k : Nat) (y : FSt) (n' : Nat) : QSt := qC_s (qS_s x (unf k (qS x) y)) (upd (qC x) 1 (nI n'))
theorem qj_done {y : FSt} {cc' : CC} {n' : Nat} (h : QJ x t cc ff n g lim) (ho : OX (qS x) k t g lim y cc' n') (hn : n ≤ n') : ∃ ff', QJ (qDone x k y n') t cc' ff' n' g (lim + 1) := by
  obtain ⟨ff', a, b⟩ := ho
  obtain ⟨-, -, h0, h1, h2, h3⟩ := h
  refine ⟨ff', a, b, h0, (upd_s : upd (qC x) 1 (nI n') 1 = nI n'), fun q => h2 q, fun w B q => ?_⟩
  obtain ⟨a1, a2, a3, a4, a5⟩ := h3 w B q
  exact ⟨a1, a2, a3, a4, by omega⟩
theorem qk_done {y : FSt} {cc' : CC} {n' : Nat} {T : Nat} (h : QJ x t cc ff n g lim) (hT : t ≤ T) (ho : OX (qS x) k t g lim y cc' n') (hn : n ≤ n') : QK (qDone x k y n') T (lim + 1) := by
  obtain ⟨ff', a⟩ := qj_done h ho hn
  exact ⟨t, cc', ff', n', g, hT, a⟩
theorem q_rows (h : JZ X t cc ff n g lim) : fX7_rows 0 (foc 0 X) = some (nI n) := j_rows h
theorem c_688 {y : FSt} {cc' : CC} {r : Nat} {a : Int32} (h : QJ x t cc ff n g lim) (ho : OX (qS x) k t g lim y cc' (n + r)) (hr : r ≤ 1) : fL_commands_688 (qS_s x (unf k (qS x) y)) a a (nI r) = some (qDone x k y (n + r), 1) := by
  obtain ⟨ff', a1, a2⟩ := ho
  obtain ⟨-, -, -, h1, -⟩ := h
  have hs := q_settles (x := qS_s x (unf k (qS x) y)) a1 hr (m := n) h1
  have hrow : fX7_rows 0 (foc 0 (qS (qS_s x (unf k (qS x) y)))) = some (nI (n + r)) := j_rows a1
  have h713 : ∀ s : Nat, s = r → fL_commands_713 (qS_s x (unf k (qS x) y)) (nI r) (nI s) (qC (qS_s x (unf k (qS x) y)) (1 : Int32).toNatClampNeg) (nI (n + r)) = some (qDone x k y (n + r), 1) := fun s e => by
    subst e
    unfold fL_commands_713
    have e1 : qC (qS_s x (unf k (qS x) y)) (1 : Int32).toNatClampNeg = nI n := h1
    rw [e1, nI_add, if_pos rfl, hs, Option.bind_some, keep_r, if_neg one_ne0]; rfl
  unfold fL_commands_688
  rw [if_pos rfl, hrow, Option.bind_some, show inb 1 5 = true from rfl, chk_r]
  rcases (by omega : r = 0 ∨ r = 1) with e | e
  · rw [if_pos (by rw [e]; rfl)]; exact h713 0 e.symm
  · rw [if_neg (by rw [e]; decide)]; exact h713 1 e.symm
end QQ

/-! commands: push, add, append -/
def fulN (n : Nat) : Int32 := if n = 300 then 1 else 0
section CMD
variable {x : QSt} {k t : Nat} {cc : CC} {ff : Nat → FK} {n : Nat} {g : Option (Nat × Nat)} {lim T : Nat}
theorem ful_y (h : n < 300) : fulN n = 0 := if_neg (by omega)
theorem ful_n (h : ¬ n < 300) (h3 : n ≤ 300) : fulN n = 1 := if_pos (by omega)
/-- what a command is to answer -/
def CmdT (x : QSt) (T lim : Nat) (o : Option (QSt × Int32)) : Prop := ∃ x', o = some (x', 1) ∧ QK x' T lim
theorem cmd_688 {y : FSt} {cc' : CC} {r : Nat} {a : Int32} (h : QJ x t cc ff n g lim) (hT : t ≤ T) (ho : OX (qS x) k t g lim y cc' (n + r)) (hr : r ≤ 1) : CmdT x T (lim + 1) (fL_commands_688 (qS_s x (unf k (qS x) y)) a a (nI r)) := ⟨_, c_688 h ho hr, qk_done h hT ho (by omega)⟩
theorem l212_n {x' : QSt} {a v14 : Int32} : fL_commands_212 x' a v14 0 a = fL_commands_688 x' a a (nI 0) := by
  unfold fL_commands_212
  rw [if_pos rfl]; rfl
theorem l212_w {x' : QSt} {a : Int32} : fL_commands_212 x' a 0 1 a = fL_commands_688 x' a a (nI 1) := by
  unfold fL_commands_212
  rw [if_neg one_ne0, if_pos rfl]; rfl
theorem l212_h {x' : QSt} {a : Int32} : fL_commands_212 x' a 1 1 a = fL_commands_688 x' a a (nI 0) := by
  unfold fL_commands_212
  rw [if_neg one_ne0, if_neg one_ne0]; rfl
theorem clN {k : Nat} (hk : k < 16) : (nI k).toNatClampNeg = k := nI_clamp (by omega)
theorem tyN_n0 {c : CK} {now : Int32} (h : ¬ tyN c now = 0) : thC c now = true := by
  cases q : thC c now with
  | true => rfl
  | false => exact absurd (tyN_f q) h
theorem szN_t {c : CK} {now : Int32} (h : thC c now = true) : szN c now = (cL c).length := if_pos h
theorem szN_f {c : CK} {now : Int32} (h : thC c now = false) : szN c now = 0 := if_neg (by rw [h]; decide)
theorem szN_40 {c : CK} {now : Int32} (h : okCK c) : szN c now ≤ 40 := by
  unfold szN
  split
  · exact (ok_T h (thC_T (by assumption))).2.2.1
  · omega
theorem cmd_push (hk : k < 16) (h : QJ x t cc ff n g lim) (hT : t ≤ T) {v3 v8 : Int32} (hv : isV v8) : CmdT x T (lim + 1) (fL_commands_81 x 0 (nI k) v3 (tyN (cc k) (nI t)) (nI (szN (cc k) (nI t))) v8 (fulN n) 1) := by
  obtain ⟨hJ, hP, -⟩ := id h
  obtain ⟨hV, hc, hclk, ht, h3⟩ := jz_at hk hJ
  have h40 := szN_40 (now := nI t) hc
  have yes : (tyN (cc k) (nI t) = 0 ∨ tyN (cc k) (nI t) = 1) → (thC (cc k) (nI t) = true → (cL (cc k)).length < 40) → n < 300 → CmdT x T (lim + 1) (fL_commands_141 x 0 (nI k) v3 (nI (szN (cc k) (nI t))) v8 1 0) := fun a b d => by
    obtain ⟨y, y1, y2⟩ := ox_w hk hJ hP (a_push (e := v3 - v3 / 2 * 2) (i := 0) hk hJ hv a b d) (fun q => absurd q (show ¬ (1 : Int32) = 5 by decide)) (fun q => absurd q (show ¬ (1 : Int32) = 11 by decide))
    unfold fL_commands_141 fL_commands_146
    rw [if_pos rfl]
    unfold fL_commands_167
    rw [clN hk, decide_eq_true hk, chk_r, y1, Option.bind_some, keep_r, keep_r, if_neg one_ne0, if_neg (show ¬ (1 : Int32) = 2 by decide), nI_1, l212_w]
    exact cmd_688 h hT y2 (by omega)
  have no : ¬ ((tyN (cc k) (nI t) = 0 ∨ tyN (cc k) (nI t) = 1) ∧ (thC (cc k) (nI t) = true → (cL (cc k)).length < 40) ∧ n < 300) → CmdT x T (lim + 1) (fL_commands_145 x 0 (nI k) v3 (nI (szN (cc k) (nI t))) v8 1 0) := fun a => by
    obtain ⟨y, y1, y2⟩ := ox_n hP (n_push (e := v3 - v3 / 2 * 2) (i := 0) hk hJ hv a)
    unfold fL_commands_145 fL_commands_146
    rw [if_pos rfl]
    unfold fL_commands_167
    rw [clN hk, decide_eq_true hk, chk_r, y1, Option.bind_some, keep_r, keep_r, if_pos rfl, l212_n]
    exact cmd_688 (r := 0) h hT y2 (by omega)
  unfold fL_commands_81
  rw [if_neg (show ¬ (1 : Int32) = 2 by decide)]
  unfold fL_commands_109 fL_commands_110
  by_cases hL : n < 300
  · rw [if_pos (ful_y hL)]
    by_cases h0 : tyN (cc k) (nI t) = 0
    · rw [if_pos h0]
      exact yes (Or.inl h0) (fun q => by rw [tyN_0.mp h0] at q; cases q) hL
    · have hth := tyN_n0 h0
      rw [if_neg h0]
      by_cases h1 : tyN (cc k) (nI t) = 1
      · rw [if_pos h1]
        by_cases hr : szN (cc k) (nI t) < 40
        · rw [if_pos (show nI (szN (cc k) (nI t)) < (40 : Int32) from nI_lt (b := 40) hr (by omega))]
          exact yes (Or.inr h1) (fun q => by rw [szN_t q] at hr; exact hr) hL
        · rw [if_neg (show ¬ nI (szN (cc k) (nI t)) < (40 : Int32) from nI_nlt (b := 40) (by omega) (by omega)), if_pos rfl]
          exact no (fun q => hr (by rw [szN_t hth]; exact q.2.1 hth))
      · rw [if_neg h1]
        exact no (fun q => by rcases q.1 with w | w; exact h0 w; exact h1 w)
  · rw [if_neg (by rw [ful_n hL h3]; decide)]
    exact no (fun q => hL q.2.2)
theorem cmd_append (hk : k < 16) (h : QJ x t cc ff n g lim) (hT : t ≤ T) {v3 v8 : Int32} (hv : isV v8) : CmdT x T (lim + 1) (fL_commands_81 x 2 (nI k) v3 (tyN (cc k) (nI t)) (nI (szN (cc k) (nI t))) v8 (fulN n) 4) := by
  obtain ⟨hJ, hP, -⟩ := id h
  obtain ⟨hV, hc, hclk, ht, h3⟩ := jz_at hk hJ
  have h40 := szN_40 (now := nI t) hc
  have yes : (tyN (cc k) (nI t) = 0 ∨ tyN (cc k) (nI t) = 4) → (thC (cc k) (nI t) = true → (cL (cc k)).length < 40) → n < 300 → CmdT x T (lim + 1) (fL_commands_141 x 2 (nI k) v3 (nI (szN (cc k) (nI t))) v8 4 0) := fun a b d => by
    obtain ⟨y, y1, y2⟩ := ox_w hk hJ hP (a_append (e := v3 - v3 / 2 * 2) (i := 0) hk hJ hv a b d) (fun q => absurd q (show ¬ (6 : Int32) = 5 by decide)) (fun q => absurd q (show ¬ (6 : Int32) = 11 by decide))
    unfold fL_commands_141 fL_commands_146
    rw [if_neg (show ¬ (2 : Int32) = 0 by decide), if_neg (show ¬ (2 : Int32) = 1 by decide)]
    unfold fL_commands_167
    rw [clN hk, decide_eq_true hk, chk_r, y1, Option.bind_some, keep_r, keep_r, if_neg one_ne0, if_neg (show ¬ (4 : Int32) = 2 by decide), nI_1, l212_w]
    exact cmd_688 h hT y2 (by omega)
  have no : ¬ ((tyN (cc k) (nI t) = 0 ∨ tyN (cc k) (nI t) = 4) ∧ (thC (cc k) (nI t) = true → (cL (cc k)).length < 40) ∧ n < 300) → CmdT x T (lim + 1) (fL_commands_145 x 2 (nI k) v3 (nI (szN (cc k) (nI t))) v8 4 0) := fun a => by
    obtain ⟨y, y1, y2⟩ := ox_n hP (n_append (e := v3 - v3 / 2 * 2) (i := 0) hk hJ hv a)
    unfold fL_commands_145 fL_commands_146
    rw [if_neg (show ¬ (2 : Int32) = 0 by decide), if_neg (show ¬ (2 : Int32) = 1 by decide)]
    unfold fL_commands_167
    rw [clN hk, decide_eq_true hk, chk_r, y1, Option.bind_some, keep_r, keep_r, if_pos rfl, l212_n]
    exact cmd_688 (r := 0) h hT y2 (by omega)
  unfold fL_commands_81
  rw [if_neg (show ¬ (4 : Int32) = 2 by decide)]
  unfold fL_commands_109 fL_commands_110
  by_cases hL : n < 300
  · rw [if_pos (ful_y hL)]
    by_cases h0 : tyN (cc k) (nI t) = 0
    · rw [if_pos h0]
      exact yes (Or.inl h0) (fun q => by rw [tyN_0.mp h0] at q; cases q) hL
    · have hth := tyN_n0 h0
      rw [if_neg h0]
      by_cases h1 : tyN (cc k) (nI t) = 4
      · rw [if_pos h1]
        by_cases hr : szN (cc k) (nI t) < 40
        · rw [if_pos (show nI (szN (cc k) (nI t)) < (40 : Int32) from nI_lt (b := 40) hr (by omega))]
          exact yes (Or.inr h1) (fun q => by rw [szN_t q] at hr; exact hr) hL
        · rw [if_neg (show ¬ nI (szN (cc k) (nI t)) < (40 : Int32) from nI_nlt (b := 40) (by omega) (by omega)), if_pos rfl]
          exact no (fun q => hr (by rw [szN_t hth]; exact q.2.1 hth))
      · rw [if_neg h1]
        exact no (fun q => by rcases q.1 with w | w; exact h0 w; exact h1 w)
  · rw [if_neg (by rw [ful_n hL h3]; decide)]
    exact no (fun q => hL q.2.2)
/-- indexOf, told by what is there -/
def hasN (c : CK) (now v : Int32) : Bool := thC c now && fnd (cL c) v
theorem ix_has {c : CK} {now v : Int32} (hc : okCK c) : (hasN c now v = true → ∃ i, i < 40 ∧ ixN c now v = nI i) ∧ (hasN c now v = false → ixN c now v = -1) := by
  unfold hasN ixN
  constructor
  · intro q
    rw [Bool.and_eq_true] at q
    have h40 := (ok_T hc (thC_T q.1)).2.2.1
    have := fnd_lt q.2
    exact ⟨fi (cL c) v, by omega, by rw [if_pos q.1, plc_fnd q.2]⟩
  · intro q
    by_cases e : thC c now = true
    · rw [e, Bool.true_and] at q
      rw [if_pos e, plc_not q]
    · rw [if_neg e]
theorem ix_lt {c : CK} {now v : Int32} (hc : okCK c) : (ixN c now v < 0) ↔ hasN c now v = false := by
  obtain ⟨a, b⟩ := ix_has (c := c) (now := now) (v := v) hc
  constructor
  · intro q
    cases e : hasN c now v with
    | false => rfl
    | true =>
      obtain ⟨i, i1, i2⟩ := a e
      rw [i2] at q
      exact absurd q (nI_pos (by omega))
  · intro q
    rw [b q]; decide
theorem cmd_add (hk : k < 16) (h : QJ x t cc ff n g lim) (hT : t ≤ T) {v3 v8 : Int32} (hv : isV v8) : CmdT x T (lim + 1) (fL_commands_81 x 1 (nI k) v3 (tyN (cc k) (nI t)) (nI (szN (cc k) (nI t))) v8 (fulN n) 2) := by
  obtain ⟨hJ, hP, -⟩ := id h
  obtain ⟨hV, hc, hclk, ht, h3⟩ := jz_at hk hJ
  have h40 := szN_40 (now := nI t) hc
  have yes : (tyN (cc k) (nI t) = 0 ∨ tyN (cc k) (nI t) = 2) → (thC (cc k) (nI t) = true → (cL (cc k)).length < 40 ∨ fnd (cL (cc k)) v8 = true) → n < 300 → CmdT x T (lim + 1) (fL_commands_141 x 1 (nI k) v3 (nI (szN (cc k) (nI t))) v8 2 (if hasN (cc k) (nI t) v8 = true then 1 else 0)) := fun a b d => by
    unfold fL_commands_141 fL_commands_146
    rw [if_neg one_ne0, if_pos rfl]
    unfold fL_commands_167
    rcases a_add (e := v3 - v3 / 2 * 2) (i := 0) hk hJ hv a b d with ⟨q1, q2, q3⟩ | ⟨q1, q3⟩
    · obtain ⟨y, y1, y2⟩ := ox_n hP q3
      rw [clN hk, decide_eq_true hk, chk_r, y1, Option.bind_some, keep_r, keep_r, if_neg one_ne0, if_pos rfl, if_pos (show hasN (cc k) (nI t) v8 = true by unfold hasN; rw [q1, q2]; rfl), if_neg one_ne0, l212_h]
      exact cmd_688 (r := 0) h hT y2 (by omega)
    · obtain ⟨y, y1, y2⟩ := ox_w hk hJ hP q3 (fun q => absurd q (show ¬ (3 : Int32) = 5 by decide)) (fun q => absurd q (show ¬ (3 : Int32) = 11 by decide))
      rw [clN hk, decide_eq_true hk, chk_r, y1, Option.bind_some, keep_r, keep_r, if_neg one_ne0, if_pos rfl, if_neg (show ¬ hasN (cc k) (nI t) v8 = true from fun w => by unfold hasN at w; rw [Bool.and_eq_true] at w; exact q1 w), if_pos rfl, l212_w]
      exact cmd_688 h hT y2 (by omega)
  have no : ∀ s : Int32, ¬ ((tyN (cc k) (nI t) = 0 ∨ tyN (cc k) (nI t) = 2) ∧ (thC (cc k) (nI t) = true → (cL (cc k)).length < 40 ∨ fnd (cL (cc k)) v8 = true) ∧ n < 300) → CmdT x T (lim + 1) (fL_commands_145 x 1 (nI k) v3 (nI (szN (cc k) (nI t))) v8 2 s) := fun s a => by
    obtain ⟨y, y1, y2⟩ := ox_n hP (n_add (e := v3 - v3 / 2 * 2) (i := 0) hk hJ hv a)
    unfold fL_commands_145 fL_commands_146
    rw [if_neg one_ne0, if_pos rfl]
    unfold fL_commands_167
    rw [clN hk, decide_eq_true hk, chk_r, y1, Option.bind_some, keep_r, keep_r, if_pos rfl, l212_n]
    exact cmd_688 (r := 0) h hT y2 (by omega)
  have key : ∀ s : Int32, (s = if hasN (cc k) (nI t) v8 = true then 1 else 0) ∨ (¬ tyN (cc k) (nI t) = 2 ∧ s = 0) → CmdT x T (lim + 1) (fL_commands_110 x 1 (nI k) v3 (tyN (cc k) (nI t)) (nI (szN (cc k) (nI t))) v8 (fulN n) 2 s) := fun s hs => by
    unfold fL_commands_110
    by_cases hL : n < 300
    · rw [if_pos (ful_y hL)]
      by_cases h0 : tyN (cc k) (nI t) = 0
      · have hf := tyN_0.mp h0
        have hs0 : s = if hasN (cc k) (nI t) v8 = true then 1 else 0 := by
          rcases hs with w | ⟨-, w⟩
          · exact w
          · rw [w, if_neg (by unfold hasN; rw [hf, Bool.false_and]; decide)]
        rw [if_pos h0, hs0]
        exact yes (Or.inl h0) (fun q => by rw [hf] at q; cases q) hL
      · have hth := tyN_n0 h0
        rw [if_neg h0]
        by_cases h1 : tyN (cc k) (nI t) = 2
        · have hs0 : s = if hasN (cc k) (nI t) v8 = true then 1 else 0 := by
            rcases hs with w | ⟨w, -⟩
            · exact w
            · exact absurd h1 w
          rw [if_pos h1]
          by_cases hr : szN (cc k) (nI t) < 40
          · rw [if_pos (show nI (szN (cc k) (nI t)) < (40 : Int32) from nI_lt (b := 40) hr (by omega)), hs0]
            exact yes (Or.inr h1) (fun q => by rw [szN_t q] at hr; exact Or.inl hr) hL
          · rw [if_neg (show ¬ nI (szN (cc k) (nI t)) < (40 : Int32) from nI_nlt (b := 40) (by omega) (by omega))]
            by_cases hf : fnd (cL (cc k)) v8 = true
            · have e : hasN (cc k) (nI t) v8 = true := by unfold hasN; rw [hth, hf]; rfl
              have e1 : s = 1 := by rw [hs0, if_pos e]
              rw [if_neg (by rw [e1]; decide), hs0]
              exact yes (Or.inr h1) (fun _ => Or.inr hf) hL
            · have e : ¬ hasN (cc k) (nI t) v8 = true := fun w => by unfold hasN at w; rw [Bool.and_eq_true] at w; exact hf w.2
              have e1 : s = 0 := by rw [hs0, if_neg e]
              rw [if_pos e1]
              exact no s (fun q => by
                rcases q.2.1 hth with w | w
                · exact hr (by rw [szN_t hth]; exact w)
                · exact hf w)
        · rw [if_neg h1]
          exact no s (fun q => by rcases q.1 with w | w; exact h0 w; exact h1 w)
    · rw [if_neg (by rw [ful_n hL h3]; decide)]
      exact no s (fun q => hL q.2.2)
  unfold fL_commands_81
  rw [if_pos rfl]
  by_cases h2 : tyN (cc k) (nI t) = 2
  · rw [if_pos h2, clN hk, decide_eq_true hk, chk_r, q_index hk hV hv, Option.bind_some, thrL, hclk]
    by_cases e : hasN (cc k) (nI t) v8 = true
    · rw [if_neg (fun q => by rw [(ix_lt hc).mp q] at e; cases e)]
      exact key 1 (Or.inl (by rw [if_pos e]))
    · rw [if_pos ((ix_lt hc).mpr (by simpa using e))]
      exact key 0 (Or.inl (by rw [if_neg e]))
  · rw [if_neg h2]
    exact key 0 (Or.inr ⟨h2, rfl⟩)
end CMD

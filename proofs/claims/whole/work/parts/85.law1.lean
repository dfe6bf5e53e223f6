/-! the law, call by call 1 -/
theorem fm_lt {v : VSt} {c : CK} {f : FK} (h : VR v c f) : vlFm v < 18 := by
  rcases h.1 with e | e | e <;> rw [e] <;> decide
theorem ivx_fm {x : SSt} {m : MSt} {lim k : Nat} (h : IVx x m lim) (hk : k < 16) : vlFm (sV x k) < 18 := by
  obtain ⟨t, cc, ff, E, Mf, idf, lvi, -, hI⟩ := h
  exact fm_lt (hI.1.2.2.2.2.2.2.1 k hk).1
theorem ivx_mono {x : SSt} {m : MSt} {a b : Nat} (h : IVx x m a) (hab : a ≤ b) : IVx x m b := by
  obtain ⟨t, cc, ff, E, Mf, idf, lvi, hl, hI⟩ := h
  exact ⟨t, cc, ff, E, Mf, idf, lvi, Nat.le_trans hl hab, hI⟩
theorem unf_fm {x : SSt} {y : FSt} {k : Nat} : sV (unf k x y) k = fV y := vup_s
def LR (rec : LwSt × Int32 → Option Int32) (v5 : Int32) (lim : Nat) : Prop := ∀ x', IVx (wS x') (wM x') lim → Ok (rec (x', v5 + 5)) (fun r => r = 1)
theorem lw_2017 {L : Nat} {xs : Nat → Int32} {rec : LwSt × Int32 → Option Int32} {v5 : Int32} {lim : Nat} (hr : LR rec v5 lim) {x : LwSt} (h : IVx (wS x) (wM x) lim) : Ok (fL_law_2017 L xs rec x v5) (fun r => r = 1) := hr x h
theorem lcmp_eq {a b : Int64} (h : a = b) : lcmpv a b = 0 := by
  subst h
  unfold lcmpv
  rw [if_neg (by show ¬ a > a; exact Int64.lt_irrefl), if_pos (by simp)]
theorem lw_t1 {L : Nat} {xs : Nat → Int32} {rec : LwSt × Int32 → Option Int32} {v5 : Int32} {lim : Nat} (hr : LR rec v5 lim) {x : LwSt} (h : IVx (wS x) (wM x) lim) {c b : Int32} (hc : mThrown (wM x) = c) (hb : c = 0 → wO x 0 = b.toInt64) :
    Ok ((fX8_thrown (wM x)).bind (fun u => if u = c then (if c = 0 then (if lcmpv (wO x (0 : Int32).toNatClampNeg) b.toInt64 = 0 then fL_law_2017 L xs rec x v5 else some 0) else fL_law_2017 L xs rec x v5) else some 0)) (fun r => r = 1) := by
  unfold fX8_thrown
  rw [Option.bind_some, if_pos hc]
  by_cases e : c = 0
  · rw [if_pos e, if_pos (lcmp_eq (a := wO x (0 : Int32).toNatClampNeg) (hb e))]
    exact lw_2017 hr h
  · rw [if_neg e]
    exact lw_2017 hr h
/-- what a helper of the law leaves -/
def HlpI (O' : OL) (z : MSt) (b : Int32) : Prop := mThrown z = 0 → O' 0 = b.toInt64
def HlpB (O' : OL) (z : MSt) (b : Int32) : Prop := mThrown z = 0 → O' 0 = if b = 0 then 0 else 1
theorem updL_0 {O : OL} {v : Int64} : vp_updL O (0 : Int32).toNatClampNeg v 0 = v := if_pos rfl
theorem mem3 {n : Nat} (h : n ∈ [0, 1, 2]) : n = 0 ∨ n = 1 ∨ n = 2 := by simpa using h
theorem mem02 {n : Nat} (h : n ∈ [0, 2]) : n = 0 ∨ n = 2 := by simpa using h
theorem mem12 {n : Nat} (h : n ∈ [1, 2]) : n = 1 ∨ n = 2 := by simpa using h
theorem hI_012 {fc : Option (FSt × (Int32 ⊕ Nat))} {y : FSt} {res : Int32 ⊕ Nat} {z : MSt} {b : Int32} {F : FSt} {O : OL} (h1 : fc = some (y, res)) (hA : Agr [0, 1, 2] mpA res z b) :
    ∃ O', fc.bind (fun u1 => keep (pF_s (F, O) u1.1) (fun x6 => thr u1.2 (fun k3 => if k3 = 0 then some (x6, (1 : Int32)) else if k3 = 1 then some (x6, (2 : Int32)) else if k3 = 2 then some (x6, (3 : Int32)) else none) (fun r4 => chk (inb 0 1) (keep (pO_s x6 (vp_updL (pO x6) (0 : Int32).toNatClampNeg (r4).toInt64)) (fun x8 => some (x8, 0)))))) = some (((y, O') : POSt), mThrown z) ∧ HlpI O' z b := by
  subst h1
  rw [Option.bind_some, keep_r]
  cases res with
  | inl v =>
    obtain ⟨a1, a2⟩ := hA.1 v rfl
    refine ⟨vp_updL O (0 : Int32).toNatClampNeg v.toInt64, ?_, fun _ => ?_⟩
    · rw [thrL, show inb 0 1 = true by decide, chk_r, keep_r, a1]; rfl
    · rw [updL_0, a2]
  | inr n =>
    obtain ⟨a1, a2⟩ := hA.2 n rfl
    have a3 : n = 0 ∨ n = 1 ∨ n = 2 := by simpa using a1
    refine ⟨O, ?_, fun q => ?_⟩
    · rw [thrR, a2]
      rcases a3 with e | e | e <;> subst e <;> rfl
    · rw [a2] at q
      rcases a3 with e | e | e <;> subst e <;> exact absurd q (by decide)
theorem hI_02 {fc : Option (FSt × (Int32 ⊕ Nat))} {y : FSt} {res : Int32 ⊕ Nat} {z : MSt} {b : Int32} {F : FSt} {O : OL} (h1 : fc = some (y, res)) (hA : Agr [0, 2] mpB res z b) :
    ∃ O', fc.bind (fun u1 => keep (pF_s (F, O) u1.1) (fun x6 => thr u1.2 (fun k3 => if k3 = 0 then some (x6, (1 : Int32)) else if k3 = 2 then some (x6, (2 : Int32)) else none) (fun r4 => chk (inb 0 1) (keep (pO_s x6 (vp_updL (pO x6) (0 : Int32).toNatClampNeg (r4).toInt64)) (fun x8 => some (x8, 0)))))) = some (((y, O') : POSt), mThrown z) ∧ HlpI O' z b := by
  subst h1
  rw [Option.bind_some, keep_r]
  cases res with
  | inl v =>
    obtain ⟨a1, a2⟩ := hA.1 v rfl
    refine ⟨vp_updL O (0 : Int32).toNatClampNeg v.toInt64, ?_, fun _ => ?_⟩
    · rw [thrL, show inb 0 1 = true by decide, chk_r, keep_r, a1]; rfl
    · rw [updL_0, a2]
  | inr n =>
    obtain ⟨a1, a2⟩ := hA.2 n rfl
    have a3 : n = 0 ∨ n = 2 := by simpa using a1
    refine ⟨O, ?_, fun q => ?_⟩
    · rw [thrR, a2]
      rcases a3 with e | e <;> subst e <;> rfl
    · rw [a2] at q
      rcases a3 with e | e <;> subst e <;> exact absurd q (by decide)
theorem hI_12 {fc : Option (FSt × (Int32 ⊕ Nat))} {y : FSt} {res : Int32 ⊕ Nat} {z : MSt} {b : Int32} {F : FSt} {O : OL} (h1 : fc = some (y, res)) (hA : Agr [1, 2] mpC res z b) :
    ∃ O', fc.bind (fun u1 => keep (pF_s (F, O) u1.1) (fun x6 => thr u1.2 (fun k3 => if k3 = 1 then some (x6, (1 : Int32)) else if k3 = 2 then some (x6, (2 : Int32)) else none) (fun r4 => chk (inb 0 1) (keep (pO_s x6 (vp_updL (pO x6) (0 : Int32).toNatClampNeg (r4).toInt64)) (fun x8 => some (x8, 0)))))) = some (((y, O') : POSt), mThrown z) ∧ HlpI O' z b := by
  subst h1
  rw [Option.bind_some, keep_r]
  cases res with
  | inl v =>
    obtain ⟨a1, a2⟩ := hA.1 v rfl
    refine ⟨vp_updL O (0 : Int32).toNatClampNeg v.toInt64, ?_, fun _ => ?_⟩
    · rw [thrL, show inb 0 1 = true by decide, chk_r, keep_r, a1]; rfl
    · rw [updL_0, a2]
  | inr n =>
    obtain ⟨a1, a2⟩ := hA.2 n rfl
    have a3 : n = 1 ∨ n = 2 := by simpa using a1
    refine ⟨O, ?_, fun q => ?_⟩
    · rw [thrR, a2]
      rcases a3 with e | e <;> subst e <;> rfl
    · rw [a2] at q
      rcases a3 with e | e <;> subst e <;> exact absurd q (by decide)
theorem hQ_0 {fc : Option (Int32 ⊕ Nat)} {res : Int32 ⊕ Nat} {z : MSt} {b : Int32} {F : FSt} {O : OL} (h1 : fc = some res) (hA : Agr [0] mpA res z b) :
    ∃ O', fc.bind (fun u1 => thr u1 (fun k3 => if k3 = 0 then some (((F, O) : POSt), (1 : Int32)) else none) (fun r4 => chk (inb 0 1) (keep (pO_s (F, O) (vp_updL (pO (F, O)) (0 : Int32).toNatClampNeg (r4).toInt64)) (fun x7 => some (x7, 0))))) = some (((F, O') : POSt), mThrown z) ∧ HlpI O' z b := by
  subst h1
  rw [Option.bind_some]
  cases res with
  | inl v =>
    obtain ⟨a1, a2⟩ := hA.1 v rfl
    refine ⟨vp_updL O (0 : Int32).toNatClampNeg v.toInt64, ?_, fun _ => ?_⟩
    · rw [thrL, show inb 0 1 = true by decide, chk_r, keep_r, a1]; rfl
    · rw [updL_0, a2]
  | inr n =>
    obtain ⟨a1, a2⟩ := hA.2 n rfl
    have a3 : n = 0 := by simpa using a1
    refine ⟨O, ?_, fun q => ?_⟩
    · rw [thrR, a2]
      subst a3; rfl
    · rw [a2] at q
      subst a3; exact absurd q (by decide)
theorem hQ_01 {fc : Option (Int32 ⊕ Nat)} {res : Int32 ⊕ Nat} {z : MSt} {b : Int32} {F : FSt} {O : OL} (h1 : fc = some res) (hA : Agr [0, 1] mpA res z b) :
    ∃ O', fc.bind (fun u1 => thr u1 (fun k3 => if k3 = 0 then some (((F, O) : POSt), (1 : Int32)) else if k3 = 1 then some (((F, O) : POSt), (2 : Int32)) else none) (fun r4 => chk (inb 0 1) (keep (pO_s (F, O) (vp_updL (pO (F, O)) (0 : Int32).toNatClampNeg (r4).toInt64)) (fun x7 => some (x7, 0))))) = some (((F, O') : POSt), mThrown z) ∧ HlpI O' z b := by
  subst h1
  rw [Option.bind_some]
  cases res with
  | inl v =>
    obtain ⟨a1, a2⟩ := hA.1 v rfl
    refine ⟨vp_updL O (0 : Int32).toNatClampNeg v.toInt64, ?_, fun _ => ?_⟩
    · rw [thrL, show inb 0 1 = true by decide, chk_r, keep_r, a1]; rfl
    · rw [updL_0, a2]
  | inr n =>
    obtain ⟨a1, a2⟩ := hA.2 n rfl
    have a3 : n = 0 ∨ n = 1 := by simpa using a1
    refine ⟨O, ?_, fun q => ?_⟩
    · rw [thrR, a2]
      rcases a3 with e | e <;> subst e <;> rfl
    · rw [a2] at q
      rcases a3 with e | e <;> subst e <;> exact absurd q (by decide)
theorem hQ_012 {fc : Option (Int32 ⊕ Nat)} {res : Int32 ⊕ Nat} {z : MSt} {b : Int32} {F : FSt} {O : OL} (h1 : fc = some res) (hA : Agr [0, 1, 2] mpA res z b) :
    ∃ O', fc.bind (fun u1 => thr u1 (fun k3 => if k3 = 0 then some (((F, O) : POSt), (1 : Int32)) else if k3 = 1 then some (((F, O) : POSt), (2 : Int32)) else if k3 = 2 then some (((F, O) : POSt), (3 : Int32)) else none) (fun r4 => chk (inb 0 1) (keep (pO_s (F, O) (vp_updL (pO (F, O)) (0 : Int32).toNatClampNeg (r4).toInt64)) (fun x7 => some (x7, 0))))) = some (((F, O') : POSt), mThrown z) ∧ HlpI O' z b := by
  subst h1
  rw [Option.bind_some]
  cases res with
  | inl v =>
    obtain ⟨a1, a2⟩ := hA.1 v rfl
    refine ⟨vp_updL O (0 : Int32).toNatClampNeg v.toInt64, ?_, fun _ => ?_⟩
    · rw [thrL, show inb 0 1 = true by decide, chk_r, keep_r, a1]; rfl
    · rw [updL_0, a2]
  | inr n =>
    obtain ⟨a1, a2⟩ := hA.2 n rfl
    have a3 : n = 0 ∨ n = 1 ∨ n = 2 := by simpa using a1
    refine ⟨O, ?_, fun q => ?_⟩
    · rw [thrR, a2]
      rcases a3 with e | e | e <;> subst e <;> rfl
    · rw [a2] at q
      rcases a3 with e | e | e <;> subst e <;> exact absurd q (by decide)

/-! the law, call by call 6 -/
theorem hB_done {k : Nat} {fc : Option (FSt × (Int32 ⊕ Nat))} {y : FSt} {res : Int32 ⊕ Nat} {z : MSt} {b : Int32} {F : FSt} {O : OL} (h1 : fc = some (y, res)) (hA : Agr [0, 2] mpB res z b) :
    ∃ O', fc.bind (fun u3 => keep (pF_s (F, O) u3.1) (fun x8 => thr u3.2 (fun k3 => if k3 = 0 then some (x8, (1 : Int32)) else if k3 = 2 then some (x8, (2 : Int32)) else none) (fun r6 => (if r6 = 0 then fL_done_18 k x8 0 0 else fL_done_18 k x8 1 0)))) = some (((y, O') : POSt), mThrown z) ∧ HlpB O' z b := by
  subst h1
  rw [Option.bind_some, keep_r]
  cases res with
  | inl v =>
    obtain ⟨a1, a2⟩ := hA.1 v rfl
    subst a2
    by_cases e : b = 0
    · refine ⟨vp_updL O (0 : Int32).toNatClampNeg 0, ?_, fun _ => ?_⟩
      · rw [thrL, if_pos e, a1]; rfl
      · rw [updL_0, if_pos e]
    · refine ⟨vp_updL O (0 : Int32).toNatClampNeg 1, ?_, fun _ => ?_⟩
      · rw [thrL, if_neg e, a1]; rfl
      · rw [updL_0, if_neg e]
  | inr n =>
    obtain ⟨a1, a2⟩ := hA.2 n rfl
    have a3 : n = 0 ∨ n = 2 := by simpa using a1
    refine ⟨O, ?_, fun q => ?_⟩
    · rw [thrR, a2]
      rcases a3 with e | e <;> subst e <;> rfl
    · rw [a2] at q
      rcases a3 with e | e <;> subst e <;> exact absurd q (by decide)
theorem lw_tB812 {L : Nat} {xs : Nat → Int32} {rec : LwSt × Int32 → Option Int32} {v5 : Int32} {lim : Nat} (hr : LR rec v5 lim) {x : LwSt} (h : IVx (wS x) (wM x) lim) {c b : Int32} (hc : mThrown (wM x) = c) (hb : c = 0 → wO x 0 = if b = 0 then 0 else 1) :
    Ok ((fX8_thrown (wM x)).bind (fun u => if u = c then (if c = 0 then (if b = 0 then fL_law_812 L xs rec x v5 0 (wO x (0 : Int32).toNatClampNeg) else fL_law_812 L xs rec x v5 1 (wO x (0 : Int32).toNatClampNeg)) else fL_law_2017 L xs rec x v5) else some 0)) (fun r => r = 1) := by
  unfold fX8_thrown
  rw [Option.bind_some, if_pos hc]
  by_cases e : c = 0
  · rw [if_pos e]
    have hb' := hb e
    by_cases e2 : b = 0
    · rw [if_pos e2] at hb' ⊢
      unfold fL_law_812
      rw [if_pos (lcmp_eq (a := wO x (0 : Int32).toNatClampNeg) hb')]
      exact lw_2017 hr h
    · rw [if_neg e2] at hb' ⊢
      unfold fL_law_812
      rw [if_pos (lcmp_eq (a := wO x (0 : Int32).toNatClampNeg) hb')]
      exact lw_2017 hr h
  · rw [if_neg e]
    exact lw_2017 hr h
theorem lw_734 {L : Nat} {xs : Nat → Int32} {rec : LwSt × Int32 → Option Int32} {v5 : Int32} {lim : Nat} {x : LwSt} (hr : LR rec v5 (lim + 1)) (h : IVx (wS x) (wM x) lim) (hi : ∀ j, j < 5 → inb (v5 + nI j) L = true) : Ok (fL_law_734 L xs rec x v5) (fun r => r = 1) := by
  obtain ⟨t, cc, ff, E, Mf, idf, lvi, hl, hI⟩ := id h
  have i1 : inb (v5 + 1) L = true := hi 1 (by omega)
  have i2 : inb (v5 + 2) L = true := hi 2 (by omega)
  have i3 : inb (v5 + 3) L = true := hi 3 (by omega)
  unfold fL_law_734
  rw [i1, chk_r, ok_keep, i2, chk_r, ok_keep, i3, chk_r, ok_keep]
  generalize xs (v5 + 1).toNatClampNeg = p1
  generalize xs (v5 + 2).toNatClampNeg = p2
  generalize xs (v5 + 3).toNatClampNeg = p3
  obtain ⟨y, res, z, b, e1, e2, e3, e4⟩ := sim_done hI p1 p2 p3
  obtain ⟨O', g1, g2⟩ := hB_done (k := fk p1) (F := foc (fk p1) (wS x)) (O := wO x) e1 e4
  have g3 : fL_done (fk p1) (foc (fk p1) (wS x), wO x) p1 p2 p3 = some ((y, O'), mThrown z) := g1
  have e5 := ivx_mono e3 (Nat.succ_le_succ hl)
  have hf : vlFm (fV (pF ((y, O') : POSt))) < 18 := by
    have := ivx_fm e5 (fk_lt (q := p1))
    rw [unf_fm] at this
    exact this
  rw [decide_eq_true (ivx_fm h (fk_lt (q := p1))), chk_r, g3, Option.bind_some]
  dsimp only
  rw [decide_eq_true hf, chk_r]
  obtain ⟨x1, hx1⟩ : ∃ q : LwSt, q = (unf (fk p1) (wS x) (pF ((y, O') : POSt)), wM x, pO ((y, O') : POSt), wD x) := ⟨_, rfl⟩
  have w1 : wS x1 = unf (fk p1) (wS x) y := by rw [hx1]; rfl
  have w2 : wM x1 = wM x := by rw [hx1]; rfl
  have w3 : wO x1 = O' := by rw [hx1]; rfl
  rw [← hx1, ok_keep, ok_keep, chk_r, ok_keep, chk_r, ok_keep, chk_r, ok_keep, w2, e2, Option.bind_some, ok_keep, ok_keep]
  dsimp only
  exact lw_tB812 hr (x := wM_s x1 z) (by show IVx (wS x1) z _; rw [w1]; exact e5) rfl (fun q => by show wO x1 0 = _; rw [w3]; exact g2 q)
theorem hB_remove {k : Nat} {fc : Option (FSt × (Int32 ⊕ Nat))} {y : FSt} {res : Int32 ⊕ Nat} {z : MSt} {b : Int32} {F : FSt} {O : OL} (h1 : fc = some (y, res)) (hA : Agr [0, 2] mpB res z b) :
    ∃ O', fc.bind (fun u3 => keep (pF_s (F, O) u3.1) (fun x8 => thr u3.2 (fun k3 => if k3 = 0 then some (x8, (1 : Int32)) else if k3 = 2 then some (x8, (2 : Int32)) else none) (fun r6 => (if r6 = 0 then fL_remove_15 k x8 0 0 else fL_remove_15 k x8 1 0)))) = some (((y, O') : POSt), mThrown z) ∧ HlpB O' z b := by
  subst h1
  rw [Option.bind_some, keep_r]
  cases res with
  | inl v =>
    obtain ⟨a1, a2⟩ := hA.1 v rfl
    subst a2
    by_cases e : b = 0
    · refine ⟨vp_updL O (0 : Int32).toNatClampNeg 0, ?_, fun _ => ?_⟩
      · rw [thrL, if_pos e, a1]; rfl
      · rw [updL_0, if_pos e]
    · refine ⟨vp_updL O (0 : Int32).toNatClampNeg 1, ?_, fun _ => ?_⟩
      · rw [thrL, if_neg e, a1]; rfl
      · rw [updL_0, if_neg e]
  | inr n =>
    obtain ⟨a1, a2⟩ := hA.2 n rfl
    have a3 : n = 0 ∨ n = 2 := by simpa using a1
    refine ⟨O, ?_, fun q => ?_⟩
    · rw [thrR, a2]
      rcases a3 with e | e <;> subst e <;> rfl
    · rw [a2] at q
      rcases a3 with e | e <;> subst e <;> exact absurd q (by decide)
theorem lw_tB1047 {L : Nat} {xs : Nat → Int32} {rec : LwSt × Int32 → Option Int32} {v5 : Int32} {lim : Nat} (hr : LR rec v5 lim) {x : LwSt} (h : IVx (wS x) (wM x) lim) {c b : Int32} (hc : mThrown (wM x) = c) (hb : c = 0 → wO x 0 = if b = 0 then 0 else 1) :
    Ok ((fX8_thrown (wM x)).bind (fun u => if u = c then (if c = 0 then (if b = 0 then fL_law_1047 L xs rec x v5 0 (wO x (0 : Int32).toNatClampNeg) else fL_law_1047 L xs rec x v5 1 (wO x (0 : Int32).toNatClampNeg)) else fL_law_2017 L xs rec x v5) else some 0)) (fun r => r = 1) := by
  unfold fX8_thrown
  rw [Option.bind_some, if_pos hc]
  by_cases e : c = 0
  · rw [if_pos e]
    have hb' := hb e
    by_cases e2 : b = 0
    · rw [if_pos e2] at hb' ⊢
      unfold fL_law_1047
      rw [if_pos (lcmp_eq (a := wO x (0 : Int32).toNatClampNeg) hb')]
      exact lw_2017 hr h
    · rw [if_neg e2] at hb' ⊢
      unfold fL_law_1047
      rw [if_pos (lcmp_eq (a := wO x (0 : Int32).toNatClampNeg) hb')]
      exact lw_2017 hr h
  · rw [if_neg e]
    exact lw_2017 hr h
theorem lw_993 {L : Nat} {xs : Nat → Int32} {rec : LwSt × Int32 → Option Int32} {v5 : Int32} {lim : Nat} {x : LwSt} (hr : LR rec v5 (lim + 1)) (h : IVx (wS x) (wM x) lim) (hi : ∀ j, j < 5 → inb (v5 + nI j) L = true) : Ok (fL_law_993 L xs rec x v5) (fun r => r = 1) := by
  obtain ⟨t, cc, ff, E, Mf, idf, lvi, hl, hI⟩ := id h
  have i1 : inb (v5 + 1) L = true := hi 1 (by omega)
  unfold fL_law_993
  rw [i1, chk_r, ok_keep]
  generalize xs (v5 + 1).toNatClampNeg = p1
  obtain ⟨y, res, z, b, e1, e2, e3, e4⟩ := sim_remove hI p1
  obtain ⟨O', g1, g2⟩ := hB_remove (k := fk p1) (F := foc (fk p1) (wS x)) (O := wO x) e1 e4
  have g3 : fL_remove (fk p1) (foc (fk p1) (wS x), wO x) p1 = some ((y, O'), mThrown z) := g1
  have e5 := ivx_mono e3 (Nat.succ_le_succ hl)
  have hf : vlFm (fV (pF ((y, O') : POSt))) < 18 := by
    have := ivx_fm e5 (fk_lt (q := p1))
    rw [unf_fm] at this
    exact this
  rw [decide_eq_true (ivx_fm h (fk_lt (q := p1))), chk_r, g3, Option.bind_some]
  dsimp only
  rw [decide_eq_true hf, chk_r]
  obtain ⟨x1, hx1⟩ : ∃ q : LwSt, q = (unf (fk p1) (wS x) (pF ((y, O') : POSt)), wM x, pO ((y, O') : POSt), wD x) := ⟨_, rfl⟩
  have w1 : wS x1 = unf (fk p1) (wS x) y := by rw [hx1]; rfl
  have w2 : wM x1 = wM x := by rw [hx1]; rfl
  have w3 : wO x1 = O' := by rw [hx1]; rfl
  rw [← hx1, ok_keep, ok_keep, chk_r, ok_keep, w2, e2, Option.bind_some, ok_keep, ok_keep]
  dsimp only
  exact lw_tB1047 hr (x := wM_s x1 z) (by show IVx (wS x1) z _; rw [w1]; exact e5) rfl (fun q => by show wO x1 0 = _; rw [w3]; exact g2 q)

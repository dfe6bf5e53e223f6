/-! the law, call by call 8 -/
theorem lw_176 {L : Nat} {xs : Nat → Int32} {rec : LwSt × Int32 → Option Int32} {v5 : Int32} {lim : Nat} {x : LwSt} (hr : LR rec v5 (lim + 1)) (h : IVx (wS x) (wM x) lim) (hi : ∀ j, j < 5 → inb (v5 + nI j) L = true) : Ok (fL_law_176 L xs rec x v5) (fun r => r = 1) := by
  obtain ⟨t, cc, ff, E, Mf, idf, lvi, hl, hI⟩ := id h
  have i1 : inb (v5 + 1) L = true := hi 1 (by omega)
  have i2 : inb (v5 + 2) L = true := hi 2 (by omega)
  have i3 : inb (v5 + 3) L = true := hi 3 (by omega)
  unfold fL_law_176
  rw [i1, chk_r, ok_keep, i2, chk_r, ok_keep, i3, chk_r, ok_keep]
  have go : ∀ q : Int32, q = (if xs (v5 + 3).toNatClampNeg = 0 then (0 : Int32) else 1) → Ok (fL_law_203 L xs rec x v5 q (xs (v5 + 2).toNatClampNeg) (xs (v5 + 1).toNatClampNeg)) (fun r => r = 1) := fun q hq => by
    have hb : bit q := by
      rw [hq]
      split
      · exact Or.inl rfl
      · exact Or.inr rfl
    unfold fL_law_203
    rw [i1, i2, i3]
    generalize xs (v5 + 1).toNatClampNeg = p1
    generalize xs (v5 + 2).toNatClampNeg = p2
    generalize xs (v5 + 3).toNatClampNeg = p3 at hq ⊢
    obtain ⟨y, res, z, b, e1, e2, e3, e4⟩ := sim_push hI p1 p2 hb
    obtain ⟨O', g1, g2⟩ := hI_012 (F := foc (fk p1) (wS x)) (O := wO x) e1 e4
    have g3 : fL_push (fk p1) (foc (fk p1) (wS x), wO x) p1 p2 q = some ((y, O'), mThrown z) := g1
    have e5 := ivx_mono e3 (Nat.succ_le_succ hl)
    have hf : vlFm (fV (pF ((y, O') : POSt))) < 18 := by
      have := ivx_fm e5 (fk_lt (q := p1))
      rw [unf_fm] at this
      exact this
    rw [decide_eq_true (ivx_fm h (fk_lt (q := p1))), chk_r, g3, Option.bind_some]
    dsimp only
    rw [decide_eq_true hf, chk_r]
    obtain ⟨x1, hx1⟩ : ∃ q : LwSt, q = (unf (fk p1) (wS x) (pF ((y, O') : POSt)), wM x, pO ((y, O') : POSt), wD x) := ⟨_, rfl⟩
    have w1 : wS x1 = unf (fk p1) (wS x) y := by rw [hx1]; rfl
    have w2 : wM x1 = wM x := by rw [hx1]; rfl
    have w3 : wO x1 = O' := by rw [hx1]; rfl
    rw [← hx1, ok_keep, ok_keep, chk_r, ok_keep, chk_r, ok_keep, chk_r, ok_keep]
    have u : Ok (fL_law_236 L xs rec x1 v5 (mThrown z) q p2 p1) (fun r => r = 1) := by
      unfold fL_law_236
      rw [w2, e2, Option.bind_some, ok_keep, ok_keep]
      dsimp only
      exact lw_t1 hr (x := wM_s x1 z) (by show IVx (wS x1) z _; rw [w1]; exact e5) rfl (fun q => by show wO x1 0 = _; rw [w3]; exact g2 q)
    by_cases e : p3 = 0
    · rw [if_pos e] at hq ⊢
      rw [hq] at u; exact u
    · rw [if_neg e] at hq ⊢
      rw [hq] at u; exact u
  by_cases e : xs (v5 + 3).toNatClampNeg = 0
  · rw [if_pos e]
    exact go 0 (by rw [if_pos e])
  · rw [if_neg e]
    exact go 1 (by rw [if_neg e])
theorem lw_272 {L : Nat} {xs : Nat → Int32} {rec : LwSt × Int32 → Option Int32} {v5 : Int32} {lim : Nat} {x : LwSt} (hr : LR rec v5 (lim + 1)) (h : IVx (wS x) (wM x) lim) (hi : ∀ j, j < 5 → inb (v5 + nI j) L = true) : Ok (fL_law_272 L xs rec x v5) (fun r => r = 1) := by
  obtain ⟨t, cc, ff, E, Mf, idf, lvi, hl, hI⟩ := id h
  have i1 : inb (v5 + 1) L = true := hi 1 (by omega)
  have i2 : inb (v5 + 2) L = true := hi 2 (by omega)
  unfold fL_law_272
  rw [i1, chk_r, ok_keep, i2, chk_r, ok_keep]
  have go : ∀ q : Int32, q = (if xs (v5 + 2).toNatClampNeg = 0 then (0 : Int32) else 1) → Ok (fL_law_293 L xs rec x v5 q (xs (v5 + 1).toNatClampNeg)) (fun r => r = 1) := fun q hq => by
    have hb : bit q := by
      rw [hq]
      split
      · exact Or.inl rfl
      · exact Or.inr rfl
    unfold fL_law_293
    rw [i1, i2]
    generalize xs (v5 + 1).toNatClampNeg = p1
    generalize xs (v5 + 2).toNatClampNeg = p2 at hq ⊢
    obtain ⟨y, res, z, b, e1, e2, e3, e4⟩ := sim_pop hI p1 hb
    obtain ⟨O', g1, g2⟩ := hI_02 (F := foc (fk p1) (wS x)) (O := wO x) e1 e4
    have g3 : fL_pop (fk p1) (foc (fk p1) (wS x), wO x) p1 q = some ((y, O'), mThrown z) := g1
    have e5 := ivx_mono e3 (Nat.succ_le_succ hl)
    have hf : vlFm (fV (pF ((y, O') : POSt))) < 18 := by
      have := ivx_fm e5 (fk_lt (q := p1))
      rw [unf_fm] at this
      exact this
    rw [decide_eq_true (ivx_fm h (fk_lt (q := p1))), chk_r, g3, Option.bind_some]
    dsimp only
    rw [decide_eq_true hf, chk_r]
    obtain ⟨x1, hx1⟩ : ∃ q : LwSt, q = (unf (fk p1) (wS x) (pF ((y, O') : POSt)), wM x, pO ((y, O') : POSt), wD x) := ⟨_, rfl⟩
    have w1 : wS x1 = unf (fk p1) (wS x) y := by rw [hx1]; rfl
    have w2 : wM x1 = wM x := by rw [hx1]; rfl
    have w3 : wO x1 = O' := by rw [hx1]; rfl
    rw [← hx1, ok_keep, ok_keep, chk_r, ok_keep, chk_r, ok_keep]
    have u : Ok (fL_law_320 L xs rec x1 v5 (mThrown z) q p1) (fun r => r = 1) := by
      unfold fL_law_320
      rw [w2, e2, Option.bind_some, ok_keep, ok_keep]
      dsimp only
      exact lw_t1 hr (x := wM_s x1 z) (by show IVx (wS x1) z _; rw [w1]; exact e5) rfl (fun q => by show wO x1 0 = _; rw [w3]; exact g2 q)
    by_cases e : p2 = 0
    · rw [if_pos e] at hq ⊢
      rw [hq] at u; exact u
    · rw [if_neg e] at hq ⊢
      rw [hq] at u; exact u
  by_cases e : xs (v5 + 2).toNatClampNeg = 0
  · rw [if_pos e]
    exact go 0 (by rw [if_pos e])
  · rw [if_neg e]
    exact go 1 (by rw [if_neg e])
theorem hZ_1 {fc : Option (SSt × (Int32 ⊕ Nat))} {y : SSt} {res : Int32 ⊕ Nat} {z : MSt} {b : Int32} {F : SSt} {O : OL} (h1 : fc = some (y, res)) (hA : Agr [1] mpC res z b) :
    ∃ O', fc.bind (fun u1 => keep (zS_s (F, O) u1.1) (fun x6 => thr u1.2 (fun k3 => if k3 = 1 then some (x6, (1 : Int32)) else none) (fun r4 => chk (inb 0 1) (keep (zO_s x6 (vp_updL (zO x6) (0 : Int32).toNatClampNeg (r4).toInt64)) (fun x8 => some (x8, 0)))))) = some (((y, O') : ZSt), mThrown z) ∧ HlpI O' z b := by
  subst h1
  rw [Option.bind_some, keep_r]
  cases res with
  | inl v =>
    obtain ⟨a1, a2⟩ := hA.1 v rfl
    refine ⟨vp_updL O (0 : Int32).toNatClampNeg v.toInt64, ?_, fun _ => ?_⟩
    · rw [thrL, show inb 0 1 = true by decide, chk_r, keep_r, a1]; rfl
    · rw [updL_0, a2]
  | inr n =>
    obtain ⟨a1, a2⟩ := hA.2 n rfl
    have a3 : n = 1 := by simpa using a1
    subst a3
    refine ⟨O, ?_, fun q => ?_⟩
    · rw [thrR, a2]; rfl
    · rw [a2] at q; exact absurd q (by decide)
theorem lw_1243 {L : Nat} {xs : Nat → Int32} {rec : LwSt × Int32 → Option Int32} {v5 : Int32} {lim : Nat} {x : LwSt} (hr : LR rec v5 (lim + 1)) (h : IVx (wS x) (wM x) lim) (hi : ∀ j, j < 5 → inb (v5 + nI j) L = true) : Ok (fL_law_1243 L xs rec x v5) (fun r => r = 1) := by
  obtain ⟨t, cc, ff, E, Mf, idf, lvi, hl, hI⟩ := id h
  have i1 : inb (v5 + 1) L = true := hi 1 (by omega)
  unfold fL_law_1243
  rw [i1, chk_r, ok_keep]
  generalize xs (v5 + 1).toNatClampNeg = p1
  obtain ⟨y, res, z, b, e1, e2, e3, e4⟩ := sim_sample hI p1
  obtain ⟨O', g1, g2⟩ := hZ_1 (F := wS x) (O := wO x) e1 e4
  have g3 : fL_sample (wS x, wO x) p1 = some ((y, O'), mThrown z) := g1
  have e5 := ivx_mono e3 (Nat.succ_le_succ hl)
  rw [g3, Option.bind_some]
  dsimp only
  obtain ⟨x1, hx1⟩ : ∃ q : LwSt, q = (zS ((y, O') : ZSt), wM x, zO ((y, O') : ZSt), wD x) := ⟨_, rfl⟩
  have w1 : wS x1 = y := by rw [hx1]; rfl
  have w2 : wM x1 = wM x := by rw [hx1]; rfl
  have w3 : wO x1 = O' := by rw [hx1]; rfl
  rw [← hx1, ok_keep, ok_keep, chk_r, ok_keep, w2, e2, Option.bind_some, ok_keep, ok_keep]
  dsimp only
  exact lw_t1 hr (x := wM_s x1 z) (by show IVx (wS x1) z _; rw [w1]; exact e5) rfl (fun q => by show wO x1 0 = _; rw [w3]; exact g2 q)
theorem hW_12 {fc : Option (FSt × Nat × (Int32 ⊕ Nat))} {y : FSt} {lp : Nat} {res : Int32 ⊕ Nat} {z : MSt} {b : Int32} {F : FSt} {O : OL} (h1 : fc = some (y, lp, res)) (hA : Agr [1, 2] mpC res z b) :
    ∃ O', fc.bind (fun u1 => keep (pF_s (F, O) u1.1) (fun x6 => thr u1.2.2 (fun k3 => if k3 = 1 then some (x6, u1.2.1, (1 : Int32)) else if k3 = 2 then some (x6, u1.2.1, 2) else none) (fun r4 => chk (inb 0 1) (keep (pO_s x6 (vp_updL (pO x6) (0 : Int32).toNatClampNeg (r4).toInt64)) (fun x8 => some (x8, u1.2.1, 0)))))) = some (((y, O') : POSt), lp, mThrown z) ∧ HlpI O' z b := by
  subst h1
  rw [Option.bind_some, keep_r]
  cases res with
  | inl v =>
    obtain ⟨a1, a2⟩ := hA.1 v rfl
    refine ⟨vp_updL O (0 : Int32).toNatClampNeg v.toInt64, ?_, fun _ => ?_⟩
    · rw [thrL, show inb 0 1 = true by decide, chk_r, keep_r, a1]; rfl
    · rw [updL_0, a2]
  | inr n =>
    obtain ⟨a1, a2⟩ := hA.2 n rfl
    have a3 : n = 1 ∨ n = 2 := by simpa using a1
    refine ⟨O, ?_, fun q => ?_⟩
    · rw [thrR, a2]
      rcases a3 with e | e <;> subst e <;> rfl
    · rw [a2] at q
      rcases a3 with e | e <;> subst e <;> exact absurd q (by decide)
theorem lw_1325 {L : Nat} {xs : Nat → Int32} {rec : LwSt × Int32 → Option Int32} {v5 : Int32} {lim : Nat} {x : LwSt} (hr : LR rec v5 (lim + 1)) (h : IVx (wS x) (wM x) lim) (hi : ∀ j, j < 5 → inb (v5 + nI j) L = true) : Ok (fL_law_1325 L xs rec x v5) (fun r => r = 1) := by
  obtain ⟨t, cc, ff, E, Mf, idf, lvi, hl, hI⟩ := id h
  have i1 : inb (v5 + 1) L = true := hi 1 (by omega)
  unfold fL_law_1325
  rw [i1, chk_r, ok_keep]
  generalize xs (v5 + 1).toNatClampNeg = p1
  obtain ⟨y, lp, res, z, b, e1, e2, e0, e3, e4⟩ := sim_writeOn hI (fk p1) p1
  obtain ⟨O', g1, g2⟩ := hW_12 (F := foc (fk p1) (wS x)) (O := wO x) e1 e4
  have g3 : fL_writeOn (fk p1) (foc (fk p1) (wS x), wO x) p1 = some ((y, O'), lp, mThrown z) := g1
  have hf : vlFm (fV (pF ((y, O') : POSt))) < 18 := by
    show vlFm (fV y) < 18
    rw [e0]; exact ivx_fm h (fk_lt (q := p1))
  rw [decide_eq_true (ivx_fm h (fk_lt (q := p1))), chk_r, g3, Option.bind_some]
  dsimp only
  rw [decide_eq_true hf, chk_r]
  rcases e3 with ⟨q1, q2⟩ | ⟨q1, q2⟩
  · have e5 := ivx_mono q2 (Nat.succ_le_succ hl)
    rw [if_pos q1]
    obtain ⟨x1, hx1⟩ : ∃ q : LwSt, q = (unf (fk p1) (wS x) (pF ((y, O') : POSt)), wM x, pO ((y, O') : POSt), wD x) := ⟨_, rfl⟩
    have w1 : wS x1 = unf (fk p1) (wS x) y := by rw [hx1]; rfl
    have w2 : wM x1 = wM x := by rw [hx1]; rfl
    have w3 : wO x1 = O' := by rw [hx1]; rfl
    rw [← hx1, ok_keep, ok_keep, chk_r, ok_keep, w2, e2, Option.bind_some, ok_keep, ok_keep]
    dsimp only
    exact lw_t1 hr (x := wM_s x1 z) (by show IVx (wS x1) z _; rw [w1]; exact e5) rfl (fun q => by show wO x1 0 = _; rw [w3]; exact g2 q)
  · have e5 := ivx_mono q2 (Nat.succ_le_succ hl)
    rw [if_neg (by rw [q1]; decide), decide_eq_true q1, chk_r]
    obtain ⟨x1, hx1⟩ : ∃ q : LwSt, q = (unf (fk p1) (wS x) (swL (pF ((y, O') : POSt))), wM x, pO ((y, O') : POSt), wD x) := ⟨_, rfl⟩
    have w1 : wS x1 = unf (fk p1) (wS x) (swL y) := by rw [hx1]; rfl
    have w2 : wM x1 = wM x := by rw [hx1]; rfl
    have w3 : wO x1 = O' := by rw [hx1]; rfl
    rw [← hx1, ok_keep, ok_keep, chk_r, ok_keep, w2, e2, Option.bind_some, ok_keep, ok_keep]
    dsimp only
    exact lw_t1 hr (x := wM_s x1 z) (by show IVx (wS x1) z _; rw [w1]; exact e5) rfl (fun q => by show wO x1 0 = _; rw [w3]; exact g2 q)

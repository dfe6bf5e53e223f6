/-! the law, call by call 3 -/
theorem lw_1407 {L : Nat} {xs : Nat → Int32} {rec : LwSt × Int32 → Option Int32} {v5 : Int32} {lim : Nat} {x : LwSt} (hr : LR rec v5 (lim + 1)) (h : IVx (wS x) (wM x) lim) (hi : ∀ j, j < 5 → inb (v5 + nI j) L = true) : Ok (fL_law_1407 L xs rec x v5) (fun r => r = 1) := by
  obtain ⟨t, cc, ff, E, Mf, idf, lvi, hl, hI⟩ := id h
  have i1 : inb (v5 + 1) L = true := hi 1 (by omega)
  unfold fL_law_1407
  rw [i1, chk_r, ok_keep]
  generalize xs (v5 + 1).toNatClampNeg = p1
  obtain ⟨res, z, b, e1, e2, e3, e4⟩ := sim_typeOf hI p1
  obtain ⟨y, hy⟩ : ∃ y, y = foc (fk p1) (wS x) := ⟨_, rfl⟩
  obtain ⟨O', g1, g2⟩ := hQ_0 (F := foc (fk p1) (wS x)) (O := wO x) e1 e4
  have g3 : fL_typeOf (fk p1) (foc (fk p1) (wS x), wO x) p1 = some ((y, O'), mThrown z) := by rw [hy]; exact g1
  rw [show wS x = unf (fk p1) (wS x) y by rw [hy, unf_foc]] at e3
  have e5 := ivx_mono e3 (Nat.succ_le_succ hl)
  have hf : vlFm (fV (pF ((y, O') : POSt))) < 18 := by
    have := ivx_fm e5 (fk_lt (q := p1))
    rw [unf_fm] at this
    exact this
  rw [decide_eq_true (ivx_fm h (fk_lt (q := p1))), chk_r, g3, Option.bind_some]
  dsimp only
  rw [decide_eq_true hf, chk_r]
  obtain ⟨x1, hx1⟩ : ∃ q : LwSt, q = (unf (fk p1) (wS x) (pF ((y, O') : POSt)), wM x, pO ((y, O') : POSt), wD x) := ⟨_, rfl⟩
  have w1 : wS x1 = unf (fk p1) (wS x) y := by rw [hx1]; rfl
  have w2 : wM x1 = wM x := by rw [hx1]; rfl
  have w3 : wO x1 = O' := by rw [hx1]; rfl
  rw [← hx1, ok_keep, ok_keep, chk_r, ok_keep, w2, e2, Option.bind_some, ok_keep, ok_keep]
  dsimp only
  exact lw_t1 hr (x := wM_s x1 z) (by show IVx (wS x1) z _; rw [w1]; exact e5) rfl (fun q => by show wO x1 0 = _; rw [w3]; exact g2 q)
theorem lw_1463 {L : Nat} {xs : Nat → Int32} {rec : LwSt × Int32 → Option Int32} {v5 : Int32} {lim : Nat} {x : LwSt} (hr : LR rec v5 (lim + 1)) (h : IVx (wS x) (wM x) lim) (hi : ∀ j, j < 5 → inb (v5 + nI j) L = true) : Ok (fL_law_1463 L xs rec x v5) (fun r => r = 1) := by
  obtain ⟨t, cc, ff, E, Mf, idf, lvi, hl, hI⟩ := id h
  have i1 : inb (v5 + 1) L = true := hi 1 (by omega)
  unfold fL_law_1463
  rw [i1, chk_r, ok_keep]
  generalize xs (v5 + 1).toNatClampNeg = p1
  obtain ⟨res, z, b, e1, e2, e3, e4⟩ := sim_formOf hI p1
  obtain ⟨y, hy⟩ : ∃ y, y = foc (fk p1) (wS x) := ⟨_, rfl⟩
  obtain ⟨O', g1, g2⟩ := hQ_0 (F := foc (fk p1) (wS x)) (O := wO x) e1 e4
  have g3 : fL_formOf (fk p1) (foc (fk p1) (wS x), wO x) p1 = some ((y, O'), mThrown z) := by rw [hy]; exact g1
  rw [show wS x = unf (fk p1) (wS x) y by rw [hy, unf_foc]] at e3
  have e5 := ivx_mono e3 (Nat.succ_le_succ hl)
  have hf : vlFm (fV (pF ((y, O') : POSt))) < 18 := by
    have := ivx_fm e5 (fk_lt (q := p1))
    rw [unf_fm] at this
    exact this
  rw [decide_eq_true (ivx_fm h (fk_lt (q := p1))), chk_r, g3, Option.bind_some]
  dsimp only
  rw [decide_eq_true hf, chk_r]
  obtain ⟨x1, hx1⟩ : ∃ q : LwSt, q = (unf (fk p1) (wS x) (pF ((y, O') : POSt)), wM x, pO ((y, O') : POSt), wD x) := ⟨_, rfl⟩
  have w1 : wS x1 = unf (fk p1) (wS x) y := by rw [hx1]; rfl
  have w2 : wM x1 = wM x := by rw [hx1]; rfl
  have w3 : wO x1 = O' := by rw [hx1]; rfl
  rw [← hx1, ok_keep, ok_keep, chk_r, ok_keep, w2, e2, Option.bind_some, ok_keep, ok_keep]
  dsimp only
  exact lw_t1 hr (x := wM_s x1 z) (by show IVx (wS x1) z _; rw [w1]; exact e5) rfl (fun q => by show wO x1 0 = _; rw [w3]; exact g2 q)
theorem lw_1519 {L : Nat} {xs : Nat → Int32} {rec : LwSt × Int32 → Option Int32} {v5 : Int32} {lim : Nat} {x : LwSt} (hr : LR rec v5 (lim + 1)) (h : IVx (wS x) (wM x) lim) (hi : ∀ j, j < 5 → inb (v5 + nI j) L = true) : Ok (fL_law_1519 L xs rec x v5) (fun r => r = 1) := by
  obtain ⟨t, cc, ff, E, Mf, idf, lvi, hl, hI⟩ := id h
  have i1 : inb (v5 + 1) L = true := hi 1 (by omega)
  unfold fL_law_1519
  rw [i1, chk_r, ok_keep]
  generalize xs (v5 + 1).toNatClampNeg = p1
  obtain ⟨res, z, b, e1, e2, e3, e4⟩ := sim_size hI p1
  obtain ⟨y, hy⟩ : ∃ y, y = foc (fk p1) (wS x) := ⟨_, rfl⟩
  obtain ⟨O', g1, g2⟩ := hQ_0 (F := foc (fk p1) (wS x)) (O := wO x) e1 e4
  have g3 : fL_size (fk p1) (foc (fk p1) (wS x), wO x) p1 = some ((y, O'), mThrown z) := by rw [hy]; exact g1
  rw [show wS x = unf (fk p1) (wS x) y by rw [hy, unf_foc]] at e3
  have e5 := ivx_mono e3 (Nat.succ_le_succ hl)
  have hf : vlFm (fV (pF ((y, O') : POSt))) < 18 := by
    have := ivx_fm e5 (fk_lt (q := p1))
    rw [unf_fm] at this
    exact this
  rw [decide_eq_true (ivx_fm h (fk_lt (q := p1))), chk_r, g3, Option.bind_some]
  dsimp only
  rw [decide_eq_true hf, chk_r]
  obtain ⟨x1, hx1⟩ : ∃ q : LwSt, q = (unf (fk p1) (wS x) (pF ((y, O') : POSt)), wM x, pO ((y, O') : POSt), wD x) := ⟨_, rfl⟩
  have w1 : wS x1 = unf (fk p1) (wS x) y := by rw [hx1]; rfl
  have w2 : wM x1 = wM x := by rw [hx1]; rfl
  have w3 : wO x1 = O' := by rw [hx1]; rfl
  rw [← hx1, ok_keep, ok_keep, chk_r, ok_keep, w2, e2, Option.bind_some, ok_keep, ok_keep]
  dsimp only
  exact lw_t1 hr (x := wM_s x1 z) (by show IVx (wS x1) z _; rw [w1]; exact e5) rfl (fun q => by show wO x1 0 = _; rw [w3]; exact g2 q)
theorem lw_1131 {L : Nat} {xs : Nat → Int32} {rec : LwSt × Int32 → Option Int32} {v5 : Int32} {lim : Nat} {x : LwSt} (hr : LR rec v5 (lim + 1)) (h : IVx (wS x) (wM x) lim) (hi : ∀ j, j < 5 → inb (v5 + nI j) L = true) : Ok (fL_law_1131 L xs rec x v5) (fun r => r = 1) := by
  obtain ⟨t, cc, ff, E, Mf, idf, lvi, hl, hI⟩ := id h
  have i1 : inb (v5 + 1) L = true := hi 1 (by omega)
  unfold fL_law_1131
  rw [i1, chk_r, ok_keep]
  generalize xs (v5 + 1).toNatClampNeg = p1
  obtain ⟨res, z, b, e1, e2, e3, e4⟩ := sim_left hI p1
  obtain ⟨y, hy⟩ : ∃ y, y = foc (fk p1) (wS x) := ⟨_, rfl⟩
  obtain ⟨O', g1, g2⟩ := hQ_0 (F := foc (fk p1) (wS x)) (O := wO x) e1 e4
  have g3 : fL_left (fk p1) (foc (fk p1) (wS x), wO x) p1 = some ((y, O'), mThrown z) := by rw [hy]; exact g1
  rw [show wS x = unf (fk p1) (wS x) y by rw [hy, unf_foc]] at e3
  have e5 := ivx_mono e3 (Nat.succ_le_succ hl)
  have hf : vlFm (fV (pF ((y, O') : POSt))) < 18 := by
    have := ivx_fm e5 (fk_lt (q := p1))
    rw [unf_fm] at this
    exact this
  rw [decide_eq_true (ivx_fm h (fk_lt (q := p1))), chk_r, g3, Option.bind_some]
  dsimp only
  rw [decide_eq_true hf, chk_r]
  obtain ⟨x1, hx1⟩ : ∃ q : LwSt, q = (unf (fk p1) (wS x) (pF ((y, O') : POSt)), wM x, pO ((y, O') : POSt), wD x) := ⟨_, rfl⟩
  have w1 : wS x1 = unf (fk p1) (wS x) y := by rw [hx1]; rfl
  have w2 : wM x1 = wM x := by rw [hx1]; rfl
  have w3 : wO x1 = O' := by rw [hx1]; rfl
  rw [← hx1, ok_keep, ok_keep, chk_r, ok_keep, w2, e2, Option.bind_some, ok_keep, ok_keep]
  dsimp only
  exact lw_t1 hr (x := wM_s x1 z) (by show IVx (wS x1) z _; rw [w1]; exact e5) rfl (fun q => by show wO x1 0 = _; rw [w3]; exact g2 q)
theorem lw_1575 {L : Nat} {xs : Nat → Int32} {rec : LwSt × Int32 → Option Int32} {v5 : Int32} {lim : Nat} {x : LwSt} (hr : LR rec v5 (lim + 1)) (h : IVx (wS x) (wM x) lim) (hi : ∀ j, j < 5 → inb (v5 + nI j) L = true) : Ok (fL_law_1575 L xs rec x v5) (fun r => r = 1) := by
  obtain ⟨t, cc, ff, E, Mf, idf, lvi, hl, hI⟩ := id h
  have i1 : inb (v5 + 1) L = true := hi 1 (by omega)
  have i2 : inb (v5 + 2) L = true := hi 2 (by omega)
  unfold fL_law_1575
  rw [i1, chk_r, ok_keep, i2, chk_r, ok_keep]
  generalize xs (v5 + 1).toNatClampNeg = p1
  generalize xs (v5 + 2).toNatClampNeg = p2
  obtain ⟨res, z, b, e1, e2, e3, e4⟩ := sim_at hI p1 p2
  obtain ⟨y, hy⟩ : ∃ y, y = foc (fk p1) (wS x) := ⟨_, rfl⟩
  obtain ⟨O', g1, g2⟩ := hQ_0 (F := foc (fk p1) (wS x)) (O := wO x) e1 e4
  have g3 : fL_at (fk p1) (foc (fk p1) (wS x), wO x) p1 p2 = some ((y, O'), mThrown z) := by rw [hy]; exact g1
  rw [show wS x = unf (fk p1) (wS x) y by rw [hy, unf_foc]] at e3
  have e5 := ivx_mono e3 (Nat.succ_le_succ hl)
  have hf : vlFm (fV (pF ((y, O') : POSt))) < 18 := by
    have := ivx_fm e5 (fk_lt (q := p1))
    rw [unf_fm] at this
    exact this
  rw [decide_eq_true (ivx_fm h (fk_lt (q := p1))), chk_r, g3, Option.bind_some]
  dsimp only
  rw [decide_eq_true hf, chk_r]
  obtain ⟨x1, hx1⟩ : ∃ q : LwSt, q = (unf (fk p1) (wS x) (pF ((y, O') : POSt)), wM x, pO ((y, O') : POSt), wD x) := ⟨_, rfl⟩
  have w1 : wS x1 = unf (fk p1) (wS x) y := by rw [hx1]; rfl
  have w2 : wM x1 = wM x := by rw [hx1]; rfl
  have w3 : wO x1 = O' := by rw [hx1]; rfl
  rw [← hx1, ok_keep, ok_keep, chk_r, ok_keep, chk_r, ok_keep, w2, e2, Option.bind_some, ok_keep, ok_keep]
  dsimp only
  exact lw_t1 hr (x := wM_s x1 z) (by show IVx (wS x1) z _; rw [w1]; exact e5) rfl (fun q => by show wO x1 0 = _; rw [w3]; exact g2 q)
theorem lw_1643 {L : Nat} {xs : Nat → Int32} {rec : LwSt × Int32 → Option Int32} {v5 : Int32} {lim : Nat} {x : LwSt} (hr : LR rec v5 (lim + 1)) (h : IVx (wS x) (wM x) lim) (hi : ∀ j, j < 5 → inb (v5 + nI j) L = true) : Ok (fL_law_1643 L xs rec x v5) (fun r => r = 1) := by
  obtain ⟨t, cc, ff, E, Mf, idf, lvi, hl, hI⟩ := id h
  have i1 : inb (v5 + 1) L = true := hi 1 (by omega)
  have i2 : inb (v5 + 2) L = true := hi 2 (by omega)
  unfold fL_law_1643
  rw [i1, chk_r, ok_keep, i2, chk_r, ok_keep]
  generalize xs (v5 + 1).toNatClampNeg = p1
  generalize xs (v5 + 2).toNatClampNeg = p2
  obtain ⟨res, z, b, e1, e2, e3, e4⟩ := sim_atByPlain hI p1 p2
  obtain ⟨y, hy⟩ : ∃ y, y = foc (fk p1) (wS x) := ⟨_, rfl⟩
  obtain ⟨O', g1, g2⟩ := hQ_0 (F := foc (fk p1) (wS x)) (O := wO x) e1 e4
  have g3 : fL_atByPlain (fk p1) (foc (fk p1) (wS x), wO x) p1 p2 = some ((y, O'), mThrown z) := by rw [hy]; exact g1
  rw [show wS x = unf (fk p1) (wS x) y by rw [hy, unf_foc]] at e3
  have e5 := ivx_mono e3 (Nat.succ_le_succ hl)
  have hf : vlFm (fV (pF ((y, O') : POSt))) < 18 := by
    have := ivx_fm e5 (fk_lt (q := p1))
    rw [unf_fm] at this
    exact this
  rw [decide_eq_true (ivx_fm h (fk_lt (q := p1))), chk_r, g3, Option.bind_some]
  dsimp only
  rw [decide_eq_true hf, chk_r]
  obtain ⟨x1, hx1⟩ : ∃ q : LwSt, q = (unf (fk p1) (wS x) (pF ((y, O') : POSt)), wM x, pO ((y, O') : POSt), wD x) := ⟨_, rfl⟩
  have w1 : wS x1 = unf (fk p1) (wS x) y := by rw [hx1]; rfl
  have w2 : wM x1 = wM x := by rw [hx1]; rfl
  have w3 : wO x1 = O' := by rw [hx1]; rfl
  rw [← hx1, ok_keep, ok_keep, chk_r, ok_keep, chk_r, ok_keep, w2, e2, Option.bind_some, ok_keep, ok_keep]
  dsimp only
  exact lw_t1 hr (x := wM_s x1 z) (by show IVx (wS x1) z _; rw [w1]; exact e5) rfl (fun q => by show wO x1 0 = _; rw [w3]; exact g2 q)

/-! the law, call by call 4 -/
theorem lw_913 {L : Nat} {xs : Nat → Int32} {rec : LwSt × Int32 → Option Int32} {v5 : Int32} {lim : Nat} {x : LwSt} (hr : LR rec v5 (lim + 1)) (h : IVx (wS x) (wM x) lim) (hi : ∀ j, j < 5 → inb (v5 + nI j) L = true) : Ok (fL_law_913 L xs rec x v5) (fun r => r = 1) := by
  obtain ⟨t, cc, ff, E, Mf, idf, lvi, hl, hI⟩ := id h
  have i1 : inb (v5 + 1) L = true := hi 1 (by omega)
  have i2 : inb (v5 + 2) L = true := hi 2 (by omega)
  have i3 : inb (v5 + 3) L = true := hi 3 (by omega)
  unfold fL_law_913
  rw [i1, chk_r, ok_keep, i2, chk_r, ok_keep, i3, chk_r, ok_keep]
  generalize xs (v5 + 1).toNatClampNeg = p1
  generalize xs (v5 + 2).toNatClampNeg = p2
  generalize xs (v5 + 3).toNatClampNeg = p3
  obtain ⟨res, z, b, e1, e2, e3, e4⟩ := sim_waiting hI p1 p2 p3
  obtain ⟨y, hy⟩ : ∃ y, y = foc (fk p1) (wS x) := ⟨_, rfl⟩
  obtain ⟨O', g1, g2⟩ := hQ_0 (F := foc (fk p1) (wS x)) (O := wO x) e1 e4
  have g3 : fL_waiting (fk p1) (foc (fk p1) (wS x), wO x) p1 p2 p3 = some ((y, O'), mThrown z) := by rw [hy]; exact g1
  rw [show wS x = unf (fk p1) (wS x) y by rw [hy, unf_foc]] at e3
  have e5 := ivx_mono e3 (Nat.succ_le_succ hl)
  have hf : vlFm (fV (pF ((y, O') : POSt))) < 18 := by
    have := ivx_fm e5 (fk_lt (q := p1))
    rw [unf_fm] at this
    exact this
  rw [decide_eq_true (ivx_fm h (fk_lt (q := p1))), chk_r, g3, Option.bind_some]
  dsimp only
  rw [decide_eq_true hf, chk_r]
  obtain ⟨x1, hx1⟩ : ∃ q : LwSt, q = (unf (fk p1) (wS x) (pF ((y, O') : POSt)), wM x, pO ((y, O') : POSt), wD x) := ⟨_, rfl⟩
  have w1 : wS x1 = unf (fk p1) (wS x) y := by rw [hx1]; rfl
  have w2 : wM x1 = wM x := by rw [hx1]; rfl
  have w3 : wO x1 = O' := by rw [hx1]; rfl
  rw [← hx1, ok_keep, ok_keep, chk_r, ok_keep, chk_r, ok_keep, chk_r, ok_keep, w2, e2, Option.bind_some, ok_keep, ok_keep]
  dsimp only
  exact lw_t1 hr (x := wM_s x1 z) (by show IVx (wS x1) z _; rw [w1]; exact e5) rfl (fun q => by show wO x1 0 = _; rw [w3]; exact g2 q)
theorem lw_1711 {L : Nat} {xs : Nat → Int32} {rec : LwSt × Int32 → Option Int32} {v5 : Int32} {lim : Nat} {x : LwSt} (hr : LR rec v5 (lim + 1)) (h : IVx (wS x) (wM x) lim) (hi : ∀ j, j < 5 → inb (v5 + nI j) L = true) : Ok (fL_law_1711 L xs rec x v5) (fun r => r = 1) := by
  obtain ⟨t, cc, ff, E, Mf, idf, lvi, hl, hI⟩ := id h
  have i1 : inb (v5 + 1) L = true := hi 1 (by omega)
  have i2 : inb (v5 + 2) L = true := hi 2 (by omega)
  unfold fL_law_1711
  rw [i1, chk_r, ok_keep, i2, chk_r, ok_keep]
  generalize xs (v5 + 1).toNatClampNeg = p1
  generalize xs (v5 + 2).toNatClampNeg = p2
  obtain ⟨res, z, b, e1, e2, e3, e4⟩ := sim_indexOf hI p1 p2
  obtain ⟨y, hy⟩ : ∃ y, y = foc (fk p1) (wS x) := ⟨_, rfl⟩
  obtain ⟨O', g1, g2⟩ := hQ_01 (F := foc (fk p1) (wS x)) (O := wO x) e1 e4
  have g3 : fL_indexOf (fk p1) (foc (fk p1) (wS x), wO x) p1 p2 = some ((y, O'), mThrown z) := by rw [hy]; exact g1
  rw [show wS x = unf (fk p1) (wS x) y by rw [hy, unf_foc]] at e3
  have e5 := ivx_mono e3 (Nat.succ_le_succ hl)
  have hf : vlFm (fV (pF ((y, O') : POSt))) < 18 := by
    have := ivx_fm e5 (fk_lt (q := p1))
    rw [unf_fm] at this
    exact this
  rw [decide_eq_true (ivx_fm h (fk_lt (q := p1))), chk_r, g3, Option.bind_some]
  dsimp only
  rw [decide_eq_true hf, chk_r]
  obtain ⟨x1, hx1⟩ : ∃ q : LwSt, q = (unf (fk p1) (wS x) (pF ((y, O') : POSt)), wM x, pO ((y, O') : POSt), wD x) := ⟨_, rfl⟩
  have w1 : wS x1 = unf (fk p1) (wS x) y := by rw [hx1]; rfl
  have w2 : wM x1 = wM x := by rw [hx1]; rfl
  have w3 : wO x1 = O' := by rw [hx1]; rfl
  rw [← hx1, ok_keep, ok_keep, chk_r, ok_keep, chk_r, ok_keep, w2, e2, Option.bind_some, ok_keep, ok_keep]
  dsimp only
  exact lw_t1 hr (x := wM_s x1 z) (by show IVx (wS x1) z _; rw [w1]; exact e5) rfl (fun q => by show wO x1 0 = _; rw [w3]; exact g2 q)
theorem lw_1869 {L : Nat} {xs : Nat → Int32} {rec : LwSt × Int32 → Option Int32} {v5 : Int32} {lim : Nat} {x : LwSt} (hr : LR rec v5 (lim + 1)) (h : IVx (wS x) (wM x) lim) (hi : ∀ j, j < 5 → inb (v5 + nI j) L = true) : Ok (fL_law_1869 L xs rec x v5) (fun r => r = 1) := by
  obtain ⟨t, cc, ff, E, Mf, idf, lvi, hl, hI⟩ := id h
  have i1 : inb (v5 + 1) L = true := hi 1 (by omega)
  have i2 : inb (v5 + 2) L = true := hi 2 (by omega)
  unfold fL_law_1869
  rw [i1, chk_r, ok_keep, i2, chk_r, ok_keep]
  generalize xs (v5 + 1).toNatClampNeg = p1
  generalize xs (v5 + 2).toNatClampNeg = p2
  obtain ⟨res, z, b, e1, e2, e3, e4⟩ := sim_next hI p1 p2
  obtain ⟨y, hy⟩ : ∃ y, y = foc (fk p1) (wS x) := ⟨_, rfl⟩
  obtain ⟨O', g1, g2⟩ := hQ_012 (F := foc (fk p1) (wS x)) (O := wO x) e1 e4
  have g3 : fL_next (fk p1) (foc (fk p1) (wS x), wO x) p1 p2 = some ((y, O'), mThrown z) := by rw [hy]; exact g1
  rw [show wS x = unf (fk p1) (wS x) y by rw [hy, unf_foc]] at e3
  have e5 := ivx_mono e3 (Nat.succ_le_succ hl)
  have hf : vlFm (fV (pF ((y, O') : POSt))) < 18 := by
    have := ivx_fm e5 (fk_lt (q := p1))
    rw [unf_fm] at this
    exact this
  rw [decide_eq_true (ivx_fm h (fk_lt (q := p1))), chk_r, g3, Option.bind_some]
  dsimp only
  rw [decide_eq_true hf, chk_r]
  obtain ⟨x1, hx1⟩ : ∃ q : LwSt, q = (unf (fk p1) (wS x) (pF ((y, O') : POSt)), wM x, pO ((y, O') : POSt), wD x) := ⟨_, rfl⟩
  have w1 : wS x1 = unf (fk p1) (wS x) y := by rw [hx1]; rfl
  have w2 : wM x1 = wM x := by rw [hx1]; rfl
  have w3 : wO x1 = O' := by rw [hx1]; rfl
  rw [← hx1, ok_keep, ok_keep, chk_r, ok_keep, chk_r, ok_keep, w2, e2, Option.bind_some, ok_keep, ok_keep]
  dsimp only
  exact lw_t1 hr (x := wM_s x1 z) (by show IVx (wS x1) z _; rw [w1]; exact e5) rfl (fun q => by show wO x1 0 = _; rw [w3]; exact g2 q)
theorem lw_1937 {L : Nat} {xs : Nat → Int32} {rec : LwSt × Int32 → Option Int32} {v5 : Int32} {lim : Nat} {x : LwSt} (hr : LR rec v5 (lim + 1)) (h : IVx (wS x) (wM x) lim) (hi : ∀ j, j < 5 → inb (v5 + nI j) L = true) : Ok (fL_law_1937 L xs rec x v5) (fun r => r = 1) := by
  obtain ⟨t, cc, ff, E, Mf, idf, lvi, hl, hI⟩ := id h
  have i1 : inb (v5 + 1) L = true := hi 1 (by omega)
  have i2 : inb (v5 + 2) L = true := hi 2 (by omega)
  have i3 : inb (v5 + 3) L = true := hi 3 (by omega)
  unfold fL_law_1937
  rw [i1, chk_r, ok_keep, i2, chk_r, ok_keep, i3, chk_r, ok_keep]
  generalize xs (v5 + 1).toNatClampNeg = p1
  generalize xs (v5 + 2).toNatClampNeg = p2
  generalize xs (v5 + 3).toNatClampNeg = p3
  obtain ⟨res, z, b, e1, e2, e3, e4⟩ := sim_scanned hI p1 p2 p3
  obtain ⟨y, hy⟩ : ∃ y, y = foc (fk p1) (wS x) := ⟨_, rfl⟩
  obtain ⟨O', g1, g2⟩ := hQ_012 (F := foc (fk p1) (wS x)) (O := wO x) e1 e4
  have g3 : fL_scanned (fk p1) (foc (fk p1) (wS x), wO x) p1 p2 p3 = some ((y, O'), mThrown z) := by rw [hy]; exact g1
  rw [show wS x = unf (fk p1) (wS x) y by rw [hy, unf_foc]] at e3
  have e5 := ivx_mono e3 (Nat.succ_le_succ hl)
  have hf : vlFm (fV (pF ((y, O') : POSt))) < 18 := by
    have := ivx_fm e5 (fk_lt (q := p1))
    rw [unf_fm] at this
    exact this
  rw [decide_eq_true (ivx_fm h (fk_lt (q := p1))), chk_r, g3, Option.bind_some]
  dsimp only
  rw [decide_eq_true hf, chk_r]
  obtain ⟨x1, hx1⟩ : ∃ q : LwSt, q = (unf (fk p1) (wS x) (pF ((y, O') : POSt)), wM x, pO ((y, O') : POSt), wD x) := ⟨_, rfl⟩
  have w1 : wS x1 = unf (fk p1) (wS x) y := by rw [hx1]; rfl
  have w2 : wM x1 = wM x := by rw [hx1]; rfl
  have w3 : wO x1 = O' := by rw [hx1]; rfl
  rw [← hx1, ok_keep, ok_keep, chk_r, ok_keep, chk_r, ok_keep, chk_r, ok_keep, w2, e2, Option.bind_some, ok_keep, ok_keep]
  dsimp only
  exact lw_t1 hr (x := wM_s x1 z) (by show IVx (wS x1) z _; rw [w1]; exact e5) rfl (fun q => by show wO x1 0 = _; rw [w3]; exact g2 q)

/-! the law, call by call 2 -/
theorem lw_506 {L : Nat} {xs : Nat → Int32} {rec : LwSt × Int32 → Option Int32} {v5 : Int32} {lim : Nat} {x : LwSt} (hr : LR rec v5 (lim + 1)) (h : IVx (wS x) (wM x) lim) (hi : ∀ j, j < 5 → inb (v5 + nI j) L = true) : Ok (fL_law_506 L xs rec x v5) (fun r => r = 1) := by
  obtain ⟨t, cc, ff, E, Mf, idf, lvi, hl, hI⟩ := id h
  have i1 : inb (v5 + 1) L = true := hi 1 (by omega)
  have i2 : inb (v5 + 2) L = true := hi 2 (by omega)
  have i3 : inb (v5 + 3) L = true := hi 3 (by omega)
  unfold fL_law_506
  rw [i1, chk_r, ok_keep, i2, chk_r, ok_keep, i3, chk_r, ok_keep]
  generalize xs (v5 + 1).toNatClampNeg = p1
  generalize xs (v5 + 2).toNatClampNeg = p2
  generalize xs (v5 + 3).toNatClampNeg = p3
  obtain ⟨y, res, z, b, e1, e2, e3, e4⟩ := sim_rate hI p1 p2 p3
  obtain ⟨O', g1, g2⟩ := hI_012 (F := foc (fk p1) (wS x)) (O := wO x) e1 e4
  have g3 : fL_rate (fk p1) (foc (fk p1) (wS x), wO x) p1 p2 p3 = some ((y, O'), mThrown z) := g1
  have e5 := ivx_mono e3 (Nat.succ_le_succ hl)
  have hf : vlFm (fV (pF ((y, O') : POSt))) < 18 := by
    have := ivx_fm e5 (fk_lt (q := p1))
    rw [unf_fm] at this
    exact this
  rw [decide_eq_true (ivx_fm h (fk_lt (q := p1))), chk_r, g3, Option.bind_some]
  dsimp only
  rw [decide_eq_true hf, chk_r]
  obtain ⟨x1, hx1⟩ : ∃ q : LwSt, q = (unf (fk p1) (wS x) (pF ((y, O') : POSt)), wM x, pO ((y, O') : POSt), wD x) := ⟨_, rfl⟩
  have w1 : wS x1 = unf (fk p1) (wS x) y := by rw [hx1]; rfl
  have w2 : wM x1 = wM x := by rw [hx1]; rfl
  have w3 : wO x1 = O' := by rw [hx1]; rfl
  rw [← hx1, ok_keep, ok_keep, chk_r, ok_keep, chk_r, ok_keep, chk_r, ok_keep, w2, e2, Option.bind_some, ok_keep, ok_keep]
  dsimp only
  exact lw_t1 hr (x := wM_s x1 z) (by show IVx (wS x1) z _; rw [w1]; exact e5) rfl (fun q => by show wO x1 0 = _; rw [w3]; exact g2 q)
theorem lw_586 {L : Nat} {xs : Nat → Int32} {rec : LwSt × Int32 → Option Int32} {v5 : Int32} {lim : Nat} {x : LwSt} (hr : LR rec v5 (lim + 1)) (h : IVx (wS x) (wM x) lim) (hi : ∀ j, j < 5 → inb (v5 + nI j) L = true) : Ok (fL_law_586 L xs rec x v5) (fun r => r = 1) := by
  obtain ⟨t, cc, ff, E, Mf, idf, lvi, hl, hI⟩ := id h
  have i1 : inb (v5 + 1) L = true := hi 1 (by omega)
  have i2 : inb (v5 + 2) L = true := hi 2 (by omega)
  unfold fL_law_586
  rw [i1, chk_r, ok_keep, i2, chk_r, ok_keep]
  generalize xs (v5 + 1).toNatClampNeg = p1
  generalize xs (v5 + 2).toNatClampNeg = p2
  obtain ⟨y, res, z, b, e1, e2, e3, e4⟩ := sim_append hI p1 p2
  obtain ⟨O', g1, g2⟩ := hI_012 (F := foc (fk p1) (wS x)) (O := wO x) e1 e4
  have g3 : fL_append (fk p1) (foc (fk p1) (wS x), wO x) p1 p2 = some ((y, O'), mThrown z) := g1
  have e5 := ivx_mono e3 (Nat.succ_le_succ hl)
  have hf : vlFm (fV (pF ((y, O') : POSt))) < 18 := by
    have := ivx_fm e5 (fk_lt (q := p1))
    rw [unf_fm] at this
    exact this
  rw [decide_eq_true (ivx_fm h (fk_lt (q := p1))), chk_r, g3, Option.bind_some]
  dsimp only
  rw [decide_eq_true hf, chk_r]
  obtain ⟨x1, hx1⟩ : ∃ q : LwSt, q = (unf (fk p1) (wS x) (pF ((y, O') : POSt)), wM x, pO ((y, O') : POSt), wD x) := ⟨_, rfl⟩
  have w1 : wS x1 = unf (fk p1) (wS x) y := by rw [hx1]; rfl
  have w2 : wM x1 = wM x := by rw [hx1]; rfl
  have w3 : wO x1 = O' := by rw [hx1]; rfl
  rw [← hx1, ok_keep, ok_keep, chk_r, ok_keep, chk_r, ok_keep, w2, e2, Option.bind_some, ok_keep, ok_keep]
  dsimp only
  exact lw_t1 hr (x := wM_s x1 z) (by show IVx (wS x1) z _; rw [w1]; exact e5) rfl (fun q => by show wO x1 0 = _; rw [w3]; exact g2 q)
theorem lw_654 {L : Nat} {xs : Nat → Int32} {rec : LwSt × Int32 → Option Int32} {v5 : Int32} {lim : Nat} {x : LwSt} (hr : LR rec v5 (lim + 1)) (h : IVx (wS x) (wM x) lim) (hi : ∀ j, j < 5 → inb (v5 + nI j) L = true) : Ok (fL_law_654 L xs rec x v5) (fun r => r = 1) := by
  obtain ⟨t, cc, ff, E, Mf, idf, lvi, hl, hI⟩ := id h
  have i1 : inb (v5 + 1) L = true := hi 1 (by omega)
  have i2 : inb (v5 + 2) L = true := hi 2 (by omega)
  have i3 : inb (v5 + 3) L = true := hi 3 (by omega)
  unfold fL_law_654
  rw [i1, chk_r, ok_keep, i2, chk_r, ok_keep, i3, chk_r, ok_keep]
  generalize xs (v5 + 1).toNatClampNeg = p1
  generalize xs (v5 + 2).toNatClampNeg = p2
  generalize xs (v5 + 3).toNatClampNeg = p3
  obtain ⟨y, res, z, b, e1, e2, e3, e4⟩ := sim_read hI p1 p2 p3
  obtain ⟨O', g1, g2⟩ := hI_02 (F := foc (fk p1) (wS x)) (O := wO x) e1 e4
  have g3 : fL_read (fk p1) (foc (fk p1) (wS x), wO x) p1 p2 p3 = some ((y, O'), mThrown z) := g1
  have e5 := ivx_mono e3 (Nat.succ_le_succ hl)
  have hf : vlFm (fV (pF ((y, O') : POSt))) < 18 := by
    have := ivx_fm e5 (fk_lt (q := p1))
    rw [unf_fm] at this
    exact this
  rw [decide_eq_true (ivx_fm h (fk_lt (q := p1))), chk_r, g3, Option.bind_some]
  dsimp only
  rw [decide_eq_true hf, chk_r]
  obtain ⟨x1, hx1⟩ : ∃ q : LwSt, q = (unf (fk p1) (wS x) (pF ((y, O') : POSt)), wM x, pO ((y, O') : POSt), wD x) := ⟨_, rfl⟩
  have w1 : wS x1 = unf (fk p1) (wS x) y := by rw [hx1]; rfl
  have w2 : wM x1 = wM x := by rw [hx1]; rfl
  have w3 : wO x1 = O' := by rw [hx1]; rfl
  rw [← hx1, ok_keep, ok_keep, chk_r, ok_keep, chk_r, ok_keep, chk_r, ok_keep, w2, e2, Option.bind_some, ok_keep, ok_keep]
  dsimp only
  exact lw_t1 hr (x := wM_s x1 z) (by show IVx (wS x1) z _; rw [w1]; exact e5) rfl (fun q => by show wO x1 0 = _; rw [w3]; exact g2 q)
theorem lw_821 {L : Nat} {xs : Nat → Int32} {rec : LwSt × Int32 → Option Int32} {v5 : Int32} {lim : Nat} {x : LwSt} (hr : LR rec v5 (lim + 1)) (h : IVx (wS x) (wM x) lim) (hi : ∀ j, j < 5 → inb (v5 + nI j) L = true) : Ok (fL_law_821 L xs rec x v5) (fun r => r = 1) := by
  obtain ⟨t, cc, ff, E, Mf, idf, lvi, hl, hI⟩ := id h
  have i1 : inb (v5 + 1) L = true := hi 1 (by omega)
  have i2 : inb (v5 + 2) L = true := hi 2 (by omega)
  have i3 : inb (v5 + 3) L = true := hi 3 (by omega)
  have i4 : inb (v5 + 4) L = true := hi 4 (by omega)
  unfold fL_law_821
  rw [i1, chk_r, ok_keep, i2, chk_r, ok_keep, i3, chk_r, ok_keep, i4, chk_r, ok_keep]
  generalize xs (v5 + 1).toNatClampNeg = p1
  generalize xs (v5 + 2).toNatClampNeg = p2
  generalize xs (v5 + 3).toNatClampNeg = p3
  generalize xs (v5 + 4).toNatClampNeg = p4
  obtain ⟨y, res, z, b, e1, e2, e3, e4⟩ := sim_claim hI p1 p2 p3 p4
  obtain ⟨O', g1, g2⟩ := hI_012 (F := foc (fk p1) (wS x)) (O := wO x) e1 e4
  have g3 : fL_claim (fk p1) (foc (fk p1) (wS x), wO x) p1 p2 p3 p4 = some ((y, O'), mThrown z) := g1
  have e5 := ivx_mono e3 (Nat.succ_le_succ hl)
  have hf : vlFm (fV (pF ((y, O') : POSt))) < 18 := by
    have := ivx_fm e5 (fk_lt (q := p1))
    rw [unf_fm] at this
    exact this
  rw [decide_eq_true (ivx_fm h (fk_lt (q := p1))), chk_r, g3, Option.bind_some]
  dsimp only
  rw [decide_eq_true hf, chk_r]
  obtain ⟨x1, hx1⟩ : ∃ q : LwSt, q = (unf (fk p1) (wS x) (pF ((y, O') : POSt)), wM x, pO ((y, O') : POSt), wD x) := ⟨_, rfl⟩
  have w1 : wS x1 = unf (fk p1) (wS x) y := by rw [hx1]; rfl
  have w2 : wM x1 = wM x := by rw [hx1]; rfl
  have w3 : wO x1 = O' := by rw [hx1]; rfl
  rw [← hx1, ok_keep, ok_keep, chk_r, ok_keep, chk_r, ok_keep, chk_r, ok_keep, chk_r, ok_keep, w2, e2, Option.bind_some, ok_keep, ok_keep]
  dsimp only
  exact lw_t1 hr (x := wM_s x1 z) (by show IVx (wS x1) z _; rw [w1]; exact e5) rfl (fun q => by show wO x1 0 = _; rw [w3]; exact g2 q)
theorem lw_1187 {L : Nat} {xs : Nat → Int32} {rec : LwSt × Int32 → Option Int32} {v5 : Int32} {lim : Nat} {x : LwSt} (hr : LR rec v5 (lim + 1)) (h : IVx (wS x) (wM x) lim) (hi : ∀ j, j < 5 → inb (v5 + nI j) L = true) : Ok (fL_law_1187 L xs rec x v5) (fun r => r = 1) := by
  obtain ⟨t, cc, ff, E, Mf, idf, lvi, hl, hI⟩ := id h
  have i1 : inb (v5 + 1) L = true := hi 1 (by omega)
  unfold fL_law_1187
  rw [i1, chk_r, ok_keep]
  generalize xs (v5 + 1).toNatClampNeg = p1
  obtain ⟨y, res, z, b, e1, e2, e3, e4⟩ := sim_tick hI (fk p1) p1
  obtain ⟨O', g1, g2⟩ := hI_12 (F := foc (fk p1) (wS x)) (O := wO x) e1 e4
  have g3 : fL_tick (fk p1) (foc (fk p1) (wS x), wO x) p1 = some ((y, O'), mThrown z) := g1
  have e5 := ivx_mono e3 (Nat.succ_le_succ hl)
  have hf : vlFm (fV (pF ((y, O') : POSt))) < 18 := by
    have := ivx_fm e5 (fk_lt (q := p1))
    rw [unf_fm] at this
    exact this
  rw [decide_eq_true (ivx_fm h (fk_lt (q := p1))), chk_r, g3, Option.bind_some]
  dsimp only
  rw [decide_eq_true hf, chk_r]
  obtain ⟨x1, hx1⟩ : ∃ q : LwSt, q = (unf (fk p1) (wS x) (pF ((y, O') : POSt)), wM x, pO ((y, O') : POSt), wD x) := ⟨_, rfl⟩
  have w1 : wS x1 = unf (fk p1) (wS x) y := by rw [hx1]; rfl
  have w2 : wM x1 = wM x := by rw [hx1]; rfl
  have w3 : wO x1 = O' := by rw [hx1]; rfl
  rw [← hx1, ok_keep, ok_keep, chk_r, ok_keep, w2, e2, Option.bind_some, ok_keep, ok_keep]
  dsimp only
  exact lw_t1 hr (x := wM_s x1 z) (by show IVx (wS x1) z _; rw [w1]; exact e5) rfl (fun q => by show wO x1 0 = _; rw [w3]; exact g2 q)

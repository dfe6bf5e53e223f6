/-! the law's block of points -/
theorem updD_0 {O : OD} {v : UInt64} : vf_upd O (0 : Int32).toNatClampNeg v 0 = v := if_pos rfl
theorem hP_012 {fc : Option (UInt32 ⊕ Nat)} {res : UInt32 ⊕ Nat} {z : MSt} {b : UInt32} {F : FSt} {O : OD} (h1 : fc = some res) (hA : Agr [0, 1, 2] mpA res z b) (hp : ∀ v, res = .inl v → PtsOk v) :
    ∃ O', fc.bind (fun u1 => thr u1 (fun k3 => if k3 = 0 then some (((F, O) : PDSt), (1 : Int32)) else if k3 = 1 then some (((F, O) : PDSt), (2 : Int32)) else if k3 = 2 then some (((F, O) : PDSt), (3 : Int32)) else none) (fun r4 => chk (n64 (FP.f2d r4)) (chk (inb 0 1) (keep (dO_s (F, O) (vf_upd (dO (F, O)) (0 : Int32).toNatClampNeg (FP.f2d r4))) (fun x8 => some (x8, 0)))))) = some (((F, O') : PDSt), mThrown z) ∧ (mThrown z = 0 → O' 0 = FP.f2d b ∧ PtsOk b) := by
  subst h1
  rw [Option.bind_some]
  cases res with
  | inl v =>
    obtain ⟨a1, a2⟩ := hA.1 v rfl
    refine ⟨vf_upd O (0 : Int32).toNatClampNeg (FP.f2d v), ?_, fun _ => ?_⟩
    · rw [thrL, (hp v rfl).1, chk_r, show inb 0 1 = true by decide, chk_r, keep_r, a1]; rfl
    · rw [updD_0, a2]
      exact ⟨rfl, hp v rfl⟩
  | inr n =>
    obtain ⟨a1, a2⟩ := hA.2 n rfl
    have a3 : n = 0 ∨ n = 1 ∨ n = 2 := by simpa using a1
    refine ⟨O, ?_, fun q => ?_⟩
    · rw [thrR, a2]
      rcases a3 with e | e | e <;> subst e <;> rfl
    · rw [a2] at q
      rcases a3 with e | e | e <;> subst e <;> exact absurd q (by decide)
theorem lw_1779 {L : Nat} {xs : Nat → Int32} {rec : LwSt × Int32 → Option Int32} {v5 : Int32} {lim : Nat} {x : LwSt} (hr : LR rec v5 (lim + 1)) (h : IVx (wS x) (wM x) lim) (hi : ∀ j, j < 5 → inb (v5 + nI j) L = true) : Ok (fL_law_1779 L xs rec x v5) (fun r => r = 1) := by
  obtain ⟨t, cc, ff, E, Mf, idf, lvi, hl, hI⟩ := id h
  have i1 : inb (v5 + 1) L = true := hi 1 (by omega)
  have i2 : inb (v5 + 2) L = true := hi 2 (by omega)
  unfold fL_law_1779
  rw [i1, chk_r, ok_keep, i2, chk_r, ok_keep]
  generalize xs (v5 + 1).toNatClampNeg = p1
  generalize xs (v5 + 2).toNatClampNeg = p2
  obtain ⟨res, z, b, e1, e2, e3, e4, e6⟩ := sim_points hI p1 p2
  obtain ⟨y, hy⟩ : ∃ y, y = foc (fk p1) (wS x) := ⟨_, rfl⟩
  obtain ⟨O', g1, g2⟩ := hP_012 (F := foc (fk p1) (wS x)) (O := wD x) e1 e4 e6
  have g3 : fL_points (fk p1) (foc (fk p1) (wS x), wD x) p1 p2 = some ((y, O'), mThrown z) := by rw [hy]; exact g1
  rw [show wS x = unf (fk p1) (wS x) y by rw [hy, unf_foc]] at e3
  have e5 := ivx_mono e3 (Nat.succ_le_succ hl)
  have hf : vlFm (fV (dF ((y, O') : PDSt))) < 18 := by
    have := ivx_fm e5 (fk_lt (q := p1))
    rw [unf_fm] at this
    exact this
  rw [decide_eq_true (ivx_fm h (fk_lt (q := p1))), chk_r, g3, Option.bind_some]
  dsimp only
  rw [decide_eq_true hf, chk_r]
  obtain ⟨x1, hx1⟩ : ∃ q : LwSt, q = (unf (fk p1) (wS x) (dF ((y, O') : PDSt)), wM x, wO x, dO ((y, O') : PDSt)) := ⟨_, rfl⟩
  have w1 : wS x1 = unf (fk p1) (wS x) y := by rw [hx1]; rfl
  have w2 : wM x1 = wM x := by rw [hx1]; rfl
  have w3 : wD x1 = O' := by rw [hx1]; rfl
  rw [← hx1, ok_keep, ok_keep, chk_r, ok_keep, chk_r, ok_keep, w2, e2, Option.bind_some, ok_keep]
  dsimp only
  have hx2 : IVx (wS (wM_s x1 z)) (wM (wM_s x1 z)) (lim + 1) := by
    show IVx (wS x1) z _
    rw [w1]; exact e5
  unfold fX8_thrown
  rw [Option.bind_some, if_pos (show mThrown (wM (wM_s x1 z)) = mThrown z from rfl)]
  by_cases e : mThrown z = 0
  · obtain ⟨q1, q2, q3⟩ := g2 e
    have hw : wD (wM_s x1 z) (0 : Int32).toNatClampNeg = FP.f2d b := by
      show wD x1 0 = _
      rw [w3]; exact q1
    rw [if_pos e, q2, chk_r, hw, q3, if_pos (show Op.cmpValue (some .eq) .l = 0 from rfl)]
    exact lw_2017 hr hx2
  · rw [if_neg e]
    exact lw_2017 hr hx2

/-! the loop (needs lw_1779: points) -/
theorem law_true (L : Nat) (xs : Nat → Int32) (hL : L ≤ 2560) (h0 : IVx server0 model0 0) : iterK FU (fL_law_28 L xs) ((server0, model0, fun _ => 0, fun _ => 0), 0) = some 1 := by
  refine ok_is ?_
  refine ok_iter (fun (n : Nat) (s : LwSt × Int32) => ∃ i, n = 600 - i ∧ 5 * i ≤ L + 4 ∧ s.2 = nI (5 * i) ∧ IVx (wS s.1) (wM s.1) (301 * i)) _ ?_ FU 600 _ ⟨0, rfl, by omega, rfl, h0⟩ (by unfold FU; omega)
  rintro n ⟨x, v5⟩ rec ⟨i, hn, hi, hv, hx⟩ hrec
  dsimp only at hv hx
  subst hv
  unfold fL_law_28
  dsimp only
  by_cases e : (Int32.ofNat L) - 5 < nI (5 * i)
  · rw [if_pos e, ok_some]
  · have hLi : 5 * i + 5 ≤ L := Nat.le_of_not_lt (fun q => e (by
      by_cases e5 : L < 5
      · exact Int32.lt_of_lt_of_le (pk_sneg (a := L) (b := 5) (by omega) e5) (nI_pos' (by omega))
      · show nI L - nI 5 < nI (5 * i)
        rw [pk_sub (by omega)]
        exact nI_lt (by omega) (by omega)))
    have hi5 : ∀ j, j < 5 → inb (nI (5 * i) + nI j) L = true := fun j hj => by
      rw [nI_add]
      exact inb_nI (by omega) (by omega)
    have hr301 : LR rec (nI (5 * i)) (301 * i + 301) := fun x' hx' => by
      rw [show nI (5 * i) + 5 = nI (5 * (i + 1)) from nI_add (5 * i) 5]
      exact hrec (600 - (i + 1)) _ (by omega) ⟨i + 1, rfl, by omega, rfl, ivx_mono hx' (by omega)⟩
    have hr1 : LR rec (nI (5 * i)) (301 * i + 1) := fun x' hx' => hr301 x' (ivx_mono hx' (by omega))
    have hr0 : LR rec (nI (5 * i)) (301 * i) := fun x' hx' => hr301 x' (ivx_mono hx' (by omega))
    rw [if_neg e, show inb (nI (5 * i)) L = true from inb_nI (by omega) (by omega), chk_r, ok_keep, ok_keep]
    generalize xs (nI (5 * i)).toNatClampNeg &&& 31 = w
    by_cases e0 : w = 0
    · rw [if_pos e0]
      exact lw_176 hr1 hx hi5
    rw [if_neg e0]
    by_cases e1 : w = 1
    · rw [if_pos e1]
      exact lw_272 hr1 hx hi5
    rw [if_neg e1]
    by_cases e2 : w = 2
    · rw [if_pos e2]
      exact lw_356 hr1 hx hi5
    rw [if_neg e2]
    by_cases e3 : w = 3
    · rw [if_pos e3]
      exact lw_431 hr1 hx hi5
    rw [if_neg e3]
    by_cases e4 : w = 4
    · rw [if_pos e4]
      exact lw_506 hr1 hx hi5
    rw [if_neg e4]
    by_cases e5 : w = 5
    · rw [if_pos e5]
      exact lw_586 hr1 hx hi5
    rw [if_neg e5]
    by_cases e6 : w = 6
    · rw [if_pos e6]
      exact lw_654 hr1 hx hi5
    rw [if_neg e6]
    by_cases e7 : w = 7
    · rw [if_pos e7]
      exact lw_734 hr1 hx hi5
    rw [if_neg e7]
    by_cases e8 : w = 8
    · rw [if_pos e8]
      exact lw_821 hr1 hx hi5
    rw [if_neg e8]
    by_cases e9 : w = 9
    · rw [if_pos e9]
      exact lw_913 hr1 hx hi5
    rw [if_neg e9]
    by_cases e10 : w = 10
    · rw [if_pos e10]
      exact lw_993 hr1 hx hi5
    rw [if_neg e10]
    by_cases e11 : w = 11
    · rw [if_pos e11]
      exact lw_1056 hr1 hx hi5
    rw [if_neg e11]
    by_cases e12 : w = 12
    · rw [if_pos e12]
      exact lw_1131 hr1 hx hi5
    rw [if_neg e12]
    by_cases e13 : w = 13
    · rw [if_pos e13]
      exact lw_1187 hr1 hx hi5
    rw [if_neg e13]
    by_cases e14 : w = 14
    · rw [if_pos e14]
      exact lw_1243 hr1 hx hi5
    rw [if_neg e14]
    by_cases e15 : w = 15
    · rw [if_pos e15]
      exact lw_1299 hr301 hx
    rw [if_neg e15]
    by_cases e16 : w = 16
    · rw [if_pos e16]
      exact lw_1312 hr301 hx (by omega)
    rw [if_neg e16]
    by_cases e17 : w = 17
    · rw [if_pos e17]
      exact lw_1325 hr1 hx hi5
    rw [if_neg e17]
    by_cases e18 : w = 18
    · rw [if_pos e18]
      exact lw_1381 hr301 hx
    rw [if_neg e18]
    by_cases e19 : w = 19
    · rw [if_pos e19]
      exact lw_1394 hr301 hx
    rw [if_neg e19]
    by_cases e20 : w = 20
    · rw [if_pos e20]
      exact lw_1407 hr1 hx hi5
    rw [if_neg e20]
    by_cases e21 : w = 21
    · rw [if_pos e21]
      exact lw_1463 hr1 hx hi5
    rw [if_neg e21]
    by_cases e22 : w = 22
    · rw [if_pos e22]
      exact lw_1519 hr1 hx hi5
    rw [if_neg e22]
    by_cases e23 : w = 23
    · rw [if_pos e23]
      exact lw_1575 hr1 hx hi5
    rw [if_neg e23]
    by_cases e24 : w = 24
    · rw [if_pos e24]
      exact lw_1643 hr1 hx hi5
    rw [if_neg e24]
    by_cases e25 : w = 25
    · rw [if_pos e25]
      exact lw_1711 hr1 hx hi5
    rw [if_neg e25]
    by_cases e26 : w = 26
    · rw [if_pos e26]
      exact lw_1779 hr1 hx hi5
    rw [if_neg e26]
    by_cases e27 : w = 27
    · rw [if_pos e27]
      exact lw_1869 hr1 hx hi5
    rw [if_neg e27]
    by_cases e28 : w = 28
    · rw [if_pos e28]
      exact lw_1937 hr1 hx hi5
    rw [if_neg e28]
    exact lw_2017 hr0 hx

/-! the server's run -/
theorem jz_start : JZ server0 0 (fun _ => c00 0) (fun _ => (1, 4)) 0 none 0 :=
  ⟨[], fun _ => 0, fun _ => 0, 0, rfl, Nat.le_refl _,
    ⟨by omega, rfl, ⟨15, by omega, rfl⟩,
      fun k hk => ⟨⟨Or.inl rfl, Or.inl rfl, ⟨fun _ => rfl, fun _ => rfl⟩, fun q => absurd rfl q⟩, Or.inl rfl, ⟨Nat.le_refl _, by show 4 ≤ 6; omega⟩, fun q => absurd q (show ¬ (0 : Int32) = 1 by decide)⟩,
      ⟨rfl, Nat.zero_le _, fun i h => absurd h (Nat.not_lt_zero i)⟩,
      ⟨fun k hk => LIk.none rfl ⟨0, by omega, rfl⟩ (fun e he => (nomatch he)), fun e he => (nomatch he)⟩,
      fun k hk => ⟨rfl, Nat.le_refl _⟩, rfl⟩, rfl⟩
theorem qk_start : QK (server0, fun _ => 0) 0 0 := ⟨0, fun _ => c00 0, fun _ => (1, 4), 0, none, Nat.le_refl _, jz_start, fun k hk => okP_0 rfl, rfl, rfl, fun _ => rfl, fun w B q => (nomatch q)⟩
theorem draw_lt {L a m : Nat} {xs : Nat → Int32} (hL : L < 2 ^ 31) (ha : a < 2 ^ 31) (hm : 0 < m) (hm2 : m < 2 ^ 31) : ∃ v, v < m ∧ fL_draw L xs (nI a) (nI m) = some (nI v) := by
  have fin : ∀ y : Int32, ∃ v, v < m ∧ chk (decide (¬ nI m = 0)) (some (((y &&& 2147483647) - (y &&& 2147483647) / nI m * nI m))) = some (nI v) := fun y => by
    obtain ⟨n, -, -, -, e, -⟩ := fl_fields (p0 := y)
    refine ⟨n % 2147483648 % m, Nat.mod_lt _ hm, ?_⟩
    rw [decide_eq_true (show ¬ nI m = 0 from fun q => by rw [nI_eq0 hm2] at q; omega), chk_r, e, pk_rem (by omega) hm hm2]
  unfold fL_draw
  by_cases q : L ≤ a
  · rw [if_pos (show Int32.ofNat L ≤ nI a from nI_le q ha)]
    exact fin _
  · rw [if_neg (show ¬ Int32.ofNat L ≤ nI a from nI_ge (by omega) hL), inb_nI (by omega) hL, chk_r]
    exact fin _
theorem srv_107 {L : Nat} {xs : Nat → Int32} {p1 v5 : Int32} {rec : QSt × Int32 → Option Int32} {x : QSt} {i k X T lim : Nat} (hk : k < 16) (hX : X < 2 ^ 31) (hv5 : v5 = nI X) (hi : i < 84) (h : QK x T lim) (hrec : rec (x, nI (i + 1)) = some 1) : fL_server_107 L xs p1 rec x (nI i) v5 (nI k) = some 1 := by
  subst hv5
  obtain ⟨t, cc, ff, n, g, hT, h⟩ := h
  obtain ⟨hJ, hP, -⟩ := id h
  have same : ∀ j, qS_s x (unf j (qS x) (foc j (qS x))) = x := fun j => by rw [unf_foc]; rfl
  have scn : ∀ j : Nat, j < 16 → fL_server_141 L xs p1 rec x (nI i) (nI j) = some 1 := fun j hj => by
    obtain ⟨hV, hc, hclk, ht, h3⟩ := jz_at hj hJ
    unfold fL_server_141
    rw [clN hj, decide_eq_true hj, chk_r, scan_true hj hV hc, Option.bind_some, keep_r, if_neg one_ne0, keep_r, same, nI_1]
    exact hrec
  obtain ⟨hV, hc, hclk, ht, h3⟩ := jz_at hk hJ
  unfold fL_server_107
  rw [clN hk, decide_eq_true hk, chk_r, key_true hk hV hclk hc ht (hP k hk), Option.bind_some, keep_r, if_neg one_ne0, same]
  by_cases e5 : nI i - nI i / 5 * 5 = 4
  · rw [if_pos e5]
    by_cases e2 : nI i - nI i / 2 * 2 = 0
    · rw [if_pos e2]; exact scn 1 (by omega)
    · rw [if_neg e2, d7, d16, pk_div hX (by omega) (by omega), pk_rem (by omega) (by omega) (by omega)]
      exact scn _ (Nat.mod_lt _ (by omega))
  · rw [if_neg e5, keep_r, nI_1]
    exact hrec
theorem server_true {L a : Nat} {xs : Nat → Int32} (hL : L < 2 ^ 31) (ha : a < 100000) : fL_server L xs (nI a) = some 1 := by
  unfold fL_server
  refine ok_is (ok_iter (fun m (s : QSt × Int32) => ∃ i x, m = 84 - i ∧ i ≤ 84 ∧ s = (x, nI i) ∧ QK x (1000 * i) (300 * i)) _ ?_ 85 84 _ ⟨0, (server0, fun _ => 0), rfl, by omega, rfl, qk_start⟩ (by omega))
  rintro m s rec ⟨i, x, hm, hi, rfl, hx⟩ hrec
  unfold fL_server_15
  dsimp only
  by_cases e : i = 84
  · subst e
    obtain ⟨t, cc, ff, n, g, hT, h⟩ := hx
    obtain ⟨x', e1, e2⟩ := s_restarts h hT
    exact okt (by decide) (okb e1 (okk (okc rfl (oks rfl))))
  · refine oke (show ¬ (84 : Int32) ≤ nI i from nI_ge (b := 84) (by omega) (by omega)) ?_
    rw [show (3 : Int32) = nI 3 from rfl, pk_mul, nI_add, nI_1, show (2 : Int32) = nI 2 from rfl, nI_add, show (1073741824 : Int32) = nI 1073741824 from rfl, show (23 : Int32) = nI 23 from rfl]
    obtain ⟨X, hX, x1⟩ := draw_lt (xs := xs) (L := L) (a := a + 3 * i + 1) (m := 1073741824) hL (by omega) (by omega) (by omega)
    obtain ⟨Y, hY, x2⟩ := draw_lt (xs := xs) (L := L) (a := a + 3 * i + 2) (m := 1073741824) hL (by omega) (by omega) (by omega)
    obtain ⟨w, hw, x3⟩ := draw_lt (xs := xs) (L := L) (a := a + 3 * i) (m := 23) hL (by omega) (by omega) (by omega)
    obtain ⟨⟨G, b⟩, e1, e2, e3⟩ := p_step (w := w) (X := X) (Y := Y) hx (by omega) hw (by omega) (by omega) (by omega)
    dsimp only at e2 e3
    subst e2
    have hr : rec ((gqS G, gqC G), nI (i + 1)) = some 1 := ok_is (hrec (84 - (i + 1)) _ (by omega) ⟨i + 1, _, rfl, by omega, rfl, e3.mono (by omega) (by omega)⟩)
    refine okb x1 (okb x2 (okb x3 (okb e1 (okk (oke one_ne0 ?_)))))
    rw [show (5 : Int32) = nI 5 from rfl, d16, d4, pk_div (by omega : Y < 2 ^ 31) (by omega) (by omega), pk_rem (by omega) (by omega) (by omega), pk_rem (by omega) (by omega) (by omega)]
    have h16 : Y / 5 % 16 < 16 := Nat.mod_lt _ (by omega)
    have h4 : Y / 5 % 4 < 4 := Nat.mod_lt _ (by omega)
    have fin : ∀ k, k < 16 → Ok (fL_server_107 L xs (nI a) rec (gqS G, gqC G) (nI i) (nI X) (nI k)) (fun u => u = 1) := fun k hk => ⟨1, srv_107 hk (by omega) rfl (by omega) e3 hr, rfl⟩
    by_cases q : (12 : Int32) ≤ nI (Y / 5 % 16)
    · exact okt q (fin _ h16)
    · exact oke q (fin _ (by omega))

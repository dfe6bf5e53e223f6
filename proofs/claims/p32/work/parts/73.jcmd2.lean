/-! commands: take, rate, append, read, done, claim, remove, expire -/
section CMD2
variable {x : SSt} {t : Nat} {cc : CC} {ff : Nat → FK} {k n lim : Nat} {g : Option (Nat × Nat)}
theorem take_ok {E : EL} (hk : k < 16) (hfV : VR (fV (foc k x)) (cc k) (ff k)) (hfc : fClk (foc k x) = nI t) {v : Int32} (hv : isV v) {A : Option (FSt × (Int32 ⊕ Nat))} (hA : tyN (cc k) (nI t) = 2 ∨ tyN (cc k) (nI t) = 3) (hA2 : fX7_take_23 k (foc k x) (nI k) v = A) :
    fX7_take k (foc k x) (nI k) v = A := by
  unfold fX7_take
  rw [key_ok hk, Option.bind_some, thrL, val_in hv, Option.bind_some, thrL, c_type hk hfV, Option.bind_some, hfc]
  by_cases e : tyN (cc k) (nI t) = 2
  · rw [if_pos e]; exact hA2
  · have e3 : tyN (cc k) (nI t) = 3 := by rcases hA with q | q; exact absurd q e; exact q
    rw [if_neg e, c_ty_y hk hfV (by rw [hfc]; exact e3), Option.bind_some, thrL]; exact hA2
theorem a_take (hk : k < 16) (h : JZ x t cc ff n g lim) {v e i : Int32} (hv : isV v) (hA : tyN (cc k) (nI t) = 2 ∨ tyN (cc k) (nI t) = 3) (hL : n < 300) :
    (fnd (cL (cc k)) v = true ∧ AW x k t cc ff n g lim (fL_asks k (foc k x) 3 (nI k) v e i) 1 (4, nI k, v, 0, 0, nI t)) ∨ (fnd (cL (cc k)) v = false ∧ AN x k t cc ff n g lim (fL_asks k (foc k x) 3 (nI k) v e i) 0) := by
  obtain ⟨E, Mf, idf, lvi, rfl, hl, hJ⟩ := h
  obtain ⟨⟨h1, h2, h3, h4, h5, h6, h7, h8⟩, hrw⟩ := id hJ
  have hfc : fClk (foc k x) = nI t := h2
  obtain ⟨hfV, b3, b4, b5⟩ := h4 k hk
  have hfV : VR (fV (foc k x)) (cc k) (ff k) := hfV
  have hT : thC (cc k) (nI t) = true ∧ (cT (cc k) = 2 ∨ cT (cc k) = 3) := by
    rcases hA with q | q
    · exact ⟨(tyN_is (by decide) q).1, Or.inl (tyN_is (by decide) q).2⟩
    · exact ⟨(tyN_is (by decide) q).1, Or.inr (tyN_is (by decide) q).2⟩
  have hr : okR (4, nI k, v, 0, 0, nI t) (cc k) := ⟨⟨k, hk, rfl⟩, ⟨t, by omega, rfl⟩, Or.inr (Or.inr (Or.inr (Or.inl ⟨rfl, hv, rfl, rfl, hT.1, hT.2⟩)))⟩
  obtain ⟨y, y1, y2⟩ := cls_take (x := foc k x) hk hfV b3 0 0 hv hT.2
  have hmk : mkB (4, nI k, v, 0, 0, nI t) (cc k) = false := mkB_f (Or.inr (Or.inl rfl))
  have hof : opF (4, nI k, v, 0, 0, nI t) (cc k) (ff k) = ff k := opF_o (Or.inr (Or.inl rfl))
  have hasks : ∀ (z : FSt) (u : Int32), fX7_call k (foc k x) 6 (nI k) v 0 0 = some (z, u) → fL_asks k (foc k x) 3 (nI k) v e i = some (z, if u ≤ 0 then 0 else 1) := fun z u hz => by
    have e9 : fX7_take k (foc k x) (nI k) v = some (z, .inl (if u ≤ 0 then 0 else 1)) := by
      refine take_ok (E := E) hk hfV hfc hv hA ?_
      unfold fX7_take_23
      rw [c_row_y (F := foc k x) h5 hL, Option.bind_some, thrL, hz, Option.bind_some, keep_r]
      by_cases q : u ≤ 0
      · rw [if_pos q, if_pos q]
      · rw [if_neg q, if_neg q]
    rw [asks_3, e9, Option.bind_some, keep_r]
    by_cases q : u ≤ 0
    · rw [if_pos q]; rfl
    · rw [if_neg q]; rfl
  cases hF : fnd (cL (cc k)) v with
  | true =>
    refine Or.inl ⟨rfl, hr, rfl, ?_⟩
    rw [if_pos hF] at y1
    obtain ⟨z, z1, z2⟩ := j_call (r := (4, nI k, v, 0, 0, nI t)) hk hJ hr rfl rfl hL y1 (by rw [hmk, hof]; exact y2) (Or.inr (by decide))
    exact ⟨z, hasks z 1 z1, z2.mono (by omega)⟩
  | false =>
    refine Or.inr ⟨rfl, ?_⟩
    rw [if_neg (by rw [hF]; decide)] at y1
    have ec : tkeC v (cc k) = cc k := by unfold tkeC; rw [if_neg (by rw [hF]; decide)]
    rw [ec] at y2
    obtain ⟨c1, c2⟩ := j_quiet hk hJ y1 y2 (by decide) (by decide)
    exact ⟨y, hasks y 0 c1, c2.mono (by omega)⟩
theorem n_take (hk : k < 16) (h : JZ x t cc ff n g lim) {v e i : Int32} (hv : isV v) (hn : ¬ ((tyN (cc k) (nI t) = 2 ∨ tyN (cc k) (nI t) = 3) ∧ n < 300)) : AN x k t cc ff n g lim (fL_asks k (foc k x) 3 (nI k) v e i) (-108) := by
  refine an_foc h ?_
  obtain ⟨E, Mf, idf, lvi, rfl, hl, hJ⟩ := h
  obtain ⟨⟨h1, h2, h3, h4, h5, h6, h7, h8⟩, hrw⟩ := id hJ
  have hfc : fClk (foc k x) = nI t := h2
  obtain ⟨hfV, b3, b4, b5⟩ := h4 k hk
  have hfV : VR (fV (foc k x)) (cc k) (ff k) := hfV
  have e9 : fX7_take k (foc k x) (nI k) v = some (foc k x, .inr 2) := by
    by_cases hA : tyN (cc k) (nI t) = 2 ∨ tyN (cc k) (nI t) = 3
    · refine take_ok (E := E) hk hfV hfc hv hA ?_
      unfold fX7_take_23
      rw [c_row_n (F := foc k x) h5 (fun q => hn ⟨hA, q⟩), Option.bind_some, thrR]
    · unfold fX7_take
      rw [key_ok hk, Option.bind_some, thrL, val_in hv, Option.bind_some, thrL, c_type hk hfV, Option.bind_some, hfc, if_neg (fun q => hA (Or.inl q)), c_ty_n hk hfV (by rw [hfc]; exact fun q => hA (Or.inr q)), Option.bind_some, thrR]
  rw [asks_3, e9, Option.bind_some, keep_r]; rfl
/-- rate -/
theorem a_rate (hk : k < 16) (h : JZ x t cc ff n g lim) {v b i : Int32} (hv : isV v) (hb : isNum b) (hA : tyN (cc k) (nI t) = 0 ∨ tyN (cc k) (nI t) = 3) (hR : thC (cc k) (nI t) = true → (cL (cc k)).length < 40 ∨ fnd (cL (cc k)) v = true) (hL : n < 300) :
    AW x k t cc ff n g lim (fL_asks k (foc k x) 4 (nI k) v b i) (nI (ratI v b (nI t) (cc k))) (5, nI k, v, b, 0, nI t) := by
  obtain ⟨E, Mf, idf, lvi, rfl, hl, hJ⟩ := h
  obtain ⟨⟨h1, h2, h3, h4, h5, h6, h7, h8⟩, hrw⟩ := id hJ
  have hfc : fClk (foc k x) = nI t := h2
  obtain ⟨hfV, b3, b4, b5⟩ := h4 k hk
  have hfV : VR (fV (foc k x)) (cc k) (ff k) := hfV
  have hA2 := tyN_or hA
  have hr : okR (5, nI k, v, b, 0, nI t) (cc k) := ⟨⟨k, hk, rfl⟩, ⟨t, by omega, rfl⟩, Or.inr (Or.inr (Or.inr (Or.inr (Or.inl ⟨rfl, hv, hb, rfl, fun q => ⟨hA2 q, hR q⟩⟩))))⟩
  obtain ⟨y, y1, y2⟩ := cls_rate (x := foc k x) (a := v) (b := b) hk hfV 0 hv (by rw [hfc]; exact fun q => ⟨hA2 q, hR q⟩)
  rw [hfc] at y1 y2
  have hmk : mkB (5, nI k, v, b, 0, nI t) (cc k) = !thC (cc k) (nI t) := mkB_t (Or.inr (Or.inr (Or.inl rfl)))
  rw [← hmk] at y2
  obtain ⟨z, z1, z2⟩ := j_call (r := (5, nI k, v, b, 0, nI t)) hk hJ hr rfl rfl hL y1 y2 (Or.inl (show (3 : Int32) ≤ 4 by decide))
  refine ⟨hr, rfl, z, ?_, z2.mono (by omega)⟩
  have z1 : fX7_call k (foc k x) 3 (nI k) v b 0 = some (z, nI (ratI v b (nI t) (cc k))) := z1
  have hle : (b &&& 2147483647) ≤ 2139095040 := i32_nlt.mp hb
  rw [asks_4]
  unfold fX7_rate
  rw [key_ok hk, Option.bind_some, thrL, val_in hv, Option.bind_some, thrL, if_pos hle, c_ta_y hk hfV (by rw [hfc]; exact hA), Option.bind_some, thrL, room_v hk hfV b3 hv _ (by rw [hfc]; exact hR)]
  unfold fX7_rate_48
  rw [c_row_y (F := foc k x) h5 hL, Option.bind_some, thrL, z1, Option.bind_some, keep_r]; rfl
theorem n_rate (hk : k < 16) (h : JZ x t cc ff n g lim) {v b i : Int32} (hv : isV v) (hb : isNum b) (hn : ¬ ((tyN (cc k) (nI t) = 0 ∨ tyN (cc k) (nI t) = 3) ∧ (thC (cc k) (nI t) = true → (cL (cc k)).length < 40 ∨ fnd (cL (cc k)) v = true) ∧ n < 300)) :
    AN x k t cc ff n g lim (fL_asks k (foc k x) 4 (nI k) v b i) (-108) := by
  refine an_foc h ?_
  obtain ⟨E, Mf, idf, lvi, rfl, hl, hJ⟩ := h
  obtain ⟨⟨h1, h2, h3, h4, h5, h6, h7, h8⟩, hrw⟩ := id hJ
  have hfc : fClk (foc k x) = nI t := h2
  obtain ⟨hfV, b3, b4, b5⟩ := h4 k hk
  have hfV : VR (fV (foc k x)) (cc k) (ff k) := hfV
  have hle : (b &&& 2147483647) ≤ 2139095040 := i32_nlt.mp hb
  rw [asks_4]
  unfold fX7_rate
  rw [key_ok hk, Option.bind_some, thrL, val_in hv, Option.bind_some, thrL, if_pos hle]
  by_cases hA : tyN (cc k) (nI t) = 0 ∨ tyN (cc k) (nI t) = 3
  · rw [c_ta_y hk hfV (by rw [hfc]; exact hA), Option.bind_some, thrL]
    by_cases hR : thC (cc k) (nI t) = true → (cL (cc k)).length < 40 ∨ fnd (cL (cc k)) v = true
    · rw [room_v hk hfV b3 hv _ (by rw [hfc]; exact hR)]
      unfold fX7_rate_48
      rw [c_row_n (F := foc k x) h5 (fun q => hn ⟨hA, hR, q⟩), Option.bind_some, thrR]; rfl
    · rw [room_x hk hfV b3 hv _ (by rw [hfc]; exact hR)]; rfl
  · rw [c_ta_n hk hfV (by rw [hfc]; exact hA), Option.bind_some, thrR]; rfl
/-- append -/
theorem a_append (hk : k < 16) (h : JZ x t cc ff n g lim) {v e i : Int32} (hv : isV v) (hA : tyN (cc k) (nI t) = 0 ∨ tyN (cc k) (nI t) = 4) (hR : thC (cc k) (nI t) = true → (cL (cc k)).length < 40) (hL : n < 300) :
    AW x k t cc ff n g lim (fL_asks k (foc k x) 5 (nI k) v e i) (nI (szN (cc k) (nI t) + 1)) (6, nI k, v, 0, 0, nI t) := by
  obtain ⟨E, Mf, idf, lvi, rfl, hl, hJ⟩ := h
  obtain ⟨⟨h1, h2, h3, h4, h5, h6, h7, h8⟩, hrw⟩ := id hJ
  have hfc : fClk (foc k x) = nI t := h2
  obtain ⟨hfV, b3, b4, b5⟩ := h4 k hk
  have hfV : VR (fV (foc k x)) (cc k) (ff k) := hfV
  have hA2 := tyN_or hA
  have hr : okR (6, nI k, v, 0, 0, nI t) (cc k) := ⟨⟨k, hk, rfl⟩, ⟨t, by omega, rfl⟩, Or.inr (Or.inr (Or.inr (Or.inr (Or.inr (Or.inl ⟨rfl, hv, rfl, rfl, fun q => ⟨hA2 q, hR q⟩⟩)))))⟩
  obtain ⟨y, y1, y2⟩ := cls_append (x := foc k x) (a := v) hk hfV 0 0 (by rw [hfc]; exact fun q => ⟨hA2 q, hR q⟩)
  rw [hfc] at y1 y2
  have hmk : mkB (6, nI k, v, 0, 0, nI t) (cc k) = !thC (cc k) (nI t) := mkB_t (Or.inr (Or.inr (Or.inr rfl)))
  rw [← hmk] at y2
  obtain ⟨z, z1, z2⟩ := j_call (r := (6, nI k, v, 0, 0, nI t)) hk hJ hr rfl rfl hL y1 y2 (Or.inl (show (4 : Int32) ≤ 4 by decide))
  refine ⟨hr, rfl, z, ?_, z2.mono (by omega)⟩
  rw [app_len] at z1
  have z1 : fX7_call k (foc k x) 4 (nI k) v 0 0 = some (z, nI (szN (cc k) (nI t) + 1)) := z1
  rw [asks_5]
  unfold fX7_append
  rw [key_ok hk, Option.bind_some, thrL, val_in hv, Option.bind_some, thrL, c_ta_y hk hfV (by rw [hfc]; exact hA), Option.bind_some, thrL, c_room_y hk hfV (by rw [hfc]; exact hR), Option.bind_some, thrL, c_row_y (F := foc k x) h5 hL, Option.bind_some, thrL, z1, Option.bind_some, keep_r]; rfl
theorem n_append (hk : k < 16) (h : JZ x t cc ff n g lim) {v e i : Int32} (hv : isV v) (hn : ¬ ((tyN (cc k) (nI t) = 0 ∨ tyN (cc k) (nI t) = 4) ∧ (thC (cc k) (nI t) = true → (cL (cc k)).length < 40) ∧ n < 300)) :
    AN x k t cc ff n g lim (fL_asks k (foc k x) 5 (nI k) v e i) (-108) := by
  refine an_foc h ?_
  obtain ⟨E, Mf, idf, lvi, rfl, hl, hJ⟩ := h
  obtain ⟨⟨h1, h2, h3, h4, h5, h6, h7, h8⟩, hrw⟩ := id hJ
  have hfc : fClk (foc k x) = nI t := h2
  obtain ⟨hfV, b3, b4, b5⟩ := h4 k hk
  have hfV : VR (fV (foc k x)) (cc k) (ff k) := hfV
  rw [asks_5]
  unfold fX7_append
  rw [key_ok hk, Option.bind_some, thrL, val_in hv, Option.bind_some, thrL]
  by_cases hA : tyN (cc k) (nI t) = 0 ∨ tyN (cc k) (nI t) = 4
  · rw [c_ta_y hk hfV (by rw [hfc]; exact hA), Option.bind_some, thrL]
    by_cases hR : thC (cc k) (nI t) = true → (cL (cc k)).length < 40
    · rw [c_room_y hk hfV (by rw [hfc]; exact hR), Option.bind_some, thrL, c_row_n (F := foc k x) h5 (fun q => hn ⟨hA, hR, q⟩), Option.bind_some, thrR]; rfl
    · rw [c_room_n hk hfV b3 (by rw [hfc]; exact hR), Option.bind_some, thrR]; rfl
  · rw [c_ta_n hk hfV (by rw [hfc]; exact hA), Option.bind_some, thrR]; rfl
/-- read -/
theorem a_read (hk : k < 16) (h : JZ x t cc ff n g lim) {q r : Nat} {i : Int32} (hq : q < 3) (hr4 : r < 4) (hA : tyN (cc k) (nI t) = 4) (hL : n < 300) :
    (cP (cc k) q + 1 ≤ (cL (cc k)).length ∧ AW x k t cc ff n g lim (fL_asks k (foc k x) 6 (nI k) (nI q) (nI r) i) (nI (cP (cc k) q + 1)) (7, nI k, nI q, nI r, 0, nI t)) ∨ (¬ cP (cc k) q + 1 ≤ (cL (cc k)).length ∧ AN x k t cc ff n g lim (fL_asks k (foc k x) 6 (nI k) (nI q) (nI r) i) (-1)) := by
  obtain ⟨E, Mf, idf, lvi, rfl, hl, hJ⟩ := h
  obtain ⟨⟨h1, h2, h3, h4, h5, h6, h7, h8⟩, hrw⟩ := id hJ
  have hfc : fClk (foc k x) = nI t := h2
  obtain ⟨hfV, b3, b4, b5⟩ := h4 k hk
  have hfV : VR (fV (foc k x)) (cc k) (ff k) := hfV
  obtain ⟨q1, q2⟩ := tyN_is (by decide) hA
  have hr : okR (7, nI k, nI q, nI r, 0, nI t) (cc k) := ⟨⟨k, hk, rfl⟩, ⟨t, by omega, rfl⟩, Or.inr (Or.inr (Or.inr (Or.inr (Or.inr (Or.inr (Or.inl ⟨rfl, ⟨q, hq, rfl⟩, ⟨r, hr4, rfl⟩, rfl, q1, q2⟩))))))⟩
  obtain ⟨y, y1, y2⟩ := cls_read (x := foc k x) hk hfV b3 0 hq hr4 q2 hfc h1
  have hmk : mkB (7, nI k, nI q, nI r, 0, nI t) (cc k) = false := mkB_f (Or.inr (Or.inr (Or.inl rfl)))
  have hof : opF (7, nI k, nI q, nI r, 0, nI t) (cc k) (ff k) = ff k := opF_o (Or.inr (Or.inr (Or.inl rfl)))
  have hoc : opC (7, nI k, nI q, nI r, 0, nI t) (cc k) = rdC q r t (cc k) := by
    rw [opC_7 rfl]
    show rdC (cl (nI q)) (cl (nI r)) (cl (nI t)) (cc k) = _
    rw [cl_nI (by omega), cl_nI (by omega), cl_nI (by omega)]
  have hasks : ∀ (z : FSt) (u : Int32), fX7_call k (foc k x) 9 (nI k) (nI q) (nI r) 0 = some (z, u) → fL_asks k (foc k x) 6 (nI k) (nI q) (nI r) i = some (z, u) := fun z u hz => by
    rw [asks_6]
    unfold fX7_read
    rw [key_ok hk, Option.bind_some, thrL, grp_ok hq, Option.bind_some, thrL, rdr_ok hr4, Option.bind_some, thrL, c_ty_y hk hfV (by rw [hfc]; exact hA), Option.bind_some, thrL, c_row_y (F := foc k x) h5 hL, Option.bind_some, thrL, hz, Option.bind_some, keep_r]; rfl
  have h40 := (ok_grp b3 q2).2
  by_cases hF : cP (cc k) q + 1 ≤ (cL (cc k)).length
  · refine Or.inl ⟨hF, hr, rfl, ?_⟩
    rw [if_pos hF] at y1
    obtain ⟨z, z1, z2⟩ := j_call (r := (7, nI k, nI q, nI r, 0, nI t)) hk hJ hr rfl rfl hL y1 (by rw [hmk, hof, hoc]; exact y2) (Or.inr (nI_nle (by omega) (by omega)))
    exact ⟨z, hasks z _ z1, z2.mono (by omega)⟩
  · refine Or.inr ⟨hF, ?_⟩
    rw [if_neg hF] at y1
    have ec : rdC q r t (cc k) = cc k := by unfold rdC; rw [if_neg hF]
    rw [ec] at y2
    obtain ⟨c1, c2⟩ := j_quiet hk hJ y1 y2 (by decide) (by decide)
    exact ⟨y, hasks y _ c1, c2.mono (by omega)⟩
theorem n_read (hk : k < 16) (h : JZ x t cc ff n g lim) {q r : Nat} {i : Int32} (hq : q < 3) (hr4 : r < 4) (hn : ¬ (tyN (cc k) (nI t) = 4 ∧ n < 300)) : AN x k t cc ff n g lim (fL_asks k (foc k x) 6 (nI k) (nI q) (nI r) i) (-108) := by
  refine an_foc h ?_
  obtain ⟨E, Mf, idf, lvi, rfl, hl, hJ⟩ := h
  obtain ⟨⟨h1, h2, h3, h4, h5, h6, h7, h8⟩, hrw⟩ := id hJ
  have hfc : fClk (foc k x) = nI t := h2
  obtain ⟨hfV, b3, b4, b5⟩ := h4 k hk
  have hfV : VR (fV (foc k x)) (cc k) (ff k) := hfV
  rw [asks_6]
  unfold fX7_read
  rw [key_ok hk, Option.bind_some, thrL, grp_ok hq, Option.bind_some, thrL, rdr_ok hr4, Option.bind_some, thrL]
  by_cases hA : tyN (cc k) (nI t) = 4
  · rw [c_ty_y hk hfV (by rw [hfc]; exact hA), Option.bind_some, thrL, c_row_n (F := foc k x) h5 (fun q => hn ⟨hA, q⟩), Option.bind_some, thrR]; rfl
  · rw [c_ty_n hk hfV (by rw [hfc]; exact hA), Option.bind_some, thrR]; rfl
/-- done -/
theorem a_done (hk : k < 16) (h : JZ x t cc ff n g lim) {q : Nat} {e i : Int32} (hq : q < 3) (hA : tyN (cc k) (nI t) = 4) (hL : n < 300) :
    (dnA q e (cc k) = 1 ∧ AW x k t cc ff n g lim (fL_asks k (foc k x) 7 (nI k) (nI q) e i) 1 (8, nI k, nI q, e, 0, nI t)) ∨ (dnA q e (cc k) = 0 ∧ AN x k t cc ff n g lim (fL_asks k (foc k x) 7 (nI k) (nI q) e i) 0) := by
  obtain ⟨E, Mf, idf, lvi, rfl, hl, hJ⟩ := h
  obtain ⟨⟨h1, h2, h3, h4, h5, h6, h7, h8⟩, hrw⟩ := id hJ
  have hfc : fClk (foc k x) = nI t := h2
  obtain ⟨hfV, b3, b4, b5⟩ := h4 k hk
  have hfV : VR (fV (foc k x)) (cc k) (ff k) := hfV
  obtain ⟨q1, q2⟩ := tyN_is (by decide) hA
  have hr : okR (8, nI k, nI q, e, 0, nI t) (cc k) := ⟨⟨k, hk, rfl⟩, ⟨t, by omega, rfl⟩, Or.inr (Or.inr (Or.inr (Or.inr (Or.inr (Or.inr (Or.inr (Or.inl ⟨rfl, ⟨q, hq, rfl⟩, rfl, q1, q2⟩)))))))⟩
  obtain ⟨y, y1, y2⟩ := cls_done (x := foc k x) hk hfV b3 e 0 hq q2
  have hmk : mkB (8, nI k, nI q, e, 0, nI t) (cc k) = false := mkB_f (Or.inr (Or.inr (Or.inr (Or.inl rfl))))
  have hof : opF (8, nI k, nI q, e, 0, nI t) (cc k) (ff k) = ff k := opF_o (Or.inr (Or.inr (Or.inr (Or.inl rfl))))
  have hoc : opC (8, nI k, nI q, e, 0, nI t) (cc k) = dnC q e (cc k) := by
    rw [opC_8 rfl]
    show dnC (cl (nI q)) e (cc k) = _
    rw [cl_nI (by omega)]
  have hasks : ∀ (z : FSt) (u : Int32), fX7_call k (foc k x) 10 (nI k) (nI q) e 0 = some (z, u) → fL_asks k (foc k x) 7 (nI k) (nI q) e i = some (z, if u ≤ 0 then 0 else 1) := fun z u hz => by
    rw [asks_7]
    unfold fX7_done
    rw [key_ok hk, Option.bind_some, thrL, grp_ok hq, Option.bind_some, thrL, c_ty_y hk hfV (by rw [hfc]; exact hA), Option.bind_some, thrL, c_row_y (F := foc k x) h5 hL, Option.bind_some, thrL, hz, Option.bind_some, keep_r]
    by_cases w : u ≤ 0
    · rw [if_pos w, if_pos w]; rfl
    · rw [if_neg w, if_neg w]; rfl
  rcases dnA_01 (g := q) (e := e) (c := cc k) with hF | hF
  · refine Or.inr ⟨hF, ?_⟩
    rw [hF] at y1
    rw [dnC_0 hF] at y2
    obtain ⟨c1, c2⟩ := j_quiet hk hJ y1 y2 (by decide) (by decide)
    exact ⟨y, hasks y _ c1, c2.mono (by omega)⟩
  · refine Or.inl ⟨hF, hr, rfl, ?_⟩
    rw [hF] at y1
    obtain ⟨z, z1, z2⟩ := j_call (r := (8, nI k, nI q, e, 0, nI t)) hk hJ hr rfl rfl hL y1 (by rw [hmk, hof, hoc]; exact y2) (Or.inr (by decide))
    exact ⟨z, hasks z _ z1, z2.mono (by omega)⟩
theorem n_done (hk : k < 16) (h : JZ x t cc ff n g lim) {q : Nat} {e i : Int32} (hq : q < 3) (hn : ¬ (tyN (cc k) (nI t) = 4 ∧ n < 300)) : AN x k t cc ff n g lim (fL_asks k (foc k x) 7 (nI k) (nI q) e i) (-108) := by
  refine an_foc h ?_
  obtain ⟨E, Mf, idf, lvi, rfl, hl, hJ⟩ := h
  obtain ⟨⟨h1, h2, h3, h4, h5, h6, h7, h8⟩, hrw⟩ := id hJ
  have hfc : fClk (foc k x) = nI t := h2
  obtain ⟨hfV, b3, b4, b5⟩ := h4 k hk
  have hfV : VR (fV (foc k x)) (cc k) (ff k) := hfV
  rw [asks_7]
  unfold fX7_done
  rw [key_ok hk, Option.bind_some, thrL, grp_ok hq, Option.bind_some, thrL]
  by_cases hA : tyN (cc k) (nI t) = 4
  · rw [c_ty_y hk hfV (by rw [hfc]; exact hA), Option.bind_some, thrL, c_row_n (F := foc k x) h5 (fun q => hn ⟨hA, q⟩), Option.bind_some, thrR]; rfl
  · rw [c_ty_n hk hfV (by rw [hfc]; exact hA), Option.bind_some, thrR]; rfl
/-- claim -/
theorem tck_in {d : Nat} (hd : d < 1001) : fX7_needWithin (nI d) 0 1000 = some (.inl 0) := within_in (fun q => by
  rcases q with q | q
  · exact nI_pos (by omega) q
  · exact nI_nlt (a := 1000) (b := d) (by omega) (by omega) q)
theorem a_claim (hk : k < 16) (h : JZ x t cc ff n g lim) {q r d : Nat} (hq : q < 3) (hr4 : r < 4) (hd : d < 1001) (hA : tyN (cc k) (nI t) = 4) (hL : n < 300) :
    (0 < mvn (cW (cc k)) q r d t 40 ∧ AW x k t cc ff n g lim (fL_asks k (foc k x) 8 (nI k) (nI q) (nI r) (nI d)) (nI (mvn (cW (cc k)) q r d t 40)) (9, nI k, nI q, nI r, nI d, nI t)) ∨ (mvn (cW (cc k)) q r d t 40 = 0 ∧ AN x k t cc ff n g lim (fL_asks k (foc k x) 8 (nI k) (nI q) (nI r) (nI d)) 0) := by
  obtain ⟨E, Mf, idf, lvi, rfl, hl, hJ⟩ := h
  obtain ⟨⟨h1, h2, h3, h4, h5, h6, h7, h8⟩, hrw⟩ := id hJ
  have hfc : fClk (foc k x) = nI t := h2
  obtain ⟨hfV, b3, b4, b5⟩ := h4 k hk
  have hfV : VR (fV (foc k x)) (cc k) (ff k) := hfV
  obtain ⟨q1, q2⟩ := tyN_is (by decide) hA
  have hr : okR (9, nI k, nI q, nI r, nI d, nI t) (cc k) := ⟨⟨k, hk, rfl⟩, ⟨t, by omega, rfl⟩, Or.inr (Or.inr (Or.inr (Or.inr (Or.inr (Or.inr (Or.inr (Or.inr (Or.inl ⟨rfl, ⟨q, hq, rfl⟩, ⟨r, hr4, rfl⟩, ⟨d, hd, rfl⟩, q1, q2⟩))))))))⟩
  obtain ⟨y, y1, y2⟩ := cls_claim (x := foc k x) (ticks := d) hk hfV b3 hq hr4 (by omega) q2 hfc h1
  have hmk : mkB (9, nI k, nI q, nI r, nI d, nI t) (cc k) = false := mkB_f (Or.inr (Or.inr (Or.inr (Or.inr (Or.inl rfl)))))
  have hof : opF (9, nI k, nI q, nI r, nI d, nI t) (cc k) (ff k) = ff k := opF_o (Or.inr (Or.inr (Or.inr (Or.inr (Or.inl rfl)))))
  have hoc : opC (9, nI k, nI q, nI r, nI d, nI t) (cc k) = clC q r d t (cc k) := by
    rw [opC_9 rfl]
    show clC (cl (nI q)) (cl (nI r)) (cl (nI d)) (cl (nI t)) (cc k) = _
    rw [cl_nI (by omega), cl_nI (by omega), cl_nI (by omega), cl_nI (by omega)]
  have hasks : ∀ (z : FSt) (u : Int32), fX7_call k (foc k x) 11 (nI k) (nI q) (nI r) (nI d) = some (z, u) → fL_asks k (foc k x) 8 (nI k) (nI q) (nI r) (nI d) = some (z, u) := fun z u hz => by
    rw [asks_8]
    unfold fX7_claim
    rw [key_ok hk, Option.bind_some, thrL, grp_ok hq, Option.bind_some, thrL, rdr_ok hr4, Option.bind_some, thrL, tck_in hd, Option.bind_some, thrL, c_ty_y hk hfV (by rw [hfc]; exact hA), Option.bind_some, thrL, c_row_y (F := foc k x) h5 hL, Option.bind_some, thrL, hz, Option.bind_some, keep_r]; rfl
  have h40 : mvn (cW (cc k)) q r d t 40 ≤ 40 := mvn_le
  by_cases hF : mvn (cW (cc k)) q r d t 40 = 0
  · refine Or.inr ⟨hF, ?_⟩
    rw [hF] at y1
    have ec : clC q r d t (cc k) = cc k := by unfold clC; rw [mvn_0 hF]; rfl
    rw [ec] at y2
    obtain ⟨c1, c2⟩ := j_quiet hk hJ y1 y2 (by decide) (by decide)
    exact ⟨y, hasks y _ c1, c2.mono (by omega)⟩
  · refine Or.inl ⟨by omega, hr, rfl, ?_⟩
    obtain ⟨z, z1, z2⟩ := j_call (r := (9, nI k, nI q, nI r, nI d, nI t)) hk hJ hr rfl rfl hL y1 (by rw [hmk, hof, hoc]; exact y2) (Or.inr (nI_nle (by omega) (by omega)))
    exact ⟨z, hasks z _ z1, z2.mono (by omega)⟩
theorem n_claim (hk : k < 16) (h : JZ x t cc ff n g lim) {q r d : Nat} (hq : q < 3) (hr4 : r < 4) (hd : d < 1001) (hn : ¬ (tyN (cc k) (nI t) = 4 ∧ n < 300)) : AN x k t cc ff n g lim (fL_asks k (foc k x) 8 (nI k) (nI q) (nI r) (nI d)) (-108) := by
  refine an_foc h ?_
  obtain ⟨E, Mf, idf, lvi, rfl, hl, hJ⟩ := h
  obtain ⟨⟨h1, h2, h3, h4, h5, h6, h7, h8⟩, hrw⟩ := id hJ
  have hfc : fClk (foc k x) = nI t := h2
  obtain ⟨hfV, b3, b4, b5⟩ := h4 k hk
  have hfV : VR (fV (foc k x)) (cc k) (ff k) := hfV
  rw [asks_8]
  unfold fX7_claim
  rw [key_ok hk, Option.bind_some, thrL, grp_ok hq, Option.bind_some, thrL, rdr_ok hr4, Option.bind_some, thrL, tck_in hd, Option.bind_some, thrL]
  by_cases hA : tyN (cc k) (nI t) = 4
  · rw [c_ty_y hk hfV (by rw [hfc]; exact hA), Option.bind_some, thrL, c_row_n (F := foc k x) h5 (fun q => hn ⟨hA, q⟩), Option.bind_some, thrR]; rfl
  · rw [c_ty_n hk hfV (by rw [hfc]; exact hA), Option.bind_some, thrR]; rfl
/-- remove -/
theorem a_remove (hk : k < 16) (h : JZ x t cc ff n g lim) {b e i : Int32} (hL : n < 300) :
    (thC (cc k) (nI t) = true ∧ AW x k t cc ff n g lim (fL_asks k (foc k x) 9 (nI k) b e i) 1 (10, nI k, 0, 0, 0, nI t)) ∨ (thC (cc k) (nI t) = false ∧ AN x k t cc ff n g lim (fL_asks k (foc k x) 9 (nI k) b e i) 0) := by
  obtain ⟨E, Mf, idf, lvi, rfl, hl, hJ⟩ := h
  obtain ⟨⟨h1, h2, h3, h4, h5, h6, h7, h8⟩, hrw⟩ := id hJ
  have hfc : fClk (foc k x) = nI t := h2
  obtain ⟨hfV, b3, b4, b5⟩ := h4 k hk
  have hfV : VR (fV (foc k x)) (cc k) (ff k) := hfV
  obtain ⟨y, y1, y2⟩ := cls_remove (x := foc k x) hk hfV 0 0 0
  rw [hfc] at y1 y2
  have hmk : mkB (10, nI k, 0, 0, 0, nI t) (cc k) = false := mkB_f (Or.inr (Or.inr (Or.inr (Or.inr (Or.inr (Or.inl rfl))))))
  have hof : opF (10, nI k, 0, 0, 0, nI t) (cc k) (ff k) = ff k := opF_o (Or.inr (Or.inr (Or.inr (Or.inr (Or.inr (Or.inl rfl))))))
  have hasks : ∀ (z : FSt) (u : Int32), fX7_call k (foc k x) 7 (nI k) 0 0 0 = some (z, u) → fL_asks k (foc k x) 9 (nI k) b e i = some (z, if u ≤ 0 then 0 else 1) := fun z u hz => by
    rw [asks_9]
    unfold fX7_remove
    rw [key_ok hk, Option.bind_some, thrL, c_row_y (F := foc k x) h5 hL, Option.bind_some, thrL, hz, Option.bind_some, keep_r]
    by_cases w : u ≤ 0
    · rw [if_pos w, if_pos w]; rfl
    · rw [if_neg w, if_neg w]; rfl
  cases hT : thC (cc k) (nI t) with
  | true =>
    have hr : okR (10, nI k, 0, 0, 0, nI t) (cc k) := ⟨⟨k, hk, rfl⟩, ⟨t, by omega, rfl⟩, Or.inr (Or.inr (Or.inr (Or.inr (Or.inr (Or.inr (Or.inr (Or.inr (Or.inr (Or.inl ⟨rfl, rfl, rfl, rfl, hT⟩)))))))))⟩
    refine Or.inl ⟨rfl, hr, rfl, ?_⟩
    rw [hT] at y1
    rw [if_pos hT] at y2
    obtain ⟨z, z1, z2⟩ := j_call (r := (10, nI k, 0, 0, 0, nI t)) hk hJ hr rfl rfl hL y1 (by rw [hmk, hof, opC_10 rfl]; exact y2) (Or.inr (by decide))
    exact ⟨z, hasks z _ z1, z2.mono (by omega)⟩
  | false =>
    refine Or.inr ⟨rfl, ?_⟩
    rw [hT] at y1
    rw [if_neg (by rw [hT]; decide)] at y2
    obtain ⟨c1, c2⟩ := j_quiet hk hJ y1 y2 (by decide) (by decide)
    exact ⟨y, hasks y _ c1, c2.mono (by omega)⟩
theorem n_remove (hk : k < 16) (h : JZ x t cc ff n g lim) {b e i : Int32} (hn : ¬ n < 300) : AN x k t cc ff n g lim (fL_asks k (foc k x) 9 (nI k) b e i) (-108) := by
  refine an_foc h ?_
  obtain ⟨E, Mf, idf, lvi, rfl, hl, hJ⟩ := h
  obtain ⟨⟨h1, h2, h3, h4, h5, h6, h7, h8⟩, hrw⟩ := id hJ
  rw [asks_9]
  unfold fX7_remove
  rw [key_ok hk, Option.bind_some, thrL, c_row_n (F := foc k x) h5 hn, Option.bind_some, thrR]; rfl
/-- expire -/
theorem exp_in {d : Nat} (hd1 : 1 ≤ d) (hd : d < 1001) : fX7_needWithin (nI d) 1 1000 = some (.inl 0) := within_in (fun q => by
  rcases q with q | q
  · exact nI_nlt (a := d) (b := 1) (by omega) (by omega) q
  · exact nI_nlt (a := 1000) (b := d) (by omega) (by omega) q)
theorem a_expire (hk : k < 16) (h : JZ x t cc ff n g lim) {d : Nat} {e i : Int32} (hd1 : 1 ≤ d) (hd : d < 1001) (hL : n < 300) :
    (thC (cc k) (nI t) = true ∧ AW x k t cc ff n g lim (fL_asks k (foc k x) 10 (nI k) (nI d) e i) 1 (11, nI k, nI (t + d), 0, 0, nI t)) ∨ (thC (cc k) (nI t) = false ∧ AN x k t cc ff n g lim (fL_asks k (foc k x) 10 (nI k) (nI d) e i) 0) := by
  obtain ⟨E, Mf, idf, lvi, rfl, hl, hJ⟩ := h
  obtain ⟨⟨h1, h2, h3, h4, h5, h6, h7, h8⟩, hrw⟩ := id hJ
  have hfc : fClk (foc k x) = nI t := h2
  obtain ⟨hfV, b3, b4, b5⟩ := h4 k hk
  have hfV : VR (fV (foc k x)) (cc k) (ff k) := hfV
  obtain ⟨y, y1, y2⟩ := cls_end (x := foc k x) hk hfV (nI d) 0 0
  rw [hfc] at y1 y2
  have hmk : mkB (11, nI k, nI (t + d), 0, 0, nI t) (cc k) = false := mkB_f (Or.inr (Or.inr (Or.inr (Or.inr (Or.inr (Or.inr rfl))))))
  have hof : opF (11, nI k, nI (t + d), 0, 0, nI t) (cc k) (ff k) = ff k := opF_o (Or.inr (Or.inr (Or.inr (Or.inr (Or.inr (Or.inr rfl))))))
  have hfst : fst1 (11, nI k, nI (t + d), 0, 0, nI t) = nI d := by
    show nI (t + d) - nI t = nI d
    rw [pk_sub (by omega)]
    congr 1
    omega
  have hasks : ∀ (z : FSt) (u : Int32), fX7_call k (foc k x) 8 (nI k) (nI d) 0 0 = some (z, u) → fL_asks k (foc k x) 10 (nI k) (nI d) e i = some (z, if u ≤ 0 then 0 else 1) := fun z u hz => by
    rw [asks_10]
    unfold fX7_expire
    rw [key_ok hk, Option.bind_some, thrL, exp_in hd1 hd, Option.bind_some, thrL, c_row_y (F := foc k x) h5 hL, Option.bind_some, thrL, hz, Option.bind_some, keep_r]
    by_cases w : u ≤ 0
    · rw [if_pos w, if_pos w]; rfl
    · rw [if_neg w, if_neg w]; rfl
  cases hT : thC (cc k) (nI t) with
  | true =>
    have hr : okR (11, nI k, nI (t + d), 0, 0, nI t) (cc k) := ⟨⟨k, hk, rfl⟩, ⟨t, by omega, rfl⟩, Or.inr (Or.inr (Or.inr (Or.inr (Or.inr (Or.inr (Or.inr (Or.inr (Or.inr (Or.inr ⟨rfl, rfl, rfl, hT⟩)))))))))⟩
    refine Or.inl ⟨rfl, hr, rfl, ?_⟩
    rw [hT] at y1
    rw [if_pos hT, nI_add] at y2
    obtain ⟨z, z1, z2⟩ := j_call (r := (11, nI k, nI (t + d), 0, 0, nI t)) hk hJ hr rfl rfl hL (by rw [hfst]; exact y1) (by rw [hmk, hof, opC_11 rfl]; exact y2) (Or.inr (by decide))
    rw [hfst] at z1
    exact ⟨z, hasks z _ z1, z2.mono (by omega)⟩
  | false =>
    refine Or.inr ⟨rfl, ?_⟩
    rw [hT] at y1
    rw [if_neg (by rw [hT]; decide)] at y2
    obtain ⟨c1, c2⟩ := j_quiet hk hJ y1 y2 (by decide) (by decide)
    exact ⟨y, hasks y _ c1, c2.mono (by omega)⟩
theorem n_expire (hk : k < 16) (h : JZ x t cc ff n g lim) {d : Nat} {e i : Int32} (hd1 : 1 ≤ d) (hd : d < 1001) (hn : ¬ n < 300) : AN x k t cc ff n g lim (fL_asks k (foc k x) 10 (nI k) (nI d) e i) (-108) := by
  refine an_foc h ?_
  obtain ⟨E, Mf, idf, lvi, rfl, hl, hJ⟩ := h
  obtain ⟨⟨h1, h2, h3, h4, h5, h6, h7, h8⟩, hrw⟩ := id hJ
  rw [asks_10]
  unfold fX7_expire
  rw [key_ok hk, Option.bind_some, thrL, exp_in hd1 hd, Option.bind_some, thrL, c_row_n (F := foc k x) h5 hn, Option.bind_some, thrR]; rfl
end CMD2

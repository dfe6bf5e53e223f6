/-! the class's perform, the other kinds -/
theorem fnd_lt {L : LL} {a : Int32} (h : fnd L a = true) : fi L a < L.length := of_decide_eq_true h
theorem fnd_at {L : LL} {a : Int32} (h : fnd L a = true) : (L[fi L a]'(fnd_lt h)).1 = a := by
  have hw : L.findIdx (fun q => decide (q.1 = a)) < L.length := fnd_lt h
  have := List.findIdx_getElem (w := hw)
  exact of_decide_eq_true this
theorem plc_fnd {L : LL} {a : Int32} (h : fnd L a = true) : plc L a = nI (fi L a) := if_pos (fnd_lt h)
theorem plc_not {L : LL} {a : Int32} (h : fnd L a = false) : plc L a = -1 := if_neg (of_decide_eq_false h)
theorem cls_take {x : FSt} {c : CK} {f : FK} {k : Nat} (hk : k < 16) (h : VR (fV x) c f) (hc : okCK c) {a : Int32} (q4 q5 : Int32) (ha : isV a) (hT : cT c = 2 ∨ cT c = 3) :
    ∃ y, fX7_perform k x 6 (nI k) a q4 q5 = some (y, if fnd (cL c) a = true then 1 else 0) ∧ PerR x y (tkeC a c) f false := by
  have h0 : cT c ≠ 0 := by rcases hT with e | e <;> rw [e] <;> decide
  have hV := h.VL h0 rfl
  have h40 := hV.2.1.2.1
  have hok : 0 < (cL c).length ∧ ∀ q ∈ cL c, isV q.1 := by
    rcases hc with e | e
    · exact absurd e h0
    · exact ⟨e.2.2.2.1 (by rcases hT with e | e <;> rw [e] <;> decide), e.2.2.2.2.1⟩
  unfold fX7_perform tkeC
  rw [kyk hk, chk_r, if_neg (by decide), if_neg (by decide), if_neg (by decide), if_neg (by decide), if_neg (by decide), if_pos rfl, val_place hV ha (fun u => fX7_perform_239 k x u)]
  unfold fX7_perform_239
  by_cases e : fnd (cL c) a = true
  · obtain ⟨v, v1, v2, v3, v4, v5, v6, v7⟩ := val_letGo hV (fnd_lt e)
    rw [plc_fnd e, v1, Option.bind_some, keep_r, if_pos e, if_pos e, if_neg (isV_ne (hok.2 _ (List.getElem_mem (fnd_lt e))))]
    exact ⟨_, rfl, ⟨rfl, rfl, rfl, rfl, rfl, rfl⟩, vr_drop h h0 rfl v2 v3 v4 v5 v7, v6, rfl⟩
  · have e' : fnd (cL c) a = false := by simpa using e
    rw [plc_not e', val_letNeg hV hok.1, Option.bind_some, keep_r, if_neg e, if_neg e, if_pos rfl]
    exact ⟨_, rfl, ⟨rfl, rfl, rfl, rfl, rfl, rfl⟩, h, rfl, rfl⟩
theorem ratL_len {a : Int32} {L : LL} : (ratL a L).length = if fnd L a = true then L.length - 1 else L.length := by
  unfold ratL
  by_cases e : fnd L a = true
  · rw [if_pos e, if_pos e, List.length_eraseIdx, if_pos (fnd_lt e)]
  · rw [if_neg e, if_neg e]
theorem rnk_le {L : LL} {a : Int32 × Int32} : rnk L a ≤ L.length := List.findIdx_le_length
theorem cls_rate {x : FSt} {c : CK} {f : FK} {k : Nat} (hk : k < 16) (h : VR (fV x) c f) {a b : Int32} (q5 : Int32) (ha : isV a) (hok : thC c (fClk x) = true → cT c = 3 ∧ ((cL c).length < 40 ∨ fnd (cL c) a = true)) :
    ∃ y, fX7_perform k x 3 (nI k) a b q5 = some (y, nI (ratI a b (fClk x) c)) ∧ PerR x y (ratC a b (fClk x) c) (ratF a (fClk x) c f) (!thC c (fClk x)) := by
  obtain ⟨y, y1, y2⟩ := cls_make k h (t := 3) (by decide)
  have hT := mkC_T (t := 3) (fun q => (hok q).1)
  have hl : (cL (mkC 3 c (fClk x))).length < 40 ∨ fnd (cL (mkC 3 c (fClk x))) a = true := mkC_L (P := fun L => L.length < 40 ∨ fnd L a = true) (fun q => (hok q).2) (Or.inl (by decide))
  have hV := y2.2.1.VL (t := 3) (by decide) hT
  have h40 := hV.2.1.2.1
  unfold fX7_perform ratC ratF ratI
  rw [kyk hk, chk_r, if_neg (by decide), if_neg (by decide), if_pos rfl, y1, Option.bind_some, keep_r, val_place hV ha (fun u => fX7_perform_138 k y a b u)]
  generalize hc1 : mkC 3 c (fClk x) = c1 at *
  have hll : (ratL a (cL c1)).length < 40 := by
    rw [ratL_len]
    split
    · have := fnd_lt (by assumption); omega
    · rcases hl with q | q
      · exact q
      · exact absurd q (by assumption)
  -- the old one goes out
  have out : ∃ v, fX6_dropOut (fV y) (plc (cL c1) a) = some v ∧ VL v 3 (ratL a (cL c1)) (mkF c f (fClk x)) ∧ VS (fV y) v := by
    unfold ratL
    by_cases e : fnd (cL c1) a = true
    · rw [plc_fnd e, if_pos e]
      obtain ⟨v, v1, v2, v3, -⟩ := val_dropOut hV (fnd_lt e)
      exact ⟨v, v1, v2, v3⟩
    · have e' : fnd (cL c1) a = false := by simpa using e
      rw [plc_not e', if_neg e]
      exact ⟨fV y, val_dropNeg hV, hV, rfl, rfl, rfl, rfl⟩
  obtain ⟨v, v1, v2, v3⟩ := out
  unfold fX7_perform_138
  rw [v1, Option.bind_some, keep_r, show fV (fV_s y v) = v from rfl, row_countAhead v2.2.1, Option.bind_some]
  obtain ⟨z, z1, z2, z3, z4⟩ := val_insert v2 (Or.inr (Or.inr (Or.inl rfl))) rnk_le hll a b (fun q => absurd q (by decide))
  rw [z1, Option.bind_some, keep_r]
  have hs : VS (fV y) z := ⟨z3.1.trans v3.1, z3.2.1.trans v3.2.1, z3.2.2.1.trans v3.2.2.1, z3.2.2.2.trans v3.2.2.2⟩
  exact ⟨_, rfl, y2.trans_set (v := z) (vr_set y2.2.1 (by decide) hT z2 hs z4) hs.2.2.1 insF_3⟩
theorem cls_append {x : FSt} {c : CK} {f : FK} {k : Nat} (hk : k < 16) (h : VR (fV x) c f) {a : Int32} (q4 q5 : Int32) (hok : thC c (fClk x) = true → cT c = 4 ∧ (cL c).length < 40) :
    ∃ y, fX7_perform k x 4 (nI k) a q4 q5 = some (y, nI (cL (appC a (fClk x) c)).length) ∧ PerR x y (appC a (fClk x) c) (appF (fClk x) c f) (!thC c (fClk x)) := by
  obtain ⟨y, y1, y2⟩ := cls_make k h (t := 4) (by decide)
  have hT := mkC_T (t := 4) (fun q => (hok q).1)
  have hl : (cL (mkC 4 c (fClk x))).length < 40 := mkC_L (P := fun L => L.length < 40) (fun q => (hok q).2) (by decide)
  have hV := y2.2.1.VL (t := 4) (by decide) hT
  unfold fX7_perform appC appF
  rw [kyk hk, chk_r, if_neg (by decide), if_neg (by decide), if_neg (by decide), if_pos rfl, y1, Option.bind_some, keep_r, val_count hV, Option.bind_some]
  obtain ⟨z, z1, z2, z3, z4⟩ := val_insert hV (Or.inr (Or.inr (Or.inr rfl))) (Nat.le_refl _) hl a 0 (fun q => absurd q (by decide))
  have hi : (cL (mkC 4 c (fClk x))).insertIdx (cL (mkC 4 c (fClk x))).length (a, 0) = cL (mkC 4 c (fClk x)) ++ [(a, 0)] := by
    have := ins_app (a := ((a, 0) : Int32 × Int32)) (l2 := []) (cL (mkC 4 c (fClk x)))
    rwa [List.append_nil] at this
  rw [hi] at z2
  rw [z1, Option.bind_some, keep_r]
  have hlen : (cL (setL (mkC 4 c (fClk x)) (cL (mkC 4 c (fClk x)) ++ [(a, 0)]))).length = (cL (mkC 4 c (fClk x))).length + 1 := by
    show (cL (mkC 4 c (fClk x)) ++ [(a, 0)]).length = _
    rw [List.length_append]; rfl
  rw [hlen]
  exact ⟨_, rfl, y2.trans_set (vr_set y2.2.1 (by decide) hT z2 z3 z4) z3.2.2.1 insF_4⟩
theorem cls_remove {x : FSt} {c : CK} {f : FK} {k : Nat} (hk : k < 16) (h : VR (fV x) c f) (q3 q4 q5 : Int32) :
    ∃ y, fX7_perform k x 7 (nI k) q3 q4 q5 = some (y, b2i (thC c (fClk x))) ∧ PerR x y (if thC c (fClk x) = true then rmC c else c) f false := by
  unfold fX7_perform
  rw [kyk hk, chk_r, if_neg (by decide), if_neg (by decide), if_neg (by decide), if_neg (by decide), if_neg (by decide), if_neg (by decide), if_pos rfl]
  unfold fX6_removeIfThere
  rw [val_isThere h, Option.bind_some]
  by_cases e : thC c (fClk x) = true
  · rw [e, if_neg (by decide), keep_r, Option.bind_some, keep_r, if_pos rfl]
    refine ⟨_, rfl, ⟨rfl, rfl, rfl, rfl, rfl, rfl⟩, ⟨h.1, Or.inl rfl, ⟨fun _ => rfl, fun _ => rfl⟩, fun q => absurd rfl q⟩, rfl, rfl⟩
  · have e' : thC c (fClk x) = false := by simpa using e
    rw [e', if_pos (by decide), Option.bind_some, keep_r, if_neg (by decide)]
    exact ⟨_, rfl, ⟨rfl, rfl, rfl, rfl, rfl, rfl⟩, h, rfl, rfl⟩
theorem cls_end {x : FSt} {c : CK} {f : FK} {k : Nat} (hk : k < 16) (h : VR (fV x) c f) (a q4 q5 : Int32) :
    ∃ y, fX7_perform k x 8 (nI k) a q4 q5 = some (y, b2i (thC c (fClk x))) ∧ PerR x y (if thC c (fClk x) = true then enC (fClk x + a) c else c) f false := by
  unfold fX7_perform
  rw [kyk hk, chk_r, if_neg (by decide), if_neg (by decide), if_neg (by decide), if_neg (by decide), if_neg (by decide), if_neg (by decide), if_neg (by decide), if_pos rfl]
  unfold fX6_endIfThere
  rw [val_isThere h, Option.bind_some]
  by_cases e : thC c (fClk x) = true
  · rw [e, if_neg (by decide), keep_r, Option.bind_some, keep_r, if_pos rfl]
    have h0 := thC_T e
    obtain ⟨q1, q2, q3⟩ := h.2.2.2 h0
    exact ⟨_, rfl, ⟨rfl, rfl, rfl, rfl, rfl, rfl⟩, ⟨h.1, h.2.1, h.2.2.1, fun _ => ⟨rfl, q2, q3⟩⟩, rfl, rfl⟩
  · have e' : thC c (fClk x) = false := by simpa using e
    rw [e', if_pos (by decide), Option.bind_some, keep_r, if_neg (by decide)]
    exact ⟨_, rfl, ⟨rfl, rfl, rfl, rfl, rfl, rfl⟩, h, rfl, rfl⟩
theorem vr_grp {v : VSt} {c : CK} {f : FK} {g : GSt} {pl : Nat → Nat} {w : WF} (h : VR v c f) (h0 : cT c ≠ 0) (hg : GrpR g pl w) : VR (vlGr_s v g) (cT c, cE c, cL c, pl, w) f := by
  obtain ⟨h1, h2, h3, h4⟩ := h
  obtain ⟨q1, q2, q3⟩ := h4 h0
  exact ⟨h1, h2, h3, fun _ => ⟨q1, q2, fun _ => hg⟩⟩
theorem ok_grp {c : CK} (hc : okCK c) (hT : cT c = 4) : GrpOk (cL c).length (cP c) (cW c) ∧ (cL c).length ≤ 40 := by
  rcases hc with e | e
  · rw [hT] at e; exact absurd e (by decide)
  · exact ⟨e.2.2.2.2.2.2.2 hT, e.2.2.1⟩
theorem cls_read {x : FSt} {c : CK} {f : FK} {k g r now : Nat} (hk : k < 16) (h : VR (fV x) c f) (hc : okCK c) (q5 : Int32) (hg : g < 3) (hr : r < 4) (hT : cT c = 4) (hclk : fClk x = nI now) (hnow : now ≤ 1000000) :
    ∃ y, fX7_perform k x 9 (nI k) (nI g) (nI r) q5 = some (y, if cP c g + 1 ≤ (cL c).length then nI (cP c g + 1) else -1) ∧ PerR x y (rdC g r now c) f false := by
  have h0 : cT c ≠ 0 := by rw [hT]; decide
  have hV := h.VL (t := 4) (by decide) hT
  obtain ⟨hG, h40⟩ := ok_grp hc hT
  obtain ⟨y, y1, y2, y3⟩ := grp_give ((h.2.2.2 h0).2.2 hT) hg hr h40 hnow (by have := hG.2.1 g hg; omega)
  unfold fX7_perform rdC
  rw [kyk hk, chk_r, if_neg (by decide), if_neg (by decide), if_neg (by decide), if_neg (by decide), if_neg (by decide), if_neg (by decide), if_neg (by decide), if_neg (by decide), if_pos rfl]
  rw [val_count hV, Option.bind_some, hclk, y1, Option.bind_some, keep_r]
  by_cases e : cP c g + 1 ≤ (cL c).length
  · rw [if_pos e, if_pos e]
    exact ⟨_, rfl, ⟨rfl, rfl, rfl, rfl, rfl, rfl⟩, vr_grp h h0 (y2 e), rfl, rfl⟩
  · rw [if_neg e, if_neg e, y3 e]
    exact ⟨_, rfl, ⟨rfl, rfl, rfl, rfl, rfl, rfl⟩, h, rfl, rfl⟩
theorem cls_done {x : FSt} {c : CK} {f : FK} {k g : Nat} (hk : k < 16) (h : VR (fV x) c f) (hc : okCK c) (e q5 : Int32) (hg : g < 3) (hT : cT c = 4) :
    ∃ y, fX7_perform k x 10 (nI k) (nI g) e q5 = some (y, dnA g e c) ∧ PerR x y (dnC g e c) f false := by
  have h0 : cT c ≠ 0 := by rw [hT]; decide
  obtain ⟨hG, h40⟩ := ok_grp hc hT
  obtain ⟨y, y1, y2⟩ := grp_finish ((h.2.2.2 h0).2.2 hT) hG.1 hg e
  unfold fX7_perform dnC dnA
  rw [kyk hk, chk_r, if_neg (by decide), if_neg (by decide), if_neg (by decide), if_neg (by decide), if_neg (by decide), if_neg (by decide), if_neg (by decide), if_neg (by decide), if_neg (by decide), if_pos rfl]
  rw [y1, Option.bind_some, keep_r]
  cases e1 : eno e with
  | none =>
    rw [e1] at y2
    dsimp only at y2 ⊢
    subst y2
    exact ⟨_, rfl, ⟨rfl, rfl, rfl, rfl, rfl, rfl⟩, h, rfl, rfl⟩
  | some j =>
    rw [e1] at y2
    dsimp only at y2 ⊢
    exact ⟨_, rfl, ⟨rfl, rfl, rfl, rfl, rfl, rfl⟩, vr_grp h h0 y2, rfl, rfl⟩
theorem cls_claim {x : FSt} {c : CK} {f : FK} {k g r ticks now : Nat} (hk : k < 16) (h : VR (fV x) c f) (hc : okCK c) (hg : g < 3) (hr : r < 4) (ht : ticks ≤ 1000) (hT : cT c = 4) (hclk : fClk x = nI now) (hnow : now ≤ 1000000) :
    ∃ y, fX7_perform k x 11 (nI k) (nI g) (nI r) (nI ticks) = some (y, nI (mvn (cW c) g r ticks now 40)) ∧ PerR x y (clC g r ticks now c) f false := by
  have h0 : cT c ≠ 0 := by rw [hT]; decide
  obtain ⟨hG, h40⟩ := ok_grp hc hT
  obtain ⟨y, y1, y2⟩ := grp_move ((h.2.2.2 h0).2.2 hT) hG.1 hg hr ht hnow
  unfold fX7_perform clC
  rw [kyk hk, chk_r, if_neg (by decide), if_neg (by decide), if_neg (by decide), if_neg (by decide), if_neg (by decide), if_neg (by decide), if_neg (by decide), if_neg (by decide), if_neg (by decide), if_neg (by decide), if_pos rfl]
  rw [hclk, y1, Option.bind_some, keep_r]
  exact ⟨_, rfl, ⟨rfl, rfl, rfl, rfl, rfl, rfl⟩, vr_grp h h0 y2, rfl, rfl⟩

/-! the class's perform, kind by kind -/
def FS (x y : FSt) : Prop := fRar y = fRar x ∧ fKtw y = fKtw x ∧ fClk y = fClk x ∧ fLs y = fLs x ∧ fLog y = fLog x ∧ fNew y = fNew x
def PerR (x y : FSt) (c' : CK) (f' : FK) (mk : Bool) : Prop := FS x y ∧ VR (fV y) c' f' ∧ vlId (fV y) = (if mk = true then fLvi x + 1 else vlId (fV x)) ∧ fLvi y = (if mk = true then fLvi x + 1 else fLvi x)
theorem insF_1 {a : Int32} {L : LL} {f : FK} : insF 1 a L f = (if 8 < L.length + 1 ∨ 255 < a then 2 else f.1, f.2) := by
  unfold insF; simp [show ¬ (1 : Int32) = 2 by decide, show ¬ (1 : Int32) = 3 by decide, show ¬ (1 : Int32) = 4 by decide]
theorem insF_2 {a : Int32} {L : LL} {f : FK} : insF 2 a L f = (if 8 < L.length + 1 then 2 else f.1, bup L f.2) := by
  unfold insF; simp [show ¬ (2 : Int32) = 1 by decide, show ¬ (2 : Int32) = 3 by decide, show ¬ (2 : Int32) = 4 by decide]
theorem insF_3 {a : Int32} {L : LL} {f : FK} : insF 3 a L f = (if 6 < L.length + 1 then 2 else f.1, f.2) := by
  unfold insF; simp [show ¬ (3 : Int32) = 1 by decide, show ¬ (3 : Int32) = 2 by decide, show ¬ (3 : Int32) = 4 by decide]
theorem insF_4 {a : Int32} {L : LL} {f : FK} : insF 4 a L f = (if 16 < L.length + 1 then 2 else f.1, f.2) := by
  unfold insF; simp [show ¬ (4 : Int32) = 1 by decide, show ¬ (4 : Int32) = 2 by decide, show ¬ (4 : Int32) = 3 by decide]
theorem thC_T {c : CK} {now : Int32} (h : thC c now = true) : cT c ≠ 0 := by
  unfold thC at h
  rw [Bool.and_eq_true] at h
  exact of_decide_eq_true h.1
theorem VR.VL {v : VSt} {c : CK} {f : FK} (h : VR v c f) {t : Int32} (h0 : t ≠ 0) (ht : cT c = t) : VL v t (cL c) f := by
  have := (h.2.2.2 (by rw [ht]; exact h0)).2.1
  rw [ht] at this; exact this
theorem vr_set {v y : VSt} {c : CK} {f f' : FK} {L' : LL} {t : Int32} (h : VR v c f) (h0 : t ≠ 0) (ht : cT c = t) (hL : VL y t L' f') (hS : VS v y) (hf : fmOk y) : VR y (setL c L') f' := by
  obtain ⟨-, h2, h3, h4⟩ := h
  obtain ⟨s1, s2, s3, s4⟩ := hS
  have h0' : cT c ≠ 0 := by rw [ht]; exact h0
  obtain ⟨q1, -, q3⟩ := h4 h0'
  refine ⟨hf, by rw [s1]; exact h2, by rw [s1]; exact h3, fun _ => ⟨by rw [s2]; exact q1, ?_, fun w => by rw [s4]; exact q3 w⟩⟩
  show VL y (cT c) L' f'
  rw [ht]; exact hL
theorem vr_drop {v y : VSt} {c : CK} {f f' : FK} {L' : LL} {t : Int32} (h : VR v c f) (h0 : t ≠ 0) (ht : cT c = t) (hL : VL y t L' f') (hf : fmOk y) (s1 : vlHeld y = if L'.length = 0 then 0 else vlHeld v) (s2 : vlEnd y = vlEnd v) (s4 : vlGr y = vlGr v) : VR y (drpE (setL c L')) f' := by
  unfold drpE
  by_cases e : (cL (setL c L')).length = 0
  · rw [if_pos e]
    rw [if_pos (show L'.length = 0 from e)] at s1
    exact ⟨hf, Or.inl s1, ⟨fun _ => s1, fun _ => rfl⟩, fun q => absurd rfl q⟩
  · rw [if_neg e]
    rw [if_neg (show ¬ L'.length = 0 from e)] at s1
    obtain ⟨-, h2, h3, h4⟩ := h
    have h0' : cT c ≠ 0 := by rw [ht]; exact h0
    obtain ⟨q1, -, q3⟩ := h4 h0'
    refine ⟨hf, by rw [s1]; exact h2, by rw [s1]; exact h3, fun _ => ⟨by rw [s2]; exact q1, ?_, fun w => by rw [s4]; exact q3 w⟩⟩
    show VL y (cT c) L' f'
    rw [ht]; exact hL
theorem cls_make {x : FSt} {c : CK} {f : FK} {t : Int32} (k : Nat) (h : VR (fV x) c f) (ht : t ≠ 0) : ∃ y, fX7_makeIfAbsent k x t = some y ∧ PerR x y (mkC t c (fClk x)) (mkF c f (fClk x)) (!thC c (fClk x)) := by
  unfold fX7_makeIfAbsent
  rw [val_isThere h, Option.bind_some]
  unfold mkC mkF
  by_cases e : thC c (fClk x) = true
  · rw [e, if_neg (by decide)]
    exact ⟨x, rfl, ⟨rfl, rfl, rfl, rfl, rfl, rfl⟩, h, rfl, rfl⟩
  · have e' : thC c (fClk x) = false := by simpa using e
    rw [e', if_pos (by decide), keep_r]
    obtain ⟨v, v1, v2, v3⟩ := val_make (fV x) ht (fLvi x + 1)
    rw [show fX6_make (fV (fLvi_s x (fLvi x + 1))) t (fLvi (fLvi_s x (fLvi x + 1))) = some v from v1, Option.bind_some]
    refine ⟨_, rfl, ⟨rfl, rfl, rfl, rfl, rfl, rfl⟩, ?_, v3, rfl⟩
    exact v2
theorem mkC_T {c : CK} {t now : Int32} (h : thC c now = true → cT c = t) : cT (mkC t c now) = t := by
  unfold mkC
  split
  · exact h (by assumption)
  · rfl
theorem mkC_L {c : CK} {t now : Int32} {P : LL → Prop} (h : thC c now = true → P (cL c)) (h0 : P []) : P (cL (mkC t c now)) := by
  unfold mkC
  split
  · exact h (by assumption)
  · exact h0
theorem PerR.trans_set {x y : FSt} {c c' : CK} {f f' f'' : FK} {mk : Bool} {v : VSt} (h : PerR x y c f mk) (hv : VR v c' f') (hi : vlId v = vlId (fV y)) (hf : f' = f'') : PerR x (fV_s y v) c' f'' mk := by
  obtain ⟨h1, h2, h3, h4⟩ := h
  subst hf
  exact ⟨h1, hv, hi.trans h3, h4⟩
theorem kyk {k : Nat} (hk : k < 16) : keyok (nI k) k = true := by
  unfold keyok
  rw [inb_nI hk (by omega), nI_clamp (by omega)]
  simp
theorem cls_push {x : FSt} {c : CK} {f : FK} {k : Nat} (hk : k < 16) (h : VR (fV x) c f) {a b : Int32} (q5 : Int32) (hb : bit b) (hok : thC c (fClk x) = true → cT c = 1 ∧ (cL c).length < 40) :
    ∃ y, fX7_perform k x 1 (nI k) a b q5 = some (y, nI (cL (pshC a b (fClk x) c)).length) ∧ PerR x y (pshC a b (fClk x) c) (pshF a (fClk x) c f) (!thC c (fClk x)) := by
  obtain ⟨y, y1, y2⟩ := cls_make k h (t := 1) (by decide)
  have hT := mkC_T (t := 1) (fun q => (hok q).1)
  have hl : (cL (mkC 1 c (fClk x))).length < 40 := mkC_L (P := fun L => L.length < 40) (fun q => (hok q).2) (by decide)
  have hV := y2.2.1.VL (t := 1) (by decide) hT
  have step : ∀ i, i ≤ (cL (mkC 1 c (fClk x))).length → ∃ z, fX7_perform_92 k y a (nI i) = some (z, nI (cL (mkC 1 c (fClk x))).length.succ) ∧ PerR x z (setL (mkC 1 c (fClk x)) ((cL (mkC 1 c (fClk x))).insertIdx i (a, 0))) (pshF a (fClk x) c f) (!thC c (fClk x)) := fun i hi => by
    obtain ⟨v, v1, v2, v3, v4⟩ := val_insert hV (Or.inl rfl) hi hl a 0 (fun q => absurd q (by decide))
    unfold fX7_perform_92
    rw [v1, Option.bind_some, keep_r]
    exact ⟨_, rfl, y2.trans_set (vr_set y2.2.1 (by decide) hT v2 v3 v4) v3.2.2.1 insF_1⟩
  unfold fX7_perform pshC
  rw [kyk hk, chk_r, if_pos rfl, y1, Option.bind_some, keep_r]
  have hlen : ∀ i, i ≤ (cL (mkC 1 c (fClk x))).length → (cL (setL (mkC 1 c (fClk x)) ((cL (mkC 1 c (fClk x))).insertIdx i (a, 0)))).length = (cL (mkC 1 c (fClk x))).length.succ := fun i hi => by
    show ((cL (mkC 1 c (fClk x))).insertIdx i (a, 0)).length = _
    rw [List.length_insertIdx, if_pos hi]
  rcases hb with rfl | rfl
  · rw [if_neg (by decide), if_pos rfl, hlen 0 (Nat.zero_le _)]
    exact step 0 (Nat.zero_le _)
  · rw [if_pos rfl, if_neg (by decide), val_count hV, Option.bind_some, hlen _ (Nat.le_refl _)]
    exact step _ (Nat.le_refl _)
theorem popI_lt {a : Int32} {c : CK} (h0 : 0 < (cL c).length) : popI a c < (cL c).length := by
  unfold popI; split <;> omega
theorem cls_pop {x : FSt} {c : CK} {f : FK} {k : Nat} (hk : k < 16) (h : VR (fV x) c f) {a : Int32} (q4 q5 : Int32) (ha : bit a) (hT : cT c = 1) (h0 : 0 < (cL c).length) (hi : popI a c < (cL c).length) :
    ∃ y, fX7_perform k x 2 (nI k) a q4 q5 = some (y, (cL c)[popI a c].1) ∧ PerR x y (popC a c) f false := by
  have hV := h.VL (t := 1) (by decide) hT
  have step : ∃ z, fX7_perform_116 k x (nI (popI a c)) = some (z, (cL c)[popI a c].1) ∧ PerR x z (popC a c) f false := by
    obtain ⟨v, v1, v2, v3, v4, v5, v6, v7⟩ := val_letGo hV hi
    unfold fX7_perform_116
    rw [v1, Option.bind_some, keep_r]
    exact ⟨_, rfl, ⟨rfl, rfl, rfl, rfl, rfl, rfl⟩, vr_drop h (by decide) hT v2 v3 v4 v5 v7, v6, rfl⟩
  unfold fX7_perform
  rw [kyk hk, chk_r, if_neg (by decide), if_pos rfl]
  rcases ha with rfl | rfl
  · rw [if_neg (by decide)]
    have e : popI 0 c = 0 := if_pos rfl
    have g : fX7_perform_116 k x 0 = fX7_perform_116 k x (nI (popI 0 c)) := by rw [e]; rfl
    rw [g]
    exact step
  · rw [if_pos rfl, val_count hV, Option.bind_some, nI_s1 h0]
    have e : popI 1 c = (cL c).length - 1 := if_neg (by decide)
    rw [← e]
    exact step
theorem mkC_isV {c : CK} {t now : Int32} (hc : okCK c) : ∀ q ∈ cL (mkC t c now), isV q.1 := by
  refine mkC_L (P := fun L => ∀ q ∈ L, isV q.1) (fun q => ?_) (fun q hq => nomatch hq)
  rcases hc with h | h
  · exact absurd h (thC_T q)
  · exact h.2.2.2.2.1
theorem mkC_asc {c : CK} {t now : Int32} (hc : okCK c) (ht : thC c now = true → cT c = 2) : AscL (cL (mkC t c now)) := by
  refine mkC_L (P := AscL) (fun q => ?_) ⟨fun q hq => (nomatch hq), List.Pairwise.nil⟩
  rcases hc with h | h
  · exact absurd h (thC_T q)
  · exact h.2.2.2.2.2.1 (ht q)
theorem plc_iff {L : LL} {a : Int32} (hL : L.length < 2 ^ 31) : plc L a = -1 ↔ fnd L a = false := by
  unfold plc fnd
  by_cases h : fi L a < L.length
  · rw [if_pos h, decide_eq_true h, nI_nm1 (by omega)]; simp
  · rw [if_neg h, decide_eq_false h]; simp
theorem fnd_no {L : LL} {a : Int32} (h : fnd L a = false) : ∀ q ∈ L, q.1 ≠ a := by
  intro q hq e
  unfold fnd fi at h
  have h1 := of_decide_eq_false h
  exact h1 (List.findIdx_lt_length_of_exists ⟨q, hq, decide_eq_true e⟩)
theorem rnk_asc {L : LL} (h : AscL L) (a : Int32) : L.insertIdx (rnk L (a, 0)) (a, 0) = sins L a ∧ rnk L (a, 0) ≤ L.length := by
  obtain ⟨h1, h2⟩ := h
  have key : ∀ L : LL, (∀ q ∈ L, isV q.1 ∧ q.2 = 0) → L.Pairwise (fun a b => a.1 < b.1) → rnk L (a, 0) ≤ L.length ∧ L.insertIdx (rnk L (a, 0)) (a, 0) = sins L a := by
    intro L
    induction L with
    | nil => intro _ _; exact ⟨Nat.le_refl _, rfl⟩
    | cons q t ih =>
      intro g1 g2
      obtain ⟨p1, p2⟩ := List.pairwise_cons.mp g2
      have hq := (g1 q List.mem_cons_self).2
      have ha : ahd q (a, 0) = decide (q.1 < a) := by
        unfold ahd; rw [hq]; simp [ilt_irr]
      unfold rnk sins
      rw [List.findIdx_cons, ha]
      by_cases e : q.1 < a
      · rw [decide_eq_true e]
        obtain ⟨i1, i2⟩ := ih (fun s hs => g1 s (List.mem_cons_of_mem _ hs)) p2
        unfold rnk at i1
        unfold rnk sins at i2
        simp only [Bool.not_true, cond_false, List.length_cons, List.insertIdx_succ_cons]
        refine ⟨by omega, ?_⟩
        rw [i2]
        simp [List.filter_cons, e]
      · rw [decide_eq_false e]
        simp only [Bool.not_false, cond_true, List.insertIdx_zero]
        refine ⟨Nat.zero_le _, ?_⟩
        have hall : ∀ s ∈ q :: t, decide (s.1 < a) = false := fun s hs => by
          rcases List.mem_cons.mp hs with w | hs
          · rw [w]; exact decide_eq_false e
          · exact decide_eq_false (fun w => e (Int32.lt_trans (p1 s hs) w))
        rw [List.filter_eq_nil_iff.mpr (fun s hs => by rw [hall s hs]; exact Bool.false_ne_true), List.filter_eq_self.mpr (fun s hs => by rw [hall s hs]; rfl)]
        rfl
  exact ⟨(key L h1 h2).2, (key L h1 h2).1⟩
theorem cls_add {x : FSt} {c : CK} {f : FK} {k : Nat} (hk : k < 16) (h : VR (fV x) c f) (hc : okCK c) {a : Int32} (q4 q5 : Int32) (ha : isV a) (hok : thC c (fClk x) = true → cT c = 2 ∧ ((cL c).length < 40 ∨ fnd (cL c) a = true)) :
    ∃ y, fX7_perform k x 5 (nI k) a q4 q5 = some (y, if fnd (cL (mkC 2 c (fClk x))) a = true then 0 else nI (cL (addC a (fClk x) c)).length) ∧ PerR x y (addC a (fClk x) c) (addF a (fClk x) c f) (!thC c (fClk x)) := by
  obtain ⟨y, y1, y2⟩ := cls_make k h (t := 2) (by decide)
  have hT := mkC_T (t := 2) (fun q => (hok q).1)
  have hl : (cL (mkC 2 c (fClk x))).length < 40 ∨ fnd (cL (mkC 2 c (fClk x))) a = true := mkC_L (P := fun L => L.length < 40 ∨ fnd L a = true) (fun q => (hok q).2) (Or.inl (by decide))
  have hA := mkC_asc (t := 2) hc (fun q => (hok q).1)
  have hV := y2.2.1.VL (t := 2) (by decide) hT
  have h40 := hV.2.1.2.1
  unfold fX7_perform addC addF
  rw [kyk hk, chk_r, if_neg (by decide), if_neg (by decide), if_neg (by decide), if_neg (by decide), if_pos rfl, y1, Option.bind_some, keep_r, val_place hV ha (fun u => fX7_perform_204 k y a u)]
  unfold fX7_perform_204
  by_cases e : fnd (cL (mkC 2 c (fClk x))) a = true
  · rw [if_neg (fun q => by rw [plc_iff (by omega), e] at q; cases q), if_pos e, if_pos e, if_pos e]
    exact ⟨y, rfl, y2⟩
  · have e' : fnd (cL (mkC 2 c (fClk x))) a = false := by simpa using e
    have hl' : (cL (mkC 2 c (fClk x))).length < 40 := by
      rcases hl with q | q
      · exact q
      · exact absurd q e
    obtain ⟨r1, r2⟩ := rnk_asc hA a
    obtain ⟨v, v1, v2, v3, v4⟩ := val_insert hV (Or.inr (Or.inl rfl)) r2 hl' a 0 (fun _ => ⟨hA, ha, r1, fnd_no e'⟩)
    rw [if_pos ((plc_iff (by omega)).mpr e'), if_neg e, if_neg e, if_neg e, row_countAhead hV.2.1, Option.bind_some, v1, Option.bind_some, keep_r]
    have hlen : (cL (setL (mkC 2 c (fClk x)) (sins (cL (mkC 2 c (fClk x))) a))).length = (cL (mkC 2 c (fClk x))).length + 1 := by
      show (sins (cL (mkC 2 c (fClk x))) a).length = _
      rw [← r1, List.length_insertIdx, if_pos r2]
    rw [hlen]
    rw [r1] at v2
    exact ⟨_, rfl, y2.trans_set (vr_set y2.2.1 (by decide) hT v2 v3 v4) v3.2.2.1 insF_2⟩

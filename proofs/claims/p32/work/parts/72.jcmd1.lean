/-! what the law asks, branch by branch -/
theorem asks_0 {k : Nat} {x : FSt} {b2 b3 b4 b5 : Int32} : fL_asks k x 0 b2 b3 b4 b5 = (if b4 ≤ 0 then fL_asks_17 k x 0 b3 b2 else fL_asks_17 k x 1 b3 b2) := by
  unfold fL_asks
  rw [if_pos rfl]
theorem asks_1 {k : Nat} {x : FSt} {b2 b3 b4 b5 : Int32} : fL_asks k x 1 b2 b3 b4 b5 = (if b3 ≤ 0 then fL_asks_39 k x 0 b2 else fL_asks_39 k x 1 b2) := by
  unfold fL_asks
  rw [if_neg (show ¬ (1 : Int32) = 0 by decide), if_pos rfl]
theorem asks_2 {k : Nat} {x : FSt} {b2 b3 b4 b5 : Int32} : fL_asks k x 2 b2 b3 b4 b5 = (fX7_add k x b2 b3).bind (fun u94 => keep u94.1 (fun x99 => thr u94.2 (fun k96 => if k96 = 0 then some (x99, (-107)) else if k96 = 2 then some (x99, (-108)) else none) (fun r97 => (if r97 = 0 then some (x99, 0) else some (x99, 1))))) := by
  unfold fL_asks
  rw [if_neg (show ¬ (2 : Int32) = 0 by decide), if_neg (show ¬ (2 : Int32) = 1 by decide), if_pos rfl]
theorem asks_3 {k : Nat} {x : FSt} {b2 b3 b4 b5 : Int32} : fL_asks k x 3 b2 b3 b4 b5 = (fX7_take k x b2 b3).bind (fun u87 => keep u87.1 (fun x92 => thr u87.2 (fun k89 => if k89 = 0 then some (x92, (-107)) else if k89 = 2 then some (x92, (-108)) else none) (fun r90 => (if r90 = 0 then some (x92, 0) else some (x92, 1))))) := by
  unfold fL_asks
  rw [if_neg (show ¬ (3 : Int32) = 0 by decide), if_neg (show ¬ (3 : Int32) = 1 by decide), if_neg (show ¬ (3 : Int32) = 2 by decide), if_pos rfl]
theorem asks_4 {k : Nat} {x : FSt} {b2 b3 b4 b5 : Int32} : fL_asks k x 4 b2 b3 b4 b5 = (fX7_rate k x b2 b3 b4).bind (fun u81 => keep u81.1 (fun x86 => thr u81.2 (fun k83 => if k83 = 0 then some (x86, (-107)) else if k83 = 2 then some (x86, (-108)) else none) (fun r84 => some (x86, r84)))) := by
  unfold fL_asks
  rw [if_neg (show ¬ (4 : Int32) = 0 by decide), if_neg (show ¬ (4 : Int32) = 1 by decide), if_neg (show ¬ (4 : Int32) = 2 by decide), if_neg (show ¬ (4 : Int32) = 3 by decide), if_pos rfl]
theorem asks_5 {k : Nat} {x : FSt} {b2 b3 b4 b5 : Int32} : fL_asks k x 5 b2 b3 b4 b5 = (fX7_append k x b2 b3).bind (fun u75 => keep u75.1 (fun x80 => thr u75.2 (fun k77 => if k77 = 0 then some (x80, (-107)) else if k77 = 2 then some (x80, (-108)) else none) (fun r78 => some (x80, r78)))) := by
  unfold fL_asks
  rw [if_neg (show ¬ (5 : Int32) = 0 by decide), if_neg (show ¬ (5 : Int32) = 1 by decide), if_neg (show ¬ (5 : Int32) = 2 by decide), if_neg (show ¬ (5 : Int32) = 3 by decide), if_neg (show ¬ (5 : Int32) = 4 by decide), if_pos rfl]
theorem asks_6 {k : Nat} {x : FSt} {b2 b3 b4 b5 : Int32} : fL_asks k x 6 b2 b3 b4 b5 = (fX7_read k x b2 b3 b4).bind (fun u69 => keep u69.1 (fun x74 => thr u69.2 (fun k71 => if k71 = 0 then some (x74, (-107)) else if k71 = 2 then some (x74, (-108)) else none) (fun r72 => some (x74, r72)))) := by
  unfold fL_asks
  rw [if_neg (show ¬ (6 : Int32) = 0 by decide), if_neg (show ¬ (6 : Int32) = 1 by decide), if_neg (show ¬ (6 : Int32) = 2 by decide), if_neg (show ¬ (6 : Int32) = 3 by decide), if_neg (show ¬ (6 : Int32) = 4 by decide), if_neg (show ¬ (6 : Int32) = 5 by decide), if_pos rfl]
theorem asks_7 {k : Nat} {x : FSt} {b2 b3 b4 b5 : Int32} : fL_asks k x 7 b2 b3 b4 b5 = (fX7_done k x b2 b3 b4).bind (fun u62 => keep u62.1 (fun x67 => thr u62.2 (fun k64 => if k64 = 0 then some (x67, (-107)) else if k64 = 2 then some (x67, (-108)) else none) (fun r65 => (if r65 = 0 then some (x67, 0) else some (x67, 1))))) := by
  unfold fL_asks
  rw [if_neg (show ¬ (7 : Int32) = 0 by decide), if_neg (show ¬ (7 : Int32) = 1 by decide), if_neg (show ¬ (7 : Int32) = 2 by decide), if_neg (show ¬ (7 : Int32) = 3 by decide), if_neg (show ¬ (7 : Int32) = 4 by decide), if_neg (show ¬ (7 : Int32) = 5 by decide), if_neg (show ¬ (7 : Int32) = 6 by decide), if_pos rfl]
theorem asks_8 {k : Nat} {x : FSt} {b2 b3 b4 b5 : Int32} : fL_asks k x 8 b2 b3 b4 b5 = (fX7_claim k x b2 b3 b4 b5).bind (fun u56 => keep u56.1 (fun x61 => thr u56.2 (fun k58 => if k58 = 0 then some (x61, (-107)) else if k58 = 2 then some (x61, (-108)) else none) (fun r59 => some (x61, r59)))) := by
  unfold fL_asks
  rw [if_neg (show ¬ (8 : Int32) = 0 by decide), if_neg (show ¬ (8 : Int32) = 1 by decide), if_neg (show ¬ (8 : Int32) = 2 by decide), if_neg (show ¬ (8 : Int32) = 3 by decide), if_neg (show ¬ (8 : Int32) = 4 by decide), if_neg (show ¬ (8 : Int32) = 5 by decide), if_neg (show ¬ (8 : Int32) = 6 by decide), if_neg (show ¬ (8 : Int32) = 7 by decide), if_pos rfl]
theorem asks_9 {k : Nat} {x : FSt} {b2 b3 b4 b5 : Int32} : fL_asks k x 9 b2 b3 b4 b5 = (fX7_remove k x b2).bind (fun u49 => keep u49.1 (fun x54 => thr u49.2 (fun k51 => if k51 = 0 then some (x54, (-107)) else if k51 = 2 then some (x54, (-108)) else none) (fun r52 => (if r52 = 0 then some (x54, 0) else some (x54, 1))))) := by
  unfold fL_asks
  rw [if_neg (show ¬ (9 : Int32) = 0 by decide), if_neg (show ¬ (9 : Int32) = 1 by decide), if_neg (show ¬ (9 : Int32) = 2 by decide), if_neg (show ¬ (9 : Int32) = 3 by decide), if_neg (show ¬ (9 : Int32) = 4 by decide), if_neg (show ¬ (9 : Int32) = 5 by decide), if_neg (show ¬ (9 : Int32) = 6 by decide), if_neg (show ¬ (9 : Int32) = 7 by decide), if_neg (show ¬ (9 : Int32) = 8 by decide), if_pos rfl]
theorem asks_10 {k : Nat} {x : FSt} {b2 b3 b4 b5 : Int32} : fL_asks k x 10 b2 b3 b4 b5 = (fX7_expire k x b2 b3).bind (fun u42 => keep u42.1 (fun x47 => thr u42.2 (fun k44 => if k44 = 0 then some (x47, (-107)) else if k44 = 2 then some (x47, (-108)) else none) (fun r45 => (if r45 = 0 then some (x47, 0) else some (x47, 1))))) := by
  unfold fL_asks
  rw [if_neg (show ¬ (10 : Int32) = 0 by decide), if_neg (show ¬ (10 : Int32) = 1 by decide), if_neg (show ¬ (10 : Int32) = 2 by decide), if_neg (show ¬ (10 : Int32) = 3 by decide), if_neg (show ¬ (10 : Int32) = 4 by decide), if_neg (show ¬ (10 : Int32) = 5 by decide), if_neg (show ¬ (10 : Int32) = 6 by decide), if_neg (show ¬ (10 : Int32) = 7 by decide), if_neg (show ¬ (10 : Int32) = 8 by decide), if_neg (show ¬ (10 : Int32) = 9 by decide), if_pos rfl]
theorem asks_11 {k : Nat} {x : FSt} {b2 b3 b4 b5 : Int32} : fL_asks k x 11 b2 b3 b4 b5 = (fX7_at k x b2 b3).bind (fun u37 => thr u37 (fun k39 => if k39 = 0 then some (x, (-107)) else if k39 = 2 then some (x, (-108)) else none) (fun r40 => some (x, r40))) := by
  unfold fL_asks
  rw [if_neg (show ¬ (11 : Int32) = 0 by decide), if_neg (show ¬ (11 : Int32) = 1 by decide), if_neg (show ¬ (11 : Int32) = 2 by decide), if_neg (show ¬ (11 : Int32) = 3 by decide), if_neg (show ¬ (11 : Int32) = 4 by decide), if_neg (show ¬ (11 : Int32) = 5 by decide), if_neg (show ¬ (11 : Int32) = 6 by decide), if_neg (show ¬ (11 : Int32) = 7 by decide), if_neg (show ¬ (11 : Int32) = 8 by decide), if_neg (show ¬ (11 : Int32) = 9 by decide), if_neg (show ¬ (11 : Int32) = 10 by decide), if_pos rfl]
theorem asks_13 {k : Nat} {x : FSt} {b2 b3 b4 b5 : Int32} : fL_asks k x 13 b2 b3 b4 b5 = (fX7_next k x b2 b3).bind (fun u32 => thr u32 (fun k34 => if k34 = 0 then some (x, (-107)) else if k34 = 2 then some (x, (-108)) else none) (fun r35 => some (x, r35))) := by
  unfold fL_asks
  rw [if_neg (show ¬ (13 : Int32) = 0 by decide), if_neg (show ¬ (13 : Int32) = 1 by decide), if_neg (show ¬ (13 : Int32) = 2 by decide), if_neg (show ¬ (13 : Int32) = 3 by decide), if_neg (show ¬ (13 : Int32) = 4 by decide), if_neg (show ¬ (13 : Int32) = 5 by decide), if_neg (show ¬ (13 : Int32) = 6 by decide), if_neg (show ¬ (13 : Int32) = 7 by decide), if_neg (show ¬ (13 : Int32) = 8 by decide), if_neg (show ¬ (13 : Int32) = 9 by decide), if_neg (show ¬ (13 : Int32) = 10 by decide), if_neg (show ¬ (13 : Int32) = 11 by decide), if_neg (show ¬ (13 : Int32) = 12 by decide), if_pos rfl]
theorem asks_14 {k : Nat} {x : FSt} {b2 b3 b4 b5 : Int32} : fL_asks k x 14 b2 b3 b4 b5 = (fX7_scanned k x b2 b3 b4).bind (fun u27 => thr u27 (fun k29 => if k29 = 0 then some (x, (-107)) else if k29 = 2 then some (x, (-108)) else none) (fun r30 => some (x, r30))) := by
  unfold fL_asks
  rw [if_neg (show ¬ (14 : Int32) = 0 by decide), if_neg (show ¬ (14 : Int32) = 1 by decide), if_neg (show ¬ (14 : Int32) = 2 by decide), if_neg (show ¬ (14 : Int32) = 3 by decide), if_neg (show ¬ (14 : Int32) = 4 by decide), if_neg (show ¬ (14 : Int32) = 5 by decide), if_neg (show ¬ (14 : Int32) = 6 by decide), if_neg (show ¬ (14 : Int32) = 7 by decide), if_neg (show ¬ (14 : Int32) = 8 by decide), if_neg (show ¬ (14 : Int32) = 9 by decide), if_neg (show ¬ (14 : Int32) = 10 by decide), if_neg (show ¬ (14 : Int32) = 11 by decide), if_neg (show ¬ (14 : Int32) = 12 by decide), if_neg (show ¬ (14 : Int32) = 13 by decide)]
/-- the answers of a command: one that may throw -/
def hdA (y : FSt) (r : Int32 ⊕ Nat) : Option (FSt × Int32) := thr r (fun n => if n = 0 then some (y, (-107)) else if n = 2 then some (y, (-108)) else none) (fun v => some (y, v))
def hdB (y : FSt) (r : Int32 ⊕ Nat) : Option (FSt × Int32) := thr r (fun n => if n = 0 then some (y, (-107)) else if n = 2 then some (y, (-108)) else none) (fun v => if v = 0 then some (y, 0) else some (y, 1))
theorem mkC_th {c : CK} {t now : Int32} (h : thC c now = true) : mkC t c now = c := if_pos h
theorem mkF_th {c : CK} {f : FK} {now : Int32} (h : thC c now = true) : mkF c f now = f := if_pos h
theorem cls_23 {y : FSt} {E : EL} {id k : Nat} {r : RW} (hk : k < 16) (hL : LogC (fLog y) E) (h300 : E.length < 300) (hid : vlId (fV y) = nI id) (hclk : fClk y = wT r) (hy : wY r = nI k) (v : Int32) :
    ∃ lo, fX7_call_23 k y (kcl (wK r)) (nI k) (fst1 r) (wB r) (wC r) v = some (fLog_s y lo, v) ∧ LogC lo (E ++ [(r, id)]) := by
  obtain ⟨a, a1, b, b1, b2⟩ := log_add hL h300 r id
  unfold fX7_call_23
  rw [hy] at a1
  rw [a1, Option.bind_some, keep_r, kyk hk, chk_r, show fLog (fLog_s y a) = a from rfl, show fClk (fLog_s y a) = fClk y from rfl, show fV (fLog_s y a) = fV y from rfl, hclk, hid, b1, Option.bind_some, keep_r]
  exact ⟨b, rfl, b2⟩
theorem dnC_0 {g : Nat} {e : Int32} {c : CK} (h : dnA g e c = 0) : dnC g e c = c := by
  unfold dnA at h
  unfold dnC
  cases he : eno e with
  | none => rfl
  | some j =>
    rw [he] at h
    dsimp only at h ⊢
    have hw : cW c (40 * g + j) = none := Classical.byContradiction (fun q => by rw [if_neg q] at h; exact absurd h (by decide))
    rw [upN_id hw]; rfl
theorem dnA_01 {g : Nat} {e : Int32} {c : CK} : dnA g e c = 0 ∨ dnA g e c = 1 := by
  unfold dnA
  cases eno e with
  | none => exact Or.inl rfl
  | some j =>
    dsimp only
    split
    · exact Or.inl rfl
    · exact Or.inr rfl
theorem mvn_0 {w : WF} {g r ticks now : Nat} (h : mvn w g r ticks now 40 = 0) : mvw w g r ticks now = w := by
  funext i
  unfold mvw
  by_cases e : 40 * g ≤ i ∧ i < 40 * g + 40 ∧ mvq r ticks now (w i) = true
  · exfalso
    obtain ⟨e1, e2, e3⟩ := e
    unfold mvn at h
    have := List.countP_eq_zero.mp h (i - 40 * g) (List.mem_range.mpr (by omega))
    rw [show 40 * g + (i - 40 * g) = i by omega] at this
    exact this e3
  · rw [if_neg e]
section CMD
variable {x : SSt} {t : Nat} {cc : CC} {ff : Nat → FK} {E : EL} {Mf idf : Nat → Nat} {lvi k n lim : Nat} {g : Option (Nat × Nat)}
/-- the end of a call that is written -/
theorem j_commit {r : RW} {y : FSt} (hk : k < 16) (h : JV x t cc ff E Mf idf lvi g) (hr : okR r (cc k)) (hy : wY r = nI k) (ht : wT r = nI t) (hL : E.length < 300)
    (hp : PerR (foc k x) y (opC r (cc k)) (opF r (cc k) (ff k)) (mkB r (cc k))) (v : Int32) :
    ∃ lo, fX7_call_23 k y (kcl (wK r)) (nI k) (fst1 r) (wB r) (wC r) v = some (fLog_s y lo, v) ∧ JZ (unf k x (fLog_s y lo)) t (upN cc k (opC r (cc k))) (upN ff k (opF r (cc k) (ff k))) (E.length + 1) g (lvi + 1) := by
  obtain ⟨⟨h1, h2, h3, h4, h5, h6, h7, h8⟩, hrw⟩ := id h
  have hid : vlId (fV y) = nI (if mkB r (cc k) = true then lvi + 1 else idf k) := by
    rw [hp.2.2.1]
    split
    · show sLvi x + 1 = _; rw [h8, nI_1]
    · exact (h7 k hk).1
  have hclk : fClk y = wT r := by rw [hp.1.2.2.1, ht]; exact h2
  obtain ⟨lo, lo1, lo2⟩ := cls_23 (y := y) (r := r) hk (by rw [hp.1.2.2.2.2.1]; exact h5) hL hid hclk hy v
  obtain ⟨Mf2, hJ⟩ := j_row hk h hr hy ht hp lo2
  refine ⟨lo, lo1, _, Mf2, _, _, by rw [List.length_append]; rfl, ?_, hJ⟩
  split <;> omega
theorem j_call {r : RW} {y : FSt} {v : Int32} (hk : k < 16) (h : JV x t cc ff E Mf idf lvi g) (hr : okR r (cc k)) (hy : wY r = nI k) (ht : wT r = nI t) (hL : E.length < 300)
    (hf : fX7_perform k (foc k x) (kcl (wK r)) (nI k) (fst1 r) (wB r) (wC r) = some (y, v)) (hp : PerR (foc k x) y (opC r (cc k)) (opF r (cc k) (ff k)) (mkB r (cc k))) (hw : kcl (wK r) ≤ 4 ∨ ¬ v ≤ 0) :
    ∃ z, fX7_call k (foc k x) (kcl (wK r)) (nI k) (fst1 r) (wB r) (wC r) = some (z, v) ∧ JZ (unf k x z) t (upN cc k (opC r (cc k))) (upN ff k (opF r (cc k) (ff k))) (E.length + 1) g (lvi + 1) := by
  obtain ⟨lo, c1, c2⟩ := j_commit hk h hr hy ht hL hp v
  refine ⟨_, ?_, c2⟩
  unfold fX7_call
  rw [hf, Option.bind_some, keep_r, keep_r]
  by_cases e : kcl (wK r) ≤ 4
  · rw [if_pos e]; exact c1
  · rw [if_neg e]
    rcases hw with w | w
    · exact absurd w e
    · rw [if_neg w]; exact c1
theorem j_quiet {kd p3 p4 p5 v : Int32} {y : FSt} (hk : k < 16) (h : JV x t cc ff E Mf idf lvi g) (hf : fX7_perform k (foc k x) kd (nI k) p3 p4 p5 = some (y, v)) (hp : PerR (foc k x) y (cc k) (ff k) false) (hw : ¬ kd ≤ 4) (hv : v ≤ 0) :
    fX7_call k (foc k x) kd (nI k) p3 p4 p5 = some (y, v) ∧ JZ (unf k x y) t cc ff E.length g (lvi + 1) := by
  refine ⟨?_, E, Mf, idf, lvi, rfl, Nat.le_succ _, j_none hk h hp⟩
  unfold fX7_call
  rw [hf, Option.bind_some, keep_r, keep_r, if_neg hw, if_pos hv]
/-- a command that is a row; one that does nothing -/
def AW (x : SSt) (k t : Nat) (cc : CC) (ff : Nat → FK) (n : Nat) (g : Option (Nat × Nat)) (lim : Nat) (o : Option (FSt × Int32)) (a : Int32) (r : RW) : Prop := okR r (cc k) ∧ wT r = nI t ∧ ∃ y, o = some (y, a) ∧ JZ (unf k x y) t (upN cc k (opC r (cc k))) (upN ff k (opF r (cc k) (ff k))) (n + 1) g (lim + 1)
def AN (x : SSt) (k t : Nat) (cc : CC) (ff : Nat → FK) (n : Nat) (g : Option (Nat × Nat)) (lim : Nat) (o : Option (FSt × Int32)) (a : Int32) : Prop := ∃ y, o = some (y, a) ∧ JZ (unf k x y) t cc ff n g (lim + 1)
theorem an_foc {o : Option (FSt × Int32)} {a : Int32} (h : JZ x t cc ff n g lim) (ho : o = some (foc k x, a)) : AN x k t cc ff n g lim o a := ⟨_, ho, by rw [unf_foc]; exact h.mono (Nat.le_succ _)⟩
theorem szN_1 {c : CK} {now : Int32} {m : Nat} : szN c now + 1 ≤ m + 1 ↔ szN c now ≤ m := by omega
theorem psh_len {a b now : Int32} {c : CK} : (cL (pshC a b now c)).length = szN c now + 1 := by
  unfold pshC szN
  show ((cL (mkC 1 c now)).insertIdx _ (a, 0)).length = _
  have e : (cL (mkC 1 c now)).length = if thC c now = true then (cL c).length else 0 := by
    unfold mkC
    split <;> rfl
  rw [← e]
  rw [List.length_insertIdx, if_pos (by split <;> omega)]
theorem app_len {a now : Int32} {c : CK} : (cL (appC a now c)).length = szN c now + 1 := by
  unfold appC szN
  show (cL (mkC 4 c now) ++ [(a, 0)]).length = _
  have e : (cL (mkC 4 c now)).length = if thC c now = true then (cL c).length else 0 := by
    unfold mkC
    split <;> rfl
  rw [← e, List.length_append]; rfl
/-- push -/
theorem a_push (hk : k < 16) (h : JZ x t cc ff n g lim) {v e i : Int32} (hv : isV v) (hA : tyN (cc k) (nI t) = 0 ∨ tyN (cc k) (nI t) = 1) (hR : thC (cc k) (nI t) = true → (cL (cc k)).length < 40) (hL : n < 300) :
    AW x k t cc ff n g lim (fL_asks k (foc k x) 0 (nI k) v e i) (nI (szN (cc k) (nI t) + 1)) (1, nI k, v, if e ≤ 0 then 0 else 1, 0, nI t) := by
  obtain ⟨E, Mf, idf, lvi, rfl, hl, hJ⟩ := h
  obtain ⟨⟨h1, h2, h3, h4, h5, h6, h7, h8⟩, hrw⟩ := id hJ
  have hfc : fClk (foc k x) = nI t := h2
  obtain ⟨hfV, b3, b4, b5⟩ := h4 k hk
  have hfV : VR (fV (foc k x)) (cc k) (ff k) := hfV
  have hA2 := tyN_or hA
  obtain ⟨b, hb⟩ : ∃ b : Int32, b = if e ≤ 0 then 0 else 1 := ⟨_, rfl⟩
  have hbb : bit b := by rw [hb]; split; exact Or.inl rfl; exact Or.inr rfl
  rw [← hb]
  have hr : okR (1, nI k, v, b, 0, nI t) (cc k) := ⟨⟨k, hk, rfl⟩, ⟨t, by omega, rfl⟩, Or.inl ⟨rfl, hv, hbb, rfl, fun q => ⟨hA2 q, hR q⟩⟩⟩
  obtain ⟨y, y1, y2⟩ := cls_push (x := foc k x) (a := v) (b := b) hk hfV 0 hbb (by rw [hfc]; exact fun q => ⟨hA2 q, hR q⟩)
  rw [hfc] at y1 y2
  have hmk : mkB (1, nI k, v, b, 0, nI t) (cc k) = !thC (cc k) (nI t) := mkB_t (Or.inl rfl)
  rw [← hmk] at y2
  obtain ⟨z, z1, z2⟩ := j_call (r := (1, nI k, v, b, 0, nI t)) hk hJ hr rfl rfl hL y1 y2 (Or.inl (show (1 : Int32) ≤ 4 by decide))
  refine ⟨hr, rfl, z, ?_, z2.mono (by omega)⟩
  rw [psh_len] at z1
  have z1 : fX7_call k (foc k x) 1 (nI k) v b 0 = some (z, nI (szN (cc k) (nI t) + 1)) := z1
  have hp : ∀ q : Int32, q = b → fL_asks_17 k (foc k x) q v (nI k) = some (z, nI (szN (cc k) (nI t) + 1)) := fun q hq => by
    unfold fL_asks_17 fX7_push
    rw [key_ok hk, Option.bind_some, thrL, val_in hv, Option.bind_some, thrL, c_ta_y hk hfV (by rw [hfc]; exact hA), Option.bind_some, thrL, c_room_y hk hfV (by rw [hfc]; exact hR), Option.bind_some, thrL, c_row_y (F := foc k x) h5 hL, Option.bind_some, thrL]
    rcases hbb with w | w
    · rw [hq, w, if_pos rfl]
      unfold fX7_push_36
      rw [w] at z1
      rw [z1, Option.bind_some, keep_r]; rfl
    · rw [hq, w, if_neg one_ne0]
      unfold fX7_push_36
      rw [w] at z1
      rw [z1, Option.bind_some, keep_r]; rfl
  rw [asks_0]
  split
  · rename_i q; rw [if_pos q] at hb; exact hp 0 hb.symm
  · rename_i q; rw [if_neg q] at hb; exact hp 1 hb.symm
theorem n_push (hk : k < 16) (h : JZ x t cc ff n g lim) {v e i : Int32} (hv : isV v) (hn : ¬ ((tyN (cc k) (nI t) = 0 ∨ tyN (cc k) (nI t) = 1) ∧ (thC (cc k) (nI t) = true → (cL (cc k)).length < 40) ∧ n < 300)) :
    AN x k t cc ff n g lim (fL_asks k (foc k x) 0 (nI k) v e i) (-108) := by
  refine an_foc h ?_
  obtain ⟨E, Mf, idf, lvi, rfl, hl, hJ⟩ := h
  obtain ⟨⟨h1, h2, h3, h4, h5, h6, h7, h8⟩, hrw⟩ := id hJ
  have hfc : fClk (foc k x) = nI t := h2
  obtain ⟨hfV, b3, b4, b5⟩ := h4 k hk
  have hfV : VR (fV (foc k x)) (cc k) (ff k) := hfV
  have hp : ∀ q : Int32, fL_asks_17 k (foc k x) q v (nI k) = some (foc k x, -108) := fun q => by
    unfold fL_asks_17 fX7_push
    rw [key_ok hk, Option.bind_some, thrL, val_in hv, Option.bind_some, thrL]
    by_cases hA : tyN (cc k) (nI t) = 0 ∨ tyN (cc k) (nI t) = 1
    · rw [c_ta_y hk hfV (by rw [hfc]; exact hA), Option.bind_some, thrL]
      by_cases hR : thC (cc k) (nI t) = true → (cL (cc k)).length < 40
      · rw [c_room_y hk hfV (by rw [hfc]; exact hR), Option.bind_some, thrL, c_row_n (F := foc k x) h5 (fun q => hn ⟨hA, hR, q⟩), Option.bind_some, thrR]; rfl
      · rw [c_room_n hk hfV b3 (by rw [hfc]; exact hR), Option.bind_some, thrR]; rfl
    · rw [c_ta_n hk hfV (by rw [hfc]; exact hA), Option.bind_some, thrR]; rfl
  rw [asks_0]
  split
  · exact hp 0
  · exact hp 1
/-- pop -/
theorem a_pop (hk : k < 16) (h : JZ x t cc ff n g lim) {b e i : Int32} (hA : tyN (cc k) (nI t) = 1) (hL : n < 300) :
    ∃ v : Int32, isV v ∧ AW x k t cc ff n g lim (fL_asks k (foc k x) 1 (nI k) b e i) v (2, nI k, if b ≤ 0 then 0 else 1, 0, 0, nI t) := by
  obtain ⟨E, Mf, idf, lvi, rfl, hl, hJ⟩ := h
  obtain ⟨⟨h1, h2, h3, h4, h5, h6, h7, h8⟩, hrw⟩ := id hJ
  have hfc : fClk (foc k x) = nI t := h2
  obtain ⟨hfV, b3, b4, b5⟩ := h4 k hk
  have hfV : VR (fV (foc k x)) (cc k) (ff k) := hfV
  obtain ⟨q1, q2⟩ := tyN_is (by decide) hA
  obtain ⟨c, hc⟩ : ∃ c : Int32, c = if b ≤ 0 then 0 else 1 := ⟨_, rfl⟩
  have hbb : bit c := by rw [hc]; split; exact Or.inl rfl; exact Or.inr rfl
  rw [← hc]
  have hok := ok_T b3 (thC_T q1)
  have h0 : 0 < (cL (cc k)).length := hok.2.2.2.1 (by rw [q2]; decide)
  have hi := popI_lt (a := c) h0
  have hr : okR (2, nI k, c, 0, 0, nI t) (cc k) := ⟨⟨k, hk, rfl⟩, ⟨t, by omega, rfl⟩, Or.inr (Or.inl ⟨rfl, hbb, rfl, rfl, q1, q2⟩)⟩
  obtain ⟨y, y1, y2⟩ := cls_pop (x := foc k x) hk hfV 0 0 hbb q2 h0 hi
  have hmk : mkB (2, nI k, c, 0, 0, nI t) (cc k) = false := mkB_f (Or.inl rfl)
  have hof : opF (2, nI k, c, 0, 0, nI t) (cc k) (ff k) = ff k := opF_o (Or.inl rfl)
  obtain ⟨z, z1, z2⟩ := j_call (r := (2, nI k, c, 0, 0, nI t)) hk hJ hr rfl rfl hL y1 (by rw [hmk, hof]; exact y2) (Or.inl (show (2 : Int32) ≤ 4 by decide))
  refine ⟨_, hok.2.2.2.2.1 _ (List.getElem_mem hi), hr, rfl, z, ?_, z2.mono (by omega)⟩
  have z1 : fX7_call k (foc k x) 2 (nI k) c 0 0 = some (z, (cL (cc k))[popI c (cc k)].1) := z1
  have hp : ∀ q : Int32, q = c → fL_asks_39 k (foc k x) q (nI k) = some (z, (cL (cc k))[popI c (cc k)].1) := fun q hq => by
    unfold fL_asks_39 fX7_pop
    rw [key_ok hk, Option.bind_some, thrL, c_ty_y hk hfV (by rw [hfc]; exact hA), Option.bind_some, thrL, c_row_y (F := foc k x) h5 hL, Option.bind_some, thrL]
    unfold fX7_pop_26
    rcases hbb with w | w
    · rw [hq, if_pos w]
      have e9 : fX7_call k (foc k x) 2 (nI k) 0 0 0 = some (z, (cL (cc k))[popI c (cc k)].1) := by rw [← z1, w]
      rw [e9, Option.bind_some, keep_r]; rfl
    · rw [hq, if_neg (by rw [w]; decide)]
      have e9 : fX7_call k (foc k x) 2 (nI k) 1 0 0 = some (z, (cL (cc k))[popI c (cc k)].1) := by rw [← z1, w]
      rw [e9, Option.bind_some, keep_r]; rfl
  rw [asks_1]
  split
  · rename_i q; rw [if_pos q] at hc; exact hp 0 hc.symm
  · rename_i q; rw [if_neg q] at hc; exact hp 1 hc.symm
theorem n_pop (hk : k < 16) (h : JZ x t cc ff n g lim) {b e i : Int32} (hn : ¬ (tyN (cc k) (nI t) = 1 ∧ n < 300)) : AN x k t cc ff n g lim (fL_asks k (foc k x) 1 (nI k) b e i) (-108) := by
  refine an_foc h ?_
  obtain ⟨E, Mf, idf, lvi, rfl, hl, hJ⟩ := h
  obtain ⟨⟨h1, h2, h3, h4, h5, h6, h7, h8⟩, hrw⟩ := id hJ
  have hfc : fClk (foc k x) = nI t := h2
  obtain ⟨hfV, b3, b4, b5⟩ := h4 k hk
  have hfV : VR (fV (foc k x)) (cc k) (ff k) := hfV
  have hp : ∀ q : Int32, fL_asks_39 k (foc k x) q (nI k) = some (foc k x, -108) := fun q => by
    unfold fL_asks_39 fX7_pop
    rw [key_ok hk, Option.bind_some, thrL]
    by_cases hA : tyN (cc k) (nI t) = 1
    · rw [c_ty_y hk hfV (by rw [hfc]; exact hA), Option.bind_some, thrL, c_row_n (F := foc k x) h5 (fun q => hn ⟨hA, q⟩), Option.bind_some, thrR]; rfl
    · rw [c_ty_n hk hfV (by rw [hfc]; exact hA), Option.bind_some, thrR]; rfl
  rw [asks_1]
  split
  · exact hp 0
  · exact hp 1
/-- add, rate: room but for a member -/
theorem room_v {k : Nat} {F : FSt} {c : CK} {f : FK} (hk : k < 16) (h : VR (fV F) c f) (hc : okCK c) {v : Int32} (hv : isV v) {α : Type} (A : Option (FSt × (α ⊕ Nat))) (hR : thC c (fClk F) = true → (cL c).length < 40 ∨ fnd (cL c) v = true) :
    (fX7_placeIn k F (nI k) v).bind (fun u => if u = -1 then (fX7_needRoom k F (nI k)).bind (fun u28 => thr u28 (fun k30 => some (F, .inr k30)) (fun _ => A)) else A) = A := by
  rw [c_place hk h hv, Option.bind_some]
  by_cases e : thC c (fClk F) = true
  · rw [if_pos e]
    have h40 := (ok_T hc (thC_T e)).2.2.1
    cases hf : fnd (cL c) v with
    | false =>
      rw [plc_not hf, if_pos rfl, c_room_y hk h (fun q => by rcases hR q with w | w; exact w; rw [hf] at w; cases w), Option.bind_some, thrL]
    | true =>
      have hi := fnd_lt hf
      rw [plc_fnd hf, if_neg (fun q => by rw [nI_nm1 (by omega)] at q; exact q)]
  · rw [if_neg e, if_pos rfl, c_room_y hk h (fun q => absurd q e), Option.bind_some, thrL]
theorem room_x {k : Nat} {F : FSt} {c : CK} {f : FK} (hk : k < 16) (h : VR (fV F) c f) (hc : okCK c) {v : Int32} (hv : isV v) {α : Type} (A : Option (FSt × (α ⊕ Nat))) (hR : ¬ (thC c (fClk F) = true → (cL c).length < 40 ∨ fnd (cL c) v = true)) :
    (fX7_placeIn k F (nI k) v).bind (fun u => if u = -1 then (fX7_needRoom k F (nI k)).bind (fun u28 => thr u28 (fun k30 => some (F, .inr k30)) (fun _ => A)) else A) = some (F, .inr 2) := by
  obtain ⟨e, w⟩ := Classical.not_imp.mp hR
  have hf : fnd (cL c) v = false := by
    cases q : fnd (cL c) v with
    | false => rfl
    | true => exact absurd (Or.inr q) w
  rw [c_place hk h hv, Option.bind_some, if_pos e, plc_not hf, if_pos rfl, c_room_n hk h hc (fun q => w (Or.inl (q e))), Option.bind_some, thrR]
theorem a_add (hk : k < 16) (h : JZ x t cc ff n g lim) {v e i : Int32} (hv : isV v) (hA : tyN (cc k) (nI t) = 0 ∨ tyN (cc k) (nI t) = 2) (hR : thC (cc k) (nI t) = true → (cL (cc k)).length < 40 ∨ fnd (cL (cc k)) v = true) (hL : n < 300) :
    (thC (cc k) (nI t) = true ∧ fnd (cL (cc k)) v = true ∧ AN x k t cc ff n g lim (fL_asks k (foc k x) 2 (nI k) v e i) 0) ∨ (¬ (thC (cc k) (nI t) = true ∧ fnd (cL (cc k)) v = true) ∧ AW x k t cc ff n g lim (fL_asks k (foc k x) 2 (nI k) v e i) 1 (3, nI k, v, 0, 0, nI t)) := by
  obtain ⟨E, Mf, idf, lvi, rfl, hl, hJ⟩ := h
  obtain ⟨⟨h1, h2, h3, h4, h5, h6, h7, h8⟩, hrw⟩ := id hJ
  have hfc : fClk (foc k x) = nI t := h2
  obtain ⟨hfV, b3, b4, b5⟩ := h4 k hk
  have hfV : VR (fV (foc k x)) (cc k) (ff k) := hfV
  have hA2 := tyN_or hA
  have hr : okR (3, nI k, v, 0, 0, nI t) (cc k) := ⟨⟨k, hk, rfl⟩, ⟨t, by omega, rfl⟩, Or.inr (Or.inr (Or.inl ⟨rfl, hv, rfl, rfl, fun q => ⟨hA2 q, hR q⟩⟩))⟩
  obtain ⟨y, y1, y2⟩ := cls_add (x := foc k x) hk hfV b3 0 0 hv (by rw [hfc]; exact fun q => ⟨hA2 q, hR q⟩)
  rw [hfc] at y1 y2
  have hmk : mkB (3, nI k, v, 0, 0, nI t) (cc k) = !thC (cc k) (nI t) := mkB_t (Or.inr (Or.inl rfl))
  have hasks : ∀ (z : FSt) (u : Int32), fX7_call k (foc k x) 5 (nI k) v 0 0 = some (z, u) → fL_asks k (foc k x) 2 (nI k) v e i = some (z, if u ≤ 0 then 0 else 1) := fun z u hz => by
    rw [asks_2]
    unfold fX7_add
    rw [key_ok hk, Option.bind_some, thrL, val_in hv, Option.bind_some, thrL, c_ta_y hk hfV (by rw [hfc]; exact hA), Option.bind_some, thrL, room_v hk hfV b3 hv _ (by rw [hfc]; exact hR)]
    unfold fX7_add_29
    rw [c_row_y (F := foc k x) h5 hL, Option.bind_some, thrL, hz, Option.bind_some, keep_r]
    by_cases q : u ≤ 0
    · rw [if_pos q, if_pos q]; rfl
    · rw [if_neg q, if_neg q]; rfl
  by_cases hF : fnd (cL (mkC 2 (cc k) (nI t))) v = true
  · have hth : thC (cc k) (nI t) = true := by
      rcases mkC_fnd (t := 2) (now := nI t) (a := v) (c := cc k) with q | q
      · rw [hF] at q; cases q
      · exact q
    have hfn : fnd (cL (cc k)) v = true := by rw [mkC_th hth] at hF; exact hF
    refine Or.inl ⟨hth, hfn, ?_⟩
    rw [if_pos hF] at y1
    have ec : addC v (nI t) (cc k) = cc k := by unfold addC; rw [if_pos hF, mkC_th hth]
    have ef : addF v (nI t) (cc k) (ff k) = ff k := by unfold addF; rw [if_pos hF, mkF_th hth]
    rw [ec, ef, hth] at y2
    obtain ⟨c1, c2⟩ := j_quiet hk hJ y1 y2 (by decide) (by decide)
    exact ⟨y, hasks y 0 c1, c2.mono (by omega)⟩
  · refine Or.inr ⟨fun w => hF (by rw [mkC_th w.1]; exact w.2), hr, rfl, ?_⟩
    rw [if_neg hF] at y1
    rw [← hmk] at y2
    have hp : ¬ nI (cL (addC v (nI t) (cc k))).length ≤ 0 := by
      have hl2 : (cL (addC v (nI t) (cc k))).length = (cL (mkC 2 (cc k) (nI t))).length + 1 := by
        unfold addC
        rw [if_neg hF]
        exact sins_len
      have := (ok_T (okCK_op b3 hr) (by
        show cT (opC (3, nI k, v, 0, 0, nI t) (cc k)) ≠ 0
        rw [opC_3 rfl]
        show cT (addC v (nI t) (cc k)) ≠ 0
        unfold addC
        rw [if_neg hF]
        show cT (mkC 2 (cc k) (nI t)) ≠ 0
        rw [mkC_T hA2]; decide)).2.2.1
      rw [opC_3 rfl] at this
      have this : (cL (addC v (nI t) (cc k))).length ≤ 40 := this
      exact nI_nle (by omega) (by omega)
    obtain ⟨z, z1, z2⟩ := j_call (r := (3, nI k, v, 0, 0, nI t)) hk hJ hr rfl rfl hL y1 y2 (Or.inr hp)
    refine ⟨z, ?_, z2.mono (by omega)⟩
    rw [hasks z _ z1, if_neg hp]
theorem n_add (hk : k < 16) (h : JZ x t cc ff n g lim) {v e i : Int32} (hv : isV v) (hn : ¬ ((tyN (cc k) (nI t) = 0 ∨ tyN (cc k) (nI t) = 2) ∧ (thC (cc k) (nI t) = true → (cL (cc k)).length < 40 ∨ fnd (cL (cc k)) v = true) ∧ n < 300)) :
    AN x k t cc ff n g lim (fL_asks k (foc k x) 2 (nI k) v e i) (-108) := by
  refine an_foc h ?_
  obtain ⟨E, Mf, idf, lvi, rfl, hl, hJ⟩ := h
  obtain ⟨⟨h1, h2, h3, h4, h5, h6, h7, h8⟩, hrw⟩ := id hJ
  have hfc : fClk (foc k x) = nI t := h2
  obtain ⟨hfV, b3, b4, b5⟩ := h4 k hk
  have hfV : VR (fV (foc k x)) (cc k) (ff k) := hfV
  rw [asks_2]
  unfold fX7_add
  rw [key_ok hk, Option.bind_some, thrL, val_in hv, Option.bind_some, thrL]
  by_cases hA : tyN (cc k) (nI t) = 0 ∨ tyN (cc k) (nI t) = 2
  · rw [c_ta_y hk hfV (by rw [hfc]; exact hA), Option.bind_some, thrL]
    by_cases hR : thC (cc k) (nI t) = true → (cL (cc k)).length < 40 ∨ fnd (cL (cc k)) v = true
    · rw [room_v hk hfV b3 hv _ (by rw [hfc]; exact hR)]
      unfold fX7_add_29
      rw [c_row_n (F := foc k x) h5 (fun q => hn ⟨hA, hR, q⟩), Option.bind_some, thrR]; rfl
    · rw [room_x hk hfV b3 hv _ (by rw [hfc]; exact hR)]; rfl
  · rw [c_ta_n hk hfV (by rw [hfc]; exact hA), Option.bind_some, thrR]; rfl
end CMD

/-! the reference: rates, appends, groups -/
theorem ahd_iff {a b : Int32 × Int32} : ahd a b = true ↔ ris a.2 < ris b.2 ∨ (ris a.2 = ris b.2 ∧ a.1 < b.1) := by
  unfold ahd
  simp only [Bool.or_eq_true, Bool.and_eq_true, decide_eq_true_eq]
theorem ahd_trans {a b c : Int32 × Int32} (h : ahd a b = true) (g : ahd b c = true) : ahd a c = true := by
  rw [ahd_iff] at h g ⊢
  rcases h with h | ⟨h, h2⟩
  · rcases g with g | ⟨g, g2⟩
    · exact Or.inl (Int32.lt_trans h g)
    · rw [← g]; exact Or.inl h
  · rcases g with g | ⟨g, g2⟩
    · rw [h]; exact Or.inl g
    · exact Or.inr ⟨h.trans g, Int32.lt_trans h2 g2⟩
theorem cnt_rnk {q : Int32 × Int32} : ∀ {L : LL}, L.Pairwise (fun a b => ahd a b = true) → L.countP (fun p => ahd p q) = rnk L q := by
  intro L
  induction L with
  | nil => intro _; rfl
  | cons a t ih =>
    intro h
    obtain ⟨h1, h2⟩ := List.pairwise_cons.mp h
    unfold rnk at ih ⊢
    rw [List.findIdx_cons, List.countP_cons]
    by_cases e : ahd a q = true
    · rw [ih h2, e]; simp
    · have e' : ahd a q = false := by simpa using e
      rw [e', List.countP_eq_zero.mpr (fun b hb w => e (ahd_trans (h1 b hb) w))]; simp
theorem srt_rat {a : Int32} {L : LL} (h : SrtL L) : SrtL (ratL a L) := by
  unfold ratL
  split
  · have hs := List.eraseIdx_sublist L (fi L a)
    exact ⟨fun q hq => h.1 q (hs.subset hq), h.2.1.sublist hs, h.2.2.sublist hs⟩
  · exact h
theorem mkC_srt {c : CK} {now : Int32} (hc : okCK c) (ht : thC c now = true → cT c = 3) : SrtL (cL (mkC 3 c now)) := by
  refine mkC_L (P := SrtL) (fun q => ?_) ⟨fun q hq => (nomatch hq), List.Pairwise.nil, List.Pairwise.nil⟩
  rcases hc with h | h
  · exact absurd h (thC_T q)
  · exact h.2.2.2.2.2.2.1 (ht q)
theorem ris_eq (b : Int32) : fX8_rising b = some (ris b) := by
  unfold fX8_rising ris
  split <;> rfl
theorem cntT {α : Type} {L : List α} {p : α → Bool} {i : Nat} (hi : i < L.length) : (L.take (i + 1)).countP p = (L.take i).countP p + if p L[i] = true then 1 else 0 := by
  rw [List.take_succ_eq_append_getElem hi, List.countP_append, List.countP_cons, List.countP_nil, Nat.zero_add]
theorem mod_rates {m : MSt} {k : Nat} {c : CK} {f : FK} (hk : k < 16) (h : MR m k c f) (hc : okCK c) {a b : Int32} (hok : thC c (mNow m) = true → cT c = 3 ∧ ((cL c).length < 40 ∨ fnd (cL c) a = true)) :
    ∃ y, fX8_rates m (nI k) a b = some (y, nI (ratI a b (mNow m) c)) ∧ MoP k m y (ratC a b (mNow m) c) (ratF a (mNow m) c f) (!thC c (mNow m)) := by
  obtain ⟨y, y1, y2, y3, y4⟩ := mod_makes hk h (t := 3) (by decide)
  have hT := mkC_T (t := 3) (fun q => (hok q).1)
  have hl : (cL (mkC 3 c (mNow m))).length < 40 ∨ fnd (cL (mkC 3 c (mNow m))) a = true := mkC_L (P := fun L => L.length < 40 ∨ fnd L a = true) (fun q => (hok q).2) (Or.inl (by decide))
  have hS := srt_rat (a := a) (mkC_srt (now := mNow m) hc (fun q => (hok q).1))
  have h0 : cT (mkC 3 c (mNow m)) ≠ 0 := by rw [hT]; decide
  have hML := y3.ml h0
  have h40 := hML.2.1
  unfold fX8_rates ratC ratF ratI
  rw [y1, Option.bind_some, keep_r, mod_find hk hML, Option.bind_some]
  generalize mkC 3 c (mNow m) = c1 at *
  generalize mkF c f (mNow m) = f1 at *
  have hll : (ratL a (cL c1)).length < 40 := by
    rw [ratL_len]
    split
    · have := fnd_lt (by assumption); omega
    · rcases hl with q | q
      · exact q
      · exact absurd q (by assumption)
  -- behind the drop: a reference x with the rest of the list
  have loop : ∀ x, Put k y x → ML x k (ratL a (cL c1)) → ∃ z, iterK FU (fX8_rates_34 x (nI k) a b) (0, 0) = some (z, nI (rnk (ratL a (cL c1)) (a, b))) ∧ MoP k m z (setL c1 ((ratL a (cL c1)).insertIdx (rnk (ratL a (cL c1)) (a, b)) (a, b))) (if 6 < (ratL a (cL c1)).length + 1 then 2 else f1.1, f1.2) (!thC c (mNow m)) := fun x hx hxL => by
    generalize hL1 : ratL a (cL c1) = L1 at *
    have hlen : (L1.insertIdx (rnk L1 (a, b)) (a, b)).length = L1.length + 1 := by rw [List.length_insertIdx, if_pos rnk_le]
    obtain ⟨z, z1, z2, z3⟩ := mod_putsIn hk hxL rnk_le hll a b
    have hput : Put k y z := by
      obtain ⟨V1, B1, S1, rfl, p1, p2⟩ := hx
      obtain ⟨V2, B2, S2, rfl, q1, q2⟩ := z3
      exact ⟨V2, B2, S2, rfl, fun q hq => ⟨(q1 q hq).1.trans (p1 q hq).1, (q1 q hq).2.trans (p1 q hq).2⟩, fun j hj => (q2 j hj).trans (p2 j hj)⟩
    have big : ∀ g : Int32, ∃ w, fX8_rates_151 z (nI (rnk L1 (a, b))) g (nI k) = some (w, nI (rnk L1 (a, b))) ∧ MoP k m w (setL c1 (L1.insertIdx (rnk L1 (a, b)) (a, b))) (if g = 0 then f1.1 else 2, f1.2) (!thC c (mNow m)) := fun g => by
      obtain ⟨w1, w2, w3, w4⟩ := mr_put y3 h0 hput z2 (if g = 0 then mForm z k else 2)
      unfold fX8_rates_151
      rw [mod_grows hk, Option.bind_some, keep_r]
      rw [w4] at w1 w2 w3 ⊢
      exact ⟨_, rfl, y2.trans w2, w1, w3.trans (y4.trans not_mk)⟩
    have key : Ok (iterK FU (fX8_rates_34 x (nI k) a b) (0, 0)) (fun w => w.2 = nI (rnk L1 (a, b)) ∧ MoP k m w.1 (setL c1 (L1.insertIdx (rnk L1 (a, b)) (a, b))) (if 6 < L1.length + 1 then 2 else f1.1, f1.2) (!thC c (mNow m))) := by
      refine ok_iter (fun n s => ∃ i, n = L1.length - i ∧ i ≤ L1.length ∧ s = (nI ((L1.take i).countP (fun p => ahd p (a, b))), nI i)) _ ?_ FU L1.length _ ⟨0, rfl, Nat.zero_le _, rfl⟩ (by unfold FU; omega)
      rintro n s rec ⟨i, hn, hi, rfl⟩ hrec
      unfold fX8_rates_34
      dsimp only
      rw [inb_nI hk (by omega), chk_r, nI_clamp (show k < 2 ^ 31 by omega), hxL.1, at40]
      by_cases e1 : L1.length ≤ i
      · have : i = L1.length := by omega
        subst this
        rw [if_pos (nI_le e1 (by omega)), List.take_length, cnt_rnk hS.2.1, z1, Option.bind_some, keep_r, chk_r, z2.1, hlen, d6]
        by_cases e2 : 6 < L1.length + 1
        · rw [if_neg (nI_ge e2 (by omega)), if_pos e2]
          obtain ⟨w, w1, w2⟩ := big 1
          rw [if_neg (by decide)] at w2
          exact ⟨_, w1, rfl, w2⟩
        · rw [if_pos (nI_le (by omega) (by omega)), if_neg e2]
          obtain ⟨w, w1, w2⟩ := big 0
          rw [if_pos rfl] at w2
          exact ⟨_, w1, rfl, w2⟩
      · have hil : i < L1.length := by omega
        have hin : inb (nI (40 * k + i)) 640 = true := inb_nI (by omega) (by omega)
        rw [if_neg (nI_ge (by omega) (by omega)), hin, chk_r, nI_clamp (by omega), (hxL.e hil).1, (hxL.e hil).2, ris_eq, Option.bind_some, ris_eq, Option.bind_some, Option.bind_some, chk_r]
        have hx1 := cntT (p := fun p => ahd p (a, b)) hil
        have yes : ahd L1[i] (a, b) = true → Ok (fX8_rates_96 rec x (nI k) a b (nI ((L1.take i).countP (fun p => ahd p (a, b)))) (nI i)) (fun w => w.2 = nI (rnk L1 (a, b)) ∧ MoP k m w.1 (setL c1 (L1.insertIdx (rnk L1 (a, b)) (a, b))) (if 6 < L1.length + 1 then 2 else f1.1, f1.2) (!thC c (mNow m))) := fun q => by
          unfold fX8_rates_96 fX8_rates_101
          rw [if_neg (by decide), ok_keep, ok_keep, nI_1, nI_1]
          refine hrec (L1.length - (i + 1)) _ (by omega) ⟨i + 1, rfl, by omega, ?_⟩
          rw [hx1, if_pos q]
        have no : ¬ ahd L1[i] (a, b) = true → Ok (fX8_rates_100 rec x (nI k) a b (nI ((L1.take i).countP (fun p => ahd p (a, b)))) (nI i)) (fun w => w.2 = nI (rnk L1 (a, b)) ∧ MoP k m w.1 (setL c1 (L1.insertIdx (rnk L1 (a, b)) (a, b))) (if 6 < L1.length + 1 then 2 else f1.1, f1.2) (!thC c (mNow m))) := fun q => by
          unfold fX8_rates_100 fX8_rates_101
          rw [if_pos rfl, ok_keep, ok_keep, nI_1, show (0 : Int32) = nI 0 from rfl, nI_add]
          refine hrec (L1.length - (i + 1)) _ (by omega) ⟨i + 1, rfl, by omega, ?_⟩
          rw [hx1, if_neg q]
        by_cases g1 : ris L1[i].2 < ris b
        · rw [if_pos g1]
          exact yes (ahd_iff.mpr (Or.inl g1))
        · rw [if_neg g1]
          by_cases g2 : ris L1[i].2 = ris b
          · rw [if_pos g2]
            by_cases g3 : a ≤ L1[i].1
            · rw [if_pos g3]
              refine no (fun q => ?_)
              rcases ahd_iff.mp q with q | ⟨-, q⟩
              · exact g1 q
              · exact absurd g3 (i32_nle.mpr q)
            · rw [if_neg g3]
              exact yes (ahd_iff.mpr (Or.inr ⟨g2, i32_nle.mp g3⟩))
          · rw [if_neg g2]
            refine no (fun q => ?_)
            rcases ahd_iff.mp q with q | ⟨q, -⟩
            · exact g1 q
            · exact g2 q
    obtain ⟨⟨w, u⟩, k1, k2, k3⟩ := key
    dsimp only at k2 k3
    subst k2
    exact ⟨w, k1, k3⟩
  by_cases e : fnd (cL c1) a = true
  · obtain ⟨z, z1, z2, z3⟩ := mod_takesOut hk hML (fnd_lt e)
    rw [plc_fnd e, if_neg (by rw [nI_nm1 (by have := fnd_lt e; omega)]; exact id), z1, Option.bind_some, keep_r]
    exact loop z z3 (by unfold ratL; rw [if_pos e]; exact z2)
  · have e' : fnd (cL c1) a = false := by simpa using e
    rw [plc_not e', if_pos rfl]
    exact loop y ⟨mValues y, mBits y, mSize y, rfl, fun _ _ => ⟨rfl, rfl⟩, fun _ _ => rfl⟩ (by unfold ratL; rw [if_neg e]; exact hML)
theorem mod_appends {m : MSt} {k : Nat} {c : CK} {f : FK} (hk : k < 16) (h : MR m k c f) {a : Int32} (hok : thC c (mNow m) = true → cT c = 4 ∧ (cL c).length < 40) :
    ∃ y, fX8_appends m (nI k) a = some (y, nI (cL (appC a (mNow m) c)).length) ∧ MoP k m y (appC a (mNow m) c) (appF (mNow m) c f) (!thC c (mNow m)) := by
  obtain ⟨y, y1, y2, y3, y4⟩ := mod_makes hk h (t := 4) (by decide)
  have hT := mkC_T (t := 4) (fun q => (hok q).1)
  have hl : (cL (mkC 4 c (mNow m))).length < 40 := mkC_L (P := fun L => L.length < 40) (fun q => (hok q).2) (by decide)
  have h0 : cT (mkC 4 c (mNow m)) ≠ 0 := by rw [hT]; decide
  have hML := y3.ml h0
  unfold fX8_appends appC appF
  rw [y1, Option.bind_some, keep_r, inb_nI hk (by omega), chk_r, nI_clamp (by omega), hML.1]
  generalize mkC 4 c (mNow m) = c1 at *
  generalize mkF c f (mNow m) = f1 at *
  obtain ⟨z, z1, z2, z3⟩ := mod_putsIn hk hML (Nat.le_refl _) hl a 0
  have hi : (cL c1).insertIdx (cL c1).length (a, 0) = cL c1 ++ [(a, 0)] := by
    have := ins_app (a := ((a, 0) : Int32 × Int32)) (l2 := []) (cL c1)
    rwa [List.append_nil] at this
  rw [hi] at z2
  have hlen : (cL c1 ++ [(a, (0 : Int32))]).length = (cL c1).length + 1 := by rw [List.length_append]; rfl
  have fin : ∀ g : Int32, ∃ w, fX8_appends_37 z (nI k) g (nI k) = some (w, nI ((cL c1).length + 1)) ∧ MoP k m w (setL c1 (cL c1 ++ [(a, 0)])) (if g = 0 then f1.1 else 2, f1.2) (!thC c (mNow m)) := fun g => by
    obtain ⟨w1, w2, w3, w4⟩ := mr_put y3 h0 z3 z2 (if g = 0 then mForm z k else 2)
    unfold fX8_appends_37
    rw [mod_grows hk, Option.bind_some, keep_r, inb_nI hk (by omega), chk_r, nI_clamp (by omega), show mSize (mForm_s z (upd (mForm z) k (if g = 0 then mForm z k else 2))) k = mSize z k from rfl, z2.1, hlen]
    rw [w4] at w1 w2 w3 ⊢
    refine ⟨_, rfl, y2.trans w2, w1, w3.trans (y4.trans not_mk)⟩
  rw [z1, Option.bind_some, keep_r, chk_r, z2.1, hlen, d16, show (cL (setL c1 (cL c1 ++ [(a, 0)]))).length = (cL c1).length + 1 from hlen]
  by_cases e1 : 16 < (cL c1).length + 1
  · rw [if_neg (nI_ge e1 (by omega)), if_pos e1]
    have := fin 1
    rwa [if_neg (by decide)] at this
  · rw [if_pos (nI_le (by omega) (by omega)), if_neg e1]
    have := fin 0
    rwa [if_pos rfl] at this

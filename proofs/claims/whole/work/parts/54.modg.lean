/-! the reference: groups -/
theorem spot_eq {k g e : Nat} (he : 0 < e) : fX8_spot (nI k) (nI g) (nI e) = some (nI (120 * k + (40 * g + (e - 1)))) := by
  unfold fX8_spot
  rw [d3, pk_mul, nI_add, d40, pk_mul, nI_add, nI_s1 (by omega)]
  congr 2; omega
theorem mWS_up {o : Option (Nat × Nat)} {a s : Int32} (h : mWS a s o) (hw : ∀ t r, o = some (t, r) → r < 4) : (a ≤ 0 ↔ o = none) ∧ ∀ r, r < 4 → (a = nI (r + 1) ↔ ∃ t, o = some (t, r)) := by
  cases o with
  | none =>
    have h' : a = 0 := h
    subst h'
    refine ⟨⟨fun _ => rfl, fun _ => by decide⟩, fun r hr => ⟨fun q => ?_, fun ⟨t, q⟩ => by cases q⟩⟩
    have := (nI_eq0 (i := r + 1) (by omega)).mp q.symm
    omega
  | some q =>
    obtain ⟨t, r⟩ := q
    have h' : a = nI (r + 1) ∧ s = nI t := h
    have hr := hw t r rfl
    obtain ⟨rfl, rfl⟩ := h'
    refine ⟨⟨fun q => absurd q (nI_nle (by omega) (by omega)), fun q => by cases q⟩, fun r' hr' => ⟨fun q => ?_, fun ⟨t', q⟩ => by cases q; rfl⟩⟩
    have := (nI_eqE (by omega) (by omega)).mp q
    have e : r = r' := by omega
    subst e; exact ⟨t, rfl⟩
theorem mr_grp {m y : MSt} {k : Nat} {c : CK} {f : FK} {pl : Nat → Nat} {w : WF} (h : MR m k c f) (h0 : cT c ≠ 0) (h1 : mType y k = mType m k) (h2 : mEnd y k = mEnd m k) (h3 : mForm y k = mForm m k) (h4 : mBuckets y k = mBuckets m k) (h5 : ML y k (cL c)) (hg : MGp y k pl w) : MR y k (cT c, cE c, cL c, pl, w) f := by
  obtain ⟨g1, g2⟩ := h
  obtain ⟨e1, e2, e3, e4, e5⟩ := g2 h0
  exact ⟨h1.trans g1, fun _ => ⟨h2.trans e1, h3.trans e2, h4.trans e3, h5, fun _ => hg⟩⟩
theorem mod_reads {m : MSt} {k : Nat} {c : CK} {f : FK} {g r now : Nat} (hk : k < 16) (h : MR m k c f) (hc : okCK c) (hg : g < 3) (hr : r < 4) (hT : cT c = 4) (hnow : mNow m = nI now) :
    ∃ y, fX8_reads m (nI k) (nI g) (nI r) = some (y, if cP c g + 1 ≤ (cL c).length then nI (cP c g + 1) else -1) ∧ MoP k m y (rdC g r now c) f false := by
  have hn : cT c ≠ 0 := by rw [hT]; decide
  have hML := h.ml hn
  obtain ⟨hG, h40⟩ := ok_grp hc hT
  obtain ⟨m1, m2⟩ := (h.2 hn).2.2.2.2 hT
  have hpl := hG.2.1 g hg
  have hi3 : inb (nI (3 * k + g)) 48 = true := inb_nI (by omega) (by omega)
  have hc3 : (nI (3 * k + g)).toNatClampNeg = 3 * k + g := nI_clamp (by omega)
  unfold fX8_reads rdC
  rw [keep_r, d3, pk_mul, nI_add, hi3, chk_r, inb_nI hk (by omega), chk_r, hc3, nI_clamp (show k < 2 ^ 31 by omega), hML.1, m1 g hg]
  by_cases e : cP c g + 1 ≤ (cL c).length
  · rw [if_neg (by rw [nI_eqE (by omega) (by omega)]; omega), if_pos e, if_pos e, nI_1]
    obtain ⟨z1, q1⟩ : ∃ z, z = mPlace_s m (upd (mPlace m) (3 * k + g) (nI (cP c g + 1))) := ⟨_, rfl⟩
    rw [← q1]
    have p1 : mPlace z1 (3 * k + g) = nI (cP c g + 1) := by rw [q1]; exact upd_s
    have r1 : Fr k m z1 := by rw [q1]; exact fr_Place _ (fun q hq => upd_o (by unfold in3 at hq; omega))
    have n1 : mNow z1 = nI now := by rw [q1]; exact hnow
    have a1 : mPlace z1 = upd (mPlace m) (3 * k + g) (nI (cP c g + 1)) := by rw [q1]; rfl
    have a2 : mWaits z1 = mWaits m := by rw [q1]; rfl
    have a3 : mSince z1 = mSince m := by rw [q1]; rfl
    have s1 : Sam k m z1 ∨ True := Or.inr trivial
    have t1 : mType z1 k = mType m k ∧ mEnd z1 k = mEnd m k ∧ mForm z1 k = mForm m k ∧ mBuckets z1 k = mBuckets m k ∧ mMadeAt z1 k = mMadeAt m k ∧ mSize z1 = mSize m ∧ mValues z1 = mValues m ∧ mBits z1 = mBits m := by rw [q1]; exact ⟨rfl, rfl, rfl, rfl, rfl, rfl, rfl, rfl⟩
    clear q1 s1
    rw [chk_r, keep_r, chk_r, p1, spot_eq (by omega), Option.bind_some, show cP c g + 1 - 1 = cP c g by omega]
    have hi9 : inb (nI (120 * k + (40 * g + cP c g))) 1920 = true := inb_nI (by omega) (by omega)
    have hc9 : (nI (120 * k + (40 * g + cP c g))).toNatClampNeg = 120 * k + (40 * g + cP c g) := nI_clamp (by omega)
    rw [hi9, chk_r, hc9, nI_1]
    obtain ⟨z2, q2⟩ : ∃ z, z = mWaits_s z1 (upd (mWaits z1) (120 * k + (40 * g + cP c g)) (nI (r + 1))) := ⟨_, rfl⟩
    rw [← q2, keep_r]
    have r2 : Fr k m z2 := by rw [q2]; exact r1.trans (fr_Waits _ (fun q hq => upd_o (by unfold in120 at hq; omega)))
    have n2 : mNow z2 = nI now := by rw [q2]; exact n1
    have b1 : mPlace z2 = upd (mPlace m) (3 * k + g) (nI (cP c g + 1)) := by rw [q2]; exact a1
    have b2 : mWaits z2 = upd (mWaits m) (120 * k + (40 * g + cP c g)) (nI (r + 1)) := by rw [q2, ← a2]; rfl
    have b3 : mSince z2 = mSince m := by rw [q2]; exact a3
    have t2 : mType z2 k = mType m k ∧ mEnd z2 k = mEnd m k ∧ mForm z2 k = mForm m k ∧ mBuckets z2 k = mBuckets m k ∧ mMadeAt z2 k = mMadeAt m k ∧ mSize z2 = mSize m ∧ mValues z2 = mValues m ∧ mBits z2 = mBits m := by rw [q2]; exact t1
    clear q2 a1 a2 a3 t1 n1 r1
    rw [b1, upd_s, chk_r, spot_eq (by omega), Option.bind_some, show cP c g + 1 - 1 = cP c g by omega, hi9, chk_r, hc9, n2]
    obtain ⟨z3, q3⟩ : ∃ z, z = mSince_s z2 (upd (mSince z2) (120 * k + (40 * g + cP c g)) (nI now)) := ⟨_, rfl⟩
    rw [← q3, keep_r]
    have r3 : Fr k m z3 := by rw [q3]; exact r2.trans (fr_Since _ (fun q hq => upd_o (by unfold in120 at hq; omega)))
    have c1 : mPlace z3 = upd (mPlace m) (3 * k + g) (nI (cP c g + 1)) := by rw [q3]; exact b1
    have c2 : mWaits z3 = upd (mWaits m) (120 * k + (40 * g + cP c g)) (nI (r + 1)) := by rw [q3]; exact b2
    have c3 : mSince z3 = upd (mSince m) (120 * k + (40 * g + cP c g)) (nI now) := by rw [q3, ← b3]; rfl
    have t3 : mType z3 k = mType m k ∧ mEnd z3 k = mEnd m k ∧ mForm z3 k = mForm m k ∧ mBuckets z3 k = mBuckets m k ∧ mMadeAt z3 k = mMadeAt m k ∧ mSize z3 = mSize m ∧ mValues z3 = mValues m ∧ mBits z3 = mBits m := by rw [q3]; exact t2
    clear q3 b1 b2 b3 t2 n2 r2
    obtain ⟨t4, t5, t6, t7, t8, t9, t10, t11⟩ := t3
    rw [c1, upd_s, chk_r]
    refine ⟨z3, rfl, r3, mr_grp h hn t4 t5 t6 t7 ⟨by rw [t9]; exact hML.1, hML.2.1, fun i hi => by rw [t10, t11]; exact hML.2.2 i hi⟩ ⟨fun q hq => ?_, fun i hi => ?_⟩, t8⟩
    · rw [c1]
      by_cases e2 : q = g
      · subst e2; rw [upd_s, upN_s]
      · rw [upd_o (by omega), upN_o e2]; exact m1 q hq
    · rw [c2, c3]
      by_cases e2 : i = 40 * g + cP c g
      · subst e2; rw [upd_s, upd_s, upN_s]; exact ⟨rfl, rfl⟩
      · rw [upd_o (by omega), upd_o (by omega), upN_o e2]; exact m2 i hi
  · rw [if_pos (by rw [nI_eqE (by omega) (by omega)]; omega), if_neg e, if_neg e]
    exact ⟨m, rfl, Fr.refl k m, h, rfl⟩
theorem upN_id {α : Type} {f : Nat → α} {k : Nat} {v : α} (h : f k = v) : upN f k v = f := by
  funext j
  by_cases e : j = k
  · subst e; rw [upN_s, h]
  · exact upN_o e
theorem isIn_nI (x : Int32) (a b : Int32) : fX8_isIn x a b = some (if x < a ∨ b < x then 0 else 1) := by
  unfold fX8_isIn
  by_cases h1 : x < a
  · rw [if_pos h1, if_pos (Or.inl h1)]
  · by_cases h2 : b < x
    · rw [if_neg h1, if_pos h2, if_pos (Or.inr h2)]
    · rw [if_neg h1, if_neg h2, if_neg (by intro q; rcases q with q | q; exact h1 q; exact h2 q)]
theorem mod_ends {m : MSt} {k : Nat} {c : CK} {f : FK} {g : Nat} (hk : k < 16) (h : MR m k c f) (hc : okCK c) (hg : g < 3) (hT : cT c = 4) (e : Int32) :
    ∃ y, fX8_ends m (nI k) (nI g) e = some (y, dnA g e c) ∧ MoP k m y (dnC g e c) f false := by
  have hn : cT c ≠ 0 := by rw [hT]; decide
  have hML := h.ml hn
  obtain ⟨hG, h40⟩ := ok_grp hc hT
  obtain ⟨m1, m2⟩ := (h.2 hn).2.2.2.2 hT
  have hpl := hG.2.1 g hg
  -- nothing waits there
  have no : dnA g e c = 0 → dnC g e c = c → ∃ y, fX8_ends_32 m (nI k) (nI g) e = some (y, dnA g e c) ∧ MoP k m y (dnC g e c) f false := fun q1 q2 => by
    unfold fX8_ends_32 fX8_ends_33
    rw [if_pos rfl, q1, q2]
    exact ⟨m, rfl, Fr.refl k m, h, rfl⟩
  unfold fX8_ends
  rw [inb_nI hk (by omega), chk_r, nI_clamp (show k < 2 ^ 31 by omega), hML.1, isIn_nI, Option.bind_some]
  by_cases hin : e < 1 ∨ nI (cL c).length < e
  · rw [if_pos hin, if_pos rfl]
    cases he : eno e with
    | none => exact no (by unfold dnA; rw [he]) (by unfold dnC; rw [he])
    | some j =>
      obtain ⟨hj, rfl⟩ := eno_some he
      have hlj : (cL c).length < j + 1 := by
        rcases hin with q | q
        · rw [d1, nI_ltE (by omega) (by omega)] at q; omega
        · rwa [nI_ltE (by omega) (by omega)] at q
      have hw : cW c (40 * g + j) = none := Classical.byContradiction (fun q => by have := hG.2.2 g j hg hj q; omega)
      refine no (by unfold dnA; rw [he]; exact if_pos hw) ?_
      unfold dnC; rw [he]
      show (cT c, cE c, cL c, cP c, upN (cW c) (40 * g + j) none) = c
      rw [upN_id hw]; rfl
  · rw [if_neg hin, if_neg (by decide)]
    obtain ⟨j, hj, rfl⟩ : ∃ j, j < (cL c).length ∧ e = nI (j + 1) := by
      have q1 : ¬ e < 1 := fun q => hin (Or.inl q)
      have q2 : ¬ nI (cL c).length < e := fun q => hin (Or.inr q)
      obtain ⟨n, hn, rfl⟩ := nI_of (x := e) (fun q => q1 (Int32.lt_trans q (by decide)))
      rw [d1, nI_ltE hn (by omega)] at q1
      rw [nI_ltE (by omega) hn] at q2
      exact ⟨n - 1, by omega, by congr 1; omega⟩
    have he : eno (nI (j + 1)) = some j := by
      unfold eno
      rw [if_neg (by rw [d1, nI_ltE (by omega) (by omega)]; omega), if_neg (by rw [d40, nI_ltE (by omega) (by omega)]; omega), nI_clamp (by omega)]
      rfl
    have hi9 : inb (nI (120 * k + (40 * g + j))) 1920 = true := inb_nI (by omega) (by omega)
    have hc9 : (nI (120 * k + (40 * g + j))).toNatClampNeg = 120 * k + (40 * g + j) := nI_clamp (by omega)
    rw [spot_eq (by omega), Option.bind_some, show j + 1 - 1 = j by omega, hi9, chk_r, hc9]
    have hup := (mWS_up (m2 (40 * g + j) (by omega)) (fun t r q => (hG.1 _ t r q).1)).1
    by_cases hw : cW c (40 * g + j) = none
    · rw [if_pos (hup.mpr hw)]
      refine no (by unfold dnA; rw [he]; exact if_pos hw) ?_
      unfold dnC; rw [he]
      show (cT c, cE c, cL c, cP c, upN (cW c) (40 * g + j) none) = c
      rw [upN_id hw]; rfl
    · rw [if_neg (fun q => hw (hup.mp q))]
      unfold fX8_ends_33
      rw [if_neg (by decide), spot_eq (by omega), Option.bind_some, show j + 1 - 1 = j by omega, hi9, chk_r, hc9, keep_r, show isB 1 = true from rfl, chk_r]
      unfold dnA dnC
      rw [he]
      dsimp only
      rw [if_neg hw]
      refine ⟨_, rfl, fr_Waits _ (fun q hq => upd_o (by unfold in120 at hq; omega)), mr_grp h hn rfl rfl rfl rfl hML ⟨m1, fun i hi => ?_⟩, rfl⟩
      show mWS (upd (mWaits m) (120 * k + (40 * g + j)) 0 (120 * k + i)) (mSince m (120 * k + i)) _
      by_cases e2 : i = 40 * g + j
      · subst e2; rw [upd_s, upN_s]; exact rfl
      · rw [upd_o (by omega), upN_o e2]; exact m2 i hi
theorem mod_claims {m : MSt} {k : Nat} {c : CK} {f : FK} {g r ticks now : Nat} (hk : k < 16) (h : MR m k c f) (hc : okCK c) (hg : g < 3) (hr : r < 4) (ht : ticks ≤ 1000) (hT : cT c = 4) (hnow : mNow m = nI now) (hnow2 : now ≤ 1000000) :
    ∃ y, fX8_claims m (nI k) (nI g) (nI r) (nI ticks) = some (y, nI (mvn (cW c) g r ticks now 40)) ∧ MoP k m y (clC g r ticks now c) f false := by
  have hn : cT c ≠ 0 := by rw [hT]; decide
  have hML := h.ml hn
  obtain ⟨hG, h40⟩ := ok_grp hc hT
  obtain ⟨m1, m2⟩ := (h.2 hn).2.2.2.2 hT
  have key : Ok (fX8_claims m (nI k) (nI g) (nI r) (nI ticks)) (fun w => w.2 = nI (mvn (cW c) g r ticks now 40) ∧ MoP k m w.1 (clC g r ticks now c) f false) := by
    unfold fX8_claims
    rw [show (1 : Int32) = nI 1 from rfl, spot_eq (by omega), Option.bind_some]
    refine ok_iter (fun n s => ∃ i W S, n = 40 - i ∧ i ≤ 40 ∧ s = (mSince_s (mWaits_s m W) S, nI (mvn (cW c) g r ticks now i), nI (120 * k + (40 * g + i))) ∧ (∀ q, ¬ in120 k q → W q = mWaits m q ∧ S q = mSince m q) ∧ ∀ q, q < 120 → mWS (W (120 * k + q)) (S (120 * k + q)) (if q < 40 * g + i then mvw (cW c) g r ticks now q else cW c q)) _ ?_ FU 40 _ ⟨0, mWaits m, mSince m, rfl, by omega, rfl, fun _ _ => ⟨rfl, rfl⟩, fun q hq => ?_⟩ (by unfold FU; omega)
    · rintro n s rec ⟨i, W, S, hni, hi, rfl, hW1, hW2⟩ hrec
      have hi9 : i < 40 → inb (nI (120 * k + (40 * g + i))) 1920 = true := fun _ => inb_nI (by omega) (by omega)
      have hc9 : (nI (120 * k + (40 * g + i))).toNatClampNeg = 120 * k + (40 * g + i) := nI_clamp (by omega)
      unfold fX8_claims_11
      dsimp only
      rw [show (1 : Int32) = nI 1 from rfl, spot_eq (by omega), Option.bind_some, d40, nI_add, hc9]
      by_cases e1 : 40 ≤ i
      · have : i = 40 := by omega
        subst this
        rw [if_pos (nI_le (by omega) (by omega)), ok_some]
        refine ⟨rfl, (fr_Waits W (fun q hq => (hW1 q hq).1)).trans (fr_Since S (fun q hq => (hW1 q hq).2)), mr_grp h hn rfl rfl rfl rfl hML ⟨m1, fun q hq => ?_⟩, rfl⟩
        have := hW2 q hq
        by_cases e2 : q < 40 * g + 40
        · rw [if_pos e2] at this; exact this
        · rw [if_neg e2] at this
          unfold mvw
          rw [if_neg (by omega)]; exact this
      · have hil : i < 40 := by omega
        have hh := hW2 (40 * g + i) (by omega)
        rw [if_neg (by omega)] at hh
        obtain ⟨u1, u2⟩ := mWS_up hh (fun t r q => (hG.1 _ t r q).1)
        have skip : mvq r ticks now (cW c (40 * g + i)) = false → Ok (rec (mSince_s (mWaits_s m W) S, nI (mvn (cW c) g r ticks now i), nI (120 * k + (40 * g + i)) + nI 1)) (fun w => w.2 = nI (mvn (cW c) g r ticks now 40) ∧ MoP k m w.1 (clC g r ticks now c) f false) := fun q => by
          rw [nI_add]
          refine hrec (40 - (i + 1)) _ (by omega) ⟨i + 1, W, S, rfl, by omega, ?_, hW1, fun j hj => ?_⟩
          · rw [mvn_s, q]; rfl
          · by_cases e2 : j = 40 * g + i
            · subst e2
              rw [if_pos (by omega)]
              unfold mvw
              rw [q, if_neg (fun w => by simp at w)]; exact hh
            · have := hW2 j hj
              by_cases e3 : j < 40 * g + i
              · rw [if_pos e3] at this; rw [if_pos (by omega)]; exact this
              · rw [if_neg e3] at this; rw [if_neg (by omega)]; exact this
        rw [if_neg (nI_ge (by omega) (by omega)), hi9 hil, chk_r, show mWaits (mSince_s (mWaits_s m W) S) = W from rfl]
        by_cases w1 : cW c (40 * g + i) = none
        · rw [if_pos (u1.mpr w1), ok_keep]
          exact skip (by rw [w1]; rfl)
        · obtain ⟨⟨t, r'⟩, hs⟩ : ∃ q, cW c (40 * g + i) = some q := by
            cases q : cW c (40 * g + i) with
            | none => exact absurd q w1
            | some q2 => exact ⟨q2, rfl⟩
          rw [hs] at hh
          obtain ⟨hh1, hh2⟩ : W (120 * k + (40 * g + i)) = nI (r' + 1) ∧ S (120 * k + (40 * g + i)) = nI t := hh
          obtain ⟨hr', ht'⟩ := hG.1 _ t r' hs
          rw [if_neg (fun q => w1 (u1.mp q)), chk_r, nI_add]
          by_cases w2 : r' = r
          · rw [if_pos (by rw [hh1, w2]), ok_keep]
            exact skip (by rw [hs]; show (decide (r' ≠ r) && decide (ticks + t ≤ now)) = false; rw [decide_eq_false (fun q => q w2)]; rfl)
          · rw [if_neg (by rw [hh1, nI_eqE (by omega) (by omega)]; omega), chk_r, show mNow (mSince_s (mWaits_s m W) S) = mNow m from rfl, hnow, show mSince (mSince_s (mWaits_s m W) S) = S from rfl]
            by_cases w3 : nI now - S (120 * k + (40 * g + i)) < nI ticks
            · rw [if_pos w3, ok_keep]
              rw [hh2, Int32.lt_iff_toInt_lt, pk_sub_toInt (by omega) (by omega), nI_toInt (by omega)] at w3
              exact skip (by rw [hs]; show (decide (r' ≠ r) && decide (ticks + t ≤ now)) = false; rw [decide_eq_false (show ¬ ticks + t ≤ now by omega), Bool.and_false])
            · rw [if_neg w3, chk_r, ok_keep, chk_r, ok_keep, ok_keep, ok_keep]
              rw [hh2, Int32.lt_iff_toInt_lt, pk_sub_toInt (by omega) (by omega), nI_toInt (by omega)] at w3
              have hq : mvq r ticks now (cW c (40 * g + i)) = true := by
                rw [hs]; show (decide (r' ≠ r) && decide (ticks + t ≤ now)) = true
                rw [decide_eq_true (show ticks + t ≤ now by omega), decide_eq_true w2]; rfl
              rw [nI_add, nI_add]
              refine hrec (40 - (i + 1)) _ (by omega) ⟨i + 1, upd W (120 * k + (40 * g + i)) (nI (r + 1)), upd S (120 * k + (40 * g + i)) (nI now), rfl, by omega, ?_, fun q hq => ?_, fun j hj => ?_⟩
              · rw [mvn_s, hq, if_pos rfl]
                show (mSince_s (mWaits_s (mSince_s (mWaits_s m W) S) (upd W (120 * k + (40 * g + i)) (nI (r + 1)))) (upd S (120 * k + (40 * g + i)) (mNow m)), _, _) = _
                rw [hnow]; rfl
              · unfold in120 at hq
                rw [upd_o (by omega), upd_o (by omega)]; exact hW1 q (by unfold in120; omega)
              · by_cases e2 : j = 40 * g + i
                · subst e2
                  rw [upd_s, upd_s, if_pos (by omega)]
                  unfold mvw
                  rw [if_pos ⟨by omega, by omega, hq⟩]
                  exact ⟨rfl, rfl⟩
                · rw [upd_o (by omega), upd_o (by omega)]
                  have := hW2 j hj
                  by_cases e3 : j < 40 * g + i
                  · rw [if_pos e3] at this; rw [if_pos (by omega)]; exact this
                  · rw [if_neg e3] at this; rw [if_neg (by omega)]; exact this
    · have := m2 q hq
      by_cases e2 : q < 40 * g + 0
      · rw [if_pos e2]; unfold mvw; rw [if_neg (by omega)]; exact this
      · rw [if_neg e2]; exact this
  obtain ⟨⟨w, u⟩, k1, k2, k3⟩ := key
  dsimp only at k2 k3
  subst k2
  exact ⟨w, k1, k3⟩
